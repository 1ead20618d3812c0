set_option maxHeartbeats 400000 in
set_option maxRecDepth 100000 in
theorem c_X8_hint (l : Launch) (D : va_G) (cI cJ cB : ClassId) (o kv kp kx kl kh ki kf kq ka kt kd kn mpm mty mwi mhi mwa mle mam mli : Nat) (mgo : Option Nat) (mtm : Bool) (mpa : Nat → Int32) (mtx mlt mha mfi mqu mta mln mal : Nat → Nat) (mfa mdi : Nat → Option Nat) (wd hd nb wl : Nat) (st sl : Int32) (gl aq lb : Option Nat) (sh bw bh ps : Nat → Nat) (z : Bool) (htv : TV wd hd nb wl sh bw bh ps gl aq lb) : Met l yX8_hint (Cond.code yX8_hint cX8_hint 2 (some .int) :: lw_all) (rmN 6) (va_Pc [.ref o, .int (bI z)] (pB D (tyz cI cJ cB) (mW cI cJ cB o kv kp kx kl kh ki kf kq ka kt kd kn (nI mpm) (nI mty) (nI mwi) (nI mhi) (nI mwa) (nI mle) (gI mgo) (nI mam) (bI mtm) (nI mli) (vF wd hd nb wl st sl gl aq lb sh bw bh ps) mpa (fun zz => nI (mtx zz)) (fun zz => nI (mlt zz)) (fun zz => nI (mha zz)) (fun zz => nI (mfi zz)) (fun zz => oI (mfa zz)) (fun zz => nI (mqu zz)) (fun zz => lN (mal zz)) (fun zz => nI (mta zz)) (fun zz => oI (mdi zz)) (fun zz => nI (mln zz))))) (va_Qi (fun (r : Int32) (w : va_W) => ∃ go2 : Option Nat, ∃ K2 : Nat → Nat, ∃ n2 : Nat, ∃ T2 : Nat → Nat, ∃ tm2 : Bool, ∃ F2 : Nat → Option Nat, ∃ L2 : Nat → Nat, ∃ l2 : Nat, ∃ fa2 : Nat → Option Nat, ∃ qa2 : Nat → Nat, r = cHint (f_hintx wd hd nb wl sh bw bh ps gl aq z) ∧ w = mW cI cJ cB o kv kp kx kl kh ki kf kq ka kt kd kn (nI mpm) (nI mty) (nI mwi) (nI mhi) (nI mwa) (nI mle) (gI go2) (nI n2) (bI tm2) (nI l2) (vF wd hd nb wl st sl gl aq lb sh bw bh ps) mpa (fun zz => nI (mtx zz)) (fun zz => nI (mlt zz)) (fun zz => nI (mha zz)) (fun zz => nI (mfi zz)) (fun zz => oI (fa2 zz)) (fun zz => nI (qa2 zz)) (fun zz => lN (K2 zz)) (fun zz => nI (T2 zz)) (fun zz => oI (F2 zz)) (fun zz => nI (L2 zz))) (gB D (mW cI cJ cB o kv kp kx kl kh ki kf kq ka kt kd kn (nI mpm) (nI mty) (nI mwi) (nI mhi) (nI mwa) (nI mle) (gI mgo) (nI mam) (bI mtm) (nI mli) (vF wd hd nb wl st sl gl aq lb sh bw bh ps) mpa (fun zz => nI (mtx zz)) (fun zz => nI (mlt zz)) (fun zz => nI (mha zz)) (fun zz => nI (mfi zz)) (fun zz => oI (mfa zz)) (fun zz => nI (mqu zz)) (fun zz => lN (mal zz)) (fun zz => nI (mta zz)) (fun zz => oI (mdi zz)) (fun zz => nI (mln zz)))) (aW (mW cI cJ cB o kv kp kx kl kh ki kf kq ka kt kd kn (nI mpm) (nI mty) (nI mwi) (nI mhi) (nI mwa) (nI mle) (gI mgo) (nI mam) (bI mtm) (nI mli) (vF wd hd nb wl st sl gl aq lb sh bw bh ps) mpa (fun zz => nI (mtx zz)) (fun zz => nI (mlt zz)) (fun zz => nI (mha zz)) (fun zz => nI (mfi zz)) (fun zz => oI (mfa zz)) (fun zz => nI (mqu zz)) (fun zz => lN (mal zz)) (fun zz => nI (mta zz)) (fun zz => oI (mdi zz)) (fun zz => nI (mln zz))))) 0 0 (aW (mW cI cJ cB o kv kp kx kl kh ki kf kq ka kt kd kn (nI mpm) (nI mty) (nI mwi) (nI mhi) (nI mwa) (nI mle) (gI mgo) (nI mam) (bI mtm) (nI mli) (vF wd hd nb wl st sl gl aq lb sh bw bh ps) mpa (fun zz => nI (mtx zz)) (fun zz => nI (mlt zz)) (fun zz => nI (mha zz)) (fun zz => nI (mfi zz)) (fun zz => oI (mfa zz)) (fun zz => nI (mqu zz)) (fun zz => lN (mal zz)) (fun zz => nI (mta zz)) (fun zz => oI (mdi zz)) (fun zz => nI (mln zz)))) := by
  refine Met.ofW (cc := cX8_hint) (maxL := 2) (ret := (some .int)) (by decide) rfl ?_
  intro p e s m args below meth c s₁ B hml hv
  obtain ⟨rfl, hK, hN, hP, hD0⟩ := hv
  have hx := B.exec; have hb := B.bytes; have hr := B.returns; have hlocks := B.notSynchronized
  have hts0 := atoms_spec (ws := Cond.code yX8_hint cX8_hint 2 (some .int) :: lw_all) B.pre
  have hC : CallFix p m c cX8_hint 2 s _ lw_all RX8 := ⟨hx, hb, hml, findClass_of_methodNamed B.named, fun w h => hts0 w (List.mem_cons_of_mem _ h)⟩
  have hD : va_D (aW (mW cI cJ cB o kv kp kx kl kh ki kf kq ka kt kd kn (nI mpm) (nI mty) (nI mwi) (nI mhi) (nI mwa) (nI mle) (gI mgo) (nI mam) (bI mtm) (nI mli) (vF wd hd nb wl st sl gl aq lb sh bw bh ps) mpa (fun zz => nI (mtx zz)) (fun zz => nI (mlt zz)) (fun zz => nI (mha zz)) (fun zz => nI (mfi zz)) (fun zz => oI (mfa zz)) (fun zz => nI (mqu zz)) (fun zz => lN (mal zz)) (fun zz => nI (mta zz)) (fun zz => oI (mdi zz)) (fun zz => nI (mln zz)))) (mW cI cJ cB o kv kp kx kl kh ki kf kq ka kt kd kn (nI mpm) (nI mty) (nI mwi) (nI mhi) (nI mwa) (nI mle) (gI mgo) (nI mam) (bI mtm) (nI mli) (vF wd hd nb wl st sl gl aq lb sh bw bh ps) mpa (fun zz => nI (mtx zz)) (fun zz => nI (mlt zz)) (fun zz => nI (mha zz)) (fun zz => nI (mfi zz)) (fun zz => oI (mfa zz)) (fun zz => nI (mqu zz)) (fun zz => lN (mal zz)) (fun zz => nI (mta zz)) (fun zz => oI (mdi zz)) (fun zz => nI (mln zz))) := ⟨hD0.1, fun k q h => ⟨k, q.2, h⟩⟩
  generalize hAe : aW (mW cI cJ cB o kv kp kx kl kh ki kf kq ka kt kd kn (nI mpm) (nI mty) (nI mwi) (nI mhi) (nI mwa) (nI mle) (gI mgo) (nI mam) (bI mtm) (nI mli) (vF wd hd nb wl st sl gl aq lb sh bw bh ps) mpa (fun zz => nI (mtx zz)) (fun zz => nI (mlt zz)) (fun zz => nI (mha zz)) (fun zz => nI (mfi zz)) (fun zz => oI (mfa zz)) (fun zz => nI (mqu zz)) (fun zz => lN (mal zz)) (fun zz => nI (mta zz)) (fun zz => oI (mdi zz)) (fun zz => nI (mln zz))) = A at hD ⊢
  have hS : va_S A s.heap s.heap [] := va_S.rf
  have hl := lv_entry ([.ref o, .int (bI z)]) (n := 2) (Nat.le_of_ble_eq_true rfl)
  rw [lg_entry_eq]
  generalize (lg_sl ([.ref o, .int (bI z)]) ++ List.replicate (2 - (lg_sl ([.ref o, .int (bI z)])).length) Slot.unset).toArray = ls at hl ⊢
  have hl : lv_has ls 2 [(0, .ref o), (1, .int (bI z))] := hl
  generalize hav : ([.ref o, .int (bI z)] : List Value).toArray = args at hC ⊢
  refine W_gen (fun QQ hQ => ?_)
  show W p l e (rmN 6) s m args below meth c s.heap [] 0 0 QQ (F0 m 0 ls [])
  refine lv_aload_n hx hb dX8_hint_0 rfl (lv_at hl 0 rfl) ?_
  refine lv_iload_n hx hb dX8_hint_1 rfl (lv_at hl 1 rfl) ?_
  refine callV_i (As := [.int (bI z)]) (rest := []) [0, 1, 2, 3, 4, 5, 6, 7, 8, 9, 10, 11, 12] hC hK hN hP hD rfl (by decide) hS 0 (ci := 8) rfl rfl rfl (c_X8_hinted l D cI cJ cB o kv kp kx kl kh ki kf kq ka kt kd kn mpm mty mwi mhi mwa mle mam mli mgo mtm mpa mtx mlt mha mfi mqu mta mln mal mfa mdi wd hd nb wl st sl gl aq lb sh bw bh ps z htv) q924 md_X8_hinted rfl hl.1 rfl (Nat.le_of_ble_eq_true rfl) dX8_hint_2 ⟨Nat.le_of_ble_eq_true rfl, Nat.le_of_ble_eq_true rfl⟩ ⟨Nat.le_of_ble_eq_true rfl, Nat.le_of_ble_eq_true rfl⟩ (fun r_2 w H locs hpost hP hD hS => ?_)
  obtain ⟨go2_2, K2_2, n2_2, T2_2, tm2_2, F2_2, L2_2, l2_2, fa2_2, qa2_2, rfl, hhi⟩ := hpost
  have hP : va_P D vwCl (mW cI cJ cB o kv kp kx kl kh ki kf kq ka kt kd kn (nI mpm) (nI mty) (nI mwi) (nI mhi) (nI mwa) (nI mle) (gI go2_2) (nI n2_2) (bI tm2_2) (nI l2_2) (vF wd hd nb wl st sl gl aq lb sh bw bh ps) mpa (fun zz => nI (mtx zz)) (fun zz => nI (mlt zz)) (fun zz => nI (mha zz)) (fun zz => nI (mfi zz)) (fun zz => oI (fa2_2 zz)) (fun zz => nI (qa2_2 zz)) (fun zz => lN (K2_2 zz)) (fun zz => nI (T2_2 zz)) (fun zz => oI (F2_2 zz)) (fun zz => nI (L2_2 zz))) H := hP
  have hD : va_D A (mW cI cJ cB o kv kp kx kl kh ki kf kq ka kt kd kn (nI mpm) (nI mty) (nI mwi) (nI mhi) (nI mwa) (nI mle) (gI go2_2) (nI n2_2) (bI tm2_2) (nI l2_2) (vF wd hd nb wl st sl gl aq lb sh bw bh ps) mpa (fun zz => nI (mtx zz)) (fun zz => nI (mlt zz)) (fun zz => nI (mha zz)) (fun zz => nI (mfi zz)) (fun zz => oI (fa2_2 zz)) (fun zz => nI (qa2_2 zz)) (fun zz => lN (K2_2 zz)) (fun zz => nI (T2_2 zz)) (fun zz => oI (F2_2 zz)) (fun zz => nI (L2_2 zz))) := hD
  rw [hQ]
  exact W.iret (v := r_2) hx hb hr (fun t9 ht hW => ⟨⟨_, _, rfl, ⟨go2_2, K2_2, n2_2, T2_2, tm2_2, F2_2, L2_2, l2_2, fa2_2, qa2_2, hhi.1, rfl⟩, by rw [ht]; exact hP, rfl⟩, hS.F ht⟩) hS.2.2 dX8_hint_5

set_option maxHeartbeats 400000 in
set_option maxRecDepth 100000 in
theorem c_X8_follow (l : Launch) (D : va_G) (cI cJ cB : ClassId) (o kv kp kx kl kh ki kf kq ka kt kd kn mpm mty mwi mhi mwa mle mam mli : Nat) (mgo : Option Nat) (mtm : Bool) (mpa : Nat → Int32) (mtx mlt mha mfi mqu mta mln mal : Nat → Nat) (mfa mdi : Nat → Option Nat) (wd hd nb wl : Nat) (st sl : Int32) (gl aq lb : Option Nat) (sh bw bh ps : Nat → Nat) (hh : Nat → Nat → Int32) (z : Bool) (htv : TV wd hd nb wl sh bw bh ps gl aq lb) (hph : PH mpa mpm hh) : Met l yX8_follow (Cond.code yX8_follow cX8_follow 4 (some .int) :: lw_all) (rmN 6) (va_Pc [.ref o, .int (bI z)] (pB D (tyz cI cJ cB) (mW cI cJ cB o kv kp kx kl kh ki kf kq ka kt kd kn (nI mpm) (nI mty) (nI mwi) (nI mhi) (nI mwa) (nI mle) (gI mgo) (nI mam) (bI mtm) (nI mli) (vF wd hd nb wl st sl gl aq lb sh bw bh ps) mpa (fun zz => nI (mtx zz)) (fun zz => nI (mlt zz)) (fun zz => nI (mha zz)) (fun zz => nI (mfi zz)) (fun zz => oI (mfa zz)) (fun zz => nI (mqu zz)) (fun zz => lN (mal zz)) (fun zz => nI (mta zz)) (fun zz => oI (mdi zz)) (fun zz => nI (mln zz))))) (va_Qi (fun (r : Int32) (w : va_W) => ∃ go2 : Option Nat, ∃ K2 : Nat → Nat, ∃ n2 : Nat, ∃ T2 : Nat → Nat, ∃ tm2 : Bool, ∃ F2 : Nat → Option Nat, ∃ L2 : Nat → Nat, ∃ l2 : Nat, ∃ fa2 : Nat → Option Nat, ∃ qa2 : Nat → Nat, ∃ st2 : Int32, ∃ sl2 : Int32, ∃ lb2 : Option Nat, ∃ ps2 : Nat → Nat, ∃ pa2 : Nat → Int32, ∃ pm2 : Nat, ∃ h2 : Nat → Nat → Int32, r = f_folr wd hd nb wl sh bw bh ps gl aq z ∧ w = mW cI cJ cB o kv kp kx kl kh ki kf kq ka kt kd kn (nI pm2) (nI mty) (nI mwi) (nI mhi) (nI mwa) (nI mle) (gI go2) (nI n2) (bI tm2) (nI l2) (vF wd hd nb wl st2 sl2 gl aq lb2 sh bw bh ps2) pa2 (fun zz => nI (mtx zz)) (fun zz => nI (mlt zz)) (fun zz => nI (mha zz)) (fun zz => nI (mfi zz)) (fun zz => oI (fa2 zz)) (fun zz => nI (qa2 zz)) (fun zz => lN (K2 zz)) (fun zz => nI (T2 zz)) (fun zz => oI (F2 zz)) (fun zz => nI (L2 zz)) ∧ MVD (f_folm wd hd nb wl sh bw bh ps gl aq z) st sl lb ps st2 sl2 lb2 ps2 ∧ HIS (f_folm wd hd nb wl sh bw bh ps gl aq z).isSome (vF wd hd nb wl st sl gl aq lb sh bw bh ps) mpm hh pa2 pm2 h2) (gB D (mW cI cJ cB o kv kp kx kl kh ki kf kq ka kt kd kn (nI mpm) (nI mty) (nI mwi) (nI mhi) (nI mwa) (nI mle) (gI mgo) (nI mam) (bI mtm) (nI mli) (vF wd hd nb wl st sl gl aq lb sh bw bh ps) mpa (fun zz => nI (mtx zz)) (fun zz => nI (mlt zz)) (fun zz => nI (mha zz)) (fun zz => nI (mfi zz)) (fun zz => oI (mfa zz)) (fun zz => nI (mqu zz)) (fun zz => lN (mal zz)) (fun zz => nI (mta zz)) (fun zz => oI (mdi zz)) (fun zz => nI (mln zz)))) (aW (mW cI cJ cB o kv kp kx kl kh ki kf kq ka kt kd kn (nI mpm) (nI mty) (nI mwi) (nI mhi) (nI mwa) (nI mle) (gI mgo) (nI mam) (bI mtm) (nI mli) (vF wd hd nb wl st sl gl aq lb sh bw bh ps) mpa (fun zz => nI (mtx zz)) (fun zz => nI (mlt zz)) (fun zz => nI (mha zz)) (fun zz => nI (mfi zz)) (fun zz => oI (mfa zz)) (fun zz => nI (mqu zz)) (fun zz => lN (mal zz)) (fun zz => nI (mta zz)) (fun zz => oI (mdi zz)) (fun zz => nI (mln zz))))) 0 0 (aW (mW cI cJ cB o kv kp kx kl kh ki kf kq ka kt kd kn (nI mpm) (nI mty) (nI mwi) (nI mhi) (nI mwa) (nI mle) (gI mgo) (nI mam) (bI mtm) (nI mli) (vF wd hd nb wl st sl gl aq lb sh bw bh ps) mpa (fun zz => nI (mtx zz)) (fun zz => nI (mlt zz)) (fun zz => nI (mha zz)) (fun zz => nI (mfi zz)) (fun zz => oI (mfa zz)) (fun zz => nI (mqu zz)) (fun zz => lN (mal zz)) (fun zz => nI (mta zz)) (fun zz => oI (mdi zz)) (fun zz => nI (mln zz)))) := by
  refine Met.ofW (cc := cX8_follow) (maxL := 4) (ret := (some .int)) (by decide) rfl ?_
  intro p e s m args below meth c s₁ B hml hv
  obtain ⟨rfl, hK, hN, hP, hD0⟩ := hv
  have hx := B.exec; have hb := B.bytes; have hr := B.returns; have hlocks := B.notSynchronized
  have hts0 := atoms_spec (ws := Cond.code yX8_follow cX8_follow 4 (some .int) :: lw_all) B.pre
  have hC : CallFix p m c cX8_follow 4 s _ lw_all RX8 := ⟨hx, hb, hml, findClass_of_methodNamed B.named, fun w h => hts0 w (List.mem_cons_of_mem _ h)⟩
  have hD : va_D (aW (mW cI cJ cB o kv kp kx kl kh ki kf kq ka kt kd kn (nI mpm) (nI mty) (nI mwi) (nI mhi) (nI mwa) (nI mle) (gI mgo) (nI mam) (bI mtm) (nI mli) (vF wd hd nb wl st sl gl aq lb sh bw bh ps) mpa (fun zz => nI (mtx zz)) (fun zz => nI (mlt zz)) (fun zz => nI (mha zz)) (fun zz => nI (mfi zz)) (fun zz => oI (mfa zz)) (fun zz => nI (mqu zz)) (fun zz => lN (mal zz)) (fun zz => nI (mta zz)) (fun zz => oI (mdi zz)) (fun zz => nI (mln zz)))) (mW cI cJ cB o kv kp kx kl kh ki kf kq ka kt kd kn (nI mpm) (nI mty) (nI mwi) (nI mhi) (nI mwa) (nI mle) (gI mgo) (nI mam) (bI mtm) (nI mli) (vF wd hd nb wl st sl gl aq lb sh bw bh ps) mpa (fun zz => nI (mtx zz)) (fun zz => nI (mlt zz)) (fun zz => nI (mha zz)) (fun zz => nI (mfi zz)) (fun zz => oI (mfa zz)) (fun zz => nI (mqu zz)) (fun zz => lN (mal zz)) (fun zz => nI (mta zz)) (fun zz => oI (mdi zz)) (fun zz => nI (mln zz))) := ⟨hD0.1, fun k q h => ⟨k, q.2, h⟩⟩
  generalize hAe : aW (mW cI cJ cB o kv kp kx kl kh ki kf kq ka kt kd kn (nI mpm) (nI mty) (nI mwi) (nI mhi) (nI mwa) (nI mle) (gI mgo) (nI mam) (bI mtm) (nI mli) (vF wd hd nb wl st sl gl aq lb sh bw bh ps) mpa (fun zz => nI (mtx zz)) (fun zz => nI (mlt zz)) (fun zz => nI (mha zz)) (fun zz => nI (mfi zz)) (fun zz => oI (mfa zz)) (fun zz => nI (mqu zz)) (fun zz => lN (mal zz)) (fun zz => nI (mta zz)) (fun zz => oI (mdi zz)) (fun zz => nI (mln zz))) = A at hD ⊢
  have hS : va_S A s.heap s.heap [] := va_S.rf
  have hl := lv_entry ([.ref o, .int (bI z)]) (n := 4) (Nat.le_of_ble_eq_true rfl)
  rw [lg_entry_eq]
  generalize (lg_sl ([.ref o, .int (bI z)]) ++ List.replicate (4 - (lg_sl ([.ref o, .int (bI z)])).length) Slot.unset).toArray = ls at hl ⊢
  have hl : lv_has ls 4 [(0, .ref o), (1, .int (bI z))] := hl
  generalize hav : ([.ref o, .int (bI z)] : List Value).toArray = args at hC ⊢
  refine W_gen (fun QQ hQ => ?_)
  show W p l e (rmN 6) s m args below meth c s.heap [] 0 0 QQ (F0 m 0 ls [])
  obtain ⟨hf, hps, hk1, hga, hlb⟩ := id htv
  have hn7 := hf.2.2.2.2.2.1
  have h24 := hf.2.2.2.2.1
  refine lv_aload_n hx hb dX8_follow_0 rfl (lv_at hl 0 rfl) ?_
  refine lv_iload_n hx hb dX8_follow_1 rfl (lv_at hl 1 rfl) ?_
  refine callV_i (As := [.int (bI z)]) (rest := []) [0, 1, 2, 3, 4, 5, 6, 7, 8, 9, 10, 11, 12] hC hK hN hP hD rfl (by decide) hS 0 (ci := 8) rfl rfl rfl (c_X8_hinted l D cI cJ cB o kv kp kx kl kh ki kf kq ka kt kd kn mpm mty mwi mhi mwa mle mam mli mgo mtm mpa mtx mlt mha mfi mqu mta mln mal mfa mdi wd hd nb wl st sl gl aq lb sh bw bh ps z htv) q924 md_X8_hinted rfl hl.1 rfl (Nat.le_of_ble_eq_true rfl) dX8_follow_2 ⟨Nat.le_of_ble_eq_true rfl, Nat.le_of_ble_eq_true rfl⟩ ⟨Nat.le_of_ble_eq_true rfl, Nat.le_of_ble_eq_true rfl⟩ (fun r_2 w H locs hpost hP hD hS => ?_)
  obtain ⟨go2_2, K2_2, n2_2, T2_2, tm2_2, F2_2, L2_2, l2_2, fa2_2, qa2_2, rfl, hhi⟩ := hpost
  have hP : va_P D vwCl (mW cI cJ cB o kv kp kx kl kh ki kf kq ka kt kd kn (nI mpm) (nI mty) (nI mwi) (nI mhi) (nI mwa) (nI mle) (gI go2_2) (nI n2_2) (bI tm2_2) (nI l2_2) (vF wd hd nb wl st sl gl aq lb sh bw bh ps) mpa (fun zz => nI (mtx zz)) (fun zz => nI (mlt zz)) (fun zz => nI (mha zz)) (fun zz => nI (mfi zz)) (fun zz => oI (fa2_2 zz)) (fun zz => nI (qa2_2 zz)) (fun zz => lN (K2_2 zz)) (fun zz => nI (T2_2 zz)) (fun zz => oI (F2_2 zz)) (fun zz => nI (L2_2 zz))) H := hP
  have hD : va_D A (mW cI cJ cB o kv kp kx kl kh ki kf kq ka kt kd kn (nI mpm) (nI mty) (nI mwi) (nI mhi) (nI mwa) (nI mle) (gI go2_2) (nI n2_2) (bI tm2_2) (nI l2_2) (vF wd hd nb wl st sl gl aq lb sh bw bh ps) mpa (fun zz => nI (mtx zz)) (fun zz => nI (mlt zz)) (fun zz => nI (mha zz)) (fun zz => nI (mfi zz)) (fun zz => oI (fa2_2 zz)) (fun zz => nI (qa2_2 zz)) (fun zz => lN (K2_2 zz)) (fun zz => nI (T2_2 zz)) (fun zz => oI (F2_2 zz)) (fun zz => nI (L2_2 zz))) := hD
  refine lv_istore_n (lv' := [(2, .int r_2), (0, .ref o), (1, .int (bI z))]) hx hb dX8_follow_5 rfl hl (by decide) rfl (fun ls hl => ?_)
  refine lv_iload_n hx hb dX8_follow_6 rfl (lv_at hl 0 rfl) ?_
  refine lv_if_ge (tgt := 13) hx hb dX8_follow_7 (by decide) (fun c7 => ?_) (fun c7 => ?_)
  · have _ : True := trivial
    obtain ⟨b, q, hbq, hbn, hq9, hmv, hfa, hd24, e, he2, he3, he4⟩ := fol_some hhi (Int32.not_lt.mpr c7)
    obtain ⟨d, hd9⟩ := isMv_in hmv
    have hr9 : r_2 = nI (100 * b + q) := by rw [hhi.1, hbq]; rfl
    subst hr9
    have hm0 : f_folm wd hd nb wl sh bw bh ps gl aq z = some (b, q, d, z) := by unfold f_folm; rw [hbq]; show some (b, q, (flo wd hd nb wl sh bw bh none (pkey ps nb) b q).getD 0, z) = _; rw [← hfa, hd9]; rfl
    refine lv_aload_n hx hb dX8_follow_13 rfl (lv_at hl 1 rfl) ?_
    refine gf_X8_45 hC hK hP 0 rfl rfl dX8_follow_14 ?_
    refine lv_iconst (v := nI 0) hx hb dX8_follow_17 (by decide) ?_
    refine n_iald hx hb hK hP 11 0 rfl rfl (by omega) (by decide) dX8_follow_18 ?_
    refine topi (y := nI (e + 1)) (by rw [he3]; rfl) ?_
    refine lv_iconst (v := nI 1) hx hb dX8_follow_19 (by decide) ?_
    refine n_isub hx hb dX8_follow_20 (by omega) ?_
    refine topi (y := nI e) (by rw [Nat.add_sub_cancel]) ?_
    refine lv_istore_n (lv' := [(3, .int (nI e)), (2, .int (nI (100 * b + q))), (0, .ref o), (1, .int (bI z))]) hx hb dX8_follow_21 rfl hl (by decide) rfl (fun ls hl => ?_)
    refine lv_aload_n hx hb dX8_follow_22 rfl (lv_at hl 2 rfl) ?_
    refine callV_v (As := []) (rest := []) [0, 1, 2, 3, 4, 5, 6, 7, 8, 9, 10, 11, 12] hC hK hN hP hD rfl (by decide) hS 0 (ci := 8) rfl rfl rfl (c_X8_act l D cI cJ cB o kv kp kx kl kh ki kf kq ka kt kd kn mpm mty mwi mhi mwa mle n2_2 l2_2 go2_2 tm2_2 mpa mtx mlt mha mfi qa2_2 T2_2 L2_2 K2_2 fa2_2 F2_2 (vF wd hd nb wl st sl gl aq lb sh bw bh ps) hh hph) q780 md_X8_act rfl hl.1 rfl (Nat.le_of_ble_eq_true rfl) dX8_follow_23 ⟨Nat.le_of_ble_eq_true rfl, Nat.le_of_ble_eq_true rfl⟩ ⟨Nat.le_of_ble_eq_true rfl, Nat.le_of_ble_eq_true rfl⟩ (fun w H locs hpost hP hD hS => ?_)
    obtain ⟨pa2_23, rfl, hph2⟩ := hpost
    have hP : va_P D vwCl (mW cI cJ cB o kv kp kx kl kh ki kf kq ka kt kd kn (nI (hcnt mpm)) (nI mty) (nI mwi) (nI mhi) (nI mwa) (nI mle) (gI go2_2) (nI n2_2) (bI tm2_2) (nI l2_2) (vF wd hd nb wl st sl gl aq lb sh bw bh ps) pa2_23 (fun zz => nI (mtx zz)) (fun zz => nI (mlt zz)) (fun zz => nI (mha zz)) (fun zz => nI (mfi zz)) (fun zz => oI (fa2_2 zz)) (fun zz => nI (qa2_2 zz)) (fun zz => lN (K2_2 zz)) (fun zz => nI (T2_2 zz)) (fun zz => oI (F2_2 zz)) (fun zz => nI (L2_2 zz))) H := hP
    have hD : va_D A (mW cI cJ cB o kv kp kx kl kh ki kf kq ka kt kd kn (nI (hcnt mpm)) (nI mty) (nI mwi) (nI mhi) (nI mwa) (nI mle) (gI go2_2) (nI n2_2) (bI tm2_2) (nI l2_2) (vF wd hd nb wl st sl gl aq lb sh bw bh ps) pa2_23 (fun zz => nI (mtx zz)) (fun zz => nI (mlt zz)) (fun zz => nI (mha zz)) (fun zz => nI (mfi zz)) (fun zz => oI (fa2_2 zz)) (fun zz => nI (qa2_2 zz)) (fun zz => lN (K2_2 zz)) (fun zz => nI (T2_2 zz)) (fun zz => oI (F2_2 zz)) (fun zz => nI (L2_2 zz))) := hD
    refine lv_aload_n hx hb dX8_follow_26 rfl (lv_at hl 2 rfl) ?_
    refine lv_iload_n hx hb dX8_follow_27 rfl (lv_at hl 1 rfl) ?_
    refine lv_bipush (v := nI 100) hx hb dX8_follow_28 (by decide) ?_
    refine n_idiv hx hb dX8_follow_30 (by omega) (by omega) (by omega) ?_
    refine topi (y := nI b) (by congr 1; omega) ?_
    refine lv_iload_n hx hb dX8_follow_31 rfl (lv_at hl 1 rfl) ?_
    refine lv_bipush (v := nI 100) hx hb dX8_follow_32 (by decide) ?_
    refine n_irem hx hb dX8_follow_34 (by omega) (by omega) (by omega) ?_
    refine topi (y := nI q) (by congr 1; omega) ?_
    refine lv_aload_n hx hb dX8_follow_35 rfl (lv_at hl 2 rfl) ?_
    refine gf_X8_32 hC hK hP 0 rfl rfl dX8_follow_36 ?_
    refine lv_iload_n hx hb dX8_follow_39 rfl (lv_at hl 1 rfl) ?_
    refine lv_bipush (v := nI 100) hx hb dX8_follow_40 (by decide) ?_
    refine n_irem hx hb dX8_follow_42 (by omega) (by omega) (by omega) ?_
    refine topi (y := nI q) (by congr 1; omega) ?_
    refine n_iald hx hb hK hP 7 0 rfl rfl (by omega) (by decide) dX8_follow_43 ?_
    refine topi (y := nI d) (by rw [hd9]; rfl) ?_
    refine lv_iload_n hx hb dX8_follow_44 rfl (lv_at hl 3 rfl) ?_
    refine callV_v (As := [.int (nI b), .int (nI q), .int (nI d), .int (bI z)]) (rest := []) [0, 1, 2, 3, 4, 5, 6, 7, 8, 9, 10, 11, 12] hC hK hN hP hD rfl (by decide) hS 0 (ci := 8) rfl rfl rfl (c_X8_moves l D cI cJ cB o kv kp kx kl kh ki kf kq ka kt kd kn (hcnt mpm) mty mwi mhi mwa mle n2_2 l2_2 go2_2 tm2_2 pa2_23 mtx mlt mha mfi qa2_2 T2_2 L2_2 K2_2 fa2_2 F2_2 wd hd nb wl st sl gl aq lb sh bw bh ps b q d z (by omega) (fun d h => by have := hlb d h; omega)) q855 md_X8_moves rfl hl.1 rfl (Nat.le_of_ble_eq_true rfl) dX8_follow_45 ⟨Nat.le_of_ble_eq_true rfl, Nat.le_of_ble_eq_true rfl⟩ ⟨Nat.le_of_ble_eq_true rfl, Nat.le_of_ble_eq_true rfl⟩ (fun w H locs hpost hP hD hS => ?_)
    obtain rfl := hpost
    have hP : va_P D vwCl (mW cI cJ cB o kv kp kx kl kh ki kf kq ka kt kd kn (nI (hcnt mpm)) (nI mty) (nI mwi) (nI mhi) (nI mwa) (nI mle) (gI go2_2) (nI n2_2) (bI tm2_2) (nI l2_2) (vF wd hd nb wl (st + nI d) (mvsl sl z lb b) gl aq (some b) sh bw bh (va_up ps b q)) pa2_23 (fun zz => nI (mtx zz)) (fun zz => nI (mlt zz)) (fun zz => nI (mha zz)) (fun zz => nI (mfi zz)) (fun zz => oI (fa2_2 zz)) (fun zz => nI (qa2_2 zz)) (fun zz => lN (K2_2 zz)) (fun zz => nI (T2_2 zz)) (fun zz => oI (F2_2 zz)) (fun zz => nI (L2_2 zz))) H := hP
    have hD : va_D A (mW cI cJ cB o kv kp kx kl kh ki kf kq ka kt kd kn (nI (hcnt mpm)) (nI mty) (nI mwi) (nI mhi) (nI mwa) (nI mle) (gI go2_2) (nI n2_2) (bI tm2_2) (nI l2_2) (vF wd hd nb wl (st + nI d) (mvsl sl z lb b) gl aq (some b) sh bw bh (va_up ps b q)) pa2_23 (fun zz => nI (mtx zz)) (fun zz => nI (mlt zz)) (fun zz => nI (mha zz)) (fun zz => nI (mfi zz)) (fun zz => oI (fa2_2 zz)) (fun zz => nI (qa2_2 zz)) (fun zz => lN (K2_2 zz)) (fun zz => nI (T2_2 zz)) (fun zz => oI (F2_2 zz)) (fun zz => nI (L2_2 zz))) := hD
    refine lv_iload_n hx hb dX8_follow_48 rfl (lv_at hl 0 rfl) ?_
    rw [hQ]
    exact W.iret (v := nI e) hx hb hr (fun t9 ht hW => ⟨⟨_, _, rfl, ⟨go2_2, K2_2, n2_2, T2_2, tm2_2, F2_2, L2_2, l2_2, fa2_2, qa2_2, (st + nI d), (mvsl sl z lb b), (some b), (va_up ps b q), pa2_23, hcnt mpm, hpush hh mpm (vF wd hd nb wl st sl gl aq lb sh bw bh ps), (by unfold f_folr; rw [hbq]; show nI e = f_dist _ _ _ _ _ - nI 1; rw [he4, pk_sub (by omega)]; rfl), rfl, (by rw [hm0]; exact ⟨rfl, rfl, rfl, rfl⟩), (by rw [hm0]; exact HIS_yes hph2)⟩, by rw [ht]; exact hP, rfl⟩, hS.F ht⟩) hS.2.2 dX8_follow_49
  · have _ : True := trivial
    have hm0 : f_folm wd hd nb wl sh bw bh ps gl aq z = none := fol_none hhi hn7 h24 (Int32.not_le.mp c7)
    refine lv_bipush (v := (-2)) hx hb dX8_follow_10 (by decide) ?_
    rw [hQ]
    exact W.iret (v := (-2)) hx hb hr (fun t9 ht hW => ⟨⟨_, _, rfl, ⟨go2_2, K2_2, n2_2, T2_2, tm2_2, F2_2, L2_2, l2_2, fa2_2, qa2_2, st, sl, lb, ps, mpa, mpm, hh, (fol_r hm0), rfl, (by rw [hm0]; exact ⟨rfl, rfl, rfl, rfl⟩), (by rw [hm0]; exact HIS_no hph)⟩, by rw [ht]; exact hP, rfl⟩, hS.F ht⟩) hS.2.2 dX8_follow_12

set_option maxHeartbeats 400000 in
set_option maxRecDepth 100000 in
theorem c_X8_hardest (l : Launch) (D : va_G) (cI cJ cB : ClassId) (o kv kp kx kl kh ki kf kq ka kt kd kn mpm mty mwi mhi mwa mle mam mli : Nat) (mgo : Option Nat) (mtm : Bool) (mpa : Nat → Int32) (mtx mlt mha mfi mqu mta mln mal : Nat → Nat) (mfa mdi : Nat → Option Nat) (wd hd nb wl : Nat) (st sl : Int32) (gl aq lb : Option Nat) (sh bw bh ps : Nat → Nat) (hh : Nat → Nat → Int32) (z : Bool) (htv : TV wd hd nb wl sh bw bh ps gl aq lb) (hph : PH mpa mpm hh) : Met l yX8_hardest (Cond.code yX8_hardest cX8_hardest 5 (some .int) :: lw_all) (rmN 5) (va_Pc [.ref o, .int (bI z)] (pB D (tyz cI cJ cB) (mW cI cJ cB o kv kp kx kl kh ki kf kq ka kt kd kn (nI mpm) (nI mty) (nI mwi) (nI mhi) (nI mwa) (nI mle) (gI mgo) (nI mam) (bI mtm) (nI mli) (vF wd hd nb wl st sl gl aq lb sh bw bh ps) mpa (fun zz => nI (mtx zz)) (fun zz => nI (mlt zz)) (fun zz => nI (mha zz)) (fun zz => nI (mfi zz)) (fun zz => oI (mfa zz)) (fun zz => nI (mqu zz)) (fun zz => lN (mal zz)) (fun zz => nI (mta zz)) (fun zz => oI (mdi zz)) (fun zz => nI (mln zz))))) (va_Qi (fun (r : Int32) (w : va_W) => ∃ go2 : Option Nat, ∃ K2 : Nat → Nat, ∃ n2 : Nat, ∃ T2 : Nat → Nat, ∃ tm2 : Bool, ∃ F2 : Nat → Option Nat, ∃ L2 : Nat → Nat, ∃ l2 : Nat, ∃ fa2 : Nat → Option Nat, ∃ qa2 : Nat → Nat, ∃ st2 : Int32, ∃ sl2 : Int32, ∃ lb2 : Option Nat, ∃ ps2 : Nat → Nat, ∃ pa2 : Nat → Int32, ∃ pm2 : Nat, ∃ h2 : Nat → Nat → Int32, r = f_hardr wd hd nb wl sh bw bh ps gl aq z ∧ w = mW cI cJ cB o kv kp kx kl kh ki kf kq ka kt kd kn (nI pm2) (nI mty) (nI mwi) (nI mhi) (nI mwa) (nI mle) (gI go2) (nI n2) (bI tm2) (nI l2) (vF wd hd nb wl st2 sl2 gl aq lb2 sh bw bh ps2) pa2 (fun zz => nI (mtx zz)) (fun zz => nI (mlt zz)) (fun zz => nI (mha zz)) (fun zz => nI (mfi zz)) (fun zz => oI (fa2 zz)) (fun zz => nI (qa2 zz)) (fun zz => lN (K2 zz)) (fun zz => nI (T2 zz)) (fun zz => oI (F2 zz)) (fun zz => nI (L2 zz)) ∧ HRD nb (f_hardx wd hd nb wl sh bw bh ps gl aq z) st sl lb ps st2 sl2 lb2 ps2 ∧ HIS (f_hardx wd hd nb wl sh bw bh ps gl aq z).isSome (vF wd hd nb wl st sl gl aq lb sh bw bh ps) mpm hh pa2 pm2 h2) (gB D (mW cI cJ cB o kv kp kx kl kh ki kf kq ka kt kd kn (nI mpm) (nI mty) (nI mwi) (nI mhi) (nI mwa) (nI mle) (gI mgo) (nI mam) (bI mtm) (nI mli) (vF wd hd nb wl st sl gl aq lb sh bw bh ps) mpa (fun zz => nI (mtx zz)) (fun zz => nI (mlt zz)) (fun zz => nI (mha zz)) (fun zz => nI (mfi zz)) (fun zz => oI (mfa zz)) (fun zz => nI (mqu zz)) (fun zz => lN (mal zz)) (fun zz => nI (mta zz)) (fun zz => oI (mdi zz)) (fun zz => nI (mln zz)))) (aW (mW cI cJ cB o kv kp kx kl kh ki kf kq ka kt kd kn (nI mpm) (nI mty) (nI mwi) (nI mhi) (nI mwa) (nI mle) (gI mgo) (nI mam) (bI mtm) (nI mli) (vF wd hd nb wl st sl gl aq lb sh bw bh ps) mpa (fun zz => nI (mtx zz)) (fun zz => nI (mlt zz)) (fun zz => nI (mha zz)) (fun zz => nI (mfi zz)) (fun zz => oI (mfa zz)) (fun zz => nI (mqu zz)) (fun zz => lN (mal zz)) (fun zz => nI (mta zz)) (fun zz => oI (mdi zz)) (fun zz => nI (mln zz))))) 0 0 (aW (mW cI cJ cB o kv kp kx kl kh ki kf kq ka kt kd kn (nI mpm) (nI mty) (nI mwi) (nI mhi) (nI mwa) (nI mle) (gI mgo) (nI mam) (bI mtm) (nI mli) (vF wd hd nb wl st sl gl aq lb sh bw bh ps) mpa (fun zz => nI (mtx zz)) (fun zz => nI (mlt zz)) (fun zz => nI (mha zz)) (fun zz => nI (mfi zz)) (fun zz => oI (mfa zz)) (fun zz => nI (mqu zz)) (fun zz => lN (mal zz)) (fun zz => nI (mta zz)) (fun zz => oI (mdi zz)) (fun zz => nI (mln zz)))) := by
  refine Met.ofW (cc := cX8_hardest) (maxL := 5) (ret := (some .int)) (by decide) rfl ?_
  intro p e s m args below meth c s₁ B hml hv
  obtain ⟨rfl, hK, hN, hP, hD0⟩ := hv
  have hx := B.exec; have hb := B.bytes; have hr := B.returns; have hlocks := B.notSynchronized
  have hts0 := atoms_spec (ws := Cond.code yX8_hardest cX8_hardest 5 (some .int) :: lw_all) B.pre
  have hC : CallFix p m c cX8_hardest 5 s _ lw_all RX8 := ⟨hx, hb, hml, findClass_of_methodNamed B.named, fun w h => hts0 w (List.mem_cons_of_mem _ h)⟩
  have hD : va_D (aW (mW cI cJ cB o kv kp kx kl kh ki kf kq ka kt kd kn (nI mpm) (nI mty) (nI mwi) (nI mhi) (nI mwa) (nI mle) (gI mgo) (nI mam) (bI mtm) (nI mli) (vF wd hd nb wl st sl gl aq lb sh bw bh ps) mpa (fun zz => nI (mtx zz)) (fun zz => nI (mlt zz)) (fun zz => nI (mha zz)) (fun zz => nI (mfi zz)) (fun zz => oI (mfa zz)) (fun zz => nI (mqu zz)) (fun zz => lN (mal zz)) (fun zz => nI (mta zz)) (fun zz => oI (mdi zz)) (fun zz => nI (mln zz)))) (mW cI cJ cB o kv kp kx kl kh ki kf kq ka kt kd kn (nI mpm) (nI mty) (nI mwi) (nI mhi) (nI mwa) (nI mle) (gI mgo) (nI mam) (bI mtm) (nI mli) (vF wd hd nb wl st sl gl aq lb sh bw bh ps) mpa (fun zz => nI (mtx zz)) (fun zz => nI (mlt zz)) (fun zz => nI (mha zz)) (fun zz => nI (mfi zz)) (fun zz => oI (mfa zz)) (fun zz => nI (mqu zz)) (fun zz => lN (mal zz)) (fun zz => nI (mta zz)) (fun zz => oI (mdi zz)) (fun zz => nI (mln zz))) := ⟨hD0.1, fun k q h => ⟨k, q.2, h⟩⟩
  generalize hAe : aW (mW cI cJ cB o kv kp kx kl kh ki kf kq ka kt kd kn (nI mpm) (nI mty) (nI mwi) (nI mhi) (nI mwa) (nI mle) (gI mgo) (nI mam) (bI mtm) (nI mli) (vF wd hd nb wl st sl gl aq lb sh bw bh ps) mpa (fun zz => nI (mtx zz)) (fun zz => nI (mlt zz)) (fun zz => nI (mha zz)) (fun zz => nI (mfi zz)) (fun zz => oI (mfa zz)) (fun zz => nI (mqu zz)) (fun zz => lN (mal zz)) (fun zz => nI (mta zz)) (fun zz => oI (mdi zz)) (fun zz => nI (mln zz))) = A at hD ⊢
  have hS : va_S A s.heap s.heap [] := va_S.rf
  have hl := lv_entry ([.ref o, .int (bI z)]) (n := 5) (Nat.le_of_ble_eq_true rfl)
  rw [lg_entry_eq]
  generalize (lg_sl ([.ref o, .int (bI z)]) ++ List.replicate (5 - (lg_sl ([.ref o, .int (bI z)])).length) Slot.unset).toArray = ls at hl ⊢
  have hl : lv_has ls 5 [(0, .ref o), (1, .int (bI z))] := hl
  generalize hav : ([.ref o, .int (bI z)] : List Value).toArray = args at hC ⊢
  refine W_gen (fun QQ hQ => ?_)
  show W p l e (rmN 5) s m args below meth c s.heap [] 0 0 QQ (F0 m 0 ls [])
  obtain ⟨hf, hps, hk1, hga, hlb⟩ := id htv
  have hn7 := hf.2.2.2.2.2.1
  have h24 := hf.2.2.2.2.1
  refine lv_aload_n hx hb dX8_hardest_0 rfl (lv_at hl 0 rfl) ?_
  refine lv_iload_n hx hb dX8_hardest_1 rfl (lv_at hl 1 rfl) ?_
  refine lv_bipush (v := (-9)) hx hb dX8_hardest_2 (by decide) ?_
  refine callV_i (As := [.int (bI z), .int (-9)]) (rest := []) [0, 1, 2, 3, 4, 5, 6, 7, 8, 9, 10, 11, 12] hC hK hN hP hD rfl (by decide) hS 0 (ci := 8) rfl rfl rfl (c_X8_opens l D cI cJ cB o kv kp kx kl kh ki kf kq ka kt kd kn mpm mty mwi mhi mwa mle mam mli mgo mtm mpa mtx mlt mha mfi mqu mta mln mal mfa mdi wd hd nb wl st sl gl aq lb sh bw bh ps z none htv (fun d h => by cases h) (fun d _ h => by cases h) hk1) q904 md_X8_opens rfl hl.1 rfl (Nat.le_of_ble_eq_true rfl) dX8_hardest_4 ⟨Nat.le_of_ble_eq_true rfl, Nat.le_of_ble_eq_true rfl⟩ ⟨Nat.le_of_ble_eq_true rfl, Nat.le_of_ble_eq_true rfl⟩ (fun r_4 w H locs hpost hP hD hS => ?_)
  obtain ⟨go2_4, K2_4, n2_4, T2_4, tm2_4, F2_4, L2_4, l2_4, fa2_4, qa2_4, rfl, hop, h4_og⟩ := hpost
  have hP : va_P D vwCl (mW cI cJ cB o kv kp kx kl kh ki kf kq ka kt kd kn (nI mpm) (nI mty) (nI mwi) (nI mhi) (nI mwa) (nI mle) (gI go2_4) (nI n2_4) (bI tm2_4) (nI l2_4) (vF wd hd nb wl st sl gl aq lb sh bw bh ps) mpa (fun zz => nI (mtx zz)) (fun zz => nI (mlt zz)) (fun zz => nI (mha zz)) (fun zz => nI (mfi zz)) (fun zz => oI (fa2_4 zz)) (fun zz => nI (qa2_4 zz)) (fun zz => lN (K2_4 zz)) (fun zz => nI (T2_4 zz)) (fun zz => oI (F2_4 zz)) (fun zz => nI (L2_4 zz))) H := hP
  have hD : va_D A (mW cI cJ cB o kv kp kx kl kh ki kf kq ka kt kd kn (nI mpm) (nI mty) (nI mwi) (nI mhi) (nI mwa) (nI mle) (gI go2_4) (nI n2_4) (bI tm2_4) (nI l2_4) (vF wd hd nb wl st sl gl aq lb sh bw bh ps) mpa (fun zz => nI (mtx zz)) (fun zz => nI (mlt zz)) (fun zz => nI (mha zz)) (fun zz => nI (mfi zz)) (fun zz => oI (fa2_4 zz)) (fun zz => nI (qa2_4 zz)) (fun zz => lN (K2_4 zz)) (fun zz => nI (T2_4 zz)) (fun zz => oI (F2_4 zz)) (fun zz => nI (L2_4 zz))) := hD
  refine lv_if_eq (tgt := 13) hx hb dX8_hardest_7 (by decide) (fun c7 => ?_) (fun c7 => ?_)
  · have _ : True := trivial
    have hog := OPN_good hf hk1 hop c7
    obtain ⟨g, ap, hgl, haq, b1, b2, b3, b4, b5, b6, b7, b8, b9, b10⟩ := id hog
    refine lv_aload_n hx hb dX8_hardest_13 rfl (lv_at hl 0 rfl) ?_
    refine callV_v (As := []) (rest := []) [0, 1, 2, 3, 4, 5, 6, 7, 8, 9, 10, 11, 12] hC hK hN hP hD rfl (by decide) hS 0 (ci := 8) rfl rfl rfl (c_X8_act l D cI cJ cB o kv kp kx kl kh ki kf kq ka kt kd kn mpm mty mwi mhi mwa mle n2_4 l2_4 go2_4 tm2_4 mpa mtx mlt mha mfi qa2_4 T2_4 L2_4 K2_4 fa2_4 F2_4 (vF wd hd nb wl st sl gl aq lb sh bw bh ps) hh hph) q780 md_X8_act rfl hl.1 rfl (Nat.le_of_ble_eq_true rfl) dX8_hardest_14 ⟨Nat.le_of_ble_eq_true rfl, Nat.le_of_ble_eq_true rfl⟩ ⟨Nat.le_of_ble_eq_true rfl, Nat.le_of_ble_eq_true rfl⟩ (fun w H locs hpost hP hD hS => ?_)
    obtain ⟨pa2_14, rfl, hph2⟩ := hpost
    have hP : va_P D vwCl (mW cI cJ cB o kv kp kx kl kh ki kf kq ka kt kd kn (nI (hcnt mpm)) (nI mty) (nI mwi) (nI mhi) (nI mwa) (nI mle) (gI go2_4) (nI n2_4) (bI tm2_4) (nI l2_4) (vF wd hd nb wl st sl gl aq lb sh bw bh ps) pa2_14 (fun zz => nI (mtx zz)) (fun zz => nI (mlt zz)) (fun zz => nI (mha zz)) (fun zz => nI (mfi zz)) (fun zz => oI (fa2_4 zz)) (fun zz => nI (qa2_4 zz)) (fun zz => lN (K2_4 zz)) (fun zz => nI (T2_4 zz)) (fun zz => oI (F2_4 zz)) (fun zz => nI (L2_4 zz))) H := hP
    have hD : va_D A (mW cI cJ cB o kv kp kx kl kh ki kf kq ka kt kd kn (nI (hcnt mpm)) (nI mty) (nI mwi) (nI mhi) (nI mwa) (nI mle) (gI go2_4) (nI n2_4) (bI tm2_4) (nI l2_4) (vF wd hd nb wl st sl gl aq lb sh bw bh ps) pa2_14 (fun zz => nI (mtx zz)) (fun zz => nI (mlt zz)) (fun zz => nI (mha zz)) (fun zz => nI (mfi zz)) (fun zz => oI (fa2_4 zz)) (fun zz => nI (qa2_4 zz)) (fun zz => lN (K2_4 zz)) (fun zz => nI (T2_4 zz)) (fun zz => oI (F2_4 zz)) (fun zz => nI (L2_4 zz))) := hD
    refine lv_aload_n hx hb dX8_hardest_17 rfl (lv_at hl 0 rfl) ?_
    refine callV_i (As := []) (rest := []) [0, 1, 2, 3, 4, 5, 6, 7, 8, 9, 10, 11, 12] hC hK hN hP hD rfl (by decide) hS 0 (ci := 8) rfl rfl rfl (c_X8_farthest l D cI cJ cB o kv kp kx kl kh ki kf kq ka kt kd kn (hcnt mpm) mty mwi mhi mwa mle n2_4 l2_4 go2_4 tm2_4 pa2_14 mtx mlt mha mfi qa2_4 T2_4 L2_4 K2_4 fa2_4 F2_4 wd hd nb wl st sl gl aq lb sh bw bh ps b2 b3 b10) q936 md_X8_farthest rfl hl.1 rfl (Nat.le_of_ble_eq_true rfl) dX8_hardest_18 ⟨Nat.le_of_ble_eq_true rfl, Nat.le_of_ble_eq_true rfl⟩ ⟨Nat.le_of_ble_eq_true rfl, Nat.le_of_ble_eq_true rfl⟩ (fun r_18 w H locs hpost hP hD hS => ?_)
    obtain ⟨mx_18, rfl, rfl, hf1, hf2, hf3⟩ := hpost
    have hP : va_P D vwCl (mW cI cJ cB o kv kp kx kl kh ki kf kq ka kt kd kn (nI (hcnt mpm)) (nI mty) (nI mwi) (nI mhi) (nI mwa) (nI mle) (gI go2_4) (nI n2_4) (bI tm2_4) (nI l2_4) (vF wd hd nb wl st sl gl aq lb sh bw bh ps) pa2_14 (fun zz => nI (mtx zz)) (fun zz => nI (mlt zz)) (fun zz => nI (mha zz)) (fun zz => nI (mfi zz)) (fun zz => oI (fa2_4 zz)) (fun zz => nI (qa2_4 zz)) (fun zz => lN (K2_4 zz)) (fun zz => nI (T2_4 zz)) (fun zz => oI (F2_4 zz)) (fun zz => nI (L2_4 zz))) H := hP
    have hD : va_D A (mW cI cJ cB o kv kp kx kl kh ki kf kq ka kt kd kn (nI (hcnt mpm)) (nI mty) (nI mwi) (nI mhi) (nI mwa) (nI mle) (gI go2_4) (nI n2_4) (bI tm2_4) (nI l2_4) (vF wd hd nb wl st sl gl aq lb sh bw bh ps) pa2_14 (fun zz => nI (mtx zz)) (fun zz => nI (mlt zz)) (fun zz => nI (mha zz)) (fun zz => nI (mfi zz)) (fun zz => oI (fa2_4 zz)) (fun zz => nI (qa2_4 zz)) (fun zz => lN (K2_4 zz)) (fun zz => nI (T2_4 zz)) (fun zz => oI (F2_4 zz)) (fun zz => nI (L2_4 zz))) := hD
    refine lv_istore_n (lv' := [(2, .int (nI mx_18)), (0, .ref o), (1, .int (bI z))]) hx hb dX8_hardest_21 rfl hl (by decide) rfl (fun ls hl => ?_)
    refine lv_bipush (v := (-9)) hx hb dX8_hardest_22 (by decide) ?_
    refine lv_istore_n (lv' := [(3, .int (-9)), (2, .int (nI mx_18)), (0, .ref o), (1, .int (bI z))]) hx hb dX8_hardest_24 rfl hl (by decide) rfl (fun ls hl => ?_)
    refine lv_iconst (v := nI 0) hx hb dX8_hardest_25 (by decide) ?_
    refine lv_istore (lv' := [(4, .int (nI 0)), (3, .int (-9)), (2, .int (nI mx_18)), (0, .ref o), (1, .int (bI z))]) hx hb dX8_hardest_26 hl (by decide) rfl (fun ls hl => ?_)
    have L28 : ∀ (n : Nat) (i : Nat) (bs : Option Nat), (i ≤ n2_4) → (HB K2_4 F2_4 mx_18 bs i) → (n2_4 - i) < n → ∀ (H : Heap) (locs : List Loc), va_P D vwCl (mW cI cJ cB o kv kp kx kl kh ki kf kq ka kt kd kn (nI (hcnt mpm)) (nI mty) (nI mwi) (nI mhi) (nI mwa) (nI mle) (gI go2_4) (nI n2_4) (bI tm2_4) (nI l2_4) (vF wd hd nb wl st sl gl aq lb sh bw bh ps) pa2_14 (fun zz => nI (mtx zz)) (fun zz => nI (mlt zz)) (fun zz => nI (mha zz)) (fun zz => nI (mfi zz)) (fun zz => oI (fa2_4 zz)) (fun zz => nI (qa2_4 zz)) (fun zz => lN (K2_4 zz)) (fun zz => nI (T2_4 zz)) (fun zz => oI (F2_4 zz)) (fun zz => nI (L2_4 zz))) H → va_D A (mW cI cJ cB o kv kp kx kl kh ki kf kq ka kt kd kn (nI (hcnt mpm)) (nI mty) (nI mwi) (nI mhi) (nI mwa) (nI mle) (gI go2_4) (nI n2_4) (bI tm2_4) (nI l2_4) (vF wd hd nb wl st sl gl aq lb sh bw bh ps) pa2_14 (fun zz => nI (mtx zz)) (fun zz => nI (mlt zz)) (fun zz => nI (mha zz)) (fun zz => nI (mfi zz)) (fun zz => oI (fa2_4 zz)) (fun zz => nI (qa2_4 zz)) (fun zz => lN (K2_4 zz)) (fun zz => nI (T2_4 zz)) (fun zz => oI (F2_4 zz)) (fun zz => nI (L2_4 zz))) → va_S A s.heap H locs → ∀ ls : Array Slot, lv_has ls 5 [(3, .int (gI bs)), (4, .int (nI i)), (2, .int (nI mx_18)), (0, .ref o), (1, .int (bI z))] → W p l e (rmN 5) s m args below meth c H locs 0 0 QQ (F0 m 28 ls []) := by
      intro n; induction n with
      | zero => intro i bs ii iH hm; exact absurd hm (Nat.not_lt_zero _)
      | succ n ih28 =>
        intro i bs ii iH hm28 H locs hP hD hS ls hl
        refine lv_iload hx hb dX8_hardest_28 (lv_at hl 1 rfl) ?_
        refine lv_aload_n hx hb dX8_hardest_30 rfl (lv_at hl 3 rfl) ?_
        refine gf_X8_125 hC hK hP 0 rfl rfl dX8_hardest_31 ?_
        refine n_icmp_ge (a := i) (b := n2_4) (tgt := 82) hx hb dX8_hardest_34 (by decide) (by omega) (by omega) (fun c34 => ?_) (fun c34 => ?_)
        · have _ : True := trivial
          have e34 : i = n2_4 := by omega
          rw [e34] at iH
          obtain ⟨bx, hbs, hbx, hbx2, hbx3⟩ := HB_some iH hf2
          have hm0 : f_hardx wd hd nb wl sh bw bh ps gl aq z = some (K2_4 bx) := hard_good hog hf1 hbx hbx2 hbx3
          refine lv_iconst (v := nI 0) hx hb dX8_hardest_82 (by decide) ?_
          refine lv_istore (lv' := [(4, .int (nI 0)), (3, .int (gI bs)), (2, .int (nI mx_18)), (0, .ref o), (1, .int (bI z))]) hx hb dX8_hardest_83 hl (by decide) rfl (fun ls hl => ?_)
          have L85 : ∀ (n : Nat) (b : Nat) (pp : Nat → Nat), (b ≤ nb) → (∀ c, c < b → pp c = plc (K2_4 bx) c) → (nb - b) < n → ∀ (H : Heap) (locs : List Loc), va_P D vwCl (mW cI cJ cB o kv kp kx kl kh ki kf kq ka kt kd kn (nI (hcnt mpm)) (nI mty) (nI mwi) (nI mhi) (nI mwa) (nI mle) (gI go2_4) (nI n2_4) (bI tm2_4) (nI l2_4) (vF wd hd nb wl st sl gl aq lb sh bw bh pp) pa2_14 (fun zz => nI (mtx zz)) (fun zz => nI (mlt zz)) (fun zz => nI (mha zz)) (fun zz => nI (mfi zz)) (fun zz => oI (fa2_4 zz)) (fun zz => nI (qa2_4 zz)) (fun zz => lN (K2_4 zz)) (fun zz => nI (T2_4 zz)) (fun zz => oI (F2_4 zz)) (fun zz => nI (L2_4 zz))) H → va_D A (mW cI cJ cB o kv kp kx kl kh ki kf kq ka kt kd kn (nI (hcnt mpm)) (nI mty) (nI mwi) (nI mhi) (nI mwa) (nI mle) (gI go2_4) (nI n2_4) (bI tm2_4) (nI l2_4) (vF wd hd nb wl st sl gl aq lb sh bw bh pp) pa2_14 (fun zz => nI (mtx zz)) (fun zz => nI (mlt zz)) (fun zz => nI (mha zz)) (fun zz => nI (mfi zz)) (fun zz => oI (fa2_4 zz)) (fun zz => nI (qa2_4 zz)) (fun zz => lN (K2_4 zz)) (fun zz => nI (T2_4 zz)) (fun zz => oI (F2_4 zz)) (fun zz => nI (L2_4 zz))) → va_S A s.heap H locs → ∀ ls : Array Slot, lv_has ls 5 [(4, .int (nI b)), (3, .int (gI bs)), (2, .int (nI mx_18)), (0, .ref o), (1, .int (bI z))] → W p l e (rmN 5) s m args below meth c H locs 0 0 QQ (F0 m 85 ls []) := by
            intro n; induction n with
            | zero => intro b pp ib ip hm; exact absurd hm (Nat.not_lt_zero _)
            | succ n ih85 =>
              intro b pp ib ip hm85 H locs hP hD hS ls hl
              refine lv_iload hx hb dX8_hardest_85 (lv_at hl 0 rfl) ?_
              refine lv_aload_n hx hb dX8_hardest_87 rfl (lv_at hl 3 rfl) ?_
              refine gf_X8_7 hC hK hP 0 rfl rfl dX8_hardest_88 ?_
              refine lv_iconst (v := nI 2) hx hb dX8_hardest_91 (by decide) ?_
              refine n_iald hx hb hK hP 1 0 rfl rfl (by omega) (by decide) dX8_hardest_92 ?_
              refine topi (y := nI nb) rfl ?_
              refine n_icmp_ge (a := b) (b := nb) (tgt := 123) hx hb dX8_hardest_93 (by decide) (by omega) (by omega) (fun c93 => ?_) (fun c93 => ?_)
              · have _ : True := trivial
                refine lv_aload_n hx hb dX8_hardest_123 rfl (lv_at hl 3 rfl) ?_
                refine gf_X8_7 hC hK hP 0 rfl rfl dX8_hardest_124 ?_
                refine lv_iconst (v := nI 4) hx hb dX8_hardest_127 (by decide) ?_
                refine lv_iconst (v := nI 0) hx hb dX8_hardest_128 (by decide) ?_
                refine n_iast hx hb hK hP hD hS 1 0 rfl rfl (by omega) (by decide) (vF_u4 ..) (ws1 := mW cI cJ cB o kv kp kx kl kh ki kf kq ka kt kd kn (nI (hcnt mpm)) (nI mty) (nI mwi) (nI mhi) (nI mwa) (nI mle) (gI go2_4) (nI n2_4) (bI tm2_4) (nI l2_4) (vF wd hd nb wl (nI 0) sl gl aq lb sh bw bh pp) pa2_14 (fun zz => nI (mtx zz)) (fun zz => nI (mlt zz)) (fun zz => nI (mha zz)) (fun zz => nI (mfi zz)) (fun zz => oI (fa2_4 zz)) (fun zz => nI (qa2_4 zz)) (fun zz => lN (K2_4 zz)) (fun zz => nI (T2_4 zz)) (fun zz => oI (F2_4 zz)) (fun zz => nI (L2_4 zz))) rfl dX8_hardest_129 (fun H locs hP hD hS => ?_)
                refine lv_aload_n hx hb dX8_hardest_130 rfl (lv_at hl 3 rfl) ?_
                refine gf_X8_7 hC hK hP 0 rfl rfl dX8_hardest_131 ?_
                refine lv_iconst (v := nI 5) hx hb dX8_hardest_134 (by decide) ?_
                refine lv_iconst (v := nI 0) hx hb dX8_hardest_135 (by decide) ?_
                refine n_iast hx hb hK hP hD hS 1 0 rfl rfl (by omega) (by decide) (vF_u5 ..) (ws1 := mW cI cJ cB o kv kp kx kl kh ki kf kq ka kt kd kn (nI (hcnt mpm)) (nI mty) (nI mwi) (nI mhi) (nI mwa) (nI mle) (gI go2_4) (nI n2_4) (bI tm2_4) (nI l2_4) (vF wd hd nb wl (nI 0) (nI 0) gl aq lb sh bw bh pp) pa2_14 (fun zz => nI (mtx zz)) (fun zz => nI (mlt zz)) (fun zz => nI (mha zz)) (fun zz => nI (mfi zz)) (fun zz => oI (fa2_4 zz)) (fun zz => nI (qa2_4 zz)) (fun zz => lN (K2_4 zz)) (fun zz => nI (T2_4 zz)) (fun zz => oI (F2_4 zz)) (fun zz => nI (L2_4 zz))) rfl dX8_hardest_136 (fun H locs hP hD hS => ?_)
                refine lv_aload_n hx hb dX8_hardest_137 rfl (lv_at hl 3 rfl) ?_
                refine gf_X8_7 hC hK hP 0 rfl rfl dX8_hardest_138 ?_
                refine lv_bipush (v := nI 8) hx hb dX8_hardest_141 (by decide) ?_
                refine lv_bipush (v := (-9)) hx hb dX8_hardest_143 (by decide) ?_
                refine topi (y := gI none) rfl ?_
                refine n_iast hx hb hK hP hD hS 1 0 rfl rfl (by omega) (by decide) (vF_u8 ..) (ws1 := mW cI cJ cB o kv kp kx kl kh ki kf kq ka kt kd kn (nI (hcnt mpm)) (nI mty) (nI mwi) (nI mhi) (nI mwa) (nI mle) (gI go2_4) (nI n2_4) (bI tm2_4) (nI l2_4) (vF wd hd nb wl (nI 0) (nI 0) gl aq none sh bw bh pp) pa2_14 (fun zz => nI (mtx zz)) (fun zz => nI (mlt zz)) (fun zz => nI (mha zz)) (fun zz => nI (mfi zz)) (fun zz => oI (fa2_4 zz)) (fun zz => nI (qa2_4 zz)) (fun zz => lN (K2_4 zz)) (fun zz => nI (T2_4 zz)) (fun zz => oI (F2_4 zz)) (fun zz => nI (L2_4 zz))) rfl dX8_hardest_145 (fun H locs hP hD hS => ?_)
                refine lv_iload_n hx hb dX8_hardest_146 rfl (lv_at hl 2 rfl) ?_
                rw [hQ]
                exact W.iret (v := nI mx_18) hx hb hr (fun t9 ht hW => ⟨⟨_, _, rfl, ⟨go2_4, K2_4, n2_4, T2_4, tm2_4, F2_4, L2_4, l2_4, fa2_4, qa2_4, (nI 0), (nI 0), none, pp, pa2_14, hcnt mpm, hpush hh mpm (vF wd hd nb wl st sl gl aq lb sh bw bh ps), (by unfold f_hardr; rw [hm0]; exact worst_good hog hf1 hf2), rfl, (by rw [hm0]; exact ⟨rfl, rfl, rfl, fun c h => ip c (by omega)⟩), (by rw [hm0]; exact HIS_yes hph2)⟩, by rw [ht]; exact hP, rfl⟩, hS.F ht⟩) hS.2.2 dX8_hardest_147
              · have _ : True := trivial
                refine lv_aload_n hx hb dX8_hardest_96 rfl (lv_at hl 3 rfl) ?_
                refine gf_X8_7 hC hK hP 0 rfl rfl dX8_hardest_97 ?_
                refine lv_bipush (v := nI 31) hx hb dX8_hardest_100 (by decide) ?_
                refine lv_iload hx hb dX8_hardest_102 (lv_at hl 0 rfl) ?_
                refine n_iadd hx hb dX8_hardest_104  ?_
                refine lv_aload_n hx hb dX8_hardest_105 rfl (lv_at hl 3 rfl) ?_
                refine gf_X8_38 hC hK hP 0 rfl rfl dX8_hardest_106 ?_
                refine lv_iload_n hx hb dX8_hardest_109 rfl (lv_at hl 1 rfl) ?_
                refine topi (y := nI bx) (by rw [hbs]; rfl) ?_
                refine n_lald hx hb hK hP 9 1 rfl rfl (by omega) (by decide) dX8_hardest_110 ?_
                refine lv_iload hx hb dX8_hardest_111 (lv_at hl 0 rfl) ?_
                refine callS_i (As := [.long (lN (K2_4 bx)), .int (nI b)]) (rest := [.int (nI (31 + b)), .ref kv]) [] hC hK hN hP hD rfl (by decide) hS (c_X8_placeIn l D cI cJ cB (K2_4 bx) b (b6 bx hbx).1 (by omega)) q813 md_X8_placeIn rfl hl.1 rfl (Nat.le_of_ble_eq_true rfl) dX8_hardest_113 ⟨Nat.le_of_ble_eq_true rfl, Nat.le_of_ble_eq_true rfl⟩ ⟨Nat.le_of_ble_eq_true rfl, Nat.le_of_ble_eq_true rfl⟩ (fun r_113 w H locs hpost hP hD hS => ?_)
                obtain ⟨rfl, rfl⟩ := hpost
                have hP : va_P D vwCl (mW cI cJ cB o kv kp kx kl kh ki kf kq ka kt kd kn (nI (hcnt mpm)) (nI mty) (nI mwi) (nI mhi) (nI mwa) (nI mle) (gI go2_4) (nI n2_4) (bI tm2_4) (nI l2_4) (vF wd hd nb wl st sl gl aq lb sh bw bh pp) pa2_14 (fun zz => nI (mtx zz)) (fun zz => nI (mlt zz)) (fun zz => nI (mha zz)) (fun zz => nI (mfi zz)) (fun zz => oI (fa2_4 zz)) (fun zz => nI (qa2_4 zz)) (fun zz => lN (K2_4 zz)) (fun zz => nI (T2_4 zz)) (fun zz => oI (F2_4 zz)) (fun zz => nI (L2_4 zz))) H := hP
                have hD : va_D A (mW cI cJ cB o kv kp kx kl kh ki kf kq ka kt kd kn (nI (hcnt mpm)) (nI mty) (nI mwi) (nI mhi) (nI mwa) (nI mle) (gI go2_4) (nI n2_4) (bI tm2_4) (nI l2_4) (vF wd hd nb wl st sl gl aq lb sh bw bh pp) pa2_14 (fun zz => nI (mtx zz)) (fun zz => nI (mlt zz)) (fun zz => nI (mha zz)) (fun zz => nI (mfi zz)) (fun zz => oI (fa2_4 zz)) (fun zz => nI (qa2_4 zz)) (fun zz => lN (K2_4 zz)) (fun zz => nI (T2_4 zz)) (fun zz => oI (F2_4 zz)) (fun zz => nI (L2_4 zz))) := hD
                refine n_iast hx hb hK hP hD hS 1 0 rfl rfl (by omega) (by decide) (vF_ups (by omega)) (ws1 := mW cI cJ cB o kv kp kx kl kh ki kf kq ka kt kd kn (nI (hcnt mpm)) (nI mty) (nI mwi) (nI mhi) (nI mwa) (nI mle) (gI go2_4) (nI n2_4) (bI tm2_4) (nI l2_4) (vF wd hd nb wl st sl gl aq lb sh bw bh (va_up pp b (plc (K2_4 bx) b))) pa2_14 (fun zz => nI (mtx zz)) (fun zz => nI (mlt zz)) (fun zz => nI (mha zz)) (fun zz => nI (mfi zz)) (fun zz => oI (fa2_4 zz)) (fun zz => nI (qa2_4 zz)) (fun zz => lN (K2_4 zz)) (fun zz => nI (T2_4 zz)) (fun zz => oI (F2_4 zz)) (fun zz => nI (L2_4 zz))) rfl dX8_hardest_116 (fun H locs hP hD hS => ?_)
                refine lv_iinc (v := nI (b + 1)) (lv' := [(4, .int (nI (b + 1))), (3, .int (gI bs)), (2, .int (nI mx_18)), (0, .ref o), (1, .int (bI z))]) hx hb dX8_hardest_117 hl (k := 0) rfl (nI_1 _) (by decide) rfl (fun ls hl => ?_)
                refine lv_goto (tgt := 85) hx hb dX8_hardest_120 (by decide) ?_
                exact ih85 (b + 1) (va_up pp b (plc (K2_4 bx) b)) (by omega) (lt_s (fun c h => by rw [up_ne pp (by omega)]; exact ip c h) (up_eq _ _ _)) (by omega) _ _ hP hD hS _ (lv_sub hl [0, 1, 2, 3, 4] rfl)
          exact L85 _ 0 ps (by omega) (fun c h => absurd h (Nat.not_lt_zero c)) (Nat.lt_succ_self _) _ _ hP hD hS _ (lv_sub hl [0, 1, 2, 3, 4] rfl)
        · have _ : True := trivial
          obtain ⟨d, hd9, hd8⟩ := b10 i c34
          refine lv_aload_n hx hb dX8_hardest_37 rfl (lv_at hl 3 rfl) ?_
          refine gf_X8_45 hC hK hP 0 rfl rfl dX8_hardest_38 ?_
          refine lv_iload hx hb dX8_hardest_41 (lv_at hl 1 rfl) ?_
          refine n_iald hx hb hK hP 11 0 rfl rfl (by omega) (by decide) dX8_hardest_43 ?_
          refine topi (y := nI d) (by rw [hd9]; rfl) ?_
          refine lv_iload_n hx hb dX8_hardest_44 rfl (lv_at hl 2 rfl) ?_
          refine n_icmp_ne (a := d) (b := mx_18) (tgt := 74) hx hb dX8_hardest_45 (by decide) (by omega) (by omega) (fun c45 => ?_) (fun c45 => ?_)
          · have _ : True := trivial
            refine lv_iload_n hx hb dX8_hardest_74 rfl (lv_at hl 0 rfl) ?_
            refine lv_istore_n (lv' := [(3, .int (gI bs)), (4, .int (nI i)), (2, .int (nI mx_18)), (0, .ref o), (1, .int (bI z))]) hx hb dX8_hardest_75 rfl hl (by decide) rfl (fun ls hl => ?_)
            refine lv_iinc (v := nI (i + 1)) (lv' := [(4, .int (nI (i + 1))), (3, .int (gI bs)), (2, .int (nI mx_18)), (0, .ref o), (1, .int (bI z))]) hx hb dX8_hardest_76 hl (k := 1) rfl (nI_1 _) (by decide) rfl (fun ls hl => ?_)
            refine lv_goto (tgt := 28) hx hb dX8_hardest_79 (by decide) ?_
            exact ih28 (i + 1) bs (by omega) (HB_skip iH (by rw [hd9]; exact fun h => c45 (Option.some.inj h))) (by omega) _ _ hP hD hS _ (lv_sub hl [1, 0, 2, 3, 4] rfl)
          · have _ : True := trivial
            refine lv_iload_n hx hb dX8_hardest_48 rfl (lv_at hl 0 rfl) ?_
            refine g_if_lt (x := bs) (tgt := 69) hx hb dX8_hardest_49 (by decide) (fun d h => by rw [h] at iH; have := iH.1; omega) (fun c49 => ?_) (fun d49 c49 => ?_)
            · have _ : True := trivial
              refine lv_iload hx hb dX8_hardest_69 (lv_at hl 1 rfl) ?_
              refine lv_goto (tgt := 75) hx hb dX8_hardest_71 (by decide) ?_
              refine lv_istore_n (lv' := [(3, .int (nI i)), (4, .int (nI i)), (2, .int (nI mx_18)), (0, .ref o), (1, .int (bI z))]) hx hb dX8_hardest_75 rfl hl (by decide) rfl (fun ls hl => ?_)
              refine lv_iinc (v := nI (i + 1)) (lv' := [(4, .int (nI (i + 1))), (3, .int (nI i)), (2, .int (nI mx_18)), (0, .ref o), (1, .int (bI z))]) hx hb dX8_hardest_76 hl (k := 1) rfl (nI_1 _) (by decide) rfl (fun ls hl => ?_)
              refine lv_goto (tgt := 28) hx hb dX8_hardest_79 (by decide) ?_
              exact ih28 (i + 1) (some i) (by omega) (HB_first (c49 ▸ iH) (by rw [hd9, c45])) (by omega) _ _ hP hD hS _ (lv_sub hl [1, 0, 2, 3, 4] rfl)
            · have _ : True := trivial
              have hd49 : d49 < i := by rw [c49] at iH; exact iH.1
              refine lv_aload_n hx hb dX8_hardest_52 rfl (lv_at hl 3 rfl) ?_
              refine gf_X8_38 hC hK hP 0 rfl rfl dX8_hardest_53 ?_
              refine lv_iload hx hb dX8_hardest_56 (lv_at hl 1 rfl) ?_
              refine n_lald hx hb hK hP 9 1 rfl rfl (by omega) (by decide) dX8_hardest_58 ?_
              refine lv_aload_n hx hb dX8_hardest_59 rfl (lv_at hl 3 rfl) ?_
              refine gf_X8_38 hC hK hP 0 rfl rfl dX8_hardest_60 ?_
              refine lv_iload_n hx hb dX8_hardest_63 rfl (lv_at hl 0 rfl) ?_
              refine topi (y := nI d49) (by rw [c49]; rfl) ?_
              refine n_lald hx hb hK hP 9 1 rfl rfl (by omega) (by decide) dX8_hardest_64 ?_
              refine n_lcmp hx hb dX8_hardest_65 ?_
              refine l_if_ge (a := K2_4 i) (b := K2_4 d49) (tgt := 74) hx hb dX8_hardest_66 (by decide) (by have := (b6 i c34).1; omega) (by have := (b6 d49 (by omega)).1; omega) (fun c66 => ?_) (fun c66 => ?_)
              · have _ : True := trivial
                refine lv_iload_n hx hb dX8_hardest_74 rfl (lv_at hl 0 rfl) ?_
                refine lv_istore_n (lv' := [(3, .int (gI bs)), (4, .int (nI i)), (2, .int (nI mx_18)), (0, .ref o), (1, .int (bI z))]) hx hb dX8_hardest_75 rfl hl (by decide) rfl (fun ls hl => ?_)
                refine lv_iinc (v := nI (i + 1)) (lv' := [(4, .int (nI (i + 1))), (3, .int (gI bs)), (2, .int (nI mx_18)), (0, .ref o), (1, .int (bI z))]) hx hb dX8_hardest_76 hl (k := 1) rfl (nI_1 _) (by decide) rfl (fun ls hl => ?_)
                refine lv_goto (tgt := 28) hx hb dX8_hardest_79 (by decide) ?_
                exact ih28 (i + 1) bs (by omega) (HB_keep iH c49 c66) (by omega) _ _ hP hD hS _ (lv_sub hl [1, 0, 2, 3, 4] rfl)
              · have _ : True := trivial
                refine lv_iload hx hb dX8_hardest_69 (lv_at hl 1 rfl) ?_
                refine lv_goto (tgt := 75) hx hb dX8_hardest_71 (by decide) ?_
                refine lv_istore_n (lv' := [(3, .int (nI i)), (4, .int (nI i)), (2, .int (nI mx_18)), (0, .ref o), (1, .int (bI z))]) hx hb dX8_hardest_75 rfl hl (by decide) rfl (fun ls hl => ?_)
                refine lv_iinc (v := nI (i + 1)) (lv' := [(4, .int (nI (i + 1))), (3, .int (nI i)), (2, .int (nI mx_18)), (0, .ref o), (1, .int (bI z))]) hx hb dX8_hardest_76 hl (k := 1) rfl (nI_1 _) (by decide) rfl (fun ls hl => ?_)
                refine lv_goto (tgt := 28) hx hb dX8_hardest_79 (by decide) ?_
                exact ih28 (i + 1) (some i) (by omega) (HB_less iH (by rw [hd9, c45]) c49 c66) (by omega) _ _ hP hD hS _ (lv_sub hl [1, 0, 2, 3, 4] rfl)
    exact L28 _ 0 none (by omega) (fun j h => absurd h (Nat.not_lt_zero j)) (Nat.lt_succ_self _) _ _ hP hD hS _ (lv_sub hl [1, 0, 2, 3, 4] rfl)
  · have _ : True := trivial
    have hm0 : f_hardx wd hd nb wl sh bw bh ps gl aq z = none := hard_bad hop c7
    refine lv_bipush (v := (-2)) hx hb dX8_hardest_10 (by decide) ?_
    rw [hQ]
    exact W.iret (v := (-2)) hx hb hr (fun t9 ht hW => ⟨⟨_, _, rfl, ⟨go2_4, K2_4, n2_4, T2_4, tm2_4, F2_4, L2_4, l2_4, fa2_4, qa2_4, st, sl, lb, ps, mpa, mpm, hh, (by unfold f_hardr; rw [hm0]), rfl, (by rw [hm0]; exact ⟨rfl, rfl, rfl, rfl⟩), (by rw [hm0]; exact HIS_no hph)⟩, by rw [ht]; exact hP, rfl⟩, hS.F ht⟩) hS.2.2 dX8_hardest_12

set_option maxHeartbeats 400000 in
set_option maxRecDepth 100000 in
theorem c_X8_fingerprint (l : Launch) (D : va_G) (cI cJ cB : ClassId) (o kv kp kx kl kh ki kf kq ka kt kd kn mpm mty mwi mhi mwa mle mam mli : Nat) (mgo : Option Nat) (mtm : Bool) (mpa : Nat → Int32) (mtx mlt mha mfi mqu mta mln mal : Nat → Nat) (mfa mdi : Nat → Option Nat) (wd hd nb wl : Nat) (st sl : Int32) (gl aq lb : Option Nat) (sh bw bh ps : Nat → Nat) (htv : TV wd hd nb wl sh bw bh ps gl aq lb) : Met l yX8_fingerprint (Cond.code yX8_fingerprint cX8_fingerprint 5 (some .long) :: lw_all) (rmN 6) (va_Pc [.ref o] (pB D (tyz cI cJ cB) (mW cI cJ cB o kv kp kx kl kh ki kf kq ka kt kd kn (nI mpm) (nI mty) (nI mwi) (nI mhi) (nI mwa) (nI mle) (gI mgo) (nI mam) (bI mtm) (nI mli) (vF wd hd nb wl st sl gl aq lb sh bw bh ps) mpa (fun zz => nI (mtx zz)) (fun zz => nI (mlt zz)) (fun zz => nI (mha zz)) (fun zz => nI (mfi zz)) (fun zz => oI (mfa zz)) (fun zz => nI (mqu zz)) (fun zz => lN (mal zz)) (fun zz => nI (mta zz)) (fun zz => oI (mdi zz)) (fun zz => nI (mln zz))))) (va_Ql (fun (r : Int64) (w : va_W) => ∃ go2 : Option Nat, ∃ K2 : Nat → Nat, ∃ n2 : Nat, ∃ T2 : Nat → Nat, ∃ tm2 : Bool, ∃ F2 : Nat → Option Nat, ∃ L2 : Nat → Nat, ∃ l2 : Nat, ∃ fa2 : Nat → Option Nat, ∃ qa2 : Nat → Nat, r = f_fp wd hd nb wl st sl gl aq sh bw bh ps ∧ w = mW cI cJ cB o kv kp kx kl kh ki kf kq ka kt kd kn (nI mpm) (nI mty) (nI mwi) (nI mhi) (nI mwa) (nI mle) (gI go2) (nI n2) (bI tm2) (nI l2) (vF wd hd nb wl st sl gl aq lb sh bw bh ps) mpa (fun zz => nI (mtx zz)) (fun zz => nI (mlt zz)) (fun zz => nI (mha zz)) (fun zz => nI (mfi zz)) (fun zz => oI (fa2 zz)) (fun zz => nI (qa2 zz)) (fun zz => lN (K2 zz)) (fun zz => nI (T2 zz)) (fun zz => oI (F2 zz)) (fun zz => nI (L2 zz))) (gB D (mW cI cJ cB o kv kp kx kl kh ki kf kq ka kt kd kn (nI mpm) (nI mty) (nI mwi) (nI mhi) (nI mwa) (nI mle) (gI mgo) (nI mam) (bI mtm) (nI mli) (vF wd hd nb wl st sl gl aq lb sh bw bh ps) mpa (fun zz => nI (mtx zz)) (fun zz => nI (mlt zz)) (fun zz => nI (mha zz)) (fun zz => nI (mfi zz)) (fun zz => oI (mfa zz)) (fun zz => nI (mqu zz)) (fun zz => lN (mal zz)) (fun zz => nI (mta zz)) (fun zz => oI (mdi zz)) (fun zz => nI (mln zz)))) (aW (mW cI cJ cB o kv kp kx kl kh ki kf kq ka kt kd kn (nI mpm) (nI mty) (nI mwi) (nI mhi) (nI mwa) (nI mle) (gI mgo) (nI mam) (bI mtm) (nI mli) (vF wd hd nb wl st sl gl aq lb sh bw bh ps) mpa (fun zz => nI (mtx zz)) (fun zz => nI (mlt zz)) (fun zz => nI (mha zz)) (fun zz => nI (mfi zz)) (fun zz => oI (mfa zz)) (fun zz => nI (mqu zz)) (fun zz => lN (mal zz)) (fun zz => nI (mta zz)) (fun zz => oI (mdi zz)) (fun zz => nI (mln zz))))) 0 0 (aW (mW cI cJ cB o kv kp kx kl kh ki kf kq ka kt kd kn (nI mpm) (nI mty) (nI mwi) (nI mhi) (nI mwa) (nI mle) (gI mgo) (nI mam) (bI mtm) (nI mli) (vF wd hd nb wl st sl gl aq lb sh bw bh ps) mpa (fun zz => nI (mtx zz)) (fun zz => nI (mlt zz)) (fun zz => nI (mha zz)) (fun zz => nI (mfi zz)) (fun zz => oI (mfa zz)) (fun zz => nI (mqu zz)) (fun zz => lN (mal zz)) (fun zz => nI (mta zz)) (fun zz => oI (mdi zz)) (fun zz => nI (mln zz)))) := by
  refine Met.ofW (cc := cX8_fingerprint) (maxL := 5) (ret := (some .long)) (by decide) rfl ?_
  intro p e s m args below meth c s₁ B hml hv
  obtain ⟨rfl, hK, hN, hP, hD0⟩ := hv
  have hx := B.exec; have hb := B.bytes; have hr := B.returns; have hlocks := B.notSynchronized
  have hts0 := atoms_spec (ws := Cond.code yX8_fingerprint cX8_fingerprint 5 (some .long) :: lw_all) B.pre
  have hC : CallFix p m c cX8_fingerprint 5 s _ lw_all RX8 := ⟨hx, hb, hml, findClass_of_methodNamed B.named, fun w h => hts0 w (List.mem_cons_of_mem _ h)⟩
  have hD : va_D (aW (mW cI cJ cB o kv kp kx kl kh ki kf kq ka kt kd kn (nI mpm) (nI mty) (nI mwi) (nI mhi) (nI mwa) (nI mle) (gI mgo) (nI mam) (bI mtm) (nI mli) (vF wd hd nb wl st sl gl aq lb sh bw bh ps) mpa (fun zz => nI (mtx zz)) (fun zz => nI (mlt zz)) (fun zz => nI (mha zz)) (fun zz => nI (mfi zz)) (fun zz => oI (mfa zz)) (fun zz => nI (mqu zz)) (fun zz => lN (mal zz)) (fun zz => nI (mta zz)) (fun zz => oI (mdi zz)) (fun zz => nI (mln zz)))) (mW cI cJ cB o kv kp kx kl kh ki kf kq ka kt kd kn (nI mpm) (nI mty) (nI mwi) (nI mhi) (nI mwa) (nI mle) (gI mgo) (nI mam) (bI mtm) (nI mli) (vF wd hd nb wl st sl gl aq lb sh bw bh ps) mpa (fun zz => nI (mtx zz)) (fun zz => nI (mlt zz)) (fun zz => nI (mha zz)) (fun zz => nI (mfi zz)) (fun zz => oI (mfa zz)) (fun zz => nI (mqu zz)) (fun zz => lN (mal zz)) (fun zz => nI (mta zz)) (fun zz => oI (mdi zz)) (fun zz => nI (mln zz))) := ⟨hD0.1, fun k q h => ⟨k, q.2, h⟩⟩
  generalize hAe : aW (mW cI cJ cB o kv kp kx kl kh ki kf kq ka kt kd kn (nI mpm) (nI mty) (nI mwi) (nI mhi) (nI mwa) (nI mle) (gI mgo) (nI mam) (bI mtm) (nI mli) (vF wd hd nb wl st sl gl aq lb sh bw bh ps) mpa (fun zz => nI (mtx zz)) (fun zz => nI (mlt zz)) (fun zz => nI (mha zz)) (fun zz => nI (mfi zz)) (fun zz => oI (mfa zz)) (fun zz => nI (mqu zz)) (fun zz => lN (mal zz)) (fun zz => nI (mta zz)) (fun zz => oI (mdi zz)) (fun zz => nI (mln zz))) = A at hD ⊢
  have hS : va_S A s.heap s.heap [] := va_S.rf
  have hl := lv_entry ([.ref o]) (n := 5) (Nat.le_of_ble_eq_true rfl)
  rw [lg_entry_eq]
  generalize (lg_sl ([.ref o]) ++ List.replicate (5 - (lg_sl ([.ref o])).length) Slot.unset).toArray = ls at hl ⊢
  have hl : lv_has ls 5 [(0, .ref o)] := hl
  generalize hav : ([.ref o] : List Value).toArray = args at hC ⊢
  refine W_gen (fun QQ hQ => ?_)
  show W p l e (rmN 6) s m args below meth c s.heap [] 0 0 QQ (F0 m 0 ls [])
  obtain ⟨hf, hps, hk1, hga, hlb⟩ := id htv
  have hn7 := hf.2.2.2.2.2.1
  have h24 := hf.2.2.2.2.1
  refine lv_ldc2 (v := lN 199) hx hb hC.2.2.2.1 (hC.2.2.2.2 _ q965) dX8_fingerprint_0 ?_
  refine topl (y := fold9 (f_frame wd hd nb wl st sl gl aq sh ps) (lN 199) 0) rfl ?_
  refine lv_lstore_n (lv' := [(1, .long (fold9 (f_frame wd hd nb wl st sl gl aq sh ps) (lN 199) 0)), (0, .ref o)]) hx hb dX8_fingerprint_3 rfl hl (by decide) rfl (fun ls hl => ?_)
  refine lv_iconst (v := nI 0) hx hb dX8_fingerprint_4 (by decide) ?_
  refine lv_istore_n (lv' := [(3, .int (nI 0)), (1, .long (fold9 (f_frame wd hd nb wl st sl gl aq sh ps) (lN 199) 0)), (0, .ref o)]) hx hb dX8_fingerprint_5 rfl hl (by decide) rfl (fun ls hl => ?_)
  have L6 : ∀ (n : Nat) (k : Nat) (go : Option Nat), (k ≤ 9) → (9 - k) < n → ∀ (H : Heap) (locs : List Loc), va_P D vwCl (mW cI cJ cB o kv kp kx kl kh ki kf kq ka kt kd kn (nI mpm) (nI mty) (nI mwi) (nI mhi) (nI mwa) (nI mle) (gI go) (nI mam) (bI mtm) (nI mli) (vF wd hd nb wl st sl gl aq lb sh bw bh ps) mpa (fun zz => nI (mtx zz)) (fun zz => nI (mlt zz)) (fun zz => nI (mha zz)) (fun zz => nI (mfi zz)) (fun zz => oI (mfa zz)) (fun zz => nI (mqu zz)) (fun zz => lN (mal zz)) (fun zz => nI (mta zz)) (fun zz => oI (mdi zz)) (fun zz => nI (mln zz))) H → va_D A (mW cI cJ cB o kv kp kx kl kh ki kf kq ka kt kd kn (nI mpm) (nI mty) (nI mwi) (nI mhi) (nI mwa) (nI mle) (gI go) (nI mam) (bI mtm) (nI mli) (vF wd hd nb wl st sl gl aq lb sh bw bh ps) mpa (fun zz => nI (mtx zz)) (fun zz => nI (mlt zz)) (fun zz => nI (mha zz)) (fun zz => nI (mfi zz)) (fun zz => oI (mfa zz)) (fun zz => nI (mqu zz)) (fun zz => lN (mal zz)) (fun zz => nI (mta zz)) (fun zz => oI (mdi zz)) (fun zz => nI (mln zz))) → va_S A s.heap H locs → ∀ ls : Array Slot, lv_has ls 5 [(1, .long (fold9 (f_frame wd hd nb wl st sl gl aq sh ps) (lN 199) k)), (3, .int (nI k)), (0, .ref o)] → W p l e (rmN 6) s m args below meth c H locs 0 0 QQ (F0 m 6 ls []) := by
    intro n; induction n with
    | zero => intro k go ik hm; exact absurd hm (Nat.not_lt_zero _)
    | succ n ih6 =>
      intro k go ik hm6 H locs hP hD hS ls hl
      refine lv_iload_n hx hb dX8_fingerprint_6 rfl (lv_at hl 1 rfl) ?_
      refine lv_bipush (v := nI 9) hx hb dX8_fingerprint_7 (by decide) ?_
      refine n_icmp_ge (a := k) (b := 9) (tgt := 31) hx hb dX8_fingerprint_9 (by decide) (by omega) (by omega) (fun c9 => ?_) (fun c9 => ?_)
      · have _ : True := trivial
        have e9 : k = 9 := by omega
        subst e9
        refine lv_iconst (v := nI 0) hx hb dX8_fingerprint_31 (by decide) ?_
        refine lv_istore_n (lv' := [(3, .int (nI 0)), (1, .long (fold9 (f_frame wd hd nb wl st sl gl aq sh ps) (lN 199) 9)), (0, .ref o)]) hx hb dX8_fingerprint_32 rfl hl (by decide) rfl (fun ls hl => ?_)
        have L33 : ∀ (n : Nat) (k : Nat) (go : Option Nat), (k ≤ wd * hd) → (wd * hd - k) < n → ∀ (H : Heap) (locs : List Loc), va_P D vwCl (mW cI cJ cB o kv kp kx kl kh ki kf kq ka kt kd kn (nI mpm) (nI mty) (nI mwi) (nI mhi) (nI mwa) (nI mle) (gI go) (nI mam) (bI mtm) (nI mli) (vF wd hd nb wl st sl gl aq lb sh bw bh ps) mpa (fun zz => nI (mtx zz)) (fun zz => nI (mlt zz)) (fun zz => nI (mha zz)) (fun zz => nI (mfi zz)) (fun zz => oI (mfa zz)) (fun zz => nI (mqu zz)) (fun zz => lN (mal zz)) (fun zz => nI (mta zz)) (fun zz => oI (mdi zz)) (fun zz => nI (mln zz))) H → va_D A (mW cI cJ cB o kv kp kx kl kh ki kf kq ka kt kd kn (nI mpm) (nI mty) (nI mwi) (nI mhi) (nI mwa) (nI mle) (gI go) (nI mam) (bI mtm) (nI mli) (vF wd hd nb wl st sl gl aq lb sh bw bh ps) mpa (fun zz => nI (mtx zz)) (fun zz => nI (mlt zz)) (fun zz => nI (mha zz)) (fun zz => nI (mfi zz)) (fun zz => oI (mfa zz)) (fun zz => nI (mqu zz)) (fun zz => lN (mal zz)) (fun zz => nI (mta zz)) (fun zz => oI (mdi zz)) (fun zz => nI (mln zz))) → va_S A s.heap H locs → ∀ ls : Array Slot, lv_has ls 5 [(1, .long (fold9 (fun i => f_cel wl sh ps i nb) (fold9 (f_frame wd hd nb wl st sl gl aq sh ps) (lN 199) 9) k)), (3, .int (nI k)), (0, .ref o)] → W p l e (rmN 6) s m args below meth c H locs 0 0 QQ (F0 m 33 ls []) := by
          intro n; induction n with
          | zero => intro k go ik hm; exact absurd hm (Nat.not_lt_zero _)
          | succ n ih33 =>
            intro k go ik hm33 H locs hP hD hS ls hl
            refine lv_iload_n hx hb dX8_fingerprint_33 rfl (lv_at hl 1 rfl) ?_
            refine lv_aload_n hx hb dX8_fingerprint_34 rfl (lv_at hl 2 rfl) ?_
            refine callV_i (As := []) (rest := [.int (nI k)]) [0, 1, 2, 3, 4, 5, 6, 7, 8, 9, 10, 11, 12] hC hK hN hP hD rfl (by decide) hS 0 (ci := 8) rfl rfl rfl (c_X8_cells l D cI cJ cB o kv kp kx kl kh ki kf kq ka kt kd kn mpm mty mwi mhi mwa mle mam mli go mtm mpa mtx mlt mha mfi mqu mta mln mal mfa mdi wd hd nb wl st sl gl aq lb sh bw bh ps ) q796 md_X8_cells rfl hl.1 rfl (Nat.le_of_ble_eq_true rfl) dX8_fingerprint_35 ⟨Nat.le_of_ble_eq_true rfl, Nat.le_of_ble_eq_true rfl⟩ ⟨Nat.le_of_ble_eq_true rfl, Nat.le_of_ble_eq_true rfl⟩ (fun r_35 w H locs hpost hP hD hS => ?_)
            obtain ⟨rfl, rfl⟩ := hpost
            have hP : va_P D vwCl (mW cI cJ cB o kv kp kx kl kh ki kf kq ka kt kd kn (nI mpm) (nI mty) (nI mwi) (nI mhi) (nI mwa) (nI mle) (gI go) (nI mam) (bI mtm) (nI mli) (vF wd hd nb wl st sl gl aq lb sh bw bh ps) mpa (fun zz => nI (mtx zz)) (fun zz => nI (mlt zz)) (fun zz => nI (mha zz)) (fun zz => nI (mfi zz)) (fun zz => oI (mfa zz)) (fun zz => nI (mqu zz)) (fun zz => lN (mal zz)) (fun zz => nI (mta zz)) (fun zz => oI (mdi zz)) (fun zz => nI (mln zz))) H := hP
            have hD : va_D A (mW cI cJ cB o kv kp kx kl kh ki kf kq ka kt kd kn (nI mpm) (nI mty) (nI mwi) (nI mhi) (nI mwa) (nI mle) (gI go) (nI mam) (bI mtm) (nI mli) (vF wd hd nb wl st sl gl aq lb sh bw bh ps) mpa (fun zz => nI (mtx zz)) (fun zz => nI (mlt zz)) (fun zz => nI (mha zz)) (fun zz => nI (mfi zz)) (fun zz => oI (mfa zz)) (fun zz => nI (mqu zz)) (fun zz => lN (mal zz)) (fun zz => nI (mta zz)) (fun zz => oI (mdi zz)) (fun zz => nI (mln zz))) := hD
            refine n_icmp_ge (a := k) (b := wd * hd) (tgt := 60) hx hb dX8_fingerprint_38 (by decide) (by omega) (by omega) (fun c38 => ?_) (fun c38 => ?_)
            · have _ : True := trivial
              have e38 : k = wd * hd := by omega
              subst e38
              refine lv_iconst (v := nI 0) hx hb dX8_fingerprint_60 (by decide) ?_
              refine lv_istore_n (lv' := [(3, .int (nI 0)), (1, .long (fold9 (fun i => f_cel wl sh ps i nb) (fold9 (f_frame wd hd nb wl st sl gl aq sh ps) (lN 199) 9) (wd * hd))), (0, .ref o)]) hx hb dX8_fingerprint_61 rfl hl (by decide) rfl (fun ls hl => ?_)
              have L62 : ∀ (n : Nat) (b : Nat) (go : Option Nat) (fa : Nat → Option Nat) (qa : Nat → Nat), (b ≤ nb) → (nb - b) < n → ∀ (H : Heap) (locs : List Loc), va_P D vwCl (mW cI cJ cB o kv kp kx kl kh ki kf kq ka kt kd kn (nI mpm) (nI mty) (nI mwi) (nI mhi) (nI mwa) (nI mle) (gI go) (nI mam) (bI mtm) (nI mli) (vF wd hd nb wl st sl gl aq lb sh bw bh ps) mpa (fun zz => nI (mtx zz)) (fun zz => nI (mlt zz)) (fun zz => nI (mha zz)) (fun zz => nI (mfi zz)) (fun zz => oI (fa zz)) (fun zz => nI (qa zz)) (fun zz => lN (mal zz)) (fun zz => nI (mta zz)) (fun zz => oI (mdi zz)) (fun zz => nI (mln zz))) H → va_D A (mW cI cJ cB o kv kp kx kl kh ki kf kq ka kt kd kn (nI mpm) (nI mty) (nI mwi) (nI mhi) (nI mwa) (nI mle) (gI go) (nI mam) (bI mtm) (nI mli) (vF wd hd nb wl st sl gl aq lb sh bw bh ps) mpa (fun zz => nI (mtx zz)) (fun zz => nI (mlt zz)) (fun zz => nI (mha zz)) (fun zz => nI (mfi zz)) (fun zz => oI (fa zz)) (fun zz => nI (qa zz)) (fun zz => lN (mal zz)) (fun zz => nI (mta zz)) (fun zz => oI (mdi zz)) (fun zz => nI (mln zz))) → va_S A s.heap H locs → ∀ ls : Array Slot, lv_has ls 5 [(1, .long (foldB (f_blk wd hd nb wl sh bw bh ps) (fold9 (fun i => f_cel wl sh ps i nb) (fold9 (f_frame wd hd nb wl st sl gl aq sh ps) (lN 199) 9) (wd * hd)) b)), (3, .int (nI b)), (0, .ref o)] → W p l e (rmN 6) s m args below meth c H locs 0 0 QQ (F0 m 62 ls []) := by
                intro n; induction n with
                | zero => intro b go fa qa ib hm; exact absurd hm (Nat.not_lt_zero _)
                | succ n ih62 =>
                  intro b go fa qa ib hm62 H locs hP hD hS ls hl
                  refine lv_iload_n hx hb dX8_fingerprint_62 rfl (lv_at hl 1 rfl) ?_
                  refine lv_aload_n hx hb dX8_fingerprint_63 rfl (lv_at hl 2 rfl) ?_
                  refine gf_X8_7 hC hK hP 0 rfl rfl dX8_fingerprint_64 ?_
                  refine lv_iconst (v := nI 2) hx hb dX8_fingerprint_67 (by decide) ?_
                  refine n_iald hx hb hK hP 1 0 rfl rfl (by omega) (by decide) dX8_fingerprint_68 ?_
                  refine topi (y := nI nb) rfl ?_
                  refine n_icmp_ge (a := b) (b := nb) (tgt := 109) hx hb dX8_fingerprint_69 (by decide) (by omega) (by omega) (fun c69 => ?_) (fun c69 => ?_)
                  · have _ : True := trivial
                    have e69 : b = nb := by omega
                    refine lv_ldc2 (v := lN 31) hx hb hC.2.2.2.1 (hC.2.2.2.2 _ q807) dX8_fingerprint_109 ?_
                    refine lv_lload_n hx hb dX8_fingerprint_112 rfl (lv_at hl 0 rfl) ?_
                    refine lv_lmul hx hb dX8_fingerprint_113 ?_
                    refine lv_aload_n hx hb dX8_fingerprint_114 rfl (lv_at hl 2 rfl) ?_
                    refine callV_i (As := []) (rest := [.long ((lN 31) * (foldB (f_blk wd hd nb wl sh bw bh ps) (fold9 (fun i => f_cel wl sh ps i nb) (fold9 (f_frame wd hd nb wl st sl gl aq sh ps) (lN 199) 9) (wd * hd)) b))]) [0, 1, 2, 3, 4, 5, 6, 7, 8, 9, 10, 11, 12] hC hK hN hP hD rfl (by decide) hS 0 (ci := 8) rfl rfl rfl (c_X8_stateMany l D cI cJ cB o kv kp kx kl kh ki kf kq ka kt kd kn mpm mty mwi mhi mwa mle mam mli go mtm mpa mtx mlt mha mfi qa mta mln mal fa mdi wd hd nb wl st sl gl aq lb sh bw bh ps htv) q875 md_X8_stateMany rfl hl.1 rfl (Nat.le_of_ble_eq_true rfl) dX8_fingerprint_115 ⟨Nat.le_of_ble_eq_true rfl, Nat.le_of_ble_eq_true rfl⟩ ⟨Nat.le_of_ble_eq_true rfl, Nat.le_of_ble_eq_true rfl⟩ (fun r_115 w H locs hpost hP hD hS => ?_)
                    obtain ⟨go2_115, K2_115, n2_115, T2_115, tm2_115, F2_115, L2_115, l2_115, fa2_115, qa2_115, rfl, rfl⟩ := hpost
                    have hP : va_P D vwCl (mW cI cJ cB o kv kp kx kl kh ki kf kq ka kt kd kn (nI mpm) (nI mty) (nI mwi) (nI mhi) (nI mwa) (nI mle) (gI go2_115) (nI n2_115) (bI tm2_115) (nI l2_115) (vF wd hd nb wl st sl gl aq lb sh bw bh ps) mpa (fun zz => nI (mtx zz)) (fun zz => nI (mlt zz)) (fun zz => nI (mha zz)) (fun zz => nI (mfi zz)) (fun zz => oI (fa2_115 zz)) (fun zz => nI (qa2_115 zz)) (fun zz => lN (K2_115 zz)) (fun zz => nI (T2_115 zz)) (fun zz => oI (F2_115 zz)) (fun zz => nI (L2_115 zz))) H := hP
                    have hD : va_D A (mW cI cJ cB o kv kp kx kl kh ki kf kq ka kt kd kn (nI mpm) (nI mty) (nI mwi) (nI mhi) (nI mwa) (nI mle) (gI go2_115) (nI n2_115) (bI tm2_115) (nI l2_115) (vF wd hd nb wl st sl gl aq lb sh bw bh ps) mpa (fun zz => nI (mtx zz)) (fun zz => nI (mlt zz)) (fun zz => nI (mha zz)) (fun zz => nI (mfi zz)) (fun zz => oI (fa2_115 zz)) (fun zz => nI (qa2_115 zz)) (fun zz => lN (K2_115 zz)) (fun zz => nI (T2_115 zz)) (fun zz => oI (F2_115 zz)) (fun zz => nI (L2_115 zz))) := hD
                    refine lv_i2l hx hb dX8_fingerprint_118 rfl ?_
                    refine lv_ladd hx hb dX8_fingerprint_119 ?_
                    refine lv_lstore_n (lv' := [(1, .long (((lN 31) * (foldB (f_blk wd hd nb wl sh bw bh ps) (fold9 (fun i => f_cel wl sh ps i nb) (fold9 (f_frame wd hd nb wl st sl gl aq sh ps) (lN 199) 9) (wd * hd)) b)) + ((f_states (kst wd hd nb wl sh bw bh none) (pkey ps nb)).toInt64))), (3, .int (nI b)), (0, .ref o)]) hx hb dX8_fingerprint_120 rfl hl (by decide) rfl (fun ls hl => ?_)
                    refine lv_ldc2 (v := lN 31) hx hb hC.2.2.2.1 (hC.2.2.2.2 _ q807) dX8_fingerprint_121 ?_
                    refine lv_lload_n hx hb dX8_fingerprint_124 rfl (lv_at hl 0 rfl) ?_
                    refine lv_lmul hx hb dX8_fingerprint_125 ?_
                    refine lv_aload_n hx hb dX8_fingerprint_126 rfl (lv_at hl 2 rfl) ?_
                    refine lv_iconst (v := nI 0) hx hb dX8_fingerprint_127 (by decide) ?_
                    refine callV_i (As := [.int (nI 0)]) (rest := [.long ((lN 31) * (((lN 31) * (foldB (f_blk wd hd nb wl sh bw bh ps) (fold9 (fun i => f_cel wl sh ps i nb) (fold9 (f_frame wd hd nb wl st sl gl aq sh ps) (lN 199) 9) (wd * hd)) b)) + ((f_states (kst wd hd nb wl sh bw bh none) (pkey ps nb)).toInt64)))]) [0, 1, 2, 3, 4, 5, 6, 7, 8, 9, 10, 11, 12] hC hK hN hP hD rfl (by decide) hS 0 (ci := 8) rfl rfl rfl (c_X8_distanceOf l D cI cJ cB o kv kp kx kl kh ki kf kq ka kt kd kn mpm mty mwi mhi mwa mle n2_115 l2_115 go2_115 tm2_115 mpa mtx mlt mha mfi qa2_115 T2_115 L2_115 K2_115 fa2_115 F2_115 wd hd nb wl st sl gl aq lb sh bw bh ps false htv) q900 md_X8_distanceOf rfl hl.1 rfl (Nat.le_of_ble_eq_true rfl) dX8_fingerprint_128 ⟨Nat.le_of_ble_eq_true rfl, Nat.le_of_ble_eq_true rfl⟩ ⟨Nat.le_of_ble_eq_true rfl, Nat.le_of_ble_eq_true rfl⟩ (fun r_128 w H locs hpost hP hD hS => ?_)
                    obtain ⟨go2_128, K2_128, n2_128, T2_128, tm2_128, F2_128, L2_128, l2_128, fa2_128, qa2_128, rfl, rfl⟩ := hpost
                    have hP : va_P D vwCl (mW cI cJ cB o kv kp kx kl kh ki kf kq ka kt kd kn (nI mpm) (nI mty) (nI mwi) (nI mhi) (nI mwa) (nI mle) (gI go2_128) (nI n2_128) (bI tm2_128) (nI l2_128) (vF wd hd nb wl st sl gl aq lb sh bw bh ps) mpa (fun zz => nI (mtx zz)) (fun zz => nI (mlt zz)) (fun zz => nI (mha zz)) (fun zz => nI (mfi zz)) (fun zz => oI (fa2_128 zz)) (fun zz => nI (qa2_128 zz)) (fun zz => lN (K2_128 zz)) (fun zz => nI (T2_128 zz)) (fun zz => oI (F2_128 zz)) (fun zz => nI (L2_128 zz))) H := hP
                    have hD : va_D A (mW cI cJ cB o kv kp kx kl kh ki kf kq ka kt kd kn (nI mpm) (nI mty) (nI mwi) (nI mhi) (nI mwa) (nI mle) (gI go2_128) (nI n2_128) (bI tm2_128) (nI l2_128) (vF wd hd nb wl st sl gl aq lb sh bw bh ps) mpa (fun zz => nI (mtx zz)) (fun zz => nI (mlt zz)) (fun zz => nI (mha zz)) (fun zz => nI (mfi zz)) (fun zz => oI (fa2_128 zz)) (fun zz => nI (qa2_128 zz)) (fun zz => lN (K2_128 zz)) (fun zz => nI (T2_128 zz)) (fun zz => oI (F2_128 zz)) (fun zz => nI (L2_128 zz))) := hD
                    refine lv_i2l hx hb dX8_fingerprint_131 rfl ?_
                    refine lv_ladd hx hb dX8_fingerprint_132 ?_
                    refine lv_lstore_n (lv' := [(1, .long (((lN 31) * (((lN 31) * (foldB (f_blk wd hd nb wl sh bw bh ps) (fold9 (fun i => f_cel wl sh ps i nb) (fold9 (f_frame wd hd nb wl st sl gl aq sh ps) (lN 199) 9) (wd * hd)) b)) + ((f_states (kst wd hd nb wl sh bw bh none) (pkey ps nb)).toInt64))) + ((f_dist (kst wd hd nb wl sh bw bh none) (mvk wd hd nb wl sh bw bh none false) gl aq (pkey ps nb)).toInt64))), (3, .int (nI b)), (0, .ref o)]) hx hb dX8_fingerprint_133 rfl hl (by decide) rfl (fun ls hl => ?_)
                    refine lv_ldc2 (v := lN 31) hx hb hC.2.2.2.1 (hC.2.2.2.2 _ q807) dX8_fingerprint_134 ?_
                    refine lv_lload_n hx hb dX8_fingerprint_137 rfl (lv_at hl 0 rfl) ?_
                    refine lv_lmul hx hb dX8_fingerprint_138 ?_
                    refine lv_aload_n hx hb dX8_fingerprint_139 rfl (lv_at hl 2 rfl) ?_
                    refine lv_iconst (v := nI 1) hx hb dX8_fingerprint_140 (by decide) ?_
                    refine callV_i (As := [.int (nI 1)]) (rest := [.long ((lN 31) * (((lN 31) * (((lN 31) * (foldB (f_blk wd hd nb wl sh bw bh ps) (fold9 (fun i => f_cel wl sh ps i nb) (fold9 (f_frame wd hd nb wl st sl gl aq sh ps) (lN 199) 9) (wd * hd)) b)) + ((f_states (kst wd hd nb wl sh bw bh none) (pkey ps nb)).toInt64))) + ((f_dist (kst wd hd nb wl sh bw bh none) (mvk wd hd nb wl sh bw bh none false) gl aq (pkey ps nb)).toInt64)))]) [0, 1, 2, 3, 4, 5, 6, 7, 8, 9, 10, 11, 12] hC hK hN hP hD rfl (by decide) hS 0 (ci := 8) rfl rfl rfl (c_X8_distanceOf l D cI cJ cB o kv kp kx kl kh ki kf kq ka kt kd kn mpm mty mwi mhi mwa mle n2_128 l2_128 go2_128 tm2_128 mpa mtx mlt mha mfi qa2_128 T2_128 L2_128 K2_128 fa2_128 F2_128 wd hd nb wl st sl gl aq lb sh bw bh ps true htv) q900 md_X8_distanceOf rfl hl.1 rfl (Nat.le_of_ble_eq_true rfl) dX8_fingerprint_141 ⟨Nat.le_of_ble_eq_true rfl, Nat.le_of_ble_eq_true rfl⟩ ⟨Nat.le_of_ble_eq_true rfl, Nat.le_of_ble_eq_true rfl⟩ (fun r_141 w H locs hpost hP hD hS => ?_)
                    obtain ⟨go2_141, K2_141, n2_141, T2_141, tm2_141, F2_141, L2_141, l2_141, fa2_141, qa2_141, rfl, rfl⟩ := hpost
                    have hP : va_P D vwCl (mW cI cJ cB o kv kp kx kl kh ki kf kq ka kt kd kn (nI mpm) (nI mty) (nI mwi) (nI mhi) (nI mwa) (nI mle) (gI go2_141) (nI n2_141) (bI tm2_141) (nI l2_141) (vF wd hd nb wl st sl gl aq lb sh bw bh ps) mpa (fun zz => nI (mtx zz)) (fun zz => nI (mlt zz)) (fun zz => nI (mha zz)) (fun zz => nI (mfi zz)) (fun zz => oI (fa2_141 zz)) (fun zz => nI (qa2_141 zz)) (fun zz => lN (K2_141 zz)) (fun zz => nI (T2_141 zz)) (fun zz => oI (F2_141 zz)) (fun zz => nI (L2_141 zz))) H := hP
                    have hD : va_D A (mW cI cJ cB o kv kp kx kl kh ki kf kq ka kt kd kn (nI mpm) (nI mty) (nI mwi) (nI mhi) (nI mwa) (nI mle) (gI go2_141) (nI n2_141) (bI tm2_141) (nI l2_141) (vF wd hd nb wl st sl gl aq lb sh bw bh ps) mpa (fun zz => nI (mtx zz)) (fun zz => nI (mlt zz)) (fun zz => nI (mha zz)) (fun zz => nI (mfi zz)) (fun zz => oI (fa2_141 zz)) (fun zz => nI (qa2_141 zz)) (fun zz => lN (K2_141 zz)) (fun zz => nI (T2_141 zz)) (fun zz => oI (F2_141 zz)) (fun zz => nI (L2_141 zz))) := hD
                    refine lv_i2l hx hb dX8_fingerprint_144 rfl ?_
                    refine lv_ladd hx hb dX8_fingerprint_145 ?_
                    rw [hQ]
                    exact W.lret (v := ((lN 31) * (((lN 31) * (((lN 31) * (foldB (f_blk wd hd nb wl sh bw bh ps) (fold9 (fun i => f_cel wl sh ps i nb) (fold9 (f_frame wd hd nb wl st sl gl aq sh ps) (lN 199) 9) (wd * hd)) b)) + ((f_states (kst wd hd nb wl sh bw bh none) (pkey ps nb)).toInt64))) + ((f_dist (kst wd hd nb wl sh bw bh none) (mvk wd hd nb wl sh bw bh none false) gl aq (pkey ps nb)).toInt64))) + ((f_dist (kst wd hd nb wl sh bw bh none) (mvk wd hd nb wl sh bw bh none true) gl aq (pkey ps nb)).toInt64)) hx hb hr (fun t9 ht hW => ⟨⟨_, _, rfl, ⟨go2_141, K2_141, n2_141, T2_141, tm2_141, F2_141, L2_141, l2_141, fa2_141, qa2_141, (by rw [e69]; rfl), rfl⟩, by rw [ht]; exact hP, rfl⟩, hS.F ht⟩) hS.2.2 dX8_fingerprint_146
                  · have _ : True := trivial
                    refine lv_iconst (v := nI 0) hx hb dX8_fingerprint_72 (by decide) ?_
                    refine lv_istore (lv' := [(4, .int (nI 0)), (1, .long (foldB (f_blk wd hd nb wl sh bw bh ps) (fold9 (fun i => f_cel wl sh ps i nb) (fold9 (f_frame wd hd nb wl st sl gl aq sh ps) (lN 199) 9) (wd * hd)) b)), (3, .int (nI b)), (0, .ref o)]) hx hb dX8_fingerprint_73 hl (by decide) rfl (fun ls hl => ?_)
                    have L75 : ∀ (n : Nat) (k : Nat) (go : Option Nat) (fa : Nat → Option Nat) (qa : Nat → Nat), (k ≤ 7) → (7 - k) < n → ∀ (H : Heap) (locs : List Loc), va_P D vwCl (mW cI cJ cB o kv kp kx kl kh ki kf kq ka kt kd kn (nI mpm) (nI mty) (nI mwi) (nI mhi) (nI mwa) (nI mle) (gI go) (nI mam) (bI mtm) (nI mli) (vF wd hd nb wl st sl gl aq lb sh bw bh ps) mpa (fun zz => nI (mtx zz)) (fun zz => nI (mlt zz)) (fun zz => nI (mha zz)) (fun zz => nI (mfi zz)) (fun zz => oI (fa zz)) (fun zz => nI (qa zz)) (fun zz => lN (mal zz)) (fun zz => nI (mta zz)) (fun zz => oI (mdi zz)) (fun zz => nI (mln zz))) H → va_D A (mW cI cJ cB o kv kp kx kl kh ki kf kq ka kt kd kn (nI mpm) (nI mty) (nI mwi) (nI mhi) (nI mwa) (nI mle) (gI go) (nI mam) (bI mtm) (nI mli) (vF wd hd nb wl st sl gl aq lb sh bw bh ps) mpa (fun zz => nI (mtx zz)) (fun zz => nI (mlt zz)) (fun zz => nI (mha zz)) (fun zz => nI (mfi zz)) (fun zz => oI (fa zz)) (fun zz => nI (qa zz)) (fun zz => lN (mal zz)) (fun zz => nI (mta zz)) (fun zz => oI (mdi zz)) (fun zz => nI (mln zz))) → va_S A s.heap H locs → ∀ ls : Array Slot, lv_has ls 5 [(1, .long (fold9 ((f_blk wd hd nb wl sh bw bh ps) b) (foldB (f_blk wd hd nb wl sh bw bh ps) (fold9 (fun i => f_cel wl sh ps i nb) (fold9 (f_frame wd hd nb wl st sl gl aq sh ps) (lN 199) 9) (wd * hd)) b) k)), (4, .int (nI k)), (3, .int (nI b)), (0, .ref o)] → W p l e (rmN 6) s m args below meth c H locs 0 0 QQ (F0 m 75 ls []) := by
                      intro n; induction n with
                      | zero => intro k go fa qa ik hm; exact absurd hm (Nat.not_lt_zero _)
                      | succ n ih75 =>
                        intro k go fa qa ik hm75 H locs hP hD hS ls hl
                        refine lv_iload hx hb dX8_fingerprint_75 (lv_at hl 1 rfl) ?_
                        refine lv_bipush (v := nI 7) hx hb dX8_fingerprint_77 (by decide) ?_
                        refine n_icmp_ge (a := k) (b := 7) (tgt := 103) hx hb dX8_fingerprint_79 (by decide) (by omega) (by omega) (fun c79 => ?_) (fun c79 => ?_)
                        · have _ : True := trivial
                          have e79 : k = 7 := by omega
                          subst e79
                          refine lv_iinc (v := nI (b + 1)) (lv' := [(3, .int (nI (b + 1))), (1, .long (foldB (f_blk wd hd nb wl sh bw bh ps) (fold9 (fun i => f_cel wl sh ps i nb) (fold9 (f_frame wd hd nb wl st sl gl aq sh ps) (lN 199) 9) (wd * hd)) (b + 1))), (4, .int (nI 7)), (0, .ref o)]) hx hb dX8_fingerprint_103 hl (k := 2) rfl (nI_1 _) (by decide) rfl (fun ls hl => ?_)
                          refine lv_goto (tgt := 62) hx hb dX8_fingerprint_106 (by decide) ?_
                          exact ih62 (b + 1) go fa qa (by omega) (by omega) _ _ hP hD hS _ (lv_sub hl [1, 0, 3] rfl)
                        · have _ : True := trivial
                          refine lv_ldc2 (v := lN 31) hx hb hC.2.2.2.1 (hC.2.2.2.2 _ q807) dX8_fingerprint_82 ?_
                          refine lv_lload_n hx hb dX8_fingerprint_85 rfl (lv_at hl 0 rfl) ?_
                          refine lv_lmul hx hb dX8_fingerprint_86 ?_
                          refine lv_aload_n hx hb dX8_fingerprint_87 rfl (lv_at hl 3 rfl) ?_
                          refine lv_iload_n hx hb dX8_fingerprint_88 rfl (lv_at hl 2 rfl) ?_
                          refine lv_iload hx hb dX8_fingerprint_89 (lv_at hl 1 rfl) ?_
                          refine callV_i (As := [.int (nI b), .int (nI k)]) (rest := [.long ((lN 31) * (fold9 ((f_blk wd hd nb wl sh bw bh ps) b) (foldB (f_blk wd hd nb wl sh bw bh ps) (fold9 (fun i => f_cel wl sh ps i nb) (fold9 (f_frame wd hd nb wl st sl gl aq sh ps) (lN 199) 9) (wd * hd)) b) k))]) [0, 1, 2, 3, 4, 5, 6, 7, 8, 9, 10, 11, 12] hC hK hN hP hD rfl (by decide) hS 0 (ci := 8) rfl rfl rfl (c_X8_told l D cI cJ cB o kv kp kx kl kh ki kf kq ka kt kd kn mpm mty mwi mhi mwa mle mam mli go mtm mpa mtx mlt mha mfi qa mta mln mal fa mdi wd hd nb wl st sl gl aq lb sh bw bh ps b k htv c69 (by omega)) q839 md_X8_told rfl hl.1 rfl (Nat.le_of_ble_eq_true rfl) dX8_fingerprint_91 ⟨Nat.le_of_ble_eq_true rfl, Nat.le_of_ble_eq_true rfl⟩ ⟨Nat.le_of_ble_eq_true rfl, Nat.le_of_ble_eq_true rfl⟩ (fun r_91 w H locs hpost hP hD hS => ?_)
                          obtain ⟨fa2_91, qa2_91, rfl, rfl⟩ := hpost
                          have hP : va_P D vwCl (mW cI cJ cB o kv kp kx kl kh ki kf kq ka kt kd kn (nI mpm) (nI mty) (nI mwi) (nI mhi) (nI mwa) (nI mle) (gI none) (nI mam) (bI mtm) (nI mli) (vF wd hd nb wl st sl gl aq lb sh bw bh ps) mpa (fun zz => nI (mtx zz)) (fun zz => nI (mlt zz)) (fun zz => nI (mha zz)) (fun zz => nI (mfi zz)) (fun zz => oI (fa2_91 zz)) (fun zz => nI (qa2_91 zz)) (fun zz => lN (mal zz)) (fun zz => nI (mta zz)) (fun zz => oI (mdi zz)) (fun zz => nI (mln zz))) H := hP
                          have hD : va_D A (mW cI cJ cB o kv kp kx kl kh ki kf kq ka kt kd kn (nI mpm) (nI mty) (nI mwi) (nI mhi) (nI mwa) (nI mle) (gI none) (nI mam) (bI mtm) (nI mli) (vF wd hd nb wl st sl gl aq lb sh bw bh ps) mpa (fun zz => nI (mtx zz)) (fun zz => nI (mlt zz)) (fun zz => nI (mha zz)) (fun zz => nI (mfi zz)) (fun zz => oI (fa2_91 zz)) (fun zz => nI (qa2_91 zz)) (fun zz => lN (mal zz)) (fun zz => nI (mta zz)) (fun zz => oI (mdi zz)) (fun zz => nI (mln zz))) := hD
                          refine lv_i2l hx hb dX8_fingerprint_94 rfl ?_
                          refine lv_ladd hx hb dX8_fingerprint_95 ?_
                          refine topl (y := fold9 ((f_blk wd hd nb wl sh bw bh ps) b) (foldB (f_blk wd hd nb wl sh bw bh ps) (fold9 (fun i => f_cel wl sh ps i nb) (fold9 (f_frame wd hd nb wl st sl gl aq sh ps) (lN 199) 9) (wd * hd)) b) (k + 1)) rfl ?_
                          refine lv_lstore_n (lv' := [(1, .long (fold9 ((f_blk wd hd nb wl sh bw bh ps) b) (foldB (f_blk wd hd nb wl sh bw bh ps) (fold9 (fun i => f_cel wl sh ps i nb) (fold9 (f_frame wd hd nb wl st sl gl aq sh ps) (lN 199) 9) (wd * hd)) b) (k + 1))), (4, .int (nI k)), (3, .int (nI b)), (0, .ref o)]) hx hb dX8_fingerprint_96 rfl hl (by decide) rfl (fun ls hl => ?_)
                          refine lv_iinc (v := nI (k + 1)) (lv' := [(4, .int (nI (k + 1))), (1, .long (fold9 ((f_blk wd hd nb wl sh bw bh ps) b) (foldB (f_blk wd hd nb wl sh bw bh ps) (fold9 (fun i => f_cel wl sh ps i nb) (fold9 (f_frame wd hd nb wl st sl gl aq sh ps) (lN 199) 9) (wd * hd)) b) (k + 1))), (3, .int (nI b)), (0, .ref o)]) hx hb dX8_fingerprint_97 hl (k := 1) rfl (nI_1 _) (by decide) rfl (fun ls hl => ?_)
                          refine lv_goto (tgt := 75) hx hb dX8_fingerprint_100 (by decide) ?_
                          exact ih75 (k + 1) none fa2_91 qa2_91 (by omega) (by omega) _ _ hP hD hS _ (lv_sub hl [1, 0, 2, 3] rfl)
                    exact L75 _ 0 go fa qa (by omega) (Nat.lt_succ_self _) _ _ hP hD hS _ (lv_sub hl [1, 0, 2, 3] rfl)
              exact L62 _ 0 go mfa mqu (by omega) (Nat.lt_succ_self _) _ _ hP hD hS _ (lv_sub hl [1, 0, 2] rfl)
            · have _ : True := trivial
              refine lv_ldc2 (v := lN 31) hx hb hC.2.2.2.1 (hC.2.2.2.2 _ q807) dX8_fingerprint_41 ?_
              refine lv_lload_n hx hb dX8_fingerprint_44 rfl (lv_at hl 0 rfl) ?_
              refine lv_lmul hx hb dX8_fingerprint_45 ?_
              refine lv_aload_n hx hb dX8_fingerprint_46 rfl (lv_at hl 2 rfl) ?_
              refine lv_iload_n hx hb dX8_fingerprint_47 rfl (lv_at hl 1 rfl) ?_
              refine callV_i (As := [.int (nI k)]) (rest := [.long ((lN 31) * (fold9 (fun i => f_cel wl sh ps i nb) (fold9 (f_frame wd hd nb wl st sl gl aq sh ps) (lN 199) 9) k))]) [0, 1, 2, 3, 4, 5, 6, 7, 8, 9, 10, 11, 12] hC hK hN hP hD rfl (by decide) hS 0 (ci := 8) rfl rfl rfl (c_X8_inCell l D cI cJ cB o kv kp kx kl kh ki kf kq ka kt kd kn mpm mty mwi mhi mwa mle mam mli go mtm mpa mtx mlt mha mfi mqu mta mln mal mfa mdi wd hd nb wl st sl gl aq lb sh bw bh ps k htv (by omega)) q827 md_X8_inCell rfl hl.1 rfl (Nat.le_of_ble_eq_true rfl) dX8_fingerprint_48 ⟨Nat.le_of_ble_eq_true rfl, Nat.le_of_ble_eq_true rfl⟩ ⟨Nat.le_of_ble_eq_true rfl, Nat.le_of_ble_eq_true rfl⟩ (fun r_48 w H locs hpost hP hD hS => ?_)
              obtain ⟨rfl, rfl⟩ := hpost
              have hP : va_P D vwCl (mW cI cJ cB o kv kp kx kl kh ki kf kq ka kt kd kn (nI mpm) (nI mty) (nI mwi) (nI mhi) (nI mwa) (nI mle) (gI go) (nI mam) (bI mtm) (nI mli) (vF wd hd nb wl st sl gl aq lb sh bw bh ps) mpa (fun zz => nI (mtx zz)) (fun zz => nI (mlt zz)) (fun zz => nI (mha zz)) (fun zz => nI (mfi zz)) (fun zz => oI (mfa zz)) (fun zz => nI (mqu zz)) (fun zz => lN (mal zz)) (fun zz => nI (mta zz)) (fun zz => oI (mdi zz)) (fun zz => nI (mln zz))) H := hP
              have hD : va_D A (mW cI cJ cB o kv kp kx kl kh ki kf kq ka kt kd kn (nI mpm) (nI mty) (nI mwi) (nI mhi) (nI mwa) (nI mle) (gI go) (nI mam) (bI mtm) (nI mli) (vF wd hd nb wl st sl gl aq lb sh bw bh ps) mpa (fun zz => nI (mtx zz)) (fun zz => nI (mlt zz)) (fun zz => nI (mha zz)) (fun zz => nI (mfi zz)) (fun zz => oI (mfa zz)) (fun zz => nI (mqu zz)) (fun zz => lN (mal zz)) (fun zz => nI (mta zz)) (fun zz => oI (mdi zz)) (fun zz => nI (mln zz))) := hD
              refine lv_i2l hx hb dX8_fingerprint_51 rfl ?_
              refine lv_ladd hx hb dX8_fingerprint_52 ?_
              refine topl (y := fold9 (fun i => f_cel wl sh ps i nb) (fold9 (f_frame wd hd nb wl st sl gl aq sh ps) (lN 199) 9) (k + 1)) rfl ?_
              refine lv_lstore_n (lv' := [(1, .long (fold9 (fun i => f_cel wl sh ps i nb) (fold9 (f_frame wd hd nb wl st sl gl aq sh ps) (lN 199) 9) (k + 1))), (3, .int (nI k)), (0, .ref o)]) hx hb dX8_fingerprint_53 rfl hl (by decide) rfl (fun ls hl => ?_)
              refine lv_iinc (v := nI (k + 1)) (lv' := [(3, .int (nI (k + 1))), (1, .long (fold9 (fun i => f_cel wl sh ps i nb) (fold9 (f_frame wd hd nb wl st sl gl aq sh ps) (lN 199) 9) (k + 1))), (0, .ref o)]) hx hb dX8_fingerprint_54 hl (k := 1) rfl (nI_1 _) (by decide) rfl (fun ls hl => ?_)
              refine lv_goto (tgt := 33) hx hb dX8_fingerprint_57 (by decide) ?_
              exact ih33 (k + 1) go (by omega) (by omega) _ _ hP hD hS _ (lv_sub hl [1, 0, 2] rfl)
        exact L33 _ 0 go (by omega) (Nat.lt_succ_self _) _ _ hP hD hS _ (lv_sub hl [1, 0, 2] rfl)
      · have _ : True := trivial
        refine lv_ldc2 (v := lN 31) hx hb hC.2.2.2.1 (hC.2.2.2.2 _ q807) dX8_fingerprint_12 ?_
        refine lv_lload_n hx hb dX8_fingerprint_15 rfl (lv_at hl 0 rfl) ?_
        refine lv_lmul hx hb dX8_fingerprint_16 ?_
        refine lv_aload_n hx hb dX8_fingerprint_17 rfl (lv_at hl 2 rfl) ?_
        refine lv_iload_n hx hb dX8_fingerprint_18 rfl (lv_at hl 1 rfl) ?_
        refine callV_i (As := [.int (nI k)]) (rest := [.long ((lN 31) * (fold9 (f_frame wd hd nb wl st sl gl aq sh ps) (lN 199) k))]) [0, 1, 2, 3, 4, 5, 6, 7, 8, 9, 10, 11, 12] hC hK hN hP hD rfl (by decide) hS 0 (ci := 8) rfl rfl rfl (c_X8_frameOf l D cI cJ cB o kv kp kx kl kh ki kf kq ka kt kd kn mpm mty mwi mhi mwa mle mam mli go mtm mpa mtx mlt mha mfi mqu mta mln mal mfa mdi wd hd nb wl st sl gl aq lb sh bw bh ps k htv (by omega)) q792 md_X8_frameOf rfl hl.1 rfl (Nat.le_of_ble_eq_true rfl) dX8_fingerprint_19 ⟨Nat.le_of_ble_eq_true rfl, Nat.le_of_ble_eq_true rfl⟩ ⟨Nat.le_of_ble_eq_true rfl, Nat.le_of_ble_eq_true rfl⟩ (fun r_19 w H locs hpost hP hD hS => ?_)
        obtain ⟨rfl, rfl⟩ := hpost
        have hP : va_P D vwCl (mW cI cJ cB o kv kp kx kl kh ki kf kq ka kt kd kn (nI mpm) (nI mty) (nI mwi) (nI mhi) (nI mwa) (nI mle) (gI none) (nI mam) (bI mtm) (nI mli) (vF wd hd nb wl st sl gl aq lb sh bw bh ps) mpa (fun zz => nI (mtx zz)) (fun zz => nI (mlt zz)) (fun zz => nI (mha zz)) (fun zz => nI (mfi zz)) (fun zz => oI (mfa zz)) (fun zz => nI (mqu zz)) (fun zz => lN (mal zz)) (fun zz => nI (mta zz)) (fun zz => oI (mdi zz)) (fun zz => nI (mln zz))) H := hP
        have hD : va_D A (mW cI cJ cB o kv kp kx kl kh ki kf kq ka kt kd kn (nI mpm) (nI mty) (nI mwi) (nI mhi) (nI mwa) (nI mle) (gI none) (nI mam) (bI mtm) (nI mli) (vF wd hd nb wl st sl gl aq lb sh bw bh ps) mpa (fun zz => nI (mtx zz)) (fun zz => nI (mlt zz)) (fun zz => nI (mha zz)) (fun zz => nI (mfi zz)) (fun zz => oI (mfa zz)) (fun zz => nI (mqu zz)) (fun zz => lN (mal zz)) (fun zz => nI (mta zz)) (fun zz => oI (mdi zz)) (fun zz => nI (mln zz))) := hD
        refine lv_i2l hx hb dX8_fingerprint_22 rfl ?_
        refine lv_ladd hx hb dX8_fingerprint_23 ?_
        refine topl (y := fold9 (f_frame wd hd nb wl st sl gl aq sh ps) (lN 199) (k + 1)) rfl ?_
        refine lv_lstore_n (lv' := [(1, .long (fold9 (f_frame wd hd nb wl st sl gl aq sh ps) (lN 199) (k + 1))), (3, .int (nI k)), (0, .ref o)]) hx hb dX8_fingerprint_24 rfl hl (by decide) rfl (fun ls hl => ?_)
        refine lv_iinc (v := nI (k + 1)) (lv' := [(3, .int (nI (k + 1))), (1, .long (fold9 (f_frame wd hd nb wl st sl gl aq sh ps) (lN 199) (k + 1))), (0, .ref o)]) hx hb dX8_fingerprint_25 hl (k := 1) rfl (nI_1 _) (by decide) rfl (fun ls hl => ?_)
        refine lv_goto (tgt := 6) hx hb dX8_fingerprint_28 (by decide) ?_
        exact ih6 (k + 1) none (by omega) (by omega) _ _ hP hD hS _ (lv_sub hl [1, 0, 2] rfl)
  exact L6 _ 0 mgo (by omega) (Nat.lt_succ_self _) _ _ hP hD hS _ (lv_sub hl [1, 0, 2] rfl)
