set_option maxHeartbeats 400000 in
set_option maxRecDepth 100000 in
theorem c_X8_step (l : Launch) (D : va_G) (cI cJ cB : ClassId) (o kv kp kx kl kh ki kf kq ka kt kd kn mpm mty mwi mhi mwa mle mam mli : Nat) (mgo : Option Nat) (mtm : Bool) (mpa : Nat → Int32) (mtx mlt mha mfi mqu mta mln mal : Nat → Nat) (mfa mdi : Nat → Option Nat) (wd hd nb wl : Nat) (st sl : Int32) (gl aq lb : Option Nat) (sh bw bh ps : Nat → Nat) (hh : Nat → Nat → Int32) (x y : Int32) (htv : TV wd hd nb wl sh bw bh ps gl aq lb) (hph : PH mpa mpm hh) : Met l yX8_step (Cond.code yX8_step cX8_step 4 (some .int) :: lw_all) (rmN 3) (va_Pc [.ref o, .int x, .int y] (pB D (tyz cI cJ cB) (mW cI cJ cB o kv kp kx kl kh ki kf kq ka kt kd kn (nI mpm) (nI mty) (nI mwi) (nI mhi) (nI mwa) (nI mle) (gI mgo) (nI mam) (bI mtm) (nI mli) (vF wd hd nb wl st sl gl aq lb sh bw bh ps) mpa (fun zz => nI (mtx zz)) (fun zz => nI (mlt zz)) (fun zz => nI (mha zz)) (fun zz => nI (mfi zz)) (fun zz => oI (mfa zz)) (fun zz => nI (mqu zz)) (fun zz => lN (mal zz)) (fun zz => nI (mta zz)) (fun zz => oI (mdi zz)) (fun zz => nI (mln zz))))) (va_Qi (fun (r : Int32) (w : va_W) => ∃ go2 : Option Nat, ∃ fa2 : Nat → Option Nat, ∃ qa2 : Nat → Nat, ∃ st2 : Int32, ∃ sl2 : Int32, ∃ lb2 : Option Nat, ∃ ps2 : Nat → Nat, ∃ pa2 : Nat → Int32, ∃ pm2 : Nat, ∃ h2 : Nat → Nat → Int32, r = f_stepr wd hd nb wl sh bw bh ps x y ∧ w = mW cI cJ cB o kv kp kx kl kh ki kf kq ka kt kd kn (nI pm2) (nI mty) (nI mwi) (nI mhi) (nI mwa) (nI mle) (gI go2) (nI mam) (bI mtm) (nI mli) (vF wd hd nb wl st2 sl2 gl aq lb2 sh bw bh ps2) pa2 (fun zz => nI (mtx zz)) (fun zz => nI (mlt zz)) (fun zz => nI (mha zz)) (fun zz => nI (mfi zz)) (fun zz => oI (fa2 zz)) (fun zz => nI (qa2 zz)) (fun zz => lN (mal zz)) (fun zz => nI (mta zz)) (fun zz => oI (mdi zz)) (fun zz => nI (mln zz)) ∧ MVD (f_stepm wd hd nb wl sh bw bh ps x y) st sl lb ps st2 sl2 lb2 ps2 ∧ HIS (f_stepm wd hd nb wl sh bw bh ps x y).isSome (vF wd hd nb wl st sl gl aq lb sh bw bh ps) mpm hh pa2 pm2 h2) (gB D (mW cI cJ cB o kv kp kx kl kh ki kf kq ka kt kd kn (nI mpm) (nI mty) (nI mwi) (nI mhi) (nI mwa) (nI mle) (gI mgo) (nI mam) (bI mtm) (nI mli) (vF wd hd nb wl st sl gl aq lb sh bw bh ps) mpa (fun zz => nI (mtx zz)) (fun zz => nI (mlt zz)) (fun zz => nI (mha zz)) (fun zz => nI (mfi zz)) (fun zz => oI (mfa zz)) (fun zz => nI (mqu zz)) (fun zz => lN (mal zz)) (fun zz => nI (mta zz)) (fun zz => oI (mdi zz)) (fun zz => nI (mln zz)))) (aW (mW cI cJ cB o kv kp kx kl kh ki kf kq ka kt kd kn (nI mpm) (nI mty) (nI mwi) (nI mhi) (nI mwa) (nI mle) (gI mgo) (nI mam) (bI mtm) (nI mli) (vF wd hd nb wl st sl gl aq lb sh bw bh ps) mpa (fun zz => nI (mtx zz)) (fun zz => nI (mlt zz)) (fun zz => nI (mha zz)) (fun zz => nI (mfi zz)) (fun zz => oI (mfa zz)) (fun zz => nI (mqu zz)) (fun zz => lN (mal zz)) (fun zz => nI (mta zz)) (fun zz => oI (mdi zz)) (fun zz => nI (mln zz))))) 0 0 (aW (mW cI cJ cB o kv kp kx kl kh ki kf kq ka kt kd kn (nI mpm) (nI mty) (nI mwi) (nI mhi) (nI mwa) (nI mle) (gI mgo) (nI mam) (bI mtm) (nI mli) (vF wd hd nb wl st sl gl aq lb sh bw bh ps) mpa (fun zz => nI (mtx zz)) (fun zz => nI (mlt zz)) (fun zz => nI (mha zz)) (fun zz => nI (mfi zz)) (fun zz => oI (mfa zz)) (fun zz => nI (mqu zz)) (fun zz => lN (mal zz)) (fun zz => nI (mta zz)) (fun zz => oI (mdi zz)) (fun zz => nI (mln zz)))) := by
  refine Met.ofW (cc := cX8_step) (maxL := 4) (ret := (some .int)) (by decide) rfl ?_
  intro p e s m args below meth c s₁ B hml hv
  obtain ⟨rfl, hK, hN, hP, hD0⟩ := hv
  have hx := B.exec; have hb := B.bytes; have hr := B.returns; have hlocks := B.notSynchronized
  have hts0 := atoms_spec (ws := Cond.code yX8_step cX8_step 4 (some .int) :: lw_all) B.pre
  have hC : CallFix p m c cX8_step 4 s _ lw_all RX8 := ⟨hx, hb, hml, findClass_of_methodNamed B.named, fun w h => hts0 w (List.mem_cons_of_mem _ h)⟩
  have hD : va_D (aW (mW cI cJ cB o kv kp kx kl kh ki kf kq ka kt kd kn (nI mpm) (nI mty) (nI mwi) (nI mhi) (nI mwa) (nI mle) (gI mgo) (nI mam) (bI mtm) (nI mli) (vF wd hd nb wl st sl gl aq lb sh bw bh ps) mpa (fun zz => nI (mtx zz)) (fun zz => nI (mlt zz)) (fun zz => nI (mha zz)) (fun zz => nI (mfi zz)) (fun zz => oI (mfa zz)) (fun zz => nI (mqu zz)) (fun zz => lN (mal zz)) (fun zz => nI (mta zz)) (fun zz => oI (mdi zz)) (fun zz => nI (mln zz)))) (mW cI cJ cB o kv kp kx kl kh ki kf kq ka kt kd kn (nI mpm) (nI mty) (nI mwi) (nI mhi) (nI mwa) (nI mle) (gI mgo) (nI mam) (bI mtm) (nI mli) (vF wd hd nb wl st sl gl aq lb sh bw bh ps) mpa (fun zz => nI (mtx zz)) (fun zz => nI (mlt zz)) (fun zz => nI (mha zz)) (fun zz => nI (mfi zz)) (fun zz => oI (mfa zz)) (fun zz => nI (mqu zz)) (fun zz => lN (mal zz)) (fun zz => nI (mta zz)) (fun zz => oI (mdi zz)) (fun zz => nI (mln zz))) := ⟨hD0.1, fun k q h => ⟨k, q.2, h⟩⟩
  generalize hAe : aW (mW cI cJ cB o kv kp kx kl kh ki kf kq ka kt kd kn (nI mpm) (nI mty) (nI mwi) (nI mhi) (nI mwa) (nI mle) (gI mgo) (nI mam) (bI mtm) (nI mli) (vF wd hd nb wl st sl gl aq lb sh bw bh ps) mpa (fun zz => nI (mtx zz)) (fun zz => nI (mlt zz)) (fun zz => nI (mha zz)) (fun zz => nI (mfi zz)) (fun zz => oI (mfa zz)) (fun zz => nI (mqu zz)) (fun zz => lN (mal zz)) (fun zz => nI (mta zz)) (fun zz => oI (mdi zz)) (fun zz => nI (mln zz))) = A at hD ⊢
  have hS : va_S A s.heap s.heap [] := va_S.rf
  have hl := lv_entry ([.ref o, .int x, .int y]) (n := 4) (Nat.le_of_ble_eq_true rfl)
  rw [lg_entry_eq]
  generalize (lg_sl ([.ref o, .int x, .int y]) ++ List.replicate (4 - (lg_sl ([.ref o, .int x, .int y])).length) Slot.unset).toArray = ls at hl ⊢
  have hl : lv_has ls 4 [(0, .ref o), (1, .int x), (2, .int y)] := hl
  generalize hav : ([.ref o, .int x, .int y] : List Value).toArray = args at hC ⊢
  refine W_gen (fun QQ hQ => ?_)
  show W p l e (rmN 3) s m args below meth c s.heap [] 0 0 QQ (F0 m 0 ls [])
  obtain ⟨hf, hps, hk1, hga, hlb⟩ := id htv
  have hn7 := hf.2.2.2.2.2.1
  have h24 := hf.2.2.2.2.1
  refine lv_aload_n hx hb dX8_step_0 rfl (lv_at hl 0 rfl) ?_
  refine lv_iload_n hx hb dX8_step_1 rfl (lv_at hl 1 rfl) ?_
  refine callV_i (As := [.int x]) (rest := []) [0, 1, 2, 3, 4, 5, 6, 7, 8, 9, 10, 11, 12] hC hK hN hP hD rfl (by decide) hS 0 (ci := 8) rfl rfl rfl (c_X8_isBlock l D cI cJ cB o kv kp kx kl kh ki kf kq ka kt kd kn mpm mty mwi mhi mwa mle mam mli mgo mtm mpa mtx mlt mha mfi mqu mta mln mal mfa mdi wd hd nb wl st sl gl aq lb sh bw bh ps x ) q835 md_X8_isBlock rfl hl.1 rfl (Nat.le_of_ble_eq_true rfl) dX8_step_2 ⟨Nat.le_of_ble_eq_true rfl, Nat.le_of_ble_eq_true rfl⟩ ⟨Nat.le_of_ble_eq_true rfl, Nat.le_of_ble_eq_true rfl⟩ (fun r_2 w H locs hpost hP hD hS => ?_)
  obtain ⟨rfl, rfl⟩ := hpost
  have hP : va_P D vwCl (mW cI cJ cB o kv kp kx kl kh ki kf kq ka kt kd kn (nI mpm) (nI mty) (nI mwi) (nI mhi) (nI mwa) (nI mle) (gI mgo) (nI mam) (bI mtm) (nI mli) (vF wd hd nb wl st sl gl aq lb sh bw bh ps) mpa (fun zz => nI (mtx zz)) (fun zz => nI (mlt zz)) (fun zz => nI (mha zz)) (fun zz => nI (mfi zz)) (fun zz => oI (mfa zz)) (fun zz => nI (mqu zz)) (fun zz => lN (mal zz)) (fun zz => nI (mta zz)) (fun zz => oI (mdi zz)) (fun zz => nI (mln zz))) H := hP
  have hD : va_D A (mW cI cJ cB o kv kp kx kl kh ki kf kq ka kt kd kn (nI mpm) (nI mty) (nI mwi) (nI mhi) (nI mwa) (nI mle) (gI mgo) (nI mam) (bI mtm) (nI mli) (vF wd hd nb wl st sl gl aq lb sh bw bh ps) mpa (fun zz => nI (mtx zz)) (fun zz => nI (mlt zz)) (fun zz => nI (mha zz)) (fun zz => nI (mfi zz)) (fun zz => oI (mfa zz)) (fun zz => nI (mqu zz)) (fun zz => lN (mal zz)) (fun zz => nI (mta zz)) (fun zz => oI (mdi zz)) (fun zz => nI (mln zz))) := hD
  refine b_if_eq (tgt := 17) hx hb dX8_step_5 (by decide) (fun c5 => ?_) (fun c5 => ?_)
  · have _ : True := trivial
    refine lv_iconst (v := (-1)) hx hb dX8_step_17 (by decide) ?_
    have hm0 : f_stepm wd hd nb wl sh bw bh ps x y = none := by unfold f_stepm; rw [bOf_none (by omega) c5]
    rw [hQ]
    exact W.iret (v := (-1)) hx hb hr (fun t9 ht hW => ⟨⟨_, _, rfl, ⟨mgo, mfa, mqu, st, sl, lb, ps, mpa, mpm, hh, (by unfold f_stepr; rw [bOf_none (by omega) c5]), rfl, (by rw [hm0]; exact ⟨rfl, rfl, rfl, rfl⟩), (by rw [hm0]; exact HIS_no hph)⟩, by rw [ht]; exact hP, rfl⟩, hS.F ht⟩) hS.2.2 dX8_step_18
  · have _ : True := trivial
    obtain ⟨b, hbn, hxb, hbo⟩ := bOf_some (by omega) c5
    subst hxb
    obtain ⟨hpl, hpe⟩ := KV_pl hn7 hps hk1 hbn
    have hpb := hps b hbn
    have hsb := hf.2.2.2.2.2.2.2 b hbn
    refine lv_iload_n hx hb dX8_step_8 rfl (lv_at hl 2 rfl) ?_
    refine lv_iconst (v := nI 0) hx hb dX8_step_9 (by decide) ?_
    refine lv_iconst (v := nI 3) hx hb dX8_step_10 (by decide) ?_
    refine callS_i (As := [.int y, .int (nI 0), .int (nI 3)]) (rest := []) [] hC hK hN hP hD rfl (by decide) hS (c_X8_in l D cI cJ cB y (nI 0) (nI 3) ) q750 md_X8_in rfl hl.1 rfl (Nat.le_of_ble_eq_true rfl) dX8_step_11 ⟨Nat.le_of_ble_eq_true rfl, Nat.le_of_ble_eq_true rfl⟩ ⟨Nat.le_of_ble_eq_true rfl, Nat.le_of_ble_eq_true rfl⟩ (fun r_11 w H locs hpost hP hD hS => ?_)
    obtain ⟨rfl, rfl⟩ := hpost
    have hP : va_P D vwCl (mW cI cJ cB o kv kp kx kl kh ki kf kq ka kt kd kn (nI mpm) (nI mty) (nI mwi) (nI mhi) (nI mwa) (nI mle) (gI mgo) (nI mam) (bI mtm) (nI mli) (vF wd hd nb wl st sl gl aq lb sh bw bh ps) mpa (fun zz => nI (mtx zz)) (fun zz => nI (mlt zz)) (fun zz => nI (mha zz)) (fun zz => nI (mfi zz)) (fun zz => oI (mfa zz)) (fun zz => nI (mqu zz)) (fun zz => lN (mal zz)) (fun zz => nI (mta zz)) (fun zz => oI (mdi zz)) (fun zz => nI (mln zz))) H := hP
    have hD : va_D A (mW cI cJ cB o kv kp kx kl kh ki kf kq ka kt kd kn (nI mpm) (nI mty) (nI mwi) (nI mhi) (nI mwa) (nI mle) (gI mgo) (nI mam) (bI mtm) (nI mli) (vF wd hd nb wl st sl gl aq lb sh bw bh ps) mpa (fun zz => nI (mtx zz)) (fun zz => nI (mlt zz)) (fun zz => nI (mha zz)) (fun zz => nI (mfi zz)) (fun zz => oI (mfa zz)) (fun zz => nI (mqu zz)) (fun zz => lN (mal zz)) (fun zz => nI (mta zz)) (fun zz => oI (mdi zz)) (fun zz => nI (mln zz))) := hD
    refine b_if_ne (tgt := 19) hx hb dX8_step_14 (by decide) (fun c14 => ?_) (fun c14 => ?_)
    · have _ : True := trivial
      obtain ⟨k, hk9, hyk, hko⟩ := bOf_someK (by decide) c14
      subst hyk
      refine lv_aload_n hx hb dX8_step_19 rfl (lv_at hl 0 rfl) ?_
      refine lv_bipush (v := (-9)) hx hb dX8_step_20 (by decide) ?_
      refine topi (y := gI none) rfl ?_
      refine pf_X8_28 hC hK hP hD hS 0 rfl (Nat.le_of_ble_eq_true rfl) (ws1 := mW cI cJ cB o kv kp kx kl kh ki kf kq ka kt kd kn (nI mpm) (nI mty) (nI mwi) (nI mhi) (nI mwa) (nI mle) (gI none) (nI mam) (bI mtm) (nI mli) (vF wd hd nb wl st sl gl aq lb sh bw bh ps) mpa (fun zz => nI (mtx zz)) (fun zz => nI (mlt zz)) (fun zz => nI (mha zz)) (fun zz => nI (mfi zz)) (fun zz => oI (mfa zz)) (fun zz => nI (mqu zz)) (fun zz => lN (mal zz)) (fun zz => nI (mta zz)) (fun zz => oI (mdi zz)) (fun zz => nI (mln zz))) rfl dX8_step_22 (fun H locs hP hD hS => ?_)
      refine lv_aload_n hx hb dX8_step_25 rfl (lv_at hl 0 rfl) ?_
      refine lv_aload_n hx hb dX8_step_26 rfl (lv_at hl 0 rfl) ?_
      refine callV_l (As := []) (rest := [.ref o]) [0, 1, 2, 3, 4, 5, 6, 7, 8, 9, 10, 11, 12] hC hK hN hP hD rfl (by decide) hS 0 (ci := 8) rfl rfl rfl (c_X8_present l D cI cJ cB o kv kp kx kl kh ki kf kq ka kt kd kn mpm mty mwi mhi mwa mle mam mli none mtm mpa mtx mlt mha mfi mqu mta mln mal mfa mdi wd hd nb wl st sl gl aq lb sh bw bh ps (by omega) hps) q800 md_X8_present rfl hl.1 rfl (Nat.le_of_ble_eq_true rfl) dX8_step_27 ⟨Nat.le_of_ble_eq_true rfl, Nat.le_of_ble_eq_true rfl⟩ ⟨Nat.le_of_ble_eq_true rfl, Nat.le_of_ble_eq_true rfl⟩ (fun r_27 w H locs hpost hP hD hS => ?_)
      obtain ⟨rfl, rfl⟩ := hpost
      have hP : va_P D vwCl (mW cI cJ cB o kv kp kx kl kh ki kf kq ka kt kd kn (nI mpm) (nI mty) (nI mwi) (nI mhi) (nI mwa) (nI mle) (gI none) (nI mam) (bI mtm) (nI mli) (vF wd hd nb wl st sl gl aq lb sh bw bh ps) mpa (fun zz => nI (mtx zz)) (fun zz => nI (mlt zz)) (fun zz => nI (mha zz)) (fun zz => nI (mfi zz)) (fun zz => oI (mfa zz)) (fun zz => nI (mqu zz)) (fun zz => lN (mal zz)) (fun zz => nI (mta zz)) (fun zz => oI (mdi zz)) (fun zz => nI (mln zz))) H := hP
      have hD : va_D A (mW cI cJ cB o kv kp kx kl kh ki kf kq ka kt kd kn (nI mpm) (nI mty) (nI mwi) (nI mhi) (nI mwa) (nI mle) (gI none) (nI mam) (bI mtm) (nI mli) (vF wd hd nb wl st sl gl aq lb sh bw bh ps) mpa (fun zz => nI (mtx zz)) (fun zz => nI (mlt zz)) (fun zz => nI (mha zz)) (fun zz => nI (mfi zz)) (fun zz => oI (mfa zz)) (fun zz => nI (mqu zz)) (fun zz => lN (mal zz)) (fun zz => nI (mta zz)) (fun zz => oI (mdi zz)) (fun zz => nI (mln zz))) := hD
      refine lv_iload_n hx hb dX8_step_30 rfl (lv_at hl 1 rfl) ?_
      refine callV_v (As := [.long (lN (pkey ps nb)), .int (nI b)]) (rest := []) [0, 1, 2, 3, 4, 5, 6, 7, 8, 9, 10, 11, 12] hC hK hN hP hD rfl (by decide) hS 0 (ci := 8) rfl rfl rfl (c_X8_floods l D cI cJ cB o kv kp kx kl kh ki kf kq ka kt kd kn mpm mty mwi mhi mwa mle mam mli none mtm mpa mtx mlt mha mfi mqu mta mln mal mfa mdi wd hd nb wl st sl gl aq lb sh bw bh ps (pkey ps nb) b hf hk1 (fun d h => by cases h) (by omega) (fun h => by cases h)) q843 md_X8_floods rfl hl.1 rfl (Nat.le_of_ble_eq_true rfl) dX8_step_31 ⟨Nat.le_of_ble_eq_true rfl, Nat.le_of_ble_eq_true rfl⟩ ⟨Nat.le_of_ble_eq_true rfl, Nat.le_of_ble_eq_true rfl⟩ (fun w H locs hpost hP hD hS => ?_)
      obtain ⟨F2_31, Q2_31, rfl, hfl, hfb⟩ := hpost
      have hP : va_P D vwCl (mW cI cJ cB o kv kp kx kl kh ki kf kq ka kt kd kn (nI mpm) (nI mty) (nI mwi) (nI mhi) (nI mwa) (nI mle) (gI none) (nI mam) (bI mtm) (nI mli) (vF wd hd nb wl st sl gl aq lb sh bw bh ps) mpa (fun zz => nI (mtx zz)) (fun zz => nI (mlt zz)) (fun zz => nI (mha zz)) (fun zz => nI (mfi zz)) (fun zz => oI (F2_31 zz)) (fun zz => nI (Q2_31 zz)) (fun zz => lN (mal zz)) (fun zz => nI (mta zz)) (fun zz => oI (mdi zz)) (fun zz => nI (mln zz))) H := hP
      have hD : va_D A (mW cI cJ cB o kv kp kx kl kh ki kf kq ka kt kd kn (nI mpm) (nI mty) (nI mwi) (nI mhi) (nI mwa) (nI mle) (gI none) (nI mam) (bI mtm) (nI mli) (vF wd hd nb wl st sl gl aq lb sh bw bh ps) mpa (fun zz => nI (mtx zz)) (fun zz => nI (mlt zz)) (fun zz => nI (mha zz)) (fun zz => nI (mfi zz)) (fun zz => oI (F2_31 zz)) (fun zz => nI (Q2_31 zz)) (fun zz => lN (mal zz)) (fun zz => nI (mta zz)) (fun zz => oI (mdi zz)) (fun zz => nI (mln zz))) := hD
      rw [hpe] at hfl
      refine lv_aload_n hx hb dX8_step_34 rfl (lv_at hl 0 rfl) ?_
      refine lv_iload_n hx hb dX8_step_35 rfl (lv_at hl 1 rfl) ?_
      refine lv_aload_n hx hb dX8_step_36 rfl (lv_at hl 0 rfl) ?_
      refine gf_X8_7 hC hK hP 0 rfl rfl dX8_step_37 ?_
      refine lv_bipush (v := nI 31) hx hb dX8_step_40 (by decide) ?_
      refine lv_iload_n hx hb dX8_step_42 rfl (lv_at hl 1 rfl) ?_
      refine n_iadd hx hb dX8_step_43  ?_
      refine n_iald hx hb hK hP 1 0 rfl rfl (by omega) (by decide) dX8_step_44 ?_
      refine topi (y := nI (ps b)) (vF_ps (by omega)) ?_
      refine lv_iload_n hx hb dX8_step_45 rfl (lv_at hl 2 rfl) ?_
      refine callV_i (As := [.int (nI b), .int (nI (ps b)), .int (nI k)]) (rest := []) [0, 1, 2, 3, 4, 5, 6, 7, 8, 9, 10, 11, 12] hC hK hN hP hD rfl (by decide) hS 0 (ci := 8) rfl rfl rfl (c_X8_beside l D cI cJ cB o kv kp kx kl kh ki kf kq ka kt kd kn mpm mty mwi mhi mwa mle mam mli none mtm mpa mtx mlt mha mfi Q2_31 mta mln mal F2_31 mdi wd hd nb wl st sl gl aq lb sh bw bh ps b (ps b) k (by omega) hf.1 hf.2.1 hf.2.2.2.1 hpb hpl.1 hpl.2 (by omega)) q847 md_X8_beside rfl hl.1 rfl (Nat.le_of_ble_eq_true rfl) dX8_step_46 ⟨Nat.le_of_ble_eq_true rfl, Nat.le_of_ble_eq_true rfl⟩ ⟨Nat.le_of_ble_eq_true rfl, Nat.le_of_ble_eq_true rfl⟩ (fun r_46 w H locs hpost hP hD hS => ?_)
      obtain ⟨rfl, rfl⟩ := hpost
      have hP : va_P D vwCl (mW cI cJ cB o kv kp kx kl kh ki kf kq ka kt kd kn (nI mpm) (nI mty) (nI mwi) (nI mhi) (nI mwa) (nI mle) (gI none) (nI mam) (bI mtm) (nI mli) (vF wd hd nb wl st sl gl aq lb sh bw bh ps) mpa (fun zz => nI (mtx zz)) (fun zz => nI (mlt zz)) (fun zz => nI (mha zz)) (fun zz => nI (mfi zz)) (fun zz => oI (F2_31 zz)) (fun zz => nI (Q2_31 zz)) (fun zz => lN (mal zz)) (fun zz => nI (mta zz)) (fun zz => oI (mdi zz)) (fun zz => nI (mln zz))) H := hP
      have hD : va_D A (mW cI cJ cB o kv kp kx kl kh ki kf kq ka kt kd kn (nI mpm) (nI mty) (nI mwi) (nI mhi) (nI mwa) (nI mle) (gI none) (nI mam) (bI mtm) (nI mli) (vF wd hd nb wl st sl gl aq lb sh bw bh ps) mpa (fun zz => nI (mtx zz)) (fun zz => nI (mlt zz)) (fun zz => nI (mha zz)) (fun zz => nI (mfi zz)) (fun zz => oI (F2_31 zz)) (fun zz => nI (Q2_31 zz)) (fun zz => lN (mal zz)) (fun zz => nI (mta zz)) (fun zz => oI (mdi zz)) (fun zz => nI (mln zz))) := hD
      refine lv_istore_n (lv' := [(3, .int (gI (stp wd hd (bw b) (bh b) (ps b) k))), (0, .ref o), (1, .int (nI b)), (2, .int (nI k))]) hx hb dX8_step_49 rfl hl (by decide) rfl (fun ls hl => ?_)
      refine lv_iload_n hx hb dX8_step_50 rfl (lv_at hl 0 rfl) ?_
      refine g_if_lt (x := stp wd hd (bw b) (bh b) (ps b) k) (tgt := 64) hx hb dX8_step_51 (by decide) (fun d h => by have := fr_lt hf.1 h24 hsb.2.2.1 (stp_pl hf.1 hsb.1 hpl h); omega) (fun c51 => ?_) (fun d51 c51 => ?_)
      · have _ : True := trivial
        have hm9 := mvt_none (s := sh b) (ot := tk wl sh (pkey ps nb) (exb none (some b)) nb) c51
        refine lv_bipush (v := (-2)) hx hb dX8_step_64 (by decide) ?_
        have hm0 : f_stepm wd hd nb wl sh bw bh ps (nI b) (nI k) = none := by unfold f_stepm; rw [hbo, hko]; show (mvt wd hd (bw b) (bh b) (sh b) (tk wl sh (pkey ps nb) (exb none (some b)) nb) (ps b) k).map _ = none; rw [hm9]; rfl
        rw [hQ]
        exact W.iret (v := (-2)) hx hb hr (fun t9 ht hW => ⟨⟨_, _, rfl, ⟨none, F2_31, Q2_31, st, sl, lb, ps, mpa, mpm, hh, (by unfold f_stepr; rw [hbo, hko]; show _ = (match mvt wd hd (bw b) (bh b) (sh b) (tk wl sh (pkey ps nb) (exb none (some b)) nb) (ps b) k with | some q => nI q | none => -2); rw [hm9]), rfl, (by rw [hm0]; exact ⟨rfl, rfl, rfl, rfl⟩), (by rw [hm0]; exact HIS_no hph)⟩, by rw [ht]; exact hP, rfl⟩, hS.F ht⟩) hS.2.2 dX8_step_66
      · have _ : True := trivial
        have hq24 := fr_lt hf.1 h24 hsb.2.2.1 (stp_pl hf.1 hsb.1 hpl c51)
        have ho9 : ∀ d, F2_31 d51 = some d → d < 2 ^ 31 := fun d h => by have := (hfb _ d h).2.2; omega
        have hone := flo_one hf.1 hfl (by omega) c51 (stp_ne hf.1 c51)
        refine lv_aload_n hx hb dX8_step_54 rfl (lv_at hl 1 rfl) ?_
        refine gf_X8_32 hC hK hP 0 rfl rfl dX8_step_55 ?_
        refine lv_iload_n hx hb dX8_step_58 rfl (lv_at hl 0 rfl) ?_
        refine topi (y := nI d51) (by rw [c51]; rfl) ?_
        refine n_iald hx hb hK hP 7 0 rfl rfl hq24 (by decide) dX8_step_59 ?_
        refine lv_iconst (v := nI 1) hx hb dX8_step_60 (by decide) ?_
        refine lv_icmp_eq (tgt := 67) hx hb dX8_step_61 (by decide) (fun c61 => ?_) (fun c61 => ?_)
        · have _ : True := trivial
          have hm9 := hone.mp ((oI_one ho9).mp c61)
          have hm0 : f_stepm wd hd nb wl sh bw bh ps (nI b) (nI k) = some (b, d51, 1, false) := by unfold f_stepm; rw [hbo, hko]; show (mvt wd hd (bw b) (bh b) (sh b) (tk wl sh (pkey ps nb) (exb none (some b)) nb) (ps b) k).map _ = _; rw [hm9]; rfl
          refine lv_aload_n hx hb dX8_step_67 rfl (lv_at hl 1 rfl) ?_
          refine callV_v (As := []) (rest := []) [0, 1, 2, 3, 4, 5, 6, 7, 8, 9, 10, 11, 12] hC hK hN hP hD rfl (by decide) hS 0 (ci := 8) rfl rfl rfl (c_X8_act l D cI cJ cB o kv kp kx kl kh ki kf kq ka kt kd kn mpm mty mwi mhi mwa mle mam mli none mtm mpa mtx mlt mha mfi Q2_31 mta mln mal F2_31 mdi (vF wd hd nb wl st sl gl aq lb sh bw bh ps) hh hph) q780 md_X8_act rfl hl.1 rfl (Nat.le_of_ble_eq_true rfl) dX8_step_68 ⟨Nat.le_of_ble_eq_true rfl, Nat.le_of_ble_eq_true rfl⟩ ⟨Nat.le_of_ble_eq_true rfl, Nat.le_of_ble_eq_true rfl⟩ (fun w H locs hpost hP hD hS => ?_)
          obtain ⟨pa2_68, rfl, hph2⟩ := hpost
          have hP : va_P D vwCl (mW cI cJ cB o kv kp kx kl kh ki kf kq ka kt kd kn (nI (hcnt mpm)) (nI mty) (nI mwi) (nI mhi) (nI mwa) (nI mle) (gI none) (nI mam) (bI mtm) (nI mli) (vF wd hd nb wl st sl gl aq lb sh bw bh ps) pa2_68 (fun zz => nI (mtx zz)) (fun zz => nI (mlt zz)) (fun zz => nI (mha zz)) (fun zz => nI (mfi zz)) (fun zz => oI (F2_31 zz)) (fun zz => nI (Q2_31 zz)) (fun zz => lN (mal zz)) (fun zz => nI (mta zz)) (fun zz => oI (mdi zz)) (fun zz => nI (mln zz))) H := hP
          have hD : va_D A (mW cI cJ cB o kv kp kx kl kh ki kf kq ka kt kd kn (nI (hcnt mpm)) (nI mty) (nI mwi) (nI mhi) (nI mwa) (nI mle) (gI none) (nI mam) (bI mtm) (nI mli) (vF wd hd nb wl st sl gl aq lb sh bw bh ps) pa2_68 (fun zz => nI (mtx zz)) (fun zz => nI (mlt zz)) (fun zz => nI (mha zz)) (fun zz => nI (mfi zz)) (fun zz => oI (F2_31 zz)) (fun zz => nI (Q2_31 zz)) (fun zz => lN (mal zz)) (fun zz => nI (mta zz)) (fun zz => oI (mdi zz)) (fun zz => nI (mln zz))) := hD
          refine lv_aload_n hx hb dX8_step_71 rfl (lv_at hl 1 rfl) ?_
          refine lv_iload_n hx hb dX8_step_72 rfl (lv_at hl 2 rfl) ?_
          refine lv_iload_n hx hb dX8_step_73 rfl (lv_at hl 0 rfl) ?_
          refine topi (y := nI d51) (by rw [c51]; rfl) ?_
          refine lv_iconst (v := nI 1) hx hb dX8_step_74 (by decide) ?_
          refine lv_iconst (v := nI 0) hx hb dX8_step_75 (by decide) ?_
          refine callV_v (As := [.int (nI b), .int (nI d51), .int (nI 1), .int (nI 0)]) (rest := []) [0, 1, 2, 3, 4, 5, 6, 7, 8, 9, 10, 11, 12] hC hK hN hP hD rfl (by decide) hS 0 (ci := 8) rfl rfl rfl (c_X8_moves l D cI cJ cB o kv kp kx kl kh ki kf kq ka kt kd kn (hcnt mpm) mty mwi mhi mwa mle mam mli none mtm pa2_68 mtx mlt mha mfi Q2_31 mta mln mal F2_31 mdi wd hd nb wl st sl gl aq lb sh bw bh ps b d51 1 false (by omega) (fun d h => by have := hlb d h; omega)) q855 md_X8_moves rfl hl.1 rfl (Nat.le_of_ble_eq_true rfl) dX8_step_76 ⟨Nat.le_of_ble_eq_true rfl, Nat.le_of_ble_eq_true rfl⟩ ⟨Nat.le_of_ble_eq_true rfl, Nat.le_of_ble_eq_true rfl⟩ (fun w H locs hpost hP hD hS => ?_)
          obtain rfl := hpost
          have hP : va_P D vwCl (mW cI cJ cB o kv kp kx kl kh ki kf kq ka kt kd kn (nI (hcnt mpm)) (nI mty) (nI mwi) (nI mhi) (nI mwa) (nI mle) (gI none) (nI mam) (bI mtm) (nI mli) (vF wd hd nb wl (st + nI 1) (mvsl sl false lb b) gl aq (some b) sh bw bh (va_up ps b d51)) pa2_68 (fun zz => nI (mtx zz)) (fun zz => nI (mlt zz)) (fun zz => nI (mha zz)) (fun zz => nI (mfi zz)) (fun zz => oI (F2_31 zz)) (fun zz => nI (Q2_31 zz)) (fun zz => lN (mal zz)) (fun zz => nI (mta zz)) (fun zz => oI (mdi zz)) (fun zz => nI (mln zz))) H := hP
          have hD : va_D A (mW cI cJ cB o kv kp kx kl kh ki kf kq ka kt kd kn (nI (hcnt mpm)) (nI mty) (nI mwi) (nI mhi) (nI mwa) (nI mle) (gI none) (nI mam) (bI mtm) (nI mli) (vF wd hd nb wl (st + nI 1) (mvsl sl false lb b) gl aq (some b) sh bw bh (va_up ps b d51)) pa2_68 (fun zz => nI (mtx zz)) (fun zz => nI (mlt zz)) (fun zz => nI (mha zz)) (fun zz => nI (mfi zz)) (fun zz => oI (F2_31 zz)) (fun zz => nI (Q2_31 zz)) (fun zz => lN (mal zz)) (fun zz => nI (mta zz)) (fun zz => oI (mdi zz)) (fun zz => nI (mln zz))) := hD
          refine lv_iload_n hx hb dX8_step_79 rfl (lv_at hl 0 rfl) ?_
          refine topi (y := nI d51) (by rw [c51]; rfl) ?_
          rw [hQ]
          exact W.iret (v := nI d51) hx hb hr (fun t9 ht hW => ⟨⟨_, _, rfl, ⟨none, F2_31, Q2_31, (st + nI 1), (mvsl sl false lb b), (some b), (va_up ps b d51), pa2_68, hcnt mpm, hpush hh mpm (vF wd hd nb wl st sl gl aq lb sh bw bh ps), (by unfold f_stepr; rw [hbo, hko]; show _ = (match mvt wd hd (bw b) (bh b) (sh b) (tk wl sh (pkey ps nb) (exb none (some b)) nb) (ps b) k with | some q => nI q | none => -2); rw [hm9]), rfl, (by rw [hm0]; exact ⟨rfl, rfl, rfl, rfl⟩), (by rw [hm0]; exact HIS_yes hph2)⟩, by rw [ht]; exact hP, rfl⟩, hS.F ht⟩) hS.2.2 dX8_step_80
        · have _ : True := trivial
          have hm9 := mvt_no c51 (fun h => c61 ((oI_one ho9).mpr (hone.mpr h)))
          refine lv_bipush (v := (-2)) hx hb dX8_step_64 (by decide) ?_
          have hm0 : f_stepm wd hd nb wl sh bw bh ps (nI b) (nI k) = none := by unfold f_stepm; rw [hbo, hko]; show (mvt wd hd (bw b) (bh b) (sh b) (tk wl sh (pkey ps nb) (exb none (some b)) nb) (ps b) k).map _ = none; rw [hm9]; rfl
          rw [hQ]
          exact W.iret (v := (-2)) hx hb hr (fun t9 ht hW => ⟨⟨_, _, rfl, ⟨none, F2_31, Q2_31, st, sl, lb, ps, mpa, mpm, hh, (by unfold f_stepr; rw [hbo, hko]; show _ = (match mvt wd hd (bw b) (bh b) (sh b) (tk wl sh (pkey ps nb) (exb none (some b)) nb) (ps b) k with | some q => nI q | none => -2); rw [hm9]), rfl, (by rw [hm0]; exact ⟨rfl, rfl, rfl, rfl⟩), (by rw [hm0]; exact HIS_no hph)⟩, by rw [ht]; exact hP, rfl⟩, hS.F ht⟩) hS.2.2 dX8_step_66
    · have _ : True := trivial
      refine lv_iconst (v := (-1)) hx hb dX8_step_17 (by decide) ?_
      have hm0 : f_stepm wd hd nb wl sh bw bh ps (nI b) y = none := by unfold f_stepm; rw [hbo, bOf_noneK (by decide) c14]
      rw [hQ]
      exact W.iret (v := (-1)) hx hb hr (fun t9 ht hW => ⟨⟨_, _, rfl, ⟨mgo, mfa, mqu, st, sl, lb, ps, mpa, mpm, hh, (by unfold f_stepr; rw [hbo, bOf_noneK (by decide) c14]), rfl, (by rw [hm0]; exact ⟨rfl, rfl, rfl, rfl⟩), (by rw [hm0]; exact HIS_no hph)⟩, by rw [ht]; exact hP, rfl⟩, hS.F ht⟩) hS.2.2 dX8_step_18

set_option maxHeartbeats 400000 in
set_option maxRecDepth 100000 in
theorem c_X8_slide (l : Launch) (D : va_G) (cI cJ cB : ClassId) (o kv kp kx kl kh ki kf kq ka kt kd kn mpm mty mwi mhi mwa mle mam mli : Nat) (mgo : Option Nat) (mtm : Bool) (mpa : Nat → Int32) (mtx mlt mha mfi mqu mta mln mal : Nat → Nat) (mfa mdi : Nat → Option Nat) (wd hd nb wl : Nat) (st sl : Int32) (gl aq lb : Option Nat) (sh bw bh ps : Nat → Nat) (hh : Nat → Nat → Int32) (x y : Int32) (htv : TV wd hd nb wl sh bw bh ps gl aq lb) (hph : PH mpa mpm hh) : Met l yX8_slide (Cond.code yX8_slide cX8_slide 3 (some .int) :: lw_all) (rmN 3) (va_Pc [.ref o, .int x, .int y] (pB D (tyz cI cJ cB) (mW cI cJ cB o kv kp kx kl kh ki kf kq ka kt kd kn (nI mpm) (nI mty) (nI mwi) (nI mhi) (nI mwa) (nI mle) (gI mgo) (nI mam) (bI mtm) (nI mli) (vF wd hd nb wl st sl gl aq lb sh bw bh ps) mpa (fun zz => nI (mtx zz)) (fun zz => nI (mlt zz)) (fun zz => nI (mha zz)) (fun zz => nI (mfi zz)) (fun zz => oI (mfa zz)) (fun zz => nI (mqu zz)) (fun zz => lN (mal zz)) (fun zz => nI (mta zz)) (fun zz => oI (mdi zz)) (fun zz => nI (mln zz))))) (va_Qi (fun (r : Int32) (w : va_W) => ∃ go2 : Option Nat, ∃ fa2 : Nat → Option Nat, ∃ qa2 : Nat → Nat, ∃ st2 : Int32, ∃ sl2 : Int32, ∃ lb2 : Option Nat, ∃ ps2 : Nat → Nat, ∃ pa2 : Nat → Int32, ∃ pm2 : Nat, ∃ h2 : Nat → Nat → Int32, r = f_slider wd hd nb wl sh bw bh ps x y ∧ w = mW cI cJ cB o kv kp kx kl kh ki kf kq ka kt kd kn (nI pm2) (nI mty) (nI mwi) (nI mhi) (nI mwa) (nI mle) (gI go2) (nI mam) (bI mtm) (nI mli) (vF wd hd nb wl st2 sl2 gl aq lb2 sh bw bh ps2) pa2 (fun zz => nI (mtx zz)) (fun zz => nI (mlt zz)) (fun zz => nI (mha zz)) (fun zz => nI (mfi zz)) (fun zz => oI (fa2 zz)) (fun zz => nI (qa2 zz)) (fun zz => lN (mal zz)) (fun zz => nI (mta zz)) (fun zz => oI (mdi zz)) (fun zz => nI (mln zz)) ∧ MVD (f_slidem wd hd nb wl sh bw bh ps x y) st sl lb ps st2 sl2 lb2 ps2 ∧ HIS (f_slidem wd hd nb wl sh bw bh ps x y).isSome (vF wd hd nb wl st sl gl aq lb sh bw bh ps) mpm hh pa2 pm2 h2) (gB D (mW cI cJ cB o kv kp kx kl kh ki kf kq ka kt kd kn (nI mpm) (nI mty) (nI mwi) (nI mhi) (nI mwa) (nI mle) (gI mgo) (nI mam) (bI mtm) (nI mli) (vF wd hd nb wl st sl gl aq lb sh bw bh ps) mpa (fun zz => nI (mtx zz)) (fun zz => nI (mlt zz)) (fun zz => nI (mha zz)) (fun zz => nI (mfi zz)) (fun zz => oI (mfa zz)) (fun zz => nI (mqu zz)) (fun zz => lN (mal zz)) (fun zz => nI (mta zz)) (fun zz => oI (mdi zz)) (fun zz => nI (mln zz)))) (aW (mW cI cJ cB o kv kp kx kl kh ki kf kq ka kt kd kn (nI mpm) (nI mty) (nI mwi) (nI mhi) (nI mwa) (nI mle) (gI mgo) (nI mam) (bI mtm) (nI mli) (vF wd hd nb wl st sl gl aq lb sh bw bh ps) mpa (fun zz => nI (mtx zz)) (fun zz => nI (mlt zz)) (fun zz => nI (mha zz)) (fun zz => nI (mfi zz)) (fun zz => oI (mfa zz)) (fun zz => nI (mqu zz)) (fun zz => lN (mal zz)) (fun zz => nI (mta zz)) (fun zz => oI (mdi zz)) (fun zz => nI (mln zz))))) 0 0 (aW (mW cI cJ cB o kv kp kx kl kh ki kf kq ka kt kd kn (nI mpm) (nI mty) (nI mwi) (nI mhi) (nI mwa) (nI mle) (gI mgo) (nI mam) (bI mtm) (nI mli) (vF wd hd nb wl st sl gl aq lb sh bw bh ps) mpa (fun zz => nI (mtx zz)) (fun zz => nI (mlt zz)) (fun zz => nI (mha zz)) (fun zz => nI (mfi zz)) (fun zz => oI (mfa zz)) (fun zz => nI (mqu zz)) (fun zz => lN (mal zz)) (fun zz => nI (mta zz)) (fun zz => oI (mdi zz)) (fun zz => nI (mln zz)))) := by
  refine Met.ofW (cc := cX8_slide) (maxL := 3) (ret := (some .int)) (by decide) rfl ?_
  intro p e s m args below meth c s₁ B hml hv
  obtain ⟨rfl, hK, hN, hP, hD0⟩ := hv
  have hx := B.exec; have hb := B.bytes; have hr := B.returns; have hlocks := B.notSynchronized
  have hts0 := atoms_spec (ws := Cond.code yX8_slide cX8_slide 3 (some .int) :: lw_all) B.pre
  have hC : CallFix p m c cX8_slide 3 s _ lw_all RX8 := ⟨hx, hb, hml, findClass_of_methodNamed B.named, fun w h => hts0 w (List.mem_cons_of_mem _ h)⟩
  have hD : va_D (aW (mW cI cJ cB o kv kp kx kl kh ki kf kq ka kt kd kn (nI mpm) (nI mty) (nI mwi) (nI mhi) (nI mwa) (nI mle) (gI mgo) (nI mam) (bI mtm) (nI mli) (vF wd hd nb wl st sl gl aq lb sh bw bh ps) mpa (fun zz => nI (mtx zz)) (fun zz => nI (mlt zz)) (fun zz => nI (mha zz)) (fun zz => nI (mfi zz)) (fun zz => oI (mfa zz)) (fun zz => nI (mqu zz)) (fun zz => lN (mal zz)) (fun zz => nI (mta zz)) (fun zz => oI (mdi zz)) (fun zz => nI (mln zz)))) (mW cI cJ cB o kv kp kx kl kh ki kf kq ka kt kd kn (nI mpm) (nI mty) (nI mwi) (nI mhi) (nI mwa) (nI mle) (gI mgo) (nI mam) (bI mtm) (nI mli) (vF wd hd nb wl st sl gl aq lb sh bw bh ps) mpa (fun zz => nI (mtx zz)) (fun zz => nI (mlt zz)) (fun zz => nI (mha zz)) (fun zz => nI (mfi zz)) (fun zz => oI (mfa zz)) (fun zz => nI (mqu zz)) (fun zz => lN (mal zz)) (fun zz => nI (mta zz)) (fun zz => oI (mdi zz)) (fun zz => nI (mln zz))) := ⟨hD0.1, fun k q h => ⟨k, q.2, h⟩⟩
  generalize hAe : aW (mW cI cJ cB o kv kp kx kl kh ki kf kq ka kt kd kn (nI mpm) (nI mty) (nI mwi) (nI mhi) (nI mwa) (nI mle) (gI mgo) (nI mam) (bI mtm) (nI mli) (vF wd hd nb wl st sl gl aq lb sh bw bh ps) mpa (fun zz => nI (mtx zz)) (fun zz => nI (mlt zz)) (fun zz => nI (mha zz)) (fun zz => nI (mfi zz)) (fun zz => oI (mfa zz)) (fun zz => nI (mqu zz)) (fun zz => lN (mal zz)) (fun zz => nI (mta zz)) (fun zz => oI (mdi zz)) (fun zz => nI (mln zz))) = A at hD ⊢
  have hS : va_S A s.heap s.heap [] := va_S.rf
  have hl := lv_entry ([.ref o, .int x, .int y]) (n := 3) (Nat.le_of_ble_eq_true rfl)
  rw [lg_entry_eq]
  generalize (lg_sl ([.ref o, .int x, .int y]) ++ List.replicate (3 - (lg_sl ([.ref o, .int x, .int y])).length) Slot.unset).toArray = ls at hl ⊢
  have hl : lv_has ls 3 [(0, .ref o), (1, .int x), (2, .int y)] := hl
  generalize hav : ([.ref o, .int x, .int y] : List Value).toArray = args at hC ⊢
  refine W_gen (fun QQ hQ => ?_)
  show W p l e (rmN 3) s m args below meth c s.heap [] 0 0 QQ (F0 m 0 ls [])
  obtain ⟨hf, hps, hk1, hga, hlb⟩ := id htv
  have hn7 := hf.2.2.2.2.2.1
  have h24 := hf.2.2.2.2.1
  refine lv_aload_n hx hb dX8_slide_0 rfl (lv_at hl 0 rfl) ?_
  refine lv_iload_n hx hb dX8_slide_1 rfl (lv_at hl 1 rfl) ?_
  refine callV_i (As := [.int x]) (rest := []) [0, 1, 2, 3, 4, 5, 6, 7, 8, 9, 10, 11, 12] hC hK hN hP hD rfl (by decide) hS 0 (ci := 8) rfl rfl rfl (c_X8_isBlock l D cI cJ cB o kv kp kx kl kh ki kf kq ka kt kd kn mpm mty mwi mhi mwa mle mam mli mgo mtm mpa mtx mlt mha mfi mqu mta mln mal mfa mdi wd hd nb wl st sl gl aq lb sh bw bh ps x ) q835 md_X8_isBlock rfl hl.1 rfl (Nat.le_of_ble_eq_true rfl) dX8_slide_2 ⟨Nat.le_of_ble_eq_true rfl, Nat.le_of_ble_eq_true rfl⟩ ⟨Nat.le_of_ble_eq_true rfl, Nat.le_of_ble_eq_true rfl⟩ (fun r_2 w H locs hpost hP hD hS => ?_)
  obtain ⟨rfl, rfl⟩ := hpost
  have hP : va_P D vwCl (mW cI cJ cB o kv kp kx kl kh ki kf kq ka kt kd kn (nI mpm) (nI mty) (nI mwi) (nI mhi) (nI mwa) (nI mle) (gI mgo) (nI mam) (bI mtm) (nI mli) (vF wd hd nb wl st sl gl aq lb sh bw bh ps) mpa (fun zz => nI (mtx zz)) (fun zz => nI (mlt zz)) (fun zz => nI (mha zz)) (fun zz => nI (mfi zz)) (fun zz => oI (mfa zz)) (fun zz => nI (mqu zz)) (fun zz => lN (mal zz)) (fun zz => nI (mta zz)) (fun zz => oI (mdi zz)) (fun zz => nI (mln zz))) H := hP
  have hD : va_D A (mW cI cJ cB o kv kp kx kl kh ki kf kq ka kt kd kn (nI mpm) (nI mty) (nI mwi) (nI mhi) (nI mwa) (nI mle) (gI mgo) (nI mam) (bI mtm) (nI mli) (vF wd hd nb wl st sl gl aq lb sh bw bh ps) mpa (fun zz => nI (mtx zz)) (fun zz => nI (mlt zz)) (fun zz => nI (mha zz)) (fun zz => nI (mfi zz)) (fun zz => oI (mfa zz)) (fun zz => nI (mqu zz)) (fun zz => lN (mal zz)) (fun zz => nI (mta zz)) (fun zz => oI (mdi zz)) (fun zz => nI (mln zz))) := hD
  refine b_if_eq (tgt := 22) hx hb dX8_slide_5 (by decide) (fun c5 => ?_) (fun c5 => ?_)
  · have _ : True := trivial
    refine lv_iconst (v := (-1)) hx hb dX8_slide_22 (by decide) ?_
    have hm0 : f_slidem wd hd nb wl sh bw bh ps x y = none := by unfold f_slidem; rw [bOf_none (by omega) c5]
    rw [hQ]
    exact W.iret (v := (-1)) hx hb hr (fun t9 ht hW => ⟨⟨_, _, rfl, ⟨mgo, mfa, mqu, st, sl, lb, ps, mpa, mpm, hh, (by unfold f_slider; rw [bOf_none (by omega) c5]), rfl, (by rw [hm0]; exact ⟨rfl, rfl, rfl, rfl⟩), (by rw [hm0]; exact HIS_no hph)⟩, by rw [ht]; exact hP, rfl⟩, hS.F ht⟩) hS.2.2 dX8_slide_23
  · have _ : True := trivial
    obtain ⟨b, hbn, hxb, hbo⟩ := bOf_some (by omega) c5
    subst hxb
    refine lv_iload_n hx hb dX8_slide_8 rfl (lv_at hl 2 rfl) ?_
    refine lv_iconst (v := nI 0) hx hb dX8_slide_9 (by decide) ?_
    refine lv_aload_n hx hb dX8_slide_10 rfl (lv_at hl 0 rfl) ?_
    refine callV_i (As := []) (rest := [.int (nI 0), .int y]) [0, 1, 2, 3, 4, 5, 6, 7, 8, 9, 10, 11, 12] hC hK hN hP hD rfl (by decide) hS 0 (ci := 8) rfl rfl rfl (c_X8_cells l D cI cJ cB o kv kp kx kl kh ki kf kq ka kt kd kn mpm mty mwi mhi mwa mle mam mli mgo mtm mpa mtx mlt mha mfi mqu mta mln mal mfa mdi wd hd nb wl st sl gl aq lb sh bw bh ps ) q796 md_X8_cells rfl hl.1 rfl (Nat.le_of_ble_eq_true rfl) dX8_slide_11 ⟨Nat.le_of_ble_eq_true rfl, Nat.le_of_ble_eq_true rfl⟩ ⟨Nat.le_of_ble_eq_true rfl, Nat.le_of_ble_eq_true rfl⟩ (fun r_11 w H locs hpost hP hD hS => ?_)
    obtain ⟨rfl, rfl⟩ := hpost
    have hP : va_P D vwCl (mW cI cJ cB o kv kp kx kl kh ki kf kq ka kt kd kn (nI mpm) (nI mty) (nI mwi) (nI mhi) (nI mwa) (nI mle) (gI mgo) (nI mam) (bI mtm) (nI mli) (vF wd hd nb wl st sl gl aq lb sh bw bh ps) mpa (fun zz => nI (mtx zz)) (fun zz => nI (mlt zz)) (fun zz => nI (mha zz)) (fun zz => nI (mfi zz)) (fun zz => oI (mfa zz)) (fun zz => nI (mqu zz)) (fun zz => lN (mal zz)) (fun zz => nI (mta zz)) (fun zz => oI (mdi zz)) (fun zz => nI (mln zz))) H := hP
    have hD : va_D A (mW cI cJ cB o kv kp kx kl kh ki kf kq ka kt kd kn (nI mpm) (nI mty) (nI mwi) (nI mhi) (nI mwa) (nI mle) (gI mgo) (nI mam) (bI mtm) (nI mli) (vF wd hd nb wl st sl gl aq lb sh bw bh ps) mpa (fun zz => nI (mtx zz)) (fun zz => nI (mlt zz)) (fun zz => nI (mha zz)) (fun zz => nI (mfi zz)) (fun zz => oI (mfa zz)) (fun zz => nI (mqu zz)) (fun zz => lN (mal zz)) (fun zz => nI (mta zz)) (fun zz => oI (mdi zz)) (fun zz => nI (mln zz))) := hD
    refine lv_iconst (v := nI 1) hx hb dX8_slide_14 (by decide) ?_
    refine lv_isub hx hb dX8_slide_15 ?_
    refine callS_i (As := [.int y, .int (nI 0), .int ((nI (wd * hd)) - (nI 1))]) (rest := []) [] hC hK hN hP hD rfl (by decide) hS (c_X8_in l D cI cJ cB y (nI 0) ((nI (wd * hd)) - (nI 1)) ) q750 md_X8_in rfl hl.1 rfl (Nat.le_of_ble_eq_true rfl) dX8_slide_16 ⟨Nat.le_of_ble_eq_true rfl, Nat.le_of_ble_eq_true rfl⟩ ⟨Nat.le_of_ble_eq_true rfl, Nat.le_of_ble_eq_true rfl⟩ (fun r_16 w H locs hpost hP hD hS => ?_)
    obtain ⟨rfl, rfl⟩ := hpost
    have hP : va_P D vwCl (mW cI cJ cB o kv kp kx kl kh ki kf kq ka kt kd kn (nI mpm) (nI mty) (nI mwi) (nI mhi) (nI mwa) (nI mle) (gI mgo) (nI mam) (bI mtm) (nI mli) (vF wd hd nb wl st sl gl aq lb sh bw bh ps) mpa (fun zz => nI (mtx zz)) (fun zz => nI (mlt zz)) (fun zz => nI (mha zz)) (fun zz => nI (mfi zz)) (fun zz => oI (mfa zz)) (fun zz => nI (mqu zz)) (fun zz => lN (mal zz)) (fun zz => nI (mta zz)) (fun zz => oI (mdi zz)) (fun zz => nI (mln zz))) H := hP
    have hD : va_D A (mW cI cJ cB o kv kp kx kl kh ki kf kq ka kt kd kn (nI mpm) (nI mty) (nI mwi) (nI mhi) (nI mwa) (nI mle) (gI mgo) (nI mam) (bI mtm) (nI mli) (vF wd hd nb wl st sl gl aq lb sh bw bh ps) mpa (fun zz => nI (mtx zz)) (fun zz => nI (mlt zz)) (fun zz => nI (mha zz)) (fun zz => nI (mfi zz)) (fun zz => oI (mfa zz)) (fun zz => nI (mqu zz)) (fun zz => lN (mal zz)) (fun zz => nI (mta zz)) (fun zz => oI (mdi zz)) (fun zz => nI (mln zz))) := hD
    refine b_if_ne (tgt := 24) hx hb dX8_slide_19 (by decide) (fun c19 => ?_) (fun c19 => ?_)
    · have _ : True := trivial
      obtain ⟨q, hq9, hyq, hqo⟩ := bOf_some (by omega) c19
      subst hyq
      refine lv_aload_n hx hb dX8_slide_24 rfl (lv_at hl 0 rfl) ?_
      refine lv_bipush (v := (-9)) hx hb dX8_slide_25 (by decide) ?_
      refine topi (y := gI none) rfl ?_
      refine pf_X8_28 hC hK hP hD hS 0 rfl (Nat.le_of_ble_eq_true rfl) (ws1 := mW cI cJ cB o kv kp kx kl kh ki kf kq ka kt kd kn (nI mpm) (nI mty) (nI mwi) (nI mhi) (nI mwa) (nI mle) (gI none) (nI mam) (bI mtm) (nI mli) (vF wd hd nb wl st sl gl aq lb sh bw bh ps) mpa (fun zz => nI (mtx zz)) (fun zz => nI (mlt zz)) (fun zz => nI (mha zz)) (fun zz => nI (mfi zz)) (fun zz => oI (mfa zz)) (fun zz => nI (mqu zz)) (fun zz => lN (mal zz)) (fun zz => nI (mta zz)) (fun zz => oI (mdi zz)) (fun zz => nI (mln zz))) rfl dX8_slide_27 (fun H locs hP hD hS => ?_)
      refine lv_aload_n hx hb dX8_slide_30 rfl (lv_at hl 0 rfl) ?_
      refine lv_aload_n hx hb dX8_slide_31 rfl (lv_at hl 0 rfl) ?_
      refine callV_l (As := []) (rest := [.ref o]) [0, 1, 2, 3, 4, 5, 6, 7, 8, 9, 10, 11, 12] hC hK hN hP hD rfl (by decide) hS 0 (ci := 8) rfl rfl rfl (c_X8_present l D cI cJ cB o kv kp kx kl kh ki kf kq ka kt kd kn mpm mty mwi mhi mwa mle mam mli none mtm mpa mtx mlt mha mfi mqu mta mln mal mfa mdi wd hd nb wl st sl gl aq lb sh bw bh ps (by omega) hps) q800 md_X8_present rfl hl.1 rfl (Nat.le_of_ble_eq_true rfl) dX8_slide_32 ⟨Nat.le_of_ble_eq_true rfl, Nat.le_of_ble_eq_true rfl⟩ ⟨Nat.le_of_ble_eq_true rfl, Nat.le_of_ble_eq_true rfl⟩ (fun r_32 w H locs hpost hP hD hS => ?_)
      obtain ⟨rfl, rfl⟩ := hpost
      have hP : va_P D vwCl (mW cI cJ cB o kv kp kx kl kh ki kf kq ka kt kd kn (nI mpm) (nI mty) (nI mwi) (nI mhi) (nI mwa) (nI mle) (gI none) (nI mam) (bI mtm) (nI mli) (vF wd hd nb wl st sl gl aq lb sh bw bh ps) mpa (fun zz => nI (mtx zz)) (fun zz => nI (mlt zz)) (fun zz => nI (mha zz)) (fun zz => nI (mfi zz)) (fun zz => oI (mfa zz)) (fun zz => nI (mqu zz)) (fun zz => lN (mal zz)) (fun zz => nI (mta zz)) (fun zz => oI (mdi zz)) (fun zz => nI (mln zz))) H := hP
      have hD : va_D A (mW cI cJ cB o kv kp kx kl kh ki kf kq ka kt kd kn (nI mpm) (nI mty) (nI mwi) (nI mhi) (nI mwa) (nI mle) (gI none) (nI mam) (bI mtm) (nI mli) (vF wd hd nb wl st sl gl aq lb sh bw bh ps) mpa (fun zz => nI (mtx zz)) (fun zz => nI (mlt zz)) (fun zz => nI (mha zz)) (fun zz => nI (mfi zz)) (fun zz => oI (mfa zz)) (fun zz => nI (mqu zz)) (fun zz => lN (mal zz)) (fun zz => nI (mta zz)) (fun zz => oI (mdi zz)) (fun zz => nI (mln zz))) := hD
      refine lv_iload_n hx hb dX8_slide_35 rfl (lv_at hl 1 rfl) ?_
      refine callV_v (As := [.long (lN (pkey ps nb)), .int (nI b)]) (rest := []) [0, 1, 2, 3, 4, 5, 6, 7, 8, 9, 10, 11, 12] hC hK hN hP hD rfl (by decide) hS 0 (ci := 8) rfl rfl rfl (c_X8_floods l D cI cJ cB o kv kp kx kl kh ki kf kq ka kt kd kn mpm mty mwi mhi mwa mle mam mli none mtm mpa mtx mlt mha mfi mqu mta mln mal mfa mdi wd hd nb wl st sl gl aq lb sh bw bh ps (pkey ps nb) b hf hk1 (fun d h => by cases h) (by omega) (fun h => by cases h)) q843 md_X8_floods rfl hl.1 rfl (Nat.le_of_ble_eq_true rfl) dX8_slide_36 ⟨Nat.le_of_ble_eq_true rfl, Nat.le_of_ble_eq_true rfl⟩ ⟨Nat.le_of_ble_eq_true rfl, Nat.le_of_ble_eq_true rfl⟩ (fun w H locs hpost hP hD hS => ?_)
      obtain ⟨F2_36, Q2_36, rfl, hfl, hfb⟩ := hpost
      have hP : va_P D vwCl (mW cI cJ cB o kv kp kx kl kh ki kf kq ka kt kd kn (nI mpm) (nI mty) (nI mwi) (nI mhi) (nI mwa) (nI mle) (gI none) (nI mam) (bI mtm) (nI mli) (vF wd hd nb wl st sl gl aq lb sh bw bh ps) mpa (fun zz => nI (mtx zz)) (fun zz => nI (mlt zz)) (fun zz => nI (mha zz)) (fun zz => nI (mfi zz)) (fun zz => oI (F2_36 zz)) (fun zz => nI (Q2_36 zz)) (fun zz => lN (mal zz)) (fun zz => nI (mta zz)) (fun zz => oI (mdi zz)) (fun zz => nI (mln zz))) H := hP
      have hD : va_D A (mW cI cJ cB o kv kp kx kl kh ki kf kq ka kt kd kn (nI mpm) (nI mty) (nI mwi) (nI mhi) (nI mwa) (nI mle) (gI none) (nI mam) (bI mtm) (nI mli) (vF wd hd nb wl st sl gl aq lb sh bw bh ps) mpa (fun zz => nI (mtx zz)) (fun zz => nI (mlt zz)) (fun zz => nI (mha zz)) (fun zz => nI (mfi zz)) (fun zz => oI (F2_36 zz)) (fun zz => nI (Q2_36 zz)) (fun zz => lN (mal zz)) (fun zz => nI (mta zz)) (fun zz => oI (mdi zz)) (fun zz => nI (mln zz))) := hD
      have hflo := flo_eq hfl
      refine lv_aload_n hx hb dX8_slide_39 rfl (lv_at hl 0 rfl) ?_
      refine gf_X8_32 hC hK hP 0 rfl rfl dX8_slide_40 ?_
      refine lv_iload_n hx hb dX8_slide_43 rfl (lv_at hl 2 rfl) ?_
      refine n_iald hx hb hK hP 7 0 rfl rfl (by omega) (by decide) dX8_slide_44 ?_
      refine lv_iconst (v := nI 1) hx hb dX8_slide_45 (by decide) ?_
      refine lv_icmp_ge (tgt := 52) hx hb dX8_slide_46 (by decide) (fun c46 => ?_) (fun c46 => ?_)
      · have _ : True := trivial
        obtain ⟨e, he9⟩ := (ge1_iff (fun d h => by have := (hfb q d h).2.2; omega)).1 c46
        have hm0 : f_slidem wd hd nb wl sh bw bh ps (nI b) (nI q) = some (b, q, e + 1, true) := by unfold f_slidem; rw [hbo, hqo]; show (match flo wd hd nb wl sh bw bh none (pkey ps nb) b q with | some (e + 1) => some (b, q, e + 1, true) | _ => none) = _; rw [← hflo, he9]
        refine lv_aload_n hx hb dX8_slide_52 rfl (lv_at hl 0 rfl) ?_
        refine callV_v (As := []) (rest := []) [0, 1, 2, 3, 4, 5, 6, 7, 8, 9, 10, 11, 12] hC hK hN hP hD rfl (by decide) hS 0 (ci := 8) rfl rfl rfl (c_X8_act l D cI cJ cB o kv kp kx kl kh ki kf kq ka kt kd kn mpm mty mwi mhi mwa mle mam mli none mtm mpa mtx mlt mha mfi Q2_36 mta mln mal F2_36 mdi (vF wd hd nb wl st sl gl aq lb sh bw bh ps) hh hph) q780 md_X8_act rfl hl.1 rfl (Nat.le_of_ble_eq_true rfl) dX8_slide_53 ⟨Nat.le_of_ble_eq_true rfl, Nat.le_of_ble_eq_true rfl⟩ ⟨Nat.le_of_ble_eq_true rfl, Nat.le_of_ble_eq_true rfl⟩ (fun w H locs hpost hP hD hS => ?_)
        obtain ⟨pa2_53, rfl, hph2⟩ := hpost
        have hP : va_P D vwCl (mW cI cJ cB o kv kp kx kl kh ki kf kq ka kt kd kn (nI (hcnt mpm)) (nI mty) (nI mwi) (nI mhi) (nI mwa) (nI mle) (gI none) (nI mam) (bI mtm) (nI mli) (vF wd hd nb wl st sl gl aq lb sh bw bh ps) pa2_53 (fun zz => nI (mtx zz)) (fun zz => nI (mlt zz)) (fun zz => nI (mha zz)) (fun zz => nI (mfi zz)) (fun zz => oI (F2_36 zz)) (fun zz => nI (Q2_36 zz)) (fun zz => lN (mal zz)) (fun zz => nI (mta zz)) (fun zz => oI (mdi zz)) (fun zz => nI (mln zz))) H := hP
        have hD : va_D A (mW cI cJ cB o kv kp kx kl kh ki kf kq ka kt kd kn (nI (hcnt mpm)) (nI mty) (nI mwi) (nI mhi) (nI mwa) (nI mle) (gI none) (nI mam) (bI mtm) (nI mli) (vF wd hd nb wl st sl gl aq lb sh bw bh ps) pa2_53 (fun zz => nI (mtx zz)) (fun zz => nI (mlt zz)) (fun zz => nI (mha zz)) (fun zz => nI (mfi zz)) (fun zz => oI (F2_36 zz)) (fun zz => nI (Q2_36 zz)) (fun zz => lN (mal zz)) (fun zz => nI (mta zz)) (fun zz => oI (mdi zz)) (fun zz => nI (mln zz))) := hD
        refine lv_aload_n hx hb dX8_slide_56 rfl (lv_at hl 0 rfl) ?_
        refine lv_iload_n hx hb dX8_slide_57 rfl (lv_at hl 1 rfl) ?_
        refine lv_iload_n hx hb dX8_slide_58 rfl (lv_at hl 2 rfl) ?_
        refine lv_aload_n hx hb dX8_slide_59 rfl (lv_at hl 0 rfl) ?_
        refine gf_X8_32 hC hK hP 0 rfl rfl dX8_slide_60 ?_
        refine lv_iload_n hx hb dX8_slide_63 rfl (lv_at hl 2 rfl) ?_
        refine n_iald hx hb hK hP 7 0 rfl rfl (by omega) (by decide) dX8_slide_64 ?_
        refine topi (y := nI (e + 1)) (by rw [he9]; rfl) ?_
        refine lv_iconst (v := nI 1) hx hb dX8_slide_65 (by decide) ?_
        refine callV_v (As := [.int (nI b), .int (nI q), .int (nI (e + 1)), .int (nI 1)]) (rest := []) [0, 1, 2, 3, 4, 5, 6, 7, 8, 9, 10, 11, 12] hC hK hN hP hD rfl (by decide) hS 0 (ci := 8) rfl rfl rfl (c_X8_moves l D cI cJ cB o kv kp kx kl kh ki kf kq ka kt kd kn (hcnt mpm) mty mwi mhi mwa mle mam mli none mtm pa2_53 mtx mlt mha mfi Q2_36 mta mln mal F2_36 mdi wd hd nb wl st sl gl aq lb sh bw bh ps b q (e + 1) true (by omega) (fun d h => by have := hlb d h; omega)) q855 md_X8_moves rfl hl.1 rfl (Nat.le_of_ble_eq_true rfl) dX8_slide_66 ⟨Nat.le_of_ble_eq_true rfl, Nat.le_of_ble_eq_true rfl⟩ ⟨Nat.le_of_ble_eq_true rfl, Nat.le_of_ble_eq_true rfl⟩ (fun w H locs hpost hP hD hS => ?_)
        obtain rfl := hpost
        have hP : va_P D vwCl (mW cI cJ cB o kv kp kx kl kh ki kf kq ka kt kd kn (nI (hcnt mpm)) (nI mty) (nI mwi) (nI mhi) (nI mwa) (nI mle) (gI none) (nI mam) (bI mtm) (nI mli) (vF wd hd nb wl (st + nI (e + 1)) (mvsl sl true lb b) gl aq (some b) sh bw bh (va_up ps b q)) pa2_53 (fun zz => nI (mtx zz)) (fun zz => nI (mlt zz)) (fun zz => nI (mha zz)) (fun zz => nI (mfi zz)) (fun zz => oI (F2_36 zz)) (fun zz => nI (Q2_36 zz)) (fun zz => lN (mal zz)) (fun zz => nI (mta zz)) (fun zz => oI (mdi zz)) (fun zz => nI (mln zz))) H := hP
        have hD : va_D A (mW cI cJ cB o kv kp kx kl kh ki kf kq ka kt kd kn (nI (hcnt mpm)) (nI mty) (nI mwi) (nI mhi) (nI mwa) (nI mle) (gI none) (nI mam) (bI mtm) (nI mli) (vF wd hd nb wl (st + nI (e + 1)) (mvsl sl true lb b) gl aq (some b) sh bw bh (va_up ps b q)) pa2_53 (fun zz => nI (mtx zz)) (fun zz => nI (mlt zz)) (fun zz => nI (mha zz)) (fun zz => nI (mfi zz)) (fun zz => oI (F2_36 zz)) (fun zz => nI (Q2_36 zz)) (fun zz => lN (mal zz)) (fun zz => nI (mta zz)) (fun zz => oI (mdi zz)) (fun zz => nI (mln zz))) := hD
        refine lv_aload_n hx hb dX8_slide_69 rfl (lv_at hl 0 rfl) ?_
        refine gf_X8_32 hC hK hP 0 rfl rfl dX8_slide_70 ?_
        refine lv_iload_n hx hb dX8_slide_73 rfl (lv_at hl 2 rfl) ?_
        refine n_iald hx hb hK hP 7 0 rfl rfl (by omega) (by decide) dX8_slide_74 ?_
        refine topi (y := nI (e + 1)) (by rw [he9]; rfl) ?_
        rw [hQ]
        exact W.iret (v := nI (e + 1)) hx hb hr (fun t9 ht hW => ⟨⟨_, _, rfl, ⟨none, F2_36, Q2_36, (st + nI (e + 1)), (mvsl sl true lb b), (some b), (va_up ps b q), pa2_53, hcnt mpm, hpush hh mpm (vF wd hd nb wl st sl gl aq lb sh bw bh ps), (by unfold f_slider; rw [hbo, hqo]; show _ = (match flo wd hd nb wl sh bw bh none (pkey ps nb) b q with | some (e + 1) => nI (e + 1) | _ => -2); rw [← hflo, he9]), rfl, (by rw [hm0]; exact ⟨rfl, rfl, rfl, rfl⟩), (by rw [hm0]; exact HIS_yes hph2)⟩, by rw [ht]; exact hP, rfl⟩, hS.F ht⟩) hS.2.2 dX8_slide_75
      · have _ : True := trivial
        have hne := (ge1_iff (fun d h => by have := (hfb q d h).2.2; omega)).2 c46
        refine lv_bipush (v := (-2)) hx hb dX8_slide_49 (by decide) ?_
        have hm0 : f_slidem wd hd nb wl sh bw bh ps (nI b) (nI q) = none := by unfold f_slidem; rw [hbo, hqo]; show (match flo wd hd nb wl sh bw bh none (pkey ps nb) b q with | some (e + 1) => some (b, q, e + 1, true) | _ => none) = none; rw [← hflo]; split; exact absurd (by assumption) (hne _); rfl
        rw [hQ]
        exact W.iret (v := (-2)) hx hb hr (fun t9 ht hW => ⟨⟨_, _, rfl, ⟨none, F2_36, Q2_36, st, sl, lb, ps, mpa, mpm, hh, (by unfold f_slider; rw [hbo, hqo]; show -2 = (match flo wd hd nb wl sh bw bh none (pkey ps nb) b q with | some (e + 1) => nI (e + 1) | _ => -2); rw [← hflo]; split; exact absurd (by assumption) (hne _); rfl), rfl, (by rw [hm0]; exact ⟨rfl, rfl, rfl, rfl⟩), (by rw [hm0]; exact HIS_no hph)⟩, by rw [ht]; exact hP, rfl⟩, hS.F ht⟩) hS.2.2 dX8_slide_51
    · have _ : True := trivial
      refine lv_iconst (v := (-1)) hx hb dX8_slide_22 (by decide) ?_
      have hm0 : f_slidem wd hd nb wl sh bw bh ps (nI b) y = none := by unfold f_slidem; rw [hbo, bOf_none (by omega) c19]
      rw [hQ]
      exact W.iret (v := (-1)) hx hb hr (fun t9 ht hW => ⟨⟨_, _, rfl, ⟨mgo, mfa, mqu, st, sl, lb, ps, mpa, mpm, hh, (by unfold f_slider; rw [hbo, bOf_none (by omega) c19]), rfl, (by rw [hm0]; exact ⟨rfl, rfl, rfl, rfl⟩), (by rw [hm0]; exact HIS_no hph)⟩, by rw [ht]; exact hP, rfl⟩, hS.F ht⟩) hS.2.2 dX8_slide_23

set_option maxHeartbeats 400000 in
set_option maxRecDepth 100000 in
theorem c_X8_goal (l : Launch) (D : va_G) (cI cJ cB : ClassId) (o kv kp kx kl kh ki kf kq ka kt kd kn mpm mty mwi mhi mwa mle mam mli : Nat) (mgo : Option Nat) (mtm : Bool) (mpa : Nat → Int32) (mtx mlt mha mfi mqu mta mln mal : Nat → Nat) (mfa mdi : Nat → Option Nat) (wd hd nb wl : Nat) (st sl : Int32) (gl aq lb : Option Nat) (sh bw bh ps : Nat → Nat) (hh : Nat → Nat → Int32) (x y : Int32) (htv : TV wd hd nb wl sh bw bh ps gl aq lb) (hph : PH mpa mpm hh) : Met l yX8_goal (Cond.code yX8_goal cX8_goal 3 (some .int) :: lw_all) (rmN 2) (va_Pc [.ref o, .int x, .int y] (pB D (tyz cI cJ cB) (mW cI cJ cB o kv kp kx kl kh ki kf kq ka kt kd kn (nI mpm) (nI mty) (nI mwi) (nI mhi) (nI mwa) (nI mle) (gI mgo) (nI mam) (bI mtm) (nI mli) (vF wd hd nb wl st sl gl aq lb sh bw bh ps) mpa (fun zz => nI (mtx zz)) (fun zz => nI (mlt zz)) (fun zz => nI (mha zz)) (fun zz => nI (mfi zz)) (fun zz => oI (mfa zz)) (fun zz => nI (mqu zz)) (fun zz => lN (mal zz)) (fun zz => nI (mta zz)) (fun zz => oI (mdi zz)) (fun zz => nI (mln zz))))) (va_Qi (fun (r : Int32) (w : va_W) => ∃ gl2 : Option Nat, ∃ aq2 : Option Nat, ∃ pa2 : Nat → Int32, ∃ pm2 : Nat, ∃ h2 : Nat → Nat → Int32, r = f_goalr wd hd nb bw bh ps x y ∧ w = mW cI cJ cB o kv kp kx kl kh ki kf kq ka kt kd kn (nI pm2) (nI mty) (nI mwi) (nI mhi) (nI mwa) (nI mle) (gI mgo) (nI mam) (bI mtm) (nI mli) (vF wd hd nb wl st sl gl2 aq2 lb sh bw bh ps) pa2 (fun zz => nI (mtx zz)) (fun zz => nI (mlt zz)) (fun zz => nI (mha zz)) (fun zz => nI (mfi zz)) (fun zz => oI (mfa zz)) (fun zz => nI (mqu zz)) (fun zz => lN (mal zz)) (fun zz => nI (mta zz)) (fun zz => oI (mdi zz)) (fun zz => nI (mln zz)) ∧ GLD (f_goalm wd hd nb bw bh x y) gl aq gl2 aq2 ∧ HIS (f_goalm wd hd nb bw bh x y).isSome (vF wd hd nb wl st sl gl aq lb sh bw bh ps) mpm hh pa2 pm2 h2) (gB D (mW cI cJ cB o kv kp kx kl kh ki kf kq ka kt kd kn (nI mpm) (nI mty) (nI mwi) (nI mhi) (nI mwa) (nI mle) (gI mgo) (nI mam) (bI mtm) (nI mli) (vF wd hd nb wl st sl gl aq lb sh bw bh ps) mpa (fun zz => nI (mtx zz)) (fun zz => nI (mlt zz)) (fun zz => nI (mha zz)) (fun zz => nI (mfi zz)) (fun zz => oI (mfa zz)) (fun zz => nI (mqu zz)) (fun zz => lN (mal zz)) (fun zz => nI (mta zz)) (fun zz => oI (mdi zz)) (fun zz => nI (mln zz)))) (aW (mW cI cJ cB o kv kp kx kl kh ki kf kq ka kt kd kn (nI mpm) (nI mty) (nI mwi) (nI mhi) (nI mwa) (nI mle) (gI mgo) (nI mam) (bI mtm) (nI mli) (vF wd hd nb wl st sl gl aq lb sh bw bh ps) mpa (fun zz => nI (mtx zz)) (fun zz => nI (mlt zz)) (fun zz => nI (mha zz)) (fun zz => nI (mfi zz)) (fun zz => oI (mfa zz)) (fun zz => nI (mqu zz)) (fun zz => lN (mal zz)) (fun zz => nI (mta zz)) (fun zz => oI (mdi zz)) (fun zz => nI (mln zz))))) 0 0 (aW (mW cI cJ cB o kv kp kx kl kh ki kf kq ka kt kd kn (nI mpm) (nI mty) (nI mwi) (nI mhi) (nI mwa) (nI mle) (gI mgo) (nI mam) (bI mtm) (nI mli) (vF wd hd nb wl st sl gl aq lb sh bw bh ps) mpa (fun zz => nI (mtx zz)) (fun zz => nI (mlt zz)) (fun zz => nI (mha zz)) (fun zz => nI (mfi zz)) (fun zz => oI (mfa zz)) (fun zz => nI (mqu zz)) (fun zz => lN (mal zz)) (fun zz => nI (mta zz)) (fun zz => oI (mdi zz)) (fun zz => nI (mln zz)))) := by
  refine Met.ofW (cc := cX8_goal) (maxL := 3) (ret := (some .int)) (by decide) rfl ?_
  intro p e s m args below meth c s₁ B hml hv
  obtain ⟨rfl, hK, hN, hP, hD0⟩ := hv
  have hx := B.exec; have hb := B.bytes; have hr := B.returns; have hlocks := B.notSynchronized
  have hts0 := atoms_spec (ws := Cond.code yX8_goal cX8_goal 3 (some .int) :: lw_all) B.pre
  have hC : CallFix p m c cX8_goal 3 s _ lw_all RX8 := ⟨hx, hb, hml, findClass_of_methodNamed B.named, fun w h => hts0 w (List.mem_cons_of_mem _ h)⟩
  have hD : va_D (aW (mW cI cJ cB o kv kp kx kl kh ki kf kq ka kt kd kn (nI mpm) (nI mty) (nI mwi) (nI mhi) (nI mwa) (nI mle) (gI mgo) (nI mam) (bI mtm) (nI mli) (vF wd hd nb wl st sl gl aq lb sh bw bh ps) mpa (fun zz => nI (mtx zz)) (fun zz => nI (mlt zz)) (fun zz => nI (mha zz)) (fun zz => nI (mfi zz)) (fun zz => oI (mfa zz)) (fun zz => nI (mqu zz)) (fun zz => lN (mal zz)) (fun zz => nI (mta zz)) (fun zz => oI (mdi zz)) (fun zz => nI (mln zz)))) (mW cI cJ cB o kv kp kx kl kh ki kf kq ka kt kd kn (nI mpm) (nI mty) (nI mwi) (nI mhi) (nI mwa) (nI mle) (gI mgo) (nI mam) (bI mtm) (nI mli) (vF wd hd nb wl st sl gl aq lb sh bw bh ps) mpa (fun zz => nI (mtx zz)) (fun zz => nI (mlt zz)) (fun zz => nI (mha zz)) (fun zz => nI (mfi zz)) (fun zz => oI (mfa zz)) (fun zz => nI (mqu zz)) (fun zz => lN (mal zz)) (fun zz => nI (mta zz)) (fun zz => oI (mdi zz)) (fun zz => nI (mln zz))) := ⟨hD0.1, fun k q h => ⟨k, q.2, h⟩⟩
  generalize hAe : aW (mW cI cJ cB o kv kp kx kl kh ki kf kq ka kt kd kn (nI mpm) (nI mty) (nI mwi) (nI mhi) (nI mwa) (nI mle) (gI mgo) (nI mam) (bI mtm) (nI mli) (vF wd hd nb wl st sl gl aq lb sh bw bh ps) mpa (fun zz => nI (mtx zz)) (fun zz => nI (mlt zz)) (fun zz => nI (mha zz)) (fun zz => nI (mfi zz)) (fun zz => oI (mfa zz)) (fun zz => nI (mqu zz)) (fun zz => lN (mal zz)) (fun zz => nI (mta zz)) (fun zz => oI (mdi zz)) (fun zz => nI (mln zz))) = A at hD ⊢
  have hS : va_S A s.heap s.heap [] := va_S.rf
  have hl := lv_entry ([.ref o, .int x, .int y]) (n := 3) (Nat.le_of_ble_eq_true rfl)
  rw [lg_entry_eq]
  generalize (lg_sl ([.ref o, .int x, .int y]) ++ List.replicate (3 - (lg_sl ([.ref o, .int x, .int y])).length) Slot.unset).toArray = ls at hl ⊢
  have hl : lv_has ls 3 [(0, .ref o), (1, .int x), (2, .int y)] := hl
  generalize hav : ([.ref o, .int x, .int y] : List Value).toArray = args at hC ⊢
  refine W_gen (fun QQ hQ => ?_)
  show W p l e (rmN 2) s m args below meth c s.heap [] 0 0 QQ (F0 m 0 ls [])
  obtain ⟨hf, hps, hk1, hga, hlb⟩ := id htv
  have hn7 := hf.2.2.2.2.2.1
  have h24 := hf.2.2.2.2.1
  refine lv_aload_n hx hb dX8_goal_0 rfl (lv_at hl 0 rfl) ?_
  refine lv_iload_n hx hb dX8_goal_1 rfl (lv_at hl 1 rfl) ?_
  refine callV_i (As := [.int x]) (rest := []) [0, 1, 2, 3, 4, 5, 6, 7, 8, 9, 10, 11, 12] hC hK hN hP hD rfl (by decide) hS 0 (ci := 8) rfl rfl rfl (c_X8_isBlock l D cI cJ cB o kv kp kx kl kh ki kf kq ka kt kd kn mpm mty mwi mhi mwa mle mam mli mgo mtm mpa mtx mlt mha mfi mqu mta mln mal mfa mdi wd hd nb wl st sl gl aq lb sh bw bh ps x ) q835 md_X8_isBlock rfl hl.1 rfl (Nat.le_of_ble_eq_true rfl) dX8_goal_2 ⟨Nat.le_of_ble_eq_true rfl, Nat.le_of_ble_eq_true rfl⟩ ⟨Nat.le_of_ble_eq_true rfl, Nat.le_of_ble_eq_true rfl⟩ (fun r_2 w H locs hpost hP hD hS => ?_)
  obtain ⟨rfl, rfl⟩ := hpost
  have hP : va_P D vwCl (mW cI cJ cB o kv kp kx kl kh ki kf kq ka kt kd kn (nI mpm) (nI mty) (nI mwi) (nI mhi) (nI mwa) (nI mle) (gI mgo) (nI mam) (bI mtm) (nI mli) (vF wd hd nb wl st sl gl aq lb sh bw bh ps) mpa (fun zz => nI (mtx zz)) (fun zz => nI (mlt zz)) (fun zz => nI (mha zz)) (fun zz => nI (mfi zz)) (fun zz => oI (mfa zz)) (fun zz => nI (mqu zz)) (fun zz => lN (mal zz)) (fun zz => nI (mta zz)) (fun zz => oI (mdi zz)) (fun zz => nI (mln zz))) H := hP
  have hD : va_D A (mW cI cJ cB o kv kp kx kl kh ki kf kq ka kt kd kn (nI mpm) (nI mty) (nI mwi) (nI mhi) (nI mwa) (nI mle) (gI mgo) (nI mam) (bI mtm) (nI mli) (vF wd hd nb wl st sl gl aq lb sh bw bh ps) mpa (fun zz => nI (mtx zz)) (fun zz => nI (mlt zz)) (fun zz => nI (mha zz)) (fun zz => nI (mfi zz)) (fun zz => oI (mfa zz)) (fun zz => nI (mqu zz)) (fun zz => lN (mal zz)) (fun zz => nI (mta zz)) (fun zz => oI (mdi zz)) (fun zz => nI (mln zz))) := hD
  refine b_if_eq (tgt := 17) hx hb dX8_goal_5 (by decide) (fun c5 => ?_) (fun c5 => ?_)
  · have _ : True := trivial
    refine lv_iconst (v := (-1)) hx hb dX8_goal_17 (by decide) ?_
    have hm0 : f_goalm wd hd nb bw bh x y = none := by unfold f_goalm; rw [bOf_none (by omega) c5]
    rw [hQ]
    exact W.iret (v := (-1)) hx hb hr (fun t9 ht hW => ⟨⟨_, _, rfl, ⟨gl, aq, mpa, mpm, hh, (by unfold f_goalr; rw [hm0]), rfl, (by rw [hm0]; exact ⟨rfl, rfl⟩), (by rw [hm0]; exact HIS_no hph)⟩, by rw [ht]; exact hP, rfl⟩, hS.F ht⟩) hS.2.2 dX8_goal_18
  · have _ : True := trivial
    obtain ⟨b, hbn, hxb, hbo⟩ := bOf_some (by omega) c5
    subst hxb
    have hsb := hf.2.2.2.2.2.2.2 b hbn
    refine lv_aload_n hx hb dX8_goal_8 rfl (lv_at hl 0 rfl) ?_
    refine lv_iload_n hx hb dX8_goal_9 rfl (lv_at hl 1 rfl) ?_
    refine lv_iload_n hx hb dX8_goal_10 rfl (lv_at hl 2 rfl) ?_
    refine callV_i (As := [.int (nI b), .int y]) (rest := []) [0, 1, 2, 3, 4, 5, 6, 7, 8, 9, 10, 11, 12] hC hK hN hP hD rfl (by decide) hS 0 (ci := 8) rfl rfl rfl (c_X8_isInside l D cI cJ cB o kv kp kx kl kh ki kf kq ka kt kd kn mpm mty mwi mhi mwa mle mam mli mgo mtm mpa mtx mlt mha mfi mqu mta mln mal mfa mdi wd hd nb wl st sl gl aq lb sh bw bh ps b y hf.1 hf.2.1 hf.2.2.2.1 (by omega) (by omega) (by have := hsb.2.1; have := hf.2.1; omega) (by have := hsb.2.2.2.1; have := hf.2.2.2.1; omega)) q867 md_X8_isInside rfl hl.1 rfl (Nat.le_of_ble_eq_true rfl) dX8_goal_11 ⟨Nat.le_of_ble_eq_true rfl, Nat.le_of_ble_eq_true rfl⟩ ⟨Nat.le_of_ble_eq_true rfl, Nat.le_of_ble_eq_true rfl⟩ (fun r_11 w H locs hpost hP hD hS => ?_)
    obtain ⟨rfl, rfl⟩ := hpost
    have hP : va_P D vwCl (mW cI cJ cB o kv kp kx kl kh ki kf kq ka kt kd kn (nI mpm) (nI mty) (nI mwi) (nI mhi) (nI mwa) (nI mle) (gI mgo) (nI mam) (bI mtm) (nI mli) (vF wd hd nb wl st sl gl aq lb sh bw bh ps) mpa (fun zz => nI (mtx zz)) (fun zz => nI (mlt zz)) (fun zz => nI (mha zz)) (fun zz => nI (mfi zz)) (fun zz => oI (mfa zz)) (fun zz => nI (mqu zz)) (fun zz => lN (mal zz)) (fun zz => nI (mta zz)) (fun zz => oI (mdi zz)) (fun zz => nI (mln zz))) H := hP
    have hD : va_D A (mW cI cJ cB o kv kp kx kl kh ki kf kq ka kt kd kn (nI mpm) (nI mty) (nI mwi) (nI mhi) (nI mwa) (nI mle) (gI mgo) (nI mam) (bI mtm) (nI mli) (vF wd hd nb wl st sl gl aq lb sh bw bh ps) mpa (fun zz => nI (mtx zz)) (fun zz => nI (mlt zz)) (fun zz => nI (mha zz)) (fun zz => nI (mfi zz)) (fun zz => oI (mfa zz)) (fun zz => nI (mqu zz)) (fun zz => lN (mal zz)) (fun zz => nI (mta zz)) (fun zz => oI (mdi zz)) (fun zz => nI (mln zz))) := hD
    refine b_if_ne (tgt := 19) hx hb dX8_goal_14 (by decide) (fun c14 => ?_) (fun c14 => ?_)
    · have _ : True := trivial
      obtain ⟨q, hq9, hyq, hqo, hin9⟩ : ∃ q, q < wd * hd ∧ y = nI q ∧ bOf (wd * hd) y = some q ∧ f_ins wd hd (bw b) (bh b) q = true := bOf_in (by omega) c14
      subst hyq
      have hm0 : f_goalm wd hd nb bw bh (nI b) (nI q) = some (b, q) := by unfold f_goalm; rw [hbo, hqo]; exact if_pos hin9
      refine lv_aload_n hx hb dX8_goal_19 rfl (lv_at hl 0 rfl) ?_
      refine callV_v (As := []) (rest := []) [0, 1, 2, 3, 4, 5, 6, 7, 8, 9, 10, 11, 12] hC hK hN hP hD rfl (by decide) hS 0 (ci := 8) rfl rfl rfl (c_X8_act l D cI cJ cB o kv kp kx kl kh ki kf kq ka kt kd kn mpm mty mwi mhi mwa mle mam mli mgo mtm mpa mtx mlt mha mfi mqu mta mln mal mfa mdi (vF wd hd nb wl st sl gl aq lb sh bw bh ps) hh hph) q780 md_X8_act rfl hl.1 rfl (Nat.le_of_ble_eq_true rfl) dX8_goal_20 ⟨Nat.le_of_ble_eq_true rfl, Nat.le_of_ble_eq_true rfl⟩ ⟨Nat.le_of_ble_eq_true rfl, Nat.le_of_ble_eq_true rfl⟩ (fun w H locs hpost hP hD hS => ?_)
      obtain ⟨pa2_20, rfl, hph2⟩ := hpost
      have hP : va_P D vwCl (mW cI cJ cB o kv kp kx kl kh ki kf kq ka kt kd kn (nI (hcnt mpm)) (nI mty) (nI mwi) (nI mhi) (nI mwa) (nI mle) (gI mgo) (nI mam) (bI mtm) (nI mli) (vF wd hd nb wl st sl gl aq lb sh bw bh ps) pa2_20 (fun zz => nI (mtx zz)) (fun zz => nI (mlt zz)) (fun zz => nI (mha zz)) (fun zz => nI (mfi zz)) (fun zz => oI (mfa zz)) (fun zz => nI (mqu zz)) (fun zz => lN (mal zz)) (fun zz => nI (mta zz)) (fun zz => oI (mdi zz)) (fun zz => nI (mln zz))) H := hP
      have hD : va_D A (mW cI cJ cB o kv kp kx kl kh ki kf kq ka kt kd kn (nI (hcnt mpm)) (nI mty) (nI mwi) (nI mhi) (nI mwa) (nI mle) (gI mgo) (nI mam) (bI mtm) (nI mli) (vF wd hd nb wl st sl gl aq lb sh bw bh ps) pa2_20 (fun zz => nI (mtx zz)) (fun zz => nI (mlt zz)) (fun zz => nI (mha zz)) (fun zz => nI (mfi zz)) (fun zz => oI (mfa zz)) (fun zz => nI (mqu zz)) (fun zz => lN (mal zz)) (fun zz => nI (mta zz)) (fun zz => oI (mdi zz)) (fun zz => nI (mln zz))) := hD
      refine lv_aload_n hx hb dX8_goal_23 rfl (lv_at hl 0 rfl) ?_
      refine gf_X8_7 hC hK hP 0 rfl rfl dX8_goal_24 ?_
      refine lv_bipush (v := nI 6) hx hb dX8_goal_27 (by decide) ?_
      refine lv_iload_n hx hb dX8_goal_29 rfl (lv_at hl 1 rfl) ?_
      refine topi (y := gI (some b)) rfl ?_
      refine n_iast hx hb hK hP hD hS 1 0 rfl rfl (by omega) (by decide) (vF_u6 ..) (ws1 := mW cI cJ cB o kv kp kx kl kh ki kf kq ka kt kd kn (nI (hcnt mpm)) (nI mty) (nI mwi) (nI mhi) (nI mwa) (nI mle) (gI mgo) (nI mam) (bI mtm) (nI mli) (vF wd hd nb wl st sl (some b) aq lb sh bw bh ps) pa2_20 (fun zz => nI (mtx zz)) (fun zz => nI (mlt zz)) (fun zz => nI (mha zz)) (fun zz => nI (mfi zz)) (fun zz => oI (mfa zz)) (fun zz => nI (mqu zz)) (fun zz => lN (mal zz)) (fun zz => nI (mta zz)) (fun zz => oI (mdi zz)) (fun zz => nI (mln zz))) rfl dX8_goal_30 (fun H locs hP hD hS => ?_)
      refine lv_aload_n hx hb dX8_goal_31 rfl (lv_at hl 0 rfl) ?_
      refine gf_X8_7 hC hK hP 0 rfl rfl dX8_goal_32 ?_
      refine lv_bipush (v := nI 7) hx hb dX8_goal_35 (by decide) ?_
      refine lv_iload_n hx hb dX8_goal_37 rfl (lv_at hl 2 rfl) ?_
      refine topi (y := gI (some q)) rfl ?_
      refine n_iast hx hb hK hP hD hS 1 0 rfl rfl (by omega) (by decide) (vF_u7 ..) (ws1 := mW cI cJ cB o kv kp kx kl kh ki kf kq ka kt kd kn (nI (hcnt mpm)) (nI mty) (nI mwi) (nI mhi) (nI mwa) (nI mle) (gI mgo) (nI mam) (bI mtm) (nI mli) (vF wd hd nb wl st sl (some b) (some q) lb sh bw bh ps) pa2_20 (fun zz => nI (mtx zz)) (fun zz => nI (mlt zz)) (fun zz => nI (mha zz)) (fun zz => nI (mfi zz)) (fun zz => oI (mfa zz)) (fun zz => nI (mqu zz)) (fun zz => lN (mal zz)) (fun zz => nI (mta zz)) (fun zz => oI (mdi zz)) (fun zz => nI (mln zz))) rfl dX8_goal_38 (fun H locs hP hD hS => ?_)
      refine lv_aload_n hx hb dX8_goal_39 rfl (lv_at hl 0 rfl) ?_
      refine callV_i (As := []) (rest := []) [0, 1, 2, 3, 4, 5, 6, 7, 8, 9, 10, 11, 12] hC hK hN hP hD rfl (by decide) hS 0 (ci := 8) rfl rfl rfl (c_X8_isSolved l D cI cJ cB o kv kp kx kl kh ki kf kq ka kt kd kn (hcnt mpm) mty mwi mhi mwa mle mam mli mgo mtm pa2_20 mtx mlt mha mfi mqu mta mln mal mfa mdi wd hd nb wl st sl (some b) (some q) lb sh bw bh ps (by omega) (Or.inr ⟨b, q, rfl, rfl, hbn, by omega⟩) hps) q819 md_X8_isSolved rfl hl.1 rfl (Nat.le_of_ble_eq_true rfl) dX8_goal_40 ⟨Nat.le_of_ble_eq_true rfl, Nat.le_of_ble_eq_true rfl⟩ ⟨Nat.le_of_ble_eq_true rfl, Nat.le_of_ble_eq_true rfl⟩ (fun r_40 w H locs hpost hP hD hS => ?_)
      obtain ⟨rfl, rfl⟩ := hpost
      have hP : va_P D vwCl (mW cI cJ cB o kv kp kx kl kh ki kf kq ka kt kd kn (nI (hcnt mpm)) (nI mty) (nI mwi) (nI mhi) (nI mwa) (nI mle) (gI mgo) (nI mam) (bI mtm) (nI mli) (vF wd hd nb wl st sl (some b) (some q) lb sh bw bh ps) pa2_20 (fun zz => nI (mtx zz)) (fun zz => nI (mlt zz)) (fun zz => nI (mha zz)) (fun zz => nI (mfi zz)) (fun zz => oI (mfa zz)) (fun zz => nI (mqu zz)) (fun zz => lN (mal zz)) (fun zz => nI (mta zz)) (fun zz => oI (mdi zz)) (fun zz => nI (mln zz))) H := hP
      have hD : va_D A (mW cI cJ cB o kv kp kx kl kh ki kf kq ka kt kd kn (nI (hcnt mpm)) (nI mty) (nI mwi) (nI mhi) (nI mwa) (nI mle) (gI mgo) (nI mam) (bI mtm) (nI mli) (vF wd hd nb wl st sl (some b) (some q) lb sh bw bh ps) pa2_20 (fun zz => nI (mtx zz)) (fun zz => nI (mlt zz)) (fun zz => nI (mha zz)) (fun zz => nI (mfi zz)) (fun zz => oI (mfa zz)) (fun zz => nI (mqu zz)) (fun zz => lN (mal zz)) (fun zz => nI (mta zz)) (fun zz => oI (mdi zz)) (fun zz => nI (mln zz))) := hD
      refine b_if_eq (tgt := 50) hx hb dX8_goal_43 (by decide) (fun c43 => ?_) (fun c43 => ?_)
      · have _ : True := trivial
        refine lv_iconst (v := nI 0) hx hb dX8_goal_50 (by decide) ?_
        refine topi (y := bI (f_sol (some b) (some q) ps)) (by rw [c43]; rfl) ?_
        rw [hQ]
        exact W.iret (v := bI (f_sol (some b) (some q) ps)) hx hb hr (fun t9 ht hW => ⟨⟨_, _, rfl, ⟨(some b), (some q), pa2_20, hcnt mpm, hpush hh mpm (vF wd hd nb wl st sl gl aq lb sh bw bh ps), (by unfold f_goalr; rw [hm0]), rfl, (by rw [hm0]; exact ⟨rfl, rfl⟩), (by rw [hm0]; exact HIS_yes hph2)⟩, by rw [ht]; exact hP, rfl⟩, hS.F ht⟩) hS.2.2 dX8_goal_51
      · have _ : True := trivial
        refine lv_iconst (v := nI 1) hx hb dX8_goal_46 (by decide) ?_
        refine topi (y := bI (f_sol (some b) (some q) ps)) (by rw [c43]; rfl) ?_
        refine lv_goto (tgt := 51) hx hb dX8_goal_47 (by decide) ?_
        rw [hQ]
        exact W.iret (v := bI (f_sol (some b) (some q) ps)) hx hb hr (fun t9 ht hW => ⟨⟨_, _, rfl, ⟨(some b), (some q), pa2_20, hcnt mpm, hpush hh mpm (vF wd hd nb wl st sl gl aq lb sh bw bh ps), (by unfold f_goalr; rw [hm0]), rfl, (by rw [hm0]; exact ⟨rfl, rfl⟩), (by rw [hm0]; exact HIS_yes hph2)⟩, by rw [ht]; exact hP, rfl⟩, hS.F ht⟩) hS.2.2 dX8_goal_51
    · have _ : True := trivial
      refine lv_iconst (v := (-1)) hx hb dX8_goal_17 (by decide) ?_
      have hm0 : f_goalm wd hd nb bw bh (nI b) y = none := by unfold f_goalm; rw [hbo]; cases h9 : bOf (wd * hd) y with | none => rfl | some q => rw [h9] at c14; exact if_neg (by rw [show f_ins wd hd (bw b) (bh b) q = false from c14]; simp)
      rw [hQ]
      exact W.iret (v := (-1)) hx hb hr (fun t9 ht hW => ⟨⟨_, _, rfl, ⟨gl, aq, mpa, mpm, hh, (by unfold f_goalr; rw [hm0]), rfl, (by rw [hm0]; exact ⟨rfl, rfl⟩), (by rw [hm0]; exact HIS_no hph)⟩, by rw [ht]; exact hP, rfl⟩, hS.F ht⟩) hS.2.2 dX8_goal_18
