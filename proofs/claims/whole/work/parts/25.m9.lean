set_option maxHeartbeats 400000 in
set_option maxRecDepth 100000 in
theorem c_X8_frameOf (l : Launch) (D : va_G) (cI cJ cB : ClassId) (o kv kp kx kl kh ki kf kq ka kt kd kn mpm mty mwi mhi mwa mle mam mli : Nat) (mgo : Option Nat) (mtm : Bool) (mpa : Nat → Int32) (mtx mlt mha mfi mqu mta mln mal : Nat → Nat) (mfa mdi : Nat → Option Nat) (wd hd nb wl : Nat) (st sl : Int32) (gl aq lb : Option Nat) (sh bw bh ps : Nat → Nat) (k : Nat) (htv : TV wd hd nb wl sh bw bh ps gl aq lb) (hk9 : k < 9) : Met l yX8_frameOf (Cond.code yX8_frameOf cX8_frameOf 2 (some .int) :: lw_all) (rmN 2) (va_Pc [.ref o, .int (nI k)] (pB D (tyz cI cJ cB) (mW cI cJ cB o kv kp kx kl kh ki kf kq ka kt kd kn (nI mpm) (nI mty) (nI mwi) (nI mhi) (nI mwa) (nI mle) (gI mgo) (nI mam) (bI mtm) (nI mli) (vF wd hd nb wl st sl gl aq lb sh bw bh ps) mpa (fun zz => nI (mtx zz)) (fun zz => nI (mlt zz)) (fun zz => nI (mha zz)) (fun zz => nI (mfi zz)) (fun zz => oI (mfa zz)) (fun zz => nI (mqu zz)) (fun zz => lN (mal zz)) (fun zz => nI (mta zz)) (fun zz => oI (mdi zz)) (fun zz => nI (mln zz))))) (va_Qi (fun (r : Int32) (w : va_W) => r = f_frame wd hd nb wl st sl gl aq sh ps k ∧ w = mW cI cJ cB o kv kp kx kl kh ki kf kq ka kt kd kn (nI mpm) (nI mty) (nI mwi) (nI mhi) (nI mwa) (nI mle) (gI none) (nI mam) (bI mtm) (nI mli) (vF wd hd nb wl st sl gl aq lb sh bw bh ps) mpa (fun zz => nI (mtx zz)) (fun zz => nI (mlt zz)) (fun zz => nI (mha zz)) (fun zz => nI (mfi zz)) (fun zz => oI (mfa zz)) (fun zz => nI (mqu zz)) (fun zz => lN (mal zz)) (fun zz => nI (mta zz)) (fun zz => oI (mdi zz)) (fun zz => nI (mln zz))) (gB D (mW cI cJ cB o kv kp kx kl kh ki kf kq ka kt kd kn (nI mpm) (nI mty) (nI mwi) (nI mhi) (nI mwa) (nI mle) (gI mgo) (nI mam) (bI mtm) (nI mli) (vF wd hd nb wl st sl gl aq lb sh bw bh ps) mpa (fun zz => nI (mtx zz)) (fun zz => nI (mlt zz)) (fun zz => nI (mha zz)) (fun zz => nI (mfi zz)) (fun zz => oI (mfa zz)) (fun zz => nI (mqu zz)) (fun zz => lN (mal zz)) (fun zz => nI (mta zz)) (fun zz => oI (mdi zz)) (fun zz => nI (mln zz)))) (aW (mW cI cJ cB o kv kp kx kl kh ki kf kq ka kt kd kn (nI mpm) (nI mty) (nI mwi) (nI mhi) (nI mwa) (nI mle) (gI mgo) (nI mam) (bI mtm) (nI mli) (vF wd hd nb wl st sl gl aq lb sh bw bh ps) mpa (fun zz => nI (mtx zz)) (fun zz => nI (mlt zz)) (fun zz => nI (mha zz)) (fun zz => nI (mfi zz)) (fun zz => oI (mfa zz)) (fun zz => nI (mqu zz)) (fun zz => lN (mal zz)) (fun zz => nI (mta zz)) (fun zz => oI (mdi zz)) (fun zz => nI (mln zz))))) 0 0 (aW (mW cI cJ cB o kv kp kx kl kh ki kf kq ka kt kd kn (nI mpm) (nI mty) (nI mwi) (nI mhi) (nI mwa) (nI mle) (gI mgo) (nI mam) (bI mtm) (nI mli) (vF wd hd nb wl st sl gl aq lb sh bw bh ps) mpa (fun zz => nI (mtx zz)) (fun zz => nI (mlt zz)) (fun zz => nI (mha zz)) (fun zz => nI (mfi zz)) (fun zz => oI (mfa zz)) (fun zz => nI (mqu zz)) (fun zz => lN (mal zz)) (fun zz => nI (mta zz)) (fun zz => oI (mdi zz)) (fun zz => nI (mln zz)))) := by
  refine Met.ofW (cc := cX8_frameOf) (maxL := 2) (ret := (some .int)) (by decide) rfl ?_
  intro p e s m args below meth c s₁ B hml hv
  obtain ⟨rfl, hK, hN, hP, hD0⟩ := hv
  have hx := B.exec; have hb := B.bytes; have hr := B.returns; have hlocks := B.notSynchronized
  have hts0 := atoms_spec (ws := Cond.code yX8_frameOf cX8_frameOf 2 (some .int) :: lw_all) B.pre
  have hC : CallFix p m c cX8_frameOf 2 s _ lw_all RX8 := ⟨hx, hb, hml, findClass_of_methodNamed B.named, fun w h => hts0 w (List.mem_cons_of_mem _ h)⟩
  have hD : va_D (aW (mW cI cJ cB o kv kp kx kl kh ki kf kq ka kt kd kn (nI mpm) (nI mty) (nI mwi) (nI mhi) (nI mwa) (nI mle) (gI mgo) (nI mam) (bI mtm) (nI mli) (vF wd hd nb wl st sl gl aq lb sh bw bh ps) mpa (fun zz => nI (mtx zz)) (fun zz => nI (mlt zz)) (fun zz => nI (mha zz)) (fun zz => nI (mfi zz)) (fun zz => oI (mfa zz)) (fun zz => nI (mqu zz)) (fun zz => lN (mal zz)) (fun zz => nI (mta zz)) (fun zz => oI (mdi zz)) (fun zz => nI (mln zz)))) (mW cI cJ cB o kv kp kx kl kh ki kf kq ka kt kd kn (nI mpm) (nI mty) (nI mwi) (nI mhi) (nI mwa) (nI mle) (gI mgo) (nI mam) (bI mtm) (nI mli) (vF wd hd nb wl st sl gl aq lb sh bw bh ps) mpa (fun zz => nI (mtx zz)) (fun zz => nI (mlt zz)) (fun zz => nI (mha zz)) (fun zz => nI (mfi zz)) (fun zz => oI (mfa zz)) (fun zz => nI (mqu zz)) (fun zz => lN (mal zz)) (fun zz => nI (mta zz)) (fun zz => oI (mdi zz)) (fun zz => nI (mln zz))) := ⟨hD0.1, fun k q h => ⟨k, q.2, h⟩⟩
  generalize hAe : aW (mW cI cJ cB o kv kp kx kl kh ki kf kq ka kt kd kn (nI mpm) (nI mty) (nI mwi) (nI mhi) (nI mwa) (nI mle) (gI mgo) (nI mam) (bI mtm) (nI mli) (vF wd hd nb wl st sl gl aq lb sh bw bh ps) mpa (fun zz => nI (mtx zz)) (fun zz => nI (mlt zz)) (fun zz => nI (mha zz)) (fun zz => nI (mfi zz)) (fun zz => oI (mfa zz)) (fun zz => nI (mqu zz)) (fun zz => lN (mal zz)) (fun zz => nI (mta zz)) (fun zz => oI (mdi zz)) (fun zz => nI (mln zz))) = A at hD ⊢
  have hS : va_S A s.heap s.heap [] := va_S.rf
  have hl := lv_entry ([.ref o, .int (nI k)]) (n := 2) (Nat.le_of_ble_eq_true rfl)
  rw [lg_entry_eq]
  generalize (lg_sl ([.ref o, .int (nI k)]) ++ List.replicate (2 - (lg_sl ([.ref o, .int (nI k)])).length) Slot.unset).toArray = ls at hl ⊢
  have hl : lv_has ls 2 [(0, .ref o), (1, .int (nI k))] := hl
  generalize hav : ([.ref o, .int (nI k)] : List Value).toArray = args at hC ⊢
  refine W_gen (fun QQ hQ => ?_)
  show W p l e (rmN 2) s m args below meth c s.heap [] 0 0 QQ (F0 m 0 ls [])
  obtain ⟨hf, hps, hk1, hga, hlb⟩ := id htv
  have hn7 := hf.2.2.2.2.2.1
  have h24 := hf.2.2.2.2.1
  refine lv_aload_n hx hb dX8_frameOf_0 rfl (lv_at hl 0 rfl) ?_
  refine lv_bipush (v := (-9)) hx hb dX8_frameOf_1 (by decide) ?_
  refine topi (y := gI none) rfl ?_
  refine pf_X8_28 hC hK hP hD hS 0 rfl (Nat.le_of_ble_eq_true rfl) (ws1 := mW cI cJ cB o kv kp kx kl kh ki kf kq ka kt kd kn (nI mpm) (nI mty) (nI mwi) (nI mhi) (nI mwa) (nI mle) (gI none) (nI mam) (bI mtm) (nI mli) (vF wd hd nb wl st sl gl aq lb sh bw bh ps) mpa (fun zz => nI (mtx zz)) (fun zz => nI (mlt zz)) (fun zz => nI (mha zz)) (fun zz => nI (mfi zz)) (fun zz => oI (mfa zz)) (fun zz => nI (mqu zz)) (fun zz => lN (mal zz)) (fun zz => nI (mta zz)) (fun zz => oI (mdi zz)) (fun zz => nI (mln zz))) rfl dX8_frameOf_3 (fun H locs hP hD hS => ?_)
  rcases (by omega : k = 0 ∨ k = 1 ∨ k = 2 ∨ k = 3 ∨ k = 4 ∨ k = 5 ∨ k = 6 ∨ k = 7 ∨ k = 8) with rfl | rfl | rfl | rfl | rfl | rfl | rfl | rfl | rfl
  · have _ : True := trivial
    refine lv_iload_n hx hb dX8_frameOf_6 rfl (lv_at hl 1 rfl) ?_
    refine lv_lookup (x := nI 0) (off := 57) (tgt := 64) hx hb dX8_frameOf_7 (by decide) (by decide) (by decide) ?_
    refine lv_aload_n hx hb dX8_frameOf_64 rfl (lv_at hl 0 rfl) ?_
    refine gf_X8_7 hC hK hP 0 rfl rfl dX8_frameOf_65 ?_
    refine lv_iload_n hx hb dX8_frameOf_68 rfl (lv_at hl 1 rfl) ?_
    refine n_iald hx hb hK hP 1 0 rfl rfl (by omega) (by decide) dX8_frameOf_69 ?_
    refine topi (y := nI wd) rfl ?_
    rw [hQ]
    exact W.iret (v := nI wd) hx hb hr (fun t9 ht hW => ⟨⟨_, _, rfl, ⟨rfl, rfl⟩, by rw [ht]; exact hP, rfl⟩, hS.F ht⟩) hS.2.2 dX8_frameOf_70
  · have _ : True := trivial
    refine lv_iload_n hx hb dX8_frameOf_6 rfl (lv_at hl 1 rfl) ?_
    refine lv_lookup (x := nI 1) (off := 57) (tgt := 64) hx hb dX8_frameOf_7 (by decide) (by decide) (by decide) ?_
    refine lv_aload_n hx hb dX8_frameOf_64 rfl (lv_at hl 0 rfl) ?_
    refine gf_X8_7 hC hK hP 0 rfl rfl dX8_frameOf_65 ?_
    refine lv_iload_n hx hb dX8_frameOf_68 rfl (lv_at hl 1 rfl) ?_
    refine n_iald hx hb hK hP 1 0 rfl rfl (by omega) (by decide) dX8_frameOf_69 ?_
    refine topi (y := nI hd) rfl ?_
    rw [hQ]
    exact W.iret (v := nI hd) hx hb hr (fun t9 ht hW => ⟨⟨_, _, rfl, ⟨rfl, rfl⟩, by rw [ht]; exact hP, rfl⟩, hS.F ht⟩) hS.2.2 dX8_frameOf_70
  · have _ : True := trivial
    refine lv_iload_n hx hb dX8_frameOf_6 rfl (lv_at hl 1 rfl) ?_
    refine lv_lookup (x := nI 2) (off := 57) (tgt := 64) hx hb dX8_frameOf_7 (by decide) (by decide) (by decide) ?_
    refine lv_aload_n hx hb dX8_frameOf_64 rfl (lv_at hl 0 rfl) ?_
    refine gf_X8_7 hC hK hP 0 rfl rfl dX8_frameOf_65 ?_
    refine lv_iload_n hx hb dX8_frameOf_68 rfl (lv_at hl 1 rfl) ?_
    refine n_iald hx hb hK hP 1 0 rfl rfl (by omega) (by decide) dX8_frameOf_69 ?_
    refine topi (y := nI nb) rfl ?_
    rw [hQ]
    exact W.iret (v := nI nb) hx hb hr (fun t9 ht hW => ⟨⟨_, _, rfl, ⟨rfl, rfl⟩, by rw [ht]; exact hP, rfl⟩, hS.F ht⟩) hS.2.2 dX8_frameOf_70
  · have _ : True := trivial
    refine lv_iload_n hx hb dX8_frameOf_6 rfl (lv_at hl 1 rfl) ?_
    refine lv_lookup (x := nI 3) (off := 25) (tgt := 32) hx hb dX8_frameOf_7 (by decide) (by decide) (by decide) ?_
    refine lv_aload_n hx hb dX8_frameOf_32 rfl (lv_at hl 0 rfl) ?_
    refine callV_i (As := []) (rest := []) [0, 1, 2, 3, 4, 5, 6, 7, 8, 9, 10, 11, 12] hC hK hN hP hD rfl (by decide) hS 0 (ci := 8) rfl rfl rfl (c_X8_cells l D cI cJ cB o kv kp kx kl kh ki kf kq ka kt kd kn mpm mty mwi mhi mwa mle mam mli none mtm mpa mtx mlt mha mfi mqu mta mln mal mfa mdi wd hd nb wl st sl gl aq lb sh bw bh ps ) q796 md_X8_cells rfl hl.1 rfl (Nat.le_of_ble_eq_true rfl) dX8_frameOf_33 ⟨Nat.le_of_ble_eq_true rfl, Nat.le_of_ble_eq_true rfl⟩ ⟨Nat.le_of_ble_eq_true rfl, Nat.le_of_ble_eq_true rfl⟩ (fun r_33 w H locs hpost hP hD hS => ?_)
    obtain ⟨rfl, rfl⟩ := hpost
    have hP : va_P D vwCl (mW cI cJ cB o kv kp kx kl kh ki kf kq ka kt kd kn (nI mpm) (nI mty) (nI mwi) (nI mhi) (nI mwa) (nI mle) (gI none) (nI mam) (bI mtm) (nI mli) (vF wd hd nb wl st sl gl aq lb sh bw bh ps) mpa (fun zz => nI (mtx zz)) (fun zz => nI (mlt zz)) (fun zz => nI (mha zz)) (fun zz => nI (mfi zz)) (fun zz => oI (mfa zz)) (fun zz => nI (mqu zz)) (fun zz => lN (mal zz)) (fun zz => nI (mta zz)) (fun zz => oI (mdi zz)) (fun zz => nI (mln zz))) H := hP
    have hD : va_D A (mW cI cJ cB o kv kp kx kl kh ki kf kq ka kt kd kn (nI mpm) (nI mty) (nI mwi) (nI mhi) (nI mwa) (nI mle) (gI none) (nI mam) (bI mtm) (nI mli) (vF wd hd nb wl st sl gl aq lb sh bw bh ps) mpa (fun zz => nI (mtx zz)) (fun zz => nI (mlt zz)) (fun zz => nI (mha zz)) (fun zz => nI (mfi zz)) (fun zz => oI (mfa zz)) (fun zz => nI (mqu zz)) (fun zz => lN (mal zz)) (fun zz => nI (mta zz)) (fun zz => oI (mdi zz)) (fun zz => nI (mln zz))) := hD
    refine lv_aload_n hx hb dX8_frameOf_36 rfl (lv_at hl 0 rfl) ?_
    refine lv_aload_n hx hb dX8_frameOf_37 rfl (lv_at hl 0 rfl) ?_
    refine callV_l (As := []) (rest := [.ref o, .int (nI (wd * hd))]) [0, 1, 2, 3, 4, 5, 6, 7, 8, 9, 10, 11, 12] hC hK hN hP hD rfl (by decide) hS 0 (ci := 8) rfl rfl rfl (c_X8_present l D cI cJ cB o kv kp kx kl kh ki kf kq ka kt kd kn mpm mty mwi mhi mwa mle mam mli none mtm mpa mtx mlt mha mfi mqu mta mln mal mfa mdi wd hd nb wl st sl gl aq lb sh bw bh ps (by omega) hps) q800 md_X8_present rfl hl.1 rfl (Nat.le_of_ble_eq_true rfl) dX8_frameOf_38 ⟨Nat.le_of_ble_eq_true rfl, Nat.le_of_ble_eq_true rfl⟩ ⟨Nat.le_of_ble_eq_true rfl, Nat.le_of_ble_eq_true rfl⟩ (fun r_38 w H locs hpost hP hD hS => ?_)
    obtain ⟨rfl, rfl⟩ := hpost
    have hP : va_P D vwCl (mW cI cJ cB o kv kp kx kl kh ki kf kq ka kt kd kn (nI mpm) (nI mty) (nI mwi) (nI mhi) (nI mwa) (nI mle) (gI none) (nI mam) (bI mtm) (nI mli) (vF wd hd nb wl st sl gl aq lb sh bw bh ps) mpa (fun zz => nI (mtx zz)) (fun zz => nI (mlt zz)) (fun zz => nI (mha zz)) (fun zz => nI (mfi zz)) (fun zz => oI (mfa zz)) (fun zz => nI (mqu zz)) (fun zz => lN (mal zz)) (fun zz => nI (mta zz)) (fun zz => oI (mdi zz)) (fun zz => nI (mln zz))) H := hP
    have hD : va_D A (mW cI cJ cB o kv kp kx kl kh ki kf kq ka kt kd kn (nI mpm) (nI mty) (nI mwi) (nI mhi) (nI mwa) (nI mle) (gI none) (nI mam) (bI mtm) (nI mli) (vF wd hd nb wl st sl gl aq lb sh bw bh ps) mpa (fun zz => nI (mtx zz)) (fun zz => nI (mlt zz)) (fun zz => nI (mha zz)) (fun zz => nI (mfi zz)) (fun zz => oI (mfa zz)) (fun zz => nI (mqu zz)) (fun zz => lN (mal zz)) (fun zz => nI (mta zz)) (fun zz => oI (mdi zz)) (fun zz => nI (mln zz))) := hD
    refine lv_bipush (v := (-9)) hx hb dX8_frameOf_41 (by decide) ?_
    refine callV_i (As := [.long (lN (pkey ps nb)), .int (-9)]) (rest := [.int (nI (wd * hd))]) [0, 1, 2, 3, 4, 5, 6, 7, 8, 9, 10, 11, 12] hC hK hN hP hD rfl (by decide) hS 0 (ci := 8) rfl rfl rfl (c_X8_taken l D cI cJ cB o kv kp kx kl kh ki kf kq ka kt kd kn mpm mty mwi mhi mwa mle mam mli none mtm mpa mtx mlt mha mfi mqu mta mln mal mfa mdi wd hd nb wl st sl gl aq lb sh bw bh ps (pkey ps nb) none (by omega) hk1.1 (fun d h => by cases h) (fun d h => by cases h)) q809 md_X8_taken rfl hl.1 rfl (Nat.le_of_ble_eq_true rfl) dX8_frameOf_43 ⟨Nat.le_of_ble_eq_true rfl, Nat.le_of_ble_eq_true rfl⟩ ⟨Nat.le_of_ble_eq_true rfl, Nat.le_of_ble_eq_true rfl⟩ (fun r_43 w H locs hpost hP hD hS => ?_)
    obtain ⟨rfl, rfl⟩ := hpost
    have hP : va_P D vwCl (mW cI cJ cB o kv kp kx kl kh ki kf kq ka kt kd kn (nI mpm) (nI mty) (nI mwi) (nI mhi) (nI mwa) (nI mle) (gI none) (nI mam) (bI mtm) (nI mli) (vF wd hd nb wl st sl gl aq lb sh bw bh ps) mpa (fun zz => nI (mtx zz)) (fun zz => nI (mlt zz)) (fun zz => nI (mha zz)) (fun zz => nI (mfi zz)) (fun zz => oI (mfa zz)) (fun zz => nI (mqu zz)) (fun zz => lN (mal zz)) (fun zz => nI (mta zz)) (fun zz => oI (mdi zz)) (fun zz => nI (mln zz))) H := hP
    have hD : va_D A (mW cI cJ cB o kv kp kx kl kh ki kf kq ka kt kd kn (nI mpm) (nI mty) (nI mwi) (nI mhi) (nI mwa) (nI mle) (gI none) (nI mam) (bI mtm) (nI mli) (vF wd hd nb wl st sl gl aq lb sh bw bh ps) mpa (fun zz => nI (mtx zz)) (fun zz => nI (mlt zz)) (fun zz => nI (mha zz)) (fun zz => nI (mfi zz)) (fun zz => oI (mfa zz)) (fun zz => nI (mqu zz)) (fun zz => lN (mal zz)) (fun zz => nI (mta zz)) (fun zz => oI (mdi zz)) (fun zz => nI (mln zz))) := hD
    refine callS_i (As := [.int (nI (tk wl sh (pkey ps nb) (exb none none) nb))]) (rest := [.int (nI (wd * hd))]) [] hC hK hN hP hD rfl (by decide) hS (c_X8_many l D cI cJ cB (tk wl sh (pkey ps nb) (exb none none) nb) (by have : (tk wl sh (pkey ps nb) (exb none none) nb) < 2 ^ 24 := tk_lt hf hk1 (fun _ _ h => by cases h); omega)) q816 md_X8_many rfl hl.1 rfl (Nat.le_of_ble_eq_true rfl) dX8_frameOf_46 ⟨Nat.le_of_ble_eq_true rfl, Nat.le_of_ble_eq_true rfl⟩ ⟨Nat.le_of_ble_eq_true rfl, Nat.le_of_ble_eq_true rfl⟩ (fun r_46 w H locs hpost hP hD hS => ?_)
    obtain ⟨rfl, rfl⟩ := hpost
    have hP : va_P D vwCl (mW cI cJ cB o kv kp kx kl kh ki kf kq ka kt kd kn (nI mpm) (nI mty) (nI mwi) (nI mhi) (nI mwa) (nI mle) (gI none) (nI mam) (bI mtm) (nI mli) (vF wd hd nb wl st sl gl aq lb sh bw bh ps) mpa (fun zz => nI (mtx zz)) (fun zz => nI (mlt zz)) (fun zz => nI (mha zz)) (fun zz => nI (mfi zz)) (fun zz => oI (mfa zz)) (fun zz => nI (mqu zz)) (fun zz => lN (mal zz)) (fun zz => nI (mta zz)) (fun zz => oI (mdi zz)) (fun zz => nI (mln zz))) H := hP
    have hD : va_D A (mW cI cJ cB o kv kp kx kl kh ki kf kq ka kt kd kn (nI mpm) (nI mty) (nI mwi) (nI mhi) (nI mwa) (nI mle) (gI none) (nI mam) (bI mtm) (nI mli) (vF wd hd nb wl st sl gl aq lb sh bw bh ps) mpa (fun zz => nI (mtx zz)) (fun zz => nI (mlt zz)) (fun zz => nI (mha zz)) (fun zz => nI (mfi zz)) (fun zz => oI (mfa zz)) (fun zz => nI (mqu zz)) (fun zz => lN (mal zz)) (fun zz => nI (mta zz)) (fun zz => oI (mdi zz)) (fun zz => nI (mln zz))) := hD
    refine lv_isub hx hb dX8_frameOf_49 ?_
    rw [hQ]
    exact W.iret (v := (nI (wd * hd)) - (nI (cnt (tk wl sh (pkey ps nb) (exb none none) nb) 24))) hx hb hr (fun t9 ht hW => ⟨⟨_, _, rfl, ⟨rfl, rfl⟩, by rw [ht]; exact hP, rfl⟩, hS.F ht⟩) hS.2.2 dX8_frameOf_50
  · have _ : True := trivial
    refine lv_iload_n hx hb dX8_frameOf_6 rfl (lv_at hl 1 rfl) ?_
    refine lv_lookup (x := nI 4) (off := 57) (tgt := 64) hx hb dX8_frameOf_7 (by decide) (by decide) (by decide) ?_
    refine lv_aload_n hx hb dX8_frameOf_64 rfl (lv_at hl 0 rfl) ?_
    refine gf_X8_7 hC hK hP 0 rfl rfl dX8_frameOf_65 ?_
    refine lv_iload_n hx hb dX8_frameOf_68 rfl (lv_at hl 1 rfl) ?_
    refine n_iald hx hb hK hP 1 0 rfl rfl (by omega) (by decide) dX8_frameOf_69 ?_
    refine topi (y := st) rfl ?_
    rw [hQ]
    exact W.iret (v := st) hx hb hr (fun t9 ht hW => ⟨⟨_, _, rfl, ⟨rfl, rfl⟩, by rw [ht]; exact hP, rfl⟩, hS.F ht⟩) hS.2.2 dX8_frameOf_70
  · have _ : True := trivial
    refine lv_iload_n hx hb dX8_frameOf_6 rfl (lv_at hl 1 rfl) ?_
    refine lv_lookup (x := nI 5) (off := 57) (tgt := 64) hx hb dX8_frameOf_7 (by decide) (by decide) (by decide) ?_
    refine lv_aload_n hx hb dX8_frameOf_64 rfl (lv_at hl 0 rfl) ?_
    refine gf_X8_7 hC hK hP 0 rfl rfl dX8_frameOf_65 ?_
    refine lv_iload_n hx hb dX8_frameOf_68 rfl (lv_at hl 1 rfl) ?_
    refine n_iald hx hb hK hP 1 0 rfl rfl (by omega) (by decide) dX8_frameOf_69 ?_
    refine topi (y := sl) rfl ?_
    rw [hQ]
    exact W.iret (v := sl) hx hb hr (fun t9 ht hW => ⟨⟨_, _, rfl, ⟨rfl, rfl⟩, by rw [ht]; exact hP, rfl⟩, hS.F ht⟩) hS.2.2 dX8_frameOf_70
  · have _ : True := trivial
    refine lv_iload_n hx hb dX8_frameOf_6 rfl (lv_at hl 1 rfl) ?_
    refine lv_lookup (x := nI 6) (off := 57) (tgt := 64) hx hb dX8_frameOf_7 (by decide) (by decide) (by decide) ?_
    refine lv_aload_n hx hb dX8_frameOf_64 rfl (lv_at hl 0 rfl) ?_
    refine gf_X8_7 hC hK hP 0 rfl rfl dX8_frameOf_65 ?_
    refine lv_iload_n hx hb dX8_frameOf_68 rfl (lv_at hl 1 rfl) ?_
    refine n_iald hx hb hK hP 1 0 rfl rfl (by omega) (by decide) dX8_frameOf_69 ?_
    refine topi (y := gI gl) rfl ?_
    rw [hQ]
    exact W.iret (v := gI gl) hx hb hr (fun t9 ht hW => ⟨⟨_, _, rfl, ⟨rfl, rfl⟩, by rw [ht]; exact hP, rfl⟩, hS.F ht⟩) hS.2.2 dX8_frameOf_70
  · have _ : True := trivial
    refine lv_iload_n hx hb dX8_frameOf_6 rfl (lv_at hl 1 rfl) ?_
    refine lv_lookup (x := nI 7) (off := 57) (tgt := 64) hx hb dX8_frameOf_7 (by decide) (by decide) (by decide) ?_
    refine lv_aload_n hx hb dX8_frameOf_64 rfl (lv_at hl 0 rfl) ?_
    refine gf_X8_7 hC hK hP 0 rfl rfl dX8_frameOf_65 ?_
    refine lv_iload_n hx hb dX8_frameOf_68 rfl (lv_at hl 1 rfl) ?_
    refine n_iald hx hb hK hP 1 0 rfl rfl (by omega) (by decide) dX8_frameOf_69 ?_
    refine topi (y := gI aq) rfl ?_
    rw [hQ]
    exact W.iret (v := gI aq) hx hb hr (fun t9 ht hW => ⟨⟨_, _, rfl, ⟨rfl, rfl⟩, by rw [ht]; exact hP, rfl⟩, hS.F ht⟩) hS.2.2 dX8_frameOf_70
  · have _ : True := trivial
    refine lv_iload_n hx hb dX8_frameOf_6 rfl (lv_at hl 1 rfl) ?_
    refine lv_lookup (x := nI 8) (off := 44) (tgt := 51) hx hb dX8_frameOf_7 (by decide) (by decide) (by decide) ?_
    refine lv_aload_n hx hb dX8_frameOf_51 rfl (lv_at hl 0 rfl) ?_
    refine callV_i (As := []) (rest := []) [0, 1, 2, 3, 4, 5, 6, 7, 8, 9, 10, 11, 12] hC hK hN hP hD rfl (by decide) hS 0 (ci := 8) rfl rfl rfl (c_X8_isSolved l D cI cJ cB o kv kp kx kl kh ki kf kq ka kt kd kn mpm mty mwi mhi mwa mle mam mli none mtm mpa mtx mlt mha mfi mqu mta mln mal mfa mdi wd hd nb wl st sl gl aq lb sh bw bh ps (by omega) hga hps) q819 md_X8_isSolved rfl hl.1 rfl (Nat.le_of_ble_eq_true rfl) dX8_frameOf_52 ⟨Nat.le_of_ble_eq_true rfl, Nat.le_of_ble_eq_true rfl⟩ ⟨Nat.le_of_ble_eq_true rfl, Nat.le_of_ble_eq_true rfl⟩ (fun r_52 w H locs hpost hP hD hS => ?_)
    obtain ⟨rfl, rfl⟩ := hpost
    have hP : va_P D vwCl (mW cI cJ cB o kv kp kx kl kh ki kf kq ka kt kd kn (nI mpm) (nI mty) (nI mwi) (nI mhi) (nI mwa) (nI mle) (gI none) (nI mam) (bI mtm) (nI mli) (vF wd hd nb wl st sl gl aq lb sh bw bh ps) mpa (fun zz => nI (mtx zz)) (fun zz => nI (mlt zz)) (fun zz => nI (mha zz)) (fun zz => nI (mfi zz)) (fun zz => oI (mfa zz)) (fun zz => nI (mqu zz)) (fun zz => lN (mal zz)) (fun zz => nI (mta zz)) (fun zz => oI (mdi zz)) (fun zz => nI (mln zz))) H := hP
    have hD : va_D A (mW cI cJ cB o kv kp kx kl kh ki kf kq ka kt kd kn (nI mpm) (nI mty) (nI mwi) (nI mhi) (nI mwa) (nI mle) (gI none) (nI mam) (bI mtm) (nI mli) (vF wd hd nb wl st sl gl aq lb sh bw bh ps) mpa (fun zz => nI (mtx zz)) (fun zz => nI (mlt zz)) (fun zz => nI (mha zz)) (fun zz => nI (mfi zz)) (fun zz => oI (mfa zz)) (fun zz => nI (mqu zz)) (fun zz => lN (mal zz)) (fun zz => nI (mta zz)) (fun zz => oI (mdi zz)) (fun zz => nI (mln zz))) := hD
    refine b_if_eq (tgt := 62) hx hb dX8_frameOf_55 (by decide) (fun c55 => ?_) (fun c55 => ?_)
    · have _ : True := trivial
      refine lv_iconst (v := nI 0) hx hb dX8_frameOf_62 (by decide) ?_
      refine topi (y := bI (f_sol gl aq ps)) (by rw [c55]; rfl) ?_
      rw [hQ]
      exact W.iret (v := bI (f_sol gl aq ps)) hx hb hr (fun t9 ht hW => ⟨⟨_, _, rfl, ⟨rfl, rfl⟩, by rw [ht]; exact hP, rfl⟩, hS.F ht⟩) hS.2.2 dX8_frameOf_63
    · have _ : True := trivial
      refine lv_iconst (v := nI 1) hx hb dX8_frameOf_58 (by decide) ?_
      refine topi (y := bI (f_sol gl aq ps)) (by rw [c55]; rfl) ?_
      refine lv_goto (tgt := 63) hx hb dX8_frameOf_59 (by decide) ?_
      rw [hQ]
      exact W.iret (v := bI (f_sol gl aq ps)) hx hb hr (fun t9 ht hW => ⟨⟨_, _, rfl, ⟨rfl, rfl⟩, by rw [ht]; exact hP, rfl⟩, hS.F ht⟩) hS.2.2 dX8_frameOf_63

set_option maxHeartbeats 400000 in
set_option maxRecDepth 100000 in
theorem c_X8_frame (l : Launch) (D : va_G) (cI cJ cB : ClassId) (o kv kp kx kl kh ki kf kq ka kt kd kn mpm mty mwi mhi mwa mle mam mli : Nat) (mgo : Option Nat) (mtm : Bool) (mpa : Nat → Int32) (mtx mlt mha mfi mqu mta mln mal : Nat → Nat) (mfa mdi : Nat → Option Nat) (wd hd nb wl : Nat) (st sl : Int32) (gl aq lb : Option Nat) (sh bw bh ps : Nat → Nat) (x : Int32) (htv : TV wd hd nb wl sh bw bh ps gl aq lb) : Met l yX8_frame (Cond.code yX8_frame cX8_frame 2 (some .int) :: lw_all) (rmN 3) (va_Pc [.ref o, .int x] (pB D (tyz cI cJ cB) (mW cI cJ cB o kv kp kx kl kh ki kf kq ka kt kd kn (nI mpm) (nI mty) (nI mwi) (nI mhi) (nI mwa) (nI mle) (gI mgo) (nI mam) (bI mtm) (nI mli) (vF wd hd nb wl st sl gl aq lb sh bw bh ps) mpa (fun zz => nI (mtx zz)) (fun zz => nI (mlt zz)) (fun zz => nI (mha zz)) (fun zz => nI (mfi zz)) (fun zz => oI (mfa zz)) (fun zz => nI (mqu zz)) (fun zz => lN (mal zz)) (fun zz => nI (mta zz)) (fun zz => oI (mdi zz)) (fun zz => nI (mln zz))))) (va_Qi (fun (r : Int32) (w : va_W) => ∃ go2 : Option Nat, r = f_framex wd hd nb wl st sl gl aq sh ps x ∧ w = mW cI cJ cB o kv kp kx kl kh ki kf kq ka kt kd kn (nI mpm) (nI mty) (nI mwi) (nI mhi) (nI mwa) (nI mle) (gI go2) (nI mam) (bI mtm) (nI mli) (vF wd hd nb wl st sl gl aq lb sh bw bh ps) mpa (fun zz => nI (mtx zz)) (fun zz => nI (mlt zz)) (fun zz => nI (mha zz)) (fun zz => nI (mfi zz)) (fun zz => oI (mfa zz)) (fun zz => nI (mqu zz)) (fun zz => lN (mal zz)) (fun zz => nI (mta zz)) (fun zz => oI (mdi zz)) (fun zz => nI (mln zz))) (gB D (mW cI cJ cB o kv kp kx kl kh ki kf kq ka kt kd kn (nI mpm) (nI mty) (nI mwi) (nI mhi) (nI mwa) (nI mle) (gI mgo) (nI mam) (bI mtm) (nI mli) (vF wd hd nb wl st sl gl aq lb sh bw bh ps) mpa (fun zz => nI (mtx zz)) (fun zz => nI (mlt zz)) (fun zz => nI (mha zz)) (fun zz => nI (mfi zz)) (fun zz => oI (mfa zz)) (fun zz => nI (mqu zz)) (fun zz => lN (mal zz)) (fun zz => nI (mta zz)) (fun zz => oI (mdi zz)) (fun zz => nI (mln zz)))) (aW (mW cI cJ cB o kv kp kx kl kh ki kf kq ka kt kd kn (nI mpm) (nI mty) (nI mwi) (nI mhi) (nI mwa) (nI mle) (gI mgo) (nI mam) (bI mtm) (nI mli) (vF wd hd nb wl st sl gl aq lb sh bw bh ps) mpa (fun zz => nI (mtx zz)) (fun zz => nI (mlt zz)) (fun zz => nI (mha zz)) (fun zz => nI (mfi zz)) (fun zz => oI (mfa zz)) (fun zz => nI (mqu zz)) (fun zz => lN (mal zz)) (fun zz => nI (mta zz)) (fun zz => oI (mdi zz)) (fun zz => nI (mln zz))))) 0 0 (aW (mW cI cJ cB o kv kp kx kl kh ki kf kq ka kt kd kn (nI mpm) (nI mty) (nI mwi) (nI mhi) (nI mwa) (nI mle) (gI mgo) (nI mam) (bI mtm) (nI mli) (vF wd hd nb wl st sl gl aq lb sh bw bh ps) mpa (fun zz => nI (mtx zz)) (fun zz => nI (mlt zz)) (fun zz => nI (mha zz)) (fun zz => nI (mfi zz)) (fun zz => oI (mfa zz)) (fun zz => nI (mqu zz)) (fun zz => lN (mal zz)) (fun zz => nI (mta zz)) (fun zz => oI (mdi zz)) (fun zz => nI (mln zz)))) := by
  refine Met.ofW (cc := cX8_frame) (maxL := 2) (ret := (some .int)) (by decide) rfl ?_
  intro p e s m args below meth c s₁ B hml hv
  obtain ⟨rfl, hK, hN, hP, hD0⟩ := hv
  have hx := B.exec; have hb := B.bytes; have hr := B.returns; have hlocks := B.notSynchronized
  have hts0 := atoms_spec (ws := Cond.code yX8_frame cX8_frame 2 (some .int) :: lw_all) B.pre
  have hC : CallFix p m c cX8_frame 2 s _ lw_all RX8 := ⟨hx, hb, hml, findClass_of_methodNamed B.named, fun w h => hts0 w (List.mem_cons_of_mem _ h)⟩
  have hD : va_D (aW (mW cI cJ cB o kv kp kx kl kh ki kf kq ka kt kd kn (nI mpm) (nI mty) (nI mwi) (nI mhi) (nI mwa) (nI mle) (gI mgo) (nI mam) (bI mtm) (nI mli) (vF wd hd nb wl st sl gl aq lb sh bw bh ps) mpa (fun zz => nI (mtx zz)) (fun zz => nI (mlt zz)) (fun zz => nI (mha zz)) (fun zz => nI (mfi zz)) (fun zz => oI (mfa zz)) (fun zz => nI (mqu zz)) (fun zz => lN (mal zz)) (fun zz => nI (mta zz)) (fun zz => oI (mdi zz)) (fun zz => nI (mln zz)))) (mW cI cJ cB o kv kp kx kl kh ki kf kq ka kt kd kn (nI mpm) (nI mty) (nI mwi) (nI mhi) (nI mwa) (nI mle) (gI mgo) (nI mam) (bI mtm) (nI mli) (vF wd hd nb wl st sl gl aq lb sh bw bh ps) mpa (fun zz => nI (mtx zz)) (fun zz => nI (mlt zz)) (fun zz => nI (mha zz)) (fun zz => nI (mfi zz)) (fun zz => oI (mfa zz)) (fun zz => nI (mqu zz)) (fun zz => lN (mal zz)) (fun zz => nI (mta zz)) (fun zz => oI (mdi zz)) (fun zz => nI (mln zz))) := ⟨hD0.1, fun k q h => ⟨k, q.2, h⟩⟩
  generalize hAe : aW (mW cI cJ cB o kv kp kx kl kh ki kf kq ka kt kd kn (nI mpm) (nI mty) (nI mwi) (nI mhi) (nI mwa) (nI mle) (gI mgo) (nI mam) (bI mtm) (nI mli) (vF wd hd nb wl st sl gl aq lb sh bw bh ps) mpa (fun zz => nI (mtx zz)) (fun zz => nI (mlt zz)) (fun zz => nI (mha zz)) (fun zz => nI (mfi zz)) (fun zz => oI (mfa zz)) (fun zz => nI (mqu zz)) (fun zz => lN (mal zz)) (fun zz => nI (mta zz)) (fun zz => oI (mdi zz)) (fun zz => nI (mln zz))) = A at hD ⊢
  have hS : va_S A s.heap s.heap [] := va_S.rf
  have hl := lv_entry ([.ref o, .int x]) (n := 2) (Nat.le_of_ble_eq_true rfl)
  rw [lg_entry_eq]
  generalize (lg_sl ([.ref o, .int x]) ++ List.replicate (2 - (lg_sl ([.ref o, .int x])).length) Slot.unset).toArray = ls at hl ⊢
  have hl : lv_has ls 2 [(0, .ref o), (1, .int x)] := hl
  generalize hav : ([.ref o, .int x] : List Value).toArray = args at hC ⊢
  refine W_gen (fun QQ hQ => ?_)
  show W p l e (rmN 3) s m args below meth c s.heap [] 0 0 QQ (F0 m 0 ls [])
  refine lv_iload_n hx hb dX8_frame_0 rfl (lv_at hl 1 rfl) ?_
  refine lv_iconst (v := nI 0) hx hb dX8_frame_1 (by decide) ?_
  refine lv_bipush (v := nI 8) hx hb dX8_frame_2 (by decide) ?_
  refine callS_i (As := [.int x, .int (nI 0), .int (nI 8)]) (rest := []) [] hC hK hN hP hD rfl (by decide) hS (c_X8_in l D cI cJ cB x (nI 0) (nI 8) ) q750 md_X8_in rfl hl.1 rfl (Nat.le_of_ble_eq_true rfl) dX8_frame_4 ⟨Nat.le_of_ble_eq_true rfl, Nat.le_of_ble_eq_true rfl⟩ ⟨Nat.le_of_ble_eq_true rfl, Nat.le_of_ble_eq_true rfl⟩ (fun r_4 w H locs hpost hP hD hS => ?_)
  obtain ⟨rfl, rfl⟩ := hpost
  have hP : va_P D vwCl (mW cI cJ cB o kv kp kx kl kh ki kf kq ka kt kd kn (nI mpm) (nI mty) (nI mwi) (nI mhi) (nI mwa) (nI mle) (gI mgo) (nI mam) (bI mtm) (nI mli) (vF wd hd nb wl st sl gl aq lb sh bw bh ps) mpa (fun zz => nI (mtx zz)) (fun zz => nI (mlt zz)) (fun zz => nI (mha zz)) (fun zz => nI (mfi zz)) (fun zz => oI (mfa zz)) (fun zz => nI (mqu zz)) (fun zz => lN (mal zz)) (fun zz => nI (mta zz)) (fun zz => oI (mdi zz)) (fun zz => nI (mln zz))) H := hP
  have hD : va_D A (mW cI cJ cB o kv kp kx kl kh ki kf kq ka kt kd kn (nI mpm) (nI mty) (nI mwi) (nI mhi) (nI mwa) (nI mle) (gI mgo) (nI mam) (bI mtm) (nI mli) (vF wd hd nb wl st sl gl aq lb sh bw bh ps) mpa (fun zz => nI (mtx zz)) (fun zz => nI (mlt zz)) (fun zz => nI (mha zz)) (fun zz => nI (mfi zz)) (fun zz => oI (mfa zz)) (fun zz => nI (mqu zz)) (fun zz => lN (mal zz)) (fun zz => nI (mta zz)) (fun zz => oI (mdi zz)) (fun zz => nI (mln zz))) := hD
  refine b_if_eq (tgt := 18) hx hb dX8_frame_7 (by decide) (fun c7 => ?_) (fun c7 => ?_)
  · have _ : True := trivial
    refine lv_iconst (v := (-1)) hx hb dX8_frame_18 (by decide) ?_
    rw [hQ]
    exact W.iret (v := (-1)) hx hb hr (fun t9 ht hW => ⟨⟨_, _, rfl, ⟨mgo, (by unfold f_framex; rw [bOf_noneK (by decide) c7]), rfl⟩, by rw [ht]; exact hP, rfl⟩, hS.F ht⟩) hS.2.2 dX8_frame_19
  · have _ : True := trivial
    obtain ⟨k, hk9, hxk, hko⟩ := bOf_someK (by decide) c7
    subst hxk
    refine lv_aload_n hx hb dX8_frame_10 rfl (lv_at hl 0 rfl) ?_
    refine lv_iload_n hx hb dX8_frame_11 rfl (lv_at hl 1 rfl) ?_
    refine callV_i (As := [.int (nI k)]) (rest := []) [0, 1, 2, 3, 4, 5, 6, 7, 8, 9, 10, 11, 12] hC hK hN hP hD rfl (by decide) hS 0 (ci := 8) rfl rfl rfl (c_X8_frameOf l D cI cJ cB o kv kp kx kl kh ki kf kq ka kt kd kn mpm mty mwi mhi mwa mle mam mli mgo mtm mpa mtx mlt mha mfi mqu mta mln mal mfa mdi wd hd nb wl st sl gl aq lb sh bw bh ps k htv (by omega)) q792 md_X8_frameOf rfl hl.1 rfl (Nat.le_of_ble_eq_true rfl) dX8_frame_12 ⟨Nat.le_of_ble_eq_true rfl, Nat.le_of_ble_eq_true rfl⟩ ⟨Nat.le_of_ble_eq_true rfl, Nat.le_of_ble_eq_true rfl⟩ (fun r_12 w H locs hpost hP hD hS => ?_)
    obtain ⟨rfl, rfl⟩ := hpost
    have hP : va_P D vwCl (mW cI cJ cB o kv kp kx kl kh ki kf kq ka kt kd kn (nI mpm) (nI mty) (nI mwi) (nI mhi) (nI mwa) (nI mle) (gI none) (nI mam) (bI mtm) (nI mli) (vF wd hd nb wl st sl gl aq lb sh bw bh ps) mpa (fun zz => nI (mtx zz)) (fun zz => nI (mlt zz)) (fun zz => nI (mha zz)) (fun zz => nI (mfi zz)) (fun zz => oI (mfa zz)) (fun zz => nI (mqu zz)) (fun zz => lN (mal zz)) (fun zz => nI (mta zz)) (fun zz => oI (mdi zz)) (fun zz => nI (mln zz))) H := hP
    have hD : va_D A (mW cI cJ cB o kv kp kx kl kh ki kf kq ka kt kd kn (nI mpm) (nI mty) (nI mwi) (nI mhi) (nI mwa) (nI mle) (gI none) (nI mam) (bI mtm) (nI mli) (vF wd hd nb wl st sl gl aq lb sh bw bh ps) mpa (fun zz => nI (mtx zz)) (fun zz => nI (mlt zz)) (fun zz => nI (mha zz)) (fun zz => nI (mfi zz)) (fun zz => oI (mfa zz)) (fun zz => nI (mqu zz)) (fun zz => lN (mal zz)) (fun zz => nI (mta zz)) (fun zz => oI (mdi zz)) (fun zz => nI (mln zz))) := hD
    refine lv_goto (tgt := 19) hx hb dX8_frame_15 (by decide) ?_
    rw [hQ]
    exact W.iret (v := f_frame wd hd nb wl st sl gl aq sh ps k) hx hb hr (fun t9 ht hW => ⟨⟨_, _, rfl, ⟨none, (by unfold f_framex; rw [hko]), rfl⟩, by rw [ht]; exact hP, rfl⟩, hS.F ht⟩) hS.2.2 dX8_frame_19

set_option maxHeartbeats 400000 in
set_option maxRecDepth 100000 in
theorem c_X8_inCell (l : Launch) (D : va_G) (cI cJ cB : ClassId) (o kv kp kx kl kh ki kf kq ka kt kd kn mpm mty mwi mhi mwa mle mam mli : Nat) (mgo : Option Nat) (mtm : Bool) (mpa : Nat → Int32) (mtx mlt mha mfi mqu mta mln mal : Nat → Nat) (mfa mdi : Nat → Option Nat) (wd hd nb wl : Nat) (st sl : Int32) (gl aq lb : Option Nat) (sh bw bh ps : Nat → Nat) (i : Nat) (htv : TV wd hd nb wl sh bw bh ps gl aq lb) (hi : i < 24) : Met l yX8_inCell (Cond.code yX8_inCell cX8_inCell 4 (some .int) :: lw_all) (rmN 0) (va_Pc [.ref o, .int (nI i)] (pB D (tyz cI cJ cB) (mW cI cJ cB o kv kp kx kl kh ki kf kq ka kt kd kn (nI mpm) (nI mty) (nI mwi) (nI mhi) (nI mwa) (nI mle) (gI mgo) (nI mam) (bI mtm) (nI mli) (vF wd hd nb wl st sl gl aq lb sh bw bh ps) mpa (fun zz => nI (mtx zz)) (fun zz => nI (mlt zz)) (fun zz => nI (mha zz)) (fun zz => nI (mfi zz)) (fun zz => oI (mfa zz)) (fun zz => nI (mqu zz)) (fun zz => lN (mal zz)) (fun zz => nI (mta zz)) (fun zz => oI (mdi zz)) (fun zz => nI (mln zz))))) (va_Qi (fun (r : Int32) (w : va_W) => r = f_cel wl sh ps i nb ∧ w = mW cI cJ cB o kv kp kx kl kh ki kf kq ka kt kd kn (nI mpm) (nI mty) (nI mwi) (nI mhi) (nI mwa) (nI mle) (gI mgo) (nI mam) (bI mtm) (nI mli) (vF wd hd nb wl st sl gl aq lb sh bw bh ps) mpa (fun zz => nI (mtx zz)) (fun zz => nI (mlt zz)) (fun zz => nI (mha zz)) (fun zz => nI (mfi zz)) (fun zz => oI (mfa zz)) (fun zz => nI (mqu zz)) (fun zz => lN (mal zz)) (fun zz => nI (mta zz)) (fun zz => oI (mdi zz)) (fun zz => nI (mln zz))) (gB D (mW cI cJ cB o kv kp kx kl kh ki kf kq ka kt kd kn (nI mpm) (nI mty) (nI mwi) (nI mhi) (nI mwa) (nI mle) (gI mgo) (nI mam) (bI mtm) (nI mli) (vF wd hd nb wl st sl gl aq lb sh bw bh ps) mpa (fun zz => nI (mtx zz)) (fun zz => nI (mlt zz)) (fun zz => nI (mha zz)) (fun zz => nI (mfi zz)) (fun zz => oI (mfa zz)) (fun zz => nI (mqu zz)) (fun zz => lN (mal zz)) (fun zz => nI (mta zz)) (fun zz => oI (mdi zz)) (fun zz => nI (mln zz)))) (aW (mW cI cJ cB o kv kp kx kl kh ki kf kq ka kt kd kn (nI mpm) (nI mty) (nI mwi) (nI mhi) (nI mwa) (nI mle) (gI mgo) (nI mam) (bI mtm) (nI mli) (vF wd hd nb wl st sl gl aq lb sh bw bh ps) mpa (fun zz => nI (mtx zz)) (fun zz => nI (mlt zz)) (fun zz => nI (mha zz)) (fun zz => nI (mfi zz)) (fun zz => oI (mfa zz)) (fun zz => nI (mqu zz)) (fun zz => lN (mal zz)) (fun zz => nI (mta zz)) (fun zz => oI (mdi zz)) (fun zz => nI (mln zz))))) 0 0 (aW (mW cI cJ cB o kv kp kx kl kh ki kf kq ka kt kd kn (nI mpm) (nI mty) (nI mwi) (nI mhi) (nI mwa) (nI mle) (gI mgo) (nI mam) (bI mtm) (nI mli) (vF wd hd nb wl st sl gl aq lb sh bw bh ps) mpa (fun zz => nI (mtx zz)) (fun zz => nI (mlt zz)) (fun zz => nI (mha zz)) (fun zz => nI (mfi zz)) (fun zz => oI (mfa zz)) (fun zz => nI (mqu zz)) (fun zz => lN (mal zz)) (fun zz => nI (mta zz)) (fun zz => oI (mdi zz)) (fun zz => nI (mln zz)))) := by
  refine Met.ofW (cc := cX8_inCell) (maxL := 4) (ret := (some .int)) (by decide) rfl ?_
  intro p e s m args below meth c s₁ B hml hv
  obtain ⟨rfl, hK, hN, hP, hD0⟩ := hv
  have hx := B.exec; have hb := B.bytes; have hr := B.returns; have hlocks := B.notSynchronized
  have hts0 := atoms_spec (ws := Cond.code yX8_inCell cX8_inCell 4 (some .int) :: lw_all) B.pre
  have hC : CallFix p m c cX8_inCell 4 s _ lw_all RX8 := ⟨hx, hb, hml, findClass_of_methodNamed B.named, fun w h => hts0 w (List.mem_cons_of_mem _ h)⟩
  have hD : va_D (aW (mW cI cJ cB o kv kp kx kl kh ki kf kq ka kt kd kn (nI mpm) (nI mty) (nI mwi) (nI mhi) (nI mwa) (nI mle) (gI mgo) (nI mam) (bI mtm) (nI mli) (vF wd hd nb wl st sl gl aq lb sh bw bh ps) mpa (fun zz => nI (mtx zz)) (fun zz => nI (mlt zz)) (fun zz => nI (mha zz)) (fun zz => nI (mfi zz)) (fun zz => oI (mfa zz)) (fun zz => nI (mqu zz)) (fun zz => lN (mal zz)) (fun zz => nI (mta zz)) (fun zz => oI (mdi zz)) (fun zz => nI (mln zz)))) (mW cI cJ cB o kv kp kx kl kh ki kf kq ka kt kd kn (nI mpm) (nI mty) (nI mwi) (nI mhi) (nI mwa) (nI mle) (gI mgo) (nI mam) (bI mtm) (nI mli) (vF wd hd nb wl st sl gl aq lb sh bw bh ps) mpa (fun zz => nI (mtx zz)) (fun zz => nI (mlt zz)) (fun zz => nI (mha zz)) (fun zz => nI (mfi zz)) (fun zz => oI (mfa zz)) (fun zz => nI (mqu zz)) (fun zz => lN (mal zz)) (fun zz => nI (mta zz)) (fun zz => oI (mdi zz)) (fun zz => nI (mln zz))) := ⟨hD0.1, fun k q h => ⟨k, q.2, h⟩⟩
  generalize hAe : aW (mW cI cJ cB o kv kp kx kl kh ki kf kq ka kt kd kn (nI mpm) (nI mty) (nI mwi) (nI mhi) (nI mwa) (nI mle) (gI mgo) (nI mam) (bI mtm) (nI mli) (vF wd hd nb wl st sl gl aq lb sh bw bh ps) mpa (fun zz => nI (mtx zz)) (fun zz => nI (mlt zz)) (fun zz => nI (mha zz)) (fun zz => nI (mfi zz)) (fun zz => oI (mfa zz)) (fun zz => nI (mqu zz)) (fun zz => lN (mal zz)) (fun zz => nI (mta zz)) (fun zz => oI (mdi zz)) (fun zz => nI (mln zz))) = A at hD ⊢
  have hS : va_S A s.heap s.heap [] := va_S.rf
  have hl := lv_entry ([.ref o, .int (nI i)]) (n := 4) (Nat.le_of_ble_eq_true rfl)
  rw [lg_entry_eq]
  generalize (lg_sl ([.ref o, .int (nI i)]) ++ List.replicate (4 - (lg_sl ([.ref o, .int (nI i)])).length) Slot.unset).toArray = ls at hl ⊢
  have hl : lv_has ls 4 [(0, .ref o), (1, .int (nI i))] := hl
  generalize hav : ([.ref o, .int (nI i)] : List Value).toArray = args at hC ⊢
  refine W_gen (fun QQ hQ => ?_)
  show W p l e (rmN 0) s m args below meth c s.heap [] 0 0 QQ (F0 m 0 ls [])
  obtain ⟨hf, hps, hk1, hga, hlb⟩ := id htv
  have hn7 := hf.2.2.2.2.2.1
  have h24 := hf.2.2.2.2.1
  have hwl4 : wl < 2 ^ 24 := Nat.lt_of_lt_of_le hf.2.2.2.2.2.2.1 (Nat.pow_le_pow_right (by decide) h24)
  refine lv_aload_n hx hb dX8_inCell_0 rfl (lv_at hl 0 rfl) ?_
  refine gf_X8_7 hC hK hP 0 rfl rfl dX8_inCell_1 ?_
  refine lv_iconst (v := nI 3) hx hb dX8_inCell_4 (by decide) ?_
  refine n_iald hx hb hK hP 1 0 rfl rfl (by omega) (by decide) dX8_inCell_5 ?_
  refine topi (y := nI wl) rfl ?_
  refine lv_iload_n hx hb dX8_inCell_6 rfl (lv_at hl 1 rfl) ?_
  refine n_ishr hx hb dX8_inCell_7 (by omega) (by omega) ?_
  refine lv_iconst (v := nI 1) hx hb dX8_inCell_8 (by decide) ?_
  refine n_iand hx hb dX8_inCell_9  ?_
  refine lv_iconst (v := nI 1) hx hb dX8_inCell_10 (by decide) ?_
  refine n_icmp_ne (a := (wl >>> i) &&& 1) (b := 1) (tgt := 19) hx hb dX8_inCell_11 (by decide) (by have := bit_and1 (x := wl) (i := i); omega) (by omega) (fun c11 => ?_) (fun c11 => ?_)
  · have _ : True := trivial
    refine lv_bipush (v := (-9)) hx hb dX8_inCell_19 (by decide) ?_
    refine topi (y := f_cel wl sh ps i 0) (by show _ = (if wl.testBit i then (-10 : Int32) else -9); rw [if_neg (fun h => c11 (bit_1.mpr h))]) ?_
    refine lv_istore_n (lv' := [(2, .int (f_cel wl sh ps i 0)), (0, .ref o), (1, .int (nI i))]) hx hb dX8_inCell_21 rfl hl (by decide) rfl (fun ls hl => ?_)
    refine lv_iconst (v := nI 0) hx hb dX8_inCell_22 (by decide) ?_
    refine lv_istore_n (lv' := [(3, .int (nI 0)), (2, .int (f_cel wl sh ps i 0)), (0, .ref o), (1, .int (nI i))]) hx hb dX8_inCell_23 rfl hl (by decide) rfl (fun ls hl => ?_)
    have L24 : ∀ (n : Nat) (b : Nat), (b ≤ nb) → (nb - b) < n → ∀ (H : Heap) (locs : List Loc), va_P D vwCl (mW cI cJ cB o kv kp kx kl kh ki kf kq ka kt kd kn (nI mpm) (nI mty) (nI mwi) (nI mhi) (nI mwa) (nI mle) (gI mgo) (nI mam) (bI mtm) (nI mli) (vF wd hd nb wl st sl gl aq lb sh bw bh ps) mpa (fun zz => nI (mtx zz)) (fun zz => nI (mlt zz)) (fun zz => nI (mha zz)) (fun zz => nI (mfi zz)) (fun zz => oI (mfa zz)) (fun zz => nI (mqu zz)) (fun zz => lN (mal zz)) (fun zz => nI (mta zz)) (fun zz => oI (mdi zz)) (fun zz => nI (mln zz))) H → va_D A (mW cI cJ cB o kv kp kx kl kh ki kf kq ka kt kd kn (nI mpm) (nI mty) (nI mwi) (nI mhi) (nI mwa) (nI mle) (gI mgo) (nI mam) (bI mtm) (nI mli) (vF wd hd nb wl st sl gl aq lb sh bw bh ps) mpa (fun zz => nI (mtx zz)) (fun zz => nI (mlt zz)) (fun zz => nI (mha zz)) (fun zz => nI (mfi zz)) (fun zz => oI (mfa zz)) (fun zz => nI (mqu zz)) (fun zz => lN (mal zz)) (fun zz => nI (mta zz)) (fun zz => oI (mdi zz)) (fun zz => nI (mln zz))) → va_S A s.heap H locs → ∀ ls : Array Slot, lv_has ls 4 [(2, .int (f_cel wl sh ps i b)), (3, .int (nI b)), (0, .ref o), (1, .int (nI i))] → W p l e (rmN 0) s m args below meth c H locs 0 0 QQ (F0 m 24 ls []) := by
      intro n; induction n with
      | zero => intro b ib hm; exact absurd hm (Nat.not_lt_zero _)
      | succ n ih24 =>
        intro b ib hm24 H locs hP hD hS ls hl
        refine lv_iload_n hx hb dX8_inCell_24 rfl (lv_at hl 1 rfl) ?_
        refine lv_aload_n hx hb dX8_inCell_25 rfl (lv_at hl 2 rfl) ?_
        refine gf_X8_7 hC hK hP 0 rfl rfl dX8_inCell_26 ?_
        refine lv_iconst (v := nI 2) hx hb dX8_inCell_29 (by decide) ?_
        refine n_iald hx hb hK hP 1 0 rfl rfl (by omega) (by decide) dX8_inCell_30 ?_
        refine topi (y := nI nb) rfl ?_
        refine n_icmp_ge (a := b) (b := nb) (tgt := 73) hx hb dX8_inCell_31 (by decide) (by omega) (by omega) (fun c31 => ?_) (fun c31 => ?_)
        · have _ : True := trivial
          have e31 : b = nb := by omega
          refine lv_iload_n hx hb dX8_inCell_73 rfl (lv_at hl 0 rfl) ?_
          rw [hQ]
          exact W.iret (v := f_cel wl sh ps i b) hx hb hr (fun t9 ht hW => ⟨⟨_, _, rfl, ⟨(by rw [e31]), rfl⟩, by rw [ht]; exact hP, rfl⟩, hS.F ht⟩) hS.2.2 dX8_inCell_74
        · have _ : True := trivial
          refine lv_aload_n hx hb dX8_inCell_34 rfl (lv_at hl 2 rfl) ?_
          refine gf_X8_7 hC hK hP 0 rfl rfl dX8_inCell_35 ?_
          refine lv_bipush (v := nI 10) hx hb dX8_inCell_38 (by decide) ?_
          refine lv_iload_n hx hb dX8_inCell_40 rfl (lv_at hl 1 rfl) ?_
          refine n_iadd hx hb dX8_inCell_41  ?_
          refine n_iald hx hb hK hP 1 0 rfl rfl (by omega) (by decide) dX8_inCell_42 ?_
          refine topi (y := nI (sh b)) (vF_sh (by omega)) ?_
          refine lv_aload_n hx hb dX8_inCell_43 rfl (lv_at hl 2 rfl) ?_
          refine gf_X8_7 hC hK hP 0 rfl rfl dX8_inCell_44 ?_
          refine lv_bipush (v := nI 31) hx hb dX8_inCell_47 (by decide) ?_
          refine lv_iload_n hx hb dX8_inCell_49 rfl (lv_at hl 1 rfl) ?_
          refine n_iadd hx hb dX8_inCell_50  ?_
          refine n_iald hx hb hK hP 1 0 rfl rfl (by omega) (by decide) dX8_inCell_51 ?_
          refine topi (y := nI (ps b)) (vF_ps (by omega)) ?_
          refine n_ishl hx hb dX8_inCell_52 (by have := hps b c31; omega) ?_
          refine lv_iload_n hx hb dX8_inCell_53 rfl (lv_at hl 3 rfl) ?_
          refine n_ishr hx hb dX8_inCell_54 (by have h9 := cell_lt hf.1 (hf.2.2.2.2.2.2.2 b c31) (KV_pl hn7 hps hk1 c31).1; have h8 : 2 ^ (wd * hd) ≤ 2 ^ 24 := Nat.pow_le_pow_right (by decide) h24; omega) (by omega) ?_
          refine lv_iconst (v := nI 1) hx hb dX8_inCell_55 (by decide) ?_
          refine n_iand hx hb dX8_inCell_56  ?_
          refine lv_iconst (v := nI 1) hx hb dX8_inCell_57 (by decide) ?_
          refine n_icmp_ne (a := (((sh b) <<< (ps b)) >>> i) &&& 1) (b := 1) (tgt := 65) hx hb dX8_inCell_58 (by decide) (by have := bit_and1 (x := sh b <<< ps b) (i := i); omega) (by omega) (fun c58 => ?_) (fun c58 => ?_)
          · have _ : True := trivial
            refine lv_iload_n hx hb dX8_inCell_65 rfl (lv_at hl 0 rfl) ?_
            refine topi (y := f_cel wl sh ps i (b + 1)) (by show _ = (if (sh b <<< ps b).testBit i then nI b else f_cel wl sh ps i b); rw [if_neg (fun h => c58 (bit_1.mpr h))]) ?_
            refine lv_istore_n (lv' := [(2, .int (f_cel wl sh ps i (b + 1))), (3, .int (nI b)), (0, .ref o), (1, .int (nI i))]) hx hb dX8_inCell_66 rfl hl (by decide) rfl (fun ls hl => ?_)
            refine lv_iinc (v := nI (b + 1)) (lv' := [(3, .int (nI (b + 1))), (2, .int (f_cel wl sh ps i (b + 1))), (0, .ref o), (1, .int (nI i))]) hx hb dX8_inCell_67 hl (k := 1) rfl (nI_1 _) (by decide) rfl (fun ls hl => ?_)
            refine lv_goto (tgt := 24) hx hb dX8_inCell_70 (by decide) ?_
            exact ih24 (b + 1) (by omega) (by omega) _ _ hP hD hS _ (lv_sub hl [1, 0, 2, 3] rfl)
          · have _ : True := trivial
            refine lv_iload_n hx hb dX8_inCell_61 rfl (lv_at hl 1 rfl) ?_
            refine topi (y := f_cel wl sh ps i (b + 1)) (by show _ = (if (sh b <<< ps b).testBit i then nI b else f_cel wl sh ps i b); rw [if_pos (bit_1.mp c58)]) ?_
            refine lv_goto (tgt := 66) hx hb dX8_inCell_62 (by decide) ?_
            refine lv_istore_n (lv' := [(2, .int (f_cel wl sh ps i (b + 1))), (3, .int (nI b)), (0, .ref o), (1, .int (nI i))]) hx hb dX8_inCell_66 rfl hl (by decide) rfl (fun ls hl => ?_)
            refine lv_iinc (v := nI (b + 1)) (lv' := [(3, .int (nI (b + 1))), (2, .int (f_cel wl sh ps i (b + 1))), (0, .ref o), (1, .int (nI i))]) hx hb dX8_inCell_67 hl (k := 1) rfl (nI_1 _) (by decide) rfl (fun ls hl => ?_)
            refine lv_goto (tgt := 24) hx hb dX8_inCell_70 (by decide) ?_
            exact ih24 (b + 1) (by omega) (by omega) _ _ hP hD hS _ (lv_sub hl [1, 0, 2, 3] rfl)
    exact L24 _ 0 (by omega) (Nat.lt_succ_self _) _ _ hP hD hS _ (lv_sub hl [1, 0, 2, 3] rfl)
  · have _ : True := trivial
    refine lv_bipush (v := (-10)) hx hb dX8_inCell_14 (by decide) ?_
    refine topi (y := f_cel wl sh ps i 0) (by show _ = (if wl.testBit i then (-10 : Int32) else -9); rw [if_pos (bit_1.mp c11)]) ?_
    refine lv_goto (tgt := 21) hx hb dX8_inCell_16 (by decide) ?_
    refine lv_istore_n (lv' := [(2, .int (f_cel wl sh ps i 0)), (0, .ref o), (1, .int (nI i))]) hx hb dX8_inCell_21 rfl hl (by decide) rfl (fun ls hl => ?_)
    refine lv_iconst (v := nI 0) hx hb dX8_inCell_22 (by decide) ?_
    refine lv_istore_n (lv' := [(3, .int (nI 0)), (2, .int (f_cel wl sh ps i 0)), (0, .ref o), (1, .int (nI i))]) hx hb dX8_inCell_23 rfl hl (by decide) rfl (fun ls hl => ?_)
    have L24 : ∀ (n : Nat) (b : Nat), (b ≤ nb) → (nb - b) < n → ∀ (H : Heap) (locs : List Loc), va_P D vwCl (mW cI cJ cB o kv kp kx kl kh ki kf kq ka kt kd kn (nI mpm) (nI mty) (nI mwi) (nI mhi) (nI mwa) (nI mle) (gI mgo) (nI mam) (bI mtm) (nI mli) (vF wd hd nb wl st sl gl aq lb sh bw bh ps) mpa (fun zz => nI (mtx zz)) (fun zz => nI (mlt zz)) (fun zz => nI (mha zz)) (fun zz => nI (mfi zz)) (fun zz => oI (mfa zz)) (fun zz => nI (mqu zz)) (fun zz => lN (mal zz)) (fun zz => nI (mta zz)) (fun zz => oI (mdi zz)) (fun zz => nI (mln zz))) H → va_D A (mW cI cJ cB o kv kp kx kl kh ki kf kq ka kt kd kn (nI mpm) (nI mty) (nI mwi) (nI mhi) (nI mwa) (nI mle) (gI mgo) (nI mam) (bI mtm) (nI mli) (vF wd hd nb wl st sl gl aq lb sh bw bh ps) mpa (fun zz => nI (mtx zz)) (fun zz => nI (mlt zz)) (fun zz => nI (mha zz)) (fun zz => nI (mfi zz)) (fun zz => oI (mfa zz)) (fun zz => nI (mqu zz)) (fun zz => lN (mal zz)) (fun zz => nI (mta zz)) (fun zz => oI (mdi zz)) (fun zz => nI (mln zz))) → va_S A s.heap H locs → ∀ ls : Array Slot, lv_has ls 4 [(2, .int (f_cel wl sh ps i b)), (3, .int (nI b)), (0, .ref o), (1, .int (nI i))] → W p l e (rmN 0) s m args below meth c H locs 0 0 QQ (F0 m 24 ls []) := by
      intro n; induction n with
      | zero => intro b ib hm; exact absurd hm (Nat.not_lt_zero _)
      | succ n ih24 =>
        intro b ib hm24 H locs hP hD hS ls hl
        refine lv_iload_n hx hb dX8_inCell_24 rfl (lv_at hl 1 rfl) ?_
        refine lv_aload_n hx hb dX8_inCell_25 rfl (lv_at hl 2 rfl) ?_
        refine gf_X8_7 hC hK hP 0 rfl rfl dX8_inCell_26 ?_
        refine lv_iconst (v := nI 2) hx hb dX8_inCell_29 (by decide) ?_
        refine n_iald hx hb hK hP 1 0 rfl rfl (by omega) (by decide) dX8_inCell_30 ?_
        refine topi (y := nI nb) rfl ?_
        refine n_icmp_ge (a := b) (b := nb) (tgt := 73) hx hb dX8_inCell_31 (by decide) (by omega) (by omega) (fun c31 => ?_) (fun c31 => ?_)
        · have _ : True := trivial
          have e31 : b = nb := by omega
          refine lv_iload_n hx hb dX8_inCell_73 rfl (lv_at hl 0 rfl) ?_
          rw [hQ]
          exact W.iret (v := f_cel wl sh ps i b) hx hb hr (fun t9 ht hW => ⟨⟨_, _, rfl, ⟨(by rw [e31]), rfl⟩, by rw [ht]; exact hP, rfl⟩, hS.F ht⟩) hS.2.2 dX8_inCell_74
        · have _ : True := trivial
          refine lv_aload_n hx hb dX8_inCell_34 rfl (lv_at hl 2 rfl) ?_
          refine gf_X8_7 hC hK hP 0 rfl rfl dX8_inCell_35 ?_
          refine lv_bipush (v := nI 10) hx hb dX8_inCell_38 (by decide) ?_
          refine lv_iload_n hx hb dX8_inCell_40 rfl (lv_at hl 1 rfl) ?_
          refine n_iadd hx hb dX8_inCell_41  ?_
          refine n_iald hx hb hK hP 1 0 rfl rfl (by omega) (by decide) dX8_inCell_42 ?_
          refine topi (y := nI (sh b)) (vF_sh (by omega)) ?_
          refine lv_aload_n hx hb dX8_inCell_43 rfl (lv_at hl 2 rfl) ?_
          refine gf_X8_7 hC hK hP 0 rfl rfl dX8_inCell_44 ?_
          refine lv_bipush (v := nI 31) hx hb dX8_inCell_47 (by decide) ?_
          refine lv_iload_n hx hb dX8_inCell_49 rfl (lv_at hl 1 rfl) ?_
          refine n_iadd hx hb dX8_inCell_50  ?_
          refine n_iald hx hb hK hP 1 0 rfl rfl (by omega) (by decide) dX8_inCell_51 ?_
          refine topi (y := nI (ps b)) (vF_ps (by omega)) ?_
          refine n_ishl hx hb dX8_inCell_52 (by have := hps b c31; omega) ?_
          refine lv_iload_n hx hb dX8_inCell_53 rfl (lv_at hl 3 rfl) ?_
          refine n_ishr hx hb dX8_inCell_54 (by have h9 := cell_lt hf.1 (hf.2.2.2.2.2.2.2 b c31) (KV_pl hn7 hps hk1 c31).1; have h8 : 2 ^ (wd * hd) ≤ 2 ^ 24 := Nat.pow_le_pow_right (by decide) h24; omega) (by omega) ?_
          refine lv_iconst (v := nI 1) hx hb dX8_inCell_55 (by decide) ?_
          refine n_iand hx hb dX8_inCell_56  ?_
          refine lv_iconst (v := nI 1) hx hb dX8_inCell_57 (by decide) ?_
          refine n_icmp_ne (a := (((sh b) <<< (ps b)) >>> i) &&& 1) (b := 1) (tgt := 65) hx hb dX8_inCell_58 (by decide) (by have := bit_and1 (x := sh b <<< ps b) (i := i); omega) (by omega) (fun c58 => ?_) (fun c58 => ?_)
          · have _ : True := trivial
            refine lv_iload_n hx hb dX8_inCell_65 rfl (lv_at hl 0 rfl) ?_
            refine topi (y := f_cel wl sh ps i (b + 1)) (by show _ = (if (sh b <<< ps b).testBit i then nI b else f_cel wl sh ps i b); rw [if_neg (fun h => c58 (bit_1.mpr h))]) ?_
            refine lv_istore_n (lv' := [(2, .int (f_cel wl sh ps i (b + 1))), (3, .int (nI b)), (0, .ref o), (1, .int (nI i))]) hx hb dX8_inCell_66 rfl hl (by decide) rfl (fun ls hl => ?_)
            refine lv_iinc (v := nI (b + 1)) (lv' := [(3, .int (nI (b + 1))), (2, .int (f_cel wl sh ps i (b + 1))), (0, .ref o), (1, .int (nI i))]) hx hb dX8_inCell_67 hl (k := 1) rfl (nI_1 _) (by decide) rfl (fun ls hl => ?_)
            refine lv_goto (tgt := 24) hx hb dX8_inCell_70 (by decide) ?_
            exact ih24 (b + 1) (by omega) (by omega) _ _ hP hD hS _ (lv_sub hl [1, 0, 2, 3] rfl)
          · have _ : True := trivial
            refine lv_iload_n hx hb dX8_inCell_61 rfl (lv_at hl 1 rfl) ?_
            refine topi (y := f_cel wl sh ps i (b + 1)) (by show _ = (if (sh b <<< ps b).testBit i then nI b else f_cel wl sh ps i b); rw [if_pos (bit_1.mp c58)]) ?_
            refine lv_goto (tgt := 66) hx hb dX8_inCell_62 (by decide) ?_
            refine lv_istore_n (lv' := [(2, .int (f_cel wl sh ps i (b + 1))), (3, .int (nI b)), (0, .ref o), (1, .int (nI i))]) hx hb dX8_inCell_66 rfl hl (by decide) rfl (fun ls hl => ?_)
            refine lv_iinc (v := nI (b + 1)) (lv' := [(3, .int (nI (b + 1))), (2, .int (f_cel wl sh ps i (b + 1))), (0, .ref o), (1, .int (nI i))]) hx hb dX8_inCell_67 hl (k := 1) rfl (nI_1 _) (by decide) rfl (fun ls hl => ?_)
            refine lv_goto (tgt := 24) hx hb dX8_inCell_70 (by decide) ?_
            exact ih24 (b + 1) (by omega) (by omega) _ _ hP hD hS _ (lv_sub hl [1, 0, 2, 3] rfl)
    exact L24 _ 0 (by omega) (Nat.lt_succ_self _) _ _ hP hD hS _ (lv_sub hl [1, 0, 2, 3] rfl)

set_option maxHeartbeats 400000 in
set_option maxRecDepth 100000 in
theorem c_X8_cell (l : Launch) (D : va_G) (cI cJ cB : ClassId) (o kv kp kx kl kh ki kf kq ka kt kd kn mpm mty mwi mhi mwa mle mam mli : Nat) (mgo : Option Nat) (mtm : Bool) (mpa : Nat → Int32) (mtx mlt mha mfi mqu mta mln mal : Nat → Nat) (mfa mdi : Nat → Option Nat) (wd hd nb wl : Nat) (st sl : Int32) (gl aq lb : Option Nat) (sh bw bh ps : Nat → Nat) (x : Int32) (htv : TV wd hd nb wl sh bw bh ps gl aq lb) : Met l yX8_cell (Cond.code yX8_cell cX8_cell 2 (some .int) :: lw_all) (rmN 1) (va_Pc [.ref o, .int x] (pB D (tyz cI cJ cB) (mW cI cJ cB o kv kp kx kl kh ki kf kq ka kt kd kn (nI mpm) (nI mty) (nI mwi) (nI mhi) (nI mwa) (nI mle) (gI mgo) (nI mam) (bI mtm) (nI mli) (vF wd hd nb wl st sl gl aq lb sh bw bh ps) mpa (fun zz => nI (mtx zz)) (fun zz => nI (mlt zz)) (fun zz => nI (mha zz)) (fun zz => nI (mfi zz)) (fun zz => oI (mfa zz)) (fun zz => nI (mqu zz)) (fun zz => lN (mal zz)) (fun zz => nI (mta zz)) (fun zz => oI (mdi zz)) (fun zz => nI (mln zz))))) (va_Qi (fun (r : Int32) (w : va_W) => r = f_cellx wd hd nb wl sh ps x ∧ w = mW cI cJ cB o kv kp kx kl kh ki kf kq ka kt kd kn (nI mpm) (nI mty) (nI mwi) (nI mhi) (nI mwa) (nI mle) (gI mgo) (nI mam) (bI mtm) (nI mli) (vF wd hd nb wl st sl gl aq lb sh bw bh ps) mpa (fun zz => nI (mtx zz)) (fun zz => nI (mlt zz)) (fun zz => nI (mha zz)) (fun zz => nI (mfi zz)) (fun zz => oI (mfa zz)) (fun zz => nI (mqu zz)) (fun zz => lN (mal zz)) (fun zz => nI (mta zz)) (fun zz => oI (mdi zz)) (fun zz => nI (mln zz))) (gB D (mW cI cJ cB o kv kp kx kl kh ki kf kq ka kt kd kn (nI mpm) (nI mty) (nI mwi) (nI mhi) (nI mwa) (nI mle) (gI mgo) (nI mam) (bI mtm) (nI mli) (vF wd hd nb wl st sl gl aq lb sh bw bh ps) mpa (fun zz => nI (mtx zz)) (fun zz => nI (mlt zz)) (fun zz => nI (mha zz)) (fun zz => nI (mfi zz)) (fun zz => oI (mfa zz)) (fun zz => nI (mqu zz)) (fun zz => lN (mal zz)) (fun zz => nI (mta zz)) (fun zz => oI (mdi zz)) (fun zz => nI (mln zz)))) (aW (mW cI cJ cB o kv kp kx kl kh ki kf kq ka kt kd kn (nI mpm) (nI mty) (nI mwi) (nI mhi) (nI mwa) (nI mle) (gI mgo) (nI mam) (bI mtm) (nI mli) (vF wd hd nb wl st sl gl aq lb sh bw bh ps) mpa (fun zz => nI (mtx zz)) (fun zz => nI (mlt zz)) (fun zz => nI (mha zz)) (fun zz => nI (mfi zz)) (fun zz => oI (mfa zz)) (fun zz => nI (mqu zz)) (fun zz => lN (mal zz)) (fun zz => nI (mta zz)) (fun zz => oI (mdi zz)) (fun zz => nI (mln zz))))) 0 0 (aW (mW cI cJ cB o kv kp kx kl kh ki kf kq ka kt kd kn (nI mpm) (nI mty) (nI mwi) (nI mhi) (nI mwa) (nI mle) (gI mgo) (nI mam) (bI mtm) (nI mli) (vF wd hd nb wl st sl gl aq lb sh bw bh ps) mpa (fun zz => nI (mtx zz)) (fun zz => nI (mlt zz)) (fun zz => nI (mha zz)) (fun zz => nI (mfi zz)) (fun zz => oI (mfa zz)) (fun zz => nI (mqu zz)) (fun zz => lN (mal zz)) (fun zz => nI (mta zz)) (fun zz => oI (mdi zz)) (fun zz => nI (mln zz)))) := by
  refine Met.ofW (cc := cX8_cell) (maxL := 2) (ret := (some .int)) (by decide) rfl ?_
  intro p e s m args below meth c s₁ B hml hv
  obtain ⟨rfl, hK, hN, hP, hD0⟩ := hv
  have hx := B.exec; have hb := B.bytes; have hr := B.returns; have hlocks := B.notSynchronized
  have hts0 := atoms_spec (ws := Cond.code yX8_cell cX8_cell 2 (some .int) :: lw_all) B.pre
  have hC : CallFix p m c cX8_cell 2 s _ lw_all RX8 := ⟨hx, hb, hml, findClass_of_methodNamed B.named, fun w h => hts0 w (List.mem_cons_of_mem _ h)⟩
  have hD : va_D (aW (mW cI cJ cB o kv kp kx kl kh ki kf kq ka kt kd kn (nI mpm) (nI mty) (nI mwi) (nI mhi) (nI mwa) (nI mle) (gI mgo) (nI mam) (bI mtm) (nI mli) (vF wd hd nb wl st sl gl aq lb sh bw bh ps) mpa (fun zz => nI (mtx zz)) (fun zz => nI (mlt zz)) (fun zz => nI (mha zz)) (fun zz => nI (mfi zz)) (fun zz => oI (mfa zz)) (fun zz => nI (mqu zz)) (fun zz => lN (mal zz)) (fun zz => nI (mta zz)) (fun zz => oI (mdi zz)) (fun zz => nI (mln zz)))) (mW cI cJ cB o kv kp kx kl kh ki kf kq ka kt kd kn (nI mpm) (nI mty) (nI mwi) (nI mhi) (nI mwa) (nI mle) (gI mgo) (nI mam) (bI mtm) (nI mli) (vF wd hd nb wl st sl gl aq lb sh bw bh ps) mpa (fun zz => nI (mtx zz)) (fun zz => nI (mlt zz)) (fun zz => nI (mha zz)) (fun zz => nI (mfi zz)) (fun zz => oI (mfa zz)) (fun zz => nI (mqu zz)) (fun zz => lN (mal zz)) (fun zz => nI (mta zz)) (fun zz => oI (mdi zz)) (fun zz => nI (mln zz))) := ⟨hD0.1, fun k q h => ⟨k, q.2, h⟩⟩
  generalize hAe : aW (mW cI cJ cB o kv kp kx kl kh ki kf kq ka kt kd kn (nI mpm) (nI mty) (nI mwi) (nI mhi) (nI mwa) (nI mle) (gI mgo) (nI mam) (bI mtm) (nI mli) (vF wd hd nb wl st sl gl aq lb sh bw bh ps) mpa (fun zz => nI (mtx zz)) (fun zz => nI (mlt zz)) (fun zz => nI (mha zz)) (fun zz => nI (mfi zz)) (fun zz => oI (mfa zz)) (fun zz => nI (mqu zz)) (fun zz => lN (mal zz)) (fun zz => nI (mta zz)) (fun zz => oI (mdi zz)) (fun zz => nI (mln zz))) = A at hD ⊢
  have hS : va_S A s.heap s.heap [] := va_S.rf
  have hl := lv_entry ([.ref o, .int x]) (n := 2) (Nat.le_of_ble_eq_true rfl)
  rw [lg_entry_eq]
  generalize (lg_sl ([.ref o, .int x]) ++ List.replicate (2 - (lg_sl ([.ref o, .int x])).length) Slot.unset).toArray = ls at hl ⊢
  have hl : lv_has ls 2 [(0, .ref o), (1, .int x)] := hl
  generalize hav : ([.ref o, .int x] : List Value).toArray = args at hC ⊢
  refine W_gen (fun QQ hQ => ?_)
  show W p l e (rmN 1) s m args below meth c s.heap [] 0 0 QQ (F0 m 0 ls [])
  obtain ⟨hf, hps, hk1, hga, hlb⟩ := id htv
  have hn7 := hf.2.2.2.2.2.1
  have h24 := hf.2.2.2.2.1
  refine lv_iload_n hx hb dX8_cell_0 rfl (lv_at hl 1 rfl) ?_
  refine lv_iconst (v := nI 0) hx hb dX8_cell_1 (by decide) ?_
  refine lv_aload_n hx hb dX8_cell_2 rfl (lv_at hl 0 rfl) ?_
  refine callV_i (As := []) (rest := [.int (nI 0), .int x]) [0, 1, 2, 3, 4, 5, 6, 7, 8, 9, 10, 11, 12] hC hK hN hP hD rfl (by decide) hS 0 (ci := 8) rfl rfl rfl (c_X8_cells l D cI cJ cB o kv kp kx kl kh ki kf kq ka kt kd kn mpm mty mwi mhi mwa mle mam mli mgo mtm mpa mtx mlt mha mfi mqu mta mln mal mfa mdi wd hd nb wl st sl gl aq lb sh bw bh ps ) q796 md_X8_cells rfl hl.1 rfl (Nat.le_of_ble_eq_true rfl) dX8_cell_3 ⟨Nat.le_of_ble_eq_true rfl, Nat.le_of_ble_eq_true rfl⟩ ⟨Nat.le_of_ble_eq_true rfl, Nat.le_of_ble_eq_true rfl⟩ (fun r_3 w H locs hpost hP hD hS => ?_)
  obtain ⟨rfl, rfl⟩ := hpost
  have hP : va_P D vwCl (mW cI cJ cB o kv kp kx kl kh ki kf kq ka kt kd kn (nI mpm) (nI mty) (nI mwi) (nI mhi) (nI mwa) (nI mle) (gI mgo) (nI mam) (bI mtm) (nI mli) (vF wd hd nb wl st sl gl aq lb sh bw bh ps) mpa (fun zz => nI (mtx zz)) (fun zz => nI (mlt zz)) (fun zz => nI (mha zz)) (fun zz => nI (mfi zz)) (fun zz => oI (mfa zz)) (fun zz => nI (mqu zz)) (fun zz => lN (mal zz)) (fun zz => nI (mta zz)) (fun zz => oI (mdi zz)) (fun zz => nI (mln zz))) H := hP
  have hD : va_D A (mW cI cJ cB o kv kp kx kl kh ki kf kq ka kt kd kn (nI mpm) (nI mty) (nI mwi) (nI mhi) (nI mwa) (nI mle) (gI mgo) (nI mam) (bI mtm) (nI mli) (vF wd hd nb wl st sl gl aq lb sh bw bh ps) mpa (fun zz => nI (mtx zz)) (fun zz => nI (mlt zz)) (fun zz => nI (mha zz)) (fun zz => nI (mfi zz)) (fun zz => oI (mfa zz)) (fun zz => nI (mqu zz)) (fun zz => lN (mal zz)) (fun zz => nI (mta zz)) (fun zz => oI (mdi zz)) (fun zz => nI (mln zz))) := hD
  refine lv_iconst (v := nI 1) hx hb dX8_cell_6 (by decide) ?_
  refine lv_isub hx hb dX8_cell_7 ?_
  refine callS_i (As := [.int x, .int (nI 0), .int ((nI (wd * hd)) - (nI 1))]) (rest := []) [] hC hK hN hP hD rfl (by decide) hS (c_X8_in l D cI cJ cB x (nI 0) ((nI (wd * hd)) - (nI 1)) ) q750 md_X8_in rfl hl.1 rfl (Nat.le_of_ble_eq_true rfl) dX8_cell_8 ⟨Nat.le_of_ble_eq_true rfl, Nat.le_of_ble_eq_true rfl⟩ ⟨Nat.le_of_ble_eq_true rfl, Nat.le_of_ble_eq_true rfl⟩ (fun r_8 w H locs hpost hP hD hS => ?_)
  obtain ⟨rfl, rfl⟩ := hpost
  have hP : va_P D vwCl (mW cI cJ cB o kv kp kx kl kh ki kf kq ka kt kd kn (nI mpm) (nI mty) (nI mwi) (nI mhi) (nI mwa) (nI mle) (gI mgo) (nI mam) (bI mtm) (nI mli) (vF wd hd nb wl st sl gl aq lb sh bw bh ps) mpa (fun zz => nI (mtx zz)) (fun zz => nI (mlt zz)) (fun zz => nI (mha zz)) (fun zz => nI (mfi zz)) (fun zz => oI (mfa zz)) (fun zz => nI (mqu zz)) (fun zz => lN (mal zz)) (fun zz => nI (mta zz)) (fun zz => oI (mdi zz)) (fun zz => nI (mln zz))) H := hP
  have hD : va_D A (mW cI cJ cB o kv kp kx kl kh ki kf kq ka kt kd kn (nI mpm) (nI mty) (nI mwi) (nI mhi) (nI mwa) (nI mle) (gI mgo) (nI mam) (bI mtm) (nI mli) (vF wd hd nb wl st sl gl aq lb sh bw bh ps) mpa (fun zz => nI (mtx zz)) (fun zz => nI (mlt zz)) (fun zz => nI (mha zz)) (fun zz => nI (mfi zz)) (fun zz => oI (mfa zz)) (fun zz => nI (mqu zz)) (fun zz => lN (mal zz)) (fun zz => nI (mta zz)) (fun zz => oI (mdi zz)) (fun zz => nI (mln zz))) := hD
  refine b_if_eq (tgt := 22) hx hb dX8_cell_11 (by decide) (fun c11 => ?_) (fun c11 => ?_)
  · have _ : True := trivial
    refine lv_iconst (v := (-1)) hx hb dX8_cell_22 (by decide) ?_
    rw [hQ]
    exact W.iret (v := (-1)) hx hb hr (fun t9 ht hW => ⟨⟨_, _, rfl, ⟨(by unfold f_cellx; rw [bOf_none (by omega) c11]), rfl⟩, by rw [ht]; exact hP, rfl⟩, hS.F ht⟩) hS.2.2 dX8_cell_23
  · have _ : True := trivial
    obtain ⟨k, hk9, hxk, hko⟩ := bOf_some (by omega) c11
    subst hxk
    refine lv_aload_n hx hb dX8_cell_14 rfl (lv_at hl 0 rfl) ?_
    refine lv_iload_n hx hb dX8_cell_15 rfl (lv_at hl 1 rfl) ?_
    refine callV_i (As := [.int (nI k)]) (rest := []) [0, 1, 2, 3, 4, 5, 6, 7, 8, 9, 10, 11, 12] hC hK hN hP hD rfl (by decide) hS 0 (ci := 8) rfl rfl rfl (c_X8_inCell l D cI cJ cB o kv kp kx kl kh ki kf kq ka kt kd kn mpm mty mwi mhi mwa mle mam mli mgo mtm mpa mtx mlt mha mfi mqu mta mln mal mfa mdi wd hd nb wl st sl gl aq lb sh bw bh ps k htv (by omega)) q827 md_X8_inCell rfl hl.1 rfl (Nat.le_of_ble_eq_true rfl) dX8_cell_16 ⟨Nat.le_of_ble_eq_true rfl, Nat.le_of_ble_eq_true rfl⟩ ⟨Nat.le_of_ble_eq_true rfl, Nat.le_of_ble_eq_true rfl⟩ (fun r_16 w H locs hpost hP hD hS => ?_)
    obtain ⟨rfl, rfl⟩ := hpost
    have hP : va_P D vwCl (mW cI cJ cB o kv kp kx kl kh ki kf kq ka kt kd kn (nI mpm) (nI mty) (nI mwi) (nI mhi) (nI mwa) (nI mle) (gI mgo) (nI mam) (bI mtm) (nI mli) (vF wd hd nb wl st sl gl aq lb sh bw bh ps) mpa (fun zz => nI (mtx zz)) (fun zz => nI (mlt zz)) (fun zz => nI (mha zz)) (fun zz => nI (mfi zz)) (fun zz => oI (mfa zz)) (fun zz => nI (mqu zz)) (fun zz => lN (mal zz)) (fun zz => nI (mta zz)) (fun zz => oI (mdi zz)) (fun zz => nI (mln zz))) H := hP
    have hD : va_D A (mW cI cJ cB o kv kp kx kl kh ki kf kq ka kt kd kn (nI mpm) (nI mty) (nI mwi) (nI mhi) (nI mwa) (nI mle) (gI mgo) (nI mam) (bI mtm) (nI mli) (vF wd hd nb wl st sl gl aq lb sh bw bh ps) mpa (fun zz => nI (mtx zz)) (fun zz => nI (mlt zz)) (fun zz => nI (mha zz)) (fun zz => nI (mfi zz)) (fun zz => oI (mfa zz)) (fun zz => nI (mqu zz)) (fun zz => lN (mal zz)) (fun zz => nI (mta zz)) (fun zz => oI (mdi zz)) (fun zz => nI (mln zz))) := hD
    refine lv_goto (tgt := 23) hx hb dX8_cell_19 (by decide) ?_
    rw [hQ]
    exact W.iret (v := f_cel wl sh ps k nb) hx hb hr (fun t9 ht hW => ⟨⟨_, _, rfl, ⟨(by unfold f_cellx; rw [hko]), rfl⟩, by rw [ht]; exact hP, rfl⟩, hS.F ht⟩) hS.2.2 dX8_cell_23

set_option maxHeartbeats 400000 in
set_option maxRecDepth 100000 in
theorem c_X8_told (l : Launch) (D : va_G) (cI cJ cB : ClassId) (o kv kp kx kl kh ki kf kq ka kt kd kn mpm mty mwi mhi mwa mle mam mli : Nat) (mgo : Option Nat) (mtm : Bool) (mpa : Nat → Int32) (mtx mlt mha mfi mqu mta mln mal : Nat → Nat) (mfa mdi : Nat → Option Nat) (wd hd nb wl : Nat) (st sl : Int32) (gl aq lb : Option Nat) (sh bw bh ps : Nat → Nat) (b k : Nat) (htv : TV wd hd nb wl sh bw bh ps gl aq lb) (hbn : b < nb) (hk7 : k < 7) : Met l yX8_told (Cond.code yX8_told cX8_told 7 (some .int) :: lw_all) (rmN 3) (va_Pc [.ref o, .int (nI b), .int (nI k)] (pB D (tyz cI cJ cB) (mW cI cJ cB o kv kp kx kl kh ki kf kq ka kt kd kn (nI mpm) (nI mty) (nI mwi) (nI mhi) (nI mwa) (nI mle) (gI mgo) (nI mam) (bI mtm) (nI mli) (vF wd hd nb wl st sl gl aq lb sh bw bh ps) mpa (fun zz => nI (mtx zz)) (fun zz => nI (mlt zz)) (fun zz => nI (mha zz)) (fun zz => nI (mfi zz)) (fun zz => oI (mfa zz)) (fun zz => nI (mqu zz)) (fun zz => lN (mal zz)) (fun zz => nI (mta zz)) (fun zz => oI (mdi zz)) (fun zz => nI (mln zz))))) (va_Qi (fun (r : Int32) (w : va_W) => ∃ fa2 : Nat → Option Nat, ∃ qa2 : Nat → Nat, r = f_blk wd hd nb wl sh bw bh ps b k ∧ w = mW cI cJ cB o kv kp kx kl kh ki kf kq ka kt kd kn (nI mpm) (nI mty) (nI mwi) (nI mhi) (nI mwa) (nI mle) (gI none) (nI mam) (bI mtm) (nI mli) (vF wd hd nb wl st sl gl aq lb sh bw bh ps) mpa (fun zz => nI (mtx zz)) (fun zz => nI (mlt zz)) (fun zz => nI (mha zz)) (fun zz => nI (mfi zz)) (fun zz => oI (fa2 zz)) (fun zz => nI (qa2 zz)) (fun zz => lN (mal zz)) (fun zz => nI (mta zz)) (fun zz => oI (mdi zz)) (fun zz => nI (mln zz))) (gB D (mW cI cJ cB o kv kp kx kl kh ki kf kq ka kt kd kn (nI mpm) (nI mty) (nI mwi) (nI mhi) (nI mwa) (nI mle) (gI mgo) (nI mam) (bI mtm) (nI mli) (vF wd hd nb wl st sl gl aq lb sh bw bh ps) mpa (fun zz => nI (mtx zz)) (fun zz => nI (mlt zz)) (fun zz => nI (mha zz)) (fun zz => nI (mfi zz)) (fun zz => oI (mfa zz)) (fun zz => nI (mqu zz)) (fun zz => lN (mal zz)) (fun zz => nI (mta zz)) (fun zz => oI (mdi zz)) (fun zz => nI (mln zz)))) (aW (mW cI cJ cB o kv kp kx kl kh ki kf kq ka kt kd kn (nI mpm) (nI mty) (nI mwi) (nI mhi) (nI mwa) (nI mle) (gI mgo) (nI mam) (bI mtm) (nI mli) (vF wd hd nb wl st sl gl aq lb sh bw bh ps) mpa (fun zz => nI (mtx zz)) (fun zz => nI (mlt zz)) (fun zz => nI (mha zz)) (fun zz => nI (mfi zz)) (fun zz => oI (mfa zz)) (fun zz => nI (mqu zz)) (fun zz => lN (mal zz)) (fun zz => nI (mta zz)) (fun zz => oI (mdi zz)) (fun zz => nI (mln zz))))) 0 0 (aW (mW cI cJ cB o kv kp kx kl kh ki kf kq ka kt kd kn (nI mpm) (nI mty) (nI mwi) (nI mhi) (nI mwa) (nI mle) (gI mgo) (nI mam) (bI mtm) (nI mli) (vF wd hd nb wl st sl gl aq lb sh bw bh ps) mpa (fun zz => nI (mtx zz)) (fun zz => nI (mlt zz)) (fun zz => nI (mha zz)) (fun zz => nI (mfi zz)) (fun zz => oI (mfa zz)) (fun zz => nI (mqu zz)) (fun zz => lN (mal zz)) (fun zz => nI (mta zz)) (fun zz => oI (mdi zz)) (fun zz => nI (mln zz)))) := by
  refine Met.ofW (cc := cX8_told) (maxL := 7) (ret := (some .int)) (by decide) rfl ?_
  intro p e s m args below meth c s₁ B hml hv
  obtain ⟨rfl, hK, hN, hP, hD0⟩ := hv
  have hx := B.exec; have hb := B.bytes; have hr := B.returns; have hlocks := B.notSynchronized
  have hts0 := atoms_spec (ws := Cond.code yX8_told cX8_told 7 (some .int) :: lw_all) B.pre
  have hC : CallFix p m c cX8_told 7 s _ lw_all RX8 := ⟨hx, hb, hml, findClass_of_methodNamed B.named, fun w h => hts0 w (List.mem_cons_of_mem _ h)⟩
  have hD : va_D (aW (mW cI cJ cB o kv kp kx kl kh ki kf kq ka kt kd kn (nI mpm) (nI mty) (nI mwi) (nI mhi) (nI mwa) (nI mle) (gI mgo) (nI mam) (bI mtm) (nI mli) (vF wd hd nb wl st sl gl aq lb sh bw bh ps) mpa (fun zz => nI (mtx zz)) (fun zz => nI (mlt zz)) (fun zz => nI (mha zz)) (fun zz => nI (mfi zz)) (fun zz => oI (mfa zz)) (fun zz => nI (mqu zz)) (fun zz => lN (mal zz)) (fun zz => nI (mta zz)) (fun zz => oI (mdi zz)) (fun zz => nI (mln zz)))) (mW cI cJ cB o kv kp kx kl kh ki kf kq ka kt kd kn (nI mpm) (nI mty) (nI mwi) (nI mhi) (nI mwa) (nI mle) (gI mgo) (nI mam) (bI mtm) (nI mli) (vF wd hd nb wl st sl gl aq lb sh bw bh ps) mpa (fun zz => nI (mtx zz)) (fun zz => nI (mlt zz)) (fun zz => nI (mha zz)) (fun zz => nI (mfi zz)) (fun zz => oI (mfa zz)) (fun zz => nI (mqu zz)) (fun zz => lN (mal zz)) (fun zz => nI (mta zz)) (fun zz => oI (mdi zz)) (fun zz => nI (mln zz))) := ⟨hD0.1, fun k q h => ⟨k, q.2, h⟩⟩
  generalize hAe : aW (mW cI cJ cB o kv kp kx kl kh ki kf kq ka kt kd kn (nI mpm) (nI mty) (nI mwi) (nI mhi) (nI mwa) (nI mle) (gI mgo) (nI mam) (bI mtm) (nI mli) (vF wd hd nb wl st sl gl aq lb sh bw bh ps) mpa (fun zz => nI (mtx zz)) (fun zz => nI (mlt zz)) (fun zz => nI (mha zz)) (fun zz => nI (mfi zz)) (fun zz => oI (mfa zz)) (fun zz => nI (mqu zz)) (fun zz => lN (mal zz)) (fun zz => nI (mta zz)) (fun zz => oI (mdi zz)) (fun zz => nI (mln zz))) = A at hD ⊢
  have hS : va_S A s.heap s.heap [] := va_S.rf
  have hl := lv_entry ([.ref o, .int (nI b), .int (nI k)]) (n := 7) (Nat.le_of_ble_eq_true rfl)
  rw [lg_entry_eq]
  generalize (lg_sl ([.ref o, .int (nI b), .int (nI k)]) ++ List.replicate (7 - (lg_sl ([.ref o, .int (nI b), .int (nI k)])).length) Slot.unset).toArray = ls at hl ⊢
  have hl : lv_has ls 7 [(0, .ref o), (1, .int (nI b)), (2, .int (nI k))] := hl
  generalize hav : ([.ref o, .int (nI b), .int (nI k)] : List Value).toArray = args at hC ⊢
  refine W_gen (fun QQ hQ => ?_)
  show W p l e (rmN 3) s m args below meth c s.heap [] 0 0 QQ (F0 m 0 ls [])
  obtain ⟨hf, hps, hk1, hga, hlb⟩ := id htv
  have hn7 := hf.2.2.2.2.2.1
  have h24 := hf.2.2.2.2.1
  have hsb := hf.2.2.2.2.2.2.2 b hbn
  obtain ⟨hpl, hpe⟩ := KV_pl hn7 hps hk1 hbn
  have hpb := hps b hbn
  refine lv_aload_n hx hb dX8_told_0 rfl (lv_at hl 0 rfl) ?_
  refine lv_bipush (v := (-9)) hx hb dX8_told_1 (by decide) ?_
  refine topi (y := gI none) rfl ?_
  refine pf_X8_28 hC hK hP hD hS 0 rfl (Nat.le_of_ble_eq_true rfl) (ws1 := mW cI cJ cB o kv kp kx kl kh ki kf kq ka kt kd kn (nI mpm) (nI mty) (nI mwi) (nI mhi) (nI mwa) (nI mle) (gI none) (nI mam) (bI mtm) (nI mli) (vF wd hd nb wl st sl gl aq lb sh bw bh ps) mpa (fun zz => nI (mtx zz)) (fun zz => nI (mlt zz)) (fun zz => nI (mha zz)) (fun zz => nI (mfi zz)) (fun zz => oI (mfa zz)) (fun zz => nI (mqu zz)) (fun zz => lN (mal zz)) (fun zz => nI (mta zz)) (fun zz => oI (mdi zz)) (fun zz => nI (mln zz))) rfl dX8_told_3 (fun H locs hP hD hS => ?_)
  refine lv_aload_n hx hb dX8_told_6 rfl (lv_at hl 0 rfl) ?_
  refine lv_aload_n hx hb dX8_told_7 rfl (lv_at hl 0 rfl) ?_
  refine callV_l (As := []) (rest := [.ref o]) [0, 1, 2, 3, 4, 5, 6, 7, 8, 9, 10, 11, 12] hC hK hN hP hD rfl (by decide) hS 0 (ci := 8) rfl rfl rfl (c_X8_present l D cI cJ cB o kv kp kx kl kh ki kf kq ka kt kd kn mpm mty mwi mhi mwa mle mam mli none mtm mpa mtx mlt mha mfi mqu mta mln mal mfa mdi wd hd nb wl st sl gl aq lb sh bw bh ps (by omega) hps) q800 md_X8_present rfl hl.1 rfl (Nat.le_of_ble_eq_true rfl) dX8_told_8 ⟨Nat.le_of_ble_eq_true rfl, Nat.le_of_ble_eq_true rfl⟩ ⟨Nat.le_of_ble_eq_true rfl, Nat.le_of_ble_eq_true rfl⟩ (fun r_8 w H locs hpost hP hD hS => ?_)
  obtain ⟨rfl, rfl⟩ := hpost
  have hP : va_P D vwCl (mW cI cJ cB o kv kp kx kl kh ki kf kq ka kt kd kn (nI mpm) (nI mty) (nI mwi) (nI mhi) (nI mwa) (nI mle) (gI none) (nI mam) (bI mtm) (nI mli) (vF wd hd nb wl st sl gl aq lb sh bw bh ps) mpa (fun zz => nI (mtx zz)) (fun zz => nI (mlt zz)) (fun zz => nI (mha zz)) (fun zz => nI (mfi zz)) (fun zz => oI (mfa zz)) (fun zz => nI (mqu zz)) (fun zz => lN (mal zz)) (fun zz => nI (mta zz)) (fun zz => oI (mdi zz)) (fun zz => nI (mln zz))) H := hP
  have hD : va_D A (mW cI cJ cB o kv kp kx kl kh ki kf kq ka kt kd kn (nI mpm) (nI mty) (nI mwi) (nI mhi) (nI mwa) (nI mle) (gI none) (nI mam) (bI mtm) (nI mli) (vF wd hd nb wl st sl gl aq lb sh bw bh ps) mpa (fun zz => nI (mtx zz)) (fun zz => nI (mlt zz)) (fun zz => nI (mha zz)) (fun zz => nI (mfi zz)) (fun zz => oI (mfa zz)) (fun zz => nI (mqu zz)) (fun zz => lN (mal zz)) (fun zz => nI (mta zz)) (fun zz => oI (mdi zz)) (fun zz => nI (mln zz))) := hD
  refine lv_iload_n hx hb dX8_told_11 rfl (lv_at hl 1 rfl) ?_
  refine callV_v (As := [.long (lN (pkey ps nb)), .int (nI b)]) (rest := []) [0, 1, 2, 3, 4, 5, 6, 7, 8, 9, 10, 11, 12] hC hK hN hP hD rfl (by decide) hS 0 (ci := 8) rfl rfl rfl (c_X8_floods l D cI cJ cB o kv kp kx kl kh ki kf kq ka kt kd kn mpm mty mwi mhi mwa mle mam mli none mtm mpa mtx mlt mha mfi mqu mta mln mal mfa mdi wd hd nb wl st sl gl aq lb sh bw bh ps (pkey ps nb) b hf hk1 (fun d h => by cases h) (by omega) (fun h => by cases h)) q843 md_X8_floods rfl hl.1 rfl (Nat.le_of_ble_eq_true rfl) dX8_told_12 ⟨Nat.le_of_ble_eq_true rfl, Nat.le_of_ble_eq_true rfl⟩ ⟨Nat.le_of_ble_eq_true rfl, Nat.le_of_ble_eq_true rfl⟩ (fun w H locs hpost hP hD hS => ?_)
  obtain ⟨F2_12, Q2_12, rfl, hfl, hfb⟩ := hpost
  have hP : va_P D vwCl (mW cI cJ cB o kv kp kx kl kh ki kf kq ka kt kd kn (nI mpm) (nI mty) (nI mwi) (nI mhi) (nI mwa) (nI mle) (gI none) (nI mam) (bI mtm) (nI mli) (vF wd hd nb wl st sl gl aq lb sh bw bh ps) mpa (fun zz => nI (mtx zz)) (fun zz => nI (mlt zz)) (fun zz => nI (mha zz)) (fun zz => nI (mfi zz)) (fun zz => oI (F2_12 zz)) (fun zz => nI (Q2_12 zz)) (fun zz => lN (mal zz)) (fun zz => nI (mta zz)) (fun zz => oI (mdi zz)) (fun zz => nI (mln zz))) H := hP
  have hD : va_D A (mW cI cJ cB o kv kp kx kl kh ki kf kq ka kt kd kn (nI mpm) (nI mty) (nI mwi) (nI mhi) (nI mwa) (nI mle) (gI none) (nI mam) (bI mtm) (nI mli) (vF wd hd nb wl st sl gl aq lb sh bw bh ps) mpa (fun zz => nI (mtx zz)) (fun zz => nI (mlt zz)) (fun zz => nI (mha zz)) (fun zz => nI (mfi zz)) (fun zz => oI (F2_12 zz)) (fun zz => nI (Q2_12 zz)) (fun zz => lN (mal zz)) (fun zz => nI (mta zz)) (fun zz => oI (mdi zz)) (fun zz => nI (mln zz))) := hD
  have hflo := flo_eq hfl
  rw [hpe] at hfl
  rcases (by omega : k = 0 ∨ k = 1 ∨ k = 2 ∨ k = 3 ∨ k = 4 ∨ k = 5 ∨ k = 6) with rfl | rfl | rfl | rfl | rfl | rfl | rfl
  · have _ : True := trivial
    refine lv_iload_n hx hb dX8_told_15 rfl (lv_at hl 2 rfl) ?_
    refine lv_tableIn (x := nI 0) (off := 40) (tgt := 56) hx hb dX8_told_16 (by decide) (by decide) rfl (by decide) ?_
    refine lv_aload_n hx hb dX8_told_56 rfl (lv_at hl 0 rfl) ?_
    refine gf_X8_7 hC hK hP 0 rfl rfl dX8_told_57 ?_
    refine lv_bipush (v := nI 31) hx hb dX8_told_60 (by decide) ?_
    refine lv_iload_n hx hb dX8_told_62 rfl (lv_at hl 1 rfl) ?_
    refine n_iadd hx hb dX8_told_63  ?_
    refine n_iald hx hb hK hP 1 0 rfl rfl (by omega) (by decide) dX8_told_64 ?_
    refine topi (y := nI (ps b)) (vF_ps (by omega)) ?_
    rw [hQ]
    exact W.iret (v := nI (ps b)) hx hb hr (fun t9 ht hW => ⟨⟨_, _, rfl, ⟨F2_12, Q2_12, rfl, rfl⟩, by rw [ht]; exact hP, rfl⟩, hS.F ht⟩) hS.2.2 dX8_told_65
  · have _ : True := trivial
    refine lv_iload_n hx hb dX8_told_15 rfl (lv_at hl 2 rfl) ?_
    refine lv_tableIn (x := nI 1) (off := 50) (tgt := 66) hx hb dX8_told_16 (by decide) (by decide) rfl (by decide) ?_
    refine lv_aload_n hx hb dX8_told_66 rfl (lv_at hl 0 rfl) ?_
    refine gf_X8_7 hC hK hP 0 rfl rfl dX8_told_67 ?_
    refine lv_bipush (v := nI 10) hx hb dX8_told_70 (by decide) ?_
    refine lv_iload_n hx hb dX8_told_72 rfl (lv_at hl 1 rfl) ?_
    refine n_iadd hx hb dX8_told_73  ?_
    refine n_iald hx hb hK hP 1 0 rfl rfl (by omega) (by decide) dX8_told_74 ?_
    refine topi (y := nI (sh b)) (vF_sh (by omega)) ?_
    refine callS_i (As := [.int (nI (sh b))]) (rest := []) [] hC hK hN hP hD rfl (by decide) hS (c_X8_many l D cI cJ cB (sh b) (by have := ShV_lt hf.1 h24 hsb; omega)) q816 md_X8_many rfl hl.1 rfl (Nat.le_of_ble_eq_true rfl) dX8_told_75 ⟨Nat.le_of_ble_eq_true rfl, Nat.le_of_ble_eq_true rfl⟩ ⟨Nat.le_of_ble_eq_true rfl, Nat.le_of_ble_eq_true rfl⟩ (fun r_75 w H locs hpost hP hD hS => ?_)
    obtain ⟨rfl, rfl⟩ := hpost
    have hP : va_P D vwCl (mW cI cJ cB o kv kp kx kl kh ki kf kq ka kt kd kn (nI mpm) (nI mty) (nI mwi) (nI mhi) (nI mwa) (nI mle) (gI none) (nI mam) (bI mtm) (nI mli) (vF wd hd nb wl st sl gl aq lb sh bw bh ps) mpa (fun zz => nI (mtx zz)) (fun zz => nI (mlt zz)) (fun zz => nI (mha zz)) (fun zz => nI (mfi zz)) (fun zz => oI (F2_12 zz)) (fun zz => nI (Q2_12 zz)) (fun zz => lN (mal zz)) (fun zz => nI (mta zz)) (fun zz => oI (mdi zz)) (fun zz => nI (mln zz))) H := hP
    have hD : va_D A (mW cI cJ cB o kv kp kx kl kh ki kf kq ka kt kd kn (nI mpm) (nI mty) (nI mwi) (nI mhi) (nI mwa) (nI mle) (gI none) (nI mam) (bI mtm) (nI mli) (vF wd hd nb wl st sl gl aq lb sh bw bh ps) mpa (fun zz => nI (mtx zz)) (fun zz => nI (mlt zz)) (fun zz => nI (mha zz)) (fun zz => nI (mfi zz)) (fun zz => oI (F2_12 zz)) (fun zz => nI (Q2_12 zz)) (fun zz => lN (mal zz)) (fun zz => nI (mta zz)) (fun zz => oI (mdi zz)) (fun zz => nI (mln zz))) := hD
    rw [hQ]
    exact W.iret (v := nI (cnt (sh b) 24)) hx hb hr (fun t9 ht hW => ⟨⟨_, _, rfl, ⟨F2_12, Q2_12, rfl, rfl⟩, by rw [ht]; exact hP, rfl⟩, hS.F ht⟩) hS.2.2 dX8_told_78
  · have _ : True := trivial
    refine lv_iload_n hx hb dX8_told_15 rfl (lv_at hl 2 rfl) ?_
    refine lv_tableIn (x := nI 2) (off := 63) (tgt := 79) hx hb dX8_told_16 (by decide) (by decide) rfl (by decide) ?_
    refine lv_aload_n hx hb dX8_told_79 rfl (lv_at hl 0 rfl) ?_
    refine gf_X8_7 hC hK hP 0 rfl rfl dX8_told_80 ?_
    refine lv_bipush (v := nI 17) hx hb dX8_told_83 (by decide) ?_
    refine lv_iload_n hx hb dX8_told_85 rfl (lv_at hl 1 rfl) ?_
    refine n_iadd hx hb dX8_told_86  ?_
    refine n_iald hx hb hK hP 1 0 rfl rfl (by omega) (by decide) dX8_told_87 ?_
    refine topi (y := nI (bw b)) (vF_bw (by omega)) ?_
    rw [hQ]
    exact W.iret (v := nI (bw b)) hx hb hr (fun t9 ht hW => ⟨⟨_, _, rfl, ⟨F2_12, Q2_12, rfl, rfl⟩, by rw [ht]; exact hP, rfl⟩, hS.F ht⟩) hS.2.2 dX8_told_88
  · have _ : True := trivial
    refine lv_iload_n hx hb dX8_told_15 rfl (lv_at hl 2 rfl) ?_
    refine lv_tableIn (x := nI 3) (off := 73) (tgt := 89) hx hb dX8_told_16 (by decide) (by decide) rfl (by decide) ?_
    refine lv_aload_n hx hb dX8_told_89 rfl (lv_at hl 0 rfl) ?_
    refine gf_X8_7 hC hK hP 0 rfl rfl dX8_told_90 ?_
    refine lv_bipush (v := nI 24) hx hb dX8_told_93 (by decide) ?_
    refine lv_iload_n hx hb dX8_told_95 rfl (lv_at hl 1 rfl) ?_
    refine n_iadd hx hb dX8_told_96  ?_
    refine n_iald hx hb hK hP 1 0 rfl rfl (by omega) (by decide) dX8_told_97 ?_
    refine topi (y := nI (bh b)) (vF_bh (by omega)) ?_
    rw [hQ]
    exact W.iret (v := nI (bh b)) hx hb hr (fun t9 ht hW => ⟨⟨_, _, rfl, ⟨F2_12, Q2_12, rfl, rfl⟩, by rw [ht]; exact hP, rfl⟩, hS.F ht⟩) hS.2.2 dX8_told_98
  · have _ : True := trivial
    refine lv_iload_n hx hb dX8_told_15 rfl (lv_at hl 2 rfl) ?_
    refine lv_tableIn (x := nI 4) (off := 83) (tgt := 99) hx hb dX8_told_16 (by decide) (by decide) rfl (by decide) ?_
    refine lv_iconst (v := nI 0) hx hb dX8_told_99 (by decide) ?_
    refine topi (y := nI (dset (fun d => mvt wd hd (bw b) (bh b) (sh b) (tk wl sh (pkey ps nb) (exb none (some b)) nb) (ps b) d) 0)) rfl ?_
    refine lv_istore_n (lv' := [(3, .int (nI (dset (fun d => mvt wd hd (bw b) (bh b) (sh b) (tk wl sh (pkey ps nb) (exb none (some b)) nb) (ps b) d) 0))), (0, .ref o), (1, .int (nI b)), (2, .int (nI 4))]) hx hb dX8_told_100 rfl hl (by decide) rfl (fun ls hl => ?_)
    refine lv_iconst (v := nI 0) hx hb dX8_told_101 (by decide) ?_
    refine lv_istore (lv' := [(4, .int (nI 0)), (3, .int (nI (dset (fun d => mvt wd hd (bw b) (bh b) (sh b) (tk wl sh (pkey ps nb) (exb none (some b)) nb) (ps b) d) 0))), (0, .ref o), (1, .int (nI b)), (2, .int (nI 4))]) hx hb dX8_told_102 hl (by decide) rfl (fun ls hl => ?_)
    have L104 : ∀ (n : Nat) (dd : Nat), (dd ≤ 4) → (4 - dd) < n → ∀ (H : Heap) (locs : List Loc), va_P D vwCl (mW cI cJ cB o kv kp kx kl kh ki kf kq ka kt kd kn (nI mpm) (nI mty) (nI mwi) (nI mhi) (nI mwa) (nI mle) (gI none) (nI mam) (bI mtm) (nI mli) (vF wd hd nb wl st sl gl aq lb sh bw bh ps) mpa (fun zz => nI (mtx zz)) (fun zz => nI (mlt zz)) (fun zz => nI (mha zz)) (fun zz => nI (mfi zz)) (fun zz => oI (F2_12 zz)) (fun zz => nI (Q2_12 zz)) (fun zz => lN (mal zz)) (fun zz => nI (mta zz)) (fun zz => oI (mdi zz)) (fun zz => nI (mln zz))) H → va_D A (mW cI cJ cB o kv kp kx kl kh ki kf kq ka kt kd kn (nI mpm) (nI mty) (nI mwi) (nI mhi) (nI mwa) (nI mle) (gI none) (nI mam) (bI mtm) (nI mli) (vF wd hd nb wl st sl gl aq lb sh bw bh ps) mpa (fun zz => nI (mtx zz)) (fun zz => nI (mlt zz)) (fun zz => nI (mha zz)) (fun zz => nI (mfi zz)) (fun zz => oI (F2_12 zz)) (fun zz => nI (Q2_12 zz)) (fun zz => lN (mal zz)) (fun zz => nI (mta zz)) (fun zz => oI (mdi zz)) (fun zz => nI (mln zz))) → va_S A s.heap H locs → ∀ ls : Array Slot, lv_has ls 7 [(3, .int (nI (dset (fun d => mvt wd hd (bw b) (bh b) (sh b) (tk wl sh (pkey ps nb) (exb none (some b)) nb) (ps b) d) dd))), (4, .int (nI dd)), (0, .ref o), (1, .int (nI b)), (2, .int (nI 4))] → W p l e (rmN 3) s m args below meth c H locs 0 0 QQ (F0 m 104 ls []) := by
      intro n; induction n with
      | zero => intro dd id4 hm; exact absurd hm (Nat.not_lt_zero _)
      | succ n ih104 =>
        intro dd id4 hm104 H locs hP hD hS ls hl
        refine lv_iload hx hb dX8_told_104 (lv_at hl 1 rfl) ?_
        refine lv_iconst (v := nI 4) hx hb dX8_told_106 (by decide) ?_
        refine n_icmp_ge (a := dd) (b := 4) (tgt := 161) hx hb dX8_told_107 (by decide) (by omega) (by omega) (fun c107 => ?_) (fun c107 => ?_)
        · have _ : True := trivial
          have e107 : dd = 4 := by omega
          refine lv_iload_n hx hb dX8_told_161 rfl (lv_at hl 0 rfl) ?_
          rw [hQ]
          exact W.iret (v := nI (dset (fun d => mvt wd hd (bw b) (bh b) (sh b) (tk wl sh (pkey ps nb) (exb none (some b)) nb) (ps b) d) dd)) hx hb hr (fun t9 ht hW => ⟨⟨_, _, rfl, ⟨F2_12, Q2_12, (by rw [e107]; rfl), rfl⟩, by rw [ht]; exact hP, rfl⟩, hS.F ht⟩) hS.2.2 dX8_told_162
        · have _ : True := trivial
          refine lv_aload_n hx hb dX8_told_110 rfl (lv_at hl 2 rfl) ?_
          refine lv_iload_n hx hb dX8_told_111 rfl (lv_at hl 3 rfl) ?_
          refine lv_aload_n hx hb dX8_told_112 rfl (lv_at hl 2 rfl) ?_
          refine gf_X8_7 hC hK hP 0 rfl rfl dX8_told_113 ?_
          refine lv_bipush (v := nI 31) hx hb dX8_told_116 (by decide) ?_
          refine lv_iload_n hx hb dX8_told_118 rfl (lv_at hl 3 rfl) ?_
          refine n_iadd hx hb dX8_told_119  ?_
          refine n_iald hx hb hK hP 1 0 rfl rfl (by omega) (by decide) dX8_told_120 ?_
          refine topi (y := nI (ps b)) (vF_ps (by omega)) ?_
          refine lv_iload hx hb dX8_told_121 (lv_at hl 1 rfl) ?_
          refine callV_i (As := [.int (nI b), .int (nI (ps b)), .int (nI dd)]) (rest := []) [0, 1, 2, 3, 4, 5, 6, 7, 8, 9, 10, 11, 12] hC hK hN hP hD rfl (by decide) hS 0 (ci := 8) rfl rfl rfl (c_X8_beside l D cI cJ cB o kv kp kx kl kh ki kf kq ka kt kd kn mpm mty mwi mhi mwa mle mam mli none mtm mpa mtx mlt mha mfi Q2_12 mta mln mal F2_12 mdi wd hd nb wl st sl gl aq lb sh bw bh ps b (ps b) dd (by omega) hf.1 hf.2.1 hf.2.2.2.1 (by omega) hpl.1 hpl.2 (by omega)) q847 md_X8_beside rfl hl.1 rfl (Nat.le_of_ble_eq_true rfl) dX8_told_123 ⟨Nat.le_of_ble_eq_true rfl, Nat.le_of_ble_eq_true rfl⟩ ⟨Nat.le_of_ble_eq_true rfl, Nat.le_of_ble_eq_true rfl⟩ (fun r_123 w H locs hpost hP hD hS => ?_)
          obtain ⟨rfl, rfl⟩ := hpost
          have hP : va_P D vwCl (mW cI cJ cB o kv kp kx kl kh ki kf kq ka kt kd kn (nI mpm) (nI mty) (nI mwi) (nI mhi) (nI mwa) (nI mle) (gI none) (nI mam) (bI mtm) (nI mli) (vF wd hd nb wl st sl gl aq lb sh bw bh ps) mpa (fun zz => nI (mtx zz)) (fun zz => nI (mlt zz)) (fun zz => nI (mha zz)) (fun zz => nI (mfi zz)) (fun zz => oI (F2_12 zz)) (fun zz => nI (Q2_12 zz)) (fun zz => lN (mal zz)) (fun zz => nI (mta zz)) (fun zz => oI (mdi zz)) (fun zz => nI (mln zz))) H := hP
          have hD : va_D A (mW cI cJ cB o kv kp kx kl kh ki kf kq ka kt kd kn (nI mpm) (nI mty) (nI mwi) (nI mhi) (nI mwa) (nI mle) (gI none) (nI mam) (bI mtm) (nI mli) (vF wd hd nb wl st sl gl aq lb sh bw bh ps) mpa (fun zz => nI (mtx zz)) (fun zz => nI (mlt zz)) (fun zz => nI (mha zz)) (fun zz => nI (mfi zz)) (fun zz => oI (F2_12 zz)) (fun zz => nI (Q2_12 zz)) (fun zz => lN (mal zz)) (fun zz => nI (mta zz)) (fun zz => oI (mdi zz)) (fun zz => nI (mln zz))) := hD
          refine lv_istore (lv' := [(5, .int (gI (stp wd hd (bw b) (bh b) (ps b) dd))), (3, .int (nI (dset (fun d => mvt wd hd (bw b) (bh b) (sh b) (tk wl sh (pkey ps nb) (exb none (some b)) nb) (ps b) d) dd))), (4, .int (nI dd)), (0, .ref o), (1, .int (nI b)), (2, .int (nI 4))]) hx hb dX8_told_126 hl (by decide) rfl (fun ls hl => ?_)
          refine lv_iload_n hx hb dX8_told_128 rfl (lv_at hl 1 rfl) ?_
          refine lv_iload hx hb dX8_told_129 (lv_at hl 0 rfl) ?_
          refine g_if_lt (x := stp wd hd (bw b) (bh b) (ps b) dd) (tgt := 152) hx hb dX8_told_131 (by decide) (fun d h => by have := fr_lt hf.1 h24 hsb.2.2.1 (stp_pl hf.1 hsb.1 hpl h); omega) (fun c131 => ?_) (fun d131 c131 => ?_)
          · have _ : True := trivial
            have hm9 := mvt_none (s := sh b) (ot := tk wl sh (pkey ps nb) (exb none (some b)) nb) c131
            refine lv_iconst (v := nI 0) hx hb dX8_told_152 (by decide) ?_
            refine n_ior hx hb dX8_told_153  ?_
            refine topi (y := nI (dset (fun d => mvt wd hd (bw b) (bh b) (sh b) (tk wl sh (pkey ps nb) (exb none (some b)) nb) (ps b) d) (dd + 1))) (by show nI (dset (fun d => mvt wd hd (bw b) (bh b) (sh b) (tk wl sh (pkey ps nb) (exb none (some b)) nb) (ps b) d) dd ||| 0) = nI (dset (fun d => mvt wd hd (bw b) (bh b) (sh b) (tk wl sh (pkey ps nb) (exb none (some b)) nb) (ps b) d) dd ||| (if (mvt wd hd (bw b) (bh b) (sh b) (tk wl sh (pkey ps nb) (exb none (some b)) nb) (ps b) dd).isSome then 1 <<< dd else 0)); rw [if_neg (by rw [hm9]; simp)]) ?_
            refine lv_istore_n (lv' := [(3, .int (nI (dset (fun d => mvt wd hd (bw b) (bh b) (sh b) (tk wl sh (pkey ps nb) (exb none (some b)) nb) (ps b) d) (dd + 1)))), (5, .int (gI (stp wd hd (bw b) (bh b) (ps b) dd))), (4, .int (nI dd)), (0, .ref o), (1, .int (nI b)), (2, .int (nI 4))]) hx hb dX8_told_154 rfl hl (by decide) rfl (fun ls hl => ?_)
            refine lv_iinc (v := nI (dd + 1)) (lv' := [(4, .int (nI (dd + 1))), (3, .int (nI (dset (fun d => mvt wd hd (bw b) (bh b) (sh b) (tk wl sh (pkey ps nb) (exb none (some b)) nb) (ps b) d) (dd + 1)))), (5, .int (gI (stp wd hd (bw b) (bh b) (ps b) dd))), (0, .ref o), (1, .int (nI b)), (2, .int (nI 4))]) hx hb dX8_told_155 hl (k := 2) rfl (nI_1 _) (by decide) rfl (fun ls hl => ?_)
            refine lv_goto (tgt := 104) hx hb dX8_told_158 (by decide) ?_
            exact ih104 (dd + 1) (by omega) (by omega) _ _ hP hD hS _ (lv_sub hl [1, 0, 3, 4, 5] rfl)
          · have _ : True := trivial
            have hq24 := fr_lt hf.1 h24 hsb.2.2.1 (stp_pl hf.1 hsb.1 hpl c131)
            have ho9 : ∀ d, F2_12 d131 = some d → d < 2 ^ 31 := fun d h => by have := (hfb _ d h).2.2; omega
            have hone := flo_one hf.1 hfl (by omega) c131 (stp_ne hf.1 c131)
            refine lv_aload_n hx hb dX8_told_134 rfl (lv_at hl 3 rfl) ?_
            refine gf_X8_32 hC hK hP 0 rfl rfl dX8_told_135 ?_
            refine lv_iload hx hb dX8_told_138 (lv_at hl 0 rfl) ?_
            refine topi (y := nI d131) (by rw [c131]; rfl) ?_
            refine n_iald hx hb hK hP 7 0 rfl rfl hq24 (by decide) dX8_told_140 ?_
            refine lv_iconst (v := nI 1) hx hb dX8_told_141 (by decide) ?_
            refine lv_icmp_ne (tgt := 152) hx hb dX8_told_142 (by decide) (fun c142 => ?_) (fun c142 => ?_)
            · have _ : True := trivial
              have hm9 : mvt wd hd (bw b) (bh b) (sh b) (tk wl sh (pkey ps nb) (exb none (some b)) nb) (ps b) dd = none := mvt_no c131 (fun h => c142 ((oI_one ho9).mpr (hone.mpr h)))
              refine lv_iconst (v := nI 0) hx hb dX8_told_152 (by decide) ?_
              refine n_ior hx hb dX8_told_153  ?_
              refine topi (y := nI (dset (fun d => mvt wd hd (bw b) (bh b) (sh b) (tk wl sh (pkey ps nb) (exb none (some b)) nb) (ps b) d) (dd + 1))) (by show nI (dset (fun d => mvt wd hd (bw b) (bh b) (sh b) (tk wl sh (pkey ps nb) (exb none (some b)) nb) (ps b) d) dd ||| 0) = nI (dset (fun d => mvt wd hd (bw b) (bh b) (sh b) (tk wl sh (pkey ps nb) (exb none (some b)) nb) (ps b) d) dd ||| (if (mvt wd hd (bw b) (bh b) (sh b) (tk wl sh (pkey ps nb) (exb none (some b)) nb) (ps b) dd).isSome then 1 <<< dd else 0)); rw [if_neg (by rw [hm9]; simp)]) ?_
              refine lv_istore_n (lv' := [(3, .int (nI (dset (fun d => mvt wd hd (bw b) (bh b) (sh b) (tk wl sh (pkey ps nb) (exb none (some b)) nb) (ps b) d) (dd + 1)))), (5, .int (gI (stp wd hd (bw b) (bh b) (ps b) dd))), (4, .int (nI dd)), (0, .ref o), (1, .int (nI b)), (2, .int (nI 4))]) hx hb dX8_told_154 rfl hl (by decide) rfl (fun ls hl => ?_)
              refine lv_iinc (v := nI (dd + 1)) (lv' := [(4, .int (nI (dd + 1))), (3, .int (nI (dset (fun d => mvt wd hd (bw b) (bh b) (sh b) (tk wl sh (pkey ps nb) (exb none (some b)) nb) (ps b) d) (dd + 1)))), (5, .int (gI (stp wd hd (bw b) (bh b) (ps b) dd))), (0, .ref o), (1, .int (nI b)), (2, .int (nI 4))]) hx hb dX8_told_155 hl (k := 2) rfl (nI_1 _) (by decide) rfl (fun ls hl => ?_)
              refine lv_goto (tgt := 104) hx hb dX8_told_158 (by decide) ?_
              exact ih104 (dd + 1) (by omega) (by omega) _ _ hP hD hS _ (lv_sub hl [1, 0, 3, 4, 5] rfl)
            · have _ : True := trivial
              have hm9 := hone.mp ((oI_one ho9).mp c142)
              refine lv_iconst (v := nI 1) hx hb dX8_told_145 (by decide) ?_
              refine lv_iload hx hb dX8_told_146 (lv_at hl 2 rfl) ?_
              refine n_ishl hx hb dX8_told_148 (by omega) ?_
              refine lv_goto (tgt := 153) hx hb dX8_told_149 (by decide) ?_
              refine n_ior hx hb dX8_told_153  ?_
              refine topi (y := nI (dset (fun d => mvt wd hd (bw b) (bh b) (sh b) (tk wl sh (pkey ps nb) (exb none (some b)) nb) (ps b) d) (dd + 1))) (by show nI (dset (fun d => mvt wd hd (bw b) (bh b) (sh b) (tk wl sh (pkey ps nb) (exb none (some b)) nb) (ps b) d) dd ||| 1 <<< dd) = nI (dset (fun d => mvt wd hd (bw b) (bh b) (sh b) (tk wl sh (pkey ps nb) (exb none (some b)) nb) (ps b) d) dd ||| (if (mvt wd hd (bw b) (bh b) (sh b) (tk wl sh (pkey ps nb) (exb none (some b)) nb) (ps b) dd).isSome then 1 <<< dd else 0)); rw [if_pos (by rw [hm9]; simp)]) ?_
              refine lv_istore_n (lv' := [(3, .int (nI (dset (fun d => mvt wd hd (bw b) (bh b) (sh b) (tk wl sh (pkey ps nb) (exb none (some b)) nb) (ps b) d) (dd + 1)))), (5, .int (gI (stp wd hd (bw b) (bh b) (ps b) dd))), (4, .int (nI dd)), (0, .ref o), (1, .int (nI b)), (2, .int (nI 4))]) hx hb dX8_told_154 rfl hl (by decide) rfl (fun ls hl => ?_)
              refine lv_iinc (v := nI (dd + 1)) (lv' := [(4, .int (nI (dd + 1))), (3, .int (nI (dset (fun d => mvt wd hd (bw b) (bh b) (sh b) (tk wl sh (pkey ps nb) (exb none (some b)) nb) (ps b) d) (dd + 1)))), (5, .int (gI (stp wd hd (bw b) (bh b) (ps b) dd))), (0, .ref o), (1, .int (nI b)), (2, .int (nI 4))]) hx hb dX8_told_155 hl (k := 2) rfl (nI_1 _) (by decide) rfl (fun ls hl => ?_)
              refine lv_goto (tgt := 104) hx hb dX8_told_158 (by decide) ?_
              exact ih104 (dd + 1) (by omega) (by omega) _ _ hP hD hS _ (lv_sub hl [1, 0, 3, 4, 5] rfl)
    exact L104 _ 0 (by omega) (Nat.lt_succ_self _) _ _ hP hD hS _ (lv_sub hl [1, 0, 2, 3, 4] rfl)
  · have _ : True := trivial
    refine lv_iload_n hx hb dX8_told_15 rfl (lv_at hl 2 rfl) ?_
    refine lv_tableIn (x := nI 5) (off := 147) (tgt := 163) hx hb dX8_told_16 (by decide) (by decide) rfl (by decide) ?_
    refine lv_iconst (v := nI 0) hx hb dX8_told_163 (by decide) ?_
    refine topi (y := nI (cntF F2_12 0)) rfl ?_
    refine lv_istore (lv' := [(4, .int (nI (cntF F2_12 0))), (0, .ref o), (1, .int (nI b)), (2, .int (nI 5))]) hx hb dX8_told_164 hl (by decide) rfl (fun ls hl => ?_)
    refine lv_iconst (v := nI 0) hx hb dX8_told_166 (by decide) ?_
    refine lv_istore (lv' := [(5, .int (nI 0)), (4, .int (nI (cntF F2_12 0))), (0, .ref o), (1, .int (nI b)), (2, .int (nI 5))]) hx hb dX8_told_167 hl (by decide) rfl (fun ls hl => ?_)
    have L169 : ∀ (n : Nat) (i : Nat), (i ≤ 24) → (24 - i) < n → ∀ (H : Heap) (locs : List Loc), va_P D vwCl (mW cI cJ cB o kv kp kx kl kh ki kf kq ka kt kd kn (nI mpm) (nI mty) (nI mwi) (nI mhi) (nI mwa) (nI mle) (gI none) (nI mam) (bI mtm) (nI mli) (vF wd hd nb wl st sl gl aq lb sh bw bh ps) mpa (fun zz => nI (mtx zz)) (fun zz => nI (mlt zz)) (fun zz => nI (mha zz)) (fun zz => nI (mfi zz)) (fun zz => oI (F2_12 zz)) (fun zz => nI (Q2_12 zz)) (fun zz => lN (mal zz)) (fun zz => nI (mta zz)) (fun zz => oI (mdi zz)) (fun zz => nI (mln zz))) H → va_D A (mW cI cJ cB o kv kp kx kl kh ki kf kq ka kt kd kn (nI mpm) (nI mty) (nI mwi) (nI mhi) (nI mwa) (nI mle) (gI none) (nI mam) (bI mtm) (nI mli) (vF wd hd nb wl st sl gl aq lb sh bw bh ps) mpa (fun zz => nI (mtx zz)) (fun zz => nI (mlt zz)) (fun zz => nI (mha zz)) (fun zz => nI (mfi zz)) (fun zz => oI (F2_12 zz)) (fun zz => nI (Q2_12 zz)) (fun zz => lN (mal zz)) (fun zz => nI (mta zz)) (fun zz => oI (mdi zz)) (fun zz => nI (mln zz))) → va_S A s.heap H locs → ∀ ls : Array Slot, lv_has ls 7 [(4, .int (nI (cntF F2_12 i))), (5, .int (nI i)), (0, .ref o), (1, .int (nI b)), (2, .int (nI 5))] → W p l e (rmN 3) s m args below meth c H locs 0 0 QQ (F0 m 169 ls []) := by
      intro n; induction n with
      | zero => intro i ii hm; exact absurd hm (Nat.not_lt_zero _)
      | succ n ih169 =>
        intro i ii hm169 H locs hP hD hS ls hl
        refine lv_iload hx hb dX8_told_169 (lv_at hl 1 rfl) ?_
        refine lv_bipush (v := nI 24) hx hb dX8_told_171 (by decide) ?_
        refine n_icmp_ge (a := i) (b := 24) (tgt := 202) hx hb dX8_told_173 (by decide) (by omega) (by omega) (fun c173 => ?_) (fun c173 => ?_)
        · have _ : True := trivial
          have e173 : i = 24 := by omega
          refine lv_iload hx hb dX8_told_202 (lv_at hl 0 rfl) ?_
          rw [hQ]
          exact W.iret (v := nI (cntF F2_12 i)) hx hb hr (fun t9 ht hW => ⟨⟨_, _, rfl, ⟨F2_12, Q2_12, (by rw [e173, hflo]; rfl), rfl⟩, by rw [ht]; exact hP, rfl⟩, hS.F ht⟩) hS.2.2 dX8_told_204
        · have _ : True := trivial
          refine lv_iload hx hb dX8_told_176 (lv_at hl 0 rfl) ?_
          refine lv_aload_n hx hb dX8_told_178 rfl (lv_at hl 2 rfl) ?_
          refine gf_X8_32 hC hK hP 0 rfl rfl dX8_told_179 ?_
          refine lv_iload hx hb dX8_told_182 (lv_at hl 1 rfl) ?_
          refine n_iald hx hb hK hP 7 0 rfl rfl (by omega) (by decide) dX8_told_184 ?_
          refine lv_if_le (tgt := 192) hx hb dX8_told_185 (by decide) (fun c185 => ?_) (fun c185 => ?_)
          · have _ : True := trivial
            have h185 : isMv true (F2_12 i) = false := isMv_le (fun d h => by have := (hfb i d h).2.2; omega) c185
            refine lv_iconst (v := nI 0) hx hb dX8_told_192 (by decide) ?_
            refine n_iadd hx hb dX8_told_193  ?_
            refine topi (y := nI (cntF F2_12 (i + 1))) (by show nI (cntF F2_12 i + 0) = nI (cntF F2_12 i + (if isMv true (F2_12 i) then 1 else 0)); rw [if_neg (by rw [h185]; simp)]) ?_
            refine lv_istore (lv' := [(4, .int (nI (cntF F2_12 (i + 1)))), (5, .int (nI i)), (0, .ref o), (1, .int (nI b)), (2, .int (nI 5))]) hx hb dX8_told_194 hl (by decide) rfl (fun ls hl => ?_)
            refine lv_iinc (v := nI (i + 1)) (lv' := [(5, .int (nI (i + 1))), (4, .int (nI (cntF F2_12 (i + 1)))), (0, .ref o), (1, .int (nI b)), (2, .int (nI 5))]) hx hb dX8_told_196 hl (k := 1) rfl (nI_1 _) (by decide) rfl (fun ls hl => ?_)
            refine lv_goto (tgt := 169) hx hb dX8_told_199 (by decide) ?_
            exact ih169 (i + 1) (by omega) (by omega) _ _ hP hD hS _ (lv_sub hl [1, 0, 2, 3, 4] rfl)
          · have _ : True := trivial
            have h185 : isMv true (F2_12 i) = true := isMv_gt c185
            refine lv_iconst (v := nI 1) hx hb dX8_told_188 (by decide) ?_
            refine lv_goto (tgt := 193) hx hb dX8_told_189 (by decide) ?_
            refine n_iadd hx hb dX8_told_193  ?_
            refine topi (y := nI (cntF F2_12 (i + 1))) (by show nI (cntF F2_12 i + 1) = nI (cntF F2_12 i + (if isMv true (F2_12 i) then 1 else 0)); rw [if_pos h185]) ?_
            refine lv_istore (lv' := [(4, .int (nI (cntF F2_12 (i + 1)))), (5, .int (nI i)), (0, .ref o), (1, .int (nI b)), (2, .int (nI 5))]) hx hb dX8_told_194 hl (by decide) rfl (fun ls hl => ?_)
            refine lv_iinc (v := nI (i + 1)) (lv' := [(5, .int (nI (i + 1))), (4, .int (nI (cntF F2_12 (i + 1)))), (0, .ref o), (1, .int (nI b)), (2, .int (nI 5))]) hx hb dX8_told_196 hl (k := 1) rfl (nI_1 _) (by decide) rfl (fun ls hl => ?_)
            refine lv_goto (tgt := 169) hx hb dX8_told_199 (by decide) ?_
            exact ih169 (i + 1) (by omega) (by omega) _ _ hP hD hS _ (lv_sub hl [1, 0, 2, 3, 4] rfl)
    exact L169 _ 0 (by omega) (Nat.lt_succ_self _) _ _ hP hD hS _ (lv_sub hl [1, 0, 2, 3, 4] rfl)
  · have _ : True := trivial
    refine lv_iload_n hx hb dX8_told_15 rfl (lv_at hl 2 rfl) ?_
    refine lv_tableOut (x := nI 6) (tgt := 205) hx hb dX8_told_16 (Or.inr (by decide)) (by decide) ?_
    refine lv_iload_n hx hb dX8_told_205 rfl (lv_at hl 1 rfl) ?_
    refine lv_istore (lv' := [(5, .int (nI b)), (0, .ref o), (1, .int (nI b)), (2, .int (nI 6))]) hx hb dX8_told_206 hl (by decide) rfl (fun ls hl => ?_)
    refine lv_iload_n hx hb dX8_told_208 rfl (lv_at hl 2 rfl) ?_
    refine lv_iconst (v := nI 1) hx hb dX8_told_209 (by decide) ?_
    refine lv_isub hx hb dX8_told_210 ?_
    refine lv_istore (lv' := [(6, .int ((nI b) - (nI 1))), (5, .int (nI b)), (0, .ref o), (1, .int (nI b)), (2, .int (nI 6))]) hx hb dX8_told_211 hl (by decide) rfl (fun ls hl => ?_)
    have L213 : ∀ (n : Nat) (q : Nat) (f9 : Nat), (q ≤ f9) → (f9 ≤ b) → (sh f9 = sh b) → (∀ j, q ≤ j → j < f9 → sh j ≠ sh b) → q < n → ∀ (H : Heap) (locs : List Loc), va_P D vwCl (mW cI cJ cB o kv kp kx kl kh ki kf kq ka kt kd kn (nI mpm) (nI mty) (nI mwi) (nI mhi) (nI mwa) (nI mle) (gI none) (nI mam) (bI mtm) (nI mli) (vF wd hd nb wl st sl gl aq lb sh bw bh ps) mpa (fun zz => nI (mtx zz)) (fun zz => nI (mlt zz)) (fun zz => nI (mha zz)) (fun zz => nI (mfi zz)) (fun zz => oI (F2_12 zz)) (fun zz => nI (Q2_12 zz)) (fun zz => lN (mal zz)) (fun zz => nI (mta zz)) (fun zz => oI (mdi zz)) (fun zz => nI (mln zz))) H → va_D A (mW cI cJ cB o kv kp kx kl kh ki kf kq ka kt kd kn (nI mpm) (nI mty) (nI mwi) (nI mhi) (nI mwa) (nI mle) (gI none) (nI mam) (bI mtm) (nI mli) (vF wd hd nb wl st sl gl aq lb sh bw bh ps) mpa (fun zz => nI (mtx zz)) (fun zz => nI (mlt zz)) (fun zz => nI (mha zz)) (fun zz => nI (mfi zz)) (fun zz => oI (F2_12 zz)) (fun zz => nI (Q2_12 zz)) (fun zz => lN (mal zz)) (fun zz => nI (mta zz)) (fun zz => oI (mdi zz)) (fun zz => nI (mln zz))) → va_S A s.heap H locs → ∀ ls : Array Slot, lv_has ls 7 [(5, .int (nI f9)), (6, .int (nI q - nI 1)), (0, .ref o), (1, .int (nI b)), (2, .int (nI 6))] → W p l e (rmN 3) s m args below meth c H locs 0 0 QQ (F0 m 213 ls []) := by
      intro n; induction n with
      | zero => intro q f9 iq i1 i2 i3 hm; exact absurd hm (Nat.not_lt_zero _)
      | succ n ih213 =>
        intro q f9 iq i1 i2 i3 hm213 H locs hP hD hS ls hl
        refine lv_iload hx hb dX8_told_213 (lv_at hl 1 rfl) ?_
        refine lv_if_lt (tgt := 299) hx hb dX8_told_215 (by decide) (fun c215 => ?_) (fun c215 => ?_)
        · have _ : True := trivial
          have e215 : q = 0 := q0_lt (by omega) c215
          refine lv_iload hx hb dX8_told_299 (lv_at hl 0 rfl) ?_
          rw [hQ]
          exact W.iret (v := nI f9) hx hb hr (fun t9 ht hW => ⟨⟨_, _, rfl, ⟨F2_12, Q2_12, (by rw [f_alike_eq (c := f9) ⟨i1, i2, fun j h => i3 j (by omega) h⟩]; rfl), rfl⟩, by rw [ht]; exact hP, rfl⟩, hS.F ht⟩) hS.2.2 dX8_told_301
        · have _ : True := trivial
          have e215 : 1 ≤ q := q0_ge c215
          refine lv_aload_n hx hb dX8_told_218 rfl (lv_at hl 2 rfl) ?_
          refine gf_X8_7 hC hK hP 0 rfl rfl dX8_told_219 ?_
          refine lv_bipush (v := nI 10) hx hb dX8_told_222 (by decide) ?_
          refine lv_iload hx hb dX8_told_224 (lv_at hl 1 rfl) ?_
          refine topi (y := nI (q - 1)) (pk_sub (by omega)) ?_
          refine n_iadd hx hb dX8_told_226  ?_
          refine n_iald hx hb hK hP 1 0 rfl rfl (by omega) (by decide) dX8_told_227 ?_
          refine topi (y := nI (sh (q - 1))) (vF_sh (by omega)) ?_
          refine lv_aload_n hx hb dX8_told_228 rfl (lv_at hl 2 rfl) ?_
          refine gf_X8_7 hC hK hP 0 rfl rfl dX8_told_229 ?_
          refine lv_bipush (v := nI 10) hx hb dX8_told_232 (by decide) ?_
          refine lv_iload_n hx hb dX8_told_234 rfl (lv_at hl 3 rfl) ?_
          refine n_iadd hx hb dX8_told_235  ?_
          refine n_iald hx hb hK hP 1 0 rfl rfl (by omega) (by decide) dX8_told_236 ?_
          refine topi (y := nI (sh b)) (vF_sh (by omega)) ?_
          refine n_icmp_ne (a := sh (q - 1)) (b := sh b) (tgt := 289) hx hb dX8_told_237 (by decide) (by have := ShV_lt hf.1 h24 (hf.2.2.2.2.2.2.2 (q - 1) (by omega)); omega) (by have := ShV_lt hf.1 h24 hsb; omega) (fun c237 => ?_) (fun c237 => ?_)
          · have _ : True := trivial
            refine lv_iload hx hb dX8_told_289 (lv_at hl 0 rfl) ?_
            refine lv_istore (lv' := [(5, .int (nI f9)), (6, .int (nI q - nI 1)), (0, .ref o), (1, .int (nI b)), (2, .int (nI 6))]) hx hb dX8_told_291 hl (by decide) rfl (fun ls hl => ?_)
            refine lv_iinc (v := nI (q - 1) - nI 1) (lv' := [(6, .int (nI (q - 1) - nI 1)), (5, .int (nI f9)), (0, .ref o), (1, .int (nI b)), (2, .int (nI 6))]) hx hb dX8_told_293 hl (k := 1) rfl (dec1 e215) (by decide) rfl (fun ls hl => ?_)
            refine lv_goto (tgt := 213) hx hb dX8_told_296 (by decide) ?_
            exact ih213 (q - 1) f9 (by omega) (by omega) i2 (fun j h1 h2 => if h3 : j = q - 1 then (by rw [h3]; exact c237) else i3 j (by omega) h2) (by omega) _ _ hP hD hS _ (lv_sub hl [1, 0, 2, 3, 4] rfl)
          · have _ : True := trivial
            refine lv_aload_n hx hb dX8_told_240 rfl (lv_at hl 2 rfl) ?_
            refine gf_X8_7 hC hK hP 0 rfl rfl dX8_told_241 ?_
            refine lv_bipush (v := nI 17) hx hb dX8_told_244 (by decide) ?_
            refine lv_iload hx hb dX8_told_246 (lv_at hl 1 rfl) ?_
            refine topi (y := nI (q - 1)) (pk_sub (by omega)) ?_
            refine n_iadd hx hb dX8_told_248  ?_
            refine n_iald hx hb hK hP 1 0 rfl rfl (by omega) (by decide) dX8_told_249 ?_
            refine topi (y := nI (bw (q - 1))) (vF_bw (by omega)) ?_
            refine lv_aload_n hx hb dX8_told_250 rfl (lv_at hl 2 rfl) ?_
            refine gf_X8_7 hC hK hP 0 rfl rfl dX8_told_251 ?_
            refine lv_bipush (v := nI 17) hx hb dX8_told_254 (by decide) ?_
            refine lv_iload_n hx hb dX8_told_256 rfl (lv_at hl 3 rfl) ?_
            refine n_iadd hx hb dX8_told_257  ?_
            refine n_iald hx hb hK hP 1 0 rfl rfl (by omega) (by decide) dX8_told_258 ?_
            refine topi (y := nI (bw b)) (vF_bw (by omega)) ?_
            refine n_icmp_ne (a := bw (q - 1)) (b := bw b) (tgt := 289) hx hb dX8_told_259 (by decide) (by have := (hf.2.2.2.2.2.2.2 (q - 1) (by omega)).2.1; have := hf.2.1; omega) (by have := hsb.2.1; have := hf.2.1; omega) (fun c259 => ?_) (fun c259 => ?_)
            · have _ : True := trivial
              exact absurd (ShV_wh (by have h9 := hf.2.2.2.2.2.2.2 (q - 1) (by omega); rw [c237] at h9; exact h9) hsb).1 c259
            · have _ : True := trivial
              refine lv_aload_n hx hb dX8_told_262 rfl (lv_at hl 2 rfl) ?_
              refine gf_X8_7 hC hK hP 0 rfl rfl dX8_told_263 ?_
              refine lv_bipush (v := nI 24) hx hb dX8_told_266 (by decide) ?_
              refine lv_iload hx hb dX8_told_268 (lv_at hl 1 rfl) ?_
              refine topi (y := nI (q - 1)) (pk_sub (by omega)) ?_
              refine n_iadd hx hb dX8_told_270  ?_
              refine n_iald hx hb hK hP 1 0 rfl rfl (by omega) (by decide) dX8_told_271 ?_
              refine topi (y := nI (bh (q - 1))) (vF_bh (by omega)) ?_
              refine lv_aload_n hx hb dX8_told_272 rfl (lv_at hl 2 rfl) ?_
              refine gf_X8_7 hC hK hP 0 rfl rfl dX8_told_273 ?_
              refine lv_bipush (v := nI 24) hx hb dX8_told_276 (by decide) ?_
              refine lv_iload_n hx hb dX8_told_278 rfl (lv_at hl 3 rfl) ?_
              refine n_iadd hx hb dX8_told_279  ?_
              refine n_iald hx hb hK hP 1 0 rfl rfl (by omega) (by decide) dX8_told_280 ?_
              refine topi (y := nI (bh b)) (vF_bh (by omega)) ?_
              refine n_icmp_ne (a := bh (q - 1)) (b := bh b) (tgt := 289) hx hb dX8_told_281 (by decide) (by have := (hf.2.2.2.2.2.2.2 (q - 1) (by omega)).2.2.2.1; have := hf.2.2.2.1; omega) (by have := hsb.2.2.2.1; have := hf.2.2.2.1; omega) (fun c281 => ?_) (fun c281 => ?_)
              · have _ : True := trivial
                exact absurd (ShV_wh (by have h9 := hf.2.2.2.2.2.2.2 (q - 1) (by omega); rw [c237] at h9; exact h9) hsb).2 c281
              · have _ : True := trivial
                refine lv_iload hx hb dX8_told_284 (lv_at hl 1 rfl) ?_
                refine topi (y := nI (q - 1)) (pk_sub (by omega)) ?_
                refine lv_goto (tgt := 291) hx hb dX8_told_286 (by decide) ?_
                refine lv_istore (lv' := [(5, .int (nI (q - 1))), (6, .int (nI q - nI 1)), (0, .ref o), (1, .int (nI b)), (2, .int (nI 6))]) hx hb dX8_told_291 hl (by decide) rfl (fun ls hl => ?_)
                refine lv_iinc (v := nI (q - 1) - nI 1) (lv' := [(6, .int (nI (q - 1) - nI 1)), (5, .int (nI (q - 1))), (0, .ref o), (1, .int (nI b)), (2, .int (nI 6))]) hx hb dX8_told_293 hl (k := 1) rfl (dec1 e215) (by decide) rfl (fun ls hl => ?_)
                refine lv_goto (tgt := 213) hx hb dX8_told_296 (by decide) ?_
                exact ih213 (q - 1) (q - 1) (by omega) (by omega) c237 (fun j h1 h2 => by omega) (by omega) _ _ hP hD hS _ (lv_sub hl [1, 0, 2, 3, 4] rfl)
    exact L213 _ b b (by omega) (by omega) rfl (fun j h1 h2 => by omega) (Nat.lt_succ_self _) _ _ hP hD hS _ (lv_sub hl [1, 0, 2, 3, 4] rfl)

set_option maxHeartbeats 400000 in
set_option maxRecDepth 100000 in
theorem c_X8_block (l : Launch) (D : va_G) (cI cJ cB : ClassId) (o kv kp kx kl kh ki kf kq ka kt kd kn mpm mty mwi mhi mwa mle mam mli : Nat) (mgo : Option Nat) (mtm : Bool) (mpa : Nat → Int32) (mtx mlt mha mfi mqu mta mln mal : Nat → Nat) (mfa mdi : Nat → Option Nat) (wd hd nb wl : Nat) (st sl : Int32) (gl aq lb : Option Nat) (sh bw bh ps : Nat → Nat) (x y : Int32) (htv : TV wd hd nb wl sh bw bh ps gl aq lb) : Met l yX8_block (Cond.code yX8_block cX8_block 3 (some .int) :: lw_all) (rmN 4) (va_Pc [.ref o, .int x, .int y] (pB D (tyz cI cJ cB) (mW cI cJ cB o kv kp kx kl kh ki kf kq ka kt kd kn (nI mpm) (nI mty) (nI mwi) (nI mhi) (nI mwa) (nI mle) (gI mgo) (nI mam) (bI mtm) (nI mli) (vF wd hd nb wl st sl gl aq lb sh bw bh ps) mpa (fun zz => nI (mtx zz)) (fun zz => nI (mlt zz)) (fun zz => nI (mha zz)) (fun zz => nI (mfi zz)) (fun zz => oI (mfa zz)) (fun zz => nI (mqu zz)) (fun zz => lN (mal zz)) (fun zz => nI (mta zz)) (fun zz => oI (mdi zz)) (fun zz => nI (mln zz))))) (va_Qi (fun (r : Int32) (w : va_W) => ∃ go2 : Option Nat, ∃ fa2 : Nat → Option Nat, ∃ qa2 : Nat → Nat, r = f_blkx wd hd nb wl sh bw bh ps x y ∧ w = mW cI cJ cB o kv kp kx kl kh ki kf kq ka kt kd kn (nI mpm) (nI mty) (nI mwi) (nI mhi) (nI mwa) (nI mle) (gI go2) (nI mam) (bI mtm) (nI mli) (vF wd hd nb wl st sl gl aq lb sh bw bh ps) mpa (fun zz => nI (mtx zz)) (fun zz => nI (mlt zz)) (fun zz => nI (mha zz)) (fun zz => nI (mfi zz)) (fun zz => oI (fa2 zz)) (fun zz => nI (qa2 zz)) (fun zz => lN (mal zz)) (fun zz => nI (mta zz)) (fun zz => oI (mdi zz)) (fun zz => nI (mln zz))) (gB D (mW cI cJ cB o kv kp kx kl kh ki kf kq ka kt kd kn (nI mpm) (nI mty) (nI mwi) (nI mhi) (nI mwa) (nI mle) (gI mgo) (nI mam) (bI mtm) (nI mli) (vF wd hd nb wl st sl gl aq lb sh bw bh ps) mpa (fun zz => nI (mtx zz)) (fun zz => nI (mlt zz)) (fun zz => nI (mha zz)) (fun zz => nI (mfi zz)) (fun zz => oI (mfa zz)) (fun zz => nI (mqu zz)) (fun zz => lN (mal zz)) (fun zz => nI (mta zz)) (fun zz => oI (mdi zz)) (fun zz => nI (mln zz)))) (aW (mW cI cJ cB o kv kp kx kl kh ki kf kq ka kt kd kn (nI mpm) (nI mty) (nI mwi) (nI mhi) (nI mwa) (nI mle) (gI mgo) (nI mam) (bI mtm) (nI mli) (vF wd hd nb wl st sl gl aq lb sh bw bh ps) mpa (fun zz => nI (mtx zz)) (fun zz => nI (mlt zz)) (fun zz => nI (mha zz)) (fun zz => nI (mfi zz)) (fun zz => oI (mfa zz)) (fun zz => nI (mqu zz)) (fun zz => lN (mal zz)) (fun zz => nI (mta zz)) (fun zz => oI (mdi zz)) (fun zz => nI (mln zz))))) 0 0 (aW (mW cI cJ cB o kv kp kx kl kh ki kf kq ka kt kd kn (nI mpm) (nI mty) (nI mwi) (nI mhi) (nI mwa) (nI mle) (gI mgo) (nI mam) (bI mtm) (nI mli) (vF wd hd nb wl st sl gl aq lb sh bw bh ps) mpa (fun zz => nI (mtx zz)) (fun zz => nI (mlt zz)) (fun zz => nI (mha zz)) (fun zz => nI (mfi zz)) (fun zz => oI (mfa zz)) (fun zz => nI (mqu zz)) (fun zz => lN (mal zz)) (fun zz => nI (mta zz)) (fun zz => oI (mdi zz)) (fun zz => nI (mln zz)))) := by
  refine Met.ofW (cc := cX8_block) (maxL := 3) (ret := (some .int)) (by decide) rfl ?_
  intro p e s m args below meth c s₁ B hml hv
  obtain ⟨rfl, hK, hN, hP, hD0⟩ := hv
  have hx := B.exec; have hb := B.bytes; have hr := B.returns; have hlocks := B.notSynchronized
  have hts0 := atoms_spec (ws := Cond.code yX8_block cX8_block 3 (some .int) :: lw_all) B.pre
  have hC : CallFix p m c cX8_block 3 s _ lw_all RX8 := ⟨hx, hb, hml, findClass_of_methodNamed B.named, fun w h => hts0 w (List.mem_cons_of_mem _ h)⟩
  have hD : va_D (aW (mW cI cJ cB o kv kp kx kl kh ki kf kq ka kt kd kn (nI mpm) (nI mty) (nI mwi) (nI mhi) (nI mwa) (nI mle) (gI mgo) (nI mam) (bI mtm) (nI mli) (vF wd hd nb wl st sl gl aq lb sh bw bh ps) mpa (fun zz => nI (mtx zz)) (fun zz => nI (mlt zz)) (fun zz => nI (mha zz)) (fun zz => nI (mfi zz)) (fun zz => oI (mfa zz)) (fun zz => nI (mqu zz)) (fun zz => lN (mal zz)) (fun zz => nI (mta zz)) (fun zz => oI (mdi zz)) (fun zz => nI (mln zz)))) (mW cI cJ cB o kv kp kx kl kh ki kf kq ka kt kd kn (nI mpm) (nI mty) (nI mwi) (nI mhi) (nI mwa) (nI mle) (gI mgo) (nI mam) (bI mtm) (nI mli) (vF wd hd nb wl st sl gl aq lb sh bw bh ps) mpa (fun zz => nI (mtx zz)) (fun zz => nI (mlt zz)) (fun zz => nI (mha zz)) (fun zz => nI (mfi zz)) (fun zz => oI (mfa zz)) (fun zz => nI (mqu zz)) (fun zz => lN (mal zz)) (fun zz => nI (mta zz)) (fun zz => oI (mdi zz)) (fun zz => nI (mln zz))) := ⟨hD0.1, fun k q h => ⟨k, q.2, h⟩⟩
  generalize hAe : aW (mW cI cJ cB o kv kp kx kl kh ki kf kq ka kt kd kn (nI mpm) (nI mty) (nI mwi) (nI mhi) (nI mwa) (nI mle) (gI mgo) (nI mam) (bI mtm) (nI mli) (vF wd hd nb wl st sl gl aq lb sh bw bh ps) mpa (fun zz => nI (mtx zz)) (fun zz => nI (mlt zz)) (fun zz => nI (mha zz)) (fun zz => nI (mfi zz)) (fun zz => oI (mfa zz)) (fun zz => nI (mqu zz)) (fun zz => lN (mal zz)) (fun zz => nI (mta zz)) (fun zz => oI (mdi zz)) (fun zz => nI (mln zz))) = A at hD ⊢
  have hS : va_S A s.heap s.heap [] := va_S.rf
  have hl := lv_entry ([.ref o, .int x, .int y]) (n := 3) (Nat.le_of_ble_eq_true rfl)
  rw [lg_entry_eq]
  generalize (lg_sl ([.ref o, .int x, .int y]) ++ List.replicate (3 - (lg_sl ([.ref o, .int x, .int y])).length) Slot.unset).toArray = ls at hl ⊢
  have hl : lv_has ls 3 [(0, .ref o), (1, .int x), (2, .int y)] := hl
  generalize hav : ([.ref o, .int x, .int y] : List Value).toArray = args at hC ⊢
  refine W_gen (fun QQ hQ => ?_)
  show W p l e (rmN 4) s m args below meth c s.heap [] 0 0 QQ (F0 m 0 ls [])
  obtain ⟨hf, hps, hk1, hga, hlb⟩ := id htv
  have hn7 := hf.2.2.2.2.2.1
  have h24 := hf.2.2.2.2.1
  refine lv_aload_n hx hb dX8_block_0 rfl (lv_at hl 0 rfl) ?_
  refine lv_iload_n hx hb dX8_block_1 rfl (lv_at hl 1 rfl) ?_
  refine callV_i (As := [.int x]) (rest := []) [0, 1, 2, 3, 4, 5, 6, 7, 8, 9, 10, 11, 12] hC hK hN hP hD rfl (by decide) hS 0 (ci := 8) rfl rfl rfl (c_X8_isBlock l D cI cJ cB o kv kp kx kl kh ki kf kq ka kt kd kn mpm mty mwi mhi mwa mle mam mli mgo mtm mpa mtx mlt mha mfi mqu mta mln mal mfa mdi wd hd nb wl st sl gl aq lb sh bw bh ps x ) q835 md_X8_isBlock rfl hl.1 rfl (Nat.le_of_ble_eq_true rfl) dX8_block_2 ⟨Nat.le_of_ble_eq_true rfl, Nat.le_of_ble_eq_true rfl⟩ ⟨Nat.le_of_ble_eq_true rfl, Nat.le_of_ble_eq_true rfl⟩ (fun r_2 w H locs hpost hP hD hS => ?_)
  obtain ⟨rfl, rfl⟩ := hpost
  have hP : va_P D vwCl (mW cI cJ cB o kv kp kx kl kh ki kf kq ka kt kd kn (nI mpm) (nI mty) (nI mwi) (nI mhi) (nI mwa) (nI mle) (gI mgo) (nI mam) (bI mtm) (nI mli) (vF wd hd nb wl st sl gl aq lb sh bw bh ps) mpa (fun zz => nI (mtx zz)) (fun zz => nI (mlt zz)) (fun zz => nI (mha zz)) (fun zz => nI (mfi zz)) (fun zz => oI (mfa zz)) (fun zz => nI (mqu zz)) (fun zz => lN (mal zz)) (fun zz => nI (mta zz)) (fun zz => oI (mdi zz)) (fun zz => nI (mln zz))) H := hP
  have hD : va_D A (mW cI cJ cB o kv kp kx kl kh ki kf kq ka kt kd kn (nI mpm) (nI mty) (nI mwi) (nI mhi) (nI mwa) (nI mle) (gI mgo) (nI mam) (bI mtm) (nI mli) (vF wd hd nb wl st sl gl aq lb sh bw bh ps) mpa (fun zz => nI (mtx zz)) (fun zz => nI (mlt zz)) (fun zz => nI (mha zz)) (fun zz => nI (mfi zz)) (fun zz => oI (mfa zz)) (fun zz => nI (mqu zz)) (fun zz => lN (mal zz)) (fun zz => nI (mta zz)) (fun zz => oI (mdi zz)) (fun zz => nI (mln zz))) := hD
  refine b_if_eq (tgt := 27) hx hb dX8_block_5 (by decide) (fun c5 => ?_) (fun c5 => ?_)
  · have _ : True := trivial
    refine lv_iconst (v := (-1)) hx hb dX8_block_27 (by decide) ?_
    rw [hQ]
    exact W.iret (v := (-1)) hx hb hr (fun t9 ht hW => ⟨⟨_, _, rfl, ⟨mgo, mfa, mqu, (by unfold f_blkx; rw [bOf_none (by omega) c5]), rfl⟩, by rw [ht]; exact hP, rfl⟩, hS.F ht⟩) hS.2.2 dX8_block_28
  · have _ : True := trivial
    obtain ⟨b, hbn, hxb, hbo⟩ := bOf_some (by omega) c5
    subst hxb
    refine lv_iload_n hx hb dX8_block_8 rfl (lv_at hl 2 rfl) ?_
    refine lv_iconst (v := nI 0) hx hb dX8_block_9 (by decide) ?_
    refine lv_bipush (v := nI 6) hx hb dX8_block_10 (by decide) ?_
    refine callS_i (As := [.int y, .int (nI 0), .int (nI 6)]) (rest := []) [] hC hK hN hP hD rfl (by decide) hS (c_X8_in l D cI cJ cB y (nI 0) (nI 6) ) q750 md_X8_in rfl hl.1 rfl (Nat.le_of_ble_eq_true rfl) dX8_block_12 ⟨Nat.le_of_ble_eq_true rfl, Nat.le_of_ble_eq_true rfl⟩ ⟨Nat.le_of_ble_eq_true rfl, Nat.le_of_ble_eq_true rfl⟩ (fun r_12 w H locs hpost hP hD hS => ?_)
    obtain ⟨rfl, rfl⟩ := hpost
    have hP : va_P D vwCl (mW cI cJ cB o kv kp kx kl kh ki kf kq ka kt kd kn (nI mpm) (nI mty) (nI mwi) (nI mhi) (nI mwa) (nI mle) (gI mgo) (nI mam) (bI mtm) (nI mli) (vF wd hd nb wl st sl gl aq lb sh bw bh ps) mpa (fun zz => nI (mtx zz)) (fun zz => nI (mlt zz)) (fun zz => nI (mha zz)) (fun zz => nI (mfi zz)) (fun zz => oI (mfa zz)) (fun zz => nI (mqu zz)) (fun zz => lN (mal zz)) (fun zz => nI (mta zz)) (fun zz => oI (mdi zz)) (fun zz => nI (mln zz))) H := hP
    have hD : va_D A (mW cI cJ cB o kv kp kx kl kh ki kf kq ka kt kd kn (nI mpm) (nI mty) (nI mwi) (nI mhi) (nI mwa) (nI mle) (gI mgo) (nI mam) (bI mtm) (nI mli) (vF wd hd nb wl st sl gl aq lb sh bw bh ps) mpa (fun zz => nI (mtx zz)) (fun zz => nI (mlt zz)) (fun zz => nI (mha zz)) (fun zz => nI (mfi zz)) (fun zz => oI (mfa zz)) (fun zz => nI (mqu zz)) (fun zz => lN (mal zz)) (fun zz => nI (mta zz)) (fun zz => oI (mdi zz)) (fun zz => nI (mln zz))) := hD
    refine b_if_eq (tgt := 27) hx hb dX8_block_15 (by decide) (fun c15 => ?_) (fun c15 => ?_)
    · have _ : True := trivial
      refine lv_iconst (v := (-1)) hx hb dX8_block_27 (by decide) ?_
      rw [hQ]
      exact W.iret (v := (-1)) hx hb hr (fun t9 ht hW => ⟨⟨_, _, rfl, ⟨mgo, mfa, mqu, (by unfold f_blkx; rw [hbo, bOf_noneK (by decide) c15]), rfl⟩, by rw [ht]; exact hP, rfl⟩, hS.F ht⟩) hS.2.2 dX8_block_28
    · have _ : True := trivial
      obtain ⟨k, hk9, hyk, hko⟩ := bOf_someK (by decide) c15
      subst hyk
      refine lv_aload_n hx hb dX8_block_18 rfl (lv_at hl 0 rfl) ?_
      refine lv_iload_n hx hb dX8_block_19 rfl (lv_at hl 1 rfl) ?_
      refine lv_iload_n hx hb dX8_block_20 rfl (lv_at hl 2 rfl) ?_
      refine callV_i (As := [.int (nI b), .int (nI k)]) (rest := []) [0, 1, 2, 3, 4, 5, 6, 7, 8, 9, 10, 11, 12] hC hK hN hP hD rfl (by decide) hS 0 (ci := 8) rfl rfl rfl (c_X8_told l D cI cJ cB o kv kp kx kl kh ki kf kq ka kt kd kn mpm mty mwi mhi mwa mle mam mli mgo mtm mpa mtx mlt mha mfi mqu mta mln mal mfa mdi wd hd nb wl st sl gl aq lb sh bw bh ps b k htv (by omega) (by omega)) q839 md_X8_told rfl hl.1 rfl (Nat.le_of_ble_eq_true rfl) dX8_block_21 ⟨Nat.le_of_ble_eq_true rfl, Nat.le_of_ble_eq_true rfl⟩ ⟨Nat.le_of_ble_eq_true rfl, Nat.le_of_ble_eq_true rfl⟩ (fun r_21 w H locs hpost hP hD hS => ?_)
      obtain ⟨fa2_21, qa2_21, rfl, rfl⟩ := hpost
      have hP : va_P D vwCl (mW cI cJ cB o kv kp kx kl kh ki kf kq ka kt kd kn (nI mpm) (nI mty) (nI mwi) (nI mhi) (nI mwa) (nI mle) (gI none) (nI mam) (bI mtm) (nI mli) (vF wd hd nb wl st sl gl aq lb sh bw bh ps) mpa (fun zz => nI (mtx zz)) (fun zz => nI (mlt zz)) (fun zz => nI (mha zz)) (fun zz => nI (mfi zz)) (fun zz => oI (fa2_21 zz)) (fun zz => nI (qa2_21 zz)) (fun zz => lN (mal zz)) (fun zz => nI (mta zz)) (fun zz => oI (mdi zz)) (fun zz => nI (mln zz))) H := hP
      have hD : va_D A (mW cI cJ cB o kv kp kx kl kh ki kf kq ka kt kd kn (nI mpm) (nI mty) (nI mwi) (nI mhi) (nI mwa) (nI mle) (gI none) (nI mam) (bI mtm) (nI mli) (vF wd hd nb wl st sl gl aq lb sh bw bh ps) mpa (fun zz => nI (mtx zz)) (fun zz => nI (mlt zz)) (fun zz => nI (mha zz)) (fun zz => nI (mfi zz)) (fun zz => oI (fa2_21 zz)) (fun zz => nI (qa2_21 zz)) (fun zz => lN (mal zz)) (fun zz => nI (mta zz)) (fun zz => oI (mdi zz)) (fun zz => nI (mln zz))) := hD
      refine lv_goto (tgt := 28) hx hb dX8_block_24 (by decide) ?_
      rw [hQ]
      exact W.iret (v := f_blk wd hd nb wl sh bw bh ps b k) hx hb hr (fun t9 ht hW => ⟨⟨_, _, rfl, ⟨none, fa2_21, qa2_21, (by unfold f_blkx; rw [hbo, hko]), rfl⟩, by rw [ht]; exact hP, rfl⟩, hS.F ht⟩) hS.2.2 dX8_block_28
