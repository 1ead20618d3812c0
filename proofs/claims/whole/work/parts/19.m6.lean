set_option maxHeartbeats 400000 in
set_option maxRecDepth 100000 in
theorem c_X8_opens (l : Launch) (D : va_G) (cI cJ cB : ClassId) (o kv kp kx kl kh ki kf kq ka kt kd kn mpm mty mwi mhi mwa mle mam mli : Nat) (mgo : Option Nat) (mtm : Bool) (mpa : Nat → Int32) (mtx mlt mha mfi mqu mta mln mal : Nat → Nat) (mfa mdi : Nat → Option Nat) (wd hd nb wl : Nat) (st sl : Int32) (gl aq lb : Option Nat) (sh bw bh ps : Nat → Nat) (z : Bool) (wo : Option Nat) (htv : TV wd hd nb wl sh bw bh ps gl aq lb) (hwo : ∀ d, wo = some d → d < nb) (hwg : ∀ d, gl = some d → wo ≠ some d) (hk0 : KV wd hd nb wl sh bw bh wo (k0e ps nb wo)) : Met l yX8_opens (Cond.code yX8_opens cX8_opens 3 (some .int) :: lw_all) (rmN 4) (va_Pc [.ref o, .int (bI z), .int (gI wo)] (pB D (tyz cI cJ cB) (mW cI cJ cB o kv kp kx kl kh ki kf kq ka kt kd kn (nI mpm) (nI mty) (nI mwi) (nI mhi) (nI mwa) (nI mle) (gI mgo) (nI mam) (bI mtm) (nI mli) (vF wd hd nb wl st sl gl aq lb sh bw bh ps) mpa (fun zz => nI (mtx zz)) (fun zz => nI (mlt zz)) (fun zz => nI (mha zz)) (fun zz => nI (mfi zz)) (fun zz => oI (mfa zz)) (fun zz => nI (mqu zz)) (fun zz => lN (mal zz)) (fun zz => nI (mta zz)) (fun zz => oI (mdi zz)) (fun zz => nI (mln zz))))) (va_Qi (fun (r : Int32) (w : va_W) => ∃ go2 : Option Nat, ∃ K2 : Nat → Nat, ∃ n2 : Nat, ∃ T2 : Nat → Nat, ∃ tm2 : Bool, ∃ F2 : Nat → Option Nat, ∃ L2 : Nat → Nat, ∃ l2 : Nat, ∃ fa2 : Nat → Option Nat, ∃ qa2 : Nat → Nat, w = mW cI cJ cB o kv kp kx kl kh ki kf kq ka kt kd kn (nI mpm) (nI mty) (nI mwi) (nI mhi) (nI mwa) (nI mle) (gI go2) (nI n2) (bI tm2) (nI l2) (vF wd hd nb wl st sl gl aq lb sh bw bh ps) mpa (fun zz => nI (mtx zz)) (fun zz => nI (mlt zz)) (fun zz => nI (mha zz)) (fun zz => nI (mfi zz)) (fun zz => oI (fa2 zz)) (fun zz => nI (qa2 zz)) (fun zz => lN (K2 zz)) (fun zz => nI (T2 zz)) (fun zz => oI (F2 zz)) (fun zz => nI (L2 zz)) ∧ OPN (kst wd hd nb wl sh bw bh wo) (mvk wd hd nb wl sh bw bh wo z) (KV wd hd nb wl sh bw bh wo) gl aq (k0e ps nb wo) r K2 n2 T2 F2 ∧ (gl ≠ none → go2 = wo)) (gB D (mW cI cJ cB o kv kp kx kl kh ki kf kq ka kt kd kn (nI mpm) (nI mty) (nI mwi) (nI mhi) (nI mwa) (nI mle) (gI mgo) (nI mam) (bI mtm) (nI mli) (vF wd hd nb wl st sl gl aq lb sh bw bh ps) mpa (fun zz => nI (mtx zz)) (fun zz => nI (mlt zz)) (fun zz => nI (mha zz)) (fun zz => nI (mfi zz)) (fun zz => oI (mfa zz)) (fun zz => nI (mqu zz)) (fun zz => lN (mal zz)) (fun zz => nI (mta zz)) (fun zz => oI (mdi zz)) (fun zz => nI (mln zz)))) (aW (mW cI cJ cB o kv kp kx kl kh ki kf kq ka kt kd kn (nI mpm) (nI mty) (nI mwi) (nI mhi) (nI mwa) (nI mle) (gI mgo) (nI mam) (bI mtm) (nI mli) (vF wd hd nb wl st sl gl aq lb sh bw bh ps) mpa (fun zz => nI (mtx zz)) (fun zz => nI (mlt zz)) (fun zz => nI (mha zz)) (fun zz => nI (mfi zz)) (fun zz => oI (mfa zz)) (fun zz => nI (mqu zz)) (fun zz => lN (mal zz)) (fun zz => nI (mta zz)) (fun zz => oI (mdi zz)) (fun zz => nI (mln zz))))) 0 0 (aW (mW cI cJ cB o kv kp kx kl kh ki kf kq ka kt kd kn (nI mpm) (nI mty) (nI mwi) (nI mhi) (nI mwa) (nI mle) (gI mgo) (nI mam) (bI mtm) (nI mli) (vF wd hd nb wl st sl gl aq lb sh bw bh ps) mpa (fun zz => nI (mtx zz)) (fun zz => nI (mlt zz)) (fun zz => nI (mha zz)) (fun zz => nI (mfi zz)) (fun zz => oI (mfa zz)) (fun zz => nI (mqu zz)) (fun zz => lN (mal zz)) (fun zz => nI (mta zz)) (fun zz => oI (mdi zz)) (fun zz => nI (mln zz)))) := by
  refine Met.ofW (cc := cX8_opens) (maxL := 3) (ret := (some .int)) (by decide) rfl ?_
  intro p e s m args below meth c s₁ B hml hv
  obtain ⟨rfl, hK, hN, hP, hD0⟩ := hv
  have hx := B.exec; have hb := B.bytes; have hr := B.returns; have hlocks := B.notSynchronized
  have hts0 := atoms_spec (ws := Cond.code yX8_opens cX8_opens 3 (some .int) :: lw_all) B.pre
  have hC : CallFix p m c cX8_opens 3 s _ lw_all RX8 := ⟨hx, hb, hml, findClass_of_methodNamed B.named, fun w h => hts0 w (List.mem_cons_of_mem _ h)⟩
  have hD : va_D (aW (mW cI cJ cB o kv kp kx kl kh ki kf kq ka kt kd kn (nI mpm) (nI mty) (nI mwi) (nI mhi) (nI mwa) (nI mle) (gI mgo) (nI mam) (bI mtm) (nI mli) (vF wd hd nb wl st sl gl aq lb sh bw bh ps) mpa (fun zz => nI (mtx zz)) (fun zz => nI (mlt zz)) (fun zz => nI (mha zz)) (fun zz => nI (mfi zz)) (fun zz => oI (mfa zz)) (fun zz => nI (mqu zz)) (fun zz => lN (mal zz)) (fun zz => nI (mta zz)) (fun zz => oI (mdi zz)) (fun zz => nI (mln zz)))) (mW cI cJ cB o kv kp kx kl kh ki kf kq ka kt kd kn (nI mpm) (nI mty) (nI mwi) (nI mhi) (nI mwa) (nI mle) (gI mgo) (nI mam) (bI mtm) (nI mli) (vF wd hd nb wl st sl gl aq lb sh bw bh ps) mpa (fun zz => nI (mtx zz)) (fun zz => nI (mlt zz)) (fun zz => nI (mha zz)) (fun zz => nI (mfi zz)) (fun zz => oI (mfa zz)) (fun zz => nI (mqu zz)) (fun zz => lN (mal zz)) (fun zz => nI (mta zz)) (fun zz => oI (mdi zz)) (fun zz => nI (mln zz))) := ⟨hD0.1, fun k q h => ⟨k, q.2, h⟩⟩
  generalize hAe : aW (mW cI cJ cB o kv kp kx kl kh ki kf kq ka kt kd kn (nI mpm) (nI mty) (nI mwi) (nI mhi) (nI mwa) (nI mle) (gI mgo) (nI mam) (bI mtm) (nI mli) (vF wd hd nb wl st sl gl aq lb sh bw bh ps) mpa (fun zz => nI (mtx zz)) (fun zz => nI (mlt zz)) (fun zz => nI (mha zz)) (fun zz => nI (mfi zz)) (fun zz => oI (mfa zz)) (fun zz => nI (mqu zz)) (fun zz => lN (mal zz)) (fun zz => nI (mta zz)) (fun zz => oI (mdi zz)) (fun zz => nI (mln zz))) = A at hD ⊢
  have hS : va_S A s.heap s.heap [] := va_S.rf
  have hl := lv_entry ([.ref o, .int (bI z), .int (gI wo)]) (n := 3) (Nat.le_of_ble_eq_true rfl)
  rw [lg_entry_eq]
  generalize (lg_sl ([.ref o, .int (bI z), .int (gI wo)]) ++ List.replicate (3 - (lg_sl ([.ref o, .int (bI z), .int (gI wo)])).length) Slot.unset).toArray = ls at hl ⊢
  have hl : lv_has ls 3 [(0, .ref o), (1, .int (bI z)), (2, .int (gI wo))] := hl
  generalize hav : ([.ref o, .int (bI z), .int (gI wo)] : List Value).toArray = args at hC ⊢
  refine W_gen (fun QQ hQ => ?_)
  show W p l e (rmN 4) s m args below meth c s.heap [] 0 0 QQ (F0 m 0 ls [])
  obtain ⟨hf, hps, hk1, hga, hlb⟩ := id htv
  have hn7 := hf.2.2.2.2.2.1
  have hgb : ∀ d, gl = some d → d < nb ∧ ∃ ap, aq = some ap ∧ ap < 24 := fun d h => by
    rcases hga with ⟨h1, -⟩ | ⟨g, ap, h1, h2, h3, h4⟩
    · rw [h1] at h; cases h
    · rw [h1] at h; cases h; exact ⟨h3, ap, h2, h4⟩
  refine lv_aload_n hx hb dX8_opens_0 rfl (lv_at hl 0 rfl) ?_
  refine gf_X8_7 hC hK hP 0 rfl rfl dX8_opens_1 ?_
  refine lv_bipush (v := nI 6) hx hb dX8_opens_4 (by decide) ?_
  refine n_iald hx hb hK hP 1 0 rfl rfl (by omega) (by decide) dX8_opens_6 ?_
  refine topi (y := gI gl) rfl ?_
  refine g_if_ge (x := gl) (tgt := 13) hx hb dX8_opens_7 (by decide) (fun d h => by have := (hgb d h).1; omega) (fun d7 c7 => ?_) (fun c7 => ?_)
  · have _ : True := trivial
    obtain ⟨hgn, ap, hap, hap4⟩ := hgb d7 c7
    refine lv_aload_n hx hb dX8_opens_13 rfl (lv_at hl 0 rfl) ?_
    refine lv_iload_n hx hb dX8_opens_14 rfl (lv_at hl 2 rfl) ?_
    refine callV_v (As := [.int (gI wo)]) (rest := []) [0, 1, 2, 3, 4, 5, 6, 7, 8, 9, 10, 11, 12] hC hK hN hP hD rfl (by decide) hS 0 (ci := 8) rfl rfl rfl (c_X8_explores l D cI cJ cB o kv kp kx kl kh ki kf kq ka kt kd kn mpm mty mwi mhi mwa mle mam mli mgo mtm mpa mtx mlt mha mfi mqu mta mln mal mfa mdi wd hd nb wl st sl gl aq lb sh bw bh ps wo hf hwo hps hk0) q879 md_X8_explores rfl hl.1 rfl (Nat.le_of_ble_eq_true rfl) dX8_opens_15 ⟨Nat.le_of_ble_eq_true rfl, Nat.le_of_ble_eq_true rfl⟩ ⟨Nat.le_of_ble_eq_true rfl, Nat.le_of_ble_eq_true rfl⟩ (fun w H locs hpost hP hD hS => ?_)
    obtain ⟨K2_15, n2_15, T2_15, tm2_15, rfl, hei, hcl⟩ := hpost
    have hP : va_P D vwCl (mW cI cJ cB o kv kp kx kl kh ki kf kq ka kt kd kn (nI mpm) (nI mty) (nI mwi) (nI mhi) (nI mwa) (nI mle) (gI wo) (nI n2_15) (bI tm2_15) (nI mli) (vF wd hd nb wl st sl gl aq lb sh bw bh ps) mpa (fun zz => nI (mtx zz)) (fun zz => nI (mlt zz)) (fun zz => nI (mha zz)) (fun zz => nI (mfi zz)) (fun zz => oI (mfa zz)) (fun zz => nI (mqu zz)) (fun zz => lN (K2_15 zz)) (fun zz => nI (T2_15 zz)) (fun zz => oI (mdi zz)) (fun zz => nI (mln zz))) H := hP
    have hD : va_D A (mW cI cJ cB o kv kp kx kl kh ki kf kq ka kt kd kn (nI mpm) (nI mty) (nI mwi) (nI mhi) (nI mwa) (nI mle) (gI wo) (nI n2_15) (bI tm2_15) (nI mli) (vF wd hd nb wl st sl gl aq lb sh bw bh ps) mpa (fun zz => nI (mtx zz)) (fun zz => nI (mlt zz)) (fun zz => nI (mha zz)) (fun zz => nI (mfi zz)) (fun zz => oI (mfa zz)) (fun zz => nI (mqu zz)) (fun zz => lN (K2_15 zz)) (fun zz => nI (T2_15 zz)) (fun zz => oI (mdi zz)) (fun zz => nI (mln zz))) := hD
    refine lv_aload_n hx hb dX8_opens_18 rfl (lv_at hl 0 rfl) ?_
    refine gf_X8_128 hC hK hP 0 rfl rfl dX8_opens_19 ?_
    refine b_if_eq (tgt := 28) hx hb dX8_opens_22 (by decide) (fun c22 => ?_) (fun c22 => ?_)
    · have _ : True := trivial
      refine lv_aload_n hx hb dX8_opens_28 rfl (lv_at hl 0 rfl) ?_
      refine lv_iload_n hx hb dX8_opens_29 rfl (lv_at hl 1 rfl) ?_
      refine callV_v (As := [.int (bI z)]) (rest := []) [0, 1, 2, 3, 4, 5, 6, 7, 8, 9, 10, 11, 12] hC hK hN hP hD rfl (by decide) hS 0 (ci := 8) rfl rfl rfl (c_X8_measures l D cI cJ cB o kv kp kx kl kh ki kf kq ka kt kd kn mpm mty mwi mhi mwa mle n2_15 mli wo tm2_15 mpa mtx mlt mha mfi mqu T2_15 mln K2_15 mfa mdi wd hd nb wl st sl gl aq lb sh bw bh ps z d7 ap hf hwo hei.1 hei.2.1 (fun i hi => (hei.2.2.2.2.1 i hi).2) (hcl c22) c7 hgn (hwg d7 c7) hap (by omega)) q908 md_X8_measures rfl hl.1 rfl (Nat.le_of_ble_eq_true rfl) dX8_opens_30 ⟨Nat.le_of_ble_eq_true rfl, Nat.le_of_ble_eq_true rfl⟩ ⟨Nat.le_of_ble_eq_true rfl, Nat.le_of_ble_eq_true rfl⟩ (fun w H locs hpost hP hD hS => ?_)
      obtain ⟨F3_30, L3_30, l3_30, Fa_30, Qa_30, rfl, hms, hl0, hlb2, hl9⟩ := hpost
      have hP : va_P D vwCl (mW cI cJ cB o kv kp kx kl kh ki kf kq ka kt kd kn (nI mpm) (nI mty) (nI mwi) (nI mhi) (nI mwa) (nI mle) (gI wo) (nI n2_15) (bI tm2_15) (nI l3_30) (vF wd hd nb wl st sl gl aq lb sh bw bh ps) mpa (fun zz => nI (mtx zz)) (fun zz => nI (mlt zz)) (fun zz => nI (mha zz)) (fun zz => nI (mfi zz)) (fun zz => oI (Fa_30 zz)) (fun zz => nI (Qa_30 zz)) (fun zz => lN (K2_15 zz)) (fun zz => nI (T2_15 zz)) (fun zz => oI (F3_30 zz)) (fun zz => nI (L3_30 zz))) H := hP
      have hD : va_D A (mW cI cJ cB o kv kp kx kl kh ki kf kq ka kt kd kn (nI mpm) (nI mty) (nI mwi) (nI mhi) (nI mwa) (nI mle) (gI wo) (nI n2_15) (bI tm2_15) (nI l3_30) (vF wd hd nb wl st sl gl aq lb sh bw bh ps) mpa (fun zz => nI (mtx zz)) (fun zz => nI (mlt zz)) (fun zz => nI (mha zz)) (fun zz => nI (mfi zz)) (fun zz => oI (Fa_30 zz)) (fun zz => nI (Qa_30 zz)) (fun zz => lN (K2_15 zz)) (fun zz => nI (T2_15 zz)) (fun zz => oI (F3_30 zz)) (fun zz => nI (L3_30 zz))) := hD
      refine lv_aload_n hx hb dX8_opens_33 rfl (lv_at hl 0 rfl) ?_
      refine gf_X8_140 hC hK hP 0 rfl rfl dX8_opens_34 ?_
      refine n_if_ne (tgt := 45) hx hb dX8_opens_37 (by decide) (by omega) (fun c37 => ?_) (fun c37 => ?_)
      · have _ : True := trivial
        refine lv_iconst (v := nI 0) hx hb dX8_opens_45 (by decide) ?_
        have hen := EI_enum hei hcl c22
        rw [hQ]
        exact W.iret (v := nI 0) hx hb hr (fun t9 ht hW => ⟨⟨_, _, rfl, ⟨wo, K2_15, n2_15, T2_15, tm2_15, F3_30, L3_30, l3_30, Fa_30, Qa_30, rfl, Or.inr ⟨d7, ap, c7, hap, Or.inr ⟨hen, hei.2.1, hei.2.2.1, hei.2.2.2.1, hei.1, fun i hi => (hei.2.2.2.2.1 i hi).2, KD_of hen (fun i hi x hx => mvk_has hf (hei.2.2.2.2.1 i hi).2 (hcl c22) ⟨i, hi, rfl⟩ hx) hms (fun i d h => (cF_some h).1), hlb2, Or.inr ⟨fun h => by have := hl0.mpr h; omega, rfl⟩⟩⟩, fun _ => rfl⟩, by rw [ht]; exact hP, rfl⟩, hS.F ht⟩) hS.2.2 dX8_opens_46
      · have _ : True := trivial
        refine lv_bipush (v := (-9)) hx hb dX8_opens_40 (by decide) ?_
        refine lv_goto (tgt := 46) hx hb dX8_opens_42 (by decide) ?_
        have hen := EI_enum hei hcl c22
        rw [hQ]
        exact W.iret (v := (-9)) hx hb hr (fun t9 ht hW => ⟨⟨_, _, rfl, ⟨wo, K2_15, n2_15, T2_15, tm2_15, F3_30, L3_30, l3_30, Fa_30, Qa_30, rfl, Or.inr ⟨d7, ap, c7, hap, Or.inr ⟨hen, hei.2.1, hei.2.2.1, hei.2.2.2.1, hei.1, fun i hi => (hei.2.2.2.2.1 i hi).2, KD_of hen (fun i hi x hx => mvk_has hf (hei.2.2.2.2.1 i hi).2 (hcl c22) ⟨i, hi, rfl⟩ hx) hms (fun i d h => (cF_some h).1), hlb2, Or.inl ⟨hl0.mp c37, rfl⟩⟩⟩, fun _ => rfl⟩, by rw [ht]; exact hP, rfl⟩, hS.F ht⟩) hS.2.2 dX8_opens_46
    · have _ : True := trivial
      refine lv_bipush (v := (-3)) hx hb dX8_opens_25 (by decide) ?_
      rw [hQ]
      exact W.iret (v := (-3)) hx hb hr (fun t9 ht hW => ⟨⟨_, _, rfl, ⟨wo, K2_15, n2_15, T2_15, tm2_15, mdi, mln, mli, mfa, mqu, rfl, Or.inr ⟨d7, ap, c7, hap, Or.inl ⟨EI_big hei c22, rfl⟩⟩, fun _ => rfl⟩, by rw [ht]; exact hP, rfl⟩, hS.F ht⟩) hS.2.2 dX8_opens_27
  · have _ : True := trivial
    refine lv_bipush (v := (-2)) hx hb dX8_opens_10 (by decide) ?_
    rw [hQ]
    exact W.iret (v := (-2)) hx hb hr (fun t9 ht hW => ⟨⟨_, _, rfl, ⟨mgo, mal, mam, mta, mtm, mdi, mln, mli, mfa, mqu, rfl, Or.inl ⟨c7, rfl⟩, fun h => absurd c7 h⟩, by rw [ht]; exact hP, rfl⟩, hS.F ht⟩) hS.2.2 dX8_opens_12

set_option maxHeartbeats 400000 in
set_option maxRecDepth 100000 in
theorem c_X8_distanceOf (l : Launch) (D : va_G) (cI cJ cB : ClassId) (o kv kp kx kl kh ki kf kq ka kt kd kn mpm mty mwi mhi mwa mle mam mli : Nat) (mgo : Option Nat) (mtm : Bool) (mpa : Nat → Int32) (mtx mlt mha mfi mqu mta mln mal : Nat → Nat) (mfa mdi : Nat → Option Nat) (wd hd nb wl : Nat) (st sl : Int32) (gl aq lb : Option Nat) (sh bw bh ps : Nat → Nat) (z : Bool) (htv : TV wd hd nb wl sh bw bh ps gl aq lb) : Met l yX8_distanceOf (Cond.code yX8_distanceOf cX8_distanceOf 3 (some .int) :: lw_all) (rmN 5) (va_Pc [.ref o, .int (bI z)] (pB D (tyz cI cJ cB) (mW cI cJ cB o kv kp kx kl kh ki kf kq ka kt kd kn (nI mpm) (nI mty) (nI mwi) (nI mhi) (nI mwa) (nI mle) (gI mgo) (nI mam) (bI mtm) (nI mli) (vF wd hd nb wl st sl gl aq lb sh bw bh ps) mpa (fun zz => nI (mtx zz)) (fun zz => nI (mlt zz)) (fun zz => nI (mha zz)) (fun zz => nI (mfi zz)) (fun zz => oI (mfa zz)) (fun zz => nI (mqu zz)) (fun zz => lN (mal zz)) (fun zz => nI (mta zz)) (fun zz => oI (mdi zz)) (fun zz => nI (mln zz))))) (va_Qi (fun (r : Int32) (w : va_W) => ∃ go2 : Option Nat, ∃ K2 : Nat → Nat, ∃ n2 : Nat, ∃ T2 : Nat → Nat, ∃ tm2 : Bool, ∃ F2 : Nat → Option Nat, ∃ L2 : Nat → Nat, ∃ l2 : Nat, ∃ fa2 : Nat → Option Nat, ∃ qa2 : Nat → Nat, r = f_dist (kst wd hd nb wl sh bw bh none) (mvk wd hd nb wl sh bw bh none z) gl aq (pkey ps nb) ∧ w = mW cI cJ cB o kv kp kx kl kh ki kf kq ka kt kd kn (nI mpm) (nI mty) (nI mwi) (nI mhi) (nI mwa) (nI mle) (gI go2) (nI n2) (bI tm2) (nI l2) (vF wd hd nb wl st sl gl aq lb sh bw bh ps) mpa (fun zz => nI (mtx zz)) (fun zz => nI (mlt zz)) (fun zz => nI (mha zz)) (fun zz => nI (mfi zz)) (fun zz => oI (fa2 zz)) (fun zz => nI (qa2 zz)) (fun zz => lN (K2 zz)) (fun zz => nI (T2 zz)) (fun zz => oI (F2 zz)) (fun zz => nI (L2 zz))) (gB D (mW cI cJ cB o kv kp kx kl kh ki kf kq ka kt kd kn (nI mpm) (nI mty) (nI mwi) (nI mhi) (nI mwa) (nI mle) (gI mgo) (nI mam) (bI mtm) (nI mli) (vF wd hd nb wl st sl gl aq lb sh bw bh ps) mpa (fun zz => nI (mtx zz)) (fun zz => nI (mlt zz)) (fun zz => nI (mha zz)) (fun zz => nI (mfi zz)) (fun zz => oI (mfa zz)) (fun zz => nI (mqu zz)) (fun zz => lN (mal zz)) (fun zz => nI (mta zz)) (fun zz => oI (mdi zz)) (fun zz => nI (mln zz)))) (aW (mW cI cJ cB o kv kp kx kl kh ki kf kq ka kt kd kn (nI mpm) (nI mty) (nI mwi) (nI mhi) (nI mwa) (nI mle) (gI mgo) (nI mam) (bI mtm) (nI mli) (vF wd hd nb wl st sl gl aq lb sh bw bh ps) mpa (fun zz => nI (mtx zz)) (fun zz => nI (mlt zz)) (fun zz => nI (mha zz)) (fun zz => nI (mfi zz)) (fun zz => oI (mfa zz)) (fun zz => nI (mqu zz)) (fun zz => lN (mal zz)) (fun zz => nI (mta zz)) (fun zz => oI (mdi zz)) (fun zz => nI (mln zz))))) 0 0 (aW (mW cI cJ cB o kv kp kx kl kh ki kf kq ka kt kd kn (nI mpm) (nI mty) (nI mwi) (nI mhi) (nI mwa) (nI mle) (gI mgo) (nI mam) (bI mtm) (nI mli) (vF wd hd nb wl st sl gl aq lb sh bw bh ps) mpa (fun zz => nI (mtx zz)) (fun zz => nI (mlt zz)) (fun zz => nI (mha zz)) (fun zz => nI (mfi zz)) (fun zz => oI (mfa zz)) (fun zz => nI (mqu zz)) (fun zz => lN (mal zz)) (fun zz => nI (mta zz)) (fun zz => oI (mdi zz)) (fun zz => nI (mln zz)))) := by
  refine Met.ofW (cc := cX8_distanceOf) (maxL := 3) (ret := (some .int)) (by decide) rfl ?_
  intro p e s m args below meth c s₁ B hml hv
  obtain ⟨rfl, hK, hN, hP, hD0⟩ := hv
  have hx := B.exec; have hb := B.bytes; have hr := B.returns; have hlocks := B.notSynchronized
  have hts0 := atoms_spec (ws := Cond.code yX8_distanceOf cX8_distanceOf 3 (some .int) :: lw_all) B.pre
  have hC : CallFix p m c cX8_distanceOf 3 s _ lw_all RX8 := ⟨hx, hb, hml, findClass_of_methodNamed B.named, fun w h => hts0 w (List.mem_cons_of_mem _ h)⟩
  have hD : va_D (aW (mW cI cJ cB o kv kp kx kl kh ki kf kq ka kt kd kn (nI mpm) (nI mty) (nI mwi) (nI mhi) (nI mwa) (nI mle) (gI mgo) (nI mam) (bI mtm) (nI mli) (vF wd hd nb wl st sl gl aq lb sh bw bh ps) mpa (fun zz => nI (mtx zz)) (fun zz => nI (mlt zz)) (fun zz => nI (mha zz)) (fun zz => nI (mfi zz)) (fun zz => oI (mfa zz)) (fun zz => nI (mqu zz)) (fun zz => lN (mal zz)) (fun zz => nI (mta zz)) (fun zz => oI (mdi zz)) (fun zz => nI (mln zz)))) (mW cI cJ cB o kv kp kx kl kh ki kf kq ka kt kd kn (nI mpm) (nI mty) (nI mwi) (nI mhi) (nI mwa) (nI mle) (gI mgo) (nI mam) (bI mtm) (nI mli) (vF wd hd nb wl st sl gl aq lb sh bw bh ps) mpa (fun zz => nI (mtx zz)) (fun zz => nI (mlt zz)) (fun zz => nI (mha zz)) (fun zz => nI (mfi zz)) (fun zz => oI (mfa zz)) (fun zz => nI (mqu zz)) (fun zz => lN (mal zz)) (fun zz => nI (mta zz)) (fun zz => oI (mdi zz)) (fun zz => nI (mln zz))) := ⟨hD0.1, fun k q h => ⟨k, q.2, h⟩⟩
  generalize hAe : aW (mW cI cJ cB o kv kp kx kl kh ki kf kq ka kt kd kn (nI mpm) (nI mty) (nI mwi) (nI mhi) (nI mwa) (nI mle) (gI mgo) (nI mam) (bI mtm) (nI mli) (vF wd hd nb wl st sl gl aq lb sh bw bh ps) mpa (fun zz => nI (mtx zz)) (fun zz => nI (mlt zz)) (fun zz => nI (mha zz)) (fun zz => nI (mfi zz)) (fun zz => oI (mfa zz)) (fun zz => nI (mqu zz)) (fun zz => lN (mal zz)) (fun zz => nI (mta zz)) (fun zz => oI (mdi zz)) (fun zz => nI (mln zz))) = A at hD ⊢
  have hS : va_S A s.heap s.heap [] := va_S.rf
  have hl := lv_entry ([.ref o, .int (bI z)]) (n := 3) (Nat.le_of_ble_eq_true rfl)
  rw [lg_entry_eq]
  generalize (lg_sl ([.ref o, .int (bI z)]) ++ List.replicate (3 - (lg_sl ([.ref o, .int (bI z)])).length) Slot.unset).toArray = ls at hl ⊢
  have hl : lv_has ls 3 [(0, .ref o), (1, .int (bI z))] := hl
  generalize hav : ([.ref o, .int (bI z)] : List Value).toArray = args at hC ⊢
  refine W_gen (fun QQ hQ => ?_)
  show W p l e (rmN 5) s m args below meth c s.heap [] 0 0 QQ (F0 m 0 ls [])
  obtain ⟨hf, hps, hk1, hga, hlb⟩ := id htv
  have hn7 := hf.2.2.2.2.2.1
  have h24 := hf.2.2.2.2.1
  refine lv_aload_n hx hb dX8_distanceOf_0 rfl (lv_at hl 0 rfl) ?_
  refine lv_iload_n hx hb dX8_distanceOf_1 rfl (lv_at hl 1 rfl) ?_
  refine lv_bipush (v := (-9)) hx hb dX8_distanceOf_2 (by decide) ?_
  refine callV_i (As := [.int (bI z), .int (-9)]) (rest := []) [0, 1, 2, 3, 4, 5, 6, 7, 8, 9, 10, 11, 12] hC hK hN hP hD rfl (by decide) hS 0 (ci := 8) rfl rfl rfl (c_X8_opens l D cI cJ cB o kv kp kx kl kh ki kf kq ka kt kd kn mpm mty mwi mhi mwa mle mam mli mgo mtm mpa mtx mlt mha mfi mqu mta mln mal mfa mdi wd hd nb wl st sl gl aq lb sh bw bh ps z none htv (fun d h => by cases h) (fun d _ h => by cases h) hk1) q904 md_X8_opens rfl hl.1 rfl (Nat.le_of_ble_eq_true rfl) dX8_distanceOf_4 ⟨Nat.le_of_ble_eq_true rfl, Nat.le_of_ble_eq_true rfl⟩ ⟨Nat.le_of_ble_eq_true rfl, Nat.le_of_ble_eq_true rfl⟩ (fun r_4 w H locs hpost hP hD hS => ?_)
  obtain ⟨go2_4, K2_4, n2_4, T2_4, tm2_4, F2_4, L2_4, l2_4, fa2_4, qa2_4, rfl, hop, h4_og⟩ := hpost
  have hP : va_P D vwCl (mW cI cJ cB o kv kp kx kl kh ki kf kq ka kt kd kn (nI mpm) (nI mty) (nI mwi) (nI mhi) (nI mwa) (nI mle) (gI go2_4) (nI n2_4) (bI tm2_4) (nI l2_4) (vF wd hd nb wl st sl gl aq lb sh bw bh ps) mpa (fun zz => nI (mtx zz)) (fun zz => nI (mlt zz)) (fun zz => nI (mha zz)) (fun zz => nI (mfi zz)) (fun zz => oI (fa2_4 zz)) (fun zz => nI (qa2_4 zz)) (fun zz => lN (K2_4 zz)) (fun zz => nI (T2_4 zz)) (fun zz => oI (F2_4 zz)) (fun zz => nI (L2_4 zz))) H := hP
  have hD : va_D A (mW cI cJ cB o kv kp kx kl kh ki kf kq ka kt kd kn (nI mpm) (nI mty) (nI mwi) (nI mhi) (nI mwa) (nI mle) (gI go2_4) (nI n2_4) (bI tm2_4) (nI l2_4) (vF wd hd nb wl st sl gl aq lb sh bw bh ps) mpa (fun zz => nI (mtx zz)) (fun zz => nI (mlt zz)) (fun zz => nI (mha zz)) (fun zz => nI (mfi zz)) (fun zz => oI (fa2_4 zz)) (fun zz => nI (qa2_4 zz)) (fun zz => lN (K2_4 zz)) (fun zz => nI (T2_4 zz)) (fun zz => oI (F2_4 zz)) (fun zz => nI (L2_4 zz))) := hD
  refine lv_istore_n (lv' := [(2, .int r_4), (0, .ref o), (1, .int (bI z))]) hx hb dX8_distanceOf_7 rfl hl (by decide) rfl (fun ls hl => ?_)
  refine lv_iload_n hx hb dX8_distanceOf_8 rfl (lv_at hl 0 rfl) ?_
  refine lv_if_ne (tgt := 21) hx hb dX8_distanceOf_9 (by decide) (fun c9 => ?_) (fun c9 => ?_)
  · have _ : True := trivial
    refine lv_iload_n hx hb dX8_distanceOf_21 rfl (lv_at hl 0 rfl) ?_
    rw [hQ]
    exact W.iret (v := r_4) hx hb hr (fun t9 ht hW => ⟨⟨_, _, rfl, ⟨go2_4, K2_4, n2_4, T2_4, tm2_4, F2_4, L2_4, l2_4, fa2_4, qa2_4, (dist_bad hop c9), rfl⟩, by rw [ht]; exact hP, rfl⟩, hS.F ht⟩) hS.2.2 dX8_distanceOf_22
  · have _ : True := trivial
    have hog := OPN_good hf hk1 hop c9
    refine lv_aload_n hx hb dX8_distanceOf_12 rfl (lv_at hl 1 rfl) ?_
    refine gf_X8_45 hC hK hP 0 rfl rfl dX8_distanceOf_13 ?_
    refine lv_iconst (v := nI 0) hx hb dX8_distanceOf_16 (by decide) ?_
    refine n_iald hx hb hK hP 11 0 rfl rfl (by omega) (by decide) dX8_distanceOf_17 ?_
    refine lv_goto (tgt := 22) hx hb dX8_distanceOf_18 (by decide) ?_
    rw [hQ]
    exact W.iret (v := oI (F2_4 0)) hx hb hr (fun t9 ht hW => ⟨⟨_, _, rfl, ⟨go2_4, K2_4, n2_4, T2_4, tm2_4, F2_4, L2_4, l2_4, fa2_4, qa2_4, (dist_good hog), rfl⟩, by rw [ht]; exact hP, rfl⟩, hS.F ht⟩) hS.2.2 dX8_distanceOf_22

set_option maxHeartbeats 400000 in
set_option maxRecDepth 100000 in
theorem c_X8_distance (l : Launch) (D : va_G) (cI cJ cB : ClassId) (o kv kp kx kl kh ki kf kq ka kt kd kn mpm mty mwi mhi mwa mle mam mli : Nat) (mgo : Option Nat) (mtm : Bool) (mpa : Nat → Int32) (mtx mlt mha mfi mqu mta mln mal : Nat → Nat) (mfa mdi : Nat → Option Nat) (wd hd nb wl : Nat) (st sl : Int32) (gl aq lb : Option Nat) (sh bw bh ps : Nat → Nat) (z : Bool) (htv : TV wd hd nb wl sh bw bh ps gl aq lb) : Met l yX8_distance (Cond.code yX8_distance cX8_distance 2 (some .int) :: lw_all) (rmN 6) (va_Pc [.ref o, .int (bI z)] (pB D (tyz cI cJ cB) (mW cI cJ cB o kv kp kx kl kh ki kf kq ka kt kd kn (nI mpm) (nI mty) (nI mwi) (nI mhi) (nI mwa) (nI mle) (gI mgo) (nI mam) (bI mtm) (nI mli) (vF wd hd nb wl st sl gl aq lb sh bw bh ps) mpa (fun zz => nI (mtx zz)) (fun zz => nI (mlt zz)) (fun zz => nI (mha zz)) (fun zz => nI (mfi zz)) (fun zz => oI (mfa zz)) (fun zz => nI (mqu zz)) (fun zz => lN (mal zz)) (fun zz => nI (mta zz)) (fun zz => oI (mdi zz)) (fun zz => nI (mln zz))))) (va_Qi (fun (r : Int32) (w : va_W) => ∃ go2 : Option Nat, ∃ K2 : Nat → Nat, ∃ n2 : Nat, ∃ T2 : Nat → Nat, ∃ tm2 : Bool, ∃ F2 : Nat → Option Nat, ∃ L2 : Nat → Nat, ∃ l2 : Nat, ∃ fa2 : Nat → Option Nat, ∃ qa2 : Nat → Nat, r = f_dist (kst wd hd nb wl sh bw bh none) (mvk wd hd nb wl sh bw bh none z) gl aq (pkey ps nb) ∧ w = mW cI cJ cB o kv kp kx kl kh ki kf kq ka kt kd kn (nI mpm) (nI mty) (nI mwi) (nI mhi) (nI mwa) (nI mle) (gI go2) (nI n2) (bI tm2) (nI l2) (vF wd hd nb wl st sl gl aq lb sh bw bh ps) mpa (fun zz => nI (mtx zz)) (fun zz => nI (mlt zz)) (fun zz => nI (mha zz)) (fun zz => nI (mfi zz)) (fun zz => oI (fa2 zz)) (fun zz => nI (qa2 zz)) (fun zz => lN (K2 zz)) (fun zz => nI (T2 zz)) (fun zz => oI (F2 zz)) (fun zz => nI (L2 zz))) (gB D (mW cI cJ cB o kv kp kx kl kh ki kf kq ka kt kd kn (nI mpm) (nI mty) (nI mwi) (nI mhi) (nI mwa) (nI mle) (gI mgo) (nI mam) (bI mtm) (nI mli) (vF wd hd nb wl st sl gl aq lb sh bw bh ps) mpa (fun zz => nI (mtx zz)) (fun zz => nI (mlt zz)) (fun zz => nI (mha zz)) (fun zz => nI (mfi zz)) (fun zz => oI (mfa zz)) (fun zz => nI (mqu zz)) (fun zz => lN (mal zz)) (fun zz => nI (mta zz)) (fun zz => oI (mdi zz)) (fun zz => nI (mln zz)))) (aW (mW cI cJ cB o kv kp kx kl kh ki kf kq ka kt kd kn (nI mpm) (nI mty) (nI mwi) (nI mhi) (nI mwa) (nI mle) (gI mgo) (nI mam) (bI mtm) (nI mli) (vF wd hd nb wl st sl gl aq lb sh bw bh ps) mpa (fun zz => nI (mtx zz)) (fun zz => nI (mlt zz)) (fun zz => nI (mha zz)) (fun zz => nI (mfi zz)) (fun zz => oI (mfa zz)) (fun zz => nI (mqu zz)) (fun zz => lN (mal zz)) (fun zz => nI (mta zz)) (fun zz => oI (mdi zz)) (fun zz => nI (mln zz))))) 0 0 (aW (mW cI cJ cB o kv kp kx kl kh ki kf kq ka kt kd kn (nI mpm) (nI mty) (nI mwi) (nI mhi) (nI mwa) (nI mle) (gI mgo) (nI mam) (bI mtm) (nI mli) (vF wd hd nb wl st sl gl aq lb sh bw bh ps) mpa (fun zz => nI (mtx zz)) (fun zz => nI (mlt zz)) (fun zz => nI (mha zz)) (fun zz => nI (mfi zz)) (fun zz => oI (mfa zz)) (fun zz => nI (mqu zz)) (fun zz => lN (mal zz)) (fun zz => nI (mta zz)) (fun zz => oI (mdi zz)) (fun zz => nI (mln zz)))) := by
  refine Met.ofW (cc := cX8_distance) (maxL := 2) (ret := (some .int)) (by decide) rfl ?_
  intro p e s m args below meth c s₁ B hml hv
  obtain ⟨rfl, hK, hN, hP, hD0⟩ := hv
  have hx := B.exec; have hb := B.bytes; have hr := B.returns; have hlocks := B.notSynchronized
  have hts0 := atoms_spec (ws := Cond.code yX8_distance cX8_distance 2 (some .int) :: lw_all) B.pre
  have hC : CallFix p m c cX8_distance 2 s _ lw_all RX8 := ⟨hx, hb, hml, findClass_of_methodNamed B.named, fun w h => hts0 w (List.mem_cons_of_mem _ h)⟩
  have hD : va_D (aW (mW cI cJ cB o kv kp kx kl kh ki kf kq ka kt kd kn (nI mpm) (nI mty) (nI mwi) (nI mhi) (nI mwa) (nI mle) (gI mgo) (nI mam) (bI mtm) (nI mli) (vF wd hd nb wl st sl gl aq lb sh bw bh ps) mpa (fun zz => nI (mtx zz)) (fun zz => nI (mlt zz)) (fun zz => nI (mha zz)) (fun zz => nI (mfi zz)) (fun zz => oI (mfa zz)) (fun zz => nI (mqu zz)) (fun zz => lN (mal zz)) (fun zz => nI (mta zz)) (fun zz => oI (mdi zz)) (fun zz => nI (mln zz)))) (mW cI cJ cB o kv kp kx kl kh ki kf kq ka kt kd kn (nI mpm) (nI mty) (nI mwi) (nI mhi) (nI mwa) (nI mle) (gI mgo) (nI mam) (bI mtm) (nI mli) (vF wd hd nb wl st sl gl aq lb sh bw bh ps) mpa (fun zz => nI (mtx zz)) (fun zz => nI (mlt zz)) (fun zz => nI (mha zz)) (fun zz => nI (mfi zz)) (fun zz => oI (mfa zz)) (fun zz => nI (mqu zz)) (fun zz => lN (mal zz)) (fun zz => nI (mta zz)) (fun zz => oI (mdi zz)) (fun zz => nI (mln zz))) := ⟨hD0.1, fun k q h => ⟨k, q.2, h⟩⟩
  generalize hAe : aW (mW cI cJ cB o kv kp kx kl kh ki kf kq ka kt kd kn (nI mpm) (nI mty) (nI mwi) (nI mhi) (nI mwa) (nI mle) (gI mgo) (nI mam) (bI mtm) (nI mli) (vF wd hd nb wl st sl gl aq lb sh bw bh ps) mpa (fun zz => nI (mtx zz)) (fun zz => nI (mlt zz)) (fun zz => nI (mha zz)) (fun zz => nI (mfi zz)) (fun zz => oI (mfa zz)) (fun zz => nI (mqu zz)) (fun zz => lN (mal zz)) (fun zz => nI (mta zz)) (fun zz => oI (mdi zz)) (fun zz => nI (mln zz))) = A at hD ⊢
  have hS : va_S A s.heap s.heap [] := va_S.rf
  have hl := lv_entry ([.ref o, .int (bI z)]) (n := 2) (Nat.le_of_ble_eq_true rfl)
  rw [lg_entry_eq]
  generalize (lg_sl ([.ref o, .int (bI z)]) ++ List.replicate (2 - (lg_sl ([.ref o, .int (bI z)])).length) Slot.unset).toArray = ls at hl ⊢
  have hl : lv_has ls 2 [(0, .ref o), (1, .int (bI z))] := hl
  generalize hav : ([.ref o, .int (bI z)] : List Value).toArray = args at hC ⊢
  refine W_gen (fun QQ hQ => ?_)
  show W p l e (rmN 6) s m args below meth c s.heap [] 0 0 QQ (F0 m 0 ls [])
  refine lv_aload_n hx hb dX8_distance_0 rfl (lv_at hl 0 rfl) ?_
  refine lv_iload_n hx hb dX8_distance_1 rfl (lv_at hl 1 rfl) ?_
  refine callV_i (As := [.int (bI z)]) (rest := []) [0, 1, 2, 3, 4, 5, 6, 7, 8, 9, 10, 11, 12] hC hK hN hP hD rfl (by decide) hS 0 (ci := 8) rfl rfl rfl (c_X8_distanceOf l D cI cJ cB o kv kp kx kl kh ki kf kq ka kt kd kn mpm mty mwi mhi mwa mle mam mli mgo mtm mpa mtx mlt mha mfi mqu mta mln mal mfa mdi wd hd nb wl st sl gl aq lb sh bw bh ps z htv) q900 md_X8_distanceOf rfl hl.1 rfl (Nat.le_of_ble_eq_true rfl) dX8_distance_2 ⟨Nat.le_of_ble_eq_true rfl, Nat.le_of_ble_eq_true rfl⟩ ⟨Nat.le_of_ble_eq_true rfl, Nat.le_of_ble_eq_true rfl⟩ (fun r_2 w H locs hpost hP hD hS => ?_)
  obtain ⟨go2_2, K2_2, n2_2, T2_2, tm2_2, F2_2, L2_2, l2_2, fa2_2, qa2_2, rfl, rfl⟩ := hpost
  have hP : va_P D vwCl (mW cI cJ cB o kv kp kx kl kh ki kf kq ka kt kd kn (nI mpm) (nI mty) (nI mwi) (nI mhi) (nI mwa) (nI mle) (gI go2_2) (nI n2_2) (bI tm2_2) (nI l2_2) (vF wd hd nb wl st sl gl aq lb sh bw bh ps) mpa (fun zz => nI (mtx zz)) (fun zz => nI (mlt zz)) (fun zz => nI (mha zz)) (fun zz => nI (mfi zz)) (fun zz => oI (fa2_2 zz)) (fun zz => nI (qa2_2 zz)) (fun zz => lN (K2_2 zz)) (fun zz => nI (T2_2 zz)) (fun zz => oI (F2_2 zz)) (fun zz => nI (L2_2 zz))) H := hP
  have hD : va_D A (mW cI cJ cB o kv kp kx kl kh ki kf kq ka kt kd kn (nI mpm) (nI mty) (nI mwi) (nI mhi) (nI mwa) (nI mle) (gI go2_2) (nI n2_2) (bI tm2_2) (nI l2_2) (vF wd hd nb wl st sl gl aq lb sh bw bh ps) mpa (fun zz => nI (mtx zz)) (fun zz => nI (mlt zz)) (fun zz => nI (mha zz)) (fun zz => nI (mfi zz)) (fun zz => oI (fa2_2 zz)) (fun zz => nI (qa2_2 zz)) (fun zz => lN (K2_2 zz)) (fun zz => nI (T2_2 zz)) (fun zz => oI (F2_2 zz)) (fun zz => nI (L2_2 zz))) := hD
  rw [hQ]
  exact W.iret (v := f_dist (kst wd hd nb wl sh bw bh none) (mvk wd hd nb wl sh bw bh none z) gl aq (pkey ps nb)) hx hb hr (fun t9 ht hW => ⟨⟨_, _, rfl, ⟨go2_2, K2_2, n2_2, T2_2, tm2_2, F2_2, L2_2, l2_2, fa2_2, qa2_2, rfl, rfl⟩, by rw [ht]; exact hP, rfl⟩, hS.F ht⟩) hS.2.2 dX8_distance_5

set_option maxHeartbeats 400000 in
set_option maxRecDepth 100000 in
theorem c_X8_stateMany (l : Launch) (D : va_G) (cI cJ cB : ClassId) (o kv kp kx kl kh ki kf kq ka kt kd kn mpm mty mwi mhi mwa mle mam mli : Nat) (mgo : Option Nat) (mtm : Bool) (mpa : Nat → Int32) (mtx mlt mha mfi mqu mta mln mal : Nat → Nat) (mfa mdi : Nat → Option Nat) (wd hd nb wl : Nat) (st sl : Int32) (gl aq lb : Option Nat) (sh bw bh ps : Nat → Nat) (htv : TV wd hd nb wl sh bw bh ps gl aq lb) : Met l yX8_stateMany (Cond.code yX8_stateMany cX8_stateMany 1 (some .int) :: lw_all) (rmN 3) (va_Pc [.ref o] (pB D (tyz cI cJ cB) (mW cI cJ cB o kv kp kx kl kh ki kf kq ka kt kd kn (nI mpm) (nI mty) (nI mwi) (nI mhi) (nI mwa) (nI mle) (gI mgo) (nI mam) (bI mtm) (nI mli) (vF wd hd nb wl st sl gl aq lb sh bw bh ps) mpa (fun zz => nI (mtx zz)) (fun zz => nI (mlt zz)) (fun zz => nI (mha zz)) (fun zz => nI (mfi zz)) (fun zz => oI (mfa zz)) (fun zz => nI (mqu zz)) (fun zz => lN (mal zz)) (fun zz => nI (mta zz)) (fun zz => oI (mdi zz)) (fun zz => nI (mln zz))))) (va_Qi (fun (r : Int32) (w : va_W) => ∃ go2 : Option Nat, ∃ K2 : Nat → Nat, ∃ n2 : Nat, ∃ T2 : Nat → Nat, ∃ tm2 : Bool, ∃ F2 : Nat → Option Nat, ∃ L2 : Nat → Nat, ∃ l2 : Nat, ∃ fa2 : Nat → Option Nat, ∃ qa2 : Nat → Nat, r = f_states (kst wd hd nb wl sh bw bh none) (pkey ps nb) ∧ w = mW cI cJ cB o kv kp kx kl kh ki kf kq ka kt kd kn (nI mpm) (nI mty) (nI mwi) (nI mhi) (nI mwa) (nI mle) (gI go2) (nI n2) (bI tm2) (nI l2) (vF wd hd nb wl st sl gl aq lb sh bw bh ps) mpa (fun zz => nI (mtx zz)) (fun zz => nI (mlt zz)) (fun zz => nI (mha zz)) (fun zz => nI (mfi zz)) (fun zz => oI (fa2 zz)) (fun zz => nI (qa2 zz)) (fun zz => lN (K2 zz)) (fun zz => nI (T2 zz)) (fun zz => oI (F2 zz)) (fun zz => nI (L2 zz))) (gB D (mW cI cJ cB o kv kp kx kl kh ki kf kq ka kt kd kn (nI mpm) (nI mty) (nI mwi) (nI mhi) (nI mwa) (nI mle) (gI mgo) (nI mam) (bI mtm) (nI mli) (vF wd hd nb wl st sl gl aq lb sh bw bh ps) mpa (fun zz => nI (mtx zz)) (fun zz => nI (mlt zz)) (fun zz => nI (mha zz)) (fun zz => nI (mfi zz)) (fun zz => oI (mfa zz)) (fun zz => nI (mqu zz)) (fun zz => lN (mal zz)) (fun zz => nI (mta zz)) (fun zz => oI (mdi zz)) (fun zz => nI (mln zz)))) (aW (mW cI cJ cB o kv kp kx kl kh ki kf kq ka kt kd kn (nI mpm) (nI mty) (nI mwi) (nI mhi) (nI mwa) (nI mle) (gI mgo) (nI mam) (bI mtm) (nI mli) (vF wd hd nb wl st sl gl aq lb sh bw bh ps) mpa (fun zz => nI (mtx zz)) (fun zz => nI (mlt zz)) (fun zz => nI (mha zz)) (fun zz => nI (mfi zz)) (fun zz => oI (mfa zz)) (fun zz => nI (mqu zz)) (fun zz => lN (mal zz)) (fun zz => nI (mta zz)) (fun zz => oI (mdi zz)) (fun zz => nI (mln zz))))) 0 0 (aW (mW cI cJ cB o kv kp kx kl kh ki kf kq ka kt kd kn (nI mpm) (nI mty) (nI mwi) (nI mhi) (nI mwa) (nI mle) (gI mgo) (nI mam) (bI mtm) (nI mli) (vF wd hd nb wl st sl gl aq lb sh bw bh ps) mpa (fun zz => nI (mtx zz)) (fun zz => nI (mlt zz)) (fun zz => nI (mha zz)) (fun zz => nI (mfi zz)) (fun zz => oI (mfa zz)) (fun zz => nI (mqu zz)) (fun zz => lN (mal zz)) (fun zz => nI (mta zz)) (fun zz => oI (mdi zz)) (fun zz => nI (mln zz)))) := by
  refine Met.ofW (cc := cX8_stateMany) (maxL := 1) (ret := (some .int)) (by decide) rfl ?_
  intro p e s m args below meth c s₁ B hml hv
  obtain ⟨rfl, hK, hN, hP, hD0⟩ := hv
  have hx := B.exec; have hb := B.bytes; have hr := B.returns; have hlocks := B.notSynchronized
  have hts0 := atoms_spec (ws := Cond.code yX8_stateMany cX8_stateMany 1 (some .int) :: lw_all) B.pre
  have hC : CallFix p m c cX8_stateMany 1 s _ lw_all RX8 := ⟨hx, hb, hml, findClass_of_methodNamed B.named, fun w h => hts0 w (List.mem_cons_of_mem _ h)⟩
  have hD : va_D (aW (mW cI cJ cB o kv kp kx kl kh ki kf kq ka kt kd kn (nI mpm) (nI mty) (nI mwi) (nI mhi) (nI mwa) (nI mle) (gI mgo) (nI mam) (bI mtm) (nI mli) (vF wd hd nb wl st sl gl aq lb sh bw bh ps) mpa (fun zz => nI (mtx zz)) (fun zz => nI (mlt zz)) (fun zz => nI (mha zz)) (fun zz => nI (mfi zz)) (fun zz => oI (mfa zz)) (fun zz => nI (mqu zz)) (fun zz => lN (mal zz)) (fun zz => nI (mta zz)) (fun zz => oI (mdi zz)) (fun zz => nI (mln zz)))) (mW cI cJ cB o kv kp kx kl kh ki kf kq ka kt kd kn (nI mpm) (nI mty) (nI mwi) (nI mhi) (nI mwa) (nI mle) (gI mgo) (nI mam) (bI mtm) (nI mli) (vF wd hd nb wl st sl gl aq lb sh bw bh ps) mpa (fun zz => nI (mtx zz)) (fun zz => nI (mlt zz)) (fun zz => nI (mha zz)) (fun zz => nI (mfi zz)) (fun zz => oI (mfa zz)) (fun zz => nI (mqu zz)) (fun zz => lN (mal zz)) (fun zz => nI (mta zz)) (fun zz => oI (mdi zz)) (fun zz => nI (mln zz))) := ⟨hD0.1, fun k q h => ⟨k, q.2, h⟩⟩
  generalize hAe : aW (mW cI cJ cB o kv kp kx kl kh ki kf kq ka kt kd kn (nI mpm) (nI mty) (nI mwi) (nI mhi) (nI mwa) (nI mle) (gI mgo) (nI mam) (bI mtm) (nI mli) (vF wd hd nb wl st sl gl aq lb sh bw bh ps) mpa (fun zz => nI (mtx zz)) (fun zz => nI (mlt zz)) (fun zz => nI (mha zz)) (fun zz => nI (mfi zz)) (fun zz => oI (mfa zz)) (fun zz => nI (mqu zz)) (fun zz => lN (mal zz)) (fun zz => nI (mta zz)) (fun zz => oI (mdi zz)) (fun zz => nI (mln zz))) = A at hD ⊢
  have hS : va_S A s.heap s.heap [] := va_S.rf
  have hl := lv_entry ([.ref o]) (n := 1) (Nat.le_of_ble_eq_true rfl)
  rw [lg_entry_eq]
  generalize (lg_sl ([.ref o]) ++ List.replicate (1 - (lg_sl ([.ref o])).length) Slot.unset).toArray = ls at hl ⊢
  have hl : lv_has ls 1 [(0, .ref o)] := hl
  generalize hav : ([.ref o] : List Value).toArray = args at hC ⊢
  refine W_gen (fun QQ hQ => ?_)
  show W p l e (rmN 3) s m args below meth c s.heap [] 0 0 QQ (F0 m 0 ls [])
  obtain ⟨hf, hps, hk1, hga, hlb⟩ := id htv
  have hn7 := hf.2.2.2.2.2.1
  have h24 := hf.2.2.2.2.1
  refine lv_aload_n hx hb dX8_stateMany_0 rfl (lv_at hl 0 rfl) ?_
  refine lv_bipush (v := (-9)) hx hb dX8_stateMany_1 (by decide) ?_
  refine callV_v (As := [.int (-9)]) (rest := []) [0, 1, 2, 3, 4, 5, 6, 7, 8, 9, 10, 11, 12] hC hK hN hP hD rfl (by decide) hS 0 (ci := 8) rfl rfl rfl (c_X8_explores l D cI cJ cB o kv kp kx kl kh ki kf kq ka kt kd kn mpm mty mwi mhi mwa mle mam mli mgo mtm mpa mtx mlt mha mfi mqu mta mln mal mfa mdi wd hd nb wl st sl gl aq lb sh bw bh ps none hf (fun d h => by cases h) hps hk1) q879 md_X8_explores rfl hl.1 rfl (Nat.le_of_ble_eq_true rfl) dX8_stateMany_3 ⟨Nat.le_of_ble_eq_true rfl, Nat.le_of_ble_eq_true rfl⟩ ⟨Nat.le_of_ble_eq_true rfl, Nat.le_of_ble_eq_true rfl⟩ (fun w H locs hpost hP hD hS => ?_)
  obtain ⟨K2_3, n2_3, T2_3, tm2_3, rfl, hei, hcl⟩ := hpost
  have hP : va_P D vwCl (mW cI cJ cB o kv kp kx kl kh ki kf kq ka kt kd kn (nI mpm) (nI mty) (nI mwi) (nI mhi) (nI mwa) (nI mle) (gI none) (nI n2_3) (bI tm2_3) (nI mli) (vF wd hd nb wl st sl gl aq lb sh bw bh ps) mpa (fun zz => nI (mtx zz)) (fun zz => nI (mlt zz)) (fun zz => nI (mha zz)) (fun zz => nI (mfi zz)) (fun zz => oI (mfa zz)) (fun zz => nI (mqu zz)) (fun zz => lN (K2_3 zz)) (fun zz => nI (T2_3 zz)) (fun zz => oI (mdi zz)) (fun zz => nI (mln zz))) H := hP
  have hD : va_D A (mW cI cJ cB o kv kp kx kl kh ki kf kq ka kt kd kn (nI mpm) (nI mty) (nI mwi) (nI mhi) (nI mwa) (nI mle) (gI none) (nI n2_3) (bI tm2_3) (nI mli) (vF wd hd nb wl st sl gl aq lb sh bw bh ps) mpa (fun zz => nI (mtx zz)) (fun zz => nI (mlt zz)) (fun zz => nI (mha zz)) (fun zz => nI (mfi zz)) (fun zz => oI (mfa zz)) (fun zz => nI (mqu zz)) (fun zz => lN (K2_3 zz)) (fun zz => nI (T2_3 zz)) (fun zz => oI (mdi zz)) (fun zz => nI (mln zz))) := hD
  refine lv_aload_n hx hb dX8_stateMany_6 rfl (lv_at hl 0 rfl) ?_
  refine gf_X8_128 hC hK hP 0 rfl rfl dX8_stateMany_7 ?_
  refine b_if_eq (tgt := 18) hx hb dX8_stateMany_10 (by decide) (fun c10 => ?_) (fun c10 => ?_)
  · have _ : True := trivial
    refine lv_aload_n hx hb dX8_stateMany_18 rfl (lv_at hl 0 rfl) ?_
    refine gf_X8_125 hC hK hP 0 rfl rfl dX8_stateMany_19 ?_
    rw [hQ]
    exact W.iret (v := nI n2_3) hx hb hr (fun t9 ht hW => ⟨⟨_, _, rfl, ⟨none, K2_3, n2_3, T2_3, tm2_3, mdi, mln, mli, mfa, mqu, (f_states_eq (Or.inr ⟨_, _, hei.2.1, EI_enum hei hcl c10, rfl⟩)), rfl⟩, by rw [ht]; exact hP, rfl⟩, hS.F ht⟩) hS.2.2 dX8_stateMany_22
  · have _ : True := trivial
    refine lv_bipush (v := (-3)) hx hb dX8_stateMany_13 (by decide) ?_
    refine lv_goto (tgt := 22) hx hb dX8_stateMany_15 (by decide) ?_
    rw [hQ]
    exact W.iret (v := (-3)) hx hb hr (fun t9 ht hW => ⟨⟨_, _, rfl, ⟨none, K2_3, n2_3, T2_3, tm2_3, mdi, mln, mli, mfa, mqu, (f_states_eq (Or.inl ⟨EI_big hei c10, rfl⟩)), rfl⟩, by rw [ht]; exact hP, rfl⟩, hS.F ht⟩) hS.2.2 dX8_stateMany_22

set_option maxHeartbeats 400000 in
set_option maxRecDepth 100000 in
theorem c_X8_states (l : Launch) (D : va_G) (cI cJ cB : ClassId) (o kv kp kx kl kh ki kf kq ka kt kd kn mpm mty mwi mhi mwa mle mam mli : Nat) (mgo : Option Nat) (mtm : Bool) (mpa : Nat → Int32) (mtx mlt mha mfi mqu mta mln mal : Nat → Nat) (mfa mdi : Nat → Option Nat) (wd hd nb wl : Nat) (st sl : Int32) (gl aq lb : Option Nat) (sh bw bh ps : Nat → Nat) (htv : TV wd hd nb wl sh bw bh ps gl aq lb) : Met l yX8_states (Cond.code yX8_states cX8_states 1 (some .int) :: lw_all) (rmN 4) (va_Pc [.ref o] (pB D (tyz cI cJ cB) (mW cI cJ cB o kv kp kx kl kh ki kf kq ka kt kd kn (nI mpm) (nI mty) (nI mwi) (nI mhi) (nI mwa) (nI mle) (gI mgo) (nI mam) (bI mtm) (nI mli) (vF wd hd nb wl st sl gl aq lb sh bw bh ps) mpa (fun zz => nI (mtx zz)) (fun zz => nI (mlt zz)) (fun zz => nI (mha zz)) (fun zz => nI (mfi zz)) (fun zz => oI (mfa zz)) (fun zz => nI (mqu zz)) (fun zz => lN (mal zz)) (fun zz => nI (mta zz)) (fun zz => oI (mdi zz)) (fun zz => nI (mln zz))))) (va_Qi (fun (r : Int32) (w : va_W) => ∃ go2 : Option Nat, ∃ K2 : Nat → Nat, ∃ n2 : Nat, ∃ T2 : Nat → Nat, ∃ tm2 : Bool, ∃ F2 : Nat → Option Nat, ∃ L2 : Nat → Nat, ∃ l2 : Nat, ∃ fa2 : Nat → Option Nat, ∃ qa2 : Nat → Nat, r = f_states (kst wd hd nb wl sh bw bh none) (pkey ps nb) ∧ w = mW cI cJ cB o kv kp kx kl kh ki kf kq ka kt kd kn (nI mpm) (nI mty) (nI mwi) (nI mhi) (nI mwa) (nI mle) (gI go2) (nI n2) (bI tm2) (nI l2) (vF wd hd nb wl st sl gl aq lb sh bw bh ps) mpa (fun zz => nI (mtx zz)) (fun zz => nI (mlt zz)) (fun zz => nI (mha zz)) (fun zz => nI (mfi zz)) (fun zz => oI (fa2 zz)) (fun zz => nI (qa2 zz)) (fun zz => lN (K2 zz)) (fun zz => nI (T2 zz)) (fun zz => oI (F2 zz)) (fun zz => nI (L2 zz))) (gB D (mW cI cJ cB o kv kp kx kl kh ki kf kq ka kt kd kn (nI mpm) (nI mty) (nI mwi) (nI mhi) (nI mwa) (nI mle) (gI mgo) (nI mam) (bI mtm) (nI mli) (vF wd hd nb wl st sl gl aq lb sh bw bh ps) mpa (fun zz => nI (mtx zz)) (fun zz => nI (mlt zz)) (fun zz => nI (mha zz)) (fun zz => nI (mfi zz)) (fun zz => oI (mfa zz)) (fun zz => nI (mqu zz)) (fun zz => lN (mal zz)) (fun zz => nI (mta zz)) (fun zz => oI (mdi zz)) (fun zz => nI (mln zz)))) (aW (mW cI cJ cB o kv kp kx kl kh ki kf kq ka kt kd kn (nI mpm) (nI mty) (nI mwi) (nI mhi) (nI mwa) (nI mle) (gI mgo) (nI mam) (bI mtm) (nI mli) (vF wd hd nb wl st sl gl aq lb sh bw bh ps) mpa (fun zz => nI (mtx zz)) (fun zz => nI (mlt zz)) (fun zz => nI (mha zz)) (fun zz => nI (mfi zz)) (fun zz => oI (mfa zz)) (fun zz => nI (mqu zz)) (fun zz => lN (mal zz)) (fun zz => nI (mta zz)) (fun zz => oI (mdi zz)) (fun zz => nI (mln zz))))) 0 0 (aW (mW cI cJ cB o kv kp kx kl kh ki kf kq ka kt kd kn (nI mpm) (nI mty) (nI mwi) (nI mhi) (nI mwa) (nI mle) (gI mgo) (nI mam) (bI mtm) (nI mli) (vF wd hd nb wl st sl gl aq lb sh bw bh ps) mpa (fun zz => nI (mtx zz)) (fun zz => nI (mlt zz)) (fun zz => nI (mha zz)) (fun zz => nI (mfi zz)) (fun zz => oI (mfa zz)) (fun zz => nI (mqu zz)) (fun zz => lN (mal zz)) (fun zz => nI (mta zz)) (fun zz => oI (mdi zz)) (fun zz => nI (mln zz)))) := by
  refine Met.ofW (cc := cX8_states) (maxL := 1) (ret := (some .int)) (by decide) rfl ?_
  intro p e s m args below meth c s₁ B hml hv
  obtain ⟨rfl, hK, hN, hP, hD0⟩ := hv
  have hx := B.exec; have hb := B.bytes; have hr := B.returns; have hlocks := B.notSynchronized
  have hts0 := atoms_spec (ws := Cond.code yX8_states cX8_states 1 (some .int) :: lw_all) B.pre
  have hC : CallFix p m c cX8_states 1 s _ lw_all RX8 := ⟨hx, hb, hml, findClass_of_methodNamed B.named, fun w h => hts0 w (List.mem_cons_of_mem _ h)⟩
  have hD : va_D (aW (mW cI cJ cB o kv kp kx kl kh ki kf kq ka kt kd kn (nI mpm) (nI mty) (nI mwi) (nI mhi) (nI mwa) (nI mle) (gI mgo) (nI mam) (bI mtm) (nI mli) (vF wd hd nb wl st sl gl aq lb sh bw bh ps) mpa (fun zz => nI (mtx zz)) (fun zz => nI (mlt zz)) (fun zz => nI (mha zz)) (fun zz => nI (mfi zz)) (fun zz => oI (mfa zz)) (fun zz => nI (mqu zz)) (fun zz => lN (mal zz)) (fun zz => nI (mta zz)) (fun zz => oI (mdi zz)) (fun zz => nI (mln zz)))) (mW cI cJ cB o kv kp kx kl kh ki kf kq ka kt kd kn (nI mpm) (nI mty) (nI mwi) (nI mhi) (nI mwa) (nI mle) (gI mgo) (nI mam) (bI mtm) (nI mli) (vF wd hd nb wl st sl gl aq lb sh bw bh ps) mpa (fun zz => nI (mtx zz)) (fun zz => nI (mlt zz)) (fun zz => nI (mha zz)) (fun zz => nI (mfi zz)) (fun zz => oI (mfa zz)) (fun zz => nI (mqu zz)) (fun zz => lN (mal zz)) (fun zz => nI (mta zz)) (fun zz => oI (mdi zz)) (fun zz => nI (mln zz))) := ⟨hD0.1, fun k q h => ⟨k, q.2, h⟩⟩
  generalize hAe : aW (mW cI cJ cB o kv kp kx kl kh ki kf kq ka kt kd kn (nI mpm) (nI mty) (nI mwi) (nI mhi) (nI mwa) (nI mle) (gI mgo) (nI mam) (bI mtm) (nI mli) (vF wd hd nb wl st sl gl aq lb sh bw bh ps) mpa (fun zz => nI (mtx zz)) (fun zz => nI (mlt zz)) (fun zz => nI (mha zz)) (fun zz => nI (mfi zz)) (fun zz => oI (mfa zz)) (fun zz => nI (mqu zz)) (fun zz => lN (mal zz)) (fun zz => nI (mta zz)) (fun zz => oI (mdi zz)) (fun zz => nI (mln zz))) = A at hD ⊢
  have hS : va_S A s.heap s.heap [] := va_S.rf
  have hl := lv_entry ([.ref o]) (n := 1) (Nat.le_of_ble_eq_true rfl)
  rw [lg_entry_eq]
  generalize (lg_sl ([.ref o]) ++ List.replicate (1 - (lg_sl ([.ref o])).length) Slot.unset).toArray = ls at hl ⊢
  have hl : lv_has ls 1 [(0, .ref o)] := hl
  generalize hav : ([.ref o] : List Value).toArray = args at hC ⊢
  refine W_gen (fun QQ hQ => ?_)
  show W p l e (rmN 4) s m args below meth c s.heap [] 0 0 QQ (F0 m 0 ls [])
  refine lv_aload_n hx hb dX8_states_0 rfl (lv_at hl 0 rfl) ?_
  refine callV_i (As := []) (rest := []) [0, 1, 2, 3, 4, 5, 6, 7, 8, 9, 10, 11, 12] hC hK hN hP hD rfl (by decide) hS 0 (ci := 8) rfl rfl rfl (c_X8_stateMany l D cI cJ cB o kv kp kx kl kh ki kf kq ka kt kd kn mpm mty mwi mhi mwa mle mam mli mgo mtm mpa mtx mlt mha mfi mqu mta mln mal mfa mdi wd hd nb wl st sl gl aq lb sh bw bh ps htv) q875 md_X8_stateMany rfl hl.1 rfl (Nat.le_of_ble_eq_true rfl) dX8_states_1 ⟨Nat.le_of_ble_eq_true rfl, Nat.le_of_ble_eq_true rfl⟩ ⟨Nat.le_of_ble_eq_true rfl, Nat.le_of_ble_eq_true rfl⟩ (fun r_1 w H locs hpost hP hD hS => ?_)
  obtain ⟨go2_1, K2_1, n2_1, T2_1, tm2_1, F2_1, L2_1, l2_1, fa2_1, qa2_1, rfl, rfl⟩ := hpost
  have hP : va_P D vwCl (mW cI cJ cB o kv kp kx kl kh ki kf kq ka kt kd kn (nI mpm) (nI mty) (nI mwi) (nI mhi) (nI mwa) (nI mle) (gI go2_1) (nI n2_1) (bI tm2_1) (nI l2_1) (vF wd hd nb wl st sl gl aq lb sh bw bh ps) mpa (fun zz => nI (mtx zz)) (fun zz => nI (mlt zz)) (fun zz => nI (mha zz)) (fun zz => nI (mfi zz)) (fun zz => oI (fa2_1 zz)) (fun zz => nI (qa2_1 zz)) (fun zz => lN (K2_1 zz)) (fun zz => nI (T2_1 zz)) (fun zz => oI (F2_1 zz)) (fun zz => nI (L2_1 zz))) H := hP
  have hD : va_D A (mW cI cJ cB o kv kp kx kl kh ki kf kq ka kt kd kn (nI mpm) (nI mty) (nI mwi) (nI mhi) (nI mwa) (nI mle) (gI go2_1) (nI n2_1) (bI tm2_1) (nI l2_1) (vF wd hd nb wl st sl gl aq lb sh bw bh ps) mpa (fun zz => nI (mtx zz)) (fun zz => nI (mlt zz)) (fun zz => nI (mha zz)) (fun zz => nI (mfi zz)) (fun zz => oI (fa2_1 zz)) (fun zz => nI (qa2_1 zz)) (fun zz => lN (K2_1 zz)) (fun zz => nI (T2_1 zz)) (fun zz => oI (F2_1 zz)) (fun zz => nI (L2_1 zz))) := hD
  rw [hQ]
  exact W.iret (v := f_states (kst wd hd nb wl sh bw bh none) (pkey ps nb)) hx hb hr (fun t9 ht hW => ⟨⟨_, _, rfl, ⟨go2_1, K2_1, n2_1, T2_1, tm2_1, F2_1, L2_1, l2_1, fa2_1, qa2_1, rfl, rfl⟩, by rw [ht]; exact hP, rfl⟩, hS.F ht⟩) hS.2.2 dX8_states_4

set_option maxHeartbeats 400000 in
set_option maxRecDepth 100000 in
theorem c_X8_farthest (l : Launch) (D : va_G) (cI cJ cB : ClassId) (o kv kp kx kl kh ki kf kq ka kt kd kn mpm mty mwi mhi mwa mle mam mli : Nat) (mgo : Option Nat) (mtm : Bool) (mpa : Nat → Int32) (mtx mlt mha mfi mqu mta mln mal : Nat → Nat) (mfa mdi : Nat → Option Nat) (wd hd nb wl : Nat) (st sl : Int32) (gl aq lb : Option Nat) (sh bw bh ps : Nat → Nat) (ham : mam ≤ 2000) (ham1 : 1 ≤ mam) (hall : ∀ i, i < mam → ∃ d, mdi i = some d ∧ d < 2000) : Met l yX8_farthest (Cond.code yX8_farthest cX8_farthest 3 (some .int) :: lw_all) (rmN 0) (va_Pc [.ref o] (pB D (tyz cI cJ cB) (mW cI cJ cB o kv kp kx kl kh ki kf kq ka kt kd kn (nI mpm) (nI mty) (nI mwi) (nI mhi) (nI mwa) (nI mle) (gI mgo) (nI mam) (bI mtm) (nI mli) (vF wd hd nb wl st sl gl aq lb sh bw bh ps) mpa (fun zz => nI (mtx zz)) (fun zz => nI (mlt zz)) (fun zz => nI (mha zz)) (fun zz => nI (mfi zz)) (fun zz => oI (mfa zz)) (fun zz => nI (mqu zz)) (fun zz => lN (mal zz)) (fun zz => nI (mta zz)) (fun zz => oI (mdi zz)) (fun zz => nI (mln zz))))) (va_Qi (fun (r : Int32) (w : va_W) => ∃ mx : Nat, r = nI mx ∧ w = mW cI cJ cB o kv kp kx kl kh ki kf kq ka kt kd kn (nI mpm) (nI mty) (nI mwi) (nI mhi) (nI mwa) (nI mle) (gI mgo) (nI mam) (bI mtm) (nI mli) (vF wd hd nb wl st sl gl aq lb sh bw bh ps) mpa (fun zz => nI (mtx zz)) (fun zz => nI (mlt zz)) (fun zz => nI (mha zz)) (fun zz => nI (mfi zz)) (fun zz => oI (mfa zz)) (fun zz => nI (mqu zz)) (fun zz => lN (mal zz)) (fun zz => nI (mta zz)) (fun zz => oI (mdi zz)) (fun zz => nI (mln zz)) ∧ (∀ i, i < mam → ∀ d, mdi i = some d → d ≤ mx) ∧ (∃ i, i < mam ∧ mdi i = some mx) ∧ mx < 2000) (gB D (mW cI cJ cB o kv kp kx kl kh ki kf kq ka kt kd kn (nI mpm) (nI mty) (nI mwi) (nI mhi) (nI mwa) (nI mle) (gI mgo) (nI mam) (bI mtm) (nI mli) (vF wd hd nb wl st sl gl aq lb sh bw bh ps) mpa (fun zz => nI (mtx zz)) (fun zz => nI (mlt zz)) (fun zz => nI (mha zz)) (fun zz => nI (mfi zz)) (fun zz => oI (mfa zz)) (fun zz => nI (mqu zz)) (fun zz => lN (mal zz)) (fun zz => nI (mta zz)) (fun zz => oI (mdi zz)) (fun zz => nI (mln zz)))) (aW (mW cI cJ cB o kv kp kx kl kh ki kf kq ka kt kd kn (nI mpm) (nI mty) (nI mwi) (nI mhi) (nI mwa) (nI mle) (gI mgo) (nI mam) (bI mtm) (nI mli) (vF wd hd nb wl st sl gl aq lb sh bw bh ps) mpa (fun zz => nI (mtx zz)) (fun zz => nI (mlt zz)) (fun zz => nI (mha zz)) (fun zz => nI (mfi zz)) (fun zz => oI (mfa zz)) (fun zz => nI (mqu zz)) (fun zz => lN (mal zz)) (fun zz => nI (mta zz)) (fun zz => oI (mdi zz)) (fun zz => nI (mln zz))))) 0 0 (aW (mW cI cJ cB o kv kp kx kl kh ki kf kq ka kt kd kn (nI mpm) (nI mty) (nI mwi) (nI mhi) (nI mwa) (nI mle) (gI mgo) (nI mam) (bI mtm) (nI mli) (vF wd hd nb wl st sl gl aq lb sh bw bh ps) mpa (fun zz => nI (mtx zz)) (fun zz => nI (mlt zz)) (fun zz => nI (mha zz)) (fun zz => nI (mfi zz)) (fun zz => oI (mfa zz)) (fun zz => nI (mqu zz)) (fun zz => lN (mal zz)) (fun zz => nI (mta zz)) (fun zz => oI (mdi zz)) (fun zz => nI (mln zz)))) := by
  refine Met.ofW (cc := cX8_farthest) (maxL := 3) (ret := (some .int)) (by decide) rfl ?_
  intro p e s m args below meth c s₁ B hml hv
  obtain ⟨rfl, hK, hN, hP, hD0⟩ := hv
  have hx := B.exec; have hb := B.bytes; have hr := B.returns; have hlocks := B.notSynchronized
  have hts0 := atoms_spec (ws := Cond.code yX8_farthest cX8_farthest 3 (some .int) :: lw_all) B.pre
  have hC : CallFix p m c cX8_farthest 3 s _ lw_all RX8 := ⟨hx, hb, hml, findClass_of_methodNamed B.named, fun w h => hts0 w (List.mem_cons_of_mem _ h)⟩
  have hD : va_D (aW (mW cI cJ cB o kv kp kx kl kh ki kf kq ka kt kd kn (nI mpm) (nI mty) (nI mwi) (nI mhi) (nI mwa) (nI mle) (gI mgo) (nI mam) (bI mtm) (nI mli) (vF wd hd nb wl st sl gl aq lb sh bw bh ps) mpa (fun zz => nI (mtx zz)) (fun zz => nI (mlt zz)) (fun zz => nI (mha zz)) (fun zz => nI (mfi zz)) (fun zz => oI (mfa zz)) (fun zz => nI (mqu zz)) (fun zz => lN (mal zz)) (fun zz => nI (mta zz)) (fun zz => oI (mdi zz)) (fun zz => nI (mln zz)))) (mW cI cJ cB o kv kp kx kl kh ki kf kq ka kt kd kn (nI mpm) (nI mty) (nI mwi) (nI mhi) (nI mwa) (nI mle) (gI mgo) (nI mam) (bI mtm) (nI mli) (vF wd hd nb wl st sl gl aq lb sh bw bh ps) mpa (fun zz => nI (mtx zz)) (fun zz => nI (mlt zz)) (fun zz => nI (mha zz)) (fun zz => nI (mfi zz)) (fun zz => oI (mfa zz)) (fun zz => nI (mqu zz)) (fun zz => lN (mal zz)) (fun zz => nI (mta zz)) (fun zz => oI (mdi zz)) (fun zz => nI (mln zz))) := ⟨hD0.1, fun k q h => ⟨k, q.2, h⟩⟩
  generalize hAe : aW (mW cI cJ cB o kv kp kx kl kh ki kf kq ka kt kd kn (nI mpm) (nI mty) (nI mwi) (nI mhi) (nI mwa) (nI mle) (gI mgo) (nI mam) (bI mtm) (nI mli) (vF wd hd nb wl st sl gl aq lb sh bw bh ps) mpa (fun zz => nI (mtx zz)) (fun zz => nI (mlt zz)) (fun zz => nI (mha zz)) (fun zz => nI (mfi zz)) (fun zz => oI (mfa zz)) (fun zz => nI (mqu zz)) (fun zz => lN (mal zz)) (fun zz => nI (mta zz)) (fun zz => oI (mdi zz)) (fun zz => nI (mln zz))) = A at hD ⊢
  have hS : va_S A s.heap s.heap [] := va_S.rf
  have hl := lv_entry ([.ref o]) (n := 3) (Nat.le_of_ble_eq_true rfl)
  rw [lg_entry_eq]
  generalize (lg_sl ([.ref o]) ++ List.replicate (3 - (lg_sl ([.ref o])).length) Slot.unset).toArray = ls at hl ⊢
  have hl : lv_has ls 3 [(0, .ref o)] := hl
  generalize hav : ([.ref o] : List Value).toArray = args at hC ⊢
  refine W_gen (fun QQ hQ => ?_)
  show W p l e (rmN 0) s m args below meth c s.heap [] 0 0 QQ (F0 m 0 ls [])
  refine lv_iconst (v := nI 0) hx hb dX8_farthest_0 (by decide) ?_
  refine lv_istore_n (lv' := [(1, .int (nI 0)), (0, .ref o)]) hx hb dX8_farthest_1 rfl hl (by decide) rfl (fun ls hl => ?_)
  refine lv_iconst (v := nI 0) hx hb dX8_farthest_2 (by decide) ?_
  refine lv_istore_n (lv' := [(2, .int (nI 0)), (1, .int (nI 0)), (0, .ref o)]) hx hb dX8_farthest_3 rfl hl (by decide) rfl (fun ls hl => ?_)
  have L4 : ∀ (n : Nat) (i : Nat) (x : Nat), (i ≤ mam) → (∀ j, j < i → ∀ d, mdi j = some d → d ≤ x) → (x = 0 ∨ ∃ j, j < i ∧ mdi j = some x) → (x < 2000) → (mam - i) < n → ∀ (H : Heap) (locs : List Loc), va_P D vwCl (mW cI cJ cB o kv kp kx kl kh ki kf kq ka kt kd kn (nI mpm) (nI mty) (nI mwi) (nI mhi) (nI mwa) (nI mle) (gI mgo) (nI mam) (bI mtm) (nI mli) (vF wd hd nb wl st sl gl aq lb sh bw bh ps) mpa (fun zz => nI (mtx zz)) (fun zz => nI (mlt zz)) (fun zz => nI (mha zz)) (fun zz => nI (mfi zz)) (fun zz => oI (mfa zz)) (fun zz => nI (mqu zz)) (fun zz => lN (mal zz)) (fun zz => nI (mta zz)) (fun zz => oI (mdi zz)) (fun zz => nI (mln zz))) H → va_D A (mW cI cJ cB o kv kp kx kl kh ki kf kq ka kt kd kn (nI mpm) (nI mty) (nI mwi) (nI mhi) (nI mwa) (nI mle) (gI mgo) (nI mam) (bI mtm) (nI mli) (vF wd hd nb wl st sl gl aq lb sh bw bh ps) mpa (fun zz => nI (mtx zz)) (fun zz => nI (mlt zz)) (fun zz => nI (mha zz)) (fun zz => nI (mfi zz)) (fun zz => oI (mfa zz)) (fun zz => nI (mqu zz)) (fun zz => lN (mal zz)) (fun zz => nI (mta zz)) (fun zz => oI (mdi zz)) (fun zz => nI (mln zz))) → va_S A s.heap H locs → ∀ ls : Array Slot, lv_has ls 3 [(1, .int (nI x)), (2, .int (nI i)), (0, .ref o)] → W p l e (rmN 0) s m args below meth c H locs 0 0 QQ (F0 m 4 ls []) := by
    intro n; induction n with
    | zero => intro i x ii i1 i2 i3 hm; exact absurd hm (Nat.not_lt_zero _)
    | succ n ih4 =>
      intro i x ii i1 i2 i3 hm4 H locs hP hD hS ls hl
      refine lv_iload_n hx hb dX8_farthest_4 rfl (lv_at hl 1 rfl) ?_
      refine lv_aload_n hx hb dX8_farthest_5 rfl (lv_at hl 2 rfl) ?_
      refine gf_X8_125 hC hK hP 0 rfl rfl dX8_farthest_6 ?_
      refine n_icmp_ge (a := i) (b := mam) (tgt := 39) hx hb dX8_farthest_9 (by decide) (by omega) (by omega) (fun c9 => ?_) (fun c9 => ?_)
      · have _ : True := trivial
        have e9 : i = mam := by omega
        subst e9
        refine lv_iload_n hx hb dX8_farthest_39 rfl (lv_at hl 0 rfl) ?_
        rw [hQ]
        exact W.iret (v := nI x) hx hb hr (fun t9 ht hW => ⟨⟨_, _, rfl, ⟨x, rfl, rfl, i1, (i2.elim (fun e => by obtain ⟨d, h1, h2⟩ := hall 0 (by omega); have := i1 0 (by omega) d h1; exact ⟨0, by omega, by rw [h1, e]; congr 1; omega⟩) id), i3⟩, by rw [ht]; exact hP, rfl⟩, hS.F ht⟩) hS.2.2 dX8_farthest_40
      · have _ : True := trivial
        obtain ⟨d, hd9, hd8⟩ := hall i c9
        refine lv_aload_n hx hb dX8_farthest_12 rfl (lv_at hl 2 rfl) ?_
        refine gf_X8_45 hC hK hP 0 rfl rfl dX8_farthest_13 ?_
        refine lv_iload_n hx hb dX8_farthest_16 rfl (lv_at hl 1 rfl) ?_
        refine n_iald hx hb hK hP 11 0 rfl rfl (by omega) (by decide) dX8_farthest_17 ?_
        refine topi (y := nI d) (by rw [hd9]; rfl) ?_
        refine lv_iload_n hx hb dX8_farthest_18 rfl (lv_at hl 0 rfl) ?_
        refine n_icmp_le (a := d) (b := x) (tgt := 31) hx hb dX8_farthest_19 (by decide) (by omega) (by omega) (fun c19 => ?_) (fun c19 => ?_)
        · have _ : True := trivial
          refine lv_iload_n hx hb dX8_farthest_31 rfl (lv_at hl 0 rfl) ?_
          refine lv_istore_n (lv' := [(1, .int (nI x)), (2, .int (nI i)), (0, .ref o)]) hx hb dX8_farthest_32 rfl hl (by decide) rfl (fun ls hl => ?_)
          refine lv_iinc (v := nI (i + 1)) (lv' := [(2, .int (nI (i + 1))), (1, .int (nI x)), (0, .ref o)]) hx hb dX8_farthest_33 hl (k := 1) rfl (nI_1 _) (by decide) rfl (fun ls hl => ?_)
          refine lv_goto (tgt := 4) hx hb dX8_farthest_36 (by decide) ?_
          exact ih4 (i + 1) x (by omega) (lt_s i1 (fun d h => by rw [hd9] at h; cases h; exact c19)) (i2.elim Or.inl (fun ⟨j, h1, h2⟩ => Or.inr ⟨j, by omega, h2⟩)) (by omega) (by omega) _ _ hP hD hS _ (lv_sub hl [1, 0, 2] rfl)
        · have _ : True := trivial
          refine lv_aload_n hx hb dX8_farthest_22 rfl (lv_at hl 2 rfl) ?_
          refine gf_X8_45 hC hK hP 0 rfl rfl dX8_farthest_23 ?_
          refine lv_iload_n hx hb dX8_farthest_26 rfl (lv_at hl 1 rfl) ?_
          refine n_iald hx hb hK hP 11 0 rfl rfl (by omega) (by decide) dX8_farthest_27 ?_
          refine topi (y := nI d) (by rw [hd9]; rfl) ?_
          refine lv_goto (tgt := 32) hx hb dX8_farthest_28 (by decide) ?_
          refine lv_istore_n (lv' := [(1, .int (nI d)), (2, .int (nI i)), (0, .ref o)]) hx hb dX8_farthest_32 rfl hl (by decide) rfl (fun ls hl => ?_)
          refine lv_iinc (v := nI (i + 1)) (lv' := [(2, .int (nI (i + 1))), (1, .int (nI d)), (0, .ref o)]) hx hb dX8_farthest_33 hl (k := 1) rfl (nI_1 _) (by decide) rfl (fun ls hl => ?_)
          refine lv_goto (tgt := 4) hx hb dX8_farthest_36 (by decide) ?_
          exact ih4 (i + 1) d (by omega) (lt_s (fun j h1 d h2 => Nat.le_of_lt (Nat.lt_of_le_of_lt (i1 j h1 d h2) c19)) (fun d h => by rw [hd9] at h; cases h; exact Nat.le_refl _)) (Or.inr ⟨i, by omega, hd9⟩) (by omega) (by omega) _ _ hP hD hS _ (lv_sub hl [1, 0, 2] rfl)
  exact L4 _ 0 0 (by omega) (fun j h => absurd h (Nat.not_lt_zero j)) (Or.inl rfl) (by omega) (Nat.lt_succ_self _) _ _ hP hD hS _ (lv_sub hl [1, 0, 2] rfl)

set_option maxHeartbeats 400000 in
set_option maxRecDepth 100000 in
theorem c_X8_worst (l : Launch) (D : va_G) (cI cJ cB : ClassId) (o kv kp kx kl kh ki kf kq ka kt kd kn mpm mty mwi mhi mwa mle mam mli : Nat) (mgo : Option Nat) (mtm : Bool) (mpa : Nat → Int32) (mtx mlt mha mfi mqu mta mln mal : Nat → Nat) (mfa mdi : Nat → Option Nat) (wd hd nb wl : Nat) (st sl : Int32) (gl aq lb : Option Nat) (sh bw bh ps : Nat → Nat) (z : Bool) (htv : TV wd hd nb wl sh bw bh ps gl aq lb) : Met l yX8_worst (Cond.code yX8_worst cX8_worst 3 (some .int) :: lw_all) (rmN 5) (va_Pc [.ref o, .int (bI z)] (pB D (tyz cI cJ cB) (mW cI cJ cB o kv kp kx kl kh ki kf kq ka kt kd kn (nI mpm) (nI mty) (nI mwi) (nI mhi) (nI mwa) (nI mle) (gI mgo) (nI mam) (bI mtm) (nI mli) (vF wd hd nb wl st sl gl aq lb sh bw bh ps) mpa (fun zz => nI (mtx zz)) (fun zz => nI (mlt zz)) (fun zz => nI (mha zz)) (fun zz => nI (mfi zz)) (fun zz => oI (mfa zz)) (fun zz => nI (mqu zz)) (fun zz => lN (mal zz)) (fun zz => nI (mta zz)) (fun zz => oI (mdi zz)) (fun zz => nI (mln zz))))) (va_Qi (fun (r : Int32) (w : va_W) => ∃ go2 : Option Nat, ∃ K2 : Nat → Nat, ∃ n2 : Nat, ∃ T2 : Nat → Nat, ∃ tm2 : Bool, ∃ F2 : Nat → Option Nat, ∃ L2 : Nat → Nat, ∃ l2 : Nat, ∃ fa2 : Nat → Option Nat, ∃ qa2 : Nat → Nat, r = f_worst (kst wd hd nb wl sh bw bh none) (mvk wd hd nb wl sh bw bh none z) gl aq (pkey ps nb) ∧ w = mW cI cJ cB o kv kp kx kl kh ki kf kq ka kt kd kn (nI mpm) (nI mty) (nI mwi) (nI mhi) (nI mwa) (nI mle) (gI go2) (nI n2) (bI tm2) (nI l2) (vF wd hd nb wl st sl gl aq lb sh bw bh ps) mpa (fun zz => nI (mtx zz)) (fun zz => nI (mlt zz)) (fun zz => nI (mha zz)) (fun zz => nI (mfi zz)) (fun zz => oI (fa2 zz)) (fun zz => nI (qa2 zz)) (fun zz => lN (K2 zz)) (fun zz => nI (T2 zz)) (fun zz => oI (F2 zz)) (fun zz => nI (L2 zz))) (gB D (mW cI cJ cB o kv kp kx kl kh ki kf kq ka kt kd kn (nI mpm) (nI mty) (nI mwi) (nI mhi) (nI mwa) (nI mle) (gI mgo) (nI mam) (bI mtm) (nI mli) (vF wd hd nb wl st sl gl aq lb sh bw bh ps) mpa (fun zz => nI (mtx zz)) (fun zz => nI (mlt zz)) (fun zz => nI (mha zz)) (fun zz => nI (mfi zz)) (fun zz => oI (mfa zz)) (fun zz => nI (mqu zz)) (fun zz => lN (mal zz)) (fun zz => nI (mta zz)) (fun zz => oI (mdi zz)) (fun zz => nI (mln zz)))) (aW (mW cI cJ cB o kv kp kx kl kh ki kf kq ka kt kd kn (nI mpm) (nI mty) (nI mwi) (nI mhi) (nI mwa) (nI mle) (gI mgo) (nI mam) (bI mtm) (nI mli) (vF wd hd nb wl st sl gl aq lb sh bw bh ps) mpa (fun zz => nI (mtx zz)) (fun zz => nI (mlt zz)) (fun zz => nI (mha zz)) (fun zz => nI (mfi zz)) (fun zz => oI (mfa zz)) (fun zz => nI (mqu zz)) (fun zz => lN (mal zz)) (fun zz => nI (mta zz)) (fun zz => oI (mdi zz)) (fun zz => nI (mln zz))))) 0 0 (aW (mW cI cJ cB o kv kp kx kl kh ki kf kq ka kt kd kn (nI mpm) (nI mty) (nI mwi) (nI mhi) (nI mwa) (nI mle) (gI mgo) (nI mam) (bI mtm) (nI mli) (vF wd hd nb wl st sl gl aq lb sh bw bh ps) mpa (fun zz => nI (mtx zz)) (fun zz => nI (mlt zz)) (fun zz => nI (mha zz)) (fun zz => nI (mfi zz)) (fun zz => oI (mfa zz)) (fun zz => nI (mqu zz)) (fun zz => lN (mal zz)) (fun zz => nI (mta zz)) (fun zz => oI (mdi zz)) (fun zz => nI (mln zz)))) := by
  refine Met.ofW (cc := cX8_worst) (maxL := 3) (ret := (some .int)) (by decide) rfl ?_
  intro p e s m args below meth c s₁ B hml hv
  obtain ⟨rfl, hK, hN, hP, hD0⟩ := hv
  have hx := B.exec; have hb := B.bytes; have hr := B.returns; have hlocks := B.notSynchronized
  have hts0 := atoms_spec (ws := Cond.code yX8_worst cX8_worst 3 (some .int) :: lw_all) B.pre
  have hC : CallFix p m c cX8_worst 3 s _ lw_all RX8 := ⟨hx, hb, hml, findClass_of_methodNamed B.named, fun w h => hts0 w (List.mem_cons_of_mem _ h)⟩
  have hD : va_D (aW (mW cI cJ cB o kv kp kx kl kh ki kf kq ka kt kd kn (nI mpm) (nI mty) (nI mwi) (nI mhi) (nI mwa) (nI mle) (gI mgo) (nI mam) (bI mtm) (nI mli) (vF wd hd nb wl st sl gl aq lb sh bw bh ps) mpa (fun zz => nI (mtx zz)) (fun zz => nI (mlt zz)) (fun zz => nI (mha zz)) (fun zz => nI (mfi zz)) (fun zz => oI (mfa zz)) (fun zz => nI (mqu zz)) (fun zz => lN (mal zz)) (fun zz => nI (mta zz)) (fun zz => oI (mdi zz)) (fun zz => nI (mln zz)))) (mW cI cJ cB o kv kp kx kl kh ki kf kq ka kt kd kn (nI mpm) (nI mty) (nI mwi) (nI mhi) (nI mwa) (nI mle) (gI mgo) (nI mam) (bI mtm) (nI mli) (vF wd hd nb wl st sl gl aq lb sh bw bh ps) mpa (fun zz => nI (mtx zz)) (fun zz => nI (mlt zz)) (fun zz => nI (mha zz)) (fun zz => nI (mfi zz)) (fun zz => oI (mfa zz)) (fun zz => nI (mqu zz)) (fun zz => lN (mal zz)) (fun zz => nI (mta zz)) (fun zz => oI (mdi zz)) (fun zz => nI (mln zz))) := ⟨hD0.1, fun k q h => ⟨k, q.2, h⟩⟩
  generalize hAe : aW (mW cI cJ cB o kv kp kx kl kh ki kf kq ka kt kd kn (nI mpm) (nI mty) (nI mwi) (nI mhi) (nI mwa) (nI mle) (gI mgo) (nI mam) (bI mtm) (nI mli) (vF wd hd nb wl st sl gl aq lb sh bw bh ps) mpa (fun zz => nI (mtx zz)) (fun zz => nI (mlt zz)) (fun zz => nI (mha zz)) (fun zz => nI (mfi zz)) (fun zz => oI (mfa zz)) (fun zz => nI (mqu zz)) (fun zz => lN (mal zz)) (fun zz => nI (mta zz)) (fun zz => oI (mdi zz)) (fun zz => nI (mln zz))) = A at hD ⊢
  have hS : va_S A s.heap s.heap [] := va_S.rf
  have hl := lv_entry ([.ref o, .int (bI z)]) (n := 3) (Nat.le_of_ble_eq_true rfl)
  rw [lg_entry_eq]
  generalize (lg_sl ([.ref o, .int (bI z)]) ++ List.replicate (3 - (lg_sl ([.ref o, .int (bI z)])).length) Slot.unset).toArray = ls at hl ⊢
  have hl : lv_has ls 3 [(0, .ref o), (1, .int (bI z))] := hl
  generalize hav : ([.ref o, .int (bI z)] : List Value).toArray = args at hC ⊢
  refine W_gen (fun QQ hQ => ?_)
  show W p l e (rmN 5) s m args below meth c s.heap [] 0 0 QQ (F0 m 0 ls [])
  obtain ⟨hf, hps, hk1, hga, hlb⟩ := id htv
  have hn7 := hf.2.2.2.2.2.1
  have h24 := hf.2.2.2.2.1
  refine lv_aload_n hx hb dX8_worst_0 rfl (lv_at hl 0 rfl) ?_
  refine lv_iload_n hx hb dX8_worst_1 rfl (lv_at hl 1 rfl) ?_
  refine lv_bipush (v := (-9)) hx hb dX8_worst_2 (by decide) ?_
  refine callV_i (As := [.int (bI z), .int (-9)]) (rest := []) [0, 1, 2, 3, 4, 5, 6, 7, 8, 9, 10, 11, 12] hC hK hN hP hD rfl (by decide) hS 0 (ci := 8) rfl rfl rfl (c_X8_opens l D cI cJ cB o kv kp kx kl kh ki kf kq ka kt kd kn mpm mty mwi mhi mwa mle mam mli mgo mtm mpa mtx mlt mha mfi mqu mta mln mal mfa mdi wd hd nb wl st sl gl aq lb sh bw bh ps z none htv (fun d h => by cases h) (fun d _ h => by cases h) hk1) q904 md_X8_opens rfl hl.1 rfl (Nat.le_of_ble_eq_true rfl) dX8_worst_4 ⟨Nat.le_of_ble_eq_true rfl, Nat.le_of_ble_eq_true rfl⟩ ⟨Nat.le_of_ble_eq_true rfl, Nat.le_of_ble_eq_true rfl⟩ (fun r_4 w H locs hpost hP hD hS => ?_)
  obtain ⟨go2_4, K2_4, n2_4, T2_4, tm2_4, F2_4, L2_4, l2_4, fa2_4, qa2_4, rfl, hop, h4_og⟩ := hpost
  have hP : va_P D vwCl (mW cI cJ cB o kv kp kx kl kh ki kf kq ka kt kd kn (nI mpm) (nI mty) (nI mwi) (nI mhi) (nI mwa) (nI mle) (gI go2_4) (nI n2_4) (bI tm2_4) (nI l2_4) (vF wd hd nb wl st sl gl aq lb sh bw bh ps) mpa (fun zz => nI (mtx zz)) (fun zz => nI (mlt zz)) (fun zz => nI (mha zz)) (fun zz => nI (mfi zz)) (fun zz => oI (fa2_4 zz)) (fun zz => nI (qa2_4 zz)) (fun zz => lN (K2_4 zz)) (fun zz => nI (T2_4 zz)) (fun zz => oI (F2_4 zz)) (fun zz => nI (L2_4 zz))) H := hP
  have hD : va_D A (mW cI cJ cB o kv kp kx kl kh ki kf kq ka kt kd kn (nI mpm) (nI mty) (nI mwi) (nI mhi) (nI mwa) (nI mle) (gI go2_4) (nI n2_4) (bI tm2_4) (nI l2_4) (vF wd hd nb wl st sl gl aq lb sh bw bh ps) mpa (fun zz => nI (mtx zz)) (fun zz => nI (mlt zz)) (fun zz => nI (mha zz)) (fun zz => nI (mfi zz)) (fun zz => oI (fa2_4 zz)) (fun zz => nI (qa2_4 zz)) (fun zz => lN (K2_4 zz)) (fun zz => nI (T2_4 zz)) (fun zz => oI (F2_4 zz)) (fun zz => nI (L2_4 zz))) := hD
  refine lv_istore_n (lv' := [(2, .int r_4), (0, .ref o), (1, .int (bI z))]) hx hb dX8_worst_7 rfl hl (by decide) rfl (fun ls hl => ?_)
  refine lv_iload_n hx hb dX8_worst_8 rfl (lv_at hl 0 rfl) ?_
  refine lv_if_ne (tgt := 19) hx hb dX8_worst_9 (by decide) (fun c9 => ?_) (fun c9 => ?_)
  · have _ : True := trivial
    refine lv_iload_n hx hb dX8_worst_19 rfl (lv_at hl 0 rfl) ?_
    rw [hQ]
    exact W.iret (v := r_4) hx hb hr (fun t9 ht hW => ⟨⟨_, _, rfl, ⟨go2_4, K2_4, n2_4, T2_4, tm2_4, F2_4, L2_4, l2_4, fa2_4, qa2_4, (worst_bad hop c9), rfl⟩, by rw [ht]; exact hP, rfl⟩, hS.F ht⟩) hS.2.2 dX8_worst_20
  · have _ : True := trivial
    have hog := OPN_good hf hk1 hop c9
    obtain ⟨g, ap, hgl, haq, b1, b2, b3, b4, b5, b6, b7, b8, b9, b10⟩ := id hog
    refine lv_aload_n hx hb dX8_worst_12 rfl (lv_at hl 1 rfl) ?_
    refine callV_i (As := []) (rest := []) [0, 1, 2, 3, 4, 5, 6, 7, 8, 9, 10, 11, 12] hC hK hN hP hD rfl (by decide) hS 0 (ci := 8) rfl rfl rfl (c_X8_farthest l D cI cJ cB o kv kp kx kl kh ki kf kq ka kt kd kn mpm mty mwi mhi mwa mle n2_4 l2_4 go2_4 tm2_4 mpa mtx mlt mha mfi qa2_4 T2_4 L2_4 K2_4 fa2_4 F2_4 wd hd nb wl st sl gl aq lb sh bw bh ps b2 b3 b10) q936 md_X8_farthest rfl hl.1 rfl (Nat.le_of_ble_eq_true rfl) dX8_worst_13 ⟨Nat.le_of_ble_eq_true rfl, Nat.le_of_ble_eq_true rfl⟩ ⟨Nat.le_of_ble_eq_true rfl, Nat.le_of_ble_eq_true rfl⟩ (fun r_13 w H locs hpost hP hD hS => ?_)
    obtain ⟨mx_13, rfl, rfl, hf1, hf2, hf3⟩ := hpost
    have hP : va_P D vwCl (mW cI cJ cB o kv kp kx kl kh ki kf kq ka kt kd kn (nI mpm) (nI mty) (nI mwi) (nI mhi) (nI mwa) (nI mle) (gI go2_4) (nI n2_4) (bI tm2_4) (nI l2_4) (vF wd hd nb wl st sl gl aq lb sh bw bh ps) mpa (fun zz => nI (mtx zz)) (fun zz => nI (mlt zz)) (fun zz => nI (mha zz)) (fun zz => nI (mfi zz)) (fun zz => oI (fa2_4 zz)) (fun zz => nI (qa2_4 zz)) (fun zz => lN (K2_4 zz)) (fun zz => nI (T2_4 zz)) (fun zz => oI (F2_4 zz)) (fun zz => nI (L2_4 zz))) H := hP
    have hD : va_D A (mW cI cJ cB o kv kp kx kl kh ki kf kq ka kt kd kn (nI mpm) (nI mty) (nI mwi) (nI mhi) (nI mwa) (nI mle) (gI go2_4) (nI n2_4) (bI tm2_4) (nI l2_4) (vF wd hd nb wl st sl gl aq lb sh bw bh ps) mpa (fun zz => nI (mtx zz)) (fun zz => nI (mlt zz)) (fun zz => nI (mha zz)) (fun zz => nI (mfi zz)) (fun zz => oI (fa2_4 zz)) (fun zz => nI (qa2_4 zz)) (fun zz => lN (K2_4 zz)) (fun zz => nI (T2_4 zz)) (fun zz => oI (F2_4 zz)) (fun zz => nI (L2_4 zz))) := hD
    refine lv_goto (tgt := 20) hx hb dX8_worst_16 (by decide) ?_
    rw [hQ]
    exact W.iret (v := nI mx_13) hx hb hr (fun t9 ht hW => ⟨⟨_, _, rfl, ⟨go2_4, K2_4, n2_4, T2_4, tm2_4, F2_4, L2_4, l2_4, fa2_4, qa2_4, (worst_good hog hf1 hf2), rfl⟩, by rw [ht]; exact hP, rfl⟩, hS.F ht⟩) hS.2.2 dX8_worst_20

set_option maxHeartbeats 400000 in
set_option maxRecDepth 100000 in
theorem c_X8_mean (l : Launch) (D : va_G) (cI cJ cB : ClassId) (o kv kp kx kl kh ki kf kq ka kt kd kn mpm mty mwi mhi mwa mle mam mli : Nat) (mgo : Option Nat) (mtm : Bool) (mpa : Nat → Int32) (mtx mlt mha mfi mqu mta mln mal : Nat → Nat) (mfa mdi : Nat → Option Nat) (wd hd nb wl : Nat) (st sl : Int32) (gl aq lb : Option Nat) (sh bw bh ps : Nat → Nat) (z : Bool) (htv : TV wd hd nb wl sh bw bh ps gl aq lb) : Met l yX8_mean (Cond.code yX8_mean cX8_mean 4 (some .float) :: lw_all) (rmN 5) (va_Pc [.ref o, .int (bI z)] (pB D (tyz cI cJ cB) (mW cI cJ cB o kv kp kx kl kh ki kf kq ka kt kd kn (nI mpm) (nI mty) (nI mwi) (nI mhi) (nI mwa) (nI mle) (gI mgo) (nI mam) (bI mtm) (nI mli) (vF wd hd nb wl st sl gl aq lb sh bw bh ps) mpa (fun zz => nI (mtx zz)) (fun zz => nI (mlt zz)) (fun zz => nI (mha zz)) (fun zz => nI (mfi zz)) (fun zz => oI (mfa zz)) (fun zz => nI (mqu zz)) (fun zz => lN (mal zz)) (fun zz => nI (mta zz)) (fun zz => oI (mdi zz)) (fun zz => nI (mln zz))))) (va_Qf (fun (r : UInt32) (w : va_W) => ∃ go2 : Option Nat, ∃ K2 : Nat → Nat, ∃ n2 : Nat, ∃ T2 : Nat → Nat, ∃ tm2 : Bool, ∃ F2 : Nat → Option Nat, ∃ L2 : Nat → Nat, ∃ l2 : Nat, ∃ fa2 : Nat → Option Nat, ∃ qa2 : Nat → Nat, r = f_mean (kst wd hd nb wl sh bw bh none) (mvk wd hd nb wl sh bw bh none z) gl aq (pkey ps nb) ∧ w = mW cI cJ cB o kv kp kx kl kh ki kf kq ka kt kd kn (nI mpm) (nI mty) (nI mwi) (nI mhi) (nI mwa) (nI mle) (gI go2) (nI n2) (bI tm2) (nI l2) (vF wd hd nb wl st sl gl aq lb sh bw bh ps) mpa (fun zz => nI (mtx zz)) (fun zz => nI (mlt zz)) (fun zz => nI (mha zz)) (fun zz => nI (mfi zz)) (fun zz => oI (fa2 zz)) (fun zz => nI (qa2 zz)) (fun zz => lN (K2 zz)) (fun zz => nI (T2 zz)) (fun zz => oI (F2 zz)) (fun zz => nI (L2 zz))) (gB D (mW cI cJ cB o kv kp kx kl kh ki kf kq ka kt kd kn (nI mpm) (nI mty) (nI mwi) (nI mhi) (nI mwa) (nI mle) (gI mgo) (nI mam) (bI mtm) (nI mli) (vF wd hd nb wl st sl gl aq lb sh bw bh ps) mpa (fun zz => nI (mtx zz)) (fun zz => nI (mlt zz)) (fun zz => nI (mha zz)) (fun zz => nI (mfi zz)) (fun zz => oI (mfa zz)) (fun zz => nI (mqu zz)) (fun zz => lN (mal zz)) (fun zz => nI (mta zz)) (fun zz => oI (mdi zz)) (fun zz => nI (mln zz)))) (aW (mW cI cJ cB o kv kp kx kl kh ki kf kq ka kt kd kn (nI mpm) (nI mty) (nI mwi) (nI mhi) (nI mwa) (nI mle) (gI mgo) (nI mam) (bI mtm) (nI mli) (vF wd hd nb wl st sl gl aq lb sh bw bh ps) mpa (fun zz => nI (mtx zz)) (fun zz => nI (mlt zz)) (fun zz => nI (mha zz)) (fun zz => nI (mfi zz)) (fun zz => oI (mfa zz)) (fun zz => nI (mqu zz)) (fun zz => lN (mal zz)) (fun zz => nI (mta zz)) (fun zz => oI (mdi zz)) (fun zz => nI (mln zz))))) 0 0 (aW (mW cI cJ cB o kv kp kx kl kh ki kf kq ka kt kd kn (nI mpm) (nI mty) (nI mwi) (nI mhi) (nI mwa) (nI mle) (gI mgo) (nI mam) (bI mtm) (nI mli) (vF wd hd nb wl st sl gl aq lb sh bw bh ps) mpa (fun zz => nI (mtx zz)) (fun zz => nI (mlt zz)) (fun zz => nI (mha zz)) (fun zz => nI (mfi zz)) (fun zz => oI (mfa zz)) (fun zz => nI (mqu zz)) (fun zz => lN (mal zz)) (fun zz => nI (mta zz)) (fun zz => oI (mdi zz)) (fun zz => nI (mln zz)))) := by
  refine Met.ofW (cc := cX8_mean) (maxL := 4) (ret := (some .float)) (by decide) rfl ?_
  intro p e s m args below meth c s₁ B hml hv
  obtain ⟨rfl, hK, hN, hP, hD0⟩ := hv
  have hx := B.exec; have hb := B.bytes; have hr := B.returns; have hlocks := B.notSynchronized
  have hts0 := atoms_spec (ws := Cond.code yX8_mean cX8_mean 4 (some .float) :: lw_all) B.pre
  have hC : CallFix p m c cX8_mean 4 s _ lw_all RX8 := ⟨hx, hb, hml, findClass_of_methodNamed B.named, fun w h => hts0 w (List.mem_cons_of_mem _ h)⟩
  have hD : va_D (aW (mW cI cJ cB o kv kp kx kl kh ki kf kq ka kt kd kn (nI mpm) (nI mty) (nI mwi) (nI mhi) (nI mwa) (nI mle) (gI mgo) (nI mam) (bI mtm) (nI mli) (vF wd hd nb wl st sl gl aq lb sh bw bh ps) mpa (fun zz => nI (mtx zz)) (fun zz => nI (mlt zz)) (fun zz => nI (mha zz)) (fun zz => nI (mfi zz)) (fun zz => oI (mfa zz)) (fun zz => nI (mqu zz)) (fun zz => lN (mal zz)) (fun zz => nI (mta zz)) (fun zz => oI (mdi zz)) (fun zz => nI (mln zz)))) (mW cI cJ cB o kv kp kx kl kh ki kf kq ka kt kd kn (nI mpm) (nI mty) (nI mwi) (nI mhi) (nI mwa) (nI mle) (gI mgo) (nI mam) (bI mtm) (nI mli) (vF wd hd nb wl st sl gl aq lb sh bw bh ps) mpa (fun zz => nI (mtx zz)) (fun zz => nI (mlt zz)) (fun zz => nI (mha zz)) (fun zz => nI (mfi zz)) (fun zz => oI (mfa zz)) (fun zz => nI (mqu zz)) (fun zz => lN (mal zz)) (fun zz => nI (mta zz)) (fun zz => oI (mdi zz)) (fun zz => nI (mln zz))) := ⟨hD0.1, fun k q h => ⟨k, q.2, h⟩⟩
  generalize hAe : aW (mW cI cJ cB o kv kp kx kl kh ki kf kq ka kt kd kn (nI mpm) (nI mty) (nI mwi) (nI mhi) (nI mwa) (nI mle) (gI mgo) (nI mam) (bI mtm) (nI mli) (vF wd hd nb wl st sl gl aq lb sh bw bh ps) mpa (fun zz => nI (mtx zz)) (fun zz => nI (mlt zz)) (fun zz => nI (mha zz)) (fun zz => nI (mfi zz)) (fun zz => oI (mfa zz)) (fun zz => nI (mqu zz)) (fun zz => lN (mal zz)) (fun zz => nI (mta zz)) (fun zz => oI (mdi zz)) (fun zz => nI (mln zz))) = A at hD ⊢
  have hS : va_S A s.heap s.heap [] := va_S.rf
  have hl := lv_entry ([.ref o, .int (bI z)]) (n := 4) (Nat.le_of_ble_eq_true rfl)
  rw [lg_entry_eq]
  generalize (lg_sl ([.ref o, .int (bI z)]) ++ List.replicate (4 - (lg_sl ([.ref o, .int (bI z)])).length) Slot.unset).toArray = ls at hl ⊢
  have hl : lv_has ls 4 [(0, .ref o), (1, .int (bI z))] := hl
  generalize hav : ([.ref o, .int (bI z)] : List Value).toArray = args at hC ⊢
  refine W_gen (fun QQ hQ => ?_)
  show W p l e (rmN 5) s m args below meth c s.heap [] 0 0 QQ (F0 m 0 ls [])
  obtain ⟨hf, hps, hk1, hga, hlb⟩ := id htv
  have hn7 := hf.2.2.2.2.2.1
  have h24 := hf.2.2.2.2.1
  refine lv_aload_n hx hb dX8_mean_0 rfl (lv_at hl 0 rfl) ?_
  refine lv_iload_n hx hb dX8_mean_1 rfl (lv_at hl 1 rfl) ?_
  refine lv_bipush (v := (-9)) hx hb dX8_mean_2 (by decide) ?_
  refine callV_i (As := [.int (bI z), .int (-9)]) (rest := []) [0, 1, 2, 3, 4, 5, 6, 7, 8, 9, 10, 11, 12] hC hK hN hP hD rfl (by decide) hS 0 (ci := 8) rfl rfl rfl (c_X8_opens l D cI cJ cB o kv kp kx kl kh ki kf kq ka kt kd kn mpm mty mwi mhi mwa mle mam mli mgo mtm mpa mtx mlt mha mfi mqu mta mln mal mfa mdi wd hd nb wl st sl gl aq lb sh bw bh ps z none htv (fun d h => by cases h) (fun d _ h => by cases h) hk1) q904 md_X8_opens rfl hl.1 rfl (Nat.le_of_ble_eq_true rfl) dX8_mean_4 ⟨Nat.le_of_ble_eq_true rfl, Nat.le_of_ble_eq_true rfl⟩ ⟨Nat.le_of_ble_eq_true rfl, Nat.le_of_ble_eq_true rfl⟩ (fun r_4 w H locs hpost hP hD hS => ?_)
  obtain ⟨go2_4, K2_4, n2_4, T2_4, tm2_4, F2_4, L2_4, l2_4, fa2_4, qa2_4, rfl, hop, h4_og⟩ := hpost
  have hP : va_P D vwCl (mW cI cJ cB o kv kp kx kl kh ki kf kq ka kt kd kn (nI mpm) (nI mty) (nI mwi) (nI mhi) (nI mwa) (nI mle) (gI go2_4) (nI n2_4) (bI tm2_4) (nI l2_4) (vF wd hd nb wl st sl gl aq lb sh bw bh ps) mpa (fun zz => nI (mtx zz)) (fun zz => nI (mlt zz)) (fun zz => nI (mha zz)) (fun zz => nI (mfi zz)) (fun zz => oI (fa2_4 zz)) (fun zz => nI (qa2_4 zz)) (fun zz => lN (K2_4 zz)) (fun zz => nI (T2_4 zz)) (fun zz => oI (F2_4 zz)) (fun zz => nI (L2_4 zz))) H := hP
  have hD : va_D A (mW cI cJ cB o kv kp kx kl kh ki kf kq ka kt kd kn (nI mpm) (nI mty) (nI mwi) (nI mhi) (nI mwa) (nI mle) (gI go2_4) (nI n2_4) (bI tm2_4) (nI l2_4) (vF wd hd nb wl st sl gl aq lb sh bw bh ps) mpa (fun zz => nI (mtx zz)) (fun zz => nI (mlt zz)) (fun zz => nI (mha zz)) (fun zz => nI (mfi zz)) (fun zz => oI (fa2_4 zz)) (fun zz => nI (qa2_4 zz)) (fun zz => lN (K2_4 zz)) (fun zz => nI (T2_4 zz)) (fun zz => oI (F2_4 zz)) (fun zz => nI (L2_4 zz))) := hD
  refine lv_if_eq (tgt := 13) hx hb dX8_mean_7 (by decide) (fun c7 => ?_) (fun c7 => ?_)
  · have _ : True := trivial
    have hog := OPN_good hf hk1 hop c7
    obtain ⟨g, ap, hgl, haq, b1, b2, b3, b4, b5, b6, b7, b8, b9, b10⟩ := id hog
    refine lv_iconst (v := nI 0) hx hb dX8_mean_13 (by decide) ?_
    refine topi (y := nI (sumI F2_4 0)) rfl ?_
    refine lv_istore_n (lv' := [(2, .int (nI (sumI F2_4 0))), (0, .ref o), (1, .int (bI z))]) hx hb dX8_mean_14 rfl hl (by decide) rfl (fun ls hl => ?_)
    refine lv_iconst (v := nI 0) hx hb dX8_mean_15 (by decide) ?_
    refine lv_istore_n (lv' := [(3, .int (nI 0)), (2, .int (nI (sumI F2_4 0))), (0, .ref o), (1, .int (bI z))]) hx hb dX8_mean_16 rfl hl (by decide) rfl (fun ls hl => ?_)
    have L17 : ∀ (n : Nat) (i : Nat), (i ≤ n2_4) → (n2_4 - i) < n → ∀ (H : Heap) (locs : List Loc), va_P D vwCl (mW cI cJ cB o kv kp kx kl kh ki kf kq ka kt kd kn (nI mpm) (nI mty) (nI mwi) (nI mhi) (nI mwa) (nI mle) (gI go2_4) (nI n2_4) (bI tm2_4) (nI l2_4) (vF wd hd nb wl st sl gl aq lb sh bw bh ps) mpa (fun zz => nI (mtx zz)) (fun zz => nI (mlt zz)) (fun zz => nI (mha zz)) (fun zz => nI (mfi zz)) (fun zz => oI (fa2_4 zz)) (fun zz => nI (qa2_4 zz)) (fun zz => lN (K2_4 zz)) (fun zz => nI (T2_4 zz)) (fun zz => oI (F2_4 zz)) (fun zz => nI (L2_4 zz))) H → va_D A (mW cI cJ cB o kv kp kx kl kh ki kf kq ka kt kd kn (nI mpm) (nI mty) (nI mwi) (nI mhi) (nI mwa) (nI mle) (gI go2_4) (nI n2_4) (bI tm2_4) (nI l2_4) (vF wd hd nb wl st sl gl aq lb sh bw bh ps) mpa (fun zz => nI (mtx zz)) (fun zz => nI (mlt zz)) (fun zz => nI (mha zz)) (fun zz => nI (mfi zz)) (fun zz => oI (fa2_4 zz)) (fun zz => nI (qa2_4 zz)) (fun zz => lN (K2_4 zz)) (fun zz => nI (T2_4 zz)) (fun zz => oI (F2_4 zz)) (fun zz => nI (L2_4 zz))) → va_S A s.heap H locs → ∀ ls : Array Slot, lv_has ls 4 [(2, .int (nI (sumI F2_4 i))), (3, .int (nI i)), (0, .ref o), (1, .int (bI z))] → W p l e (rmN 5) s m args below meth c H locs 0 0 QQ (F0 m 17 ls []) := by
      intro n; induction n with
      | zero => intro i ii hm; exact absurd hm (Nat.not_lt_zero _)
      | succ n ih17 =>
        intro i ii hm17 H locs hP hD hS ls hl
        refine lv_iload_n hx hb dX8_mean_17 rfl (lv_at hl 1 rfl) ?_
        refine lv_aload_n hx hb dX8_mean_18 rfl (lv_at hl 2 rfl) ?_
        refine gf_X8_125 hC hK hP 0 rfl rfl dX8_mean_19 ?_
        refine n_icmp_ge (a := i) (b := n2_4) (tgt := 40) hx hb dX8_mean_22 (by decide) (by omega) (by omega) (fun c22 => ?_) (fun c22 => ?_)
        · have _ : True := trivial
          have e9 : i = n2_4 := by omega
          refine lv_iload_n hx hb dX8_mean_40 rfl (lv_at hl 0 rfl) ?_
          refine lv_i2f hx hb dX8_mean_41 ?_
          refine lv_aload_n hx hb dX8_mean_42 rfl (lv_at hl 2 rfl) ?_
          refine gf_X8_125 hC hK hP 0 rfl rfl dX8_mean_43 ?_
          refine lv_i2f hx hb dX8_mean_46 ?_
          refine lv_fdiv hx hb dX8_mean_47 (vf_mean b3 b2) ?_
          rw [hQ]
          exact W.fret (v := FP.fdiv (FP.i2f (nI (sumI F2_4 i))) (FP.i2f (nI n2_4))) hx hb hr (fun t9 ht hW => ⟨⟨_, _, rfl, ⟨go2_4, K2_4, n2_4, T2_4, tm2_4, F2_4, L2_4, l2_4, fa2_4, qa2_4, (by rw [e9]; exact mean_good hog), rfl⟩, by rw [ht]; exact hP, rfl⟩, hS.F ht⟩) hS.2.2 dX8_mean_48
        · have _ : True := trivial
          obtain ⟨d, hd9, hd8⟩ := b10 i c22
          refine lv_iload_n hx hb dX8_mean_25 rfl (lv_at hl 0 rfl) ?_
          refine lv_aload_n hx hb dX8_mean_26 rfl (lv_at hl 2 rfl) ?_
          refine gf_X8_45 hC hK hP 0 rfl rfl dX8_mean_27 ?_
          refine lv_iload_n hx hb dX8_mean_30 rfl (lv_at hl 1 rfl) ?_
          refine n_iald hx hb hK hP 11 0 rfl rfl (by omega) (by decide) dX8_mean_31 ?_
          refine topi (y := nI d) (by rw [hd9]; rfl) ?_
          refine n_iadd hx hb dX8_mean_32  ?_
          refine topi (y := nI (sumI F2_4 (i + 1))) (by show nI (sumI F2_4 i + d) = nI (sumI F2_4 i + (F2_4 i).getD 0); rw [hd9]; rfl) ?_
          refine lv_istore_n (lv' := [(2, .int (nI (sumI F2_4 (i + 1)))), (3, .int (nI i)), (0, .ref o), (1, .int (bI z))]) hx hb dX8_mean_33 rfl hl (by decide) rfl (fun ls hl => ?_)
          refine lv_iinc (v := nI (i + 1)) (lv' := [(3, .int (nI (i + 1))), (2, .int (nI (sumI F2_4 (i + 1)))), (0, .ref o), (1, .int (bI z))]) hx hb dX8_mean_34 hl (k := 1) rfl (nI_1 _) (by decide) rfl (fun ls hl => ?_)
          refine lv_goto (tgt := 17) hx hb dX8_mean_37 (by decide) ?_
          exact ih17 (i + 1) (by omega) (by omega) _ _ hP hD hS _ (lv_sub hl [1, 0, 2, 3] rfl)
    exact L17 _ 0 (by omega) (Nat.lt_succ_self _) _ _ hP hD hS _ (lv_sub hl [1, 0, 2, 3] rfl)
  · have _ : True := trivial
    refine lv_ldcf hx hb hC.2.2.2.1 (hC.2.2.2.2 _ q948) dX8_mean_10 ?_
    rw [hQ]
    exact W.fret (v := (3212836864 : UInt32)) hx hb hr (fun t9 ht hW => ⟨⟨_, _, rfl, ⟨go2_4, K2_4, n2_4, T2_4, tm2_4, F2_4, L2_4, l2_4, fa2_4, qa2_4, (mean_bad hop c7), rfl⟩, by rw [ht]; exact hP, rfl⟩, hS.F ht⟩) hS.2.2 dX8_mean_12
