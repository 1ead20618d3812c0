set_option maxHeartbeats 400000 in
set_option maxRecDepth 100000 in
theorem c_X8_reaches (l : Launch) (D : va_G) (cI cJ cB : ClassId) (o kv kp kx kl kh ki kf kq ka kt kd kn mpm mty mwi mhi mwa mle mam mli : Nat) (mgo : Option Nat) (mtm : Bool) (mpa : Nat → Int32) (mtx mlt mha mfi mqu mta mln mal : Nat → Nat) (mfa mdi : Nat → Option Nat) (wd hd nb wl : Nat) (st sl : Int32) (gl aq lb : Option Nat) (sh bw bh ps : Nat → Nat) (x v : Nat) (hk : x < 2 ^ 35) (hT : TI 8192 hM mal mam mta) (ham : mam ≤ 2000) (hal : ∀ i, i < mam → mal i < 2 ^ 35) (hex : Has mal mam x) (hdb : ∀ i d, i < mam → mdi i = some d → d < 2 ^ 31) (hrm : ∀ i, i < mam → mdi i = none → mli < 2000) : Met l yX8_reaches (Cond.code yX8_reaches cX8_reaches 5 none :: lw_all) (rmN 1) (va_Pc [.ref o, .long (lN x), .int (nI v)] (pB D (tyz cI cJ cB) (mW cI cJ cB o kv kp kx kl kh ki kf kq ka kt kd kn (nI mpm) (nI mty) (nI mwi) (nI mhi) (nI mwa) (nI mle) (gI mgo) (nI mam) (bI mtm) (nI mli) (vF wd hd nb wl st sl gl aq lb sh bw bh ps) mpa (fun zz => nI (mtx zz)) (fun zz => nI (mlt zz)) (fun zz => nI (mha zz)) (fun zz => nI (mfi zz)) (fun zz => oI (mfa zz)) (fun zz => nI (mqu zz)) (fun zz => lN (mal zz)) (fun zz => nI (mta zz)) (fun zz => oI (mdi zz)) (fun zz => nI (mln zz))))) (va_Qv (fun (w : va_W) => ∃ i2 : Nat, ∃ F2 : Nat → Option Nat, ∃ L2 : Nat → Nat, ∃ l2 : Nat, w = mW cI cJ cB o kv kp kx kl kh ki kf kq ka kt kd kn (nI mpm) (nI mty) (nI mwi) (nI mhi) (nI mwa) (nI mle) (gI mgo) (nI mam) (bI mtm) (nI l2) (vF wd hd nb wl st sl gl aq lb sh bw bh ps) mpa (fun zz => nI (mtx zz)) (fun zz => nI (mlt zz)) (fun zz => nI (mha zz)) (fun zz => nI (mfi zz)) (fun zz => oI (mfa zz)) (fun zz => nI (mqu zz)) (fun zz => lN (mal zz)) (fun zz => nI (mta zz)) (fun zz => oI (F2 zz)) (fun zz => nI (L2 zz)) ∧ RCH mal mam mdi mln mli x v i2 F2 L2 l2) (gB D (mW cI cJ cB o kv kp kx kl kh ki kf kq ka kt kd kn (nI mpm) (nI mty) (nI mwi) (nI mhi) (nI mwa) (nI mle) (gI mgo) (nI mam) (bI mtm) (nI mli) (vF wd hd nb wl st sl gl aq lb sh bw bh ps) mpa (fun zz => nI (mtx zz)) (fun zz => nI (mlt zz)) (fun zz => nI (mha zz)) (fun zz => nI (mfi zz)) (fun zz => oI (mfa zz)) (fun zz => nI (mqu zz)) (fun zz => lN (mal zz)) (fun zz => nI (mta zz)) (fun zz => oI (mdi zz)) (fun zz => nI (mln zz)))) (aW (mW cI cJ cB o kv kp kx kl kh ki kf kq ka kt kd kn (nI mpm) (nI mty) (nI mwi) (nI mhi) (nI mwa) (nI mle) (gI mgo) (nI mam) (bI mtm) (nI mli) (vF wd hd nb wl st sl gl aq lb sh bw bh ps) mpa (fun zz => nI (mtx zz)) (fun zz => nI (mlt zz)) (fun zz => nI (mha zz)) (fun zz => nI (mfi zz)) (fun zz => oI (mfa zz)) (fun zz => nI (mqu zz)) (fun zz => lN (mal zz)) (fun zz => nI (mta zz)) (fun zz => oI (mdi zz)) (fun zz => nI (mln zz))))) 0 0 (aW (mW cI cJ cB o kv kp kx kl kh ki kf kq ka kt kd kn (nI mpm) (nI mty) (nI mwi) (nI mhi) (nI mwa) (nI mle) (gI mgo) (nI mam) (bI mtm) (nI mli) (vF wd hd nb wl st sl gl aq lb sh bw bh ps) mpa (fun zz => nI (mtx zz)) (fun zz => nI (mlt zz)) (fun zz => nI (mha zz)) (fun zz => nI (mfi zz)) (fun zz => oI (mfa zz)) (fun zz => nI (mqu zz)) (fun zz => lN (mal zz)) (fun zz => nI (mta zz)) (fun zz => oI (mdi zz)) (fun zz => nI (mln zz)))) := by
  refine Met.ofW (cc := cX8_reaches) (maxL := 5) (ret := none) (by decide) rfl ?_
  intro p e s m args below meth c s₁ B hml hv
  obtain ⟨rfl, hK, hN, hP, hD0⟩ := hv
  have hx := B.exec; have hb := B.bytes; have hr := B.returns; have hlocks := B.notSynchronized
  have hts0 := atoms_spec (ws := Cond.code yX8_reaches cX8_reaches 5 none :: lw_all) B.pre
  have hC : CallFix p m c cX8_reaches 5 s _ lw_all RX8 := ⟨hx, hb, hml, findClass_of_methodNamed B.named, fun w h => hts0 w (List.mem_cons_of_mem _ h)⟩
  have hD : va_D (aW (mW cI cJ cB o kv kp kx kl kh ki kf kq ka kt kd kn (nI mpm) (nI mty) (nI mwi) (nI mhi) (nI mwa) (nI mle) (gI mgo) (nI mam) (bI mtm) (nI mli) (vF wd hd nb wl st sl gl aq lb sh bw bh ps) mpa (fun zz => nI (mtx zz)) (fun zz => nI (mlt zz)) (fun zz => nI (mha zz)) (fun zz => nI (mfi zz)) (fun zz => oI (mfa zz)) (fun zz => nI (mqu zz)) (fun zz => lN (mal zz)) (fun zz => nI (mta zz)) (fun zz => oI (mdi zz)) (fun zz => nI (mln zz)))) (mW cI cJ cB o kv kp kx kl kh ki kf kq ka kt kd kn (nI mpm) (nI mty) (nI mwi) (nI mhi) (nI mwa) (nI mle) (gI mgo) (nI mam) (bI mtm) (nI mli) (vF wd hd nb wl st sl gl aq lb sh bw bh ps) mpa (fun zz => nI (mtx zz)) (fun zz => nI (mlt zz)) (fun zz => nI (mha zz)) (fun zz => nI (mfi zz)) (fun zz => oI (mfa zz)) (fun zz => nI (mqu zz)) (fun zz => lN (mal zz)) (fun zz => nI (mta zz)) (fun zz => oI (mdi zz)) (fun zz => nI (mln zz))) := ⟨hD0.1, fun k q h => ⟨k, q.2, h⟩⟩
  generalize hAe : aW (mW cI cJ cB o kv kp kx kl kh ki kf kq ka kt kd kn (nI mpm) (nI mty) (nI mwi) (nI mhi) (nI mwa) (nI mle) (gI mgo) (nI mam) (bI mtm) (nI mli) (vF wd hd nb wl st sl gl aq lb sh bw bh ps) mpa (fun zz => nI (mtx zz)) (fun zz => nI (mlt zz)) (fun zz => nI (mha zz)) (fun zz => nI (mfi zz)) (fun zz => oI (mfa zz)) (fun zz => nI (mqu zz)) (fun zz => lN (mal zz)) (fun zz => nI (mta zz)) (fun zz => oI (mdi zz)) (fun zz => nI (mln zz))) = A at hD ⊢
  have hS : va_S A s.heap s.heap [] := va_S.rf
  have hl := lv_entry ([.ref o, .long (lN x), .int (nI v)]) (n := 5) (Nat.le_of_ble_eq_true rfl)
  rw [lg_entry_eq]
  generalize (lg_sl ([.ref o, .long (lN x), .int (nI v)]) ++ List.replicate (5 - (lg_sl ([.ref o, .long (lN x), .int (nI v)])).length) Slot.unset).toArray = ls at hl ⊢
  have hl : lv_has ls 5 [(0, .ref o), (1, .long (lN x)), (3, .int (nI v))] := hl
  generalize hav : ([.ref o, .long (lN x), .int (nI v)] : List Value).toArray = args at hC ⊢
  refine W_gen (fun QQ hQ => ?_)
  show W p l e (rmN 1) s m args below meth c s.heap [] 0 0 QQ (F0 m 0 ls [])
  refine lv_aload_n hx hb dX8_reaches_0 rfl (lv_at hl 0 rfl) ?_
  refine gf_X8_42 hC hK hP 0 rfl rfl dX8_reaches_1 ?_
  refine lv_aload_n hx hb dX8_reaches_4 rfl (lv_at hl 0 rfl) ?_
  refine lv_lload_n hx hb dX8_reaches_5 rfl (lv_at hl 1 rfl) ?_
  refine callV_i (As := [.long (lN x)]) (rest := [.ref kt]) [0, 1, 2, 3, 4, 5, 6, 7, 8, 9, 10, 11, 12] hC hK hN hP hD rfl (by decide) hS 0 (ci := 8) rfl rfl rfl (c_X8_slot l D cI cJ cB o kv kp kx kl kh ki kf kq ka kt kd kn mpm mty mwi mhi mwa mle mam mli mgo mtm mpa mtx mlt mha mfi mqu mta mln mal mfa mdi wd hd nb wl st sl gl aq lb sh bw bh ps x (by omega) (by omega) (by omega) (by omega)) q887 md_X8_slot rfl hl.1 rfl (Nat.le_of_ble_eq_true rfl) dX8_reaches_6 ⟨Nat.le_of_ble_eq_true rfl, Nat.le_of_ble_eq_true rfl⟩ ⟨Nat.le_of_ble_eq_true rfl, Nat.le_of_ble_eq_true rfl⟩ (fun r_6 w H locs hpost hP hD hS => ?_)
  obtain ⟨t_6, rfl, rfl, h2t, h2w, h2f⟩ := hpost
  have hP : va_P D vwCl (mW cI cJ cB o kv kp kx kl kh ki kf kq ka kt kd kn (nI mpm) (nI mty) (nI mwi) (nI mhi) (nI mwa) (nI mle) (gI mgo) (nI mam) (bI mtm) (nI mli) (vF wd hd nb wl st sl gl aq lb sh bw bh ps) mpa (fun zz => nI (mtx zz)) (fun zz => nI (mlt zz)) (fun zz => nI (mha zz)) (fun zz => nI (mfi zz)) (fun zz => oI (mfa zz)) (fun zz => nI (mqu zz)) (fun zz => lN (mal zz)) (fun zz => nI (mta zz)) (fun zz => oI (mdi zz)) (fun zz => nI (mln zz))) H := hP
  have hD : va_D A (mW cI cJ cB o kv kp kx kl kh ki kf kq ka kt kd kn (nI mpm) (nI mty) (nI mwi) (nI mhi) (nI mwa) (nI mle) (gI mgo) (nI mam) (bI mtm) (nI mli) (vF wd hd nb wl st sl gl aq lb sh bw bh ps) mpa (fun zz => nI (mtx zz)) (fun zz => nI (mlt zz)) (fun zz => nI (mha zz)) (fun zz => nI (mfi zz)) (fun zz => oI (mfa zz)) (fun zz => nI (mqu zz)) (fun zz => lN (mal zz)) (fun zz => nI (mta zz)) (fun zz => oI (mdi zz)) (fun zz => nI (mln zz))) := hD
  have hps : 0 < mta ((hM x + t_6) % 8192) ∧ mal (mta ((hM x + t_6) % 8192) - 1) = x := by
    rcases h2f with h | h
    · obtain ⟨i, hi, he⟩ := hex; exact absurd he (TW_free hT h2w h i hi)
    · exact h
  have hi9 := hT.2.1 ((hM x + t_6) % 8192) (Nat.mod_lt _ (by decide))
  refine n_iald hx hb hK hP 10 0 rfl rfl (Nat.mod_lt _ (by decide)) (by decide) dX8_reaches_9 ?_
  refine lv_iconst (v := nI 1) hx hb dX8_reaches_10 (by decide) ?_
  refine n_isub hx hb dX8_reaches_11 (by omega) ?_
  refine lv_istore (lv' := [(4, .int (nI ((mta ((hM x + t_6) % 8192)) - 1))), (0, .ref o), (1, .long (lN x)), (3, .int (nI v))]) hx hb dX8_reaches_12 hl (by decide) rfl (fun ls hl => ?_)
  refine lv_aload_n hx hb dX8_reaches_14 rfl (lv_at hl 1 rfl) ?_
  refine gf_X8_45 hC hK hP 0 rfl rfl dX8_reaches_15 ?_
  refine lv_iload hx hb dX8_reaches_18 (lv_at hl 0 rfl) ?_
  refine n_iald hx hb hK hP 11 0 rfl rfl (by omega) (by decide) dX8_reaches_20 ?_
  refine o_if_ge (tgt := 53) hx hb dX8_reaches_21 (by decide) (fun d h => hdb _ d (by omega) h) (fun d21 c21 => ?_) (fun c21 => ?_)
  · have _ : True := trivial
    rw [hQ]
    exact W.vret hx hb hr (fun t9 ht hW => ⟨⟨_, rfl, ⟨mta ((hM x + t_6) % 8192) - 1, mdi, mln, mli, rfl, ⟨by omega, hps.2, Or.inl ⟨d21, c21, rfl, rfl, rfl⟩⟩⟩, by rw [ht]; exact hP, rfl⟩, hS.F ht⟩) hS.2.2 dX8_reaches_53
  · have _ : True := trivial
    refine lv_aload_n hx hb dX8_reaches_24 rfl (lv_at hl 1 rfl) ?_
    refine gf_X8_45 hC hK hP 0 rfl rfl dX8_reaches_25 ?_
    refine lv_iload hx hb dX8_reaches_28 (lv_at hl 0 rfl) ?_
    refine lv_iload_n hx hb dX8_reaches_30 rfl (lv_at hl 3 rfl) ?_
    refine n_iast hx hb hK hP hD hS 11 0 rfl rfl (by omega) (by decide) (up_oIs _ _ _) (ws1 := mW cI cJ cB o kv kp kx kl kh ki kf kq ka kt kd kn (nI mpm) (nI mty) (nI mwi) (nI mhi) (nI mwa) (nI mle) (gI mgo) (nI mam) (bI mtm) (nI mli) (vF wd hd nb wl st sl gl aq lb sh bw bh ps) mpa (fun zz => nI (mtx zz)) (fun zz => nI (mlt zz)) (fun zz => nI (mha zz)) (fun zz => nI (mfi zz)) (fun zz => oI (mfa zz)) (fun zz => nI (mqu zz)) (fun zz => lN (mal zz)) (fun zz => nI (mta zz)) (fun zz => oI ((va_up mdi ((mta ((hM x + t_6) % 8192)) - 1) (some v)) zz)) (fun zz => nI (mln zz))) rfl dX8_reaches_31 (fun H locs hP hD hS => ?_)
    refine lv_aload_n hx hb dX8_reaches_32 rfl (lv_at hl 1 rfl) ?_
    refine gf_X8_48 hC hK hP 0 rfl rfl dX8_reaches_33 ?_
    refine lv_aload_n hx hb dX8_reaches_36 rfl (lv_at hl 1 rfl) ?_
    refine gf_X8_140 hC hK hP 0 rfl rfl dX8_reaches_37 ?_
    refine lv_iload hx hb dX8_reaches_40 (lv_at hl 0 rfl) ?_
    refine n_iast hx hb hK hP hD hS 12 0 rfl rfl (hrm _ (by omega) c21) (by decide) (up_nI _ _ _) (ws1 := mW cI cJ cB o kv kp kx kl kh ki kf kq ka kt kd kn (nI mpm) (nI mty) (nI mwi) (nI mhi) (nI mwa) (nI mle) (gI mgo) (nI mam) (bI mtm) (nI mli) (vF wd hd nb wl st sl gl aq lb sh bw bh ps) mpa (fun zz => nI (mtx zz)) (fun zz => nI (mlt zz)) (fun zz => nI (mha zz)) (fun zz => nI (mfi zz)) (fun zz => oI (mfa zz)) (fun zz => nI (mqu zz)) (fun zz => lN (mal zz)) (fun zz => nI (mta zz)) (fun zz => oI ((va_up mdi ((mta ((hM x + t_6) % 8192)) - 1) (some v)) zz)) (fun zz => nI ((va_up mln mli ((mta ((hM x + t_6) % 8192)) - 1)) zz))) rfl dX8_reaches_42 (fun H locs hP hD hS => ?_)
    refine lv_aload_n hx hb dX8_reaches_43 rfl (lv_at hl 1 rfl) ?_
    refine lv_dup hx hb dX8_reaches_44 rfl ?_
    refine gf_X8_140 hC hK hP 0 rfl rfl dX8_reaches_45 ?_
    refine lv_iconst (v := nI 1) hx hb dX8_reaches_48 (by decide) ?_
    refine n_iadd hx hb dX8_reaches_49  ?_
    refine pf_X8_140 hC hK hP hD hS 0 rfl (Nat.le_of_ble_eq_true rfl) (ws1 := mW cI cJ cB o kv kp kx kl kh ki kf kq ka kt kd kn (nI mpm) (nI mty) (nI mwi) (nI mhi) (nI mwa) (nI mle) (gI mgo) (nI mam) (bI mtm) (nI (mli + 1)) (vF wd hd nb wl st sl gl aq lb sh bw bh ps) mpa (fun zz => nI (mtx zz)) (fun zz => nI (mlt zz)) (fun zz => nI (mha zz)) (fun zz => nI (mfi zz)) (fun zz => oI (mfa zz)) (fun zz => nI (mqu zz)) (fun zz => lN (mal zz)) (fun zz => nI (mta zz)) (fun zz => oI ((va_up mdi ((mta ((hM x + t_6) % 8192)) - 1) (some v)) zz)) (fun zz => nI ((va_up mln mli ((mta ((hM x + t_6) % 8192)) - 1)) zz))) rfl dX8_reaches_50 (fun H locs hP hD hS => ?_)
    rw [hQ]
    exact W.vret hx hb hr (fun t9 ht hW => ⟨⟨_, rfl, ⟨mta ((hM x + t_6) % 8192) - 1, va_up mdi ((mta ((hM x + t_6) % 8192)) - 1) (some v), va_up mln mli ((mta ((hM x + t_6) % 8192)) - 1), mli + 1, rfl, ⟨by omega, hps.2, Or.inr ⟨c21, rfl, rfl, rfl⟩⟩⟩, by rw [ht]; exact hP, rfl⟩, hS.F ht⟩) hS.2.2 dX8_reaches_53

set_option maxHeartbeats 400000 in
set_option maxRecDepth 100000 in
theorem c_X8_measures (l : Launch) (D : va_G) (cI cJ cB : ClassId) (o kv kp kx kl kh ki kf kq ka kt kd kn mpm mty mwi mhi mwa mle mam mli : Nat) (mgo : Option Nat) (mtm : Bool) (mpa : Nat → Int32) (mtx mlt mha mfi mqu mta mln mal : Nat → Nat) (mfa mdi : Nat → Option Nat) (wd hd nb wl : Nat) (st sl : Int32) (gl aq lb : Option Nat) (sh bw bh ps : Nat → Nat) (z : Bool) (g ap : Nat) (hf : FrV wd hd nb wl sh bw bh) (hgo : ∀ d, mgo = some d → d < nb) (hT : TI 8192 hM mal mam mta) (ham : mam ≤ 2000) (hv : ∀ i, i < mam → KV wd hd nb wl sh bw bh mgo (mal i)) (hcl : ∀ i, i < mam → ∀ x, kst wd hd nb wl sh bw bh mgo (mal i) x → Has mal mam x) (hg : gl = some g) (hgn : g < nb) (hgg : mgo ≠ some g) (hap : aq = some ap) (hap2 : ap < 2 ^ 31) : Met l yX8_measures (Cond.code yX8_measures cX8_measures 7 none :: lw_all) (rmN 3) (va_Pc [.ref o, .int (bI z)] (pB D (tyz cI cJ cB) (mW cI cJ cB o kv kp kx kl kh ki kf kq ka kt kd kn (nI mpm) (nI mty) (nI mwi) (nI mhi) (nI mwa) (nI mle) (gI mgo) (nI mam) (bI mtm) (nI mli) (vF wd hd nb wl st sl gl aq lb sh bw bh ps) mpa (fun zz => nI (mtx zz)) (fun zz => nI (mlt zz)) (fun zz => nI (mha zz)) (fun zz => nI (mfi zz)) (fun zz => oI (mfa zz)) (fun zz => nI (mqu zz)) (fun zz => lN (mal zz)) (fun zz => nI (mta zz)) (fun zz => oI (mdi zz)) (fun zz => nI (mln zz))))) (va_Qv (fun (w : va_W) => ∃ F3 : Nat → Option Nat, ∃ L3 : Nat → Nat, ∃ l3 : Nat, ∃ Fa : Nat → Option Nat, ∃ Qa : Nat → Nat, w = mW cI cJ cB o kv kp kx kl kh ki kf kq ka kt kd kn (nI mpm) (nI mty) (nI mwi) (nI mhi) (nI mwa) (nI mle) (gI mgo) (nI mam) (bI mtm) (nI l3) (vF wd hd nb wl st sl gl aq lb sh bw bh ps) mpa (fun zz => nI (mtx zz)) (fun zz => nI (mlt zz)) (fun zz => nI (mha zz)) (fun zz => nI (mfi zz)) (fun zz => oI (Fa zz)) (fun zz => nI (Qa zz)) (fun zz => lN (mal zz)) (fun zz => nI (mta zz)) (fun zz => oI (F3 zz)) (fun zz => nI (L3 zz)) ∧ (LD (istp mal mam (mvk wd hd nb wl sh bw bh mgo z)) (fun i => i < mam ∧ plc (mal i) g = ap) (cF mam F3)) ∧ (l3 = 0 ↔ ∀ i, cF mam F3 i = none) ∧ (∀ i d, cF mam F3 i = some d → d < 2000) ∧ l3 ≤ 2000) (gB D (mW cI cJ cB o kv kp kx kl kh ki kf kq ka kt kd kn (nI mpm) (nI mty) (nI mwi) (nI mhi) (nI mwa) (nI mle) (gI mgo) (nI mam) (bI mtm) (nI mli) (vF wd hd nb wl st sl gl aq lb sh bw bh ps) mpa (fun zz => nI (mtx zz)) (fun zz => nI (mlt zz)) (fun zz => nI (mha zz)) (fun zz => nI (mfi zz)) (fun zz => oI (mfa zz)) (fun zz => nI (mqu zz)) (fun zz => lN (mal zz)) (fun zz => nI (mta zz)) (fun zz => oI (mdi zz)) (fun zz => nI (mln zz)))) (aW (mW cI cJ cB o kv kp kx kl kh ki kf kq ka kt kd kn (nI mpm) (nI mty) (nI mwi) (nI mhi) (nI mwa) (nI mle) (gI mgo) (nI mam) (bI mtm) (nI mli) (vF wd hd nb wl st sl gl aq lb sh bw bh ps) mpa (fun zz => nI (mtx zz)) (fun zz => nI (mlt zz)) (fun zz => nI (mha zz)) (fun zz => nI (mfi zz)) (fun zz => oI (mfa zz)) (fun zz => nI (mqu zz)) (fun zz => lN (mal zz)) (fun zz => nI (mta zz)) (fun zz => oI (mdi zz)) (fun zz => nI (mln zz))))) 0 0 (aW (mW cI cJ cB o kv kp kx kl kh ki kf kq ka kt kd kn (nI mpm) (nI mty) (nI mwi) (nI mhi) (nI mwa) (nI mle) (gI mgo) (nI mam) (bI mtm) (nI mli) (vF wd hd nb wl st sl gl aq lb sh bw bh ps) mpa (fun zz => nI (mtx zz)) (fun zz => nI (mlt zz)) (fun zz => nI (mha zz)) (fun zz => nI (mfi zz)) (fun zz => oI (mfa zz)) (fun zz => nI (mqu zz)) (fun zz => lN (mal zz)) (fun zz => nI (mta zz)) (fun zz => oI (mdi zz)) (fun zz => nI (mln zz)))) := by
  refine Met.ofW (cc := cX8_measures) (maxL := 7) (ret := none) (by decide) rfl ?_
  intro p e s m args below meth c s₁ B hml hv
  obtain ⟨rfl, hK, hN, hP, hD0⟩ := hv
  have hx := B.exec; have hb := B.bytes; have hr := B.returns; have hlocks := B.notSynchronized
  have hts0 := atoms_spec (ws := Cond.code yX8_measures cX8_measures 7 none :: lw_all) B.pre
  have hC : CallFix p m c cX8_measures 7 s _ lw_all RX8 := ⟨hx, hb, hml, findClass_of_methodNamed B.named, fun w h => hts0 w (List.mem_cons_of_mem _ h)⟩
  have hD : va_D (aW (mW cI cJ cB o kv kp kx kl kh ki kf kq ka kt kd kn (nI mpm) (nI mty) (nI mwi) (nI mhi) (nI mwa) (nI mle) (gI mgo) (nI mam) (bI mtm) (nI mli) (vF wd hd nb wl st sl gl aq lb sh bw bh ps) mpa (fun zz => nI (mtx zz)) (fun zz => nI (mlt zz)) (fun zz => nI (mha zz)) (fun zz => nI (mfi zz)) (fun zz => oI (mfa zz)) (fun zz => nI (mqu zz)) (fun zz => lN (mal zz)) (fun zz => nI (mta zz)) (fun zz => oI (mdi zz)) (fun zz => nI (mln zz)))) (mW cI cJ cB o kv kp kx kl kh ki kf kq ka kt kd kn (nI mpm) (nI mty) (nI mwi) (nI mhi) (nI mwa) (nI mle) (gI mgo) (nI mam) (bI mtm) (nI mli) (vF wd hd nb wl st sl gl aq lb sh bw bh ps) mpa (fun zz => nI (mtx zz)) (fun zz => nI (mlt zz)) (fun zz => nI (mha zz)) (fun zz => nI (mfi zz)) (fun zz => oI (mfa zz)) (fun zz => nI (mqu zz)) (fun zz => lN (mal zz)) (fun zz => nI (mta zz)) (fun zz => oI (mdi zz)) (fun zz => nI (mln zz))) := ⟨hD0.1, fun k q h => ⟨k, q.2, h⟩⟩
  generalize hAe : aW (mW cI cJ cB o kv kp kx kl kh ki kf kq ka kt kd kn (nI mpm) (nI mty) (nI mwi) (nI mhi) (nI mwa) (nI mle) (gI mgo) (nI mam) (bI mtm) (nI mli) (vF wd hd nb wl st sl gl aq lb sh bw bh ps) mpa (fun zz => nI (mtx zz)) (fun zz => nI (mlt zz)) (fun zz => nI (mha zz)) (fun zz => nI (mfi zz)) (fun zz => oI (mfa zz)) (fun zz => nI (mqu zz)) (fun zz => lN (mal zz)) (fun zz => nI (mta zz)) (fun zz => oI (mdi zz)) (fun zz => nI (mln zz))) = A at hD ⊢
  have hS : va_S A s.heap s.heap [] := va_S.rf
  have hl := lv_entry ([.ref o, .int (bI z)]) (n := 7) (Nat.le_of_ble_eq_true rfl)
  rw [lg_entry_eq]
  generalize (lg_sl ([.ref o, .int (bI z)]) ++ List.replicate (7 - (lg_sl ([.ref o, .int (bI z)])).length) Slot.unset).toArray = ls at hl ⊢
  have hl : lv_has ls 7 [(0, .ref o), (1, .int (bI z))] := hl
  generalize hav : ([.ref o, .int (bI z)] : List Value).toArray = args at hC ⊢
  refine W_gen (fun QQ hQ => ?_)
  show W p l e (rmN 3) s m args below meth c s.heap [] 0 0 QQ (F0 m 0 ls [])
  obtain ⟨hw1, hw6, hd1, hd6, h24, hn7, hwl, hsh⟩ := _root_.id hf
  refine lv_aload_n hx hb dX8_measures_0 rfl (lv_at hl 0 rfl) ?_
  refine lv_iconst (v := nI 0) hx hb dX8_measures_1 (by decide) ?_
  refine pf_X8_140 hC hK hP hD hS 0 rfl (Nat.le_of_ble_eq_true rfl) (ws1 := mW cI cJ cB o kv kp kx kl kh ki kf kq ka kt kd kn (nI mpm) (nI mty) (nI mwi) (nI mhi) (nI mwa) (nI mle) (gI mgo) (nI mam) (bI mtm) (nI 0) (vF wd hd nb wl st sl gl aq lb sh bw bh ps) mpa (fun zz => nI (mtx zz)) (fun zz => nI (mlt zz)) (fun zz => nI (mha zz)) (fun zz => nI (mfi zz)) (fun zz => oI (mfa zz)) (fun zz => nI (mqu zz)) (fun zz => lN (mal zz)) (fun zz => nI (mta zz)) (fun zz => oI (mdi zz)) (fun zz => nI (mln zz))) rfl dX8_measures_2 (fun H locs hP hD hS => ?_)
  refine lv_iconst (v := nI 0) hx hb dX8_measures_5 (by decide) ?_
  refine lv_istore_n (lv' := [(2, .int (nI 0)), (0, .ref o), (1, .int (bI z))]) hx hb dX8_measures_6 rfl hl (by decide) rfl (fun ls hl => ?_)
  have L7 : ∀ (n : Nat) (u : Nat) (F : Nat → Option Nat) (L : Nat → Nat) (l9 : Nat), (MS0 (istp mal mam (mvk wd hd nb wl sh bw bh mgo z)) (fun i => plc (mal i) g = ap) F L l9 u) → (u ≤ mam) → (mam - u) < n → ∀ (H : Heap) (locs : List Loc), va_P D vwCl (mW cI cJ cB o kv kp kx kl kh ki kf kq ka kt kd kn (nI mpm) (nI mty) (nI mwi) (nI mhi) (nI mwa) (nI mle) (gI mgo) (nI mam) (bI mtm) (nI l9) (vF wd hd nb wl st sl gl aq lb sh bw bh ps) mpa (fun zz => nI (mtx zz)) (fun zz => nI (mlt zz)) (fun zz => nI (mha zz)) (fun zz => nI (mfi zz)) (fun zz => oI (mfa zz)) (fun zz => nI (mqu zz)) (fun zz => lN (mal zz)) (fun zz => nI (mta zz)) (fun zz => oI (F zz)) (fun zz => nI (L zz))) H → va_D A (mW cI cJ cB o kv kp kx kl kh ki kf kq ka kt kd kn (nI mpm) (nI mty) (nI mwi) (nI mhi) (nI mwa) (nI mle) (gI mgo) (nI mam) (bI mtm) (nI l9) (vF wd hd nb wl st sl gl aq lb sh bw bh ps) mpa (fun zz => nI (mtx zz)) (fun zz => nI (mlt zz)) (fun zz => nI (mha zz)) (fun zz => nI (mfi zz)) (fun zz => oI (mfa zz)) (fun zz => nI (mqu zz)) (fun zz => lN (mal zz)) (fun zz => nI (mta zz)) (fun zz => oI (F zz)) (fun zz => nI (L zz))) → va_S A s.heap H locs → ∀ ls : Array Slot, lv_has ls 7 [(2, .int (nI u)), (0, .ref o), (1, .int (bI z))] → W p l e (rmN 3) s m args below meth c H locs 0 0 QQ (F0 m 7 ls []) := by
    intro n; induction n with
    | zero => intro u F L l9 iM iu hm; exact absurd hm (Nat.not_lt_zero _)
    | succ n ih7 =>
      intro u F L l9 iM iu hm7 H locs hP hD hS ls hl
      refine lv_iload_n hx hb dX8_measures_7 rfl (lv_at hl 0 rfl) ?_
      refine lv_aload_n hx hb dX8_measures_8 rfl (lv_at hl 1 rfl) ?_
      refine gf_X8_125 hC hK hP 0 rfl rfl dX8_measures_9 ?_
      refine n_icmp_ge (a := u) (b := mam) (tgt := 92) hx hb dX8_measures_12 (by decide) (by omega) (by omega) (fun c12 => ?_) (fun c12 => ?_)
      · have _ : True := trivial
        have e12 : u = mam := by omega
        refine lv_iconst (v := nI 0) hx hb dX8_measures_92 (by decide) ?_
        refine lv_istore_n (lv' := [(2, .int (nI 0)), (0, .ref o), (1, .int (bI z))]) hx hb dX8_measures_93 rfl hl (by decide) rfl (fun ls hl => ?_)
        have L94 : ∀ (n : Nat) (u : Nat) (F : Nat → Option Nat) (L : Nat → Nat) (l9 : Nat) (Fa : Nat → Option Nat) (Qa : Nat → Nat), (BI (istp mal mam (mvk wd hd nb wl sh bw bh mgo z)) (fun i => i < mam ∧ plc (mal i) g = ap) (cF mam F) L l9 u) → (2000 - u) < n → ∀ (H : Heap) (locs : List Loc), va_P D vwCl (mW cI cJ cB o kv kp kx kl kh ki kf kq ka kt kd kn (nI mpm) (nI mty) (nI mwi) (nI mhi) (nI mwa) (nI mle) (gI mgo) (nI mam) (bI mtm) (nI l9) (vF wd hd nb wl st sl gl aq lb sh bw bh ps) mpa (fun zz => nI (mtx zz)) (fun zz => nI (mlt zz)) (fun zz => nI (mha zz)) (fun zz => nI (mfi zz)) (fun zz => oI (Fa zz)) (fun zz => nI (Qa zz)) (fun zz => lN (mal zz)) (fun zz => nI (mta zz)) (fun zz => oI (F zz)) (fun zz => nI (L zz))) H → va_D A (mW cI cJ cB o kv kp kx kl kh ki kf kq ka kt kd kn (nI mpm) (nI mty) (nI mwi) (nI mhi) (nI mwa) (nI mle) (gI mgo) (nI mam) (bI mtm) (nI l9) (vF wd hd nb wl st sl gl aq lb sh bw bh ps) mpa (fun zz => nI (mtx zz)) (fun zz => nI (mlt zz)) (fun zz => nI (mha zz)) (fun zz => nI (mfi zz)) (fun zz => oI (Fa zz)) (fun zz => nI (Qa zz)) (fun zz => lN (mal zz)) (fun zz => nI (mta zz)) (fun zz => oI (F zz)) (fun zz => nI (L zz))) → va_S A s.heap H locs → ∀ ls : Array Slot, lv_has ls 7 [(2, .int (nI u)), (0, .ref o), (1, .int (bI z))] → W p l e (rmN 3) s m args below meth c H locs 0 0 QQ (F0 m 94 ls []) := by
          intro n; induction n with
          | zero => intro u F L l9 Fa Qa iB hm; exact absurd hm (Nat.not_lt_zero _)
          | succ n ih94 =>
            intro u F L l9 Fa Qa iB hm94 H locs hP hD hS ls hl
            refine lv_iload_n hx hb dX8_measures_94 rfl (lv_at hl 0 rfl) ?_
            refine lv_aload_n hx hb dX8_measures_95 rfl (lv_at hl 1 rfl) ?_
            refine gf_X8_140 hC hK hP 0 rfl rfl dX8_measures_96 ?_
            refine n_icmp_ge (a := u) (b := l9) (tgt := 209) hx hb dX8_measures_99 (by decide) (by have := BI_le iB (fun p d h => (cF_some h).1); have := iB.1; omega) (by have := BI_le iB (fun p d h => (cF_some h).1); omega) (fun c99 => ?_) (fun c99 => ?_)
            · have _ : True := trivial
              rw [hQ]
              exact W.vret hx hb hr (fun t9 ht hW => ⟨⟨_, rfl, ⟨F, L, l9, Fa, Qa, rfl, (by rw [show u = l9 by have := iB.1; omega] at iB; exact BI_done iB), (BI_zero iB), (fun i d h => by have := BI_bound iB (fun p d h => (cF_some h).1) h; omega), (by have := BI_le iB (fun p d h => (cF_some h).1); omega)⟩, by rw [ht]; exact hP, rfl⟩, hS.F ht⟩) hS.2.2 dX8_measures_209
            · have _ : True := trivial
              obtain ⟨lv, hlv⟩ := iB.2.1 u c99
              obtain ⟨qi, hqi⟩ : ∃ x, x = L u := ⟨_, rfl⟩
              obtain ⟨ks, hks⟩ : ∃ x, x = mal (L u) := ⟨_, rfl⟩
              have hks1 : ks = mal qi := by rw [hqi]; exact hks
              have hqn : qi < mam := by rw [hqi]; exact (cF_some hlv).1
              have hvk := hv qi hqn
              rw [← hks1] at hvk
              have hks2 : Has mal mam ks := ⟨qi, hqn, hks1.symm⟩
              refine lv_aload_n hx hb dX8_measures_102 rfl (lv_at hl 1 rfl) ?_
              refine gf_X8_38 hC hK hP 0 rfl rfl dX8_measures_103 ?_
              refine lv_aload_n hx hb dX8_measures_106 rfl (lv_at hl 1 rfl) ?_
              refine gf_X8_48 hC hK hP 0 rfl rfl dX8_measures_107 ?_
              refine lv_iload_n hx hb dX8_measures_110 rfl (lv_at hl 0 rfl) ?_
              refine n_iald hx hb hK hP 12 0 rfl rfl (by have := BI_le iB (fun p d h => (cF_some h).1); omega) (by decide) dX8_measures_111 ?_
              refine n_lald hx hb hK hP 9 1 rfl rfl (by have := (cF_some hlv).1; omega) (by decide) dX8_measures_112 ?_
              refine topl (y := lN ks) (by rw [hks]) ?_
              refine lv_lstore_n (lv' := [(3, .long (lN ks)), (2, .int (nI u)), (0, .ref o), (1, .int (bI z))]) hx hb dX8_measures_113 rfl hl (by decide) rfl (fun ls hl => ?_)
              refine lv_iconst (v := nI 0) hx hb dX8_measures_114 (by decide) ?_
              refine lv_istore (lv' := [(5, .int (nI 0)), (3, .long (lN ks)), (2, .int (nI u)), (0, .ref o), (1, .int (bI z))]) hx hb dX8_measures_115 hl (by decide) rfl (fun ls hl => ?_)
              have L117 : ∀ (n : Nat) (b : Nat) (F : Nat → Option Nat) (L : Nat → Nat) (l9 : Nat) (Fa : Nat → Option Nat) (Qa : Nat → Nat), (b ≤ nb) → (BI (istp mal mam (mvk wd hd nb wl sh bw bh mgo z)) (fun i => i < mam ∧ plc (mal i) g = ap) (cF mam F) L l9 u) → (u < l9) → (cF mam F (L u) = some lv) → (L u = qi) → (∀ c, c < b → mgo ≠ some c → ∀ x, mvk1 wd hd nb wl sh bw bh mgo z c ks x → ∀ i, i < mam → mal i = x → ∃ e, cF mam F i = some e ∧ e ≤ lv + 1) → (nb - b) < n → ∀ (H : Heap) (locs : List Loc), va_P D vwCl (mW cI cJ cB o kv kp kx kl kh ki kf kq ka kt kd kn (nI mpm) (nI mty) (nI mwi) (nI mhi) (nI mwa) (nI mle) (gI mgo) (nI mam) (bI mtm) (nI l9) (vF wd hd nb wl st sl gl aq lb sh bw bh ps) mpa (fun zz => nI (mtx zz)) (fun zz => nI (mlt zz)) (fun zz => nI (mha zz)) (fun zz => nI (mfi zz)) (fun zz => oI (Fa zz)) (fun zz => nI (Qa zz)) (fun zz => lN (mal zz)) (fun zz => nI (mta zz)) (fun zz => oI (F zz)) (fun zz => nI (L zz))) H → va_D A (mW cI cJ cB o kv kp kx kl kh ki kf kq ka kt kd kn (nI mpm) (nI mty) (nI mwi) (nI mhi) (nI mwa) (nI mle) (gI mgo) (nI mam) (bI mtm) (nI l9) (vF wd hd nb wl st sl gl aq lb sh bw bh ps) mpa (fun zz => nI (mtx zz)) (fun zz => nI (mlt zz)) (fun zz => nI (mha zz)) (fun zz => nI (mfi zz)) (fun zz => oI (Fa zz)) (fun zz => nI (Qa zz)) (fun zz => lN (mal zz)) (fun zz => nI (mta zz)) (fun zz => oI (F zz)) (fun zz => nI (L zz))) → va_S A s.heap H locs → ∀ ls : Array Slot, lv_has ls 7 [(5, .int (nI b)), (3, .long (lN ks)), (2, .int (nI u)), (0, .ref o), (1, .int (bI z))] → W p l e (rmN 3) s m args below meth c H locs 0 0 QQ (F0 m 117 ls []) := by
                intro n; induction n with
                | zero => intro b F L l9 Fa Qa ib iB iu il iq id hm; exact absurd hm (Nat.not_lt_zero _)
                | succ n ih117 =>
                  intro b F L l9 Fa Qa ib iB iu il iq id hm117 H locs hP hD hS ls hl
                  refine lv_iload hx hb dX8_measures_117 (lv_at hl 0 rfl) ?_
                  refine lv_aload_n hx hb dX8_measures_119 rfl (lv_at hl 3 rfl) ?_
                  refine gf_X8_7 hC hK hP 0 rfl rfl dX8_measures_120 ?_
                  refine lv_iconst (v := nI 2) hx hb dX8_measures_123 (by decide) ?_
                  refine n_iald hx hb hK hP 1 0 rfl rfl (by omega) (by decide) dX8_measures_124 ?_
                  refine topi (y := nI nb) rfl ?_
                  refine n_icmp_ge (a := b) (b := nb) (tgt := 203) hx hb dX8_measures_125 (by decide) (by omega) (by omega) (fun c125 => ?_) (fun c125 => ?_)
                  · have _ : True := trivial
                    refine lv_iinc (v := nI (u + 1)) (lv' := [(2, .int (nI (u + 1))), (5, .int (nI b)), (3, .long (lN ks)), (0, .ref o), (1, .int (bI z))]) hx hb dX8_measures_203 hl (k := 2) rfl (nI_1 _) (by decide) rfl (fun ls hl => ?_)
                    refine lv_goto (tgt := 94) hx hb dX8_measures_206 (by decide) ?_
                    exact ih94 (u + 1) F L l9 Fa Qa (BI_next iB iu (fun i d h1 h2 => by rw [il] at h1; cases h1; obtain ⟨h3, h4, c, h5, h6, h7⟩ := h2; rw [iq, ← hks1] at h7; exact id c (by omega) h6 _ h7 i h4 rfl)) (by have := BI_le iB (fun p d h => (cF_some h).1); omega) _ _ hP hD hS _ (lv_sub hl [0, 3, 4] rfl)
                  · have _ : True := trivial
                    refine lv_iload hx hb dX8_measures_128 (lv_at hl 0 rfl) ?_
                    refine lv_aload_n hx hb dX8_measures_130 rfl (lv_at hl 3 rfl) ?_
                    refine gf_X8_28 hC hK hP 0 rfl rfl dX8_measures_131 ?_
                    refine g_icmp_eq (a := b) (x := mgo) (tgt := 197) hx hb dX8_measures_134 (by decide) (by omega) (fun d h => by have := hgo d h; omega) (fun c134 => ?_) (fun c134 => ?_)
                    · have _ : True := trivial
                      refine lv_iinc (v := nI (b + 1)) (lv' := [(5, .int (nI (b + 1))), (3, .long (lN ks)), (2, .int (nI u)), (0, .ref o), (1, .int (bI z))]) hx hb dX8_measures_197 hl (k := 0) rfl (nI_1 _) (by decide) rfl (fun ls hl => ?_)
                      refine lv_goto (tgt := 117) hx hb dX8_measures_200 (by decide) ?_
                      exact ih117 (b + 1) F L l9 Fa Qa (by omega) iB iu il iq (lt_s id (fun h => absurd c134 h)) (by omega) _ _ hP hD hS _ (lv_sub hl [0, 1, 2, 3, 4] rfl)
                    · have _ : True := trivial
                      refine lv_aload_n hx hb dX8_measures_137 rfl (lv_at hl 3 rfl) ?_
                      refine lv_lload_n hx hb dX8_measures_138 rfl (lv_at hl 1 rfl) ?_
                      refine lv_iload hx hb dX8_measures_139 (lv_at hl 0 rfl) ?_
                      refine callV_v (As := [.long (lN ks), .int (nI b)]) (rest := []) [0, 1, 2, 3, 4, 5, 6, 7, 8, 9, 10, 11, 12] hC hK hN hP hD rfl (by decide) hS 0 (ci := 8) rfl rfl rfl (c_X8_floods l D cI cJ cB o kv kp kx kl kh ki kf kq ka kt kd kn mpm mty mwi mhi mwa mle mam l9 mgo mtm mpa mtx mlt mha mfi Qa mta L mal Fa F wd hd nb wl st sl gl aq lb sh bw bh ps ks b hf hvk hgo (by omega) c134) q843 md_X8_floods rfl hl.1 rfl (Nat.le_of_ble_eq_true rfl) dX8_measures_141 ⟨Nat.le_of_ble_eq_true rfl, Nat.le_of_ble_eq_true rfl⟩ ⟨Nat.le_of_ble_eq_true rfl, Nat.le_of_ble_eq_true rfl⟩ (fun w H locs hpost hP hD hS => ?_)
                      obtain ⟨F2_141, Q2_141, rfl, hfl, hfb⟩ := hpost
                      have hP : va_P D vwCl (mW cI cJ cB o kv kp kx kl kh ki kf kq ka kt kd kn (nI mpm) (nI mty) (nI mwi) (nI mhi) (nI mwa) (nI mle) (gI mgo) (nI mam) (bI mtm) (nI l9) (vF wd hd nb wl st sl gl aq lb sh bw bh ps) mpa (fun zz => nI (mtx zz)) (fun zz => nI (mlt zz)) (fun zz => nI (mha zz)) (fun zz => nI (mfi zz)) (fun zz => oI (F2_141 zz)) (fun zz => nI (Q2_141 zz)) (fun zz => lN (mal zz)) (fun zz => nI (mta zz)) (fun zz => oI (F zz)) (fun zz => nI (L zz))) H := hP
                      have hD : va_D A (mW cI cJ cB o kv kp kx kl kh ki kf kq ka kt kd kn (nI mpm) (nI mty) (nI mwi) (nI mhi) (nI mwa) (nI mle) (gI mgo) (nI mam) (bI mtm) (nI l9) (vF wd hd nb wl st sl gl aq lb sh bw bh ps) mpa (fun zz => nI (mtx zz)) (fun zz => nI (mlt zz)) (fun zz => nI (mha zz)) (fun zz => nI (mfi zz)) (fun zz => oI (F2_141 zz)) (fun zz => nI (Q2_141 zz)) (fun zz => lN (mal zz)) (fun zz => nI (mta zz)) (fun zz => oI (F zz)) (fun zz => nI (L zz))) := hD
                      refine lv_iconst (v := nI 0) hx hb dX8_measures_144 (by decide) ?_
                      refine lv_istore (lv' := [(6, .int (nI 0)), (5, .int (nI b)), (3, .long (lN ks)), (2, .int (nI u)), (0, .ref o), (1, .int (bI z))]) hx hb dX8_measures_145 hl (by decide) rfl (fun ls hl => ?_)
                      have L147 : ∀ (n : Nat) (q : Nat) (F : Nat → Option Nat) (L : Nat → Nat) (l9 : Nat), (q ≤ wd * hd) → (BI (istp mal mam (mvk wd hd nb wl sh bw bh mgo z)) (fun i => i < mam ∧ plc (mal i) g = ap) (cF mam F) L l9 u) → (u < l9) → (cF mam F (L u) = some lv) → (L u = qi) → (∀ c, c < b → mgo ≠ some c → ∀ x, mvk1 wd hd nb wl sh bw bh mgo z c ks x → ∀ i, i < mam → mal i = x → ∃ e, cF mam F i = some e ∧ e ≤ lv + 1) → (∀ y, y < q → isMv z (F2_141 y) = true → ∀ i, i < mam → mal i = wth ks b y → ∃ e, cF mam F i = some e ∧ e ≤ lv + 1) → (wd * hd - q) < n → ∀ (H : Heap) (locs : List Loc), va_P D vwCl (mW cI cJ cB o kv kp kx kl kh ki kf kq ka kt kd kn (nI mpm) (nI mty) (nI mwi) (nI mhi) (nI mwa) (nI mle) (gI mgo) (nI mam) (bI mtm) (nI l9) (vF wd hd nb wl st sl gl aq lb sh bw bh ps) mpa (fun zz => nI (mtx zz)) (fun zz => nI (mlt zz)) (fun zz => nI (mha zz)) (fun zz => nI (mfi zz)) (fun zz => oI (F2_141 zz)) (fun zz => nI (Q2_141 zz)) (fun zz => lN (mal zz)) (fun zz => nI (mta zz)) (fun zz => oI (F zz)) (fun zz => nI (L zz))) H → va_D A (mW cI cJ cB o kv kp kx kl kh ki kf kq ka kt kd kn (nI mpm) (nI mty) (nI mwi) (nI mhi) (nI mwa) (nI mle) (gI mgo) (nI mam) (bI mtm) (nI l9) (vF wd hd nb wl st sl gl aq lb sh bw bh ps) mpa (fun zz => nI (mtx zz)) (fun zz => nI (mlt zz)) (fun zz => nI (mha zz)) (fun zz => nI (mfi zz)) (fun zz => oI (F2_141 zz)) (fun zz => nI (Q2_141 zz)) (fun zz => lN (mal zz)) (fun zz => nI (mta zz)) (fun zz => oI (F zz)) (fun zz => nI (L zz))) → va_S A s.heap H locs → ∀ ls : Array Slot, lv_has ls 7 [(6, .int (nI q)), (5, .int (nI b)), (3, .long (lN ks)), (2, .int (nI u)), (0, .ref o), (1, .int (bI z))] → W p l e (rmN 3) s m args below meth c H locs 0 0 QQ (F0 m 147 ls []) := by
                        intro n; induction n with
                        | zero => intro q F L l9 iq9 iB iu il iq id ie hm; exact absurd hm (Nat.not_lt_zero _)
                        | succ n ih147 =>
                          intro q F L l9 iq9 iB iu il iq id ie hm147 H locs hP hD hS ls hl
                          refine lv_iload hx hb dX8_measures_147 (lv_at hl 0 rfl) ?_
                          refine lv_aload_n hx hb dX8_measures_149 rfl (lv_at hl 4 rfl) ?_
                          refine callV_i (As := []) (rest := [.int (nI q)]) [0, 1, 2, 3, 4, 5, 6, 7, 8, 9, 10, 11, 12] hC hK hN hP hD rfl (by decide) hS 0 (ci := 8) rfl rfl rfl (c_X8_cells l D cI cJ cB o kv kp kx kl kh ki kf kq ka kt kd kn mpm mty mwi mhi mwa mle mam l9 mgo mtm mpa mtx mlt mha mfi Q2_141 mta L mal F2_141 F wd hd nb wl st sl gl aq lb sh bw bh ps ) q796 md_X8_cells rfl hl.1 rfl (Nat.le_of_ble_eq_true rfl) dX8_measures_150 ⟨Nat.le_of_ble_eq_true rfl, Nat.le_of_ble_eq_true rfl⟩ ⟨Nat.le_of_ble_eq_true rfl, Nat.le_of_ble_eq_true rfl⟩ (fun r_150 w H locs hpost hP hD hS => ?_)
                          obtain ⟨rfl, rfl⟩ := hpost
                          have hP : va_P D vwCl (mW cI cJ cB o kv kp kx kl kh ki kf kq ka kt kd kn (nI mpm) (nI mty) (nI mwi) (nI mhi) (nI mwa) (nI mle) (gI mgo) (nI mam) (bI mtm) (nI l9) (vF wd hd nb wl st sl gl aq lb sh bw bh ps) mpa (fun zz => nI (mtx zz)) (fun zz => nI (mlt zz)) (fun zz => nI (mha zz)) (fun zz => nI (mfi zz)) (fun zz => oI (F2_141 zz)) (fun zz => nI (Q2_141 zz)) (fun zz => lN (mal zz)) (fun zz => nI (mta zz)) (fun zz => oI (F zz)) (fun zz => nI (L zz))) H := hP
                          have hD : va_D A (mW cI cJ cB o kv kp kx kl kh ki kf kq ka kt kd kn (nI mpm) (nI mty) (nI mwi) (nI mhi) (nI mwa) (nI mle) (gI mgo) (nI mam) (bI mtm) (nI l9) (vF wd hd nb wl st sl gl aq lb sh bw bh ps) mpa (fun zz => nI (mtx zz)) (fun zz => nI (mlt zz)) (fun zz => nI (mha zz)) (fun zz => nI (mfi zz)) (fun zz => oI (F2_141 zz)) (fun zz => nI (Q2_141 zz)) (fun zz => lN (mal zz)) (fun zz => nI (mta zz)) (fun zz => oI (F zz)) (fun zz => nI (L zz))) := hD
                          refine n_icmp_ge (a := q) (b := wd * hd) (tgt := 197) hx hb dX8_measures_153 (by decide) (by omega) (by omega) (fun c153 => ?_) (fun c153 => ?_)
                          · have _ : True := trivial
                            refine lv_iinc (v := nI (b + 1)) (lv' := [(5, .int (nI (b + 1))), (6, .int (nI q)), (3, .long (lN ks)), (2, .int (nI u)), (0, .ref o), (1, .int (bI z))]) hx hb dX8_measures_197 hl (k := 1) rfl (nI_1 _) (by decide) rfl (fun ls hl => ?_)
                            refine lv_goto (tgt := 117) hx hb dX8_measures_200 (by decide) ?_
                            exact ih117 (b + 1) F L l9 F2_141 Q2_141 (by omega) iB iu il iq (lt_s id (fun _ x hx i h4 h5 => by obtain ⟨F9, h6, y, h7, h8⟩ := hx; have e9 := LD_eq h6 hfl; subst e9; subst h8; exact ie y (by have := isMv_in h7; obtain ⟨d, hd9⟩ := this; have := (hfb y d hd9).2.1; omega) h7 i h4 h5)) (by omega) _ _ hP hD hS _ (lv_sub hl [0, 2, 3, 4, 5] rfl)
                          · have _ : True := trivial
                            refine lv_aload_n hx hb dX8_measures_156 rfl (lv_at hl 4 rfl) ?_
                            refine lv_iload hx hb dX8_measures_157 (lv_at hl 0 rfl) ?_
                            refine lv_iload_n hx hb dX8_measures_159 rfl (lv_at hl 5 rfl) ?_
                            refine callV_i (As := [.int (nI q), .int (bI z)]) (rest := []) [0, 1, 2, 3, 4, 5, 6, 7, 8, 9, 10, 11, 12] hC hK hN hP hD rfl (by decide) hS 0 (ci := 8) rfl rfl rfl (c_X8_isMove l D cI cJ cB o kv kp kx kl kh ki kf kq ka kt kd kn mpm mty mwi mhi mwa mle mam l9 mgo mtm mpa mtx mlt mha mfi Q2_141 mta L mal F2_141 F wd hd nb wl st sl gl aq lb sh bw bh ps q z (by omega) (fun d h => by have := (hfb q d h).2.2; omega)) q912 md_X8_isMove rfl hl.1 rfl (Nat.le_of_ble_eq_true rfl) dX8_measures_160 ⟨Nat.le_of_ble_eq_true rfl, Nat.le_of_ble_eq_true rfl⟩ ⟨Nat.le_of_ble_eq_true rfl, Nat.le_of_ble_eq_true rfl⟩ (fun r_160 w H locs hpost hP hD hS => ?_)
                            obtain ⟨rfl, rfl⟩ := hpost
                            have hP : va_P D vwCl (mW cI cJ cB o kv kp kx kl kh ki kf kq ka kt kd kn (nI mpm) (nI mty) (nI mwi) (nI mhi) (nI mwa) (nI mle) (gI mgo) (nI mam) (bI mtm) (nI l9) (vF wd hd nb wl st sl gl aq lb sh bw bh ps) mpa (fun zz => nI (mtx zz)) (fun zz => nI (mlt zz)) (fun zz => nI (mha zz)) (fun zz => nI (mfi zz)) (fun zz => oI (F2_141 zz)) (fun zz => nI (Q2_141 zz)) (fun zz => lN (mal zz)) (fun zz => nI (mta zz)) (fun zz => oI (F zz)) (fun zz => nI (L zz))) H := hP
                            have hD : va_D A (mW cI cJ cB o kv kp kx kl kh ki kf kq ka kt kd kn (nI mpm) (nI mty) (nI mwi) (nI mhi) (nI mwa) (nI mle) (gI mgo) (nI mam) (bI mtm) (nI l9) (vF wd hd nb wl st sl gl aq lb sh bw bh ps) mpa (fun zz => nI (mtx zz)) (fun zz => nI (mlt zz)) (fun zz => nI (mha zz)) (fun zz => nI (mfi zz)) (fun zz => oI (F2_141 zz)) (fun zz => nI (Q2_141 zz)) (fun zz => lN (mal zz)) (fun zz => nI (mta zz)) (fun zz => oI (F zz)) (fun zz => nI (L zz))) := hD
                            refine b_if_eq (tgt := 191) hx hb dX8_measures_163 (by decide) (fun c163 => ?_) (fun c163 => ?_)
                            · have _ : True := trivial
                              refine lv_iinc (v := nI (q + 1)) (lv' := [(6, .int (nI (q + 1))), (5, .int (nI b)), (3, .long (lN ks)), (2, .int (nI u)), (0, .ref o), (1, .int (bI z))]) hx hb dX8_measures_191 hl (k := 0) rfl (nI_1 _) (by decide) rfl (fun ls hl => ?_)
                              refine lv_goto (tgt := 147) hx hb dX8_measures_194 (by decide) ?_
                              exact ih147 (q + 1) F L l9 (by omega) iB iu il iq id (lt_s ie (fun h => by rw [c163] at h; cases h)) (by omega) _ _ hP hD hS _ (lv_sub hl [0, 1, 2, 3, 4, 5] rfl)
                            · have _ : True := trivial
                              refine lv_aload_n hx hb dX8_measures_166 rfl (lv_at hl 4 rfl) ?_
                              refine lv_lload_n hx hb dX8_measures_167 rfl (lv_at hl 2 rfl) ?_
                              refine lv_iload hx hb dX8_measures_168 (lv_at hl 1 rfl) ?_
                              refine lv_iload hx hb dX8_measures_170 (lv_at hl 0 rfl) ?_
                              refine callS_l (As := [.long (lN ks), .int (nI b), .int (nI q)]) (rest := [.ref o]) [] hC hK hN hP hD rfl (by decide) hS (c_X8_with l D cI cJ cB ks b q (by omega) (by omega)) q804 md_X8_with rfl hl.1 rfl (Nat.le_of_ble_eq_true rfl) dX8_measures_172 ⟨Nat.le_of_ble_eq_true rfl, Nat.le_of_ble_eq_true rfl⟩ ⟨Nat.le_of_ble_eq_true rfl, Nat.le_of_ble_eq_true rfl⟩ (fun r_172 w H locs hpost hP hD hS => ?_)
                              obtain ⟨rfl, rfl⟩ := hpost
                              have hP : va_P D vwCl (mW cI cJ cB o kv kp kx kl kh ki kf kq ka kt kd kn (nI mpm) (nI mty) (nI mwi) (nI mhi) (nI mwa) (nI mle) (gI mgo) (nI mam) (bI mtm) (nI l9) (vF wd hd nb wl st sl gl aq lb sh bw bh ps) mpa (fun zz => nI (mtx zz)) (fun zz => nI (mlt zz)) (fun zz => nI (mha zz)) (fun zz => nI (mfi zz)) (fun zz => oI (F2_141 zz)) (fun zz => nI (Q2_141 zz)) (fun zz => lN (mal zz)) (fun zz => nI (mta zz)) (fun zz => oI (F zz)) (fun zz => nI (L zz))) H := hP
                              have hD : va_D A (mW cI cJ cB o kv kp kx kl kh ki kf kq ka kt kd kn (nI mpm) (nI mty) (nI mwi) (nI mhi) (nI mwa) (nI mle) (gI mgo) (nI mam) (bI mtm) (nI l9) (vF wd hd nb wl st sl gl aq lb sh bw bh ps) mpa (fun zz => nI (mtx zz)) (fun zz => nI (mlt zz)) (fun zz => nI (mha zz)) (fun zz => nI (mfi zz)) (fun zz => oI (F2_141 zz)) (fun zz => nI (Q2_141 zz)) (fun zz => lN (mal zz)) (fun zz => nI (mta zz)) (fun zz => oI (F zz)) (fun zz => nI (L zz))) := hD
                              refine lv_aload_n hx hb dX8_measures_175 rfl (lv_at hl 4 rfl) ?_
                              refine gf_X8_45 hC hK hP 0 rfl rfl dX8_measures_176 ?_
                              refine lv_aload_n hx hb dX8_measures_179 rfl (lv_at hl 4 rfl) ?_
                              refine gf_X8_48 hC hK hP 0 rfl rfl dX8_measures_180 ?_
                              refine lv_iload_n hx hb dX8_measures_183 rfl (lv_at hl 3 rfl) ?_
                              refine n_iald hx hb hK hP 12 0 rfl rfl (by have := BI_le iB (fun p d h => (cF_some h).1); omega) (by decide) dX8_measures_184 ?_
                              refine n_iald hx hb hK hP 11 0 rfl rfl (by have := (cF_some il).1; omega) (by decide) dX8_measures_185 ?_
                              refine topi (y := nI lv) (by rw [(cF_some il).2]; rfl) ?_
                              refine lv_iconst (v := nI 1) hx hb dX8_measures_186 (by decide) ?_
                              refine n_iadd hx hb dX8_measures_187  ?_
                              refine callV_v (As := [.long (lN (wth ks b q)), .int (nI (lv + 1))]) (rest := []) [0, 1, 2, 3, 4, 5, 6, 7, 8, 9, 10, 11, 12] hC hK hN hP hD rfl (by decide) hS 0 (ci := 8) rfl rfl rfl (c_X8_reaches l D cI cJ cB o kv kp kx kl kh ki kf kq ka kt kd kn mpm mty mwi mhi mwa mle mam l9 mgo mtm mpa mtx mlt mha mfi Q2_141 mta L mal F2_141 F wd hd nb wl st sl gl aq lb sh bw bh ps (wth ks b q) (lv + 1) (wth_lt hvk.1 (by omega)) hT ham (fun i hi => (hv i hi).1) (by obtain ⟨d, hd9⟩ := isMv_in c163; exact fl_has hf c125 c134 hfl (fun x d h => ⟨(hfb x d h).1, by have := (hfb x d h).2.1; omega⟩) hcl hks2 d q hd9) (fun i d h1 h2 => by have := BI_bound iB (fun p d h => (cF_some h).1) (p := i) (d := d) (by rw [cF_lt h1]; exact h2); omega) (fun i h1 h2 => by have := BI_room iB (fun p d h => (cF_some h).1) (p := i) (by rw [cF_lt h1]; exact h2) h1; omega)) q916 md_X8_reaches rfl hl.1 rfl (Nat.le_of_ble_eq_true rfl) dX8_measures_188 ⟨Nat.le_of_ble_eq_true rfl, Nat.le_of_ble_eq_true rfl⟩ ⟨Nat.le_of_ble_eq_true rfl, Nat.le_of_ble_eq_true rfl⟩ (fun w H locs hpost hP hD hS => ?_)
                              obtain ⟨i2_188, F2_188, L2_188, l2_188, rfl, hrc⟩ := hpost
                              have hP : va_P D vwCl (mW cI cJ cB o kv kp kx kl kh ki kf kq ka kt kd kn (nI mpm) (nI mty) (nI mwi) (nI mhi) (nI mwa) (nI mle) (gI mgo) (nI mam) (bI mtm) (nI l2_188) (vF wd hd nb wl st sl gl aq lb sh bw bh ps) mpa (fun zz => nI (mtx zz)) (fun zz => nI (mlt zz)) (fun zz => nI (mha zz)) (fun zz => nI (mfi zz)) (fun zz => oI (F2_141 zz)) (fun zz => nI (Q2_141 zz)) (fun zz => lN (mal zz)) (fun zz => nI (mta zz)) (fun zz => oI (F2_188 zz)) (fun zz => nI (L2_188 zz))) H := hP
                              have hD : va_D A (mW cI cJ cB o kv kp kx kl kh ki kf kq ka kt kd kn (nI mpm) (nI mty) (nI mwi) (nI mhi) (nI mwa) (nI mle) (gI mgo) (nI mam) (bI mtm) (nI l2_188) (vF wd hd nb wl st sl gl aq lb sh bw bh ps) mpa (fun zz => nI (mtx zz)) (fun zz => nI (mlt zz)) (fun zz => nI (mha zz)) (fun zz => nI (mfi zz)) (fun zz => oI (F2_141 zz)) (fun zz => nI (Q2_141 zz)) (fun zz => lN (mal zz)) (fun zz => nI (mta zz)) (fun zz => oI (F2_188 zz)) (fun zz => nI (L2_188 zz))) := hD
                              obtain ⟨hB2, hu2, hL2, hl2, hnew, hkeep⟩ := RCH_s iB iu il (by rw [iq, ← hks1]; exact ⟨b, c125, c134, _, hfl, q, c163, rfl⟩) hrc
                              refine lv_iinc (v := nI (q + 1)) (lv' := [(6, .int (nI (q + 1))), (5, .int (nI b)), (3, .long (lN ks)), (2, .int (nI u)), (0, .ref o), (1, .int (bI z))]) hx hb dX8_measures_191 hl (k := 0) rfl (nI_1 _) (by decide) rfl (fun ls hl => ?_)
                              refine lv_goto (tgt := 147) hx hb dX8_measures_194 (by decide) ?_
                              exact ih147 (q + 1) F2_188 L2_188 l2_188 (by omega) hB2 hu2 (by rw [hL2]; exact hl2) (hL2.trans iq) (fun c h1 h2 x h3 i h4 h5 => by obtain ⟨e, h6, h7⟩ := id c h1 h2 x h3 i h4 h5; exact ⟨e, hkeep i e h6, h7⟩) (lt_s (fun y h1 h2 i h4 h5 => by obtain ⟨e, h6, h7⟩ := ie y h1 h2 i h4 h5; exact ⟨e, hkeep i e h6, h7⟩) (fun h2 i h4 h5 => by have h8 := hT.2.2.2.2 i i2_188 h4 hrc.1 (h5.trans hrc.2.1.symm); rw [h8]; exact hnew)) (by omega) _ _ hP hD hS _ (lv_sub hl [0, 1, 2, 3, 4, 5] rfl)
                      exact L147 _ 0 F L l9 (Nat.zero_le _) iB iu il iq id (fun y h => absurd h (Nat.not_lt_zero y)) (Nat.lt_succ_self _) _ _ hP hD hS _ (lv_sub hl [0, 1, 2, 3, 4, 5] rfl)
              exact L117 _ 0 F L l9 Fa Qa (by omega) (by omega) (by omega) (by omega) (by omega) (by omega) (Nat.lt_succ_self _) _ _ hP hD hS _ (lv_sub hl [0, 1, 2, 3, 4] rfl)
        exact L94 _ 0 F L l9 mfa mqu (by have h9 := iM.1; rw [e12] at h9; exact h9) (Nat.lt_succ_self _) _ _ hP hD hS _ (lv_sub hl [0, 1, 2] rfl)
      · have _ : True := trivial
        refine lv_aload_n hx hb dX8_measures_15 rfl (lv_at hl 1 rfl) ?_
        refine gf_X8_38 hC hK hP 0 rfl rfl dX8_measures_16 ?_
        refine lv_iload_n hx hb dX8_measures_19 rfl (lv_at hl 0 rfl) ?_
        refine n_lald hx hb hK hP 9 1 rfl rfl (by omega) (by decide) dX8_measures_20 ?_
        refine lv_aload_n hx hb dX8_measures_21 rfl (lv_at hl 1 rfl) ?_
        refine gf_X8_7 hC hK hP 0 rfl rfl dX8_measures_22 ?_
        refine lv_bipush (v := nI 6) hx hb dX8_measures_25 (by decide) ?_
        refine n_iald hx hb hK hP 1 0 rfl rfl (by omega) (by decide) dX8_measures_27 ?_
        refine topi (y := gI gl) rfl ?_
        refine topi (y := nI g) (by rw [hg]; rfl) ?_
        refine callS_i (As := [.long (lN (mal u)), .int (nI g)]) (rest := []) [] hC hK hN hP hD rfl (by decide) hS (c_X8_placeIn l D cI cJ cB (mal u) g (hv u c12).1 (by omega)) q813 md_X8_placeIn rfl hl.1 rfl (Nat.le_of_ble_eq_true rfl) dX8_measures_28 ⟨Nat.le_of_ble_eq_true rfl, Nat.le_of_ble_eq_true rfl⟩ ⟨Nat.le_of_ble_eq_true rfl, Nat.le_of_ble_eq_true rfl⟩ (fun r_28 w H locs hpost hP hD hS => ?_)
        obtain ⟨rfl, rfl⟩ := hpost
        have hP : va_P D vwCl (mW cI cJ cB o kv kp kx kl kh ki kf kq ka kt kd kn (nI mpm) (nI mty) (nI mwi) (nI mhi) (nI mwa) (nI mle) (gI mgo) (nI mam) (bI mtm) (nI l9) (vF wd hd nb wl st sl gl aq lb sh bw bh ps) mpa (fun zz => nI (mtx zz)) (fun zz => nI (mlt zz)) (fun zz => nI (mha zz)) (fun zz => nI (mfi zz)) (fun zz => oI (mfa zz)) (fun zz => nI (mqu zz)) (fun zz => lN (mal zz)) (fun zz => nI (mta zz)) (fun zz => oI (F zz)) (fun zz => nI (L zz))) H := hP
        have hD : va_D A (mW cI cJ cB o kv kp kx kl kh ki kf kq ka kt kd kn (nI mpm) (nI mty) (nI mwi) (nI mhi) (nI mwa) (nI mle) (gI mgo) (nI mam) (bI mtm) (nI l9) (vF wd hd nb wl st sl gl aq lb sh bw bh ps) mpa (fun zz => nI (mtx zz)) (fun zz => nI (mlt zz)) (fun zz => nI (mha zz)) (fun zz => nI (mfi zz)) (fun zz => oI (mfa zz)) (fun zz => nI (mqu zz)) (fun zz => lN (mal zz)) (fun zz => nI (mta zz)) (fun zz => oI (F zz)) (fun zz => nI (L zz))) := hD
        refine lv_aload_n hx hb dX8_measures_31 rfl (lv_at hl 1 rfl) ?_
        refine gf_X8_7 hC hK hP 0 rfl rfl dX8_measures_32 ?_
        refine lv_bipush (v := nI 7) hx hb dX8_measures_35 (by decide) ?_
        refine n_iald hx hb hK hP 1 0 rfl rfl (by omega) (by decide) dX8_measures_37 ?_
        refine topi (y := gI aq) rfl ?_
        refine topi (y := nI ap) (by rw [hap]; rfl) ?_
        refine n_icmp_ne (a := plc (mal u) g) (b := ap) (tgt := 45) hx hb dX8_measures_38 (by decide) (by have := plc_lt (mal u) g; omega) (by omega) (fun c38 => ?_) (fun c38 => ?_)
        · have _ : True := trivial
          have h38 : ¬ plc (mal u) g = ap := c38
          refine lv_iconst (v := nI 0) hx hb dX8_measures_45 (by decide) ?_
          refine lv_istore_n (lv' := [(3, .int (nI 0)), (2, .int (nI u)), (0, .ref o), (1, .int (bI z))]) hx hb dX8_measures_46 rfl hl (by decide) rfl (fun ls hl => ?_)
          refine lv_aload_n hx hb dX8_measures_47 rfl (lv_at hl 2 rfl) ?_
          refine gf_X8_45 hC hK hP 0 rfl rfl dX8_measures_48 ?_
          refine lv_iload_n hx hb dX8_measures_51 rfl (lv_at hl 1 rfl) ?_
          refine lv_iload_n hx hb dX8_measures_52 rfl (lv_at hl 0 rfl) ?_
          refine n_if_eq (a := 0) (tgt := 60) hx hb dX8_measures_53 (by decide) (by decide) (fun _ => ?_) (fun h => absurd h (by decide))
          refine lv_iconst (v := (-1)) hx hb dX8_measures_60 (by decide) ?_
          refine n_iast hx hb hK hP hD hS 11 0 rfl rfl (by omega) (by decide) (up_oIn _ _) (ws1 := mW cI cJ cB o kv kp kx kl kh ki kf kq ka kt kd kn (nI mpm) (nI mty) (nI mwi) (nI mhi) (nI mwa) (nI mle) (gI mgo) (nI mam) (bI mtm) (nI l9) (vF wd hd nb wl st sl gl aq lb sh bw bh ps) mpa (fun zz => nI (mtx zz)) (fun zz => nI (mlt zz)) (fun zz => nI (mha zz)) (fun zz => nI (mfi zz)) (fun zz => oI (mfa zz)) (fun zz => nI (mqu zz)) (fun zz => lN (mal zz)) (fun zz => nI (mta zz)) (fun zz => oI ((va_up F u none) zz)) (fun zz => nI (L zz))) rfl dX8_measures_61 (fun H locs hP hD hS => ?_)
          refine lv_iload_n hx hb dX8_measures_62 rfl (lv_at hl 0 rfl) ?_
          refine n_if_eq (a := 0) (tgt := 86) hx hb dX8_measures_63 (by decide) (by decide) (fun _ => ?_) (fun h => absurd h (by decide))
          refine lv_iinc (v := nI (u + 1)) (lv' := [(2, .int (nI (u + 1))), (3, .int (nI 0)), (0, .ref o), (1, .int (bI z))]) hx hb dX8_measures_86 hl (k := 1) rfl (nI_1 _) (by decide) rfl (fun ls hl => ?_)
          refine lv_goto (tgt := 7) hx hb dX8_measures_89 (by decide) ?_
          exact ih7 (u + 1) (va_up F u none) L l9 (MS0_no iM h38) (by omega) (by omega) _ _ hP hD hS _ (lv_sub hl [0, 2, 3] rfl)
        · have _ : True := trivial
          have h38 : plc (mal u) g = ap := c38
          refine lv_iconst (v := nI 1) hx hb dX8_measures_41 (by decide) ?_
          refine lv_goto (tgt := 46) hx hb dX8_measures_42 (by decide) ?_
          refine lv_istore_n (lv' := [(3, .int (nI 1)), (2, .int (nI u)), (0, .ref o), (1, .int (bI z))]) hx hb dX8_measures_46 rfl hl (by decide) rfl (fun ls hl => ?_)
          refine lv_aload_n hx hb dX8_measures_47 rfl (lv_at hl 2 rfl) ?_
          refine gf_X8_45 hC hK hP 0 rfl rfl dX8_measures_48 ?_
          refine lv_iload_n hx hb dX8_measures_51 rfl (lv_at hl 1 rfl) ?_
          refine lv_iload_n hx hb dX8_measures_52 rfl (lv_at hl 0 rfl) ?_
          refine n_if_eq (a := 1) (tgt := 60) hx hb dX8_measures_53 (by decide) (by decide) (fun h => absurd h (by decide)) (fun _ => ?_)
          refine lv_iconst (v := nI 0) hx hb dX8_measures_56 (by decide) ?_
          refine lv_goto (tgt := 61) hx hb dX8_measures_57 (by decide) ?_
          refine n_iast hx hb hK hP hD hS 11 0 rfl rfl (by omega) (by decide) (up_oIs _ _ _) (ws1 := mW cI cJ cB o kv kp kx kl kh ki kf kq ka kt kd kn (nI mpm) (nI mty) (nI mwi) (nI mhi) (nI mwa) (nI mle) (gI mgo) (nI mam) (bI mtm) (nI l9) (vF wd hd nb wl st sl gl aq lb sh bw bh ps) mpa (fun zz => nI (mtx zz)) (fun zz => nI (mlt zz)) (fun zz => nI (mha zz)) (fun zz => nI (mfi zz)) (fun zz => oI (mfa zz)) (fun zz => nI (mqu zz)) (fun zz => lN (mal zz)) (fun zz => nI (mta zz)) (fun zz => oI ((va_up F u (some 0)) zz)) (fun zz => nI (L zz))) rfl dX8_measures_61 (fun H locs hP hD hS => ?_)
          refine lv_iload_n hx hb dX8_measures_62 rfl (lv_at hl 0 rfl) ?_
          refine n_if_eq (a := 1) (tgt := 86) hx hb dX8_measures_63 (by decide) (by decide) (fun h => absurd h (by decide)) (fun _ => ?_)
          refine lv_aload_n hx hb dX8_measures_66 rfl (lv_at hl 2 rfl) ?_
          refine gf_X8_48 hC hK hP 0 rfl rfl dX8_measures_67 ?_
          refine lv_aload_n hx hb dX8_measures_70 rfl (lv_at hl 2 rfl) ?_
          refine gf_X8_140 hC hK hP 0 rfl rfl dX8_measures_71 ?_
          refine lv_iload_n hx hb dX8_measures_74 rfl (lv_at hl 1 rfl) ?_
          refine n_iast hx hb hK hP hD hS 12 0 rfl rfl (by have := iM.2.2; omega) (by decide) (up_nI _ _ _) (ws1 := mW cI cJ cB o kv kp kx kl kh ki kf kq ka kt kd kn (nI mpm) (nI mty) (nI mwi) (nI mhi) (nI mwa) (nI mle) (gI mgo) (nI mam) (bI mtm) (nI l9) (vF wd hd nb wl st sl gl aq lb sh bw bh ps) mpa (fun zz => nI (mtx zz)) (fun zz => nI (mlt zz)) (fun zz => nI (mha zz)) (fun zz => nI (mfi zz)) (fun zz => oI (mfa zz)) (fun zz => nI (mqu zz)) (fun zz => lN (mal zz)) (fun zz => nI (mta zz)) (fun zz => oI ((va_up F u (some 0)) zz)) (fun zz => nI ((va_up L l9 u) zz))) rfl dX8_measures_75 (fun H locs hP hD hS => ?_)
          refine lv_aload_n hx hb dX8_measures_76 rfl (lv_at hl 2 rfl) ?_
          refine lv_dup hx hb dX8_measures_77 rfl ?_
          refine gf_X8_140 hC hK hP 0 rfl rfl dX8_measures_78 ?_
          refine lv_iconst (v := nI 1) hx hb dX8_measures_81 (by decide) ?_
          refine n_iadd hx hb dX8_measures_82  ?_
          refine pf_X8_140 hC hK hP hD hS 0 rfl (Nat.le_of_ble_eq_true rfl) (ws1 := mW cI cJ cB o kv kp kx kl kh ki kf kq ka kt kd kn (nI mpm) (nI mty) (nI mwi) (nI mhi) (nI mwa) (nI mle) (gI mgo) (nI mam) (bI mtm) (nI (l9 + 1)) (vF wd hd nb wl st sl gl aq lb sh bw bh ps) mpa (fun zz => nI (mtx zz)) (fun zz => nI (mlt zz)) (fun zz => nI (mha zz)) (fun zz => nI (mfi zz)) (fun zz => oI (mfa zz)) (fun zz => nI (mqu zz)) (fun zz => lN (mal zz)) (fun zz => nI (mta zz)) (fun zz => oI ((va_up F u (some 0)) zz)) (fun zz => nI ((va_up L l9 u) zz))) rfl dX8_measures_83 (fun H locs hP hD hS => ?_)
          refine lv_iinc (v := nI (u + 1)) (lv' := [(2, .int (nI (u + 1))), (3, .int (nI 1)), (0, .ref o), (1, .int (bI z))]) hx hb dX8_measures_86 hl (k := 1) rfl (nI_1 _) (by decide) rfl (fun ls hl => ?_)
          refine lv_goto (tgt := 7) hx hb dX8_measures_89 (by decide) ?_
          exact ih7 (u + 1) (va_up F u (some 0)) (va_up L l9 u) (l9 + 1) (MS0_yes iM h38) (by omega) (by omega) _ _ hP hD hS _ (lv_sub hl [0, 2, 3] rfl)
  exact L7 _ 0 mdi mln 0 MS0_0 (by omega) (Nat.lt_succ_self _) _ _ hP hD hS _ (lv_sub hl [0, 1, 2] rfl)
