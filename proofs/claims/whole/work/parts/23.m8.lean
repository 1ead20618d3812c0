set_option maxHeartbeats 400000 in
set_option maxRecDepth 100000 in
theorem c_X8_isSolved (l : Launch) (D : va_G) (cI cJ cB : ClassId) (o kv kp kx kl kh ki kf kq ka kt kd kn mpm mty mwi mhi mwa mle mam mli : Nat) (mgo : Option Nat) (mtm : Bool) (mpa : Nat → Int32) (mtx mlt mha mfi mqu mta mln mal : Nat → Nat) (mfa mdi : Nat → Option Nat) (wd hd nb wl : Nat) (st sl : Int32) (gl aq lb : Option Nat) (sh bw bh ps : Nat → Nat) (hn7 : nb ≤ 7) (hga : GA gl aq nb) (hps : ∀ b, b < nb → ps b < 32) : Met l yX8_isSolved (Cond.code yX8_isSolved cX8_isSolved 1 (some .boolean) :: lw_all) (rmN 0) (va_Pc [.ref o] (pB D (tyz cI cJ cB) (mW cI cJ cB o kv kp kx kl kh ki kf kq ka kt kd kn (nI mpm) (nI mty) (nI mwi) (nI mhi) (nI mwa) (nI mle) (gI mgo) (nI mam) (bI mtm) (nI mli) (vF wd hd nb wl st sl gl aq lb sh bw bh ps) mpa (fun zz => nI (mtx zz)) (fun zz => nI (mlt zz)) (fun zz => nI (mha zz)) (fun zz => nI (mfi zz)) (fun zz => oI (mfa zz)) (fun zz => nI (mqu zz)) (fun zz => lN (mal zz)) (fun zz => nI (mta zz)) (fun zz => oI (mdi zz)) (fun zz => nI (mln zz))))) (va_Qi (fun (r : Int32) (w : va_W) => r = bI (f_sol gl aq ps) ∧ w = mW cI cJ cB o kv kp kx kl kh ki kf kq ka kt kd kn (nI mpm) (nI mty) (nI mwi) (nI mhi) (nI mwa) (nI mle) (gI mgo) (nI mam) (bI mtm) (nI mli) (vF wd hd nb wl st sl gl aq lb sh bw bh ps) mpa (fun zz => nI (mtx zz)) (fun zz => nI (mlt zz)) (fun zz => nI (mha zz)) (fun zz => nI (mfi zz)) (fun zz => oI (mfa zz)) (fun zz => nI (mqu zz)) (fun zz => lN (mal zz)) (fun zz => nI (mta zz)) (fun zz => oI (mdi zz)) (fun zz => nI (mln zz))) (gB D (mW cI cJ cB o kv kp kx kl kh ki kf kq ka kt kd kn (nI mpm) (nI mty) (nI mwi) (nI mhi) (nI mwa) (nI mle) (gI mgo) (nI mam) (bI mtm) (nI mli) (vF wd hd nb wl st sl gl aq lb sh bw bh ps) mpa (fun zz => nI (mtx zz)) (fun zz => nI (mlt zz)) (fun zz => nI (mha zz)) (fun zz => nI (mfi zz)) (fun zz => oI (mfa zz)) (fun zz => nI (mqu zz)) (fun zz => lN (mal zz)) (fun zz => nI (mta zz)) (fun zz => oI (mdi zz)) (fun zz => nI (mln zz)))) (aW (mW cI cJ cB o kv kp kx kl kh ki kf kq ka kt kd kn (nI mpm) (nI mty) (nI mwi) (nI mhi) (nI mwa) (nI mle) (gI mgo) (nI mam) (bI mtm) (nI mli) (vF wd hd nb wl st sl gl aq lb sh bw bh ps) mpa (fun zz => nI (mtx zz)) (fun zz => nI (mlt zz)) (fun zz => nI (mha zz)) (fun zz => nI (mfi zz)) (fun zz => oI (mfa zz)) (fun zz => nI (mqu zz)) (fun zz => lN (mal zz)) (fun zz => nI (mta zz)) (fun zz => oI (mdi zz)) (fun zz => nI (mln zz))))) 0 0 (aW (mW cI cJ cB o kv kp kx kl kh ki kf kq ka kt kd kn (nI mpm) (nI mty) (nI mwi) (nI mhi) (nI mwa) (nI mle) (gI mgo) (nI mam) (bI mtm) (nI mli) (vF wd hd nb wl st sl gl aq lb sh bw bh ps) mpa (fun zz => nI (mtx zz)) (fun zz => nI (mlt zz)) (fun zz => nI (mha zz)) (fun zz => nI (mfi zz)) (fun zz => oI (mfa zz)) (fun zz => nI (mqu zz)) (fun zz => lN (mal zz)) (fun zz => nI (mta zz)) (fun zz => oI (mdi zz)) (fun zz => nI (mln zz)))) := by
  refine Met.ofW (cc := cX8_isSolved) (maxL := 1) (ret := (some .boolean)) (by decide) rfl ?_
  intro p e s m args below meth c s₁ B hml hv
  obtain ⟨rfl, hK, hN, hP, hD0⟩ := hv
  have hx := B.exec; have hb := B.bytes; have hr := B.returns; have hlocks := B.notSynchronized
  have hts0 := atoms_spec (ws := Cond.code yX8_isSolved cX8_isSolved 1 (some .boolean) :: lw_all) B.pre
  have hC : CallFix p m c cX8_isSolved 1 s _ lw_all RX8 := ⟨hx, hb, hml, findClass_of_methodNamed B.named, fun w h => hts0 w (List.mem_cons_of_mem _ h)⟩
  have hD : va_D (aW (mW cI cJ cB o kv kp kx kl kh ki kf kq ka kt kd kn (nI mpm) (nI mty) (nI mwi) (nI mhi) (nI mwa) (nI mle) (gI mgo) (nI mam) (bI mtm) (nI mli) (vF wd hd nb wl st sl gl aq lb sh bw bh ps) mpa (fun zz => nI (mtx zz)) (fun zz => nI (mlt zz)) (fun zz => nI (mha zz)) (fun zz => nI (mfi zz)) (fun zz => oI (mfa zz)) (fun zz => nI (mqu zz)) (fun zz => lN (mal zz)) (fun zz => nI (mta zz)) (fun zz => oI (mdi zz)) (fun zz => nI (mln zz)))) (mW cI cJ cB o kv kp kx kl kh ki kf kq ka kt kd kn (nI mpm) (nI mty) (nI mwi) (nI mhi) (nI mwa) (nI mle) (gI mgo) (nI mam) (bI mtm) (nI mli) (vF wd hd nb wl st sl gl aq lb sh bw bh ps) mpa (fun zz => nI (mtx zz)) (fun zz => nI (mlt zz)) (fun zz => nI (mha zz)) (fun zz => nI (mfi zz)) (fun zz => oI (mfa zz)) (fun zz => nI (mqu zz)) (fun zz => lN (mal zz)) (fun zz => nI (mta zz)) (fun zz => oI (mdi zz)) (fun zz => nI (mln zz))) := ⟨hD0.1, fun k q h => ⟨k, q.2, h⟩⟩
  generalize hAe : aW (mW cI cJ cB o kv kp kx kl kh ki kf kq ka kt kd kn (nI mpm) (nI mty) (nI mwi) (nI mhi) (nI mwa) (nI mle) (gI mgo) (nI mam) (bI mtm) (nI mli) (vF wd hd nb wl st sl gl aq lb sh bw bh ps) mpa (fun zz => nI (mtx zz)) (fun zz => nI (mlt zz)) (fun zz => nI (mha zz)) (fun zz => nI (mfi zz)) (fun zz => oI (mfa zz)) (fun zz => nI (mqu zz)) (fun zz => lN (mal zz)) (fun zz => nI (mta zz)) (fun zz => oI (mdi zz)) (fun zz => nI (mln zz))) = A at hD ⊢
  have hS : va_S A s.heap s.heap [] := va_S.rf
  have hl := lv_entry ([.ref o]) (n := 1) (Nat.le_of_ble_eq_true rfl)
  rw [lg_entry_eq]
  generalize (lg_sl ([.ref o]) ++ List.replicate (1 - (lg_sl ([.ref o])).length) Slot.unset).toArray = ls at hl ⊢
  have hl : lv_has ls 1 [(0, .ref o)] := hl
  generalize hav : ([.ref o] : List Value).toArray = args at hC ⊢
  refine W_gen (fun QQ hQ => ?_)
  show W p l e (rmN 0) s m args below meth c s.heap [] 0 0 QQ (F0 m 0 ls [])
  refine lv_aload_n hx hb dX8_isSolved_0 rfl (lv_at hl 0 rfl) ?_
  refine gf_X8_7 hC hK hP 0 rfl rfl dX8_isSolved_1 ?_
  refine lv_bipush (v := nI 6) hx hb dX8_isSolved_4 (by decide) ?_
  refine n_iald hx hb hK hP 1 0 rfl rfl (by omega) (by decide) dX8_isSolved_6 ?_
  refine topi (y := gI gl) rfl ?_
  refine g_if_lt (x := gl) (tgt := 39) hx hb dX8_isSolved_7 (by decide) (fun d h => by rcases hga with ⟨h1, -⟩ | ⟨g, ap, h1, -, h3, -⟩ <;> rw [h1] at h <;> cases h; omega) (fun c7 => ?_) (fun d7 c7 => ?_)
  · have _ : True := trivial
    refine lv_iconst (v := nI 0) hx hb dX8_isSolved_39 (by decide) ?_
    refine topi (y := bI (f_sol gl aq ps)) (by rw [c7]; rfl) ?_
    rw [hQ]
    exact W.zret (v := bI (f_sol gl aq ps)) hx hb hr (bnar _) (fun t9 ht hW => ⟨⟨_, _, rfl, ⟨rfl, rfl⟩, by rw [ht]; exact hP, rfl⟩, hS.F ht⟩) hS.2.2 dX8_isSolved_40
  · have _ : True := trivial
    have hd7 : d7 < nb := by rcases hga with ⟨h1, -⟩ | ⟨g, ap, h1, -, h3, -⟩ <;> rw [h1] at c7 <;> cases c7; exact h3
    refine lv_aload_n hx hb dX8_isSolved_10 rfl (lv_at hl 0 rfl) ?_
    refine gf_X8_7 hC hK hP 0 rfl rfl dX8_isSolved_11 ?_
    refine lv_bipush (v := nI 31) hx hb dX8_isSolved_14 (by decide) ?_
    refine lv_aload_n hx hb dX8_isSolved_16 rfl (lv_at hl 0 rfl) ?_
    refine gf_X8_7 hC hK hP 0 rfl rfl dX8_isSolved_17 ?_
    refine lv_bipush (v := nI 6) hx hb dX8_isSolved_20 (by decide) ?_
    refine n_iald hx hb hK hP 1 0 rfl rfl (by omega) (by decide) dX8_isSolved_22 ?_
    refine topi (y := gI gl) rfl ?_
    refine topi (y := nI d7) (by rw [c7]; rfl) ?_
    refine n_iadd hx hb dX8_isSolved_23  ?_
    refine n_iald hx hb hK hP 1 0 rfl rfl (by omega) (by decide) dX8_isSolved_24 ?_
    refine topi (y := nI (ps d7)) (vF_ps (by omega)) ?_
    refine lv_aload_n hx hb dX8_isSolved_25 rfl (lv_at hl 0 rfl) ?_
    refine gf_X8_7 hC hK hP 0 rfl rfl dX8_isSolved_26 ?_
    refine lv_bipush (v := nI 7) hx hb dX8_isSolved_29 (by decide) ?_
    refine n_iald hx hb hK hP 1 0 rfl rfl (by omega) (by decide) dX8_isSolved_31 ?_
    refine topi (y := gI aq) rfl ?_
    refine g_icmp_ne (a := ps d7) (x := aq) (tgt := 39) hx hb dX8_isSolved_32 (by decide) (by have := hps d7 hd7; omega) (fun d h => by rcases hga with ⟨-, h1⟩ | ⟨g, ap, -, h1, -, h3⟩ <;> rw [h1] at h <;> cases h; omega) (fun c32 => ?_) (fun c32 => ?_)
    · have _ : True := trivial
      refine lv_iconst (v := nI 0) hx hb dX8_isSolved_39 (by decide) ?_
      refine topi (y := bI (f_sol gl aq ps)) (by rw [c7]; show nI 0 = bI (decide (aq = some (ps d7))); simp [c32, bI]; rfl) ?_
      rw [hQ]
      exact W.zret (v := bI (f_sol gl aq ps)) hx hb hr (bnar _) (fun t9 ht hW => ⟨⟨_, _, rfl, ⟨rfl, rfl⟩, by rw [ht]; exact hP, rfl⟩, hS.F ht⟩) hS.2.2 dX8_isSolved_40
    · have _ : True := trivial
      refine lv_iconst (v := nI 1) hx hb dX8_isSolved_35 (by decide) ?_
      refine topi (y := bI (f_sol gl aq ps)) (by rw [c7]; show nI 1 = bI (decide (aq = some (ps d7))); simp [c32, bI]; rfl) ?_
      refine lv_goto (tgt := 40) hx hb dX8_isSolved_36 (by decide) ?_
      rw [hQ]
      exact W.zret (v := bI (f_sol gl aq ps)) hx hb hr (bnar _) (fun t9 ht hW => ⟨⟨_, _, rfl, ⟨rfl, rfl⟩, by rw [ht]; exact hP, rfl⟩, hS.F ht⟩) hS.2.2 dX8_isSolved_40

set_option maxHeartbeats 400000 in
set_option maxRecDepth 100000 in
theorem c_X8_isInside (l : Launch) (D : va_G) (cI cJ cB : ClassId) (o kv kp kx kl kh ki kf kq ka kt kd kn mpm mty mwi mhi mwa mle mam mli : Nat) (mgo : Option Nat) (mtm : Bool) (mpa : Nat → Int32) (mtx mlt mha mfi mqu mta mln mal : Nat → Nat) (mfa mdi : Nat → Option Nat) (wd hd nb wl : Nat) (st sl : Int32) (gl aq lb : Option Nat) (sh bw bh ps : Nat → Nat) (b : Nat) (x : Int32) (hw1 : 1 ≤ wd) (hw6 : wd ≤ 6) (hd6 : hd ≤ 6) (h24 : wd * hd ≤ 24) (hb7 : b < 7) (hbw : bw b < 2 ^ 20) (hbh : bh b < 2 ^ 20) : Met l yX8_isInside (Cond.code yX8_isInside cX8_isInside 3 (some .boolean) :: lw_all) (rmN 1) (va_Pc [.ref o, .int (nI b), .int x] (pB D (tyz cI cJ cB) (mW cI cJ cB o kv kp kx kl kh ki kf kq ka kt kd kn (nI mpm) (nI mty) (nI mwi) (nI mhi) (nI mwa) (nI mle) (gI mgo) (nI mam) (bI mtm) (nI mli) (vF wd hd nb wl st sl gl aq lb sh bw bh ps) mpa (fun zz => nI (mtx zz)) (fun zz => nI (mlt zz)) (fun zz => nI (mha zz)) (fun zz => nI (mfi zz)) (fun zz => oI (mfa zz)) (fun zz => nI (mqu zz)) (fun zz => lN (mal zz)) (fun zz => nI (mta zz)) (fun zz => oI (mdi zz)) (fun zz => nI (mln zz))))) (va_Qi (fun (r : Int32) (w : va_W) => r = bI (match bOf (wd * hd) x with | some q => f_ins wd hd (bw b) (bh b) q | none => false) ∧ w = mW cI cJ cB o kv kp kx kl kh ki kf kq ka kt kd kn (nI mpm) (nI mty) (nI mwi) (nI mhi) (nI mwa) (nI mle) (gI mgo) (nI mam) (bI mtm) (nI mli) (vF wd hd nb wl st sl gl aq lb sh bw bh ps) mpa (fun zz => nI (mtx zz)) (fun zz => nI (mlt zz)) (fun zz => nI (mha zz)) (fun zz => nI (mfi zz)) (fun zz => oI (mfa zz)) (fun zz => nI (mqu zz)) (fun zz => lN (mal zz)) (fun zz => nI (mta zz)) (fun zz => oI (mdi zz)) (fun zz => nI (mln zz))) (gB D (mW cI cJ cB o kv kp kx kl kh ki kf kq ka kt kd kn (nI mpm) (nI mty) (nI mwi) (nI mhi) (nI mwa) (nI mle) (gI mgo) (nI mam) (bI mtm) (nI mli) (vF wd hd nb wl st sl gl aq lb sh bw bh ps) mpa (fun zz => nI (mtx zz)) (fun zz => nI (mlt zz)) (fun zz => nI (mha zz)) (fun zz => nI (mfi zz)) (fun zz => oI (mfa zz)) (fun zz => nI (mqu zz)) (fun zz => lN (mal zz)) (fun zz => nI (mta zz)) (fun zz => oI (mdi zz)) (fun zz => nI (mln zz)))) (aW (mW cI cJ cB o kv kp kx kl kh ki kf kq ka kt kd kn (nI mpm) (nI mty) (nI mwi) (nI mhi) (nI mwa) (nI mle) (gI mgo) (nI mam) (bI mtm) (nI mli) (vF wd hd nb wl st sl gl aq lb sh bw bh ps) mpa (fun zz => nI (mtx zz)) (fun zz => nI (mlt zz)) (fun zz => nI (mha zz)) (fun zz => nI (mfi zz)) (fun zz => oI (mfa zz)) (fun zz => nI (mqu zz)) (fun zz => lN (mal zz)) (fun zz => nI (mta zz)) (fun zz => oI (mdi zz)) (fun zz => nI (mln zz))))) 0 0 (aW (mW cI cJ cB o kv kp kx kl kh ki kf kq ka kt kd kn (nI mpm) (nI mty) (nI mwi) (nI mhi) (nI mwa) (nI mle) (gI mgo) (nI mam) (bI mtm) (nI mli) (vF wd hd nb wl st sl gl aq lb sh bw bh ps) mpa (fun zz => nI (mtx zz)) (fun zz => nI (mlt zz)) (fun zz => nI (mha zz)) (fun zz => nI (mfi zz)) (fun zz => oI (mfa zz)) (fun zz => nI (mqu zz)) (fun zz => lN (mal zz)) (fun zz => nI (mta zz)) (fun zz => oI (mdi zz)) (fun zz => nI (mln zz)))) := by
  refine Met.ofW (cc := cX8_isInside) (maxL := 3) (ret := (some .boolean)) (by decide) rfl ?_
  intro p e s m args below meth c s₁ B hml hv
  obtain ⟨rfl, hK, hN, hP, hD0⟩ := hv
  have hx := B.exec; have hb := B.bytes; have hr := B.returns; have hlocks := B.notSynchronized
  have hts0 := atoms_spec (ws := Cond.code yX8_isInside cX8_isInside 3 (some .boolean) :: lw_all) B.pre
  have hC : CallFix p m c cX8_isInside 3 s _ lw_all RX8 := ⟨hx, hb, hml, findClass_of_methodNamed B.named, fun w h => hts0 w (List.mem_cons_of_mem _ h)⟩
  have hD : va_D (aW (mW cI cJ cB o kv kp kx kl kh ki kf kq ka kt kd kn (nI mpm) (nI mty) (nI mwi) (nI mhi) (nI mwa) (nI mle) (gI mgo) (nI mam) (bI mtm) (nI mli) (vF wd hd nb wl st sl gl aq lb sh bw bh ps) mpa (fun zz => nI (mtx zz)) (fun zz => nI (mlt zz)) (fun zz => nI (mha zz)) (fun zz => nI (mfi zz)) (fun zz => oI (mfa zz)) (fun zz => nI (mqu zz)) (fun zz => lN (mal zz)) (fun zz => nI (mta zz)) (fun zz => oI (mdi zz)) (fun zz => nI (mln zz)))) (mW cI cJ cB o kv kp kx kl kh ki kf kq ka kt kd kn (nI mpm) (nI mty) (nI mwi) (nI mhi) (nI mwa) (nI mle) (gI mgo) (nI mam) (bI mtm) (nI mli) (vF wd hd nb wl st sl gl aq lb sh bw bh ps) mpa (fun zz => nI (mtx zz)) (fun zz => nI (mlt zz)) (fun zz => nI (mha zz)) (fun zz => nI (mfi zz)) (fun zz => oI (mfa zz)) (fun zz => nI (mqu zz)) (fun zz => lN (mal zz)) (fun zz => nI (mta zz)) (fun zz => oI (mdi zz)) (fun zz => nI (mln zz))) := ⟨hD0.1, fun k q h => ⟨k, q.2, h⟩⟩
  generalize hAe : aW (mW cI cJ cB o kv kp kx kl kh ki kf kq ka kt kd kn (nI mpm) (nI mty) (nI mwi) (nI mhi) (nI mwa) (nI mle) (gI mgo) (nI mam) (bI mtm) (nI mli) (vF wd hd nb wl st sl gl aq lb sh bw bh ps) mpa (fun zz => nI (mtx zz)) (fun zz => nI (mlt zz)) (fun zz => nI (mha zz)) (fun zz => nI (mfi zz)) (fun zz => oI (mfa zz)) (fun zz => nI (mqu zz)) (fun zz => lN (mal zz)) (fun zz => nI (mta zz)) (fun zz => oI (mdi zz)) (fun zz => nI (mln zz))) = A at hD ⊢
  have hS : va_S A s.heap s.heap [] := va_S.rf
  have hl := lv_entry ([.ref o, .int (nI b), .int x]) (n := 3) (Nat.le_of_ble_eq_true rfl)
  rw [lg_entry_eq]
  generalize (lg_sl ([.ref o, .int (nI b), .int x]) ++ List.replicate (3 - (lg_sl ([.ref o, .int (nI b), .int x])).length) Slot.unset).toArray = ls at hl ⊢
  have hl : lv_has ls 3 [(0, .ref o), (1, .int (nI b)), (2, .int x)] := hl
  generalize hav : ([.ref o, .int (nI b), .int x] : List Value).toArray = args at hC ⊢
  refine W_gen (fun QQ hQ => ?_)
  show W p l e (rmN 1) s m args below meth c s.heap [] 0 0 QQ (F0 m 0 ls [])
  refine lv_iload_n hx hb dX8_isInside_0 rfl (lv_at hl 2 rfl) ?_
  refine lv_iconst (v := nI 0) hx hb dX8_isInside_1 (by decide) ?_
  refine lv_aload_n hx hb dX8_isInside_2 rfl (lv_at hl 0 rfl) ?_
  refine callV_i (As := []) (rest := [.int (nI 0), .int x]) [0, 1, 2, 3, 4, 5, 6, 7, 8, 9, 10, 11, 12] hC hK hN hP hD rfl (by decide) hS 0 (ci := 8) rfl rfl rfl (c_X8_cells l D cI cJ cB o kv kp kx kl kh ki kf kq ka kt kd kn mpm mty mwi mhi mwa mle mam mli mgo mtm mpa mtx mlt mha mfi mqu mta mln mal mfa mdi wd hd nb wl st sl gl aq lb sh bw bh ps ) q796 md_X8_cells rfl hl.1 rfl (Nat.le_of_ble_eq_true rfl) dX8_isInside_3 ⟨Nat.le_of_ble_eq_true rfl, Nat.le_of_ble_eq_true rfl⟩ ⟨Nat.le_of_ble_eq_true rfl, Nat.le_of_ble_eq_true rfl⟩ (fun r_3 w H locs hpost hP hD hS => ?_)
  obtain ⟨rfl, rfl⟩ := hpost
  have hP : va_P D vwCl (mW cI cJ cB o kv kp kx kl kh ki kf kq ka kt kd kn (nI mpm) (nI mty) (nI mwi) (nI mhi) (nI mwa) (nI mle) (gI mgo) (nI mam) (bI mtm) (nI mli) (vF wd hd nb wl st sl gl aq lb sh bw bh ps) mpa (fun zz => nI (mtx zz)) (fun zz => nI (mlt zz)) (fun zz => nI (mha zz)) (fun zz => nI (mfi zz)) (fun zz => oI (mfa zz)) (fun zz => nI (mqu zz)) (fun zz => lN (mal zz)) (fun zz => nI (mta zz)) (fun zz => oI (mdi zz)) (fun zz => nI (mln zz))) H := hP
  have hD : va_D A (mW cI cJ cB o kv kp kx kl kh ki kf kq ka kt kd kn (nI mpm) (nI mty) (nI mwi) (nI mhi) (nI mwa) (nI mle) (gI mgo) (nI mam) (bI mtm) (nI mli) (vF wd hd nb wl st sl gl aq lb sh bw bh ps) mpa (fun zz => nI (mtx zz)) (fun zz => nI (mlt zz)) (fun zz => nI (mha zz)) (fun zz => nI (mfi zz)) (fun zz => oI (mfa zz)) (fun zz => nI (mqu zz)) (fun zz => lN (mal zz)) (fun zz => nI (mta zz)) (fun zz => oI (mdi zz)) (fun zz => nI (mln zz))) := hD
  refine lv_iconst (v := nI 1) hx hb dX8_isInside_6 (by decide) ?_
  refine lv_isub hx hb dX8_isInside_7 ?_
  refine callS_i (As := [.int x, .int (nI 0), .int ((nI (wd * hd)) - (nI 1))]) (rest := []) [] hC hK hN hP hD rfl (by decide) hS (c_X8_in l D cI cJ cB x (nI 0) ((nI (wd * hd)) - (nI 1)) ) q750 md_X8_in rfl hl.1 rfl (Nat.le_of_ble_eq_true rfl) dX8_isInside_8 ⟨Nat.le_of_ble_eq_true rfl, Nat.le_of_ble_eq_true rfl⟩ ⟨Nat.le_of_ble_eq_true rfl, Nat.le_of_ble_eq_true rfl⟩ (fun r_8 w H locs hpost hP hD hS => ?_)
  obtain ⟨rfl, rfl⟩ := hpost
  have hP : va_P D vwCl (mW cI cJ cB o kv kp kx kl kh ki kf kq ka kt kd kn (nI mpm) (nI mty) (nI mwi) (nI mhi) (nI mwa) (nI mle) (gI mgo) (nI mam) (bI mtm) (nI mli) (vF wd hd nb wl st sl gl aq lb sh bw bh ps) mpa (fun zz => nI (mtx zz)) (fun zz => nI (mlt zz)) (fun zz => nI (mha zz)) (fun zz => nI (mfi zz)) (fun zz => oI (mfa zz)) (fun zz => nI (mqu zz)) (fun zz => lN (mal zz)) (fun zz => nI (mta zz)) (fun zz => oI (mdi zz)) (fun zz => nI (mln zz))) H := hP
  have hD : va_D A (mW cI cJ cB o kv kp kx kl kh ki kf kq ka kt kd kn (nI mpm) (nI mty) (nI mwi) (nI mhi) (nI mwa) (nI mle) (gI mgo) (nI mam) (bI mtm) (nI mli) (vF wd hd nb wl st sl gl aq lb sh bw bh ps) mpa (fun zz => nI (mtx zz)) (fun zz => nI (mlt zz)) (fun zz => nI (mha zz)) (fun zz => nI (mfi zz)) (fun zz => oI (mfa zz)) (fun zz => nI (mqu zz)) (fun zz => lN (mal zz)) (fun zz => nI (mta zz)) (fun zz => oI (mdi zz)) (fun zz => nI (mln zz))) := hD
  refine b_if_eq (tgt := 72) hx hb dX8_isInside_11 (by decide) (fun c11 => ?_) (fun c11 => ?_)
  · have _ : True := trivial
    refine lv_iconst (v := nI 0) hx hb dX8_isInside_72 (by decide) ?_
    refine topi (y := bI (match bOf (wd * hd) x with | some q => f_ins wd hd (bw b) (bh b) q | none => false)) (by rw [bOf_none (by omega) c11]; rfl) ?_
    rw [hQ]
    exact W.zret (v := bI (match bOf (wd * hd) x with | some q => f_ins wd hd (bw b) (bh b) q | none => false)) hx hb hr (bnar _) (fun t9 ht hW => ⟨⟨_, _, rfl, ⟨rfl, rfl⟩, by rw [ht]; exact hP, rfl⟩, hS.F ht⟩) hS.2.2 dX8_isInside_73
  · have _ : True := trivial
    obtain ⟨q, hq, hxq, hqo⟩ := bOf_some (by omega) c11
    subst hxq
    refine lv_iload_n hx hb dX8_isInside_14 rfl (lv_at hl 2 rfl) ?_
    refine lv_aload_n hx hb dX8_isInside_15 rfl (lv_at hl 0 rfl) ?_
    refine gf_X8_7 hC hK hP 0 rfl rfl dX8_isInside_16 ?_
    refine lv_iconst (v := nI 0) hx hb dX8_isInside_19 (by decide) ?_
    refine n_iald hx hb hK hP 1 0 rfl rfl (by omega) (by decide) dX8_isInside_20 ?_
    refine topi (y := nI wd) rfl ?_
    refine n_irem hx hb dX8_isInside_21 (by omega) (by omega) (by omega) ?_
    refine lv_aload_n hx hb dX8_isInside_22 rfl (lv_at hl 0 rfl) ?_
    refine gf_X8_7 hC hK hP 0 rfl rfl dX8_isInside_23 ?_
    refine lv_bipush (v := nI 17) hx hb dX8_isInside_26 (by decide) ?_
    refine lv_iload_n hx hb dX8_isInside_28 rfl (lv_at hl 1 rfl) ?_
    refine n_iadd hx hb dX8_isInside_29  ?_
    refine n_iald hx hb hK hP 1 0 rfl rfl (by omega) (by decide) dX8_isInside_30 ?_
    refine topi (y := nI (bw b)) (vF_bw (by omega)) ?_
    refine n_iadd hx hb dX8_isInside_31  ?_
    refine lv_aload_n hx hb dX8_isInside_32 rfl (lv_at hl 0 rfl) ?_
    refine gf_X8_7 hC hK hP 0 rfl rfl dX8_isInside_33 ?_
    refine lv_iconst (v := nI 0) hx hb dX8_isInside_36 (by decide) ?_
    refine n_iald hx hb hK hP 1 0 rfl rfl (by omega) (by decide) dX8_isInside_37 ?_
    refine topi (y := nI wd) rfl ?_
    refine n_icmp_gt (a := (q % wd) + (bw b)) (b := wd) (tgt := 72) hx hb dX8_isInside_38 (by decide) (by have := Nat.mod_lt q hw1; omega) (by omega) (fun c38 => ?_) (fun c38 => ?_)
    · have _ : True := trivial
      refine lv_iconst (v := nI 0) hx hb dX8_isInside_72 (by decide) ?_
      refine topi (y := bI (match bOf (wd * hd) (nI q) with | some q => f_ins wd hd (bw b) (bh b) q | none => false)) (by rw [hqo]; simp [f_ins, Nat.not_le.mpr c38, bI]; rfl) ?_
      rw [hQ]
      exact W.zret (v := bI (match bOf (wd * hd) (nI q) with | some q => f_ins wd hd (bw b) (bh b) q | none => false)) hx hb hr (bnar _) (fun t9 ht hW => ⟨⟨_, _, rfl, ⟨rfl, rfl⟩, by rw [ht]; exact hP, rfl⟩, hS.F ht⟩) hS.2.2 dX8_isInside_73
    · have _ : True := trivial
      refine lv_iload_n hx hb dX8_isInside_41 rfl (lv_at hl 2 rfl) ?_
      refine lv_aload_n hx hb dX8_isInside_42 rfl (lv_at hl 0 rfl) ?_
      refine gf_X8_7 hC hK hP 0 rfl rfl dX8_isInside_43 ?_
      refine lv_iconst (v := nI 0) hx hb dX8_isInside_46 (by decide) ?_
      refine n_iald hx hb hK hP 1 0 rfl rfl (by omega) (by decide) dX8_isInside_47 ?_
      refine topi (y := nI wd) rfl ?_
      refine n_idiv hx hb dX8_isInside_48 (by omega) (by omega) (by omega) ?_
      refine lv_aload_n hx hb dX8_isInside_49 rfl (lv_at hl 0 rfl) ?_
      refine gf_X8_7 hC hK hP 0 rfl rfl dX8_isInside_50 ?_
      refine lv_bipush (v := nI 24) hx hb dX8_isInside_53 (by decide) ?_
      refine lv_iload_n hx hb dX8_isInside_55 rfl (lv_at hl 1 rfl) ?_
      refine n_iadd hx hb dX8_isInside_56  ?_
      refine n_iald hx hb hK hP 1 0 rfl rfl (by omega) (by decide) dX8_isInside_57 ?_
      refine topi (y := nI (bh b)) (vF_bh (by omega)) ?_
      refine n_iadd hx hb dX8_isInside_58  ?_
      refine lv_aload_n hx hb dX8_isInside_59 rfl (lv_at hl 0 rfl) ?_
      refine gf_X8_7 hC hK hP 0 rfl rfl dX8_isInside_60 ?_
      refine lv_iconst (v := nI 1) hx hb dX8_isInside_63 (by decide) ?_
      refine n_iald hx hb hK hP 1 0 rfl rfl (by omega) (by decide) dX8_isInside_64 ?_
      refine topi (y := nI hd) rfl ?_
      refine n_icmp_gt (a := (q / wd) + (bh b)) (b := hd) (tgt := 72) hx hb dX8_isInside_65 (by decide) (by have := Nat.div_le_self q wd; omega) (by omega) (fun c65 => ?_) (fun c65 => ?_)
      · have _ : True := trivial
        refine lv_iconst (v := nI 0) hx hb dX8_isInside_72 (by decide) ?_
        refine topi (y := bI (match bOf (wd * hd) (nI q) with | some q => f_ins wd hd (bw b) (bh b) q | none => false)) (by rw [hqo]; simp [f_ins, Nat.not_le.mpr c65, bI]; rfl) ?_
        rw [hQ]
        exact W.zret (v := bI (match bOf (wd * hd) (nI q) with | some q => f_ins wd hd (bw b) (bh b) q | none => false)) hx hb hr (bnar _) (fun t9 ht hW => ⟨⟨_, _, rfl, ⟨rfl, rfl⟩, by rw [ht]; exact hP, rfl⟩, hS.F ht⟩) hS.2.2 dX8_isInside_73
      · have _ : True := trivial
        refine lv_iconst (v := nI 1) hx hb dX8_isInside_68 (by decide) ?_
        refine topi (y := bI (match bOf (wd * hd) (nI q) with | some q => f_ins wd hd (bw b) (bh b) q | none => false)) (by rw [hqo]; simp [f_ins, c38, c65, bI]; rfl) ?_
        refine lv_goto (tgt := 73) hx hb dX8_isInside_69 (by decide) ?_
        rw [hQ]
        exact W.zret (v := bI (match bOf (wd * hd) (nI q) with | some q => f_ins wd hd (bw b) (bh b) q | none => false)) hx hb hr (bnar _) (fun t9 ht hW => ⟨⟨_, _, rfl, ⟨rfl, rfl⟩, by rw [ht]; exact hP, rfl⟩, hS.F ht⟩) hS.2.2 dX8_isInside_73

set_option maxHeartbeats 400000 in
set_option maxRecDepth 100000 in
theorem c_X8_moves (l : Launch) (D : va_G) (cI cJ cB : ClassId) (o kv kp kx kl kh ki kf kq ka kt kd kn mpm mty mwi mhi mwa mle mam mli : Nat) (mgo : Option Nat) (mtm : Bool) (mpa : Nat → Int32) (mtx mlt mha mfi mqu mta mln mal : Nat → Nat) (mfa mdi : Nat → Option Nat) (wd hd nb wl : Nat) (st sl : Int32) (gl aq lb : Option Nat) (sh bw bh ps : Nat → Nat) (b q kz : Nat) (z : Bool) (hb7 : b < 7) (hlb : ∀ d, lb = some d → d < 2 ^ 31) : Met l yX8_moves (Cond.code yX8_moves cX8_moves 5 none :: lw_all) (rmN 0) (va_Pc [.ref o, .int (nI b), .int (nI q), .int (nI kz), .int (bI z)] (pB D (tyz cI cJ cB) (mW cI cJ cB o kv kp kx kl kh ki kf kq ka kt kd kn (nI mpm) (nI mty) (nI mwi) (nI mhi) (nI mwa) (nI mle) (gI mgo) (nI mam) (bI mtm) (nI mli) (vF wd hd nb wl st sl gl aq lb sh bw bh ps) mpa (fun zz => nI (mtx zz)) (fun zz => nI (mlt zz)) (fun zz => nI (mha zz)) (fun zz => nI (mfi zz)) (fun zz => oI (mfa zz)) (fun zz => nI (mqu zz)) (fun zz => lN (mal zz)) (fun zz => nI (mta zz)) (fun zz => oI (mdi zz)) (fun zz => nI (mln zz))))) (va_Qv (fun (w : va_W) => w = mW cI cJ cB o kv kp kx kl kh ki kf kq ka kt kd kn (nI mpm) (nI mty) (nI mwi) (nI mhi) (nI mwa) (nI mle) (gI mgo) (nI mam) (bI mtm) (nI mli) (vF wd hd nb wl (st + nI kz) (mvsl sl z lb b) gl aq (some b) sh bw bh (va_up ps b q)) mpa (fun zz => nI (mtx zz)) (fun zz => nI (mlt zz)) (fun zz => nI (mha zz)) (fun zz => nI (mfi zz)) (fun zz => oI (mfa zz)) (fun zz => nI (mqu zz)) (fun zz => lN (mal zz)) (fun zz => nI (mta zz)) (fun zz => oI (mdi zz)) (fun zz => nI (mln zz))) (gB D (mW cI cJ cB o kv kp kx kl kh ki kf kq ka kt kd kn (nI mpm) (nI mty) (nI mwi) (nI mhi) (nI mwa) (nI mle) (gI mgo) (nI mam) (bI mtm) (nI mli) (vF wd hd nb wl st sl gl aq lb sh bw bh ps) mpa (fun zz => nI (mtx zz)) (fun zz => nI (mlt zz)) (fun zz => nI (mha zz)) (fun zz => nI (mfi zz)) (fun zz => oI (mfa zz)) (fun zz => nI (mqu zz)) (fun zz => lN (mal zz)) (fun zz => nI (mta zz)) (fun zz => oI (mdi zz)) (fun zz => nI (mln zz)))) (aW (mW cI cJ cB o kv kp kx kl kh ki kf kq ka kt kd kn (nI mpm) (nI mty) (nI mwi) (nI mhi) (nI mwa) (nI mle) (gI mgo) (nI mam) (bI mtm) (nI mli) (vF wd hd nb wl st sl gl aq lb sh bw bh ps) mpa (fun zz => nI (mtx zz)) (fun zz => nI (mlt zz)) (fun zz => nI (mha zz)) (fun zz => nI (mfi zz)) (fun zz => oI (mfa zz)) (fun zz => nI (mqu zz)) (fun zz => lN (mal zz)) (fun zz => nI (mta zz)) (fun zz => oI (mdi zz)) (fun zz => nI (mln zz))))) 0 0 (aW (mW cI cJ cB o kv kp kx kl kh ki kf kq ka kt kd kn (nI mpm) (nI mty) (nI mwi) (nI mhi) (nI mwa) (nI mle) (gI mgo) (nI mam) (bI mtm) (nI mli) (vF wd hd nb wl st sl gl aq lb sh bw bh ps) mpa (fun zz => nI (mtx zz)) (fun zz => nI (mlt zz)) (fun zz => nI (mha zz)) (fun zz => nI (mfi zz)) (fun zz => oI (mfa zz)) (fun zz => nI (mqu zz)) (fun zz => lN (mal zz)) (fun zz => nI (mta zz)) (fun zz => oI (mdi zz)) (fun zz => nI (mln zz)))) := by
  refine Met.ofW (cc := cX8_moves) (maxL := 5) (ret := none) (by decide) rfl ?_
  intro p e s m args below meth c s₁ B hml hv
  obtain ⟨rfl, hK, hN, hP, hD0⟩ := hv
  have hx := B.exec; have hb := B.bytes; have hr := B.returns; have hlocks := B.notSynchronized
  have hts0 := atoms_spec (ws := Cond.code yX8_moves cX8_moves 5 none :: lw_all) B.pre
  have hC : CallFix p m c cX8_moves 5 s _ lw_all RX8 := ⟨hx, hb, hml, findClass_of_methodNamed B.named, fun w h => hts0 w (List.mem_cons_of_mem _ h)⟩
  have hD : va_D (aW (mW cI cJ cB o kv kp kx kl kh ki kf kq ka kt kd kn (nI mpm) (nI mty) (nI mwi) (nI mhi) (nI mwa) (nI mle) (gI mgo) (nI mam) (bI mtm) (nI mli) (vF wd hd nb wl st sl gl aq lb sh bw bh ps) mpa (fun zz => nI (mtx zz)) (fun zz => nI (mlt zz)) (fun zz => nI (mha zz)) (fun zz => nI (mfi zz)) (fun zz => oI (mfa zz)) (fun zz => nI (mqu zz)) (fun zz => lN (mal zz)) (fun zz => nI (mta zz)) (fun zz => oI (mdi zz)) (fun zz => nI (mln zz)))) (mW cI cJ cB o kv kp kx kl kh ki kf kq ka kt kd kn (nI mpm) (nI mty) (nI mwi) (nI mhi) (nI mwa) (nI mle) (gI mgo) (nI mam) (bI mtm) (nI mli) (vF wd hd nb wl st sl gl aq lb sh bw bh ps) mpa (fun zz => nI (mtx zz)) (fun zz => nI (mlt zz)) (fun zz => nI (mha zz)) (fun zz => nI (mfi zz)) (fun zz => oI (mfa zz)) (fun zz => nI (mqu zz)) (fun zz => lN (mal zz)) (fun zz => nI (mta zz)) (fun zz => oI (mdi zz)) (fun zz => nI (mln zz))) := ⟨hD0.1, fun k q h => ⟨k, q.2, h⟩⟩
  generalize hAe : aW (mW cI cJ cB o kv kp kx kl kh ki kf kq ka kt kd kn (nI mpm) (nI mty) (nI mwi) (nI mhi) (nI mwa) (nI mle) (gI mgo) (nI mam) (bI mtm) (nI mli) (vF wd hd nb wl st sl gl aq lb sh bw bh ps) mpa (fun zz => nI (mtx zz)) (fun zz => nI (mlt zz)) (fun zz => nI (mha zz)) (fun zz => nI (mfi zz)) (fun zz => oI (mfa zz)) (fun zz => nI (mqu zz)) (fun zz => lN (mal zz)) (fun zz => nI (mta zz)) (fun zz => oI (mdi zz)) (fun zz => nI (mln zz))) = A at hD ⊢
  have hS : va_S A s.heap s.heap [] := va_S.rf
  have hl := lv_entry ([.ref o, .int (nI b), .int (nI q), .int (nI kz), .int (bI z)]) (n := 5) (Nat.le_of_ble_eq_true rfl)
  rw [lg_entry_eq]
  generalize (lg_sl ([.ref o, .int (nI b), .int (nI q), .int (nI kz), .int (bI z)]) ++ List.replicate (5 - (lg_sl ([.ref o, .int (nI b), .int (nI q), .int (nI kz), .int (bI z)])).length) Slot.unset).toArray = ls at hl ⊢
  have hl : lv_has ls 5 [(0, .ref o), (1, .int (nI b)), (2, .int (nI q)), (3, .int (nI kz)), (4, .int (bI z))] := hl
  generalize hav : ([.ref o, .int (nI b), .int (nI q), .int (nI kz), .int (bI z)] : List Value).toArray = args at hC ⊢
  refine W_gen (fun QQ hQ => ?_)
  show W p l e (rmN 0) s m args below meth c s.heap [] 0 0 QQ (F0 m 0 ls [])
  refine lv_aload_n hx hb dX8_moves_0 rfl (lv_at hl 0 rfl) ?_
  refine gf_X8_7 hC hK hP 0 rfl rfl dX8_moves_1 ?_
  refine lv_iconst (v := nI 4) hx hb dX8_moves_4 (by decide) ?_
  refine lv_dup2_11 hx hb dX8_moves_5 rfl rfl ?_
  refine n_iald hx hb hK hP 1 0 rfl rfl (by omega) (by decide) dX8_moves_6 ?_
  refine topi (y := st) rfl ?_
  refine lv_iload_n hx hb dX8_moves_7 rfl (lv_at hl 3 rfl) ?_
  refine lv_iadd hx hb dX8_moves_8 ?_
  refine n_iast hx hb hK hP hD hS 1 0 rfl rfl (by omega) (by decide) (vF_u4 ..) (ws1 := mW cI cJ cB o kv kp kx kl kh ki kf kq ka kt kd kn (nI mpm) (nI mty) (nI mwi) (nI mhi) (nI mwa) (nI mle) (gI mgo) (nI mam) (bI mtm) (nI mli) (vF wd hd nb wl (st + (nI kz)) sl gl aq lb sh bw bh ps) mpa (fun zz => nI (mtx zz)) (fun zz => nI (mlt zz)) (fun zz => nI (mha zz)) (fun zz => nI (mfi zz)) (fun zz => oI (mfa zz)) (fun zz => nI (mqu zz)) (fun zz => lN (mal zz)) (fun zz => nI (mta zz)) (fun zz => oI (mdi zz)) (fun zz => nI (mln zz))) rfl dX8_moves_9 (fun H locs hP hD hS => ?_)
  refine lv_aload_n hx hb dX8_moves_10 rfl (lv_at hl 0 rfl) ?_
  refine gf_X8_7 hC hK hP 0 rfl rfl dX8_moves_11 ?_
  refine lv_iconst (v := nI 5) hx hb dX8_moves_14 (by decide) ?_
  refine lv_dup2_11 hx hb dX8_moves_15 rfl rfl ?_
  refine n_iald hx hb hK hP 1 0 rfl rfl (by omega) (by decide) dX8_moves_16 ?_
  refine topi (y := sl) rfl ?_
  refine lv_iload hx hb dX8_moves_17 (lv_at hl 4 rfl) ?_
  refine b_if_ne (tgt := 33) hx hb dX8_moves_19 (by decide) (fun c19 => ?_) (fun c19 => ?_)
  · have _ : True := trivial
    refine lv_iconst (v := nI 1) hx hb dX8_moves_33 (by decide) ?_
    refine lv_goto (tgt := 38) hx hb dX8_moves_34 (by decide) ?_
    refine lv_iadd hx hb dX8_moves_38 ?_
    refine topi (y := mvsl sl z lb b) (by unfold mvsl; rw [if_pos (Or.inl c19)]) ?_
    refine n_iast hx hb hK hP hD hS 1 0 rfl rfl (by omega) (by decide) (vF_u5 ..) (ws1 := mW cI cJ cB o kv kp kx kl kh ki kf kq ka kt kd kn (nI mpm) (nI mty) (nI mwi) (nI mhi) (nI mwa) (nI mle) (gI mgo) (nI mam) (bI mtm) (nI mli) (vF wd hd nb wl (st + (nI kz)) (mvsl sl z lb b) gl aq lb sh bw bh ps) mpa (fun zz => nI (mtx zz)) (fun zz => nI (mlt zz)) (fun zz => nI (mha zz)) (fun zz => nI (mfi zz)) (fun zz => oI (mfa zz)) (fun zz => nI (mqu zz)) (fun zz => lN (mal zz)) (fun zz => nI (mta zz)) (fun zz => oI (mdi zz)) (fun zz => nI (mln zz))) rfl dX8_moves_39 (fun H locs hP hD hS => ?_)
    refine lv_aload_n hx hb dX8_moves_40 rfl (lv_at hl 0 rfl) ?_
    refine gf_X8_7 hC hK hP 0 rfl rfl dX8_moves_41 ?_
    refine lv_bipush (v := nI 8) hx hb dX8_moves_44 (by decide) ?_
    refine lv_iload_n hx hb dX8_moves_46 rfl (lv_at hl 1 rfl) ?_
    refine topi (y := gI (some b)) rfl ?_
    refine n_iast hx hb hK hP hD hS 1 0 rfl rfl (by omega) (by decide) (vF_u8 ..) (ws1 := mW cI cJ cB o kv kp kx kl kh ki kf kq ka kt kd kn (nI mpm) (nI mty) (nI mwi) (nI mhi) (nI mwa) (nI mle) (gI mgo) (nI mam) (bI mtm) (nI mli) (vF wd hd nb wl (st + (nI kz)) (mvsl sl z lb b) gl aq (some b) sh bw bh ps) mpa (fun zz => nI (mtx zz)) (fun zz => nI (mlt zz)) (fun zz => nI (mha zz)) (fun zz => nI (mfi zz)) (fun zz => oI (mfa zz)) (fun zz => nI (mqu zz)) (fun zz => lN (mal zz)) (fun zz => nI (mta zz)) (fun zz => oI (mdi zz)) (fun zz => nI (mln zz))) rfl dX8_moves_47 (fun H locs hP hD hS => ?_)
    refine lv_aload_n hx hb dX8_moves_48 rfl (lv_at hl 0 rfl) ?_
    refine gf_X8_7 hC hK hP 0 rfl rfl dX8_moves_49 ?_
    refine lv_bipush (v := nI 31) hx hb dX8_moves_52 (by decide) ?_
    refine lv_iload_n hx hb dX8_moves_54 rfl (lv_at hl 1 rfl) ?_
    refine n_iadd hx hb dX8_moves_55  ?_
    refine lv_iload_n hx hb dX8_moves_56 rfl (lv_at hl 2 rfl) ?_
    refine n_iast hx hb hK hP hD hS 1 0 rfl rfl (by omega) (by decide) (vF_ups (by omega)) (ws1 := mW cI cJ cB o kv kp kx kl kh ki kf kq ka kt kd kn (nI mpm) (nI mty) (nI mwi) (nI mhi) (nI mwa) (nI mle) (gI mgo) (nI mam) (bI mtm) (nI mli) (vF wd hd nb wl (st + (nI kz)) (mvsl sl z lb b) gl aq (some b) sh bw bh (va_up ps b q)) mpa (fun zz => nI (mtx zz)) (fun zz => nI (mlt zz)) (fun zz => nI (mha zz)) (fun zz => nI (mfi zz)) (fun zz => oI (mfa zz)) (fun zz => nI (mqu zz)) (fun zz => lN (mal zz)) (fun zz => nI (mta zz)) (fun zz => oI (mdi zz)) (fun zz => nI (mln zz))) rfl dX8_moves_57 (fun H locs hP hD hS => ?_)
    rw [hQ]
    exact W.vret hx hb hr (fun t9 ht hW => ⟨⟨_, rfl, rfl, by rw [ht]; exact hP, rfl⟩, hS.F ht⟩) hS.2.2 dX8_moves_58
  · have _ : True := trivial
    refine lv_aload_n hx hb dX8_moves_22 rfl (lv_at hl 0 rfl) ?_
    refine gf_X8_7 hC hK hP 0 rfl rfl dX8_moves_23 ?_
    refine lv_bipush (v := nI 8) hx hb dX8_moves_26 (by decide) ?_
    refine n_iald hx hb hK hP 1 0 rfl rfl (by omega) (by decide) dX8_moves_28 ?_
    refine topi (y := gI lb) rfl ?_
    refine lv_iload_n hx hb dX8_moves_29 rfl (lv_at hl 1 rfl) ?_
    refine g_icmp_eq2 (a := b) (x := lb) (tgt := 37) hx hb dX8_moves_30 (by decide) (by omega) hlb (fun c30 => ?_) (fun c30 => ?_)
    · have _ : True := trivial
      refine lv_iconst (v := nI 0) hx hb dX8_moves_37 (by decide) ?_
      refine lv_iadd hx hb dX8_moves_38 ?_
      refine topi (y := mvsl sl z lb b) (by unfold mvsl; rw [if_neg (by rw [c19, c30]; simp)]) ?_
      refine n_iast hx hb hK hP hD hS 1 0 rfl rfl (by omega) (by decide) (vF_u5 ..) (ws1 := mW cI cJ cB o kv kp kx kl kh ki kf kq ka kt kd kn (nI mpm) (nI mty) (nI mwi) (nI mhi) (nI mwa) (nI mle) (gI mgo) (nI mam) (bI mtm) (nI mli) (vF wd hd nb wl (st + (nI kz)) (mvsl sl z lb b) gl aq lb sh bw bh ps) mpa (fun zz => nI (mtx zz)) (fun zz => nI (mlt zz)) (fun zz => nI (mha zz)) (fun zz => nI (mfi zz)) (fun zz => oI (mfa zz)) (fun zz => nI (mqu zz)) (fun zz => lN (mal zz)) (fun zz => nI (mta zz)) (fun zz => oI (mdi zz)) (fun zz => nI (mln zz))) rfl dX8_moves_39 (fun H locs hP hD hS => ?_)
      refine lv_aload_n hx hb dX8_moves_40 rfl (lv_at hl 0 rfl) ?_
      refine gf_X8_7 hC hK hP 0 rfl rfl dX8_moves_41 ?_
      refine lv_bipush (v := nI 8) hx hb dX8_moves_44 (by decide) ?_
      refine lv_iload_n hx hb dX8_moves_46 rfl (lv_at hl 1 rfl) ?_
      refine topi (y := gI (some b)) rfl ?_
      refine n_iast hx hb hK hP hD hS 1 0 rfl rfl (by omega) (by decide) (vF_u8 ..) (ws1 := mW cI cJ cB o kv kp kx kl kh ki kf kq ka kt kd kn (nI mpm) (nI mty) (nI mwi) (nI mhi) (nI mwa) (nI mle) (gI mgo) (nI mam) (bI mtm) (nI mli) (vF wd hd nb wl (st + (nI kz)) (mvsl sl z lb b) gl aq (some b) sh bw bh ps) mpa (fun zz => nI (mtx zz)) (fun zz => nI (mlt zz)) (fun zz => nI (mha zz)) (fun zz => nI (mfi zz)) (fun zz => oI (mfa zz)) (fun zz => nI (mqu zz)) (fun zz => lN (mal zz)) (fun zz => nI (mta zz)) (fun zz => oI (mdi zz)) (fun zz => nI (mln zz))) rfl dX8_moves_47 (fun H locs hP hD hS => ?_)
      refine lv_aload_n hx hb dX8_moves_48 rfl (lv_at hl 0 rfl) ?_
      refine gf_X8_7 hC hK hP 0 rfl rfl dX8_moves_49 ?_
      refine lv_bipush (v := nI 31) hx hb dX8_moves_52 (by decide) ?_
      refine lv_iload_n hx hb dX8_moves_54 rfl (lv_at hl 1 rfl) ?_
      refine n_iadd hx hb dX8_moves_55  ?_
      refine lv_iload_n hx hb dX8_moves_56 rfl (lv_at hl 2 rfl) ?_
      refine n_iast hx hb hK hP hD hS 1 0 rfl rfl (by omega) (by decide) (vF_ups (by omega)) (ws1 := mW cI cJ cB o kv kp kx kl kh ki kf kq ka kt kd kn (nI mpm) (nI mty) (nI mwi) (nI mhi) (nI mwa) (nI mle) (gI mgo) (nI mam) (bI mtm) (nI mli) (vF wd hd nb wl (st + (nI kz)) (mvsl sl z lb b) gl aq (some b) sh bw bh (va_up ps b q)) mpa (fun zz => nI (mtx zz)) (fun zz => nI (mlt zz)) (fun zz => nI (mha zz)) (fun zz => nI (mfi zz)) (fun zz => oI (mfa zz)) (fun zz => nI (mqu zz)) (fun zz => lN (mal zz)) (fun zz => nI (mta zz)) (fun zz => oI (mdi zz)) (fun zz => nI (mln zz))) rfl dX8_moves_57 (fun H locs hP hD hS => ?_)
      rw [hQ]
      exact W.vret hx hb hr (fun t9 ht hW => ⟨⟨_, rfl, rfl, by rw [ht]; exact hP, rfl⟩, hS.F ht⟩) hS.2.2 dX8_moves_58
    · have _ : True := trivial
      refine lv_iconst (v := nI 1) hx hb dX8_moves_33 (by decide) ?_
      refine lv_goto (tgt := 38) hx hb dX8_moves_34 (by decide) ?_
      refine lv_iadd hx hb dX8_moves_38 ?_
      refine topi (y := mvsl sl z lb b) (by unfold mvsl; rw [if_pos (Or.inr c30)]) ?_
      refine n_iast hx hb hK hP hD hS 1 0 rfl rfl (by omega) (by decide) (vF_u5 ..) (ws1 := mW cI cJ cB o kv kp kx kl kh ki kf kq ka kt kd kn (nI mpm) (nI mty) (nI mwi) (nI mhi) (nI mwa) (nI mle) (gI mgo) (nI mam) (bI mtm) (nI mli) (vF wd hd nb wl (st + (nI kz)) (mvsl sl z lb b) gl aq lb sh bw bh ps) mpa (fun zz => nI (mtx zz)) (fun zz => nI (mlt zz)) (fun zz => nI (mha zz)) (fun zz => nI (mfi zz)) (fun zz => oI (mfa zz)) (fun zz => nI (mqu zz)) (fun zz => lN (mal zz)) (fun zz => nI (mta zz)) (fun zz => oI (mdi zz)) (fun zz => nI (mln zz))) rfl dX8_moves_39 (fun H locs hP hD hS => ?_)
      refine lv_aload_n hx hb dX8_moves_40 rfl (lv_at hl 0 rfl) ?_
      refine gf_X8_7 hC hK hP 0 rfl rfl dX8_moves_41 ?_
      refine lv_bipush (v := nI 8) hx hb dX8_moves_44 (by decide) ?_
      refine lv_iload_n hx hb dX8_moves_46 rfl (lv_at hl 1 rfl) ?_
      refine topi (y := gI (some b)) rfl ?_
      refine n_iast hx hb hK hP hD hS 1 0 rfl rfl (by omega) (by decide) (vF_u8 ..) (ws1 := mW cI cJ cB o kv kp kx kl kh ki kf kq ka kt kd kn (nI mpm) (nI mty) (nI mwi) (nI mhi) (nI mwa) (nI mle) (gI mgo) (nI mam) (bI mtm) (nI mli) (vF wd hd nb wl (st + (nI kz)) (mvsl sl z lb b) gl aq (some b) sh bw bh ps) mpa (fun zz => nI (mtx zz)) (fun zz => nI (mlt zz)) (fun zz => nI (mha zz)) (fun zz => nI (mfi zz)) (fun zz => oI (mfa zz)) (fun zz => nI (mqu zz)) (fun zz => lN (mal zz)) (fun zz => nI (mta zz)) (fun zz => oI (mdi zz)) (fun zz => nI (mln zz))) rfl dX8_moves_47 (fun H locs hP hD hS => ?_)
      refine lv_aload_n hx hb dX8_moves_48 rfl (lv_at hl 0 rfl) ?_
      refine gf_X8_7 hC hK hP 0 rfl rfl dX8_moves_49 ?_
      refine lv_bipush (v := nI 31) hx hb dX8_moves_52 (by decide) ?_
      refine lv_iload_n hx hb dX8_moves_54 rfl (lv_at hl 1 rfl) ?_
      refine n_iadd hx hb dX8_moves_55  ?_
      refine lv_iload_n hx hb dX8_moves_56 rfl (lv_at hl 2 rfl) ?_
      refine n_iast hx hb hK hP hD hS 1 0 rfl rfl (by omega) (by decide) (vF_ups (by omega)) (ws1 := mW cI cJ cB o kv kp kx kl kh ki kf kq ka kt kd kn (nI mpm) (nI mty) (nI mwi) (nI mhi) (nI mwa) (nI mle) (gI mgo) (nI mam) (bI mtm) (nI mli) (vF wd hd nb wl (st + (nI kz)) (mvsl sl z lb b) gl aq (some b) sh bw bh (va_up ps b q)) mpa (fun zz => nI (mtx zz)) (fun zz => nI (mlt zz)) (fun zz => nI (mha zz)) (fun zz => nI (mfi zz)) (fun zz => oI (mfa zz)) (fun zz => nI (mqu zz)) (fun zz => lN (mal zz)) (fun zz => nI (mta zz)) (fun zz => oI (mdi zz)) (fun zz => nI (mln zz))) rfl dX8_moves_57 (fun H locs hP hD hS => ?_)
      rw [hQ]
      exact W.vret hx hb hr (fun t9 ht hW => ⟨⟨_, rfl, rfl, by rw [ht]; exact hP, rfl⟩, hS.F ht⟩) hS.2.2 dX8_moves_58

set_option maxHeartbeats 400000 in
set_option maxRecDepth 100000 in
theorem c_X8_act (l : Launch) (D : va_G) (cI cJ cB : ClassId) (o kv kp kx kl kh ki kf kq ka kt kd kn mpm mty mwi mhi mwa mle mam mli : Nat) (mgo : Option Nat) (mtm : Bool) (mpa : Nat → Int32) (mtx mlt mha mfi mqu mta mln mal : Nat → Nat) (mfa mdi : Nat → Option Nat) (mvr : Nat → Int32) (hh : Nat → Nat → Int32) (hph : PH mpa mpm hh) : Met l yX8_act (Cond.code yX8_act cX8_act 2 none :: lw_all) (rmN 0) (va_Pc [.ref o] (pB D (tyz cI cJ cB) (mW cI cJ cB o kv kp kx kl kh ki kf kq ka kt kd kn (nI mpm) (nI mty) (nI mwi) (nI mhi) (nI mwa) (nI mle) (gI mgo) (nI mam) (bI mtm) (nI mli) mvr mpa (fun zz => nI (mtx zz)) (fun zz => nI (mlt zz)) (fun zz => nI (mha zz)) (fun zz => nI (mfi zz)) (fun zz => oI (mfa zz)) (fun zz => nI (mqu zz)) (fun zz => lN (mal zz)) (fun zz => nI (mta zz)) (fun zz => oI (mdi zz)) (fun zz => nI (mln zz))))) (va_Qv (fun (w : va_W) => ∃ pa2 : Nat → Int32, w = mW cI cJ cB o kv kp kx kl kh ki kf kq ka kt kd kn (nI (hcnt mpm)) (nI mty) (nI mwi) (nI mhi) (nI mwa) (nI mle) (gI mgo) (nI mam) (bI mtm) (nI mli) mvr pa2 (fun zz => nI (mtx zz)) (fun zz => nI (mlt zz)) (fun zz => nI (mha zz)) (fun zz => nI (mfi zz)) (fun zz => oI (mfa zz)) (fun zz => nI (mqu zz)) (fun zz => lN (mal zz)) (fun zz => nI (mta zz)) (fun zz => oI (mdi zz)) (fun zz => nI (mln zz)) ∧ PH pa2 (hcnt mpm) (hpush hh mpm mvr)) (gB D (mW cI cJ cB o kv kp kx kl kh ki kf kq ka kt kd kn (nI mpm) (nI mty) (nI mwi) (nI mhi) (nI mwa) (nI mle) (gI mgo) (nI mam) (bI mtm) (nI mli) mvr mpa (fun zz => nI (mtx zz)) (fun zz => nI (mlt zz)) (fun zz => nI (mha zz)) (fun zz => nI (mfi zz)) (fun zz => oI (mfa zz)) (fun zz => nI (mqu zz)) (fun zz => lN (mal zz)) (fun zz => nI (mta zz)) (fun zz => oI (mdi zz)) (fun zz => nI (mln zz)))) (aW (mW cI cJ cB o kv kp kx kl kh ki kf kq ka kt kd kn (nI mpm) (nI mty) (nI mwi) (nI mhi) (nI mwa) (nI mle) (gI mgo) (nI mam) (bI mtm) (nI mli) mvr mpa (fun zz => nI (mtx zz)) (fun zz => nI (mlt zz)) (fun zz => nI (mha zz)) (fun zz => nI (mfi zz)) (fun zz => oI (mfa zz)) (fun zz => nI (mqu zz)) (fun zz => lN (mal zz)) (fun zz => nI (mta zz)) (fun zz => oI (mdi zz)) (fun zz => nI (mln zz))))) 0 0 (aW (mW cI cJ cB o kv kp kx kl kh ki kf kq ka kt kd kn (nI mpm) (nI mty) (nI mwi) (nI mhi) (nI mwa) (nI mle) (gI mgo) (nI mam) (bI mtm) (nI mli) mvr mpa (fun zz => nI (mtx zz)) (fun zz => nI (mlt zz)) (fun zz => nI (mha zz)) (fun zz => nI (mfi zz)) (fun zz => oI (mfa zz)) (fun zz => nI (mqu zz)) (fun zz => lN (mal zz)) (fun zz => nI (mta zz)) (fun zz => oI (mdi zz)) (fun zz => nI (mln zz)))) := by
  refine Met.ofW (cc := cX8_act) (maxL := 2) (ret := none) (by decide) rfl ?_
  intro p e s m args below meth c s₁ B hml hv
  obtain ⟨rfl, hK, hN, hP, hD0⟩ := hv
  have hx := B.exec; have hb := B.bytes; have hr := B.returns; have hlocks := B.notSynchronized
  have hts0 := atoms_spec (ws := Cond.code yX8_act cX8_act 2 none :: lw_all) B.pre
  have hC : CallFix p m c cX8_act 2 s _ lw_all RX8 := ⟨hx, hb, hml, findClass_of_methodNamed B.named, fun w h => hts0 w (List.mem_cons_of_mem _ h)⟩
  have hD : va_D (aW (mW cI cJ cB o kv kp kx kl kh ki kf kq ka kt kd kn (nI mpm) (nI mty) (nI mwi) (nI mhi) (nI mwa) (nI mle) (gI mgo) (nI mam) (bI mtm) (nI mli) mvr mpa (fun zz => nI (mtx zz)) (fun zz => nI (mlt zz)) (fun zz => nI (mha zz)) (fun zz => nI (mfi zz)) (fun zz => oI (mfa zz)) (fun zz => nI (mqu zz)) (fun zz => lN (mal zz)) (fun zz => nI (mta zz)) (fun zz => oI (mdi zz)) (fun zz => nI (mln zz)))) (mW cI cJ cB o kv kp kx kl kh ki kf kq ka kt kd kn (nI mpm) (nI mty) (nI mwi) (nI mhi) (nI mwa) (nI mle) (gI mgo) (nI mam) (bI mtm) (nI mli) mvr mpa (fun zz => nI (mtx zz)) (fun zz => nI (mlt zz)) (fun zz => nI (mha zz)) (fun zz => nI (mfi zz)) (fun zz => oI (mfa zz)) (fun zz => nI (mqu zz)) (fun zz => lN (mal zz)) (fun zz => nI (mta zz)) (fun zz => oI (mdi zz)) (fun zz => nI (mln zz))) := ⟨hD0.1, fun k q h => ⟨k, q.2, h⟩⟩
  generalize hAe : aW (mW cI cJ cB o kv kp kx kl kh ki kf kq ka kt kd kn (nI mpm) (nI mty) (nI mwi) (nI mhi) (nI mwa) (nI mle) (gI mgo) (nI mam) (bI mtm) (nI mli) mvr mpa (fun zz => nI (mtx zz)) (fun zz => nI (mlt zz)) (fun zz => nI (mha zz)) (fun zz => nI (mfi zz)) (fun zz => oI (mfa zz)) (fun zz => nI (mqu zz)) (fun zz => lN (mal zz)) (fun zz => nI (mta zz)) (fun zz => oI (mdi zz)) (fun zz => nI (mln zz))) = A at hD ⊢
  have hS : va_S A s.heap s.heap [] := va_S.rf
  have hl := lv_entry ([.ref o]) (n := 2) (Nat.le_of_ble_eq_true rfl)
  rw [lg_entry_eq]
  generalize (lg_sl ([.ref o]) ++ List.replicate (2 - (lg_sl ([.ref o])).length) Slot.unset).toArray = ls at hl ⊢
  have hl : lv_has ls 2 [(0, .ref o)] := hl
  generalize hav : ([.ref o] : List Value).toArray = args at hC ⊢
  refine W_gen (fun QQ hQ => ?_)
  show W p l e (rmN 0) s m args below meth c s.heap [] 0 0 QQ (F0 m 0 ls [])
  have L49 : ∀ (p1 : Nat) (pa1 : Nat → Int32), ((mpm = 10 ∧ p1 = 9 ∧ ∀ j, j < 396 → pa1 j = mpa (j + 44)) ∨ (mpm ≠ 10 ∧ p1 = mpm ∧ ∀ j, pa1 j = mpa j)) → ∀ (H : Heap) (locs : List Loc), va_P D vwCl (mW cI cJ cB o kv kp kx kl kh ki kf kq ka kt kd kn (nI p1) (nI mty) (nI mwi) (nI mhi) (nI mwa) (nI mle) (gI mgo) (nI mam) (bI mtm) (nI mli) mvr pa1 (fun zz => nI (mtx zz)) (fun zz => nI (mlt zz)) (fun zz => nI (mha zz)) (fun zz => nI (mfi zz)) (fun zz => oI (mfa zz)) (fun zz => nI (mqu zz)) (fun zz => lN (mal zz)) (fun zz => nI (mta zz)) (fun zz => oI (mdi zz)) (fun zz => nI (mln zz))) H → va_D A (mW cI cJ cB o kv kp kx kl kh ki kf kq ka kt kd kn (nI p1) (nI mty) (nI mwi) (nI mhi) (nI mwa) (nI mle) (gI mgo) (nI mam) (bI mtm) (nI mli) mvr pa1 (fun zz => nI (mtx zz)) (fun zz => nI (mlt zz)) (fun zz => nI (mha zz)) (fun zz => nI (mfi zz)) (fun zz => oI (mfa zz)) (fun zz => nI (mqu zz)) (fun zz => lN (mal zz)) (fun zz => nI (mta zz)) (fun zz => oI (mdi zz)) (fun zz => nI (mln zz))) → va_S A s.heap H locs → ∀ ls : Array Slot, lv_has ls 2 [(0, .ref o)] → W p l e (rmN 0) s m args below meth c H locs 0 0 QQ (F0 m 49 ls []) := by
    intro p1 pa1 i1 H locs hP hD hS ls hl
    refine lv_iconst (v := nI 0) hx hb dX8_act_49 (by decide) ?_
    refine lv_istore_n (lv' := [(1, .int (nI 0)), (0, .ref o)]) hx hb dX8_act_50 rfl hl (by decide) rfl (fun ls hl => ?_)
    have L51 : ∀ (n : Nat) (k : Nat) (pa2 : Nat → Int32), (k ≤ 44) → (∀ j, j < 44 * p1 → pa2 j = pa1 j) → (∀ j, j < k → pa2 (44 * p1 + j) = mvr j) → (44 - k) < n → ∀ (H : Heap) (locs : List Loc), va_P D vwCl (mW cI cJ cB o kv kp kx kl kh ki kf kq ka kt kd kn (nI p1) (nI mty) (nI mwi) (nI mhi) (nI mwa) (nI mle) (gI mgo) (nI mam) (bI mtm) (nI mli) mvr pa2 (fun zz => nI (mtx zz)) (fun zz => nI (mlt zz)) (fun zz => nI (mha zz)) (fun zz => nI (mfi zz)) (fun zz => oI (mfa zz)) (fun zz => nI (mqu zz)) (fun zz => lN (mal zz)) (fun zz => nI (mta zz)) (fun zz => oI (mdi zz)) (fun zz => nI (mln zz))) H → va_D A (mW cI cJ cB o kv kp kx kl kh ki kf kq ka kt kd kn (nI p1) (nI mty) (nI mwi) (nI mhi) (nI mwa) (nI mle) (gI mgo) (nI mam) (bI mtm) (nI mli) mvr pa2 (fun zz => nI (mtx zz)) (fun zz => nI (mlt zz)) (fun zz => nI (mha zz)) (fun zz => nI (mfi zz)) (fun zz => oI (mfa zz)) (fun zz => nI (mqu zz)) (fun zz => lN (mal zz)) (fun zz => nI (mta zz)) (fun zz => oI (mdi zz)) (fun zz => nI (mln zz))) → va_S A s.heap H locs → ∀ ls : Array Slot, lv_has ls 2 [(1, .int (nI k)), (0, .ref o)] → W p l e (rmN 0) s m args below meth c H locs 0 0 QQ (F0 m 51 ls []) := by
      intro n; induction n with
      | zero => intro k pa2 ik i2 i3 hm; exact absurd hm (Nat.not_lt_zero _)
      | succ n ih51 =>
        intro k pa2 ik i2 i3 hm51 H locs hP hD hS ls hl
        refine lv_iload_n hx hb dX8_act_51 rfl (lv_at hl 0 rfl) ?_
        refine lv_bipush (v := nI 44) hx hb dX8_act_52 (by decide) ?_
        refine n_icmp_ge (a := k) (b := 44) (tgt := 83) hx hb dX8_act_54 (by decide) (by omega) (by omega) (fun c54 => ?_) (fun c54 => ?_)
        · have _ : True := trivial
          obtain ⟨e1, e2⟩ := PH_push hph i1 i2 (fun j h => i3 j (by omega))
          refine lv_aload_n hx hb dX8_act_83 rfl (lv_at hl 1 rfl) ?_
          refine lv_dup hx hb dX8_act_84 rfl ?_
          refine gf_X8_51 hC hK hP 0 rfl rfl dX8_act_85 ?_
          refine lv_iconst (v := nI 1) hx hb dX8_act_88 (by decide) ?_
          refine n_iadd hx hb dX8_act_89  ?_
          refine topi (y := nI (hcnt mpm)) (by rw [e2]) ?_
          refine pf_X8_51 hC hK hP hD hS 0 rfl (Nat.le_of_ble_eq_true rfl) (ws1 := mW cI cJ cB o kv kp kx kl kh ki kf kq ka kt kd kn (nI (hcnt mpm)) (nI mty) (nI mwi) (nI mhi) (nI mwa) (nI mle) (gI mgo) (nI mam) (bI mtm) (nI mli) mvr pa2 (fun zz => nI (mtx zz)) (fun zz => nI (mlt zz)) (fun zz => nI (mha zz)) (fun zz => nI (mfi zz)) (fun zz => oI (mfa zz)) (fun zz => nI (mqu zz)) (fun zz => lN (mal zz)) (fun zz => nI (mta zz)) (fun zz => oI (mdi zz)) (fun zz => nI (mln zz))) rfl dX8_act_90 (fun H locs hP hD hS => ?_)
          rw [hQ]
          exact W.vret hx hb hr (fun t9 ht hW => ⟨⟨_, rfl, ⟨pa2, rfl, e1⟩, by rw [ht]; exact hP, rfl⟩, hS.F ht⟩) hS.2.2 dX8_act_93
        · have _ : True := trivial
          refine lv_aload_n hx hb dX8_act_57 rfl (lv_at hl 1 rfl) ?_
          refine gf_X8_13 hC hK hP 0 rfl rfl dX8_act_58 ?_
          refine lv_bipush (v := nI 44) hx hb dX8_act_61 (by decide) ?_
          refine lv_aload_n hx hb dX8_act_63 rfl (lv_at hl 1 rfl) ?_
          refine gf_X8_51 hC hK hP 0 rfl rfl dX8_act_64 ?_
          refine n_imul hx hb dX8_act_67  ?_
          refine lv_iload_n hx hb dX8_act_68 rfl (lv_at hl 0 rfl) ?_
          refine n_iadd hx hb dX8_act_69  ?_
          refine lv_aload_n hx hb dX8_act_70 rfl (lv_at hl 1 rfl) ?_
          refine gf_X8_7 hC hK hP 0 rfl rfl dX8_act_71 ?_
          refine lv_iload_n hx hb dX8_act_74 rfl (lv_at hl 0 rfl) ?_
          refine n_iald hx hb hK hP 1 0 rfl rfl (by omega) (by decide) dX8_act_75 ?_
          refine n_iast hx hb hK hP hD hS 2 0 rfl rfl (by have := hph.1; rcases i1 with h | h <;> omega) (by decide) rfl (ws1 := mW cI cJ cB o kv kp kx kl kh ki kf kq ka kt kd kn (nI p1) (nI mty) (nI mwi) (nI mhi) (nI mwa) (nI mle) (gI mgo) (nI mam) (bI mtm) (nI mli) mvr (upd (pa2) ((44 * p1) + k) (mvr k)) (fun zz => nI (mtx zz)) (fun zz => nI (mlt zz)) (fun zz => nI (mha zz)) (fun zz => nI (mfi zz)) (fun zz => oI (mfa zz)) (fun zz => nI (mqu zz)) (fun zz => lN (mal zz)) (fun zz => nI (mta zz)) (fun zz => oI (mdi zz)) (fun zz => nI (mln zz))) rfl dX8_act_76 (fun H locs hP hD hS => ?_)
          refine lv_iinc (v := nI (k + 1)) (lv' := [(1, .int (nI (k + 1))), (0, .ref o)]) hx hb dX8_act_77 hl (k := 0) rfl (nI_1 _) (by decide) rfl (fun ls hl => ?_)
          refine lv_goto (tgt := 51) hx hb dX8_act_80 (by decide) ?_
          exact ih51 (k + 1) (upd (pa2) ((44 * p1) + k) (mvr k)) (by omega) (fun j h => by rw [pk_un (by omega)]; exact i2 j h) (lt_s (fun j h => by rw [pk_un (by omega)]; exact i3 j h) pk_us) (by omega) _ _ hP hD hS _ (lv_sub hl [0, 1] rfl)
    exact L51 _ 0 pa1 (by omega) (fun _ _ => rfl) (fun j h => absurd h (Nat.not_lt_zero j)) (Nat.lt_succ_self _) _ _ hP hD hS _ (lv_sub hl [0, 1] rfl)
  have hp10 := hph.1
  refine lv_aload_n hx hb dX8_act_0 rfl (lv_at hl 0 rfl) ?_
  refine gf_X8_51 hC hK hP 0 rfl rfl dX8_act_1 ?_
  refine lv_bipush (v := nI 10) hx hb dX8_act_4 (by decide) ?_
  refine n_icmp_ne (a := mpm) (b := 10) (tgt := 49) hx hb dX8_act_6 (by decide) (by omega) (by omega) (fun c6 => ?_) (fun c6 => ?_)
  · have _ : True := trivial
    exact L49 mpm mpa (Or.inr ⟨c6, rfl, fun _ => rfl⟩)  _ _ hP hD hS _ (lv_sub hl [0] rfl)
  · have _ : True := trivial
    refine lv_iconst (v := nI 0) hx hb dX8_act_9 (by decide) ?_
    refine lv_istore_n (lv' := [(1, .int (nI 0)), (0, .ref o)]) hx hb dX8_act_10 rfl hl (by decide) rfl (fun ls hl => ?_)
    have L11 : ∀ (n : Nat) (k : Nat) (pa1 : Nat → Int32), (k ≤ 396) → (∀ j, j < k → pa1 j = mpa (j + 44)) → (∀ j, k ≤ j → pa1 j = mpa j) → (396 - k) < n → ∀ (H : Heap) (locs : List Loc), va_P D vwCl (mW cI cJ cB o kv kp kx kl kh ki kf kq ka kt kd kn (nI mpm) (nI mty) (nI mwi) (nI mhi) (nI mwa) (nI mle) (gI mgo) (nI mam) (bI mtm) (nI mli) mvr pa1 (fun zz => nI (mtx zz)) (fun zz => nI (mlt zz)) (fun zz => nI (mha zz)) (fun zz => nI (mfi zz)) (fun zz => oI (mfa zz)) (fun zz => nI (mqu zz)) (fun zz => lN (mal zz)) (fun zz => nI (mta zz)) (fun zz => oI (mdi zz)) (fun zz => nI (mln zz))) H → va_D A (mW cI cJ cB o kv kp kx kl kh ki kf kq ka kt kd kn (nI mpm) (nI mty) (nI mwi) (nI mhi) (nI mwa) (nI mle) (gI mgo) (nI mam) (bI mtm) (nI mli) mvr pa1 (fun zz => nI (mtx zz)) (fun zz => nI (mlt zz)) (fun zz => nI (mha zz)) (fun zz => nI (mfi zz)) (fun zz => oI (mfa zz)) (fun zz => nI (mqu zz)) (fun zz => lN (mal zz)) (fun zz => nI (mta zz)) (fun zz => oI (mdi zz)) (fun zz => nI (mln zz))) → va_S A s.heap H locs → ∀ ls : Array Slot, lv_has ls 2 [(1, .int (nI k)), (0, .ref o)] → W p l e (rmN 0) s m args below meth c H locs 0 0 QQ (F0 m 11 ls []) := by
      intro n; induction n with
      | zero => intro k pa1 ik i1 i2 hm; exact absurd hm (Nat.not_lt_zero _)
      | succ n ih11 =>
        intro k pa1 ik i1 i2 hm11 H locs hP hD hS ls hl
        refine lv_iload_n hx hb dX8_act_11 rfl (lv_at hl 0 rfl) ?_
        refine lv_sipush (v := nI 396) hx hb dX8_act_12 (by decide) ?_
        refine n_icmp_ge (a := k) (b := 396) (tgt := 39) hx hb dX8_act_15 (by decide) (by omega) (by omega) (fun c15 => ?_) (fun c15 => ?_)
        · have _ : True := trivial
          refine lv_aload_n hx hb dX8_act_39 rfl (lv_at hl 1 rfl) ?_
          refine lv_dup hx hb dX8_act_40 rfl ?_
          refine gf_X8_51 hC hK hP 0 rfl rfl dX8_act_41 ?_
          refine lv_iconst (v := nI 1) hx hb dX8_act_44 (by decide) ?_
          refine n_isub hx hb dX8_act_45 (by omega) ?_
          refine pf_X8_51 hC hK hP hD hS 0 rfl (Nat.le_of_ble_eq_true rfl) (ws1 := mW cI cJ cB o kv kp kx kl kh ki kf kq ka kt kd kn (nI (mpm - 1)) (nI mty) (nI mwi) (nI mhi) (nI mwa) (nI mle) (gI mgo) (nI mam) (bI mtm) (nI mli) mvr pa1 (fun zz => nI (mtx zz)) (fun zz => nI (mlt zz)) (fun zz => nI (mha zz)) (fun zz => nI (mfi zz)) (fun zz => oI (mfa zz)) (fun zz => nI (mqu zz)) (fun zz => lN (mal zz)) (fun zz => nI (mta zz)) (fun zz => oI (mdi zz)) (fun zz => nI (mln zz))) rfl dX8_act_46 (fun H locs hP hD hS => ?_)
          exact L49 (mpm - 1) pa1 (Or.inl ⟨c6, by omega, fun j h => i1 j (by omega)⟩)  _ _ hP hD hS _ (lv_sub hl [1] rfl)
        · have _ : True := trivial
          refine lv_aload_n hx hb dX8_act_18 rfl (lv_at hl 1 rfl) ?_
          refine gf_X8_13 hC hK hP 0 rfl rfl dX8_act_19 ?_
          refine lv_iload_n hx hb dX8_act_22 rfl (lv_at hl 0 rfl) ?_
          refine lv_aload_n hx hb dX8_act_23 rfl (lv_at hl 1 rfl) ?_
          refine gf_X8_13 hC hK hP 0 rfl rfl dX8_act_24 ?_
          refine lv_iload_n hx hb dX8_act_27 rfl (lv_at hl 0 rfl) ?_
          refine lv_bipush (v := nI 44) hx hb dX8_act_28 (by decide) ?_
          refine n_iadd hx hb dX8_act_30  ?_
          refine n_iald hx hb hK hP 2 0 rfl rfl (by omega) (by decide) dX8_act_31 ?_
          refine n_iast hx hb hK hP hD hS 2 0 rfl rfl (by omega) (by decide) rfl (ws1 := mW cI cJ cB o kv kp kx kl kh ki kf kq ka kt kd kn (nI mpm) (nI mty) (nI mwi) (nI mhi) (nI mwa) (nI mle) (gI mgo) (nI mam) (bI mtm) (nI mli) mvr (upd (pa1) k (pa1 (k + 44))) (fun zz => nI (mtx zz)) (fun zz => nI (mlt zz)) (fun zz => nI (mha zz)) (fun zz => nI (mfi zz)) (fun zz => oI (mfa zz)) (fun zz => nI (mqu zz)) (fun zz => lN (mal zz)) (fun zz => nI (mta zz)) (fun zz => oI (mdi zz)) (fun zz => nI (mln zz))) rfl dX8_act_32 (fun H locs hP hD hS => ?_)
          refine lv_iinc (v := nI (k + 1)) (lv' := [(1, .int (nI (k + 1))), (0, .ref o)]) hx hb dX8_act_33 hl (k := 0) rfl (nI_1 _) (by decide) rfl (fun ls hl => ?_)
          refine lv_goto (tgt := 11) hx hb dX8_act_36 (by decide) ?_
          exact ih11 (k + 1) (upd (pa1) k (pa1 (k + 44))) (by omega) (lt_s (fun j h => by rw [pk_un (by omega)]; exact i1 j h) (by rw [pk_us, i2 _ (by omega)])) (fun j h => by rw [pk_un (by omega)]; exact i2 j (by omega)) (by omega) _ _ hP hD hS _ (lv_sub hl [0, 1] rfl)
    exact L11 _ 0 mpa (by omega) (fun j h => absurd h (Nat.not_lt_zero j)) (fun j _ => rfl) (Nat.lt_succ_self _) _ _ hP hD hS _ (lv_sub hl [0, 1] rfl)

set_option maxHeartbeats 400000 in
set_option maxRecDepth 100000 in
theorem c_X8_undo (l : Launch) (D : va_G) (cI cJ cB : ClassId) (o kv kp kx kl kh ki kf kq ka kt kd kn mpm mty mwi mhi mwa mle mam mli : Nat) (mgo : Option Nat) (mtm : Bool) (mpa : Nat → Int32) (mtx mlt mha mfi mqu mta mln mal : Nat → Nat) (mfa mdi : Nat → Option Nat) (mvr : Nat → Int32) (hh : Nat → Nat → Int32) (hph : PH mpa mpm hh) : Met l yX8_undo (Cond.code yX8_undo cX8_undo 2 (some .int) :: lw_all) (rmN 0) (va_Pc [.ref o] (pB D (tyz cI cJ cB) (mW cI cJ cB o kv kp kx kl kh ki kf kq ka kt kd kn (nI mpm) (nI mty) (nI mwi) (nI mhi) (nI mwa) (nI mle) (gI mgo) (nI mam) (bI mtm) (nI mli) mvr mpa (fun zz => nI (mtx zz)) (fun zz => nI (mlt zz)) (fun zz => nI (mha zz)) (fun zz => nI (mfi zz)) (fun zz => oI (mfa zz)) (fun zz => nI (mqu zz)) (fun zz => lN (mal zz)) (fun zz => nI (mta zz)) (fun zz => oI (mdi zz)) (fun zz => nI (mln zz))))) (va_Qi (fun (r : Int32) (w : va_W) => ∃ v2 : Nat → Int32, r = (if mpm = 0 then -9 else nI (mpm - 1)) ∧ w = mW cI cJ cB o kv kp kx kl kh ki kf kq ka kt kd kn (nI (mpm - 1)) (nI mty) (nI mwi) (nI mhi) (nI mwa) (nI mle) (gI mgo) (nI mam) (bI mtm) (nI mli) v2 mpa (fun zz => nI (mtx zz)) (fun zz => nI (mlt zz)) (fun zz => nI (mha zz)) (fun zz => nI (mfi zz)) (fun zz => oI (mfa zz)) (fun zz => nI (mqu zz)) (fun zz => lN (mal zz)) (fun zz => nI (mta zz)) (fun zz => oI (mdi zz)) (fun zz => nI (mln zz)) ∧ (mpm = 0 → v2 = mvr) ∧ (mpm ≠ 0 → ∀ j, j < 44 → v2 j = hh (mpm - 1) j)) (gB D (mW cI cJ cB o kv kp kx kl kh ki kf kq ka kt kd kn (nI mpm) (nI mty) (nI mwi) (nI mhi) (nI mwa) (nI mle) (gI mgo) (nI mam) (bI mtm) (nI mli) mvr mpa (fun zz => nI (mtx zz)) (fun zz => nI (mlt zz)) (fun zz => nI (mha zz)) (fun zz => nI (mfi zz)) (fun zz => oI (mfa zz)) (fun zz => nI (mqu zz)) (fun zz => lN (mal zz)) (fun zz => nI (mta zz)) (fun zz => oI (mdi zz)) (fun zz => nI (mln zz)))) (aW (mW cI cJ cB o kv kp kx kl kh ki kf kq ka kt kd kn (nI mpm) (nI mty) (nI mwi) (nI mhi) (nI mwa) (nI mle) (gI mgo) (nI mam) (bI mtm) (nI mli) mvr mpa (fun zz => nI (mtx zz)) (fun zz => nI (mlt zz)) (fun zz => nI (mha zz)) (fun zz => nI (mfi zz)) (fun zz => oI (mfa zz)) (fun zz => nI (mqu zz)) (fun zz => lN (mal zz)) (fun zz => nI (mta zz)) (fun zz => oI (mdi zz)) (fun zz => nI (mln zz))))) 0 0 (aW (mW cI cJ cB o kv kp kx kl kh ki kf kq ka kt kd kn (nI mpm) (nI mty) (nI mwi) (nI mhi) (nI mwa) (nI mle) (gI mgo) (nI mam) (bI mtm) (nI mli) mvr mpa (fun zz => nI (mtx zz)) (fun zz => nI (mlt zz)) (fun zz => nI (mha zz)) (fun zz => nI (mfi zz)) (fun zz => oI (mfa zz)) (fun zz => nI (mqu zz)) (fun zz => lN (mal zz)) (fun zz => nI (mta zz)) (fun zz => oI (mdi zz)) (fun zz => nI (mln zz)))) := by
  refine Met.ofW (cc := cX8_undo) (maxL := 2) (ret := (some .int)) (by decide) rfl ?_
  intro p e s m args below meth c s₁ B hml hv
  obtain ⟨rfl, hK, hN, hP, hD0⟩ := hv
  have hx := B.exec; have hb := B.bytes; have hr := B.returns; have hlocks := B.notSynchronized
  have hts0 := atoms_spec (ws := Cond.code yX8_undo cX8_undo 2 (some .int) :: lw_all) B.pre
  have hC : CallFix p m c cX8_undo 2 s _ lw_all RX8 := ⟨hx, hb, hml, findClass_of_methodNamed B.named, fun w h => hts0 w (List.mem_cons_of_mem _ h)⟩
  have hD : va_D (aW (mW cI cJ cB o kv kp kx kl kh ki kf kq ka kt kd kn (nI mpm) (nI mty) (nI mwi) (nI mhi) (nI mwa) (nI mle) (gI mgo) (nI mam) (bI mtm) (nI mli) mvr mpa (fun zz => nI (mtx zz)) (fun zz => nI (mlt zz)) (fun zz => nI (mha zz)) (fun zz => nI (mfi zz)) (fun zz => oI (mfa zz)) (fun zz => nI (mqu zz)) (fun zz => lN (mal zz)) (fun zz => nI (mta zz)) (fun zz => oI (mdi zz)) (fun zz => nI (mln zz)))) (mW cI cJ cB o kv kp kx kl kh ki kf kq ka kt kd kn (nI mpm) (nI mty) (nI mwi) (nI mhi) (nI mwa) (nI mle) (gI mgo) (nI mam) (bI mtm) (nI mli) mvr mpa (fun zz => nI (mtx zz)) (fun zz => nI (mlt zz)) (fun zz => nI (mha zz)) (fun zz => nI (mfi zz)) (fun zz => oI (mfa zz)) (fun zz => nI (mqu zz)) (fun zz => lN (mal zz)) (fun zz => nI (mta zz)) (fun zz => oI (mdi zz)) (fun zz => nI (mln zz))) := ⟨hD0.1, fun k q h => ⟨k, q.2, h⟩⟩
  generalize hAe : aW (mW cI cJ cB o kv kp kx kl kh ki kf kq ka kt kd kn (nI mpm) (nI mty) (nI mwi) (nI mhi) (nI mwa) (nI mle) (gI mgo) (nI mam) (bI mtm) (nI mli) mvr mpa (fun zz => nI (mtx zz)) (fun zz => nI (mlt zz)) (fun zz => nI (mha zz)) (fun zz => nI (mfi zz)) (fun zz => oI (mfa zz)) (fun zz => nI (mqu zz)) (fun zz => lN (mal zz)) (fun zz => nI (mta zz)) (fun zz => oI (mdi zz)) (fun zz => nI (mln zz))) = A at hD ⊢
  have hS : va_S A s.heap s.heap [] := va_S.rf
  have hl := lv_entry ([.ref o]) (n := 2) (Nat.le_of_ble_eq_true rfl)
  rw [lg_entry_eq]
  generalize (lg_sl ([.ref o]) ++ List.replicate (2 - (lg_sl ([.ref o])).length) Slot.unset).toArray = ls at hl ⊢
  have hl : lv_has ls 2 [(0, .ref o)] := hl
  generalize hav : ([.ref o] : List Value).toArray = args at hC ⊢
  refine W_gen (fun QQ hQ => ?_)
  show W p l e (rmN 0) s m args below meth c s.heap [] 0 0 QQ (F0 m 0 ls [])
  have hp10 := hph.1
  refine lv_aload_n hx hb dX8_undo_0 rfl (lv_at hl 0 rfl) ?_
  refine gf_X8_51 hC hK hP 0 rfl rfl dX8_undo_1 ?_
  refine n_if_ne (tgt := 10) hx hb dX8_undo_4 (by decide) (by omega) (fun c4 => ?_) (fun c4 => ?_)
  · have _ : True := trivial
    refine lv_aload_n hx hb dX8_undo_10 rfl (lv_at hl 0 rfl) ?_
    refine lv_dup hx hb dX8_undo_11 rfl ?_
    refine gf_X8_51 hC hK hP 0 rfl rfl dX8_undo_12 ?_
    refine lv_iconst (v := nI 1) hx hb dX8_undo_15 (by decide) ?_
    refine n_isub hx hb dX8_undo_16 (by omega) ?_
    refine pf_X8_51 hC hK hP hD hS 0 rfl (Nat.le_of_ble_eq_true rfl) (ws1 := mW cI cJ cB o kv kp kx kl kh ki kf kq ka kt kd kn (nI (mpm - 1)) (nI mty) (nI mwi) (nI mhi) (nI mwa) (nI mle) (gI mgo) (nI mam) (bI mtm) (nI mli) mvr mpa (fun zz => nI (mtx zz)) (fun zz => nI (mlt zz)) (fun zz => nI (mha zz)) (fun zz => nI (mfi zz)) (fun zz => oI (mfa zz)) (fun zz => nI (mqu zz)) (fun zz => lN (mal zz)) (fun zz => nI (mta zz)) (fun zz => oI (mdi zz)) (fun zz => nI (mln zz))) rfl dX8_undo_17 (fun H locs hP hD hS => ?_)
    refine lv_iconst (v := nI 0) hx hb dX8_undo_20 (by decide) ?_
    refine lv_istore_n (lv' := [(1, .int (nI 0)), (0, .ref o)]) hx hb dX8_undo_21 rfl hl (by decide) rfl (fun ls hl => ?_)
    have L22 : ∀ (n : Nat) (k : Nat) (v2 : Nat → Int32), (k ≤ 44) → (∀ j, j < k → v2 j = hh (mpm - 1) j) → (44 - k) < n → ∀ (H : Heap) (locs : List Loc), va_P D vwCl (mW cI cJ cB o kv kp kx kl kh ki kf kq ka kt kd kn (nI (mpm - 1)) (nI mty) (nI mwi) (nI mhi) (nI mwa) (nI mle) (gI mgo) (nI mam) (bI mtm) (nI mli) v2 mpa (fun zz => nI (mtx zz)) (fun zz => nI (mlt zz)) (fun zz => nI (mha zz)) (fun zz => nI (mfi zz)) (fun zz => oI (mfa zz)) (fun zz => nI (mqu zz)) (fun zz => lN (mal zz)) (fun zz => nI (mta zz)) (fun zz => oI (mdi zz)) (fun zz => nI (mln zz))) H → va_D A (mW cI cJ cB o kv kp kx kl kh ki kf kq ka kt kd kn (nI (mpm - 1)) (nI mty) (nI mwi) (nI mhi) (nI mwa) (nI mle) (gI mgo) (nI mam) (bI mtm) (nI mli) v2 mpa (fun zz => nI (mtx zz)) (fun zz => nI (mlt zz)) (fun zz => nI (mha zz)) (fun zz => nI (mfi zz)) (fun zz => oI (mfa zz)) (fun zz => nI (mqu zz)) (fun zz => lN (mal zz)) (fun zz => nI (mta zz)) (fun zz => oI (mdi zz)) (fun zz => nI (mln zz))) → va_S A s.heap H locs → ∀ ls : Array Slot, lv_has ls 2 [(1, .int (nI k)), (0, .ref o)] → W p l e (rmN 0) s m args below meth c H locs 0 0 QQ (F0 m 22 ls []) := by
      intro n; induction n with
      | zero => intro k v2 ik i1 hm; exact absurd hm (Nat.not_lt_zero _)
      | succ n ih22 =>
        intro k v2 ik i1 hm22 H locs hP hD hS ls hl
        refine lv_iload_n hx hb dX8_undo_22 rfl (lv_at hl 0 rfl) ?_
        refine lv_bipush (v := nI 44) hx hb dX8_undo_23 (by decide) ?_
        refine n_icmp_ge (a := k) (b := 44) (tgt := 54) hx hb dX8_undo_25 (by decide) (by omega) (by omega) (fun c25 => ?_) (fun c25 => ?_)
        · have _ : True := trivial
          refine lv_aload_n hx hb dX8_undo_54 rfl (lv_at hl 1 rfl) ?_
          refine gf_X8_51 hC hK hP 0 rfl rfl dX8_undo_55 ?_
          rw [hQ]
          exact W.iret (v := nI (mpm - 1)) hx hb hr (fun t9 ht hW => ⟨⟨_, _, rfl, ⟨v2, (by rw [if_neg (by omega)]), rfl, fun h => by omega, fun _ j hj => i1 j (by omega)⟩, by rw [ht]; exact hP, rfl⟩, hS.F ht⟩) hS.2.2 dX8_undo_58
        · have _ : True := trivial
          refine lv_aload_n hx hb dX8_undo_28 rfl (lv_at hl 1 rfl) ?_
          refine gf_X8_7 hC hK hP 0 rfl rfl dX8_undo_29 ?_
          refine lv_iload_n hx hb dX8_undo_32 rfl (lv_at hl 0 rfl) ?_
          refine lv_aload_n hx hb dX8_undo_33 rfl (lv_at hl 1 rfl) ?_
          refine gf_X8_13 hC hK hP 0 rfl rfl dX8_undo_34 ?_
          refine lv_bipush (v := nI 44) hx hb dX8_undo_37 (by decide) ?_
          refine lv_aload_n hx hb dX8_undo_39 rfl (lv_at hl 1 rfl) ?_
          refine gf_X8_51 hC hK hP 0 rfl rfl dX8_undo_40 ?_
          refine n_imul hx hb dX8_undo_43  ?_
          refine lv_iload_n hx hb dX8_undo_44 rfl (lv_at hl 0 rfl) ?_
          refine n_iadd hx hb dX8_undo_45  ?_
          refine n_iald hx hb hK hP 2 0 rfl rfl (by omega) (by decide) dX8_undo_46 ?_
          refine n_iast hx hb hK hP hD hS 1 0 rfl rfl (by omega) (by decide) rfl (ws1 := mW cI cJ cB o kv kp kx kl kh ki kf kq ka kt kd kn (nI (mpm - 1)) (nI mty) (nI mwi) (nI mhi) (nI mwa) (nI mle) (gI mgo) (nI mam) (bI mtm) (nI mli) (upd (v2) k (mpa ((44 * (mpm - 1)) + k))) mpa (fun zz => nI (mtx zz)) (fun zz => nI (mlt zz)) (fun zz => nI (mha zz)) (fun zz => nI (mfi zz)) (fun zz => oI (mfa zz)) (fun zz => nI (mqu zz)) (fun zz => lN (mal zz)) (fun zz => nI (mta zz)) (fun zz => oI (mdi zz)) (fun zz => nI (mln zz))) rfl dX8_undo_47 (fun H locs hP hD hS => ?_)
          refine lv_iinc (v := nI (k + 1)) (lv' := [(1, .int (nI (k + 1))), (0, .ref o)]) hx hb dX8_undo_48 hl (k := 0) rfl (nI_1 _) (by decide) rfl (fun ls hl => ?_)
          refine lv_goto (tgt := 22) hx hb dX8_undo_51 (by decide) ?_
          exact ih22 (k + 1) (upd (v2) k (mpa ((44 * (mpm - 1)) + k))) (by omega) (lt_s (fun j h => by rw [pk_un (by omega)]; exact i1 j h) (by rw [pk_us]; exact hph.2 (mpm - 1) (by omega) k (by omega))) (by omega) _ _ hP hD hS _ (lv_sub hl [0, 1] rfl)
    exact L22 _ 0 mvr (by omega) (fun j h => absurd h (Nat.not_lt_zero j)) (Nat.lt_succ_self _) _ _ hP hD hS _ (lv_sub hl [0, 1] rfl)
  · have _ : True := trivial
    have e4 : mpm - 1 = mpm := by omega
    refine lv_bipush (v := (-9)) hx hb dX8_undo_7 (by decide) ?_
    rw [hQ]
    exact W.iret (v := (-9)) hx hb hr (fun t9 ht hW => ⟨⟨_, _, rfl, ⟨mvr, (by rw [if_pos c4]), (by rw [e4]), fun _ => rfl, fun h => absurd c4 h⟩, by rw [ht]; exact hP, rfl⟩, hS.F ht⟩) hS.2.2 dX8_undo_9

set_option maxHeartbeats 400000 in
set_option maxRecDepth 100000 in
theorem c_X8_clear (l : Launch) (D : va_G) (cI cJ cB : ClassId) (o kv kp kx kl kh ki kf kq ka kt kd kn mpm mty mwi mhi mwa mle mam mli : Nat) (mgo : Option Nat) (mtm : Bool) (mpa : Nat → Int32) (mtx mlt mha mfi mqu mta mln mal : Nat → Nat) (mfa mdi : Nat → Option Nat) (wd hd nb wl : Nat) (st sl : Int32) (gl aq lb : Option Nat) (sh bw bh ps : Nat → Nat)  : Met l yX8_clear (Cond.code yX8_clear cX8_clear 2 (some .int) :: lw_all) (rmN 0) (va_Pc [.ref o] (pB D (tyz cI cJ cB) (mW cI cJ cB o kv kp kx kl kh ki kf kq ka kt kd kn (nI mpm) (nI mty) (nI mwi) (nI mhi) (nI mwa) (nI mle) (gI mgo) (nI mam) (bI mtm) (nI mli) (vF wd hd nb wl st sl gl aq lb sh bw bh ps) mpa (fun zz => nI (mtx zz)) (fun zz => nI (mlt zz)) (fun zz => nI (mha zz)) (fun zz => nI (mfi zz)) (fun zz => oI (mfa zz)) (fun zz => nI (mqu zz)) (fun zz => lN (mal zz)) (fun zz => nI (mta zz)) (fun zz => oI (mdi zz)) (fun zz => nI (mln zz))))) (va_Qi (fun (r : Int32) (w : va_W) => r = nI mty ∧ w = mW cI cJ cB o kv kp kx kl kh ki kf kq ka kt kd kn (nI mpm) (nI 0) (nI mwi) (nI mhi) (nI mwa) (nI mle) (gI mgo) (nI mam) (bI mtm) (nI mli) (vF wd hd nb wl st sl gl aq lb sh bw bh ps) mpa (fun zz => nI (mtx zz)) (fun zz => nI (mlt zz)) (fun zz => nI (mha zz)) (fun zz => nI (mfi zz)) (fun zz => oI (mfa zz)) (fun zz => nI (mqu zz)) (fun zz => lN (mal zz)) (fun zz => nI (mta zz)) (fun zz => oI (mdi zz)) (fun zz => nI (mln zz))) (gB D (mW cI cJ cB o kv kp kx kl kh ki kf kq ka kt kd kn (nI mpm) (nI mty) (nI mwi) (nI mhi) (nI mwa) (nI mle) (gI mgo) (nI mam) (bI mtm) (nI mli) (vF wd hd nb wl st sl gl aq lb sh bw bh ps) mpa (fun zz => nI (mtx zz)) (fun zz => nI (mlt zz)) (fun zz => nI (mha zz)) (fun zz => nI (mfi zz)) (fun zz => oI (mfa zz)) (fun zz => nI (mqu zz)) (fun zz => lN (mal zz)) (fun zz => nI (mta zz)) (fun zz => oI (mdi zz)) (fun zz => nI (mln zz)))) (aW (mW cI cJ cB o kv kp kx kl kh ki kf kq ka kt kd kn (nI mpm) (nI mty) (nI mwi) (nI mhi) (nI mwa) (nI mle) (gI mgo) (nI mam) (bI mtm) (nI mli) (vF wd hd nb wl st sl gl aq lb sh bw bh ps) mpa (fun zz => nI (mtx zz)) (fun zz => nI (mlt zz)) (fun zz => nI (mha zz)) (fun zz => nI (mfi zz)) (fun zz => oI (mfa zz)) (fun zz => nI (mqu zz)) (fun zz => lN (mal zz)) (fun zz => nI (mta zz)) (fun zz => oI (mdi zz)) (fun zz => nI (mln zz))))) 0 0 (aW (mW cI cJ cB o kv kp kx kl kh ki kf kq ka kt kd kn (nI mpm) (nI mty) (nI mwi) (nI mhi) (nI mwa) (nI mle) (gI mgo) (nI mam) (bI mtm) (nI mli) (vF wd hd nb wl st sl gl aq lb sh bw bh ps) mpa (fun zz => nI (mtx zz)) (fun zz => nI (mlt zz)) (fun zz => nI (mha zz)) (fun zz => nI (mfi zz)) (fun zz => oI (mfa zz)) (fun zz => nI (mqu zz)) (fun zz => lN (mal zz)) (fun zz => nI (mta zz)) (fun zz => oI (mdi zz)) (fun zz => nI (mln zz)))) := by
  refine Met.ofW (cc := cX8_clear) (maxL := 2) (ret := (some .int)) (by decide) rfl ?_
  intro p e s m args below meth c s₁ B hml hv
  obtain ⟨rfl, hK, hN, hP, hD0⟩ := hv
  have hx := B.exec; have hb := B.bytes; have hr := B.returns; have hlocks := B.notSynchronized
  have hts0 := atoms_spec (ws := Cond.code yX8_clear cX8_clear 2 (some .int) :: lw_all) B.pre
  have hC : CallFix p m c cX8_clear 2 s _ lw_all RX8 := ⟨hx, hb, hml, findClass_of_methodNamed B.named, fun w h => hts0 w (List.mem_cons_of_mem _ h)⟩
  have hD : va_D (aW (mW cI cJ cB o kv kp kx kl kh ki kf kq ka kt kd kn (nI mpm) (nI mty) (nI mwi) (nI mhi) (nI mwa) (nI mle) (gI mgo) (nI mam) (bI mtm) (nI mli) (vF wd hd nb wl st sl gl aq lb sh bw bh ps) mpa (fun zz => nI (mtx zz)) (fun zz => nI (mlt zz)) (fun zz => nI (mha zz)) (fun zz => nI (mfi zz)) (fun zz => oI (mfa zz)) (fun zz => nI (mqu zz)) (fun zz => lN (mal zz)) (fun zz => nI (mta zz)) (fun zz => oI (mdi zz)) (fun zz => nI (mln zz)))) (mW cI cJ cB o kv kp kx kl kh ki kf kq ka kt kd kn (nI mpm) (nI mty) (nI mwi) (nI mhi) (nI mwa) (nI mle) (gI mgo) (nI mam) (bI mtm) (nI mli) (vF wd hd nb wl st sl gl aq lb sh bw bh ps) mpa (fun zz => nI (mtx zz)) (fun zz => nI (mlt zz)) (fun zz => nI (mha zz)) (fun zz => nI (mfi zz)) (fun zz => oI (mfa zz)) (fun zz => nI (mqu zz)) (fun zz => lN (mal zz)) (fun zz => nI (mta zz)) (fun zz => oI (mdi zz)) (fun zz => nI (mln zz))) := ⟨hD0.1, fun k q h => ⟨k, q.2, h⟩⟩
  generalize hAe : aW (mW cI cJ cB o kv kp kx kl kh ki kf kq ka kt kd kn (nI mpm) (nI mty) (nI mwi) (nI mhi) (nI mwa) (nI mle) (gI mgo) (nI mam) (bI mtm) (nI mli) (vF wd hd nb wl st sl gl aq lb sh bw bh ps) mpa (fun zz => nI (mtx zz)) (fun zz => nI (mlt zz)) (fun zz => nI (mha zz)) (fun zz => nI (mfi zz)) (fun zz => oI (mfa zz)) (fun zz => nI (mqu zz)) (fun zz => lN (mal zz)) (fun zz => nI (mta zz)) (fun zz => oI (mdi zz)) (fun zz => nI (mln zz))) = A at hD ⊢
  have hS : va_S A s.heap s.heap [] := va_S.rf
  have hl := lv_entry ([.ref o]) (n := 2) (Nat.le_of_ble_eq_true rfl)
  rw [lg_entry_eq]
  generalize (lg_sl ([.ref o]) ++ List.replicate (2 - (lg_sl ([.ref o])).length) Slot.unset).toArray = ls at hl ⊢
  have hl : lv_has ls 2 [(0, .ref o)] := hl
  generalize hav : ([.ref o] : List Value).toArray = args at hC ⊢
  refine W_gen (fun QQ hQ => ?_)
  show W p l e (rmN 0) s m args below meth c s.heap [] 0 0 QQ (F0 m 0 ls [])
  refine lv_aload_n hx hb dX8_clear_0 rfl (lv_at hl 0 rfl) ?_
  refine gf_X8_58 hC hK hP 0 rfl rfl dX8_clear_1 ?_
  refine lv_istore_n (lv' := [(1, .int (nI mty)), (0, .ref o)]) hx hb dX8_clear_4 rfl hl (by decide) rfl (fun ls hl => ?_)
  refine lv_aload_n hx hb dX8_clear_5 rfl (lv_at hl 1 rfl) ?_
  refine lv_iconst (v := nI 0) hx hb dX8_clear_6 (by decide) ?_
  refine pf_X8_58 hC hK hP hD hS 0 rfl (Nat.le_of_ble_eq_true rfl) (ws1 := mW cI cJ cB o kv kp kx kl kh ki kf kq ka kt kd kn (nI mpm) (nI 0) (nI mwi) (nI mhi) (nI mwa) (nI mle) (gI mgo) (nI mam) (bI mtm) (nI mli) (vF wd hd nb wl st sl gl aq lb sh bw bh ps) mpa (fun zz => nI (mtx zz)) (fun zz => nI (mlt zz)) (fun zz => nI (mha zz)) (fun zz => nI (mfi zz)) (fun zz => oI (mfa zz)) (fun zz => nI (mqu zz)) (fun zz => lN (mal zz)) (fun zz => nI (mta zz)) (fun zz => oI (mdi zz)) (fun zz => nI (mln zz))) rfl dX8_clear_7 (fun H locs hP hD hS => ?_)
  refine lv_iload_n hx hb dX8_clear_10 rfl (lv_at hl 0 rfl) ?_
  rw [hQ]
  exact W.iret (v := nI mty) hx hb hr (fun t9 ht hW => ⟨⟨_, _, rfl, ⟨rfl, rfl⟩, by rw [ht]; exact hP, rfl⟩, hS.F ht⟩) hS.2.2 dX8_clear_11

set_option maxHeartbeats 400000 in
set_option maxRecDepth 100000 in
theorem c_X8_type (l : Launch) (D : va_G) (cI cJ cB : ClassId) (o kv kp kx kl kh ki kf kq ka kt kd kn mpm mty mwi mhi mwa mle mam mli : Nat) (mgo : Option Nat) (mtm : Bool) (mpa : Nat → Int32) (mtx mlt mha mfi mqu mta mln mal : Nat → Nat) (mfa mdi : Nat → Option Nat) (wd hd nb wl : Nat) (st sl : Int32) (gl aq lb : Option Nat) (sh bw bh ps : Nat → Nat) (x : Int32) (hty : mty ≤ 40) : Met l yX8_type (Cond.code yX8_type cX8_type 2 (some .int) :: lw_all) (rmN 1) (va_Pc [.ref o, .int x] (pB D (tyz cI cJ cB) (mW cI cJ cB o kv kp kx kl kh ki kf kq ka kt kd kn (nI mpm) (nI mty) (nI mwi) (nI mhi) (nI mwa) (nI mle) (gI mgo) (nI mam) (bI mtm) (nI mli) (vF wd hd nb wl st sl gl aq lb sh bw bh ps) mpa (fun zz => nI (mtx zz)) (fun zz => nI (mlt zz)) (fun zz => nI (mha zz)) (fun zz => nI (mfi zz)) (fun zz => oI (mfa zz)) (fun zz => nI (mqu zz)) (fun zz => lN (mal zz)) (fun zz => nI (mta zz)) (fun zz => oI (mdi zz)) (fun zz => nI (mln zz))))) (va_Qi (fun (r : Int32) (w : va_W) => ∃ tx2 : Nat → Nat, ∃ ty2 : Nat, r = (match tOf x with | some _ => (if mty = 40 then -3 else nI (mty + 1)) | none => -1) ∧ w = mW cI cJ cB o kv kp kx kl kh ki kf kq ka kt kd kn (nI mpm) (nI ty2) (nI mwi) (nI mhi) (nI mwa) (nI mle) (gI mgo) (nI mam) (bI mtm) (nI mli) (vF wd hd nb wl st sl gl aq lb sh bw bh ps) mpa (fun zz => nI (tx2 zz)) (fun zz => nI (mlt zz)) (fun zz => nI (mha zz)) (fun zz => nI (mfi zz)) (fun zz => oI (mfa zz)) (fun zz => nI (mqu zz)) (fun zz => lN (mal zz)) (fun zz => nI (mta zz)) (fun zz => oI (mdi zz)) (fun zz => nI (mln zz)) ∧ tx2 = (match tOf x with | some q => (if mty = 40 then mtx else va_up mtx mty q) | none => mtx) ∧ ty2 = (match tOf x with | some _ => (if mty = 40 then mty else mty + 1) | none => mty)) (gB D (mW cI cJ cB o kv kp kx kl kh ki kf kq ka kt kd kn (nI mpm) (nI mty) (nI mwi) (nI mhi) (nI mwa) (nI mle) (gI mgo) (nI mam) (bI mtm) (nI mli) (vF wd hd nb wl st sl gl aq lb sh bw bh ps) mpa (fun zz => nI (mtx zz)) (fun zz => nI (mlt zz)) (fun zz => nI (mha zz)) (fun zz => nI (mfi zz)) (fun zz => oI (mfa zz)) (fun zz => nI (mqu zz)) (fun zz => lN (mal zz)) (fun zz => nI (mta zz)) (fun zz => oI (mdi zz)) (fun zz => nI (mln zz)))) (aW (mW cI cJ cB o kv kp kx kl kh ki kf kq ka kt kd kn (nI mpm) (nI mty) (nI mwi) (nI mhi) (nI mwa) (nI mle) (gI mgo) (nI mam) (bI mtm) (nI mli) (vF wd hd nb wl st sl gl aq lb sh bw bh ps) mpa (fun zz => nI (mtx zz)) (fun zz => nI (mlt zz)) (fun zz => nI (mha zz)) (fun zz => nI (mfi zz)) (fun zz => oI (mfa zz)) (fun zz => nI (mqu zz)) (fun zz => lN (mal zz)) (fun zz => nI (mta zz)) (fun zz => oI (mdi zz)) (fun zz => nI (mln zz))))) 0 0 (aW (mW cI cJ cB o kv kp kx kl kh ki kf kq ka kt kd kn (nI mpm) (nI mty) (nI mwi) (nI mhi) (nI mwa) (nI mle) (gI mgo) (nI mam) (bI mtm) (nI mli) (vF wd hd nb wl st sl gl aq lb sh bw bh ps) mpa (fun zz => nI (mtx zz)) (fun zz => nI (mlt zz)) (fun zz => nI (mha zz)) (fun zz => nI (mfi zz)) (fun zz => oI (mfa zz)) (fun zz => nI (mqu zz)) (fun zz => lN (mal zz)) (fun zz => nI (mta zz)) (fun zz => oI (mdi zz)) (fun zz => nI (mln zz)))) := by
  refine Met.ofW (cc := cX8_type) (maxL := 2) (ret := (some .int)) (by decide) rfl ?_
  intro p e s m args below meth c s₁ B hml hv
  obtain ⟨rfl, hK, hN, hP, hD0⟩ := hv
  have hx := B.exec; have hb := B.bytes; have hr := B.returns; have hlocks := B.notSynchronized
  have hts0 := atoms_spec (ws := Cond.code yX8_type cX8_type 2 (some .int) :: lw_all) B.pre
  have hC : CallFix p m c cX8_type 2 s _ lw_all RX8 := ⟨hx, hb, hml, findClass_of_methodNamed B.named, fun w h => hts0 w (List.mem_cons_of_mem _ h)⟩
  have hD : va_D (aW (mW cI cJ cB o kv kp kx kl kh ki kf kq ka kt kd kn (nI mpm) (nI mty) (nI mwi) (nI mhi) (nI mwa) (nI mle) (gI mgo) (nI mam) (bI mtm) (nI mli) (vF wd hd nb wl st sl gl aq lb sh bw bh ps) mpa (fun zz => nI (mtx zz)) (fun zz => nI (mlt zz)) (fun zz => nI (mha zz)) (fun zz => nI (mfi zz)) (fun zz => oI (mfa zz)) (fun zz => nI (mqu zz)) (fun zz => lN (mal zz)) (fun zz => nI (mta zz)) (fun zz => oI (mdi zz)) (fun zz => nI (mln zz)))) (mW cI cJ cB o kv kp kx kl kh ki kf kq ka kt kd kn (nI mpm) (nI mty) (nI mwi) (nI mhi) (nI mwa) (nI mle) (gI mgo) (nI mam) (bI mtm) (nI mli) (vF wd hd nb wl st sl gl aq lb sh bw bh ps) mpa (fun zz => nI (mtx zz)) (fun zz => nI (mlt zz)) (fun zz => nI (mha zz)) (fun zz => nI (mfi zz)) (fun zz => oI (mfa zz)) (fun zz => nI (mqu zz)) (fun zz => lN (mal zz)) (fun zz => nI (mta zz)) (fun zz => oI (mdi zz)) (fun zz => nI (mln zz))) := ⟨hD0.1, fun k q h => ⟨k, q.2, h⟩⟩
  generalize hAe : aW (mW cI cJ cB o kv kp kx kl kh ki kf kq ka kt kd kn (nI mpm) (nI mty) (nI mwi) (nI mhi) (nI mwa) (nI mle) (gI mgo) (nI mam) (bI mtm) (nI mli) (vF wd hd nb wl st sl gl aq lb sh bw bh ps) mpa (fun zz => nI (mtx zz)) (fun zz => nI (mlt zz)) (fun zz => nI (mha zz)) (fun zz => nI (mfi zz)) (fun zz => oI (mfa zz)) (fun zz => nI (mqu zz)) (fun zz => lN (mal zz)) (fun zz => nI (mta zz)) (fun zz => oI (mdi zz)) (fun zz => nI (mln zz))) = A at hD ⊢
  have hS : va_S A s.heap s.heap [] := va_S.rf
  have hl := lv_entry ([.ref o, .int x]) (n := 2) (Nat.le_of_ble_eq_true rfl)
  rw [lg_entry_eq]
  generalize (lg_sl ([.ref o, .int x]) ++ List.replicate (2 - (lg_sl ([.ref o, .int x])).length) Slot.unset).toArray = ls at hl ⊢
  have hl : lv_has ls 2 [(0, .ref o), (1, .int x)] := hl
  generalize hav : ([.ref o, .int x] : List Value).toArray = args at hC ⊢
  refine W_gen (fun QQ hQ => ?_)
  show W p l e (rmN 1) s m args below meth c s.heap [] 0 0 QQ (F0 m 0 ls [])
  refine lv_iload_n hx hb dX8_type_0 rfl (lv_at hl 1 rfl) ?_
  refine lv_bipush (v := nI 32) hx hb dX8_type_1 (by decide) ?_
  refine lv_bipush (v := nI 126) hx hb dX8_type_3 (by decide) ?_
  refine callS_i (As := [.int x, .int (nI 32), .int (nI 126)]) (rest := []) [] hC hK hN hP hD rfl (by decide) hS (c_X8_in l D cI cJ cB x (nI 32) (nI 126) ) q750 md_X8_in rfl hl.1 rfl (Nat.le_of_ble_eq_true rfl) dX8_type_5 ⟨Nat.le_of_ble_eq_true rfl, Nat.le_of_ble_eq_true rfl⟩ ⟨Nat.le_of_ble_eq_true rfl, Nat.le_of_ble_eq_true rfl⟩ (fun r_5 w H locs hpost hP hD hS => ?_)
  obtain ⟨rfl, rfl⟩ := hpost
  have hP : va_P D vwCl (mW cI cJ cB o kv kp kx kl kh ki kf kq ka kt kd kn (nI mpm) (nI mty) (nI mwi) (nI mhi) (nI mwa) (nI mle) (gI mgo) (nI mam) (bI mtm) (nI mli) (vF wd hd nb wl st sl gl aq lb sh bw bh ps) mpa (fun zz => nI (mtx zz)) (fun zz => nI (mlt zz)) (fun zz => nI (mha zz)) (fun zz => nI (mfi zz)) (fun zz => oI (mfa zz)) (fun zz => nI (mqu zz)) (fun zz => lN (mal zz)) (fun zz => nI (mta zz)) (fun zz => oI (mdi zz)) (fun zz => nI (mln zz))) H := hP
  have hD : va_D A (mW cI cJ cB o kv kp kx kl kh ki kf kq ka kt kd kn (nI mpm) (nI mty) (nI mwi) (nI mhi) (nI mwa) (nI mle) (gI mgo) (nI mam) (bI mtm) (nI mli) (vF wd hd nb wl st sl gl aq lb sh bw bh ps) mpa (fun zz => nI (mtx zz)) (fun zz => nI (mlt zz)) (fun zz => nI (mha zz)) (fun zz => nI (mfi zz)) (fun zz => oI (mfa zz)) (fun zz => nI (mqu zz)) (fun zz => lN (mal zz)) (fun zz => nI (mta zz)) (fun zz => oI (mdi zz)) (fun zz => nI (mln zz))) := hD
  refine b_if_ne (tgt := 13) hx hb dX8_type_8 (by decide) (fun c8 => ?_) (fun c8 => ?_)
  · have _ : True := trivial
    obtain ⟨q, hq1, hq2, hxq, hqo⟩ := tOf_some c8
    subst hxq
    refine lv_aload_n hx hb dX8_type_13 rfl (lv_at hl 0 rfl) ?_
    refine gf_X8_58 hC hK hP 0 rfl rfl dX8_type_14 ?_
    refine lv_bipush (v := nI 40) hx hb dX8_type_17 (by decide) ?_
    refine n_icmp_ne (a := mty) (b := 40) (tgt := 25) hx hb dX8_type_19 (by decide) (by omega) (by omega) (fun c19 => ?_) (fun c19 => ?_)
    · have _ : True := trivial
      refine lv_aload_n hx hb dX8_type_25 rfl (lv_at hl 0 rfl) ?_
      refine gf_X8_16 hC hK hP 0 rfl rfl dX8_type_26 ?_
      refine lv_aload_n hx hb dX8_type_29 rfl (lv_at hl 0 rfl) ?_
      refine gf_X8_58 hC hK hP 0 rfl rfl dX8_type_30 ?_
      refine lv_iload_n hx hb dX8_type_33 rfl (lv_at hl 1 rfl) ?_
      refine n_iast hx hb hK hP hD hS 3 0 rfl rfl (by omega) (by decide) (up_nI _ _ _) (ws1 := mW cI cJ cB o kv kp kx kl kh ki kf kq ka kt kd kn (nI mpm) (nI mty) (nI mwi) (nI mhi) (nI mwa) (nI mle) (gI mgo) (nI mam) (bI mtm) (nI mli) (vF wd hd nb wl st sl gl aq lb sh bw bh ps) mpa (fun zz => nI ((va_up mtx mty q) zz)) (fun zz => nI (mlt zz)) (fun zz => nI (mha zz)) (fun zz => nI (mfi zz)) (fun zz => oI (mfa zz)) (fun zz => nI (mqu zz)) (fun zz => lN (mal zz)) (fun zz => nI (mta zz)) (fun zz => oI (mdi zz)) (fun zz => nI (mln zz))) rfl dX8_type_34 (fun H locs hP hD hS => ?_)
      refine lv_aload_n hx hb dX8_type_35 rfl (lv_at hl 0 rfl) ?_
      refine lv_dup hx hb dX8_type_36 rfl ?_
      refine gf_X8_58 hC hK hP 0 rfl rfl dX8_type_37 ?_
      refine lv_iconst (v := nI 1) hx hb dX8_type_40 (by decide) ?_
      refine n_iadd hx hb dX8_type_41  ?_
      refine pf_X8_58 hC hK hP hD hS 0 rfl (Nat.le_of_ble_eq_true rfl) (ws1 := mW cI cJ cB o kv kp kx kl kh ki kf kq ka kt kd kn (nI mpm) (nI (mty + 1)) (nI mwi) (nI mhi) (nI mwa) (nI mle) (gI mgo) (nI mam) (bI mtm) (nI mli) (vF wd hd nb wl st sl gl aq lb sh bw bh ps) mpa (fun zz => nI ((va_up mtx mty q) zz)) (fun zz => nI (mlt zz)) (fun zz => nI (mha zz)) (fun zz => nI (mfi zz)) (fun zz => oI (mfa zz)) (fun zz => nI (mqu zz)) (fun zz => lN (mal zz)) (fun zz => nI (mta zz)) (fun zz => oI (mdi zz)) (fun zz => nI (mln zz))) rfl dX8_type_42 (fun H locs hP hD hS => ?_)
      refine lv_aload_n hx hb dX8_type_45 rfl (lv_at hl 0 rfl) ?_
      refine gf_X8_58 hC hK hP 0 rfl rfl dX8_type_46 ?_
      rw [hQ]
      exact W.iret (v := nI (mty + 1)) hx hb hr (fun t9 ht hW => ⟨⟨_, _, rfl, ⟨va_up mtx mty q, mty + 1, (by rw [hqo]; exact (if_neg c19).symm), rfl, (by rw [hqo]; exact (if_neg c19).symm), (by rw [hqo]; exact (if_neg c19).symm)⟩, by rw [ht]; exact hP, rfl⟩, hS.F ht⟩) hS.2.2 dX8_type_49
    · have _ : True := trivial
      refine lv_bipush (v := (-3)) hx hb dX8_type_22 (by decide) ?_
      rw [hQ]
      exact W.iret (v := (-3)) hx hb hr (fun t9 ht hW => ⟨⟨_, _, rfl, ⟨mtx, mty, (by rw [hqo]; exact (if_pos c19).symm), rfl, (by rw [hqo]; exact (if_pos c19).symm), (by rw [hqo]; exact (if_pos c19).symm)⟩, by rw [ht]; exact hP, rfl⟩, hS.F ht⟩) hS.2.2 dX8_type_24
  · have _ : True := trivial
    have hqo := tOf_none c8
    refine lv_iconst (v := (-1)) hx hb dX8_type_11 (by decide) ?_
    rw [hQ]
    exact W.iret (v := (-1)) hx hb hr (fun t9 ht hW => ⟨⟨_, _, rfl, ⟨mtx, mty, (by rw [hqo]), rfl, (by rw [hqo]), (by rw [hqo])⟩, by rw [ht]; exact hP, rfl⟩, hS.F ht⟩) hS.2.2 dX8_type_12
