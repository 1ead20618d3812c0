set_option maxHeartbeats 400000 in
set_option maxRecDepth 100000 in
theorem c_X8_in (l : Launch) (D : va_G) (cI cJ cB : ClassId) (x lo hi : Int32)  : Met l yX8_in (Cond.code yX8_in cX8_in 3 (some .boolean) :: lw_all) (rmN 0) (va_Pc [.int x, .int lo, .int hi] (pB D (tyz cI cJ cB) ([] : va_W))) (va_Qi (fun (r : Int32) (w : va_W) => r = bI (decide (lo ≤ x) && decide (x ≤ hi)) ∧ w = []) (gB D ([] : va_W)) (aW ([] : va_W))) 0 0 (aW ([] : va_W)) := by
  refine Met.ofW (cc := cX8_in) (maxL := 3) (ret := (some .boolean)) (by decide) rfl ?_
  intro p e s m args below meth c s₁ B hml hv
  obtain ⟨rfl, hK, hN, hP, hD0⟩ := hv
  have hx := B.exec; have hb := B.bytes; have hr := B.returns; have hlocks := B.notSynchronized
  have hts0 := atoms_spec (ws := Cond.code yX8_in cX8_in 3 (some .boolean) :: lw_all) B.pre
  have hC : CallFix p m c cX8_in 3 s _ lw_all RX8 := ⟨hx, hb, hml, findClass_of_methodNamed B.named, fun w h => hts0 w (List.mem_cons_of_mem _ h)⟩
  have hD : va_D (aW ([] : va_W)) ([] : va_W) := ⟨hD0.1, fun k q h => ⟨k, q.2, h⟩⟩
  generalize hAe : aW ([] : va_W) = A at hD ⊢
  have hS : va_S A s.heap s.heap [] := va_S.rf
  have hl := lv_entry ([.int x, .int lo, .int hi]) (n := 3) (Nat.le_of_ble_eq_true rfl)
  rw [lg_entry_eq]
  generalize (lg_sl ([.int x, .int lo, .int hi]) ++ List.replicate (3 - (lg_sl ([.int x, .int lo, .int hi])).length) Slot.unset).toArray = ls at hl ⊢
  have hl : lv_has ls 3 [(0, .int x), (1, .int lo), (2, .int hi)] := hl
  generalize hav : ([.int x, .int lo, .int hi] : List Value).toArray = args at hC ⊢
  refine W_gen (fun QQ hQ => ?_)
  show W p l e (rmN 0) s m args below meth c s.heap [] 0 0 QQ (F0 m 0 ls [])
  refine lv_iload_n hx hb dX8_in_0 rfl (lv_at hl 0 rfl) ?_
  refine lv_iload_n hx hb dX8_in_1 rfl (lv_at hl 1 rfl) ?_
  refine lv_icmp_lt (tgt := 14) hx hb dX8_in_2 (by decide) (fun c2 => ?_) (fun c2 => ?_)
  · have _ : True := trivial
    have h14 : x < lo ∨ hi < x := Or.inl c2
    refine lv_iconst (v := nI 0) hx hb dX8_in_14 (by decide) ?_
    refine topi (y := bI (decide (lo ≤ x) && decide (x ≤ hi))) (bi_in0 h14) ?_
    rw [hQ]
    exact W.zret (v := bI (decide (lo ≤ x) && decide (x ≤ hi))) hx hb hr (bnar _) (fun t9 ht hW => ⟨⟨_, _, rfl, ⟨rfl, rfl⟩, by rw [ht]; exact hP, rfl⟩, hS.F ht⟩) hS.2.2 dX8_in_15
  · have _ : True := trivial
    refine lv_iload_n hx hb dX8_in_5 rfl (lv_at hl 0 rfl) ?_
    refine lv_iload_n hx hb dX8_in_6 rfl (lv_at hl 2 rfl) ?_
    refine lv_icmp_gt (tgt := 14) hx hb dX8_in_7 (by decide) (fun c7 => ?_) (fun c7 => ?_)
    · have _ : True := trivial
      have h14 : x < lo ∨ hi < x := Or.inr c7
      refine lv_iconst (v := nI 0) hx hb dX8_in_14 (by decide) ?_
      refine topi (y := bI (decide (lo ≤ x) && decide (x ≤ hi))) (bi_in0 h14) ?_
      rw [hQ]
      exact W.zret (v := bI (decide (lo ≤ x) && decide (x ≤ hi))) hx hb hr (bnar _) (fun t9 ht hW => ⟨⟨_, _, rfl, ⟨rfl, rfl⟩, by rw [ht]; exact hP, rfl⟩, hS.F ht⟩) hS.2.2 dX8_in_15
    · have _ : True := trivial
      refine lv_iconst (v := nI 1) hx hb dX8_in_10 (by decide) ?_
      refine topi (y := bI (decide (lo ≤ x) && decide (x ≤ hi))) (bi_in1 c2 c7) ?_
      refine lv_goto (tgt := 15) hx hb dX8_in_11 (by decide) ?_
      rw [hQ]
      exact W.zret (v := bI (decide (lo ≤ x) && decide (x ≤ hi))) hx hb hr (bnar _) (fun t9 ht hW => ⟨⟨_, _, rfl, ⟨rfl, rfl⟩, by rw [ht]; exact hP, rfl⟩, hS.F ht⟩) hS.2.2 dX8_in_15

set_option maxHeartbeats 400000 in
set_option maxRecDepth 100000 in
theorem c_X8_cells (l : Launch) (D : va_G) (cI cJ cB : ClassId) (o kv kp kx kl kh ki kf kq ka kt kd kn mpm mty mwi mhi mwa mle mam mli : Nat) (mgo : Option Nat) (mtm : Bool) (mpa : Nat → Int32) (mtx mlt mha mfi mqu mta mln mal : Nat → Nat) (mfa mdi : Nat → Option Nat) (wd hd nb wl : Nat) (st sl : Int32) (gl aq lb : Option Nat) (sh bw bh ps : Nat → Nat)  : Met l yX8_cells (Cond.code yX8_cells cX8_cells 1 (some .int) :: lw_all) (rmN 0) (va_Pc [.ref o] (pB D (tyz cI cJ cB) (mW cI cJ cB o kv kp kx kl kh ki kf kq ka kt kd kn (nI mpm) (nI mty) (nI mwi) (nI mhi) (nI mwa) (nI mle) (gI mgo) (nI mam) (bI mtm) (nI mli) (vF wd hd nb wl st sl gl aq lb sh bw bh ps) mpa (fun zz => nI (mtx zz)) (fun zz => nI (mlt zz)) (fun zz => nI (mha zz)) (fun zz => nI (mfi zz)) (fun zz => oI (mfa zz)) (fun zz => nI (mqu zz)) (fun zz => lN (mal zz)) (fun zz => nI (mta zz)) (fun zz => oI (mdi zz)) (fun zz => nI (mln zz))))) (va_Qi (fun (r : Int32) (w : va_W) => r = nI (wd * hd) ∧ w = mW cI cJ cB o kv kp kx kl kh ki kf kq ka kt kd kn (nI mpm) (nI mty) (nI mwi) (nI mhi) (nI mwa) (nI mle) (gI mgo) (nI mam) (bI mtm) (nI mli) (vF wd hd nb wl st sl gl aq lb sh bw bh ps) mpa (fun zz => nI (mtx zz)) (fun zz => nI (mlt zz)) (fun zz => nI (mha zz)) (fun zz => nI (mfi zz)) (fun zz => oI (mfa zz)) (fun zz => nI (mqu zz)) (fun zz => lN (mal zz)) (fun zz => nI (mta zz)) (fun zz => oI (mdi zz)) (fun zz => nI (mln zz))) (gB D (mW cI cJ cB o kv kp kx kl kh ki kf kq ka kt kd kn (nI mpm) (nI mty) (nI mwi) (nI mhi) (nI mwa) (nI mle) (gI mgo) (nI mam) (bI mtm) (nI mli) (vF wd hd nb wl st sl gl aq lb sh bw bh ps) mpa (fun zz => nI (mtx zz)) (fun zz => nI (mlt zz)) (fun zz => nI (mha zz)) (fun zz => nI (mfi zz)) (fun zz => oI (mfa zz)) (fun zz => nI (mqu zz)) (fun zz => lN (mal zz)) (fun zz => nI (mta zz)) (fun zz => oI (mdi zz)) (fun zz => nI (mln zz)))) (aW (mW cI cJ cB o kv kp kx kl kh ki kf kq ka kt kd kn (nI mpm) (nI mty) (nI mwi) (nI mhi) (nI mwa) (nI mle) (gI mgo) (nI mam) (bI mtm) (nI mli) (vF wd hd nb wl st sl gl aq lb sh bw bh ps) mpa (fun zz => nI (mtx zz)) (fun zz => nI (mlt zz)) (fun zz => nI (mha zz)) (fun zz => nI (mfi zz)) (fun zz => oI (mfa zz)) (fun zz => nI (mqu zz)) (fun zz => lN (mal zz)) (fun zz => nI (mta zz)) (fun zz => oI (mdi zz)) (fun zz => nI (mln zz))))) 0 0 (aW (mW cI cJ cB o kv kp kx kl kh ki kf kq ka kt kd kn (nI mpm) (nI mty) (nI mwi) (nI mhi) (nI mwa) (nI mle) (gI mgo) (nI mam) (bI mtm) (nI mli) (vF wd hd nb wl st sl gl aq lb sh bw bh ps) mpa (fun zz => nI (mtx zz)) (fun zz => nI (mlt zz)) (fun zz => nI (mha zz)) (fun zz => nI (mfi zz)) (fun zz => oI (mfa zz)) (fun zz => nI (mqu zz)) (fun zz => lN (mal zz)) (fun zz => nI (mta zz)) (fun zz => oI (mdi zz)) (fun zz => nI (mln zz)))) := by
  refine Met.ofW (cc := cX8_cells) (maxL := 1) (ret := (some .int)) (by decide) rfl ?_
  intro p e s m args below meth c s₁ B hml hv
  obtain ⟨rfl, hK, hN, hP, hD0⟩ := hv
  have hx := B.exec; have hb := B.bytes; have hr := B.returns; have hlocks := B.notSynchronized
  have hts0 := atoms_spec (ws := Cond.code yX8_cells cX8_cells 1 (some .int) :: lw_all) B.pre
  have hC : CallFix p m c cX8_cells 1 s _ lw_all RX8 := ⟨hx, hb, hml, findClass_of_methodNamed B.named, fun w h => hts0 w (List.mem_cons_of_mem _ h)⟩
  have hD : va_D (aW (mW cI cJ cB o kv kp kx kl kh ki kf kq ka kt kd kn (nI mpm) (nI mty) (nI mwi) (nI mhi) (nI mwa) (nI mle) (gI mgo) (nI mam) (bI mtm) (nI mli) (vF wd hd nb wl st sl gl aq lb sh bw bh ps) mpa (fun zz => nI (mtx zz)) (fun zz => nI (mlt zz)) (fun zz => nI (mha zz)) (fun zz => nI (mfi zz)) (fun zz => oI (mfa zz)) (fun zz => nI (mqu zz)) (fun zz => lN (mal zz)) (fun zz => nI (mta zz)) (fun zz => oI (mdi zz)) (fun zz => nI (mln zz)))) (mW cI cJ cB o kv kp kx kl kh ki kf kq ka kt kd kn (nI mpm) (nI mty) (nI mwi) (nI mhi) (nI mwa) (nI mle) (gI mgo) (nI mam) (bI mtm) (nI mli) (vF wd hd nb wl st sl gl aq lb sh bw bh ps) mpa (fun zz => nI (mtx zz)) (fun zz => nI (mlt zz)) (fun zz => nI (mha zz)) (fun zz => nI (mfi zz)) (fun zz => oI (mfa zz)) (fun zz => nI (mqu zz)) (fun zz => lN (mal zz)) (fun zz => nI (mta zz)) (fun zz => oI (mdi zz)) (fun zz => nI (mln zz))) := ⟨hD0.1, fun k q h => ⟨k, q.2, h⟩⟩
  generalize hAe : aW (mW cI cJ cB o kv kp kx kl kh ki kf kq ka kt kd kn (nI mpm) (nI mty) (nI mwi) (nI mhi) (nI mwa) (nI mle) (gI mgo) (nI mam) (bI mtm) (nI mli) (vF wd hd nb wl st sl gl aq lb sh bw bh ps) mpa (fun zz => nI (mtx zz)) (fun zz => nI (mlt zz)) (fun zz => nI (mha zz)) (fun zz => nI (mfi zz)) (fun zz => oI (mfa zz)) (fun zz => nI (mqu zz)) (fun zz => lN (mal zz)) (fun zz => nI (mta zz)) (fun zz => oI (mdi zz)) (fun zz => nI (mln zz))) = A at hD ⊢
  have hS : va_S A s.heap s.heap [] := va_S.rf
  have hl := lv_entry ([.ref o]) (n := 1) (Nat.le_of_ble_eq_true rfl)
  rw [lg_entry_eq]
  generalize (lg_sl ([.ref o]) ++ List.replicate (1 - (lg_sl ([.ref o])).length) Slot.unset).toArray = ls at hl ⊢
  have hl : lv_has ls 1 [(0, .ref o)] := hl
  generalize hav : ([.ref o] : List Value).toArray = args at hC ⊢
  refine W_gen (fun QQ hQ => ?_)
  show W p l e (rmN 0) s m args below meth c s.heap [] 0 0 QQ (F0 m 0 ls [])
  refine lv_aload_n hx hb dX8_cells_0 rfl (lv_at hl 0 rfl) ?_
  refine gf_X8_7 hC hK hP 0 rfl rfl dX8_cells_1 ?_
  refine lv_iconst (v := nI 0) hx hb dX8_cells_4 (by decide) ?_
  refine n_iald hx hb hK hP 1 0 rfl rfl (by omega) (by decide) dX8_cells_5 ?_
  refine topi (y := nI wd) rfl ?_
  refine lv_aload_n hx hb dX8_cells_6 rfl (lv_at hl 0 rfl) ?_
  refine gf_X8_7 hC hK hP 0 rfl rfl dX8_cells_7 ?_
  refine lv_iconst (v := nI 1) hx hb dX8_cells_10 (by decide) ?_
  refine n_iald hx hb hK hP 1 0 rfl rfl (by omega) (by decide) dX8_cells_11 ?_
  refine topi (y := nI hd) rfl ?_
  refine n_imul hx hb dX8_cells_12  ?_
  rw [hQ]
  exact W.iret (v := nI (wd * hd)) hx hb hr (fun t9 ht hW => ⟨⟨_, _, rfl, ⟨rfl, rfl⟩, by rw [ht]; exact hP, rfl⟩, hS.F ht⟩) hS.2.2 dX8_cells_13

set_option maxHeartbeats 400000 in
set_option maxRecDepth 100000 in
theorem c_X8_isBlock (l : Launch) (D : va_G) (cI cJ cB : ClassId) (o kv kp kx kl kh ki kf kq ka kt kd kn mpm mty mwi mhi mwa mle mam mli : Nat) (mgo : Option Nat) (mtm : Bool) (mpa : Nat → Int32) (mtx mlt mha mfi mqu mta mln mal : Nat → Nat) (mfa mdi : Nat → Option Nat) (wd hd nb wl : Nat) (st sl : Int32) (gl aq lb : Option Nat) (sh bw bh ps : Nat → Nat) (x : Int32)  : Met l yX8_isBlock (Cond.code yX8_isBlock cX8_isBlock 2 (some .boolean) :: lw_all) (rmN 1) (va_Pc [.ref o, .int x] (pB D (tyz cI cJ cB) (mW cI cJ cB o kv kp kx kl kh ki kf kq ka kt kd kn (nI mpm) (nI mty) (nI mwi) (nI mhi) (nI mwa) (nI mle) (gI mgo) (nI mam) (bI mtm) (nI mli) (vF wd hd nb wl st sl gl aq lb sh bw bh ps) mpa (fun zz => nI (mtx zz)) (fun zz => nI (mlt zz)) (fun zz => nI (mha zz)) (fun zz => nI (mfi zz)) (fun zz => oI (mfa zz)) (fun zz => nI (mqu zz)) (fun zz => lN (mal zz)) (fun zz => nI (mta zz)) (fun zz => oI (mdi zz)) (fun zz => nI (mln zz))))) (va_Qi (fun (r : Int32) (w : va_W) => r = bI (decide (nI 0 ≤ x) && decide (x ≤ nI nb - nI 1)) ∧ w = mW cI cJ cB o kv kp kx kl kh ki kf kq ka kt kd kn (nI mpm) (nI mty) (nI mwi) (nI mhi) (nI mwa) (nI mle) (gI mgo) (nI mam) (bI mtm) (nI mli) (vF wd hd nb wl st sl gl aq lb sh bw bh ps) mpa (fun zz => nI (mtx zz)) (fun zz => nI (mlt zz)) (fun zz => nI (mha zz)) (fun zz => nI (mfi zz)) (fun zz => oI (mfa zz)) (fun zz => nI (mqu zz)) (fun zz => lN (mal zz)) (fun zz => nI (mta zz)) (fun zz => oI (mdi zz)) (fun zz => nI (mln zz))) (gB D (mW cI cJ cB o kv kp kx kl kh ki kf kq ka kt kd kn (nI mpm) (nI mty) (nI mwi) (nI mhi) (nI mwa) (nI mle) (gI mgo) (nI mam) (bI mtm) (nI mli) (vF wd hd nb wl st sl gl aq lb sh bw bh ps) mpa (fun zz => nI (mtx zz)) (fun zz => nI (mlt zz)) (fun zz => nI (mha zz)) (fun zz => nI (mfi zz)) (fun zz => oI (mfa zz)) (fun zz => nI (mqu zz)) (fun zz => lN (mal zz)) (fun zz => nI (mta zz)) (fun zz => oI (mdi zz)) (fun zz => nI (mln zz)))) (aW (mW cI cJ cB o kv kp kx kl kh ki kf kq ka kt kd kn (nI mpm) (nI mty) (nI mwi) (nI mhi) (nI mwa) (nI mle) (gI mgo) (nI mam) (bI mtm) (nI mli) (vF wd hd nb wl st sl gl aq lb sh bw bh ps) mpa (fun zz => nI (mtx zz)) (fun zz => nI (mlt zz)) (fun zz => nI (mha zz)) (fun zz => nI (mfi zz)) (fun zz => oI (mfa zz)) (fun zz => nI (mqu zz)) (fun zz => lN (mal zz)) (fun zz => nI (mta zz)) (fun zz => oI (mdi zz)) (fun zz => nI (mln zz))))) 0 0 (aW (mW cI cJ cB o kv kp kx kl kh ki kf kq ka kt kd kn (nI mpm) (nI mty) (nI mwi) (nI mhi) (nI mwa) (nI mle) (gI mgo) (nI mam) (bI mtm) (nI mli) (vF wd hd nb wl st sl gl aq lb sh bw bh ps) mpa (fun zz => nI (mtx zz)) (fun zz => nI (mlt zz)) (fun zz => nI (mha zz)) (fun zz => nI (mfi zz)) (fun zz => oI (mfa zz)) (fun zz => nI (mqu zz)) (fun zz => lN (mal zz)) (fun zz => nI (mta zz)) (fun zz => oI (mdi zz)) (fun zz => nI (mln zz)))) := by
  refine Met.ofW (cc := cX8_isBlock) (maxL := 2) (ret := (some .boolean)) (by decide) rfl ?_
  intro p e s m args below meth c s₁ B hml hv
  obtain ⟨rfl, hK, hN, hP, hD0⟩ := hv
  have hx := B.exec; have hb := B.bytes; have hr := B.returns; have hlocks := B.notSynchronized
  have hts0 := atoms_spec (ws := Cond.code yX8_isBlock cX8_isBlock 2 (some .boolean) :: lw_all) B.pre
  have hC : CallFix p m c cX8_isBlock 2 s _ lw_all RX8 := ⟨hx, hb, hml, findClass_of_methodNamed B.named, fun w h => hts0 w (List.mem_cons_of_mem _ h)⟩
  have hD : va_D (aW (mW cI cJ cB o kv kp kx kl kh ki kf kq ka kt kd kn (nI mpm) (nI mty) (nI mwi) (nI mhi) (nI mwa) (nI mle) (gI mgo) (nI mam) (bI mtm) (nI mli) (vF wd hd nb wl st sl gl aq lb sh bw bh ps) mpa (fun zz => nI (mtx zz)) (fun zz => nI (mlt zz)) (fun zz => nI (mha zz)) (fun zz => nI (mfi zz)) (fun zz => oI (mfa zz)) (fun zz => nI (mqu zz)) (fun zz => lN (mal zz)) (fun zz => nI (mta zz)) (fun zz => oI (mdi zz)) (fun zz => nI (mln zz)))) (mW cI cJ cB o kv kp kx kl kh ki kf kq ka kt kd kn (nI mpm) (nI mty) (nI mwi) (nI mhi) (nI mwa) (nI mle) (gI mgo) (nI mam) (bI mtm) (nI mli) (vF wd hd nb wl st sl gl aq lb sh bw bh ps) mpa (fun zz => nI (mtx zz)) (fun zz => nI (mlt zz)) (fun zz => nI (mha zz)) (fun zz => nI (mfi zz)) (fun zz => oI (mfa zz)) (fun zz => nI (mqu zz)) (fun zz => lN (mal zz)) (fun zz => nI (mta zz)) (fun zz => oI (mdi zz)) (fun zz => nI (mln zz))) := ⟨hD0.1, fun k q h => ⟨k, q.2, h⟩⟩
  generalize hAe : aW (mW cI cJ cB o kv kp kx kl kh ki kf kq ka kt kd kn (nI mpm) (nI mty) (nI mwi) (nI mhi) (nI mwa) (nI mle) (gI mgo) (nI mam) (bI mtm) (nI mli) (vF wd hd nb wl st sl gl aq lb sh bw bh ps) mpa (fun zz => nI (mtx zz)) (fun zz => nI (mlt zz)) (fun zz => nI (mha zz)) (fun zz => nI (mfi zz)) (fun zz => oI (mfa zz)) (fun zz => nI (mqu zz)) (fun zz => lN (mal zz)) (fun zz => nI (mta zz)) (fun zz => oI (mdi zz)) (fun zz => nI (mln zz))) = A at hD ⊢
  have hS : va_S A s.heap s.heap [] := va_S.rf
  have hl := lv_entry ([.ref o, .int x]) (n := 2) (Nat.le_of_ble_eq_true rfl)
  rw [lg_entry_eq]
  generalize (lg_sl ([.ref o, .int x]) ++ List.replicate (2 - (lg_sl ([.ref o, .int x])).length) Slot.unset).toArray = ls at hl ⊢
  have hl : lv_has ls 2 [(0, .ref o), (1, .int x)] := hl
  generalize hav : ([.ref o, .int x] : List Value).toArray = args at hC ⊢
  refine W_gen (fun QQ hQ => ?_)
  show W p l e (rmN 1) s m args below meth c s.heap [] 0 0 QQ (F0 m 0 ls [])
  refine lv_iload_n hx hb dX8_isBlock_0 rfl (lv_at hl 1 rfl) ?_
  refine lv_iconst (v := nI 0) hx hb dX8_isBlock_1 (by decide) ?_
  refine lv_aload_n hx hb dX8_isBlock_2 rfl (lv_at hl 0 rfl) ?_
  refine gf_X8_7 hC hK hP 0 rfl rfl dX8_isBlock_3 ?_
  refine lv_iconst (v := nI 2) hx hb dX8_isBlock_6 (by decide) ?_
  refine n_iald hx hb hK hP 1 0 rfl rfl (by omega) (by decide) dX8_isBlock_7 ?_
  refine topi (y := nI nb) rfl ?_
  refine lv_iconst (v := nI 1) hx hb dX8_isBlock_8 (by decide) ?_
  refine lv_isub hx hb dX8_isBlock_9 ?_
  refine callS_i (As := [.int x, .int (nI 0), .int ((nI nb) - (nI 1))]) (rest := []) [] hC hK hN hP hD rfl (by decide) hS (c_X8_in l D cI cJ cB x (nI 0) ((nI nb) - (nI 1)) ) q750 md_X8_in rfl hl.1 rfl (Nat.le_of_ble_eq_true rfl) dX8_isBlock_10 ⟨Nat.le_of_ble_eq_true rfl, Nat.le_of_ble_eq_true rfl⟩ ⟨Nat.le_of_ble_eq_true rfl, Nat.le_of_ble_eq_true rfl⟩ (fun r_10 w H locs hpost hP hD hS => ?_)
  obtain ⟨rfl, rfl⟩ := hpost
  have hP : va_P D vwCl (mW cI cJ cB o kv kp kx kl kh ki kf kq ka kt kd kn (nI mpm) (nI mty) (nI mwi) (nI mhi) (nI mwa) (nI mle) (gI mgo) (nI mam) (bI mtm) (nI mli) (vF wd hd nb wl st sl gl aq lb sh bw bh ps) mpa (fun zz => nI (mtx zz)) (fun zz => nI (mlt zz)) (fun zz => nI (mha zz)) (fun zz => nI (mfi zz)) (fun zz => oI (mfa zz)) (fun zz => nI (mqu zz)) (fun zz => lN (mal zz)) (fun zz => nI (mta zz)) (fun zz => oI (mdi zz)) (fun zz => nI (mln zz))) H := hP
  have hD : va_D A (mW cI cJ cB o kv kp kx kl kh ki kf kq ka kt kd kn (nI mpm) (nI mty) (nI mwi) (nI mhi) (nI mwa) (nI mle) (gI mgo) (nI mam) (bI mtm) (nI mli) (vF wd hd nb wl st sl gl aq lb sh bw bh ps) mpa (fun zz => nI (mtx zz)) (fun zz => nI (mlt zz)) (fun zz => nI (mha zz)) (fun zz => nI (mfi zz)) (fun zz => oI (mfa zz)) (fun zz => nI (mqu zz)) (fun zz => lN (mal zz)) (fun zz => nI (mta zz)) (fun zz => oI (mdi zz)) (fun zz => nI (mln zz))) := hD
  rw [hQ]
  exact W.zret (v := bI (decide ((nI 0) ≤ x) && decide (x ≤ ((nI nb) - (nI 1))))) hx hb hr (bnar _) (fun t9 ht hW => ⟨⟨_, _, rfl, ⟨rfl, rfl⟩, by rw [ht]; exact hP, rfl⟩, hS.F ht⟩) hS.2.2 dX8_isBlock_13

set_option maxHeartbeats 400000 in
set_option maxRecDepth 100000 in
theorem c_X8_placeIn (l : Launch) (D : va_G) (cI cJ cB : ClassId) (k b : Nat) (hk : k < 2 ^ 35) (hb7 : b < 7) : Met l yX8_placeIn (Cond.code yX8_placeIn cX8_placeIn 3 (some .int) :: lw_all) (rmN 0) (va_Pc [.long (lN k), .int (nI b)] (pB D (tyz cI cJ cB) ([] : va_W))) (va_Qi (fun (r : Int32) (w : va_W) => r = nI (plc k b) ∧ w = []) (gB D ([] : va_W)) (aW ([] : va_W))) 0 0 (aW ([] : va_W)) := by
  refine Met.ofW (cc := cX8_placeIn) (maxL := 3) (ret := (some .int)) (by decide) rfl ?_
  intro p e s m args below meth c s₁ B hml hv
  obtain ⟨rfl, hK, hN, hP, hD0⟩ := hv
  have hx := B.exec; have hb := B.bytes; have hr := B.returns; have hlocks := B.notSynchronized
  have hts0 := atoms_spec (ws := Cond.code yX8_placeIn cX8_placeIn 3 (some .int) :: lw_all) B.pre
  have hC : CallFix p m c cX8_placeIn 3 s _ lw_all RX8 := ⟨hx, hb, hml, findClass_of_methodNamed B.named, fun w h => hts0 w (List.mem_cons_of_mem _ h)⟩
  have hD : va_D (aW ([] : va_W)) ([] : va_W) := ⟨hD0.1, fun k q h => ⟨k, q.2, h⟩⟩
  generalize hAe : aW ([] : va_W) = A at hD ⊢
  have hS : va_S A s.heap s.heap [] := va_S.rf
  have hl := lv_entry ([.long (lN k), .int (nI b)]) (n := 3) (Nat.le_of_ble_eq_true rfl)
  rw [lg_entry_eq]
  generalize (lg_sl ([.long (lN k), .int (nI b)]) ++ List.replicate (3 - (lg_sl ([.long (lN k), .int (nI b)])).length) Slot.unset).toArray = ls at hl ⊢
  have hl : lv_has ls 3 [(0, .long (lN k)), (2, .int (nI b))] := hl
  generalize hav : ([.long (lN k), .int (nI b)] : List Value).toArray = args at hC ⊢
  refine W_gen (fun QQ hQ => ?_)
  show W p l e (rmN 0) s m args below meth c s.heap [] 0 0 QQ (F0 m 0 ls [])
  refine lv_lload_n hx hb dX8_placeIn_0 rfl (lv_at hl 0 rfl) ?_
  refine lv_iconst (v := nI 5) hx hb dX8_placeIn_1 (by decide) ?_
  refine lv_bipush (v := nI 6) hx hb dX8_placeIn_2 (by decide) ?_
  refine lv_iload_n hx hb dX8_placeIn_4 rfl (lv_at hl 1 rfl) ?_
  refine n_isub hx hb dX8_placeIn_5 (by omega) ?_
  refine n_imul hx hb dX8_placeIn_6  ?_
  refine n_lshr hx hb dX8_placeIn_7 (by omega) (by omega) ?_
  refine lv_l2i (v := nI (k / 2 ^ (5 * (6 - b)))) hx hb dX8_placeIn_8 (lN_i _) ?_
  refine lv_bipush (v := nI 31) hx hb dX8_placeIn_9 (by decide) ?_
  refine n_iand hx hb dX8_placeIn_11  ?_
  refine topi (y := nI (plc k b)) (by unfold plc; rw [nI_and31]) ?_
  rw [hQ]
  exact W.iret (v := nI (plc k b)) hx hb hr (fun t9 ht hW => ⟨⟨_, _, rfl, ⟨rfl, rfl⟩, by rw [ht]; exact hP, rfl⟩, hS.F ht⟩) hS.2.2 dX8_placeIn_12

set_option maxHeartbeats 400000 in
set_option maxRecDepth 100000 in
theorem c_X8_with (l : Launch) (D : va_G) (cI cJ cB : ClassId) (k b q : Nat) (hb7 : b < 7) (hq : q < 32) : Met l yX8_with (Cond.code yX8_with cX8_with 5 (some .long) :: lw_all) (rmN 0) (va_Pc [.long (lN k), .int (nI b), .int (nI q)] (pB D (tyz cI cJ cB) ([] : va_W))) (va_Ql (fun (r : Int64) (w : va_W) => r = lN (wth k b q) ∧ w = []) (gB D ([] : va_W)) (aW ([] : va_W))) 0 0 (aW ([] : va_W)) := by
  refine Met.ofW (cc := cX8_with) (maxL := 5) (ret := (some .long)) (by decide) rfl ?_
  intro p e s m args below meth c s₁ B hml hv
  obtain ⟨rfl, hK, hN, hP, hD0⟩ := hv
  have hx := B.exec; have hb := B.bytes; have hr := B.returns; have hlocks := B.notSynchronized
  have hts0 := atoms_spec (ws := Cond.code yX8_with cX8_with 5 (some .long) :: lw_all) B.pre
  have hC : CallFix p m c cX8_with 5 s _ lw_all RX8 := ⟨hx, hb, hml, findClass_of_methodNamed B.named, fun w h => hts0 w (List.mem_cons_of_mem _ h)⟩
  have hD : va_D (aW ([] : va_W)) ([] : va_W) := ⟨hD0.1, fun k q h => ⟨k, q.2, h⟩⟩
  generalize hAe : aW ([] : va_W) = A at hD ⊢
  have hS : va_S A s.heap s.heap [] := va_S.rf
  have hl := lv_entry ([.long (lN k), .int (nI b), .int (nI q)]) (n := 5) (Nat.le_of_ble_eq_true rfl)
  rw [lg_entry_eq]
  generalize (lg_sl ([.long (lN k), .int (nI b), .int (nI q)]) ++ List.replicate (5 - (lg_sl ([.long (lN k), .int (nI b), .int (nI q)])).length) Slot.unset).toArray = ls at hl ⊢
  have hl : lv_has ls 5 [(0, .long (lN k)), (2, .int (nI b)), (3, .int (nI q))] := hl
  generalize hav : ([.long (lN k), .int (nI b), .int (nI q)] : List Value).toArray = args at hC ⊢
  refine W_gen (fun QQ hQ => ?_)
  show W p l e (rmN 0) s m args below meth c s.heap [] 0 0 QQ (F0 m 0 ls [])
  refine lv_iconst (v := nI 5) hx hb dX8_with_0 (by decide) ?_
  refine lv_bipush (v := nI 6) hx hb dX8_with_1 (by decide) ?_
  refine lv_iload_n hx hb dX8_with_3 rfl (lv_at hl 1 rfl) ?_
  refine n_isub hx hb dX8_with_4 (by omega) ?_
  refine n_imul hx hb dX8_with_5  ?_
  refine lv_istore (lv' := [(4, .int (nI (5 * (6 - b)))), (0, .long (lN k)), (2, .int (nI b)), (3, .int (nI q))]) hx hb dX8_with_6 hl (by decide) rfl (fun ls hl => ?_)
  refine lv_lload_n hx hb dX8_with_8 rfl (lv_at hl 1 rfl) ?_
  refine lv_ldc2 (v := lN 31) hx hb hC.2.2.2.1 (hC.2.2.2.2 _ q807) dX8_with_9 ?_
  refine lv_iload hx hb dX8_with_12 (lv_at hl 0 rfl) ?_
  refine n_lshl hx hb dX8_with_14 (by omega) ?_
  refine lv_ldc2 (v := (-1)) hx hb hC.2.2.2.1 (hC.2.2.2.2 _ q808) dX8_with_15 ?_
  refine lv_lxor hx hb dX8_with_18 ?_
  refine n_landn hx hb dX8_with_19 ?_
  refine lv_iload_n hx hb dX8_with_20 rfl (lv_at hl 3 rfl) ?_
  refine lv_i2l (v := lN q) hx hb dX8_with_21 (nI_l (by omega)) ?_
  refine lv_iload hx hb dX8_with_22 (lv_at hl 0 rfl) ?_
  refine n_lshl hx hb dX8_with_24 (by omega) ?_
  refine n_lor hx hb dX8_with_25 ?_
  refine topl (y := lN (wth k b q)) (by rw [wth_or hq]) ?_
  rw [hQ]
  exact W.lret (v := lN (wth k b q)) hx hb hr (fun t9 ht hW => ⟨⟨_, _, rfl, ⟨rfl, rfl⟩, by rw [ht]; exact hP, rfl⟩, hS.F ht⟩) hS.2.2 dX8_with_26

set_option maxHeartbeats 400000 in
set_option maxRecDepth 100000 in
theorem c_X8_present (l : Launch) (D : va_G) (cI cJ cB : ClassId) (o kv kp kx kl kh ki kf kq ka kt kd kn mpm mty mwi mhi mwa mle mam mli : Nat) (mgo : Option Nat) (mtm : Bool) (mpa : Nat → Int32) (mtx mlt mha mfi mqu mta mln mal : Nat → Nat) (mfa mdi : Nat → Option Nat) (wd hd nb wl : Nat) (st sl : Int32) (gl aq lb : Option Nat) (sh bw bh ps : Nat → Nat) (hn7 : nb ≤ 7) (hps : ∀ b, b < nb → ps b < 32) : Met l yX8_present (Cond.code yX8_present cX8_present 4 (some .long) :: lw_all) (rmN 1) (va_Pc [.ref o] (pB D (tyz cI cJ cB) (mW cI cJ cB o kv kp kx kl kh ki kf kq ka kt kd kn (nI mpm) (nI mty) (nI mwi) (nI mhi) (nI mwa) (nI mle) (gI mgo) (nI mam) (bI mtm) (nI mli) (vF wd hd nb wl st sl gl aq lb sh bw bh ps) mpa (fun zz => nI (mtx zz)) (fun zz => nI (mlt zz)) (fun zz => nI (mha zz)) (fun zz => nI (mfi zz)) (fun zz => oI (mfa zz)) (fun zz => nI (mqu zz)) (fun zz => lN (mal zz)) (fun zz => nI (mta zz)) (fun zz => oI (mdi zz)) (fun zz => nI (mln zz))))) (va_Ql (fun (r : Int64) (w : va_W) => r = lN (pkey ps nb) ∧ w = mW cI cJ cB o kv kp kx kl kh ki kf kq ka kt kd kn (nI mpm) (nI mty) (nI mwi) (nI mhi) (nI mwa) (nI mle) (gI mgo) (nI mam) (bI mtm) (nI mli) (vF wd hd nb wl st sl gl aq lb sh bw bh ps) mpa (fun zz => nI (mtx zz)) (fun zz => nI (mlt zz)) (fun zz => nI (mha zz)) (fun zz => nI (mfi zz)) (fun zz => oI (mfa zz)) (fun zz => nI (mqu zz)) (fun zz => lN (mal zz)) (fun zz => nI (mta zz)) (fun zz => oI (mdi zz)) (fun zz => nI (mln zz))) (gB D (mW cI cJ cB o kv kp kx kl kh ki kf kq ka kt kd kn (nI mpm) (nI mty) (nI mwi) (nI mhi) (nI mwa) (nI mle) (gI mgo) (nI mam) (bI mtm) (nI mli) (vF wd hd nb wl st sl gl aq lb sh bw bh ps) mpa (fun zz => nI (mtx zz)) (fun zz => nI (mlt zz)) (fun zz => nI (mha zz)) (fun zz => nI (mfi zz)) (fun zz => oI (mfa zz)) (fun zz => nI (mqu zz)) (fun zz => lN (mal zz)) (fun zz => nI (mta zz)) (fun zz => oI (mdi zz)) (fun zz => nI (mln zz)))) (aW (mW cI cJ cB o kv kp kx kl kh ki kf kq ka kt kd kn (nI mpm) (nI mty) (nI mwi) (nI mhi) (nI mwa) (nI mle) (gI mgo) (nI mam) (bI mtm) (nI mli) (vF wd hd nb wl st sl gl aq lb sh bw bh ps) mpa (fun zz => nI (mtx zz)) (fun zz => nI (mlt zz)) (fun zz => nI (mha zz)) (fun zz => nI (mfi zz)) (fun zz => oI (mfa zz)) (fun zz => nI (mqu zz)) (fun zz => lN (mal zz)) (fun zz => nI (mta zz)) (fun zz => oI (mdi zz)) (fun zz => nI (mln zz))))) 0 0 (aW (mW cI cJ cB o kv kp kx kl kh ki kf kq ka kt kd kn (nI mpm) (nI mty) (nI mwi) (nI mhi) (nI mwa) (nI mle) (gI mgo) (nI mam) (bI mtm) (nI mli) (vF wd hd nb wl st sl gl aq lb sh bw bh ps) mpa (fun zz => nI (mtx zz)) (fun zz => nI (mlt zz)) (fun zz => nI (mha zz)) (fun zz => nI (mfi zz)) (fun zz => oI (mfa zz)) (fun zz => nI (mqu zz)) (fun zz => lN (mal zz)) (fun zz => nI (mta zz)) (fun zz => oI (mdi zz)) (fun zz => nI (mln zz)))) := by
  refine Met.ofW (cc := cX8_present) (maxL := 4) (ret := (some .long)) (by decide) rfl ?_
  intro p e s m args below meth c s₁ B hml hv
  obtain ⟨rfl, hK, hN, hP, hD0⟩ := hv
  have hx := B.exec; have hb := B.bytes; have hr := B.returns; have hlocks := B.notSynchronized
  have hts0 := atoms_spec (ws := Cond.code yX8_present cX8_present 4 (some .long) :: lw_all) B.pre
  have hC : CallFix p m c cX8_present 4 s _ lw_all RX8 := ⟨hx, hb, hml, findClass_of_methodNamed B.named, fun w h => hts0 w (List.mem_cons_of_mem _ h)⟩
  have hD : va_D (aW (mW cI cJ cB o kv kp kx kl kh ki kf kq ka kt kd kn (nI mpm) (nI mty) (nI mwi) (nI mhi) (nI mwa) (nI mle) (gI mgo) (nI mam) (bI mtm) (nI mli) (vF wd hd nb wl st sl gl aq lb sh bw bh ps) mpa (fun zz => nI (mtx zz)) (fun zz => nI (mlt zz)) (fun zz => nI (mha zz)) (fun zz => nI (mfi zz)) (fun zz => oI (mfa zz)) (fun zz => nI (mqu zz)) (fun zz => lN (mal zz)) (fun zz => nI (mta zz)) (fun zz => oI (mdi zz)) (fun zz => nI (mln zz)))) (mW cI cJ cB o kv kp kx kl kh ki kf kq ka kt kd kn (nI mpm) (nI mty) (nI mwi) (nI mhi) (nI mwa) (nI mle) (gI mgo) (nI mam) (bI mtm) (nI mli) (vF wd hd nb wl st sl gl aq lb sh bw bh ps) mpa (fun zz => nI (mtx zz)) (fun zz => nI (mlt zz)) (fun zz => nI (mha zz)) (fun zz => nI (mfi zz)) (fun zz => oI (mfa zz)) (fun zz => nI (mqu zz)) (fun zz => lN (mal zz)) (fun zz => nI (mta zz)) (fun zz => oI (mdi zz)) (fun zz => nI (mln zz))) := ⟨hD0.1, fun k q h => ⟨k, q.2, h⟩⟩
  generalize hAe : aW (mW cI cJ cB o kv kp kx kl kh ki kf kq ka kt kd kn (nI mpm) (nI mty) (nI mwi) (nI mhi) (nI mwa) (nI mle) (gI mgo) (nI mam) (bI mtm) (nI mli) (vF wd hd nb wl st sl gl aq lb sh bw bh ps) mpa (fun zz => nI (mtx zz)) (fun zz => nI (mlt zz)) (fun zz => nI (mha zz)) (fun zz => nI (mfi zz)) (fun zz => oI (mfa zz)) (fun zz => nI (mqu zz)) (fun zz => lN (mal zz)) (fun zz => nI (mta zz)) (fun zz => oI (mdi zz)) (fun zz => nI (mln zz))) = A at hD ⊢
  have hS : va_S A s.heap s.heap [] := va_S.rf
  have hl := lv_entry ([.ref o]) (n := 4) (Nat.le_of_ble_eq_true rfl)
  rw [lg_entry_eq]
  generalize (lg_sl ([.ref o]) ++ List.replicate (4 - (lg_sl ([.ref o])).length) Slot.unset).toArray = ls at hl ⊢
  have hl : lv_has ls 4 [(0, .ref o)] := hl
  generalize hav : ([.ref o] : List Value).toArray = args at hC ⊢
  refine W_gen (fun QQ hQ => ?_)
  show W p l e (rmN 1) s m args below meth c s.heap [] 0 0 QQ (F0 m 0 ls [])
  refine lv_lconst (v := lN 0) hx hb dX8_present_0 rfl ?_
  refine topl (y := lN (pkey ps 0)) rfl ?_
  refine lv_lstore_n (lv' := [(1, .long (lN (pkey ps 0))), (0, .ref o)]) hx hb dX8_present_1 rfl hl (by decide) rfl (fun ls hl => ?_)
  refine lv_iconst (v := nI 0) hx hb dX8_present_2 (by decide) ?_
  refine lv_istore_n (lv' := [(3, .int (nI 0)), (1, .long (lN (pkey ps 0))), (0, .ref o)]) hx hb dX8_present_3 rfl hl (by decide) rfl (fun ls hl => ?_)
  have L4 : ∀ (n : Nat) (b : Nat), (b ≤ nb) → (nb - b) < n → ∀ (H : Heap) (locs : List Loc), va_P D vwCl (mW cI cJ cB o kv kp kx kl kh ki kf kq ka kt kd kn (nI mpm) (nI mty) (nI mwi) (nI mhi) (nI mwa) (nI mle) (gI mgo) (nI mam) (bI mtm) (nI mli) (vF wd hd nb wl st sl gl aq lb sh bw bh ps) mpa (fun zz => nI (mtx zz)) (fun zz => nI (mlt zz)) (fun zz => nI (mha zz)) (fun zz => nI (mfi zz)) (fun zz => oI (mfa zz)) (fun zz => nI (mqu zz)) (fun zz => lN (mal zz)) (fun zz => nI (mta zz)) (fun zz => oI (mdi zz)) (fun zz => nI (mln zz))) H → va_D A (mW cI cJ cB o kv kp kx kl kh ki kf kq ka kt kd kn (nI mpm) (nI mty) (nI mwi) (nI mhi) (nI mwa) (nI mle) (gI mgo) (nI mam) (bI mtm) (nI mli) (vF wd hd nb wl st sl gl aq lb sh bw bh ps) mpa (fun zz => nI (mtx zz)) (fun zz => nI (mlt zz)) (fun zz => nI (mha zz)) (fun zz => nI (mfi zz)) (fun zz => oI (mfa zz)) (fun zz => nI (mqu zz)) (fun zz => lN (mal zz)) (fun zz => nI (mta zz)) (fun zz => oI (mdi zz)) (fun zz => nI (mln zz))) → va_S A s.heap H locs → ∀ ls : Array Slot, lv_has ls 4 [(1, .long (lN (pkey ps b))), (3, .int (nI b)), (0, .ref o)] → W p l e (rmN 1) s m args below meth c H locs 0 0 QQ (F0 m 4 ls []) := by
    intro n; induction n with
    | zero => intro b ib hm; exact absurd hm (Nat.not_lt_zero _)
    | succ n ih4 =>
      intro b ib hm4 H locs hP hD hS ls hl
      refine lv_iload_n hx hb dX8_present_4 rfl (lv_at hl 1 rfl) ?_
      refine lv_aload_n hx hb dX8_present_5 rfl (lv_at hl 2 rfl) ?_
      refine gf_X8_7 hC hK hP 0 rfl rfl dX8_present_6 ?_
      refine lv_iconst (v := nI 2) hx hb dX8_present_9 (by decide) ?_
      refine n_iald hx hb hK hP 1 0 rfl rfl (by omega) (by decide) dX8_present_10 ?_
      refine topi (y := nI nb) rfl ?_
      refine n_icmp_ge (a := b) (b := nb) (tgt := 35) hx hb dX8_present_11 (by decide) (by omega) (by omega) (fun c11 => ?_) (fun c11 => ?_)
      · have _ : True := trivial
        have e : b = nb := by omega
        subst e
        refine lv_lload_n hx hb dX8_present_35 rfl (lv_at hl 0 rfl) ?_
        rw [hQ]
        exact W.lret (v := lN (pkey ps b)) hx hb hr (fun t9 ht hW => ⟨⟨_, _, rfl, ⟨rfl, rfl⟩, by rw [ht]; exact hP, rfl⟩, hS.F ht⟩) hS.2.2 dX8_present_36
      · have _ : True := trivial
        refine lv_lload_n hx hb dX8_present_14 rfl (lv_at hl 0 rfl) ?_
        refine lv_iload_n hx hb dX8_present_15 rfl (lv_at hl 1 rfl) ?_
        refine lv_aload_n hx hb dX8_present_16 rfl (lv_at hl 2 rfl) ?_
        refine gf_X8_7 hC hK hP 0 rfl rfl dX8_present_17 ?_
        refine lv_bipush (v := nI 31) hx hb dX8_present_20 (by decide) ?_
        refine lv_iload_n hx hb dX8_present_22 rfl (lv_at hl 1 rfl) ?_
        refine n_iadd hx hb dX8_present_23  ?_
        refine n_iald hx hb hK hP 1 0 rfl rfl (by omega) (by decide) dX8_present_24 ?_
        refine topi (y := nI (ps b)) (vF_ps (by omega)) ?_
        refine callS_l (As := [.long (lN (pkey ps b)), .int (nI b), .int (nI (ps b))]) (rest := []) [] hC hK hN hP hD rfl (by decide) hS (c_X8_with l D cI cJ cB (pkey ps b) b (ps b) (by omega) (hps b c11)) q804 md_X8_with rfl hl.1 rfl (Nat.le_of_ble_eq_true rfl) dX8_present_25 ⟨Nat.le_of_ble_eq_true rfl, Nat.le_of_ble_eq_true rfl⟩ ⟨Nat.le_of_ble_eq_true rfl, Nat.le_of_ble_eq_true rfl⟩ (fun r_25 w H locs hpost hP hD hS => ?_)
        obtain ⟨rfl, rfl⟩ := hpost
        have hP : va_P D vwCl (mW cI cJ cB o kv kp kx kl kh ki kf kq ka kt kd kn (nI mpm) (nI mty) (nI mwi) (nI mhi) (nI mwa) (nI mle) (gI mgo) (nI mam) (bI mtm) (nI mli) (vF wd hd nb wl st sl gl aq lb sh bw bh ps) mpa (fun zz => nI (mtx zz)) (fun zz => nI (mlt zz)) (fun zz => nI (mha zz)) (fun zz => nI (mfi zz)) (fun zz => oI (mfa zz)) (fun zz => nI (mqu zz)) (fun zz => lN (mal zz)) (fun zz => nI (mta zz)) (fun zz => oI (mdi zz)) (fun zz => nI (mln zz))) H := hP
        have hD : va_D A (mW cI cJ cB o kv kp kx kl kh ki kf kq ka kt kd kn (nI mpm) (nI mty) (nI mwi) (nI mhi) (nI mwa) (nI mle) (gI mgo) (nI mam) (bI mtm) (nI mli) (vF wd hd nb wl st sl gl aq lb sh bw bh ps) mpa (fun zz => nI (mtx zz)) (fun zz => nI (mlt zz)) (fun zz => nI (mha zz)) (fun zz => nI (mfi zz)) (fun zz => oI (mfa zz)) (fun zz => nI (mqu zz)) (fun zz => lN (mal zz)) (fun zz => nI (mta zz)) (fun zz => oI (mdi zz)) (fun zz => nI (mln zz))) := hD
        refine topl (y := lN (pkey ps (b + 1))) rfl ?_
        refine lv_lstore_n (lv' := [(1, .long (lN (pkey ps (b + 1)))), (3, .int (nI b)), (0, .ref o)]) hx hb dX8_present_28 rfl hl (by decide) rfl (fun ls hl => ?_)
        refine lv_iinc (v := nI (b + 1)) (lv' := [(3, .int (nI (b + 1))), (1, .long (lN (pkey ps (b + 1)))), (0, .ref o)]) hx hb dX8_present_29 hl (k := 1) rfl (nI_1 _) (by decide) rfl (fun ls hl => ?_)
        refine lv_goto (tgt := 4) hx hb dX8_present_32 (by decide) ?_
        exact ih4 (b + 1) (by omega) (by omega) _ _ hP hD hS _ (lv_sub hl [1, 0, 2] rfl)
  exact L4 _ 0 (by omega) (Nat.lt_succ_self _) _ _ hP hD hS _ (lv_sub hl [1, 0, 2] rfl)

set_option maxHeartbeats 400000 in
set_option maxRecDepth 100000 in
theorem c_X8_taken (l : Launch) (D : va_G) (cI cJ cB : ClassId) (o kv kp kx kl kh ki kf kq ka kt kd kn mpm mty mwi mhi mwa mle mam mli : Nat) (mgo : Option Nat) (mtm : Bool) (mpa : Nat → Int32) (mtx mlt mha mfi mqu mta mln mal : Nat → Nat) (mfa mdi : Nat → Option Nat) (wd hd nb wl : Nat) (st sl : Int32) (gl aq lb : Option Nat) (sh bw bh ps : Nat → Nat) (k : Nat) (bt : Option Nat) (hn7 : nb ≤ 7) (hk : k < 2 ^ 35) (hbt : ∀ d, bt = some d → d < 2 ^ 31) (hgo : ∀ d, mgo = some d → d < 2 ^ 31) : Met l yX8_taken (Cond.code yX8_taken cX8_taken 6 (some .int) :: lw_all) (rmN 1) (va_Pc [.ref o, .long (lN k), .int (gI bt)] (pB D (tyz cI cJ cB) (mW cI cJ cB o kv kp kx kl kh ki kf kq ka kt kd kn (nI mpm) (nI mty) (nI mwi) (nI mhi) (nI mwa) (nI mle) (gI mgo) (nI mam) (bI mtm) (nI mli) (vF wd hd nb wl st sl gl aq lb sh bw bh ps) mpa (fun zz => nI (mtx zz)) (fun zz => nI (mlt zz)) (fun zz => nI (mha zz)) (fun zz => nI (mfi zz)) (fun zz => oI (mfa zz)) (fun zz => nI (mqu zz)) (fun zz => lN (mal zz)) (fun zz => nI (mta zz)) (fun zz => oI (mdi zz)) (fun zz => nI (mln zz))))) (va_Qi (fun (r : Int32) (w : va_W) => r = nI (tk wl sh k (exb mgo bt) nb) ∧ w = mW cI cJ cB o kv kp kx kl kh ki kf kq ka kt kd kn (nI mpm) (nI mty) (nI mwi) (nI mhi) (nI mwa) (nI mle) (gI mgo) (nI mam) (bI mtm) (nI mli) (vF wd hd nb wl st sl gl aq lb sh bw bh ps) mpa (fun zz => nI (mtx zz)) (fun zz => nI (mlt zz)) (fun zz => nI (mha zz)) (fun zz => nI (mfi zz)) (fun zz => oI (mfa zz)) (fun zz => nI (mqu zz)) (fun zz => lN (mal zz)) (fun zz => nI (mta zz)) (fun zz => oI (mdi zz)) (fun zz => nI (mln zz))) (gB D (mW cI cJ cB o kv kp kx kl kh ki kf kq ka kt kd kn (nI mpm) (nI mty) (nI mwi) (nI mhi) (nI mwa) (nI mle) (gI mgo) (nI mam) (bI mtm) (nI mli) (vF wd hd nb wl st sl gl aq lb sh bw bh ps) mpa (fun zz => nI (mtx zz)) (fun zz => nI (mlt zz)) (fun zz => nI (mha zz)) (fun zz => nI (mfi zz)) (fun zz => oI (mfa zz)) (fun zz => nI (mqu zz)) (fun zz => lN (mal zz)) (fun zz => nI (mta zz)) (fun zz => oI (mdi zz)) (fun zz => nI (mln zz)))) (aW (mW cI cJ cB o kv kp kx kl kh ki kf kq ka kt kd kn (nI mpm) (nI mty) (nI mwi) (nI mhi) (nI mwa) (nI mle) (gI mgo) (nI mam) (bI mtm) (nI mli) (vF wd hd nb wl st sl gl aq lb sh bw bh ps) mpa (fun zz => nI (mtx zz)) (fun zz => nI (mlt zz)) (fun zz => nI (mha zz)) (fun zz => nI (mfi zz)) (fun zz => oI (mfa zz)) (fun zz => nI (mqu zz)) (fun zz => lN (mal zz)) (fun zz => nI (mta zz)) (fun zz => oI (mdi zz)) (fun zz => nI (mln zz))))) 0 0 (aW (mW cI cJ cB o kv kp kx kl kh ki kf kq ka kt kd kn (nI mpm) (nI mty) (nI mwi) (nI mhi) (nI mwa) (nI mle) (gI mgo) (nI mam) (bI mtm) (nI mli) (vF wd hd nb wl st sl gl aq lb sh bw bh ps) mpa (fun zz => nI (mtx zz)) (fun zz => nI (mlt zz)) (fun zz => nI (mha zz)) (fun zz => nI (mfi zz)) (fun zz => oI (mfa zz)) (fun zz => nI (mqu zz)) (fun zz => lN (mal zz)) (fun zz => nI (mta zz)) (fun zz => oI (mdi zz)) (fun zz => nI (mln zz)))) := by
  refine Met.ofW (cc := cX8_taken) (maxL := 6) (ret := (some .int)) (by decide) rfl ?_
  intro p e s m args below meth c s₁ B hml hv
  obtain ⟨rfl, hK, hN, hP, hD0⟩ := hv
  have hx := B.exec; have hb := B.bytes; have hr := B.returns; have hlocks := B.notSynchronized
  have hts0 := atoms_spec (ws := Cond.code yX8_taken cX8_taken 6 (some .int) :: lw_all) B.pre
  have hC : CallFix p m c cX8_taken 6 s _ lw_all RX8 := ⟨hx, hb, hml, findClass_of_methodNamed B.named, fun w h => hts0 w (List.mem_cons_of_mem _ h)⟩
  have hD : va_D (aW (mW cI cJ cB o kv kp kx kl kh ki kf kq ka kt kd kn (nI mpm) (nI mty) (nI mwi) (nI mhi) (nI mwa) (nI mle) (gI mgo) (nI mam) (bI mtm) (nI mli) (vF wd hd nb wl st sl gl aq lb sh bw bh ps) mpa (fun zz => nI (mtx zz)) (fun zz => nI (mlt zz)) (fun zz => nI (mha zz)) (fun zz => nI (mfi zz)) (fun zz => oI (mfa zz)) (fun zz => nI (mqu zz)) (fun zz => lN (mal zz)) (fun zz => nI (mta zz)) (fun zz => oI (mdi zz)) (fun zz => nI (mln zz)))) (mW cI cJ cB o kv kp kx kl kh ki kf kq ka kt kd kn (nI mpm) (nI mty) (nI mwi) (nI mhi) (nI mwa) (nI mle) (gI mgo) (nI mam) (bI mtm) (nI mli) (vF wd hd nb wl st sl gl aq lb sh bw bh ps) mpa (fun zz => nI (mtx zz)) (fun zz => nI (mlt zz)) (fun zz => nI (mha zz)) (fun zz => nI (mfi zz)) (fun zz => oI (mfa zz)) (fun zz => nI (mqu zz)) (fun zz => lN (mal zz)) (fun zz => nI (mta zz)) (fun zz => oI (mdi zz)) (fun zz => nI (mln zz))) := ⟨hD0.1, fun k q h => ⟨k, q.2, h⟩⟩
  generalize hAe : aW (mW cI cJ cB o kv kp kx kl kh ki kf kq ka kt kd kn (nI mpm) (nI mty) (nI mwi) (nI mhi) (nI mwa) (nI mle) (gI mgo) (nI mam) (bI mtm) (nI mli) (vF wd hd nb wl st sl gl aq lb sh bw bh ps) mpa (fun zz => nI (mtx zz)) (fun zz => nI (mlt zz)) (fun zz => nI (mha zz)) (fun zz => nI (mfi zz)) (fun zz => oI (mfa zz)) (fun zz => nI (mqu zz)) (fun zz => lN (mal zz)) (fun zz => nI (mta zz)) (fun zz => oI (mdi zz)) (fun zz => nI (mln zz))) = A at hD ⊢
  have hS : va_S A s.heap s.heap [] := va_S.rf
  have hl := lv_entry ([.ref o, .long (lN k), .int (gI bt)]) (n := 6) (Nat.le_of_ble_eq_true rfl)
  rw [lg_entry_eq]
  generalize (lg_sl ([.ref o, .long (lN k), .int (gI bt)]) ++ List.replicate (6 - (lg_sl ([.ref o, .long (lN k), .int (gI bt)])).length) Slot.unset).toArray = ls at hl ⊢
  have hl : lv_has ls 6 [(0, .ref o), (1, .long (lN k)), (3, .int (gI bt))] := hl
  generalize hav : ([.ref o, .long (lN k), .int (gI bt)] : List Value).toArray = args at hC ⊢
  refine W_gen (fun QQ hQ => ?_)
  show W p l e (rmN 1) s m args below meth c s.heap [] 0 0 QQ (F0 m 0 ls [])
  refine lv_aload_n hx hb dX8_taken_0 rfl (lv_at hl 0 rfl) ?_
  refine gf_X8_7 hC hK hP 0 rfl rfl dX8_taken_1 ?_
  refine lv_iconst (v := nI 3) hx hb dX8_taken_4 (by decide) ?_
  refine n_iald hx hb hK hP 1 0 rfl rfl (by omega) (by decide) dX8_taken_5 ?_
  refine topi (y := nI wl) rfl ?_
  refine lv_istore (lv' := [(4, .int (nI wl)), (0, .ref o), (1, .long (lN k)), (3, .int (gI bt))]) hx hb dX8_taken_6 hl (by decide) rfl (fun ls hl => ?_)
  refine lv_iconst (v := nI 0) hx hb dX8_taken_8 (by decide) ?_
  refine lv_istore (lv' := [(5, .int (nI 0)), (4, .int (nI wl)), (0, .ref o), (1, .long (lN k)), (3, .int (gI bt))]) hx hb dX8_taken_9 hl (by decide) rfl (fun ls hl => ?_)
  have L11 : ∀ (n : Nat) (b : Nat), (b ≤ nb) → (nb - b) < n → ∀ (H : Heap) (locs : List Loc), va_P D vwCl (mW cI cJ cB o kv kp kx kl kh ki kf kq ka kt kd kn (nI mpm) (nI mty) (nI mwi) (nI mhi) (nI mwa) (nI mle) (gI mgo) (nI mam) (bI mtm) (nI mli) (vF wd hd nb wl st sl gl aq lb sh bw bh ps) mpa (fun zz => nI (mtx zz)) (fun zz => nI (mlt zz)) (fun zz => nI (mha zz)) (fun zz => nI (mfi zz)) (fun zz => oI (mfa zz)) (fun zz => nI (mqu zz)) (fun zz => lN (mal zz)) (fun zz => nI (mta zz)) (fun zz => oI (mdi zz)) (fun zz => nI (mln zz))) H → va_D A (mW cI cJ cB o kv kp kx kl kh ki kf kq ka kt kd kn (nI mpm) (nI mty) (nI mwi) (nI mhi) (nI mwa) (nI mle) (gI mgo) (nI mam) (bI mtm) (nI mli) (vF wd hd nb wl st sl gl aq lb sh bw bh ps) mpa (fun zz => nI (mtx zz)) (fun zz => nI (mlt zz)) (fun zz => nI (mha zz)) (fun zz => nI (mfi zz)) (fun zz => oI (mfa zz)) (fun zz => nI (mqu zz)) (fun zz => lN (mal zz)) (fun zz => nI (mta zz)) (fun zz => oI (mdi zz)) (fun zz => nI (mln zz))) → va_S A s.heap H locs → ∀ ls : Array Slot, lv_has ls 6 [(4, .int (nI (tk wl sh k (exb mgo bt) b))), (5, .int (nI b)), (0, .ref o), (1, .long (lN k)), (3, .int (gI bt))] → W p l e (rmN 1) s m args below meth c H locs 0 0 QQ (F0 m 11 ls []) := by
    intro n; induction n with
    | zero => intro b ib hm; exact absurd hm (Nat.not_lt_zero _)
    | succ n ih11 =>
      intro b ib hm11 H locs hP hD hS ls hl
      refine lv_iload hx hb dX8_taken_11 (lv_at hl 1 rfl) ?_
      refine lv_aload_n hx hb dX8_taken_13 rfl (lv_at hl 2 rfl) ?_
      refine gf_X8_7 hC hK hP 0 rfl rfl dX8_taken_14 ?_
      refine lv_iconst (v := nI 2) hx hb dX8_taken_17 (by decide) ?_
      refine n_iald hx hb hK hP 1 0 rfl rfl (by omega) (by decide) dX8_taken_18 ?_
      refine topi (y := nI nb) rfl ?_
      refine n_icmp_ge (a := b) (b := nb) (tgt := 69) hx hb dX8_taken_19 (by decide) (by omega) (by omega) (fun c19 => ?_) (fun c19 => ?_)
      · have _ : True := trivial
        have e : b = nb := by omega
        subst e
        refine lv_iload hx hb dX8_taken_69 (lv_at hl 0 rfl) ?_
        rw [hQ]
        exact W.iret (v := nI (tk wl sh k (exb mgo bt) b)) hx hb hr (fun t9 ht hW => ⟨⟨_, _, rfl, ⟨rfl, rfl⟩, by rw [ht]; exact hP, rfl⟩, hS.F ht⟩) hS.2.2 dX8_taken_71
      · have _ : True := trivial
        refine lv_iload hx hb dX8_taken_22 (lv_at hl 0 rfl) ?_
        refine lv_iload hx hb dX8_taken_24 (lv_at hl 1 rfl) ?_
        refine lv_iload_n hx hb dX8_taken_26 rfl (lv_at hl 4 rfl) ?_
        refine g_icmp_eq (a := b) (x := bt) (tgt := 39) hx hb dX8_taken_27 (by decide) (by omega) hbt (fun c27 => ?_) (fun c27 => ?_)
        · have _ : True := trivial
          have he : exb mgo bt b = true := by simp [exb, c27]
          refine lv_iconst (v := nI 0) hx hb dX8_taken_39 (by decide) ?_
          refine lv_goto (tgt := 60) hx hb dX8_taken_40 (by decide) ?_
          refine n_ior hx hb dX8_taken_60  ?_
          refine topi (y := nI (tk wl sh k (exb mgo bt) (b + 1))) (tk_ex he) ?_
          refine lv_istore (lv' := [(4, .int (nI (tk wl sh k (exb mgo bt) (b + 1)))), (5, .int (nI b)), (0, .ref o), (1, .long (lN k)), (3, .int (gI bt))]) hx hb dX8_taken_61 hl (by decide) rfl (fun ls hl => ?_)
          refine lv_iinc (v := nI (b + 1)) (lv' := [(5, .int (nI (b + 1))), (4, .int (nI (tk wl sh k (exb mgo bt) (b + 1)))), (0, .ref o), (1, .long (lN k)), (3, .int (gI bt))]) hx hb dX8_taken_63 hl (k := 1) rfl (nI_1 _) (by decide) rfl (fun ls hl => ?_)
          refine lv_goto (tgt := 11) hx hb dX8_taken_66 (by decide) ?_
          exact ih11 (b + 1) (by omega) (by omega) _ _ hP hD hS _ (lv_sub hl [1, 0, 2, 3, 4] rfl)
        · have _ : True := trivial
          refine lv_iload hx hb dX8_taken_30 (lv_at hl 1 rfl) ?_
          refine lv_aload_n hx hb dX8_taken_32 rfl (lv_at hl 2 rfl) ?_
          refine gf_X8_28 hC hK hP 0 rfl rfl dX8_taken_33 ?_
          refine g_icmp_ne (a := b) (x := mgo) (tgt := 43) hx hb dX8_taken_36 (by decide) (by omega) hgo (fun c36 => ?_) (fun c36 => ?_)
          · have _ : True := trivial
            have he : exb mgo bt b = false := by simp [exb, c27, c36]
            refine lv_aload_n hx hb dX8_taken_43 rfl (lv_at hl 2 rfl) ?_
            refine gf_X8_7 hC hK hP 0 rfl rfl dX8_taken_44 ?_
            refine lv_bipush (v := nI 10) hx hb dX8_taken_47 (by decide) ?_
            refine lv_iload hx hb dX8_taken_49 (lv_at hl 1 rfl) ?_
            refine n_iadd hx hb dX8_taken_51  ?_
            refine n_iald hx hb hK hP 1 0 rfl rfl (by omega) (by decide) dX8_taken_52 ?_
            refine topi (y := nI (sh b)) (vF_sh (by omega)) ?_
            refine lv_lload_n hx hb dX8_taken_53 rfl (lv_at hl 3 rfl) ?_
            refine lv_iload hx hb dX8_taken_54 (lv_at hl 1 rfl) ?_
            refine callS_i (As := [.long (lN k), .int (nI b)]) (rest := [.int (nI (sh b)), .int (nI (tk wl sh k (exb mgo bt) b))]) [] hC hK hN hP hD rfl (by decide) hS (c_X8_placeIn l D cI cJ cB k b (by omega) (by omega)) q813 md_X8_placeIn rfl hl.1 rfl (Nat.le_of_ble_eq_true rfl) dX8_taken_56 ⟨Nat.le_of_ble_eq_true rfl, Nat.le_of_ble_eq_true rfl⟩ ⟨Nat.le_of_ble_eq_true rfl, Nat.le_of_ble_eq_true rfl⟩ (fun r_56 w H locs hpost hP hD hS => ?_)
            obtain ⟨rfl, rfl⟩ := hpost
            have hP : va_P D vwCl (mW cI cJ cB o kv kp kx kl kh ki kf kq ka kt kd kn (nI mpm) (nI mty) (nI mwi) (nI mhi) (nI mwa) (nI mle) (gI mgo) (nI mam) (bI mtm) (nI mli) (vF wd hd nb wl st sl gl aq lb sh bw bh ps) mpa (fun zz => nI (mtx zz)) (fun zz => nI (mlt zz)) (fun zz => nI (mha zz)) (fun zz => nI (mfi zz)) (fun zz => oI (mfa zz)) (fun zz => nI (mqu zz)) (fun zz => lN (mal zz)) (fun zz => nI (mta zz)) (fun zz => oI (mdi zz)) (fun zz => nI (mln zz))) H := hP
            have hD : va_D A (mW cI cJ cB o kv kp kx kl kh ki kf kq ka kt kd kn (nI mpm) (nI mty) (nI mwi) (nI mhi) (nI mwa) (nI mle) (gI mgo) (nI mam) (bI mtm) (nI mli) (vF wd hd nb wl st sl gl aq lb sh bw bh ps) mpa (fun zz => nI (mtx zz)) (fun zz => nI (mlt zz)) (fun zz => nI (mha zz)) (fun zz => nI (mfi zz)) (fun zz => oI (mfa zz)) (fun zz => nI (mqu zz)) (fun zz => lN (mal zz)) (fun zz => nI (mta zz)) (fun zz => oI (mdi zz)) (fun zz => nI (mln zz))) := hD
            refine n_ishl hx hb dX8_taken_59 (by have := plc_lt k b; omega) ?_
            refine n_ior hx hb dX8_taken_60  ?_
            refine topi (y := nI (tk wl sh k (exb mgo bt) (b + 1))) (tk_in he) ?_
            refine lv_istore (lv' := [(4, .int (nI (tk wl sh k (exb mgo bt) (b + 1)))), (5, .int (nI b)), (0, .ref o), (1, .long (lN k)), (3, .int (gI bt))]) hx hb dX8_taken_61 hl (by decide) rfl (fun ls hl => ?_)
            refine lv_iinc (v := nI (b + 1)) (lv' := [(5, .int (nI (b + 1))), (4, .int (nI (tk wl sh k (exb mgo bt) (b + 1)))), (0, .ref o), (1, .long (lN k)), (3, .int (gI bt))]) hx hb dX8_taken_63 hl (k := 1) rfl (nI_1 _) (by decide) rfl (fun ls hl => ?_)
            refine lv_goto (tgt := 11) hx hb dX8_taken_66 (by decide) ?_
            exact ih11 (b + 1) (by omega) (by omega) _ _ hP hD hS _ (lv_sub hl [1, 0, 2, 3, 4] rfl)
          · have _ : True := trivial
            have he : exb mgo bt b = true := by simp [exb, c36]
            refine lv_iconst (v := nI 0) hx hb dX8_taken_39 (by decide) ?_
            refine lv_goto (tgt := 60) hx hb dX8_taken_40 (by decide) ?_
            refine n_ior hx hb dX8_taken_60  ?_
            refine topi (y := nI (tk wl sh k (exb mgo bt) (b + 1))) (tk_ex he) ?_
            refine lv_istore (lv' := [(4, .int (nI (tk wl sh k (exb mgo bt) (b + 1)))), (5, .int (nI b)), (0, .ref o), (1, .long (lN k)), (3, .int (gI bt))]) hx hb dX8_taken_61 hl (by decide) rfl (fun ls hl => ?_)
            refine lv_iinc (v := nI (b + 1)) (lv' := [(5, .int (nI (b + 1))), (4, .int (nI (tk wl sh k (exb mgo bt) (b + 1)))), (0, .ref o), (1, .long (lN k)), (3, .int (gI bt))]) hx hb dX8_taken_63 hl (k := 1) rfl (nI_1 _) (by decide) rfl (fun ls hl => ?_)
            refine lv_goto (tgt := 11) hx hb dX8_taken_66 (by decide) ?_
            exact ih11 (b + 1) (by omega) (by omega) _ _ hP hD hS _ (lv_sub hl [1, 0, 2, 3, 4] rfl)
  exact L11 _ 0 (by omega) (Nat.lt_succ_self _) _ _ hP hD hS _ (lv_sub hl [1, 0, 2, 3, 4] rfl)

set_option maxHeartbeats 400000 in
set_option maxRecDepth 100000 in
theorem c_X8_many (l : Launch) (D : va_G) (cI cJ cB : ClassId) (x : Nat) (hx0 : x < 2 ^ 31) : Met l yX8_many (Cond.code yX8_many cX8_many 3 (some .int) :: lw_all) (rmN 0) (va_Pc [.int (nI x)] (pB D (tyz cI cJ cB) ([] : va_W))) (va_Qi (fun (r : Int32) (w : va_W) => r = nI (cnt x 24) ∧ w = []) (gB D ([] : va_W)) (aW ([] : va_W))) 0 0 (aW ([] : va_W)) := by
  refine Met.ofW (cc := cX8_many) (maxL := 3) (ret := (some .int)) (by decide) rfl ?_
  intro p e s m args below meth c s₁ B hml hv
  obtain ⟨rfl, hK, hN, hP, hD0⟩ := hv
  have hx := B.exec; have hb := B.bytes; have hr := B.returns; have hlocks := B.notSynchronized
  have hts0 := atoms_spec (ws := Cond.code yX8_many cX8_many 3 (some .int) :: lw_all) B.pre
  have hC : CallFix p m c cX8_many 3 s _ lw_all RX8 := ⟨hx, hb, hml, findClass_of_methodNamed B.named, fun w h => hts0 w (List.mem_cons_of_mem _ h)⟩
  have hD : va_D (aW ([] : va_W)) ([] : va_W) := ⟨hD0.1, fun k q h => ⟨k, q.2, h⟩⟩
  generalize hAe : aW ([] : va_W) = A at hD ⊢
  have hS : va_S A s.heap s.heap [] := va_S.rf
  have hl := lv_entry ([.int (nI x)]) (n := 3) (Nat.le_of_ble_eq_true rfl)
  rw [lg_entry_eq]
  generalize (lg_sl ([.int (nI x)]) ++ List.replicate (3 - (lg_sl ([.int (nI x)])).length) Slot.unset).toArray = ls at hl ⊢
  have hl : lv_has ls 3 [(0, .int (nI x))] := hl
  generalize hav : ([.int (nI x)] : List Value).toArray = args at hC ⊢
  refine W_gen (fun QQ hQ => ?_)
  show W p l e (rmN 0) s m args below meth c s.heap [] 0 0 QQ (F0 m 0 ls [])
  refine lv_iconst (v := nI 0) hx hb dX8_many_0 (by decide) ?_
  refine topi (y := nI (cnt x 0)) rfl ?_
  refine lv_istore_n (lv' := [(1, .int (nI (cnt x 0))), (0, .int (nI x))]) hx hb dX8_many_1 rfl hl (by decide) rfl (fun ls hl => ?_)
  refine lv_iconst (v := nI 0) hx hb dX8_many_2 (by decide) ?_
  refine lv_istore_n (lv' := [(2, .int (nI 0)), (1, .int (nI (cnt x 0))), (0, .int (nI x))]) hx hb dX8_many_3 rfl hl (by decide) rfl (fun ls hl => ?_)
  have L4 : ∀ (n : Nat) (i : Nat), (i ≤ 24) → (24 - i) < n → ∀ (H : Heap) (locs : List Loc), va_P D vwCl ([] : va_W) H → va_D A ([] : va_W) → va_S A s.heap H locs → ∀ ls : Array Slot, lv_has ls 3 [(1, .int (nI (cnt x i))), (2, .int (nI i)), (0, .int (nI x))] → W p l e (rmN 0) s m args below meth c H locs 0 0 QQ (F0 m 4 ls []) := by
    intro n; induction n with
    | zero => intro i ii hm; exact absurd hm (Nat.not_lt_zero _)
    | succ n ih4 =>
      intro i ii hm4 H locs hP hD hS ls hl
      refine lv_iload_n hx hb dX8_many_4 rfl (lv_at hl 1 rfl) ?_
      refine lv_bipush (v := nI 24) hx hb dX8_many_5 (by decide) ?_
      refine n_icmp_ge (a := i) (b := 24) (tgt := 24) hx hb dX8_many_7 (by decide) (by omega) (by omega) (fun c7 => ?_) (fun c7 => ?_)
      · have _ : True := trivial
        have e : i = 24 := by omega
        refine lv_iload_n hx hb dX8_many_24 rfl (lv_at hl 0 rfl) ?_
        rw [hQ]
        exact W.iret (v := nI (cnt x i)) hx hb hr (fun t9 ht hW => ⟨⟨_, _, rfl, ⟨(by rw [e]), rfl⟩, by rw [ht]; exact hP, rfl⟩, hS.F ht⟩) hS.2.2 dX8_many_25
      · have _ : True := trivial
        refine lv_iload_n hx hb dX8_many_10 rfl (lv_at hl 0 rfl) ?_
        refine lv_iload_n hx hb dX8_many_11 rfl (lv_at hl 2 rfl) ?_
        refine lv_iload_n hx hb dX8_many_12 rfl (lv_at hl 1 rfl) ?_
        refine n_ishr hx hb dX8_many_13 (by omega) (by omega) ?_
        refine lv_iconst (v := nI 1) hx hb dX8_many_14 (by decide) ?_
        refine n_iand hx hb dX8_many_15  ?_
        refine n_iadd hx hb dX8_many_16  ?_
        refine topi (y := nI (cnt x (i + 1))) (cnt_s x i) ?_
        refine lv_istore_n (lv' := [(1, .int (nI (cnt x (i + 1)))), (2, .int (nI i)), (0, .int (nI x))]) hx hb dX8_many_17 rfl hl (by decide) rfl (fun ls hl => ?_)
        refine lv_iinc (v := nI (i + 1)) (lv' := [(2, .int (nI (i + 1))), (1, .int (nI (cnt x (i + 1)))), (0, .int (nI x))]) hx hb dX8_many_18 hl (k := 1) rfl (nI_1 _) (by decide) rfl (fun ls hl => ?_)
        refine lv_goto (tgt := 4) hx hb dX8_many_21 (by decide) ?_
        exact ih4 (i + 1) (by omega) (by omega) _ _ hP hD hS _ (lv_sub hl [1, 0, 2] rfl)
  exact L4 _ 0 (by omega) (Nat.lt_succ_self _) _ _ hP hD hS _ (lv_sub hl [1, 0, 2] rfl)
