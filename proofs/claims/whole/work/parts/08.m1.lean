set_option maxHeartbeats 4000000 in
set_option maxRecDepth 100000 in
theorem c_X8_in (l : Launch) (D : va_G) (cI cJ cB : ClassId) (x lo hi : Int32)  : Met l yX8_in (Cond.code yX8_in cX8_in 3 (some .boolean) :: lw_all) (rmN 0) (va_Pc [.int x, .int lo, .int hi] (pB D (tyz cI cJ cB) ([] : va_W))) (va_Qi (fun (r : Int32) (w : va_W) => r = bI (decide (lo ≤ x) && decide (x ≤ hi)) ∧ w = []) (gB D ([] : va_W)) (aW ([] : va_W))) 0 0 (aW ([] : va_W)) := by
  refine Met.ofW (cc := cX8_in) (maxL := 3) (ret := (some .boolean)) (by decide) rfl ?_
  intro p e s m args below meth c s₁ B hml hv
  obtain ⟨rfl, hK, hN, hP, hD0⟩ := hv
  have hx := B.exec; have hb := B.bytes; have hr := B.returns; have hlocks := B.notSynchronized
  have hts0 := atoms_spec (ws := Cond.code yX8_in cX8_in 3 (some .boolean) :: lw_all) B.pre
  have hC : CallFix p m c cX8_in 3 s _ lw_all RX8 := ⟨hx, hb, hml, findClass_of_methodNamed B.named, fun w h => hts0 w (List.mem_cons_of_mem _ h)⟩
  have hD : va_D (aW ([] : va_W)) ([] : va_W) := ⟨hD0.1, fun k q h => ⟨k, q.2, h⟩⟩
  generalize hAe : aW ([] : va_W) = A at hD ⊢
  have hS : va_S A s.heap s.heap [] := va_S.rf
  have hl := lv_entry ([.int x, .int lo, .int hi]) (n := 3) (Nat.le_of_ble_eq_true rfl)
  rw [lg_entry_eq]
  generalize (lg_sl ([.int x, .int lo, .int hi]) ++ List.replicate (3 - (lg_sl ([.int x, .int lo, .int hi])).length) Slot.unset).toArray = ls at hl ⊢
  have hl : lv_has ls 3 [(0, .int x), (1, .int lo), (2, .int hi)] := hl
  refine lv_iload_n hx hb dX8_in_0 rfl (lv_at hl 0 rfl) ?_
  refine lv_iload_n hx hb dX8_in_1 rfl (lv_at hl 1 rfl) ?_
  refine lv_icmp_lt (tgt := 14) hx hb dX8_in_2 (by decide) (fun c2 => ?_) (fun c2 => ?_)
  · have _ : True := trivial
    have h14 : x < lo ∨ hi < x := Or.inl c2
    refine lv_iconst (v := nI 0) hx hb dX8_in_14 (by decide) ?_
    refine topi (y := bI (decide (lo ≤ x) && decide (x ≤ hi))) (bi_in0 h14) ?_
    exact W.zret (v := bI (decide (lo ≤ x) && decide (x ≤ hi))) hx hb hr (by cases (decide (lo ≤ x) && decide (x ≤ hi)) <;> rfl) (fun t ht hW => ⟨⟨_, _, rfl, ⟨rfl, rfl⟩, by rw [ht]; exact hP, rfl⟩, hS.F ht⟩) hS.2.2 dX8_in_15
  · have _ : True := trivial
    refine lv_iload_n hx hb dX8_in_5 rfl (lv_at hl 0 rfl) ?_
    refine lv_iload_n hx hb dX8_in_6 rfl (lv_at hl 2 rfl) ?_
    refine lv_icmp_gt (tgt := 14) hx hb dX8_in_7 (by decide) (fun c7 => ?_) (fun c7 => ?_)
    · have _ : True := trivial
      have h14 : x < lo ∨ hi < x := Or.inr c7
      refine lv_iconst (v := nI 0) hx hb dX8_in_14 (by decide) ?_
      refine topi (y := bI (decide (lo ≤ x) && decide (x ≤ hi))) (bi_in0 h14) ?_
      exact W.zret (v := bI (decide (lo ≤ x) && decide (x ≤ hi))) hx hb hr (by cases (decide (lo ≤ x) && decide (x ≤ hi)) <;> rfl) (fun t ht hW => ⟨⟨_, _, rfl, ⟨rfl, rfl⟩, by rw [ht]; exact hP, rfl⟩, hS.F ht⟩) hS.2.2 dX8_in_15
    · have _ : True := trivial
      refine lv_iconst (v := nI 1) hx hb dX8_in_10 (by decide) ?_
      refine topi (y := bI (decide (lo ≤ x) && decide (x ≤ hi))) (bi_in1 c2 c7) ?_
      refine lv_goto (tgt := 15) hx hb dX8_in_11 (by decide) ?_
      exact W.zret (v := bI (decide (lo ≤ x) && decide (x ≤ hi))) hx hb hr (by cases (decide (lo ≤ x) && decide (x ≤ hi)) <;> rfl) (fun t ht hW => ⟨⟨_, _, rfl, ⟨rfl, rfl⟩, by rw [ht]; exact hP, rfl⟩, hS.F ht⟩) hS.2.2 dX8_in_15

set_option maxHeartbeats 4000000 in
set_option maxRecDepth 100000 in
theorem c_X8_cells (l : Launch) (D : va_G) (cI cJ cB : ClassId) (o kv kp kx kl kh ki kf kq ka kt kd kn : Nat) (mpm mty mwi mhi mwa mle mgo mam mtm mli : Int32) (mpa mtx mlt mha mfi mfa mqu mta mdi mln : Nat → Int32) (mal : Nat → Int64) (wd hd nb wl : Nat) (st sl : Int32) (gl : Option Nat) (am la : Int32) (sh bw bh ps : Nat → Nat)  : Met l yX8_cells (Cond.code yX8_cells cX8_cells 1 (some .int) :: lw_all) (rmN 0) (va_Pc [.ref o] (pB D (tyz cI cJ cB) (mW cI cJ cB o kv kp kx kl kh ki kf kq ka kt kd kn mpm mty mwi mhi mwa mle mgo mam mtm mli (vF wd hd nb wl st sl gl am la sh bw bh ps) mpa mtx mlt mha mfi mfa mqu mal mta mdi mln))) (va_Qi (fun (r : Int32) (w : va_W) => r = nI (wd * hd) ∧ w = mW cI cJ cB o kv kp kx kl kh ki kf kq ka kt kd kn mpm mty mwi mhi mwa mle mgo mam mtm mli (vF wd hd nb wl st sl gl am la sh bw bh ps) mpa mtx mlt mha mfi mfa mqu mal mta mdi mln) (gB D (mW cI cJ cB o kv kp kx kl kh ki kf kq ka kt kd kn mpm mty mwi mhi mwa mle mgo mam mtm mli (vF wd hd nb wl st sl gl am la sh bw bh ps) mpa mtx mlt mha mfi mfa mqu mal mta mdi mln)) (aW (mW cI cJ cB o kv kp kx kl kh ki kf kq ka kt kd kn mpm mty mwi mhi mwa mle mgo mam mtm mli (vF wd hd nb wl st sl gl am la sh bw bh ps) mpa mtx mlt mha mfi mfa mqu mal mta mdi mln))) 0 0 (aW (mW cI cJ cB o kv kp kx kl kh ki kf kq ka kt kd kn mpm mty mwi mhi mwa mle mgo mam mtm mli (vF wd hd nb wl st sl gl am la sh bw bh ps) mpa mtx mlt mha mfi mfa mqu mal mta mdi mln)) := by
  refine Met.ofW (cc := cX8_cells) (maxL := 1) (ret := (some .int)) (by decide) rfl ?_
  intro p e s m args below meth c s₁ B hml hv
  obtain ⟨rfl, hK, hN, hP, hD0⟩ := hv
  have hx := B.exec; have hb := B.bytes; have hr := B.returns; have hlocks := B.notSynchronized
  have hts0 := atoms_spec (ws := Cond.code yX8_cells cX8_cells 1 (some .int) :: lw_all) B.pre
  have hC : CallFix p m c cX8_cells 1 s _ lw_all RX8 := ⟨hx, hb, hml, findClass_of_methodNamed B.named, fun w h => hts0 w (List.mem_cons_of_mem _ h)⟩
  have hD : va_D (aW (mW cI cJ cB o kv kp kx kl kh ki kf kq ka kt kd kn mpm mty mwi mhi mwa mle mgo mam mtm mli (vF wd hd nb wl st sl gl am la sh bw bh ps) mpa mtx mlt mha mfi mfa mqu mal mta mdi mln)) (mW cI cJ cB o kv kp kx kl kh ki kf kq ka kt kd kn mpm mty mwi mhi mwa mle mgo mam mtm mli (vF wd hd nb wl st sl gl am la sh bw bh ps) mpa mtx mlt mha mfi mfa mqu mal mta mdi mln) := ⟨hD0.1, fun k q h => ⟨k, q.2, h⟩⟩
  generalize hAe : aW (mW cI cJ cB o kv kp kx kl kh ki kf kq ka kt kd kn mpm mty mwi mhi mwa mle mgo mam mtm mli (vF wd hd nb wl st sl gl am la sh bw bh ps) mpa mtx mlt mha mfi mfa mqu mal mta mdi mln) = A at hD ⊢
  have hS : va_S A s.heap s.heap [] := va_S.rf
  have hl := lv_entry ([.ref o]) (n := 1) (Nat.le_of_ble_eq_true rfl)
  rw [lg_entry_eq]
  generalize (lg_sl ([.ref o]) ++ List.replicate (1 - (lg_sl ([.ref o])).length) Slot.unset).toArray = ls at hl ⊢
  have hl : lv_has ls 1 [(0, .ref o)] := hl
  refine lv_aload_n hx hb dX8_cells_0 rfl (lv_at hl 0 rfl) ?_
  refine gf_X8_7 hC hK hP 0 rfl rfl dX8_cells_1 ?_
  refine lv_iconst (v := nI 0) hx hb dX8_cells_4 (by decide) ?_
  refine n_iald hx hb hK hP 1 0 rfl rfl (by omega) (by decide) dX8_cells_5 ?_
  refine topi (y := nI wd) rfl ?_
  refine lv_aload_n hx hb dX8_cells_6 rfl (lv_at hl 0 rfl) ?_
  refine gf_X8_7 hC hK hP 0 rfl rfl dX8_cells_7 ?_
  refine lv_iconst (v := nI 1) hx hb dX8_cells_10 (by decide) ?_
  refine n_iald hx hb hK hP 1 0 rfl rfl (by omega) (by decide) dX8_cells_11 ?_
  refine topi (y := nI hd) rfl ?_
  refine n_imul hx hb dX8_cells_12  ?_
  exact W.iret (v := nI (wd * hd)) hx hb hr (fun t ht hW => ⟨⟨_, _, rfl, ⟨rfl, rfl⟩, by rw [ht]; exact hP, rfl⟩, hS.F ht⟩) hS.2.2 dX8_cells_13

set_option maxHeartbeats 4000000 in
set_option maxRecDepth 100000 in
theorem c_X8_isBlock (l : Launch) (D : va_G) (cI cJ cB : ClassId) (o kv kp kx kl kh ki kf kq ka kt kd kn : Nat) (mpm mty mwi mhi mwa mle mgo mam mtm mli : Int32) (mpa mtx mlt mha mfi mfa mqu mta mdi mln : Nat → Int32) (mal : Nat → Int64) (wd hd nb wl : Nat) (st sl : Int32) (gl : Option Nat) (am la : Int32) (sh bw bh ps : Nat → Nat) (x : Int32)  : Met l yX8_isBlock (Cond.code yX8_isBlock cX8_isBlock 2 (some .boolean) :: lw_all) (rmN 1) (va_Pc [.ref o, .int x] (pB D (tyz cI cJ cB) (mW cI cJ cB o kv kp kx kl kh ki kf kq ka kt kd kn mpm mty mwi mhi mwa mle mgo mam mtm mli (vF wd hd nb wl st sl gl am la sh bw bh ps) mpa mtx mlt mha mfi mfa mqu mal mta mdi mln))) (va_Qi (fun (r : Int32) (w : va_W) => r = bI (decide (nI 0 ≤ x) && decide (x ≤ nI nb - nI 1)) ∧ w = mW cI cJ cB o kv kp kx kl kh ki kf kq ka kt kd kn mpm mty mwi mhi mwa mle mgo mam mtm mli (vF wd hd nb wl st sl gl am la sh bw bh ps) mpa mtx mlt mha mfi mfa mqu mal mta mdi mln) (gB D (mW cI cJ cB o kv kp kx kl kh ki kf kq ka kt kd kn mpm mty mwi mhi mwa mle mgo mam mtm mli (vF wd hd nb wl st sl gl am la sh bw bh ps) mpa mtx mlt mha mfi mfa mqu mal mta mdi mln)) (aW (mW cI cJ cB o kv kp kx kl kh ki kf kq ka kt kd kn mpm mty mwi mhi mwa mle mgo mam mtm mli (vF wd hd nb wl st sl gl am la sh bw bh ps) mpa mtx mlt mha mfi mfa mqu mal mta mdi mln))) 0 0 (aW (mW cI cJ cB o kv kp kx kl kh ki kf kq ka kt kd kn mpm mty mwi mhi mwa mle mgo mam mtm mli (vF wd hd nb wl st sl gl am la sh bw bh ps) mpa mtx mlt mha mfi mfa mqu mal mta mdi mln)) := by
  refine Met.ofW (cc := cX8_isBlock) (maxL := 2) (ret := (some .boolean)) (by decide) rfl ?_
  intro p e s m args below meth c s₁ B hml hv
  obtain ⟨rfl, hK, hN, hP, hD0⟩ := hv
  have hx := B.exec; have hb := B.bytes; have hr := B.returns; have hlocks := B.notSynchronized
  have hts0 := atoms_spec (ws := Cond.code yX8_isBlock cX8_isBlock 2 (some .boolean) :: lw_all) B.pre
  have hC : CallFix p m c cX8_isBlock 2 s _ lw_all RX8 := ⟨hx, hb, hml, findClass_of_methodNamed B.named, fun w h => hts0 w (List.mem_cons_of_mem _ h)⟩
  have hD : va_D (aW (mW cI cJ cB o kv kp kx kl kh ki kf kq ka kt kd kn mpm mty mwi mhi mwa mle mgo mam mtm mli (vF wd hd nb wl st sl gl am la sh bw bh ps) mpa mtx mlt mha mfi mfa mqu mal mta mdi mln)) (mW cI cJ cB o kv kp kx kl kh ki kf kq ka kt kd kn mpm mty mwi mhi mwa mle mgo mam mtm mli (vF wd hd nb wl st sl gl am la sh bw bh ps) mpa mtx mlt mha mfi mfa mqu mal mta mdi mln) := ⟨hD0.1, fun k q h => ⟨k, q.2, h⟩⟩
  generalize hAe : aW (mW cI cJ cB o kv kp kx kl kh ki kf kq ka kt kd kn mpm mty mwi mhi mwa mle mgo mam mtm mli (vF wd hd nb wl st sl gl am la sh bw bh ps) mpa mtx mlt mha mfi mfa mqu mal mta mdi mln) = A at hD ⊢
  have hS : va_S A s.heap s.heap [] := va_S.rf
  have hl := lv_entry ([.ref o, .int x]) (n := 2) (Nat.le_of_ble_eq_true rfl)
  rw [lg_entry_eq]
  generalize (lg_sl ([.ref o, .int x]) ++ List.replicate (2 - (lg_sl ([.ref o, .int x])).length) Slot.unset).toArray = ls at hl ⊢
  have hl : lv_has ls 2 [(0, .ref o), (1, .int x)] := hl
  refine lv_iload_n hx hb dX8_isBlock_0 rfl (lv_at hl 1 rfl) ?_
  refine lv_iconst (v := nI 0) hx hb dX8_isBlock_1 (by decide) ?_
  refine lv_aload_n hx hb dX8_isBlock_2 rfl (lv_at hl 0 rfl) ?_
  refine gf_X8_7 hC hK hP 0 rfl rfl dX8_isBlock_3 ?_
  refine lv_iconst (v := nI 2) hx hb dX8_isBlock_6 (by decide) ?_
  refine n_iald hx hb hK hP 1 0 rfl rfl (by omega) (by decide) dX8_isBlock_7 ?_
  refine topi (y := nI nb) rfl ?_
  refine lv_iconst (v := nI 1) hx hb dX8_isBlock_8 (by decide) ?_
  refine lv_isub hx hb dX8_isBlock_9 ?_
  refine callS_i (As := [.int x, .int (nI 0), .int ((nI nb) - (nI 1))]) (rest := []) [] hC hK hN hP hD rfl (by decide) hS (c_X8_in l D cI cJ cB x (nI 0) ((nI nb) - (nI 1)) ) q750 md_X8_in rfl hl.1 rfl (Nat.le_of_ble_eq_true rfl) dX8_isBlock_10 ⟨Nat.le_of_ble_eq_true rfl, Nat.le_of_ble_eq_true rfl⟩ ⟨Nat.le_of_ble_eq_true rfl, Nat.le_of_ble_eq_true rfl⟩ (fun r w H locs hpost hP hD hS => ?_)
  obtain ⟨rfl, rfl⟩ := hpost
  have hP : va_P D vwCl (mW cI cJ cB o kv kp kx kl kh ki kf kq ka kt kd kn mpm mty mwi mhi mwa mle mgo mam mtm mli (vF wd hd nb wl st sl gl am la sh bw bh ps) mpa mtx mlt mha mfi mfa mqu mal mta mdi mln) H := hP
  have hD : va_D A (mW cI cJ cB o kv kp kx kl kh ki kf kq ka kt kd kn mpm mty mwi mhi mwa mle mgo mam mtm mli (vF wd hd nb wl st sl gl am la sh bw bh ps) mpa mtx mlt mha mfi mfa mqu mal mta mdi mln) := hD
  exact W.zret (v := bI (decide ((nI 0) ≤ x) && decide (x ≤ ((nI nb) - (nI 1))))) hx hb hr (by cases (decide ((nI 0) ≤ x) && decide (x ≤ ((nI nb) - (nI 1)))) <;> rfl) (fun t ht hW => ⟨⟨_, _, rfl, ⟨rfl, rfl⟩, by rw [ht]; exact hP, rfl⟩, hS.F ht⟩) hS.2.2 dX8_isBlock_13

set_option maxHeartbeats 4000000 in
set_option maxRecDepth 100000 in
theorem c_X8_placeIn (l : Launch) (D : va_G) (cI cJ cB : ClassId) (k b : Nat) (hk : k < 2 ^ 35) (hb7 : b < 7) : Met l yX8_placeIn (Cond.code yX8_placeIn cX8_placeIn 3 (some .int) :: lw_all) (rmN 0) (va_Pc [.long (lN k), .int (nI b)] (pB D (tyz cI cJ cB) ([] : va_W))) (va_Qi (fun (r : Int32) (w : va_W) => r = nI (plc k b) ∧ w = []) (gB D ([] : va_W)) (aW ([] : va_W))) 0 0 (aW ([] : va_W)) := by
  refine Met.ofW (cc := cX8_placeIn) (maxL := 3) (ret := (some .int)) (by decide) rfl ?_
  intro p e s m args below meth c s₁ B hml hv
  obtain ⟨rfl, hK, hN, hP, hD0⟩ := hv
  have hx := B.exec; have hb := B.bytes; have hr := B.returns; have hlocks := B.notSynchronized
  have hts0 := atoms_spec (ws := Cond.code yX8_placeIn cX8_placeIn 3 (some .int) :: lw_all) B.pre
  have hC : CallFix p m c cX8_placeIn 3 s _ lw_all RX8 := ⟨hx, hb, hml, findClass_of_methodNamed B.named, fun w h => hts0 w (List.mem_cons_of_mem _ h)⟩
  have hD : va_D (aW ([] : va_W)) ([] : va_W) := ⟨hD0.1, fun k q h => ⟨k, q.2, h⟩⟩
  generalize hAe : aW ([] : va_W) = A at hD ⊢
  have hS : va_S A s.heap s.heap [] := va_S.rf
  have hl := lv_entry ([.long (lN k), .int (nI b)]) (n := 3) (Nat.le_of_ble_eq_true rfl)
  rw [lg_entry_eq]
  generalize (lg_sl ([.long (lN k), .int (nI b)]) ++ List.replicate (3 - (lg_sl ([.long (lN k), .int (nI b)])).length) Slot.unset).toArray = ls at hl ⊢
  have hl : lv_has ls 3 [(0, .long (lN k)), (2, .int (nI b))] := hl
  refine lv_lload_n hx hb dX8_placeIn_0 rfl (lv_at hl 0 rfl) ?_
  refine lv_iconst (v := nI 5) hx hb dX8_placeIn_1 (by decide) ?_
  refine lv_bipush (v := nI 6) hx hb dX8_placeIn_2 (by decide) ?_
  refine lv_iload_n hx hb dX8_placeIn_4 rfl (lv_at hl 1 rfl) ?_
  refine n_isub hx hb dX8_placeIn_5 (by omega) ?_
  refine n_imul hx hb dX8_placeIn_6  ?_
  refine n_lshr hx hb dX8_placeIn_7 (by omega) (by omega) ?_
  refine lv_l2i (v := nI (k / 2 ^ (5 * (6 - b)))) hx hb dX8_placeIn_8 (lN_i _) ?_
  refine lv_bipush (v := nI 31) hx hb dX8_placeIn_9 (by decide) ?_
  refine n_iand hx hb dX8_placeIn_11  ?_
  refine topi (y := nI (plc k b)) (by unfold plc; rw [nI_and31]) ?_
  exact W.iret (v := nI (plc k b)) hx hb hr (fun t ht hW => ⟨⟨_, _, rfl, ⟨rfl, rfl⟩, by rw [ht]; exact hP, rfl⟩, hS.F ht⟩) hS.2.2 dX8_placeIn_12

set_option maxHeartbeats 4000000 in
set_option maxRecDepth 100000 in
theorem c_X8_with (l : Launch) (D : va_G) (cI cJ cB : ClassId) (k b q : Nat) (hb7 : b < 7) (hq : q < 32) : Met l yX8_with (Cond.code yX8_with cX8_with 5 (some .long) :: lw_all) (rmN 0) (va_Pc [.long (lN k), .int (nI b), .int (nI q)] (pB D (tyz cI cJ cB) ([] : va_W))) (va_Ql (fun (r : Int64) (w : va_W) => r = lN (wth k b q) ∧ w = []) (gB D ([] : va_W)) (aW ([] : va_W))) 0 0 (aW ([] : va_W)) := by
  refine Met.ofW (cc := cX8_with) (maxL := 5) (ret := (some .long)) (by decide) rfl ?_
  intro p e s m args below meth c s₁ B hml hv
  obtain ⟨rfl, hK, hN, hP, hD0⟩ := hv
  have hx := B.exec; have hb := B.bytes; have hr := B.returns; have hlocks := B.notSynchronized
  have hts0 := atoms_spec (ws := Cond.code yX8_with cX8_with 5 (some .long) :: lw_all) B.pre
  have hC : CallFix p m c cX8_with 5 s _ lw_all RX8 := ⟨hx, hb, hml, findClass_of_methodNamed B.named, fun w h => hts0 w (List.mem_cons_of_mem _ h)⟩
  have hD : va_D (aW ([] : va_W)) ([] : va_W) := ⟨hD0.1, fun k q h => ⟨k, q.2, h⟩⟩
  generalize hAe : aW ([] : va_W) = A at hD ⊢
  have hS : va_S A s.heap s.heap [] := va_S.rf
  have hl := lv_entry ([.long (lN k), .int (nI b), .int (nI q)]) (n := 5) (Nat.le_of_ble_eq_true rfl)
  rw [lg_entry_eq]
  generalize (lg_sl ([.long (lN k), .int (nI b), .int (nI q)]) ++ List.replicate (5 - (lg_sl ([.long (lN k), .int (nI b), .int (nI q)])).length) Slot.unset).toArray = ls at hl ⊢
  have hl : lv_has ls 5 [(0, .long (lN k)), (2, .int (nI b)), (3, .int (nI q))] := hl
  refine lv_iconst (v := nI 5) hx hb dX8_with_0 (by decide) ?_
  refine lv_bipush (v := nI 6) hx hb dX8_with_1 (by decide) ?_
  refine lv_iload_n hx hb dX8_with_3 rfl (lv_at hl 1 rfl) ?_
  refine n_isub hx hb dX8_with_4 (by omega) ?_
  refine n_imul hx hb dX8_with_5  ?_
  refine lv_istore (lv' := [(4, .int (nI (5 * (6 - b)))), (0, .long (lN k)), (2, .int (nI b)), (3, .int (nI q))]) hx hb dX8_with_6 hl (by decide) rfl (fun ls hl => ?_)
  refine lv_lload_n hx hb dX8_with_8 rfl (lv_at hl 1 rfl) ?_
  refine lv_ldc2 (v := lN 31) hx hb hC.2.2.2.1 (hC.2.2.2.2 _ q807) dX8_with_9 ?_
  refine lv_iload hx hb dX8_with_12 (lv_at hl 0 rfl) ?_
  refine n_lshl hx hb dX8_with_14 (by omega) ?_
  refine lv_ldc2 (v := (-1)) hx hb hC.2.2.2.1 (hC.2.2.2.2 _ q808) dX8_with_15 ?_
  refine lv_lxor hx hb dX8_with_18 ?_
  refine n_landn hx hb dX8_with_19 ?_
  refine lv_iload_n hx hb dX8_with_20 rfl (lv_at hl 3 rfl) ?_
  refine lv_i2l (v := lN q) hx hb dX8_with_21 (nI_l (by omega)) ?_
  refine lv_iload hx hb dX8_with_22 (lv_at hl 0 rfl) ?_
  refine n_lshl hx hb dX8_with_24 (by omega) ?_
  refine n_lor hx hb dX8_with_25 ?_
  refine topl (y := lN (wth k b q)) (by rw [wth_or hq]) ?_
  exact W.lret (v := lN (wth k b q)) hx hb hr (fun t ht hW => ⟨⟨_, _, rfl, ⟨rfl, rfl⟩, by rw [ht]; exact hP, rfl⟩, hS.F ht⟩) hS.2.2 dX8_with_26
