/-! ===== p24: cell, up, fits, frame (written by w4.py) ===== -/
theorem and1 (x : Int32) : ∃ j, j < 2 ∧ x &&& nI 1 = nI j := by
  have e : x = nI x.toBitVec.toNat := nI_inj32 (by rw [nI_tn]; exact (Nat.mod_eq_of_lt x.toBitVec.isLt).symm)
  refine ⟨x.toBitVec.toNat &&& 1, ?_, ?_⟩
  · have := @Nat.and_le_right x.toBitVec.toNat 1
    omega
  · rw [← nI_and, ← e]
theorem and31 (x : Int32) : ∃ j, j < 2 ^ 31 ∧ x &&& nI 2147483647 = nI j := by
  have e : x = nI x.toBitVec.toNat := nI_inj32 (by rw [nI_tn]; exact (Nat.mod_eq_of_lt x.toBitVec.isLt).symm)
  refine ⟨x.toBitVec.toNat &&& 2147483647, ?_, ?_⟩
  · have := @Nat.and_le_right x.toBitVec.toNat 2147483647
    omega
  · rw [← nI_and, ← e]
theorem fit_s {G : Nat → Nat} {wd x y w j : Nat} {z : Bool} (h : z = true → ∀ i, i < j → G (pcl wd x y w i) = 0) (h2 : G (pcl wd x y w j) = 0) : z = true → ∀ i, i < j + 1 → G (pcl wd x y w i) = 0 := fun hz => lt_s (h hz) h2
set_option maxHeartbeats 4000000 in
set_option maxRecDepth 100000 in
theorem c_L_cell (l : Launch) (D : va_G) (cI cJ cB : ClassId) {b0 L0 : Nat} {xs : Nat → Int32} {k : Nat} {ws : va_W} (sz : Nat) (hk : k < 2 ^ 20) (hL0 : L0 ≤ 260) : Met l yL_cell (Cond.code yL_cell cL_cell 2 (some .int) :: lw_all) (rmC 1 0 0) (va_Pc [.ref b0, .int (nI k)] (pL D (tyz cI cJ cB) ws sz b0 L0 xs)) (va_Qi (fun (r : Int32) (w : va_W) => True) (nB D (va_A ws sz)) (va_A ws sz)) 0 0 (va_A ws sz) := by
  refine Met.ofW (cc := cL_cell) (maxL := 2) (ret := (some .int)) (by decide) rfl ?_
  intro p e s m args below meth c s₁ B hml hv
  obtain ⟨rfl, ⟨hX, hbl, hbw⟩, hsz, hO, hK, hN, hP, hD0⟩ := hv
  subst hsz
  have hx := B.exec; have hb := B.bytes; have hr := B.returns; have hlocks := B.notSynchronized
  have hts0 := atoms_spec (ws := Cond.code yL_cell cL_cell 2 (some .int) :: lw_all) B.pre
  have hC : CallFix p m c cL_cell 2 s _ lw_all RL := ⟨hx, hb, hml, findClass_of_methodNamed B.named, fun w h => hts0 w (List.mem_cons_of_mem _ h)⟩
  have hA : ∀ q : Nat, s.heap.size ≤ q → va_A ws s.heap.size q := fun q h => Or.inr h
  have hD : va_D (va_A ws s.heap.size) ws := ⟨hD0.1, fun k q h => Or.inl ⟨k, q.2, h⟩⟩
  have hbA : ¬ va_A ws s.heap.size b0 := by
    rintro (⟨k, e, h⟩ | h)
    · exact hbw k e h
    · exact absurd hbl (Nat.not_lt.mpr h)
  generalize hAe : va_A ws s.heap.size = A at hA hD hbA ⊢
  have hS : va_S A s.heap s.heap [] := va_S.rf
  have hl := lv_entry ([.ref b0, .int (nI k)]) (n := 2) (Nat.le_of_ble_eq_true rfl)
  rw [lg_entry_eq]
  generalize (lg_sl ([.ref b0, .int (nI k)]) ++ List.replicate (2 - (lg_sl ([.ref b0, .int (nI k)])).length) Slot.unset).toArray = ls at hl ⊢
  have hl : lv_has ls 2 [(0, .ref b0), (1, .int (nI k))] := hl
  generalize hav : ([.ref b0, .int (nI k)] : List Value).toArray = args at hC ⊢
  refine W_gen (fun QQ hQ => ?_)
  show W p l e (rmC 1 0 0) s m args below meth c s.heap [] 0 0 QQ (F0 m 0 ls [])
  refine lv_iload_n hx hb dL_cell_0 rfl (lv_at hl 1 rfl) ?_
  refine lv_aload_n hx hb dL_cell_1 rfl (lv_at hl 0 rfl) ?_
  refine va_slen hx hb hX hbl hbA hS dL_cell_2 ?_
  refine n_icmp_ge (a := k) (b := L0) (tgt := 12) hx hb dL_cell_3 (by decide) (by omega) (by omega) (fun c3 => ?_) (fun c3 => ?_)
  · have _ : True := trivial
    refine lv_ldc (v := nI 763049417) hx hb hC.2.2.2.1 (hC.2.2.2.2 _ q539) dL_cell_12 ?_
    refine lv_iload_n hx hb dL_cell_14 rfl (lv_at hl 1 rfl) ?_
    refine lv_iconst (v := nI 3) hx hb dL_cell_15 (by decide) ?_
    refine n_iadd hx hb dL_cell_16  ?_
    refine n_imul hx hb dL_cell_17  ?_
    rw [hQ]
    subst hAe
    exact W.iret (v := nI (763049417 * (k + 3))) hx hb hr (fun t9 ht hW => ⟨⟨_, ws, rfl, trivial, by rw [ht]; exact hP, hD⟩, hS.F ht⟩) hS.2.2 dL_cell_18
  · have _ : True := trivial
    refine lv_aload_n hx hb dL_cell_6 rfl (lv_at hl 0 rfl) ?_
    refine lv_iload_n hx hb dL_cell_7 rfl (lv_at hl 1 rfl) ?_
    refine va_sld hx hb hX hbl hbA hS (vp_in_nI (n := k) (by omega) (by omega)) dL_cell_8 ?_
    refine lv_goto (tgt := 18) hx hb dL_cell_9 (by decide) ?_
    rw [hQ]
    subst hAe
    exact W.iret (v := xs (nI k).toNatClampNeg) hx hb hr (fun t9 ht hW => ⟨⟨_, ws, rfl, trivial, by rw [ht]; exact hP, hD⟩, hS.F ht⟩) hS.2.2 dL_cell_18
set_option maxHeartbeats 4000000 in
set_option maxRecDepth 100000 in
theorem c_L_up (l : Launch) (D : va_G) (cI cJ cB : ClassId) {b0 L0 : Nat} {xs : Nat → Int32} {x : Int32} {mo : Nat} {ws : va_W} (sz : Nat) (hm1 : 1 ≤ mo) (hm2 : mo < 2 ^ 20) : Met l yL_up (Cond.code yL_up cL_up 2 (some .int) :: lw_all) (rmC 1 0 0) (va_Pc [.int x, .int (nI mo)] (pL D (tyz cI cJ cB) ws sz b0 L0 xs)) (va_Qi (fun (r : Int32) (w : va_W) => ∃ j, j < mo ∧ r = nI j) (nB D (va_A ws sz)) (va_A ws sz)) 0 0 (va_A ws sz) := by
  refine Met.ofW (cc := cL_up) (maxL := 2) (ret := (some .int)) (by decide) rfl ?_
  intro p e s m args below meth c s₁ B hml hv
  obtain ⟨rfl, ⟨hX, hbl, hbw⟩, hsz, hO, hK, hN, hP, hD0⟩ := hv
  subst hsz
  have hx := B.exec; have hb := B.bytes; have hr := B.returns; have hlocks := B.notSynchronized
  have hts0 := atoms_spec (ws := Cond.code yL_up cL_up 2 (some .int) :: lw_all) B.pre
  have hC : CallFix p m c cL_up 2 s _ lw_all RL := ⟨hx, hb, hml, findClass_of_methodNamed B.named, fun w h => hts0 w (List.mem_cons_of_mem _ h)⟩
  have hA : ∀ q : Nat, s.heap.size ≤ q → va_A ws s.heap.size q := fun q h => Or.inr h
  have hD : va_D (va_A ws s.heap.size) ws := ⟨hD0.1, fun k q h => Or.inl ⟨k, q.2, h⟩⟩
  have hbA : ¬ va_A ws s.heap.size b0 := by
    rintro (⟨k, e, h⟩ | h)
    · exact hbw k e h
    · exact absurd hbl (Nat.not_lt.mpr h)
  generalize hAe : va_A ws s.heap.size = A at hA hD hbA ⊢
  have hS : va_S A s.heap s.heap [] := va_S.rf
  have hl := lv_entry ([.int x, .int (nI mo)]) (n := 2) (Nat.le_of_ble_eq_true rfl)
  rw [lg_entry_eq]
  generalize (lg_sl ([.int x, .int (nI mo)]) ++ List.replicate (2 - (lg_sl ([.int x, .int (nI mo)])).length) Slot.unset).toArray = ls at hl ⊢
  have hl : lv_has ls 2 [(0, .int x), (1, .int (nI mo))] := hl
  generalize hav : ([.int x, .int (nI mo)] : List Value).toArray = args at hC ⊢
  refine W_gen (fun QQ hQ => ?_)
  show W p l e (rmC 1 0 0) s m args below meth c s.heap [] 0 0 QQ (F0 m 0 ls [])
  refine lv_iload_n hx hb dL_up_0 rfl (lv_at hl 0 rfl) ?_
  refine lv_ldc (v := nI 2147483647) hx hb hC.2.2.2.1 (hC.2.2.2.2 _ q543) dL_up_1 ?_
  obtain ⟨v, hv, hv2⟩ := and31 x
  refine lv_iand hx hb dL_up_3 ?_
  refine topi (y := nI v) hv2 ?_
  refine lv_iload_n hx hb dL_up_4 rfl (lv_at hl 1 rfl) ?_
  refine n_irem hx hb dL_up_5 (by omega) (by omega) (by omega) ?_
  rw [hQ]
  subst hAe
  exact W.iret (v := nI (v % mo)) hx hb hr (fun t9 ht hW => ⟨⟨_, ws, rfl, ⟨v % mo, Nat.mod_lt _ (by omega), rfl⟩, by rw [ht]; exact hP, hD⟩, hS.F ht⟩) hS.2.2 dL_up_6
set_option maxHeartbeats 400000 in
set_option maxRecDepth 100000 in
theorem c_L_fits (l : Launch) (D : va_G) (cI cJ cB : ClassId) (ga wd hd x y w9 h9 : Nat) (G : Nat → Nat) (hw4 : wd ≤ 4) (hh3 : hd ≤ 3) (hx4 : x < 4) (hy4 : y < 3) (hw : 1 ≤ w9 ∧ w9 ≤ 2) (hh : 1 ≤ h9 ∧ h9 ≤ 2) (hGb : ∀ c, G c < 100) : Met l yL_fits (Cond.code yL_fits cL_fits 9 (some .boolean) :: lw_all) (rmN 1) (va_Pc [.ref ga, .int (nI wd), .int (nI hd), .int (nI x), .int (nI y), .int (nI w9), .int (nI h9)] (pB D (tyz cI cJ cB) (aWi cI cJ cB ga 24 (fun zz => nI (G zz))))) (va_Qi (fun (r : Int32) (w : va_W) => ∃ z : Bool, r = bI z ∧ w = aWi cI cJ cB ga 24 (fun zz => nI (G zz)) ∧ (z = true → PCE wd hd x y w9 h9 ∧ ∀ i, i < w9 * h9 → G (pcl wd x y w9 i) = 0)) (gB D (aWi cI cJ cB ga 24 (fun zz => nI (G zz)))) (aW (aWi cI cJ cB ga 24 (fun zz => nI (G zz))))) 0 0 (aW (aWi cI cJ cB ga 24 (fun zz => nI (G zz)))) := by
  refine Met.ofW (cc := cL_fits) (maxL := 9) (ret := (some .boolean)) (by decide) rfl ?_
  intro p e s m args below meth c s₁ B hml hv
  obtain ⟨rfl, hK, hN, hP, hD0⟩ := hv
  have hx := B.exec; have hb := B.bytes; have hr := B.returns; have hlocks := B.notSynchronized
  have hts0 := atoms_spec (ws := Cond.code yL_fits cL_fits 9 (some .boolean) :: lw_all) B.pre
  have hC : CallFix p m c cL_fits 9 s _ lw_all RL := ⟨hx, hb, hml, findClass_of_methodNamed B.named, fun w h => hts0 w (List.mem_cons_of_mem _ h)⟩
  have hD : va_D (aW (aWi cI cJ cB ga 24 (fun zz => nI (G zz)))) (aWi cI cJ cB ga 24 (fun zz => nI (G zz))) := ⟨hD0.1, fun k q h => ⟨k, q.2, h⟩⟩
  generalize hAe : aW (aWi cI cJ cB ga 24 (fun zz => nI (G zz))) = A at hD ⊢
  have hS : va_S A s.heap s.heap [] := va_S.rf
  have hl := lv_entry ([.ref ga, .int (nI wd), .int (nI hd), .int (nI x), .int (nI y), .int (nI w9), .int (nI h9)]) (n := 9) (Nat.le_of_ble_eq_true rfl)
  rw [lg_entry_eq]
  generalize (lg_sl ([.ref ga, .int (nI wd), .int (nI hd), .int (nI x), .int (nI y), .int (nI w9), .int (nI h9)]) ++ List.replicate (9 - (lg_sl ([.ref ga, .int (nI wd), .int (nI hd), .int (nI x), .int (nI y), .int (nI w9), .int (nI h9)])).length) Slot.unset).toArray = ls at hl ⊢
  have hl : lv_has ls 9 [(0, .ref ga), (1, .int (nI wd)), (2, .int (nI hd)), (3, .int (nI x)), (4, .int (nI y)), (5, .int (nI w9)), (6, .int (nI h9))] := hl
  generalize hav : ([.ref ga, .int (nI wd), .int (nI hd), .int (nI x), .int (nI y), .int (nI w9), .int (nI h9)] : List Value).toArray = args at hC ⊢
  refine W_gen (fun QQ hQ => ?_)
  show W p l e (rmN 1) s m args below meth c s.heap [] 0 0 QQ (F0 m 0 ls [])
  refine lv_iload_n hx hb dL_fits_0 rfl (lv_at hl 3 rfl) ?_
  refine lv_iload hx hb dL_fits_1 (lv_at hl 5 rfl) ?_
  refine n_iadd hx hb dL_fits_3  ?_
  refine lv_iload_n hx hb dL_fits_4 rfl (lv_at hl 1 rfl) ?_
  refine n_icmp_gt (a := x + w9) (b := wd) (tgt := 17) hx hb dL_fits_5 (by decide) (by omega) (by omega) (fun c5 => ?_) (fun c5 => ?_)
  · have _ : True := trivial
    refine lv_iconst (v := nI 0) hx hb dL_fits_17 (by decide) ?_
    rw [hQ]
    exact W.zret (v := nI 0) hx hb hr rfl (fun t9 ht hW => ⟨⟨_, _, rfl, ⟨false, rfl, rfl, fun h => by cases h⟩, by rw [ht]; exact hP, rfl⟩, hS.F ht⟩) hS.2.2 dL_fits_18
  · have _ : True := trivial
    refine lv_iload hx hb dL_fits_8 (lv_at hl 4 rfl) ?_
    refine lv_iload hx hb dL_fits_10 (lv_at hl 6 rfl) ?_
    refine n_iadd hx hb dL_fits_12  ?_
    refine lv_iload_n hx hb dL_fits_13 rfl (lv_at hl 2 rfl) ?_
    refine n_icmp_le (a := y + h9) (b := hd) (tgt := 19) hx hb dL_fits_14 (by decide) (by omega) (by omega) (fun c14 => ?_) (fun c14 => ?_)
    · have _ : True := trivial
      have hpce : PCE wd hd x y w9 h9 := ⟨by omega, by omega, hw.1, hw.2, hh.1, hh.2⟩
      have h4 : w9 * h9 ≤ 4 := Nat.le_trans (Nat.mul_le_mul hw.2 hh.2) (by omega)
      have h12 : wd * hd ≤ 12 := Nat.le_trans (Nat.mul_le_mul hw4 hh3) (by omega)
      refine lv_iconst (v := nI 1) hx hb dL_fits_19 (by decide) ?_
      refine topi (y := bI true) rfl ?_
      refine lv_istore (lv' := [(7, .int (bI true)), (0, .ref ga), (1, .int (nI wd)), (2, .int (nI hd)), (3, .int (nI x)), (4, .int (nI y)), (5, .int (nI w9)), (6, .int (nI h9))]) hx hb dL_fits_20 hl (by decide) rfl (fun ls hl => ?_)
      refine lv_iconst (v := nI 0) hx hb dL_fits_22 (by decide) ?_
      refine lv_istore (lv' := [(8, .int (nI 0)), (7, .int (bI true)), (0, .ref ga), (1, .int (nI wd)), (2, .int (nI hd)), (3, .int (nI x)), (4, .int (nI y)), (5, .int (nI w9)), (6, .int (nI h9))]) hx hb dL_fits_23 hl (by decide) rfl (fun ls hl => ?_)
      have L25 : ∀ (n : Nat) (z : Bool) (j : Nat), (j ≤ w9 * h9) → (z = true → ∀ i, i < j → G (pcl wd x y w9 i) = 0) → (w9 * h9 + 1 - j) < n → ∀ (H : Heap) (locs : List Loc), va_P D vwCl (aWi cI cJ cB ga 24 (fun zz => nI (G zz))) H → va_D A (aWi cI cJ cB ga 24 (fun zz => nI (G zz))) → va_S A s.heap H locs → ∀ ls : Array Slot, lv_has ls 9 [(7, .int (bI z)), (8, .int (nI j)), (0, .ref ga), (1, .int (nI wd)), (2, .int (nI hd)), (3, .int (nI x)), (4, .int (nI y)), (5, .int (nI w9)), (6, .int (nI h9))] → W p l e (rmN 1) s m args below meth c H locs 0 0 QQ (F0 m 25 ls []) := by
        intro n; induction n with
        | zero => intro z j hj hz hm; exact absurd hm (Nat.not_lt_zero _)
        | succ n ih25 =>
          intro z j hj hz hm25 H locs hP hD hS ls hl
          refine lv_iload hx hb dL_fits_25 (lv_at hl 1 rfl) ?_
          refine lv_iload hx hb dL_fits_27 (lv_at hl 7 rfl) ?_
          refine lv_iload hx hb dL_fits_29 (lv_at hl 8 rfl) ?_
          refine n_imul hx hb dL_fits_31  ?_
          refine n_icmp_ge (a := j) (b := w9 * h9) (tgt := 76) hx hb dL_fits_32 (by decide) (by omega) (by omega) (fun c32 => ?_) (fun c32 => ?_)
          · have _ : True := trivial
            refine lv_iload hx hb dL_fits_76 (lv_at hl 0 rfl) ?_
            rw [hQ]
            exact W.zret (v := bI z) hx hb hr (bnar _) (fun t9 ht hW => ⟨⟨_, _, rfl, ⟨z, rfl, rfl, fun h => ⟨hpce, fun i hi => hz h i (by omega)⟩⟩, by rw [ht]; exact hP, rfl⟩, hS.F ht⟩) hS.2.2 dL_fits_78
          · have _ : True := trivial
            refine lv_iload hx hb dL_fits_35 (lv_at hl 0 rfl) ?_
            refine b_if_eq (tgt := 67) hx hb dL_fits_37 (by decide) (fun c37 => ?_) (fun c37 => ?_)
            · have _ : True := trivial
              refine lv_iconst (v := nI 0) hx hb dL_fits_67 (by decide) ?_
              refine topi (y := bI false) rfl ?_
              refine lv_istore (lv' := [(7, .int (bI false)), (8, .int (nI j)), (0, .ref ga), (1, .int (nI wd)), (2, .int (nI hd)), (3, .int (nI x)), (4, .int (nI y)), (5, .int (nI w9)), (6, .int (nI h9))]) hx hb dL_fits_68 hl (by decide) rfl (fun ls hl => ?_)
              refine lv_iinc (v := nI (j + 1)) (lv' := [(8, .int (nI (j + 1))), (7, .int (bI false)), (0, .ref ga), (1, .int (nI wd)), (2, .int (nI hd)), (3, .int (nI x)), (4, .int (nI y)), (5, .int (nI w9)), (6, .int (nI h9))]) hx hb dL_fits_70 hl (k := 1) rfl (nI_1 _) (by decide) rfl (fun ls hl => ?_)
              refine lv_goto (tgt := 25) hx hb dL_fits_73 (by decide) ?_
              exact ih25 false (j + 1) (by omega) (fun h => by cases h) (by omega) _ _ hP hD hS _ (lv_sub hl [1, 0, 2, 3, 4, 5, 6, 7, 8] rfl)
            · have _ : True := trivial
              have hcl : (y + j / w9) * wd + x + j % w9 < wd * hd := pcl_lt hpce c32
              refine lv_aload_n hx hb dL_fits_40 rfl (lv_at hl 2 rfl) ?_
              refine lv_iload hx hb dL_fits_41 (lv_at hl 6 rfl) ?_
              refine lv_iload hx hb dL_fits_43 (lv_at hl 1 rfl) ?_
              refine lv_iload hx hb dL_fits_45 (lv_at hl 7 rfl) ?_
              refine n_idiv hx hb dL_fits_47 (by omega) (by omega) (by omega) ?_
              refine n_iadd hx hb dL_fits_48  ?_
              refine lv_iload_n hx hb dL_fits_49 rfl (lv_at hl 3 rfl) ?_
              refine n_imul hx hb dL_fits_50  ?_
              refine lv_iload_n hx hb dL_fits_51 rfl (lv_at hl 5 rfl) ?_
              refine n_iadd hx hb dL_fits_52  ?_
              refine lv_iload hx hb dL_fits_53 (lv_at hl 1 rfl) ?_
              refine lv_iload hx hb dL_fits_55 (lv_at hl 7 rfl) ?_
              refine n_irem hx hb dL_fits_57 (by omega) (by omega) (by omega) ?_
              refine n_iadd hx hb dL_fits_58  ?_
              refine n_iald hx hb hK hP 0 0 rfl rfl (by omega) (by first | decide | omega) dL_fits_59 ?_
              have hgb9 := hGb ((y + j / w9) * wd + x + j % w9)
              refine n_if_ne (tgt := 67) hx hb dL_fits_60 (by decide) (by omega) (fun c60 => ?_) (fun c60 => ?_)
              · have _ : True := trivial
                refine lv_iconst (v := nI 0) hx hb dL_fits_67 (by decide) ?_
                refine topi (y := bI false) rfl ?_
                refine lv_istore (lv' := [(7, .int (bI false)), (8, .int (nI j)), (0, .ref ga), (1, .int (nI wd)), (2, .int (nI hd)), (3, .int (nI x)), (4, .int (nI y)), (5, .int (nI w9)), (6, .int (nI h9))]) hx hb dL_fits_68 hl (by decide) rfl (fun ls hl => ?_)
                refine lv_iinc (v := nI (j + 1)) (lv' := [(8, .int (nI (j + 1))), (7, .int (bI false)), (0, .ref ga), (1, .int (nI wd)), (2, .int (nI hd)), (3, .int (nI x)), (4, .int (nI y)), (5, .int (nI w9)), (6, .int (nI h9))]) hx hb dL_fits_70 hl (k := 1) rfl (nI_1 _) (by decide) rfl (fun ls hl => ?_)
                refine lv_goto (tgt := 25) hx hb dL_fits_73 (by decide) ?_
                exact ih25 false (j + 1) (by omega) (fun h => by cases h) (by omega) _ _ hP hD hS _ (lv_sub hl [1, 0, 2, 3, 4, 5, 6, 7, 8] rfl)
              · have _ : True := trivial
                refine lv_iconst (v := nI 1) hx hb dL_fits_63 (by decide) ?_
                refine topi (y := bI true) rfl ?_
                refine lv_goto (tgt := 68) hx hb dL_fits_64 (by decide) ?_
                refine lv_istore (lv' := [(7, .int (bI true)), (8, .int (nI j)), (0, .ref ga), (1, .int (nI wd)), (2, .int (nI hd)), (3, .int (nI x)), (4, .int (nI y)), (5, .int (nI w9)), (6, .int (nI h9))]) hx hb dL_fits_68 hl (by decide) rfl (fun ls hl => ?_)
                refine lv_iinc (v := nI (j + 1)) (lv' := [(8, .int (nI (j + 1))), (7, .int (bI true)), (0, .ref ga), (1, .int (nI wd)), (2, .int (nI hd)), (3, .int (nI x)), (4, .int (nI y)), (5, .int (nI w9)), (6, .int (nI h9))]) hx hb dL_fits_70 hl (k := 1) rfl (nI_1 _) (by decide) rfl (fun ls hl => ?_)
                refine lv_goto (tgt := 25) hx hb dL_fits_73 (by decide) ?_
                exact ih25 true (j + 1) (by omega) (fun _ => fit_s hz c60 c37) (by omega) _ _ hP hD hS _ (lv_sub hl [1, 0, 2, 3, 4, 5, 6, 7, 8] rfl)
      exact L25 _ true 0 (by omega) (by omega) (Nat.lt_succ_self _) _ _ hP hD hS _ (lv_sub hl [1, 0, 2, 3, 4, 5, 6, 7, 8] rfl)
    · have _ : True := trivial
      refine lv_iconst (v := nI 0) hx hb dL_fits_17 (by decide) ?_
      rw [hQ]
      exact W.zret (v := nI 0) hx hb hr rfl (fun t9 ht hW => ⟨⟨_, _, rfl, ⟨false, rfl, rfl, fun h => by cases h⟩, by rw [ht]; exact hP, rfl⟩, hS.F ht⟩) hS.2.2 dL_fits_18
