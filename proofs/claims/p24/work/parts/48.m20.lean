abbrev aWl (cI cJ cB : ClassId) (ra : Nat) (rn : Nat) (rf : Nat → Int64) : va_W := [(ra, .inl (cJ, rn, .inr (.inl rf)))]

set_option maxHeartbeats 400000 in
set_option maxRecDepth 100000 in
theorem c_J6_bitCount_0f7a4 (l : Launch) (D : va_G) (cI cJ cB : ClassId) (x : Nat) (hx9 : x < 2 ^ 24) : Met l yJ6_bitCount_0f7a4 (Cond.code yJ6_bitCount_0f7a4 cJ6_bitCount_0f7a4 1 (some .int) :: lw_all) (rmN 0) (va_Pc [.int (nI x)] (pB D (tyz cI cJ cB) ([] : va_W))) (va_Qi (fun (r : Int32) (w : va_W) => r = nI (cnt x 24) ∧ w = []) (gB D ([] : va_W)) (aW ([] : va_W))) 0 0 (aW ([] : va_W)) := by
  refine Met.ofW (cc := cJ6_bitCount_0f7a4) (maxL := 1) (ret := (some .int)) (by decide) rfl ?_
  intro p e s m args below meth c s₁ B hml hv
  obtain ⟨rfl, hK, hN, hP, hD0⟩ := hv
  have hx := B.exec; have hb := B.bytes; have hr := B.returns; have hlocks := B.notSynchronized
  have hts0 := atoms_spec (ws := Cond.code yJ6_bitCount_0f7a4 cJ6_bitCount_0f7a4 1 (some .int) :: lw_all) B.pre
  have hC : CallFix p m c cJ6_bitCount_0f7a4 1 s _ lw_all RJ6 := ⟨hx, hb, hml, findClass_of_methodNamed B.named, fun w h => hts0 w (List.mem_cons_of_mem _ h)⟩
  have hD : va_D (aW ([] : va_W)) ([] : va_W) := ⟨hD0.1, fun k q h => ⟨k, q.2, h⟩⟩
  generalize hAe : aW ([] : va_W) = A at hD ⊢
  have hS : va_S A s.heap s.heap [] := va_S.rf
  have hl := lv_entry ([.int (nI x)]) (n := 1) (Nat.le_of_ble_eq_true rfl)
  rw [lg_entry_eq]
  generalize (lg_sl ([.int (nI x)]) ++ List.replicate (1 - (lg_sl ([.int (nI x)])).length) Slot.unset).toArray = ls at hl ⊢
  have hl : lv_has ls 1 [(0, .int (nI x))] := hl
  generalize hav : ([.int (nI x)] : List Value).toArray = args at hC ⊢
  refine W_gen (fun QQ hQ => ?_)
  show W p l e (rmN 0) s m args below meth c s.heap [] 0 0 QQ (F0 m 0 ls [])
  obtain ⟨l1, l2, l3, l4, l5, l6⟩ := bc_all hx9
  refine lv_iload_n hx hb dJ6_bitCount_0f7a4_0 rfl (lv_at hl 0 rfl) ?_
  refine lv_iload_n hx hb dJ6_bitCount_0f7a4_1 rfl (lv_at hl 0 rfl) ?_
  refine lv_iconst (v := nI 1) hx hb dJ6_bitCount_0f7a4_2 (by decide) ?_
  refine n_iushr hx hb dJ6_bitCount_0f7a4_3 (by omega) (by omega) ?_
  refine lv_ldcw (v := nI 1431655765) hx hb hC.2.2.2.1 (hC.2.2.2.2 _ q405) dJ6_bitCount_0f7a4_4 ?_
  refine n_iand hx hb dJ6_bitCount_0f7a4_7  ?_
  refine n_isub hx hb dJ6_bitCount_0f7a4_8 (bc_1 hx9) ?_
  refine topi (y := nI (bc1 x)) rfl ?_
  refine lv_istore_n (lv' := [(0, .int (nI (bc1 x)))]) hx hb dJ6_bitCount_0f7a4_9 rfl hl (by decide) rfl (fun ls hl => ?_)
  refine lv_iload_n hx hb dJ6_bitCount_0f7a4_10 rfl (lv_at hl 0 rfl) ?_
  refine lv_ldcw (v := nI 858993459) hx hb hC.2.2.2.1 (hC.2.2.2.2 _ q406) dJ6_bitCount_0f7a4_11 ?_
  refine n_iand hx hb dJ6_bitCount_0f7a4_14  ?_
  refine lv_iload_n hx hb dJ6_bitCount_0f7a4_15 rfl (lv_at hl 0 rfl) ?_
  refine lv_iconst (v := nI 2) hx hb dJ6_bitCount_0f7a4_16 (by decide) ?_
  refine n_iushr hx hb dJ6_bitCount_0f7a4_17 (by omega) (by omega) ?_
  refine lv_ldcw (v := nI 858993459) hx hb hC.2.2.2.1 (hC.2.2.2.2 _ q406) dJ6_bitCount_0f7a4_18 ?_
  refine n_iand hx hb dJ6_bitCount_0f7a4_21  ?_
  refine n_iadd hx hb dJ6_bitCount_0f7a4_22  ?_
  refine topi (y := nI (bc2 x)) rfl ?_
  refine lv_istore_n (lv' := [(0, .int (nI (bc2 x)))]) hx hb dJ6_bitCount_0f7a4_23 rfl hl (by decide) rfl (fun ls hl => ?_)
  refine lv_iload_n hx hb dJ6_bitCount_0f7a4_24 rfl (lv_at hl 0 rfl) ?_
  refine lv_iload_n hx hb dJ6_bitCount_0f7a4_25 rfl (lv_at hl 0 rfl) ?_
  refine lv_iconst (v := nI 4) hx hb dJ6_bitCount_0f7a4_26 (by decide) ?_
  refine n_iushr hx hb dJ6_bitCount_0f7a4_27 (by omega) (by omega) ?_
  refine n_iadd hx hb dJ6_bitCount_0f7a4_28  ?_
  refine lv_ldcw (v := nI 252645135) hx hb hC.2.2.2.1 (hC.2.2.2.2 _ q407) dJ6_bitCount_0f7a4_29 ?_
  refine n_iand hx hb dJ6_bitCount_0f7a4_32  ?_
  refine topi (y := nI (bc3 x)) rfl ?_
  refine lv_istore_n (lv' := [(0, .int (nI (bc3 x)))]) hx hb dJ6_bitCount_0f7a4_33 rfl hl (by decide) rfl (fun ls hl => ?_)
  refine lv_iload_n hx hb dJ6_bitCount_0f7a4_34 rfl (lv_at hl 0 rfl) ?_
  refine lv_iload_n hx hb dJ6_bitCount_0f7a4_35 rfl (lv_at hl 0 rfl) ?_
  refine lv_bipush (v := nI 8) hx hb dJ6_bitCount_0f7a4_36 (by decide) ?_
  refine n_iushr hx hb dJ6_bitCount_0f7a4_38 (by omega) (by omega) ?_
  refine n_iadd hx hb dJ6_bitCount_0f7a4_39  ?_
  refine topi (y := nI (bc4 x)) rfl ?_
  refine lv_istore_n (lv' := [(0, .int (nI (bc4 x)))]) hx hb dJ6_bitCount_0f7a4_40 rfl hl (by decide) rfl (fun ls hl => ?_)
  refine lv_iload_n hx hb dJ6_bitCount_0f7a4_41 rfl (lv_at hl 0 rfl) ?_
  refine lv_iload_n hx hb dJ6_bitCount_0f7a4_42 rfl (lv_at hl 0 rfl) ?_
  refine lv_bipush (v := nI 16) hx hb dJ6_bitCount_0f7a4_43 (by decide) ?_
  refine n_iushr hx hb dJ6_bitCount_0f7a4_45 (by omega) (by omega) ?_
  refine n_iadd hx hb dJ6_bitCount_0f7a4_46  ?_
  refine topi (y := nI (bc5 x)) rfl ?_
  refine lv_istore_n (lv' := [(0, .int (nI (bc5 x)))]) hx hb dJ6_bitCount_0f7a4_47 rfl hl (by decide) rfl (fun ls hl => ?_)
  refine lv_iload_n hx hb dJ6_bitCount_0f7a4_48 rfl (lv_at hl 0 rfl) ?_
  refine lv_bipush (v := nI 63) hx hb dJ6_bitCount_0f7a4_49 (by decide) ?_
  refine n_iand hx hb dJ6_bitCount_0f7a4_51  ?_
  rw [hQ]
  exact W.iret (v := nI ((bc5 x) &&& 63)) hx hb hr (fun t9 ht hW => ⟨⟨_, _, rfl, ⟨(by rw [l6]), rfl⟩, by rw [ht]; exact hP, rfl⟩, hS.F ht⟩) hS.2.2 dJ6_bitCount_0f7a4_52

set_option maxHeartbeats 400000 in
set_option maxRecDepth 100000 in
theorem c_J7_fill_N (l : Launch) (D : va_G) (cI cJ cB : ClassId) (ra rn : Nat) (rf : Nat → Nat) (hrn : rn < 2 ^ 30) : Met l yJ7_fill_53178 (Cond.code yJ7_fill_53178 cJ7_fill_53178 4 none :: lw_all) (rmN 0) (va_Pc [.ref ra, .int (nI 0)] (pB D (tyz cI cJ cB) (aWi cI cJ cB ra rn (fun zz => nI (rf zz))))) (va_Qv (fun (w : va_W) => w = aWi cI cJ cB ra rn (fun zz => nI ((fun _ => 0) zz))) (gB D (aWi cI cJ cB ra rn (fun zz => nI (rf zz)))) (aW (aWi cI cJ cB ra rn (fun zz => nI (rf zz))))) 0 0 (aW (aWi cI cJ cB ra rn (fun zz => nI (rf zz)))) := by
  refine Met.ofW (cc := cJ7_fill_53178) (maxL := 4) (ret := none) (by decide) rfl ?_
  intro p e s m args below meth c s₁ B hml hv
  obtain ⟨rfl, hK, hN, hP, hD0⟩ := hv
  have hx := B.exec; have hb := B.bytes; have hr := B.returns; have hlocks := B.notSynchronized
  have hts0 := atoms_spec (ws := Cond.code yJ7_fill_53178 cJ7_fill_53178 4 none :: lw_all) B.pre
  have hC : CallFix p m c cJ7_fill_53178 4 s _ lw_all RJ7 := ⟨hx, hb, hml, findClass_of_methodNamed B.named, fun w h => hts0 w (List.mem_cons_of_mem _ h)⟩
  have hD : va_D (aW (aWi cI cJ cB ra rn (fun zz => nI (rf zz)))) (aWi cI cJ cB ra rn (fun zz => nI (rf zz))) := ⟨hD0.1, fun k q h => ⟨k, q.2, h⟩⟩
  generalize hAe : aW (aWi cI cJ cB ra rn (fun zz => nI (rf zz))) = A at hD ⊢
  have hS : va_S A s.heap s.heap [] := va_S.rf
  have hl := lv_entry ([.ref ra, .int (nI 0)]) (n := 4) (Nat.le_of_ble_eq_true rfl)
  rw [lg_entry_eq]
  generalize (lg_sl ([.ref ra, .int (nI 0)]) ++ List.replicate (4 - (lg_sl ([.ref ra, .int (nI 0)])).length) Slot.unset).toArray = ls at hl ⊢
  have hl : lv_has ls 4 [(0, .ref ra), (1, .int (nI 0))] := hl
  generalize hav : ([.ref ra, .int (nI 0)] : List Value).toArray = args at hC ⊢
  refine W_gen (fun QQ hQ => ?_)
  show W p l e (rmN 0) s m args below meth c s.heap [] 0 0 QQ (F0 m 0 ls [])
  refine lv_iconst (v := nI 0) hx hb dJ7_fill_53178_0 (by decide) ?_
  refine lv_istore_n (lv' := [(2, .int (nI 0)), (0, .ref ra), (1, .int (nI 0))]) hx hb dJ7_fill_53178_1 rfl hl (by decide) rfl (fun ls hl => ?_)
  refine lv_aload_n hx hb dJ7_fill_53178_2 rfl (lv_at hl 1 rfl) ?_
  refine va_alen hx hb hK hP 0 0 rfl rfl (v := nI rn) rfl dJ7_fill_53178_3 ?_
  refine lv_istore_n (lv' := [(3, .int (nI rn)), (2, .int (nI 0)), (0, .ref ra), (1, .int (nI 0))]) hx hb dJ7_fill_53178_4 rfl hl (by decide) rfl (fun ls hl => ?_)
  have L5 : ∀ (n : Nat) (i : Nat) (f1 : Nat → Nat), (i ≤ rn) → (∀ j, j < i → f1 j = 0) → (rn - i) < n → ∀ (H : Heap) (locs : List Loc), va_P D vwCl (aWi cI cJ cB ra rn (fun zz => nI (f1 zz))) H → va_D A (aWi cI cJ cB ra rn (fun zz => nI (f1 zz))) → va_S A s.heap H locs → ∀ ls : Array Slot, lv_has ls 4 [(2, .int (nI i)), (3, .int (nI rn)), (0, .ref ra), (1, .int (nI 0))] → W p l e (rmN 0) s m args below meth c H locs 0 0 QQ (F0 m 5 ls []) := by
    intro n; induction n with
    | zero => intro i f1 ii iz hm; exact absurd hm (Nat.not_lt_zero _)
    | succ n ih5 =>
      intro i f1 ii iz hm5 H locs hP hD hS ls hl
      refine lv_iload_n hx hb dJ7_fill_53178_5 rfl (lv_at hl 0 rfl) ?_
      refine lv_iload_n hx hb dJ7_fill_53178_6 rfl (lv_at hl 1 rfl) ?_
      refine n_icmp_ge (a := i) (b := rn) (tgt := 20) hx hb dJ7_fill_53178_7 (by decide) (by omega) (by omega) (fun c7 => ?_) (fun c7 => ?_)
      · have _ : True := trivial
        have e7 : i = rn := by omega
        have hP : va_P D vwCl (aWi cI cJ cB ra rn (fun zz => nI ((fun _ => 0) zz))) H := va_P_reI 0 (g := fun zz => nI ((fun _ => 0) zz)) hP rfl (fun j hj => by rw [iz j (by omega)]) rfl
        have hD : va_D A (aWi cI cJ cB ra rn (fun zz => nI ((fun _ => 0) zz))) := va_D_adr (ws := aWi cI cJ cB ra rn (fun zz => nI (f1 zz))) rfl hD
        rw [hQ]
        exact W.vret hx hb hr (fun t9 ht hW => ⟨⟨_, rfl, rfl, by rw [ht]; exact hP, rfl⟩, hS.F ht⟩) hS.2.2 dJ7_fill_53178_20
      · have _ : True := trivial
        refine lv_aload_n hx hb dJ7_fill_53178_10 rfl (lv_at hl 2 rfl) ?_
        refine lv_iload_n hx hb dJ7_fill_53178_11 rfl (lv_at hl 0 rfl) ?_
        refine lv_iload_n hx hb dJ7_fill_53178_12 rfl (lv_at hl 3 rfl) ?_
        refine n_iast hx hb hK hP hD hS 0 0 rfl rfl (by omega) (by first | decide | omega) (up_nI _ _ _) (ws1 := aWi cI cJ cB ra rn (fun zz => nI ((va_up f1 i 0) zz))) rfl dJ7_fill_53178_13 (fun H locs hP hD hS => ?_)
        refine lv_iinc (v := nI (i + 1)) (lv' := [(2, .int (nI (i + 1))), (3, .int (nI rn)), (0, .ref ra), (1, .int (nI 0))]) hx hb dJ7_fill_53178_14 hl (k := 0) rfl (nI_1 _) (by decide) rfl (fun ls hl => ?_)
        refine lv_goto (tgt := 5) hx hb dJ7_fill_53178_17 (by decide) ?_
        exact ih5 (i + 1) (va_up f1 i 0) (by omega) (lt_s (fun j h => by rw [up_ne f1 (by omega)]; exact iz j h) (up_eq _ _ _)) (by omega) _ _ hP hD hS _ (lv_sub hl [0, 1, 2, 3] rfl)
  exact L5 _ 0 rf (by omega) (fun j h => absurd h (Nat.not_lt_zero j)) (Nat.lt_succ_self _) _ _ hP hD hS _ (lv_sub hl [1, 0, 2, 3] rfl)

set_option maxHeartbeats 400000 in
set_option maxRecDepth 100000 in
theorem c_J7_fill_O (l : Launch) (D : va_G) (cI cJ cB : ClassId) (ra rn : Nat) (rf : Nat → Option Nat) (hrn : rn < 2 ^ 30) : Met l yJ7_fill_53178 (Cond.code yJ7_fill_53178 cJ7_fill_53178 4 none :: lw_all) (rmN 0) (va_Pc [.ref ra, .int (-1)] (pB D (tyz cI cJ cB) (aWi cI cJ cB ra rn (fun zz => oI (rf zz))))) (va_Qv (fun (w : va_W) => w = aWi cI cJ cB ra rn (fun zz => oI (noneF zz))) (gB D (aWi cI cJ cB ra rn (fun zz => oI (rf zz)))) (aW (aWi cI cJ cB ra rn (fun zz => oI (rf zz))))) 0 0 (aW (aWi cI cJ cB ra rn (fun zz => oI (rf zz)))) := by
  refine Met.ofW (cc := cJ7_fill_53178) (maxL := 4) (ret := none) (by decide) rfl ?_
  intro p e s m args below meth c s₁ B hml hv
  obtain ⟨rfl, hK, hN, hP, hD0⟩ := hv
  have hx := B.exec; have hb := B.bytes; have hr := B.returns; have hlocks := B.notSynchronized
  have hts0 := atoms_spec (ws := Cond.code yJ7_fill_53178 cJ7_fill_53178 4 none :: lw_all) B.pre
  have hC : CallFix p m c cJ7_fill_53178 4 s _ lw_all RJ7 := ⟨hx, hb, hml, findClass_of_methodNamed B.named, fun w h => hts0 w (List.mem_cons_of_mem _ h)⟩
  have hD : va_D (aW (aWi cI cJ cB ra rn (fun zz => oI (rf zz)))) (aWi cI cJ cB ra rn (fun zz => oI (rf zz))) := ⟨hD0.1, fun k q h => ⟨k, q.2, h⟩⟩
  generalize hAe : aW (aWi cI cJ cB ra rn (fun zz => oI (rf zz))) = A at hD ⊢
  have hS : va_S A s.heap s.heap [] := va_S.rf
  have hl := lv_entry ([.ref ra, .int (-1)]) (n := 4) (Nat.le_of_ble_eq_true rfl)
  rw [lg_entry_eq]
  generalize (lg_sl ([.ref ra, .int (-1)]) ++ List.replicate (4 - (lg_sl ([.ref ra, .int (-1)])).length) Slot.unset).toArray = ls at hl ⊢
  have hl : lv_has ls 4 [(0, .ref ra), (1, .int (-1))] := hl
  generalize hav : ([.ref ra, .int (-1)] : List Value).toArray = args at hC ⊢
  refine W_gen (fun QQ hQ => ?_)
  show W p l e (rmN 0) s m args below meth c s.heap [] 0 0 QQ (F0 m 0 ls [])
  refine lv_iconst (v := nI 0) hx hb dJ7_fill_53178_0 (by decide) ?_
  refine lv_istore_n (lv' := [(2, .int (nI 0)), (0, .ref ra), (1, .int (-1))]) hx hb dJ7_fill_53178_1 rfl hl (by decide) rfl (fun ls hl => ?_)
  refine lv_aload_n hx hb dJ7_fill_53178_2 rfl (lv_at hl 1 rfl) ?_
  refine va_alen hx hb hK hP 0 0 rfl rfl (v := nI rn) rfl dJ7_fill_53178_3 ?_
  refine lv_istore_n (lv' := [(3, .int (nI rn)), (2, .int (nI 0)), (0, .ref ra), (1, .int (-1))]) hx hb dJ7_fill_53178_4 rfl hl (by decide) rfl (fun ls hl => ?_)
  have L5 : ∀ (n : Nat) (i : Nat) (f1 : Nat → Option Nat), (i ≤ rn) → (∀ j, j < i → f1 j = none) → (rn - i) < n → ∀ (H : Heap) (locs : List Loc), va_P D vwCl (aWi cI cJ cB ra rn (fun zz => oI (f1 zz))) H → va_D A (aWi cI cJ cB ra rn (fun zz => oI (f1 zz))) → va_S A s.heap H locs → ∀ ls : Array Slot, lv_has ls 4 [(2, .int (nI i)), (3, .int (nI rn)), (0, .ref ra), (1, .int (-1))] → W p l e (rmN 0) s m args below meth c H locs 0 0 QQ (F0 m 5 ls []) := by
    intro n; induction n with
    | zero => intro i f1 ii iz hm; exact absurd hm (Nat.not_lt_zero _)
    | succ n ih5 =>
      intro i f1 ii iz hm5 H locs hP hD hS ls hl
      refine lv_iload_n hx hb dJ7_fill_53178_5 rfl (lv_at hl 0 rfl) ?_
      refine lv_iload_n hx hb dJ7_fill_53178_6 rfl (lv_at hl 1 rfl) ?_
      refine n_icmp_ge (a := i) (b := rn) (tgt := 20) hx hb dJ7_fill_53178_7 (by decide) (by omega) (by omega) (fun c7 => ?_) (fun c7 => ?_)
      · have _ : True := trivial
        have e7 : i = rn := by omega
        have hP : va_P D vwCl (aWi cI cJ cB ra rn (fun zz => oI (noneF zz))) H := va_P_reI 0 (g := fun zz => oI (noneF zz)) hP rfl (fun j hj => by rw [iz j (by omega)]; rfl) rfl
        have hD : va_D A (aWi cI cJ cB ra rn (fun zz => oI (noneF zz))) := va_D_adr (ws := aWi cI cJ cB ra rn (fun zz => oI (f1 zz))) rfl hD
        rw [hQ]
        exact W.vret hx hb hr (fun t9 ht hW => ⟨⟨_, rfl, rfl, by rw [ht]; exact hP, rfl⟩, hS.F ht⟩) hS.2.2 dJ7_fill_53178_20
      · have _ : True := trivial
        refine lv_aload_n hx hb dJ7_fill_53178_10 rfl (lv_at hl 2 rfl) ?_
        refine lv_iload_n hx hb dJ7_fill_53178_11 rfl (lv_at hl 0 rfl) ?_
        refine lv_iload_n hx hb dJ7_fill_53178_12 rfl (lv_at hl 3 rfl) ?_
        refine n_iast hx hb hK hP hD hS 0 0 rfl rfl (by omega) (by first | decide | omega) (up_oIn _ _) (ws1 := aWi cI cJ cB ra rn (fun zz => oI ((va_up f1 i none) zz))) rfl dJ7_fill_53178_13 (fun H locs hP hD hS => ?_)
        refine lv_iinc (v := nI (i + 1)) (lv' := [(2, .int (nI (i + 1))), (3, .int (nI rn)), (0, .ref ra), (1, .int (-1))]) hx hb dJ7_fill_53178_14 hl (k := 0) rfl (nI_1 _) (by decide) rfl (fun ls hl => ?_)
        refine lv_goto (tgt := 5) hx hb dJ7_fill_53178_17 (by decide) ?_
        exact ih5 (i + 1) (va_up f1 i none) (by omega) (lt_s (fun j h => by rw [up_ne f1 (by omega)]; exact iz j h) (up_eq _ _ _)) (by omega) _ _ hP hD hS _ (lv_sub hl [0, 1, 2, 3] rfl)
  exact L5 _ 0 rf (by omega) (fun j h => absurd h (Nat.not_lt_zero j)) (Nat.lt_succ_self _) _ _ hP hD hS _ (lv_sub hl [1, 0, 2, 3] rfl)

set_option maxHeartbeats 400000 in
set_option maxRecDepth 100000 in
theorem c_X7_at_L (l : Launch) (D : va_G) (cI cJ cB : ClassId) (ra rn i : Nat) (rf : Nat → Nat) (hir : i < rn) (hrn : rn < 2 ^ 31) : Met l yX7_at_ (Cond.code yX7_at_ cX7_at_ 2 (some .long) :: lw_all) (rmN 0) (va_Pc [.ref ra, .int (nI i)] (pB D (tyz cI cJ cB) (aWl cI cJ cB ra rn (fun zz => lN (rf zz))))) (va_Ql (fun (r : Int64) (w : va_W) => r = lN (rf i) ∧ w = aWl cI cJ cB ra rn (fun zz => lN (rf zz))) (gB D (aWl cI cJ cB ra rn (fun zz => lN (rf zz)))) (aW (aWl cI cJ cB ra rn (fun zz => lN (rf zz))))) 0 0 (aW (aWl cI cJ cB ra rn (fun zz => lN (rf zz)))) := by
  refine Met.ofW (cc := cX7_at_) (maxL := 2) (ret := (some .long)) (by decide) rfl ?_
  intro p e s m args below meth c s₁ B hml hv
  obtain ⟨rfl, hK, hN, hP, hD0⟩ := hv
  have hx := B.exec; have hb := B.bytes; have hr := B.returns; have hlocks := B.notSynchronized
  have hts0 := atoms_spec (ws := Cond.code yX7_at_ cX7_at_ 2 (some .long) :: lw_all) B.pre
  have hC : CallFix p m c cX7_at_ 2 s _ lw_all RX7 := ⟨hx, hb, hml, findClass_of_methodNamed B.named, fun w h => hts0 w (List.mem_cons_of_mem _ h)⟩
  have hD : va_D (aW (aWl cI cJ cB ra rn (fun zz => lN (rf zz)))) (aWl cI cJ cB ra rn (fun zz => lN (rf zz))) := ⟨hD0.1, fun k q h => ⟨k, q.2, h⟩⟩
  generalize hAe : aW (aWl cI cJ cB ra rn (fun zz => lN (rf zz))) = A at hD ⊢
  have hS : va_S A s.heap s.heap [] := va_S.rf
  have hl := lv_entry ([.ref ra, .int (nI i)]) (n := 2) (Nat.le_of_ble_eq_true rfl)
  rw [lg_entry_eq]
  generalize (lg_sl ([.ref ra, .int (nI i)]) ++ List.replicate (2 - (lg_sl ([.ref ra, .int (nI i)])).length) Slot.unset).toArray = ls at hl ⊢
  have hl : lv_has ls 2 [(0, .ref ra), (1, .int (nI i))] := hl
  generalize hav : ([.ref ra, .int (nI i)] : List Value).toArray = args at hC ⊢
  refine W_gen (fun QQ hQ => ?_)
  show W p l e (rmN 0) s m args below meth c s.heap [] 0 0 QQ (F0 m 0 ls [])
  refine lv_iload_n hx hb dX7_at__0 rfl (lv_at hl 1 rfl) ?_
  refine n_if_lt (tgt := 16) hx hb dX7_at__1 (by decide) (by omega) ?_
  refine lv_iload_n hx hb dX7_at__4 rfl (lv_at hl 1 rfl) ?_
  refine lv_aload_n hx hb dX7_at__5 rfl (lv_at hl 0 rfl) ?_
  refine va_alen hx hb hK hP 0 1 rfl rfl (v := nI rn) rfl dX7_at__6 ?_
  refine n_icmp_ge (a := i) (b := rn) (tgt := 16) hx hb dX7_at__7 (by decide) (by omega) (by omega) (fun c7 => ?_) (fun c7 => ?_)
  · have _ : True := trivial
    exact absurd c7 (by omega)
  · have _ : True := trivial
    refine lv_aload_n hx hb dX7_at__10 rfl (lv_at hl 0 rfl) ?_
    refine lv_iload_n hx hb dX7_at__11 rfl (lv_at hl 1 rfl) ?_
    refine n_lald hx hb hK hP 0 1 rfl rfl (by omega) (by first | decide | omega) dX7_at__12 ?_
    refine lv_goto (tgt := 17) hx hb dX7_at__13 (by decide) ?_
    rw [hQ]
    exact W.lret (v := lN (rf i)) hx hb hr (fun t9 ht hW => ⟨⟨_, _, rfl, ⟨rfl, rfl⟩, by rw [ht]; exact hP, rfl⟩, hS.F ht⟩) hS.2.2 dX7_at__17

set_option maxHeartbeats 400000 in
set_option maxRecDepth 100000 in
theorem c_X7_put_L (l : Launch) (D : va_G) (cI cJ cB : ClassId) (ra rn i : Nat) (rf : Nat → Nat) (v : Nat) (hir : i < rn) (hrn : rn < 2 ^ 31) : Met l yX7_put_ (Cond.code yX7_put_ cX7_put_ 4 none :: lw_all) (rmN 0) (va_Pc [.ref ra, .int (nI i), .long (lN v)] (pB D (tyz cI cJ cB) (aWl cI cJ cB ra rn (fun zz => lN (rf zz))))) (va_Qv (fun (w : va_W) => w = aWl cI cJ cB ra rn (fun zz => lN ((va_up rf i v) zz))) (gB D (aWl cI cJ cB ra rn (fun zz => lN (rf zz)))) (aW (aWl cI cJ cB ra rn (fun zz => lN (rf zz))))) 0 0 (aW (aWl cI cJ cB ra rn (fun zz => lN (rf zz)))) := by
  refine Met.ofW (cc := cX7_put_) (maxL := 4) (ret := none) (by decide) rfl ?_
  intro p e s m args below meth c s₁ B hml hv
  obtain ⟨rfl, hK, hN, hP, hD0⟩ := hv
  have hx := B.exec; have hb := B.bytes; have hr := B.returns; have hlocks := B.notSynchronized
  have hts0 := atoms_spec (ws := Cond.code yX7_put_ cX7_put_ 4 none :: lw_all) B.pre
  have hC : CallFix p m c cX7_put_ 4 s _ lw_all RX7 := ⟨hx, hb, hml, findClass_of_methodNamed B.named, fun w h => hts0 w (List.mem_cons_of_mem _ h)⟩
  have hD : va_D (aW (aWl cI cJ cB ra rn (fun zz => lN (rf zz)))) (aWl cI cJ cB ra rn (fun zz => lN (rf zz))) := ⟨hD0.1, fun k q h => ⟨k, q.2, h⟩⟩
  generalize hAe : aW (aWl cI cJ cB ra rn (fun zz => lN (rf zz))) = A at hD ⊢
  have hS : va_S A s.heap s.heap [] := va_S.rf
  have hl := lv_entry ([.ref ra, .int (nI i), .long (lN v)]) (n := 4) (Nat.le_of_ble_eq_true rfl)
  rw [lg_entry_eq]
  generalize (lg_sl ([.ref ra, .int (nI i), .long (lN v)]) ++ List.replicate (4 - (lg_sl ([.ref ra, .int (nI i), .long (lN v)])).length) Slot.unset).toArray = ls at hl ⊢
  have hl : lv_has ls 4 [(0, .ref ra), (1, .int (nI i)), (2, .long (lN v))] := hl
  generalize hav : ([.ref ra, .int (nI i), .long (lN v)] : List Value).toArray = args at hC ⊢
  refine W_gen (fun QQ hQ => ?_)
  show W p l e (rmN 0) s m args below meth c s.heap [] 0 0 QQ (F0 m 0 ls [])
  refine lv_iload_n hx hb dX7_put__0 rfl (lv_at hl 1 rfl) ?_
  refine n_if_lt (tgt := 14) hx hb dX7_put__1 (by decide) (by omega) ?_
  refine lv_iload_n hx hb dX7_put__4 rfl (lv_at hl 1 rfl) ?_
  refine lv_aload_n hx hb dX7_put__5 rfl (lv_at hl 0 rfl) ?_
  refine va_alen hx hb hK hP 0 1 rfl rfl (v := nI rn) rfl dX7_put__6 ?_
  refine n_icmp_ge (a := i) (b := rn) (tgt := 14) hx hb dX7_put__7 (by decide) (by omega) (by omega) (fun c7 => ?_) (fun c7 => ?_)
  · have _ : True := trivial
    exact absurd c7 (by omega)
  · have _ : True := trivial
    refine lv_aload_n hx hb dX7_put__10 rfl (lv_at hl 0 rfl) ?_
    refine lv_iload_n hx hb dX7_put__11 rfl (lv_at hl 1 rfl) ?_
    refine lv_lload_n hx hb dX7_put__12 rfl (lv_at hl 2 rfl) ?_
    refine n_last hx hb hK hP hD hS 0 1 rfl rfl (by omega) (by first | decide | omega) (up_lN _ _ _) (ws1 := aWl cI cJ cB ra rn (fun zz => lN ((va_up rf i v) zz))) rfl dX7_put__13 (fun H locs hP hD hS => ?_)
    rw [hQ]
    exact W.vret hx hb hr (fun t9 ht hW => ⟨⟨_, rfl, rfl, by rw [ht]; exact hP, rfl⟩, hS.F ht⟩) hS.2.2 dX7_put__14

set_option maxHeartbeats 400000 in
set_option maxRecDepth 100000 in
theorem c_X0_directionsOf (l : Launch) (D : va_G) (cI cJ cB : ClassId) (h hs hw hh hp se wd hd nb wl : Nat) (st sl : Int32) (gl aq lb : Option Nat) (sh bw bh ps : Nat → Nat) (b : Nat) (htv : TV wd hd nb wl sh bw bh ps gl aq lb) (hbn : b < nb) : Met l yX0_directionsOf (Cond.code yX0_directionsOf cX0_directionsOf 3 (some .int) :: lw_all) (rmN 3) (va_Pc [.ref h, .int (nI b)] (pB D (tyz cI cJ cB) (bW cI cJ cB h hs hw hh hp (nI se) (nI wd) (nI hd) (nI wl) (nI nb) (nI (topv wd)) (nI (rcv wd hd)) (nI (btv wd hd)) (nI (lcv wd hd)) (gI gl) (gI aq) st sl (gI lb) (fun zz => nI (sh zz)) (fun zz => nI (bw zz)) (fun zz => nI (bh zz)) (fun zz => nI (ps zz))))) (va_Qi (fun (r : Int32) (w : va_W) => r = nI (dset (fun d => mvt wd hd (bw b) (bh b) (sh b) (tk wl sh (pkey ps nb) (exb none (some b)) nb) (ps b) d) 4) ∧ w = bW cI cJ cB h hs hw hh hp (nI se) (nI wd) (nI hd) (nI wl) (nI nb) (nI (topv wd)) (nI (rcv wd hd)) (nI (btv wd hd)) (nI (lcv wd hd)) (gI gl) (gI aq) st sl (gI lb) (fun zz => nI (sh zz)) (fun zz => nI (bw zz)) (fun zz => nI (bh zz)) (fun zz => nI (ps zz))) (gB D (bW cI cJ cB h hs hw hh hp (nI se) (nI wd) (nI hd) (nI wl) (nI nb) (nI (topv wd)) (nI (rcv wd hd)) (nI (btv wd hd)) (nI (lcv wd hd)) (gI gl) (gI aq) st sl (gI lb) (fun zz => nI (sh zz)) (fun zz => nI (bw zz)) (fun zz => nI (bh zz)) (fun zz => nI (ps zz)))) (aW (bW cI cJ cB h hs hw hh hp (nI se) (nI wd) (nI hd) (nI wl) (nI nb) (nI (topv wd)) (nI (rcv wd hd)) (nI (btv wd hd)) (nI (lcv wd hd)) (gI gl) (gI aq) st sl (gI lb) (fun zz => nI (sh zz)) (fun zz => nI (bw zz)) (fun zz => nI (bh zz)) (fun zz => nI (ps zz))))) 0 0 (aW (bW cI cJ cB h hs hw hh hp (nI se) (nI wd) (nI hd) (nI wl) (nI nb) (nI (topv wd)) (nI (rcv wd hd)) (nI (btv wd hd)) (nI (lcv wd hd)) (gI gl) (gI aq) st sl (gI lb) (fun zz => nI (sh zz)) (fun zz => nI (bw zz)) (fun zz => nI (bh zz)) (fun zz => nI (ps zz)))) := by
  refine Met.ofW (cc := cX0_directionsOf) (maxL := 3) (ret := (some .int)) (by decide) rfl ?_
  intro p e s m args below meth c s₁ B hml hv
  obtain ⟨rfl, hK, hN, hP, hD0⟩ := hv
  have hx := B.exec; have hb := B.bytes; have hr := B.returns; have hlocks := B.notSynchronized
  have hts0 := atoms_spec (ws := Cond.code yX0_directionsOf cX0_directionsOf 3 (some .int) :: lw_all) B.pre
  have hC : CallFix p m c cX0_directionsOf 3 s _ lw_all RX0 := ⟨hx, hb, hml, findClass_of_methodNamed B.named, fun w h => hts0 w (List.mem_cons_of_mem _ h)⟩
  have hD : va_D (aW (bW cI cJ cB h hs hw hh hp (nI se) (nI wd) (nI hd) (nI wl) (nI nb) (nI (topv wd)) (nI (rcv wd hd)) (nI (btv wd hd)) (nI (lcv wd hd)) (gI gl) (gI aq) st sl (gI lb) (fun zz => nI (sh zz)) (fun zz => nI (bw zz)) (fun zz => nI (bh zz)) (fun zz => nI (ps zz)))) (bW cI cJ cB h hs hw hh hp (nI se) (nI wd) (nI hd) (nI wl) (nI nb) (nI (topv wd)) (nI (rcv wd hd)) (nI (btv wd hd)) (nI (lcv wd hd)) (gI gl) (gI aq) st sl (gI lb) (fun zz => nI (sh zz)) (fun zz => nI (bw zz)) (fun zz => nI (bh zz)) (fun zz => nI (ps zz))) := ⟨hD0.1, fun k q h => ⟨k, q.2, h⟩⟩
  generalize hAe : aW (bW cI cJ cB h hs hw hh hp (nI se) (nI wd) (nI hd) (nI wl) (nI nb) (nI (topv wd)) (nI (rcv wd hd)) (nI (btv wd hd)) (nI (lcv wd hd)) (gI gl) (gI aq) st sl (gI lb) (fun zz => nI (sh zz)) (fun zz => nI (bw zz)) (fun zz => nI (bh zz)) (fun zz => nI (ps zz))) = A at hD ⊢
  have hS : va_S A s.heap s.heap [] := va_S.rf
  have hl := lv_entry ([.ref h, .int (nI b)]) (n := 3) (Nat.le_of_ble_eq_true rfl)
  rw [lg_entry_eq]
  generalize (lg_sl ([.ref h, .int (nI b)]) ++ List.replicate (3 - (lg_sl ([.ref h, .int (nI b)])).length) Slot.unset).toArray = ls at hl ⊢
  have hl : lv_has ls 3 [(0, .ref h), (1, .int (nI b))] := hl
  generalize hav : ([.ref h, .int (nI b)] : List Value).toArray = args at hC ⊢
  refine W_gen (fun QQ hQ => ?_)
  show W p l e (rmN 3) s m args below meth c s.heap [] 0 0 QQ (F0 m 0 ls [])
  obtain ⟨hf, hps, hk1, hga, hlb⟩ := id htv
  have hn7 := hf.2.2.2.2.2.1
  have h24 := hf.2.2.2.2.1
  have hsb := hf.2.2.2.2.2.2.2 b hbn
  obtain ⟨hpl, hpe⟩ := KV_pl hn7 hps hk1 hbn
  have hpb := hps b hbn
  have hcl24 : sh b <<< ps b < 2 ^ 24 := Nat.lt_of_lt_of_le (cell_lt hf.1 hsb hpl) (Nat.pow_le_pow_right (by decide) h24)
  have hot24 : (tk wl sh (pkey ps nb) (exb none (some b)) nb) < 2 ^ 24 := tk_lt hf hk1 (fun _ h => exb_no h)
  have hoth := tkp_others hn7 hps hk1 hbn
  refine lv_aload_n hx hb dX0_directionsOf_0 rfl (lv_at hl 0 rfl) ?_
  refine lv_iload_n hx hb dX0_directionsOf_1 rfl (lv_at hl 1 rfl) ?_
  refine callV_i (As := [.int (nI b)]) (rest := []) [0, 1, 2, 3, 4] hC hK hN hP hD rfl (by decide) hS 0 (ci := 0) rfl rfl rfl (c_X0_cellsOf l D cI cJ cB h hs hw hh hp se wd hd nb wl st sl gl aq lb sh bw bh ps b (by omega) hpb) q397 md_X0_cellsOf rfl hl.1 rfl (Nat.le_of_ble_eq_true rfl) dX0_directionsOf_2 ⟨Nat.le_of_ble_eq_true rfl, Nat.le_of_ble_eq_true rfl⟩ ⟨Nat.le_of_ble_eq_true rfl, Nat.le_of_ble_eq_true rfl⟩ (fun r_2 w H locs hpost hP hD hS => ?_)
  obtain ⟨rfl, rfl⟩ := hpost
  have hP : va_P D vwCl (bW cI cJ cB h hs hw hh hp (nI se) (nI wd) (nI hd) (nI wl) (nI nb) (nI (topv wd)) (nI (rcv wd hd)) (nI (btv wd hd)) (nI (lcv wd hd)) (gI gl) (gI aq) st sl (gI lb) (fun zz => nI (sh zz)) (fun zz => nI (bw zz)) (fun zz => nI (bh zz)) (fun zz => nI (ps zz))) H := hP
  have hD : va_D A (bW cI cJ cB h hs hw hh hp (nI se) (nI wd) (nI hd) (nI wl) (nI nb) (nI (topv wd)) (nI (rcv wd hd)) (nI (btv wd hd)) (nI (lcv wd hd)) (gI gl) (gI aq) st sl (gI lb) (fun zz => nI (sh zz)) (fun zz => nI (bw zz)) (fun zz => nI (bh zz)) (fun zz => nI (ps zz))) := hD
  refine lv_istore_n (lv' := [(2, .int (nI (sh b <<< ps b))), (0, .ref h), (1, .int (nI b))]) hx hb dX0_directionsOf_5 rfl hl (by decide) rfl (fun ls hl => ?_)
  refine lv_aload_n hx hb dX0_directionsOf_6 rfl (lv_at hl 1 rfl) ?_
  refine lv_iload_n hx hb dX0_directionsOf_7 rfl (lv_at hl 0 rfl) ?_
  refine lv_aload_n hx hb dX0_directionsOf_8 rfl (lv_at hl 1 rfl) ?_
  refine callV_i (As := []) (rest := [.int (nI (sh b <<< ps b)), .ref h]) [0, 1, 2, 3, 4] hC hK hN hP hD rfl (by decide) hS 0 (ci := 0) rfl rfl rfl (c_X0_taken l D cI cJ cB h hs hw hh hp se wd hd nb wl st sl gl aq lb sh bw bh ps (by omega) hps) q434 md_X0_taken rfl hl.1 rfl (Nat.le_of_ble_eq_true rfl) dX0_directionsOf_9 ⟨Nat.le_of_ble_eq_true rfl, Nat.le_of_ble_eq_true rfl⟩ ⟨Nat.le_of_ble_eq_true rfl, Nat.le_of_ble_eq_true rfl⟩ (fun r_9 w H locs hpost hP hD hS => ?_)
  obtain ⟨rfl, rfl⟩ := hpost
  have hP : va_P D vwCl (bW cI cJ cB h hs hw hh hp (nI se) (nI wd) (nI hd) (nI wl) (nI nb) (nI (topv wd)) (nI (rcv wd hd)) (nI (btv wd hd)) (nI (lcv wd hd)) (gI gl) (gI aq) st sl (gI lb) (fun zz => nI (sh zz)) (fun zz => nI (bw zz)) (fun zz => nI (bh zz)) (fun zz => nI (ps zz))) H := hP
  have hD : va_D A (bW cI cJ cB h hs hw hh hp (nI se) (nI wd) (nI hd) (nI wl) (nI nb) (nI (topv wd)) (nI (rcv wd hd)) (nI (btv wd hd)) (nI (lcv wd hd)) (gI gl) (gI aq) st sl (gI lb) (fun zz => nI (sh zz)) (fun zz => nI (bw zz)) (fun zz => nI (bh zz)) (fun zz => nI (ps zz))) := hD
  refine lv_iload_n hx hb dX0_directionsOf_12 rfl (lv_at hl 0 rfl) ?_
  refine lv_iconst (v := (-1)) hx hb dX0_directionsOf_13 (by decide) ?_
  refine lv_ixor hx hb dX0_directionsOf_14 ?_
  refine n_iandn hx hb dX0_directionsOf_15 ?_
  refine topi (y := nI (tk wl sh (pkey ps nb) (exb none (some b)) nb)) (by rw [hoth]) ?_
  refine callV_i (As := [.int (nI (sh b <<< ps b)), .int (nI (tk wl sh (pkey ps nb) (exb none (some b)) nb))]) (rest := []) [0, 1, 2, 3, 4] hC hK hN hP hD rfl (by decide) hS 0 (ci := 0) rfl rfl rfl (c_X0_directions l D cI cJ cB h hs hw hh hp se wd hd nb wl st sl gl aq lb sh bw bh ps (sh b <<< ps b) (tk wl sh (pkey ps nb) (exb none (some b)) nb) (sh b) (bw b) (bh b) (ps b) rfl hf.1 hf.2.1 hf.2.2.1 hsb hpl (by omega) (by omega)) q435 md_X0_directions rfl hl.1 rfl (Nat.le_of_ble_eq_true rfl) dX0_directionsOf_16 ⟨Nat.le_of_ble_eq_true rfl, Nat.le_of_ble_eq_true rfl⟩ ⟨Nat.le_of_ble_eq_true rfl, Nat.le_of_ble_eq_true rfl⟩ (fun r_16 w H locs hpost hP hD hS => ?_)
  obtain ⟨rfl, rfl⟩ := hpost
  have hP : va_P D vwCl (bW cI cJ cB h hs hw hh hp (nI se) (nI wd) (nI hd) (nI wl) (nI nb) (nI (topv wd)) (nI (rcv wd hd)) (nI (btv wd hd)) (nI (lcv wd hd)) (gI gl) (gI aq) st sl (gI lb) (fun zz => nI (sh zz)) (fun zz => nI (bw zz)) (fun zz => nI (bh zz)) (fun zz => nI (ps zz))) H := hP
  have hD : va_D A (bW cI cJ cB h hs hw hh hp (nI se) (nI wd) (nI hd) (nI wl) (nI nb) (nI (topv wd)) (nI (rcv wd hd)) (nI (btv wd hd)) (nI (lcv wd hd)) (gI gl) (gI aq) st sl (gI lb) (fun zz => nI (sh zz)) (fun zz => nI (bw zz)) (fun zz => nI (bh zz)) (fun zz => nI (ps zz))) := hD
  rw [hQ]
  exact W.iret (v := nI (dset (fun d => mvt wd hd (bw b) (bh b) (sh b) (tk wl sh (pkey ps nb) (exb none (some b)) nb) (ps b) d) 4)) hx hb hr (fun t9 ht hW => ⟨⟨_, _, rfl, ⟨rfl, rfl⟩, by rw [ht]; exact hP, rfl⟩, hS.F ht⟩) hS.2.2 dX0_directionsOf_19

set_option maxHeartbeats 400000 in
set_option maxRecDepth 100000 in
theorem c_X0_keyAfter (l : Launch) (D : va_G) (cI cJ cB : ClassId) (h hs hw hh hp se wd hd nb wl : Nat) (st sl : Int32) (gl aq lb : Option Nat) (sh bw bh ps : Nat → Nat) (b q : Nat) (hn7 : nb ≤ 7) (hps : ∀ b, b < nb → ps b < 32) (hbn : b < nb) (hq : q < 32) : Met l yX0_keyAfter (Cond.code yX0_keyAfter cX0_keyAfter 3 (some .long) :: lw_all) (rmN 2) (va_Pc [.ref h, .int (nI b), .int (nI q)] (pB D (tyz cI cJ cB) (bW cI cJ cB h hs hw hh hp (nI se) (nI wd) (nI hd) (nI wl) (nI nb) (nI (topv wd)) (nI (rcv wd hd)) (nI (btv wd hd)) (nI (lcv wd hd)) (gI gl) (gI aq) st sl (gI lb) (fun zz => nI (sh zz)) (fun zz => nI (bw zz)) (fun zz => nI (bh zz)) (fun zz => nI (ps zz))))) (va_Ql (fun (r : Int64) (w : va_W) => r = lN (wth (pkey ps nb) b q) ∧ w = bW cI cJ cB h hs hw hh hp (nI se) (nI wd) (nI hd) (nI wl) (nI nb) (nI (topv wd)) (nI (rcv wd hd)) (nI (btv wd hd)) (nI (lcv wd hd)) (gI gl) (gI aq) st sl (gI lb) (fun zz => nI (sh zz)) (fun zz => nI (bw zz)) (fun zz => nI (bh zz)) (fun zz => nI (ps zz))) (gB D (bW cI cJ cB h hs hw hh hp (nI se) (nI wd) (nI hd) (nI wl) (nI nb) (nI (topv wd)) (nI (rcv wd hd)) (nI (btv wd hd)) (nI (lcv wd hd)) (gI gl) (gI aq) st sl (gI lb) (fun zz => nI (sh zz)) (fun zz => nI (bw zz)) (fun zz => nI (bh zz)) (fun zz => nI (ps zz)))) (aW (bW cI cJ cB h hs hw hh hp (nI se) (nI wd) (nI hd) (nI wl) (nI nb) (nI (topv wd)) (nI (rcv wd hd)) (nI (btv wd hd)) (nI (lcv wd hd)) (gI gl) (gI aq) st sl (gI lb) (fun zz => nI (sh zz)) (fun zz => nI (bw zz)) (fun zz => nI (bh zz)) (fun zz => nI (ps zz))))) 0 0 (aW (bW cI cJ cB h hs hw hh hp (nI se) (nI wd) (nI hd) (nI wl) (nI nb) (nI (topv wd)) (nI (rcv wd hd)) (nI (btv wd hd)) (nI (lcv wd hd)) (gI gl) (gI aq) st sl (gI lb) (fun zz => nI (sh zz)) (fun zz => nI (bw zz)) (fun zz => nI (bh zz)) (fun zz => nI (ps zz)))) := by
  refine Met.ofW (cc := cX0_keyAfter) (maxL := 3) (ret := (some .long)) (by decide) rfl ?_
  intro p e s m args below meth c s₁ B hml hv
  obtain ⟨rfl, hK, hN, hP, hD0⟩ := hv
  have hx := B.exec; have hb := B.bytes; have hr := B.returns; have hlocks := B.notSynchronized
  have hts0 := atoms_spec (ws := Cond.code yX0_keyAfter cX0_keyAfter 3 (some .long) :: lw_all) B.pre
  have hC : CallFix p m c cX0_keyAfter 3 s _ lw_all RX0 := ⟨hx, hb, hml, findClass_of_methodNamed B.named, fun w h => hts0 w (List.mem_cons_of_mem _ h)⟩
  have hD : va_D (aW (bW cI cJ cB h hs hw hh hp (nI se) (nI wd) (nI hd) (nI wl) (nI nb) (nI (topv wd)) (nI (rcv wd hd)) (nI (btv wd hd)) (nI (lcv wd hd)) (gI gl) (gI aq) st sl (gI lb) (fun zz => nI (sh zz)) (fun zz => nI (bw zz)) (fun zz => nI (bh zz)) (fun zz => nI (ps zz)))) (bW cI cJ cB h hs hw hh hp (nI se) (nI wd) (nI hd) (nI wl) (nI nb) (nI (topv wd)) (nI (rcv wd hd)) (nI (btv wd hd)) (nI (lcv wd hd)) (gI gl) (gI aq) st sl (gI lb) (fun zz => nI (sh zz)) (fun zz => nI (bw zz)) (fun zz => nI (bh zz)) (fun zz => nI (ps zz))) := ⟨hD0.1, fun k q h => ⟨k, q.2, h⟩⟩
  generalize hAe : aW (bW cI cJ cB h hs hw hh hp (nI se) (nI wd) (nI hd) (nI wl) (nI nb) (nI (topv wd)) (nI (rcv wd hd)) (nI (btv wd hd)) (nI (lcv wd hd)) (gI gl) (gI aq) st sl (gI lb) (fun zz => nI (sh zz)) (fun zz => nI (bw zz)) (fun zz => nI (bh zz)) (fun zz => nI (ps zz))) = A at hD ⊢
  have hS : va_S A s.heap s.heap [] := va_S.rf
  have hl := lv_entry ([.ref h, .int (nI b), .int (nI q)]) (n := 3) (Nat.le_of_ble_eq_true rfl)
  rw [lg_entry_eq]
  generalize (lg_sl ([.ref h, .int (nI b), .int (nI q)]) ++ List.replicate (3 - (lg_sl ([.ref h, .int (nI b), .int (nI q)])).length) Slot.unset).toArray = ls at hl ⊢
  have hl : lv_has ls 3 [(0, .ref h), (1, .int (nI b)), (2, .int (nI q))] := hl
  generalize hav : ([.ref h, .int (nI b), .int (nI q)] : List Value).toArray = args at hC ⊢
  refine W_gen (fun QQ hQ => ?_)
  show W p l e (rmN 2) s m args below meth c s.heap [] 0 0 QQ (F0 m 0 ls [])
  have hpe := plc_pkey hn7 hps b hbn
  refine lv_aload_n hx hb dX0_keyAfter_0 rfl (lv_at hl 0 rfl) ?_
  refine lv_bipush (v := (-9)) hx hb dX0_keyAfter_1 (by decide) ?_
  refine callV_l (As := [.int (-9)]) (rest := []) [0, 1, 2, 3, 4] hC hK hN hP hD rfl (by decide) hS 0 (ci := 0) rfl rfl rfl (c_X0_key l D cI cJ cB h hs hw hh hp se wd hd nb wl st sl gl aq lb sh bw bh ps none (by omega) hps (fun d h => by cases h)) q653 md_X0_key rfl hl.1 rfl (Nat.le_of_ble_eq_true rfl) dX0_keyAfter_3 ⟨Nat.le_of_ble_eq_true rfl, Nat.le_of_ble_eq_true rfl⟩ ⟨Nat.le_of_ble_eq_true rfl, Nat.le_of_ble_eq_true rfl⟩ (fun r_3 w H locs hpost hP hD hS => ?_)
  obtain ⟨rfl, rfl⟩ := hpost
  have hP : va_P D vwCl (bW cI cJ cB h hs hw hh hp (nI se) (nI wd) (nI hd) (nI wl) (nI nb) (nI (topv wd)) (nI (rcv wd hd)) (nI (btv wd hd)) (nI (lcv wd hd)) (gI gl) (gI aq) st sl (gI lb) (fun zz => nI (sh zz)) (fun zz => nI (bw zz)) (fun zz => nI (bh zz)) (fun zz => nI (ps zz))) H := hP
  have hD : va_D A (bW cI cJ cB h hs hw hh hp (nI se) (nI wd) (nI hd) (nI wl) (nI nb) (nI (topv wd)) (nI (rcv wd hd)) (nI (btv wd hd)) (nI (lcv wd hd)) (gI gl) (gI aq) st sl (gI lb) (fun zz => nI (sh zz)) (fun zz => nI (bw zz)) (fun zz => nI (bh zz)) (fun zz => nI (ps zz))) := hD
  refine topl (y := lN (pkey ps nb)) (by rw [keyx_none nb hn7 hps]) ?_
  refine lv_iload_n hx hb dX0_keyAfter_6 rfl (lv_at hl 2 rfl) ?_
  refine lv_aload_n hx hb dX0_keyAfter_7 rfl (lv_at hl 0 rfl) ?_
  refine gf_X0_25 hC hK hP 0 rfl rfl dX0_keyAfter_8 ?_
  refine lv_iload_n hx hb dX0_keyAfter_11 rfl (lv_at hl 1 rfl) ?_
  refine callN_i (As := [.ref hp, .int (nI b)]) (rest := [.int (nI q), .long (lN (pkey ps nb))]) [4] hC hK hN hP hD rfl (by decide) hS (c_X7_at_N l D cI cJ cB hp 7 b ps (by omega) (by omega)) q401 md_X7_at rfl hl.1 rfl (Nat.le_of_ble_eq_true rfl) dX0_keyAfter_12 ⟨Nat.le_of_ble_eq_true rfl, Nat.le_of_ble_eq_true rfl⟩ ⟨Nat.le_of_ble_eq_true rfl, Nat.le_of_ble_eq_true rfl⟩ (fun r_12 w H locs hpost hP hD hS => ?_)
  obtain ⟨rfl, rfl⟩ := hpost
  have hP : va_P D vwCl (bW cI cJ cB h hs hw hh hp (nI se) (nI wd) (nI hd) (nI wl) (nI nb) (nI (topv wd)) (nI (rcv wd hd)) (nI (btv wd hd)) (nI (lcv wd hd)) (gI gl) (gI aq) st sl (gI lb) (fun zz => nI (sh zz)) (fun zz => nI (bw zz)) (fun zz => nI (bh zz)) (fun zz => nI (ps zz))) H := hP
  have hD : va_D A (bW cI cJ cB h hs hw hh hp (nI se) (nI wd) (nI hd) (nI wl) (nI nb) (nI (topv wd)) (nI (rcv wd hd)) (nI (btv wd hd)) (nI (lcv wd hd)) (gI gl) (gI aq) st sl (gI lb) (fun zz => nI (sh zz)) (fun zz => nI (bw zz)) (fun zz => nI (bh zz)) (fun zz => nI (ps zz))) := hD
  refine lv_isub hx hb dX0_keyAfter_15 ?_
  refine lv_i2l hx hb dX0_keyAfter_16 rfl ?_
  refine lv_iload_n hx hb dX0_keyAfter_17 rfl (lv_at hl 1 rfl) ?_
  refine callN_i (As := [.int (nI b)]) (rest := [.long (((nI q) - (nI (ps b))).toInt64), .long (lN (pkey ps nb))]) [] hC hK hN hP hD rfl (by decide) hS (c_X7_keyShift l D cI cJ cB b (by omega)) q494 md_X7_keyShift rfl hl.1 rfl (Nat.le_of_ble_eq_true rfl) dX0_keyAfter_18 ⟨Nat.le_of_ble_eq_true rfl, Nat.le_of_ble_eq_true rfl⟩ ⟨Nat.le_of_ble_eq_true rfl, Nat.le_of_ble_eq_true rfl⟩ (fun r_18 w H locs hpost hP hD hS => ?_)
  obtain ⟨rfl, rfl⟩ := hpost
  have hP : va_P D vwCl (bW cI cJ cB h hs hw hh hp (nI se) (nI wd) (nI hd) (nI wl) (nI nb) (nI (topv wd)) (nI (rcv wd hd)) (nI (btv wd hd)) (nI (lcv wd hd)) (gI gl) (gI aq) st sl (gI lb) (fun zz => nI (sh zz)) (fun zz => nI (bw zz)) (fun zz => nI (bh zz)) (fun zz => nI (ps zz))) H := hP
  have hD : va_D A (bW cI cJ cB h hs hw hh hp (nI se) (nI wd) (nI hd) (nI wl) (nI nb) (nI (topv wd)) (nI (rcv wd hd)) (nI (btv wd hd)) (nI (lcv wd hd)) (gI gl) (gI aq) st sl (gI lb) (fun zz => nI (sh zz)) (fun zz => nI (bw zz)) (fun zz => nI (bh zz)) (fun zz => nI (ps zz))) := hD
  refine lv_lshl hx hb dX0_keyAfter_21 rfl ?_
  refine lv_ladd hx hb dX0_keyAfter_22 ?_
  refine topl (y := lN (wth (pkey ps nb) b q)) (by rw [← hpe]; exact key_to (by omega) hq) ?_
  rw [hQ]
  exact W.lret (v := lN (wth (pkey ps nb) b q)) hx hb hr (fun t9 ht hW => ⟨⟨_, _, rfl, ⟨rfl, rfl⟩, by rw [ht]; exact hP, rfl⟩, hS.F ht⟩) hS.2.2 dX0_keyAfter_23

set_option maxHeartbeats 400000 in
set_option maxRecDepth 100000 in
theorem c_X0_isJoined (l : Launch) (D : va_G) (cI cJ cB : ClassId) (h hs hw hh hp se wd hd nb wl : Nat) (st sl : Int32) (gl aq lb : Option Nat) (sh bw bh ps : Nat → Nat) (g : Nat) (hw1 : 1 ≤ wd) (hw6 : wd ≤ 6) (h24 : wd * hd ≤ 24) (hg : g < 2 ^ (wd * hd)) : Met l yX0_isJoined (Cond.code yX0_isJoined cX0_isJoined 6 (some .boolean) :: lw_all) (rmN 0) (va_Pc [.ref h, .int (nI g)] (pB D (tyz cI cJ cB) (bW cI cJ cB h hs hw hh hp (nI se) (nI wd) (nI hd) (nI wl) (nI nb) (nI (topv wd)) (nI (rcv wd hd)) (nI (btv wd hd)) (nI (lcv wd hd)) (gI gl) (gI aq) st sl (gI lb) (fun zz => nI (sh zz)) (fun zz => nI (bw zz)) (fun zz => nI (bh zz)) (fun zz => nI (ps zz))))) (va_Qi (fun (r : Int32) (w : va_W) => r = bI (isone wd hd g) ∧ w = bW cI cJ cB h hs hw hh hp (nI se) (nI wd) (nI hd) (nI wl) (nI nb) (nI (topv wd)) (nI (rcv wd hd)) (nI (btv wd hd)) (nI (lcv wd hd)) (gI gl) (gI aq) st sl (gI lb) (fun zz => nI (sh zz)) (fun zz => nI (bw zz)) (fun zz => nI (bh zz)) (fun zz => nI (ps zz))) (gB D (bW cI cJ cB h hs hw hh hp (nI se) (nI wd) (nI hd) (nI wl) (nI nb) (nI (topv wd)) (nI (rcv wd hd)) (nI (btv wd hd)) (nI (lcv wd hd)) (gI gl) (gI aq) st sl (gI lb) (fun zz => nI (sh zz)) (fun zz => nI (bw zz)) (fun zz => nI (bh zz)) (fun zz => nI (ps zz)))) (aW (bW cI cJ cB h hs hw hh hp (nI se) (nI wd) (nI hd) (nI wl) (nI nb) (nI (topv wd)) (nI (rcv wd hd)) (nI (btv wd hd)) (nI (lcv wd hd)) (gI gl) (gI aq) st sl (gI lb) (fun zz => nI (sh zz)) (fun zz => nI (bw zz)) (fun zz => nI (bh zz)) (fun zz => nI (ps zz))))) 0 0 (aW (bW cI cJ cB h hs hw hh hp (nI se) (nI wd) (nI hd) (nI wl) (nI nb) (nI (topv wd)) (nI (rcv wd hd)) (nI (btv wd hd)) (nI (lcv wd hd)) (gI gl) (gI aq) st sl (gI lb) (fun zz => nI (sh zz)) (fun zz => nI (bw zz)) (fun zz => nI (bh zz)) (fun zz => nI (ps zz)))) := by
  refine Met.ofW (cc := cX0_isJoined) (maxL := 6) (ret := (some .boolean)) (by decide) rfl ?_
  intro p e s m args below meth c s₁ B hml hv
  obtain ⟨rfl, hK, hN, hP, hD0⟩ := hv
  have hx := B.exec; have hb := B.bytes; have hr := B.returns; have hlocks := B.notSynchronized
  have hts0 := atoms_spec (ws := Cond.code yX0_isJoined cX0_isJoined 6 (some .boolean) :: lw_all) B.pre
  have hC : CallFix p m c cX0_isJoined 6 s _ lw_all RX0 := ⟨hx, hb, hml, findClass_of_methodNamed B.named, fun w h => hts0 w (List.mem_cons_of_mem _ h)⟩
  have hD : va_D (aW (bW cI cJ cB h hs hw hh hp (nI se) (nI wd) (nI hd) (nI wl) (nI nb) (nI (topv wd)) (nI (rcv wd hd)) (nI (btv wd hd)) (nI (lcv wd hd)) (gI gl) (gI aq) st sl (gI lb) (fun zz => nI (sh zz)) (fun zz => nI (bw zz)) (fun zz => nI (bh zz)) (fun zz => nI (ps zz)))) (bW cI cJ cB h hs hw hh hp (nI se) (nI wd) (nI hd) (nI wl) (nI nb) (nI (topv wd)) (nI (rcv wd hd)) (nI (btv wd hd)) (nI (lcv wd hd)) (gI gl) (gI aq) st sl (gI lb) (fun zz => nI (sh zz)) (fun zz => nI (bw zz)) (fun zz => nI (bh zz)) (fun zz => nI (ps zz))) := ⟨hD0.1, fun k q h => ⟨k, q.2, h⟩⟩
  generalize hAe : aW (bW cI cJ cB h hs hw hh hp (nI se) (nI wd) (nI hd) (nI wl) (nI nb) (nI (topv wd)) (nI (rcv wd hd)) (nI (btv wd hd)) (nI (lcv wd hd)) (gI gl) (gI aq) st sl (gI lb) (fun zz => nI (sh zz)) (fun zz => nI (bw zz)) (fun zz => nI (bh zz)) (fun zz => nI (ps zz))) = A at hD ⊢
  have hS : va_S A s.heap s.heap [] := va_S.rf
  have hl := lv_entry ([.ref h, .int (nI g)]) (n := 6) (Nat.le_of_ble_eq_true rfl)
  rw [lg_entry_eq]
  generalize (lg_sl ([.ref h, .int (nI g)]) ++ List.replicate (6 - (lg_sl ([.ref h, .int (nI g)])).length) Slot.unset).toArray = ls at hl ⊢
  have hl : lv_has ls 6 [(0, .ref h), (1, .int (nI g))] := hl
  generalize hav : ([.ref h, .int (nI g)] : List Value).toArray = args at hC ⊢
  refine W_gen (fun QQ hQ => ?_)
  show W p l e (rmN 0) s m args below meth c s.heap [] 0 0 QQ (F0 m 0 ls [])
  have hg31 : g < 2 ^ 31 := Nat.lt_of_lt_of_le hg (Nat.pow_le_pow_right (by decide) (by omega))
  refine lv_iload_n hx hb dX0_isJoined_0 rfl (lv_at hl 1 rfl) ?_
  refine lv_iload_n hx hb dX0_isJoined_1 rfl (lv_at hl 1 rfl) ?_
  refine lv_ineg hx hb dX0_isJoined_2 ?_
  refine lv_iand hx hb dX0_isJoined_3 ?_
  refine topi (y := nI (grow wd hd g 0)) (by rw [← lob_eq g]; rfl) ?_
  refine lv_istore_n (lv' := [(2, .int (nI (grow wd hd g 0))), (0, .ref h), (1, .int (nI g))]) hx hb dX0_isJoined_4 rfl hl (by decide) rfl (fun ls hl => ?_)
  refine lv_iconst (v := nI 0) hx hb dX0_isJoined_5 (by decide) ?_
  refine lv_istore_n (lv' := [(3, .int (nI 0)), (2, .int (nI (grow wd hd g 0))), (0, .ref h), (1, .int (nI g))]) hx hb dX0_isJoined_6 rfl hl (by decide) rfl (fun ls hl => ?_)
  have L7 : ∀ (n : Nat) (i : Nat), (i ≤ 24) → (24 - i) < n → ∀ (H : Heap) (locs : List Loc), va_P D vwCl (bW cI cJ cB h hs hw hh hp (nI se) (nI wd) (nI hd) (nI wl) (nI nb) (nI (topv wd)) (nI (rcv wd hd)) (nI (btv wd hd)) (nI (lcv wd hd)) (gI gl) (gI aq) st sl (gI lb) (fun zz => nI (sh zz)) (fun zz => nI (bw zz)) (fun zz => nI (bh zz)) (fun zz => nI (ps zz))) H → va_D A (bW cI cJ cB h hs hw hh hp (nI se) (nI wd) (nI hd) (nI wl) (nI nb) (nI (topv wd)) (nI (rcv wd hd)) (nI (btv wd hd)) (nI (lcv wd hd)) (gI gl) (gI aq) st sl (gI lb) (fun zz => nI (sh zz)) (fun zz => nI (bw zz)) (fun zz => nI (bh zz)) (fun zz => nI (ps zz))) → va_S A s.heap H locs → ∀ ls : Array Slot, lv_has ls 6 [(2, .int (nI (grow wd hd g i))), (3, .int (nI i)), (0, .ref h), (1, .int (nI g))] → W p l e (rmN 0) s m args below meth c H locs 0 0 QQ (F0 m 7 ls []) := by
    intro n; induction n with
    | zero => intro i ii hm; exact absurd hm (Nat.not_lt_zero _)
    | succ n ih7 =>
      intro i ii hm7 H locs hP hD hS ls hl
      have hgl := grow_le (wd := wd) (hd := hd) hg31 i
      refine lv_iload_n hx hb dX0_isJoined_7 rfl (lv_at hl 1 rfl) ?_
      refine lv_bipush (v := nI 24) hx hb dX0_isJoined_8 (by decide) ?_
      refine n_icmp_ge (a := i) (b := 24) (tgt := 67) hx hb dX0_isJoined_10 (by decide) (by omega) (by omega) (fun c10 => ?_) (fun c10 => ?_)
      · have _ : True := trivial
        have e10 : i = 24 := by omega
        refine lv_iload_n hx hb dX0_isJoined_67 rfl (lv_at hl 0 rfl) ?_
        refine lv_iload_n hx hb dX0_isJoined_68 rfl (lv_at hl 3 rfl) ?_
        refine n_icmp_ne (a := grow wd hd g i) (b := g) (tgt := 76) hx hb dX0_isJoined_69 (by decide) (by omega) (by omega) (fun c69 => ?_) (fun c69 => ?_)
        · have _ : True := trivial
          refine lv_iconst (v := nI 0) hx hb dX0_isJoined_76 (by decide) ?_
          rw [hQ]
          exact W.zret (v := nI 0) hx hb hr rfl (fun t9 ht hW => ⟨⟨_, _, rfl, ⟨(by rw [e10] at c69; simp [isone, c69, bI]; rfl), rfl⟩, by rw [ht]; exact hP, rfl⟩, hS.F ht⟩) hS.2.2 dX0_isJoined_77
        · have _ : True := trivial
          refine lv_iconst (v := nI 1) hx hb dX0_isJoined_72 (by decide) ?_
          refine lv_goto (tgt := 77) hx hb dX0_isJoined_73 (by decide) ?_
          rw [hQ]
          exact W.zret (v := nI 1) hx hb hr rfl (fun t9 ht hW => ⟨⟨_, _, rfl, ⟨(by rw [e10] at c69; simp [isone, c69, bI]; rfl), rfl⟩, by rw [ht]; exact hP, rfl⟩, hS.F ht⟩) hS.2.2 dX0_isJoined_77
      · have _ : True := trivial
        refine lv_iload_n hx hb dX0_isJoined_13 rfl (lv_at hl 0 rfl) ?_
        refine lv_aload_n hx hb dX0_isJoined_14 rfl (lv_at hl 2 rfl) ?_
        refine gf_X0_47 hC hK hP 0 rfl rfl dX0_isJoined_15 ?_
        refine lv_iconst (v := (-1)) hx hb dX0_isJoined_18 (by decide) ?_
        refine lv_ixor hx hb dX0_isJoined_19 ?_
        refine n_iandn hx hb dX0_isJoined_20 ?_
        refine lv_iconst (v := nI 1) hx hb dX0_isJoined_21 (by decide) ?_
        refine n_ishl hx hb dX0_isJoined_22 (by omega) ?_
        refine lv_istore (lv' := [(4, .int (nI ((andn (grow wd hd g i) (rcv wd hd)) <<< 1))), (2, .int (nI (grow wd hd g i))), (3, .int (nI i)), (0, .ref h), (1, .int (nI g))]) hx hb dX0_isJoined_23 hl (by decide) rfl (fun ls hl => ?_)
        refine lv_iload_n hx hb dX0_isJoined_25 rfl (lv_at hl 1 rfl) ?_
        refine lv_aload_n hx hb dX0_isJoined_26 rfl (lv_at hl 3 rfl) ?_
        refine gf_X0_53 hC hK hP 0 rfl rfl dX0_isJoined_27 ?_
        refine lv_iconst (v := (-1)) hx hb dX0_isJoined_30 (by decide) ?_
        refine lv_ixor hx hb dX0_isJoined_31 ?_
        refine n_iandn hx hb dX0_isJoined_32 ?_
        refine lv_iconst (v := nI 1) hx hb dX0_isJoined_33 (by decide) ?_
        refine n_iushr hx hb dX0_isJoined_34 (by have := andn_le (grow wd hd g i) (lcv wd hd); omega) (by omega) ?_
        refine lv_istore (lv' := [(5, .int (nI ((andn (grow wd hd g i) (lcv wd hd)) >>> 1))), (4, .int (nI ((andn (grow wd hd g i) (rcv wd hd)) <<< 1))), (2, .int (nI (grow wd hd g i))), (3, .int (nI i)), (0, .ref h), (1, .int (nI g))]) hx hb dX0_isJoined_35 hl (by decide) rfl (fun ls hl => ?_)
        refine lv_iload_n hx hb dX0_isJoined_37 rfl (lv_at hl 2 rfl) ?_
        refine lv_iload hx hb dX0_isJoined_38 (lv_at hl 1 rfl) ?_
        refine n_ior hx hb dX0_isJoined_40  ?_
        refine lv_iload hx hb dX0_isJoined_41 (lv_at hl 0 rfl) ?_
        refine n_ior hx hb dX0_isJoined_43  ?_
        refine lv_iload_n hx hb dX0_isJoined_44 rfl (lv_at hl 2 rfl) ?_
        refine lv_aload_n hx hb dX0_isJoined_45 rfl (lv_at hl 4 rfl) ?_
        refine gf_X0_32 hC hK hP 0 rfl rfl dX0_isJoined_46 ?_
        refine n_ishl hx hb dX0_isJoined_49 (by omega) ?_
        refine n_ior hx hb dX0_isJoined_50  ?_
        refine lv_iload_n hx hb dX0_isJoined_51 rfl (lv_at hl 2 rfl) ?_
        refine lv_aload_n hx hb dX0_isJoined_52 rfl (lv_at hl 4 rfl) ?_
        refine gf_X0_32 hC hK hP 0 rfl rfl dX0_isJoined_53 ?_
        refine n_iushr hx hb dX0_isJoined_56 (by omega) (by omega) ?_
        refine n_ior hx hb dX0_isJoined_57  ?_
        refine lv_iload_n hx hb dX0_isJoined_58 rfl (lv_at hl 5 rfl) ?_
        refine n_iand hx hb dX0_isJoined_59  ?_
        refine topi (y := nI (grow wd hd g (i + 1))) (by rw [← grow_s hw1 hg hg31]) ?_
        refine lv_istore_n (lv' := [(2, .int (nI (grow wd hd g (i + 1)))), (5, .int (nI ((andn (grow wd hd g i) (lcv wd hd)) >>> 1))), (4, .int (nI ((andn (grow wd hd g i) (rcv wd hd)) <<< 1))), (3, .int (nI i)), (0, .ref h), (1, .int (nI g))]) hx hb dX0_isJoined_60 rfl hl (by decide) rfl (fun ls hl => ?_)
        refine lv_iinc (v := nI (i + 1)) (lv' := [(3, .int (nI (i + 1))), (2, .int (nI (grow wd hd g (i + 1)))), (5, .int (nI ((andn (grow wd hd g i) (lcv wd hd)) >>> 1))), (4, .int (nI ((andn (grow wd hd g i) (rcv wd hd)) <<< 1))), (0, .ref h), (1, .int (nI g))]) hx hb dX0_isJoined_61 hl (k := 3) rfl (nI_1 _) (by decide) rfl (fun ls hl => ?_)
        refine lv_goto (tgt := 7) hx hb dX0_isJoined_64 (by decide) ?_
        exact ih7 (i + 1) (by omega) (by omega) _ _ hP hD hS _ (lv_sub hl [1, 0, 4, 5] rfl)
  exact L7 _ 0 (by omega) (Nat.lt_succ_self _) _ _ hP hD hS _ (lv_sub hl [1, 0, 2, 3] rfl)

set_option maxHeartbeats 400000 in
set_option maxRecDepth 100000 in
theorem c_X0_add (l : Launch) (D : va_G) (cI cJ cB : ClassId) (h hs hw hh hp se wd hd nb wl : Nat) (st sl : Int32) (gl aq lb : Option Nat) (sh bw bh ps : Nat → Nat) (g : Nat) (hw1 : 1 ≤ wd) (hw6 : wd ≤ 6) (hd1 : 1 ≤ hd) (hd6 : hd ≤ 6) (h24 : wd * hd ≤ 24) (hb7 : nb < 7) (hgs : g < 2 ^ (wd * hd)) (hne : ∃ i, g.testBit i = true) : Met l yX0_add (Cond.code yX0_add cX0_add 8 none :: lw_all) (rmN 1) (va_Pc [.ref h, .int (nI g)] (pB D (tyz cI cJ cB) (bW cI cJ cB h hs hw hh hp (nI se) (nI wd) (nI hd) (nI wl) (nI nb) (nI (topv wd)) (nI (rcv wd hd)) (nI (btv wd hd)) (nI (lcv wd hd)) (gI gl) (gI aq) st sl (gI lb) (fun zz => nI (sh zz)) (fun zz => nI (bw zz)) (fun zz => nI (bh zz)) (fun zz => nI (ps zz))))) (va_Qv (fun (w : va_W) => w = bW cI cJ cB h hs hw hh hp (nI se) (nI wd) (nI hd) (nI wl) (nI (nb + 1)) (nI (topv wd)) (nI (rcv wd hd)) (nI (btv wd hd)) (nI (lcv wd hd)) (gI gl) (gI aq) st sl (gI lb) (fun zz => nI ((va_up sh nb (g >>> (bxt wd g (wd * hd) * wd + bxl wd g (wd * hd)))) zz)) (fun zz => nI ((va_up bw nb (bxr wd g (wd * hd) - bxl wd g (wd * hd) + 1)) zz)) (fun zz => nI ((va_up bh nb (bxb wd g (wd * hd) - bxt wd g (wd * hd) + 1)) zz)) (fun zz => nI ((va_up ps nb (bxt wd g (wd * hd) * wd + bxl wd g (wd * hd))) zz))) (gB D (bW cI cJ cB h hs hw hh hp (nI se) (nI wd) (nI hd) (nI wl) (nI nb) (nI (topv wd)) (nI (rcv wd hd)) (nI (btv wd hd)) (nI (lcv wd hd)) (gI gl) (gI aq) st sl (gI lb) (fun zz => nI (sh zz)) (fun zz => nI (bw zz)) (fun zz => nI (bh zz)) (fun zz => nI (ps zz)))) (aW (bW cI cJ cB h hs hw hh hp (nI se) (nI wd) (nI hd) (nI wl) (nI nb) (nI (topv wd)) (nI (rcv wd hd)) (nI (btv wd hd)) (nI (lcv wd hd)) (gI gl) (gI aq) st sl (gI lb) (fun zz => nI (sh zz)) (fun zz => nI (bw zz)) (fun zz => nI (bh zz)) (fun zz => nI (ps zz))))) 0 0 (aW (bW cI cJ cB h hs hw hh hp (nI se) (nI wd) (nI hd) (nI wl) (nI nb) (nI (topv wd)) (nI (rcv wd hd)) (nI (btv wd hd)) (nI (lcv wd hd)) (gI gl) (gI aq) st sl (gI lb) (fun zz => nI (sh zz)) (fun zz => nI (bw zz)) (fun zz => nI (bh zz)) (fun zz => nI (ps zz)))) := by
  refine Met.ofW (cc := cX0_add) (maxL := 8) (ret := none) (by decide) rfl ?_
  intro p e s m args below meth c s₁ B hml hv
  obtain ⟨rfl, hK, hN, hP, hD0⟩ := hv
  have hx := B.exec; have hb := B.bytes; have hr := B.returns; have hlocks := B.notSynchronized
  have hts0 := atoms_spec (ws := Cond.code yX0_add cX0_add 8 none :: lw_all) B.pre
  have hC : CallFix p m c cX0_add 8 s _ lw_all RX0 := ⟨hx, hb, hml, findClass_of_methodNamed B.named, fun w h => hts0 w (List.mem_cons_of_mem _ h)⟩
  have hD : va_D (aW (bW cI cJ cB h hs hw hh hp (nI se) (nI wd) (nI hd) (nI wl) (nI nb) (nI (topv wd)) (nI (rcv wd hd)) (nI (btv wd hd)) (nI (lcv wd hd)) (gI gl) (gI aq) st sl (gI lb) (fun zz => nI (sh zz)) (fun zz => nI (bw zz)) (fun zz => nI (bh zz)) (fun zz => nI (ps zz)))) (bW cI cJ cB h hs hw hh hp (nI se) (nI wd) (nI hd) (nI wl) (nI nb) (nI (topv wd)) (nI (rcv wd hd)) (nI (btv wd hd)) (nI (lcv wd hd)) (gI gl) (gI aq) st sl (gI lb) (fun zz => nI (sh zz)) (fun zz => nI (bw zz)) (fun zz => nI (bh zz)) (fun zz => nI (ps zz))) := ⟨hD0.1, fun k q h => ⟨k, q.2, h⟩⟩
  generalize hAe : aW (bW cI cJ cB h hs hw hh hp (nI se) (nI wd) (nI hd) (nI wl) (nI nb) (nI (topv wd)) (nI (rcv wd hd)) (nI (btv wd hd)) (nI (lcv wd hd)) (gI gl) (gI aq) st sl (gI lb) (fun zz => nI (sh zz)) (fun zz => nI (bw zz)) (fun zz => nI (bh zz)) (fun zz => nI (ps zz))) = A at hD ⊢
  have hS : va_S A s.heap s.heap [] := va_S.rf
  have hl := lv_entry ([.ref h, .int (nI g)]) (n := 8) (Nat.le_of_ble_eq_true rfl)
  rw [lg_entry_eq]
  generalize (lg_sl ([.ref h, .int (nI g)]) ++ List.replicate (8 - (lg_sl ([.ref h, .int (nI g)])).length) Slot.unset).toArray = ls at hl ⊢
  have hl : lv_has ls 8 [(0, .ref h), (1, .int (nI g))] := hl
  generalize hav : ([.ref h, .int (nI g)] : List Value).toArray = args at hC ⊢
  refine W_gen (fun QQ hQ => ?_)
  show W p l e (rmN 1) s m args below meth c s.heap [] 0 0 QQ (F0 m 0 ls [])
  have hg31 : g < 2 ^ 31 := Nat.lt_of_lt_of_le hgs (Nat.pow_le_pow_right (by decide) (by omega))
  refine lv_aload_n hx hb dX0_add_0 rfl (lv_at hl 0 rfl) ?_
  refine gf_X0_32 hC hK hP 0 rfl rfl dX0_add_1 ?_
  refine topi (y := nI (mnr (fun i => i % wd) g wd (0 * wd))) (by rw [Nat.zero_mul]; rfl) ?_
  refine lv_istore_n (lv' := [(2, .int (nI (mnr (fun i => i % wd) g wd (0 * wd)))), (0, .ref h), (1, .int (nI g))]) hx hb dX0_add_4 rfl hl (by decide) rfl (fun ls hl => ?_)
  refine lv_iconst (v := nI 0) hx hb dX0_add_5 (by decide) ?_
  refine topi (y := nI (mxr (fun i => i % wd) g 0 (0 * wd))) (by rw [Nat.zero_mul]; rfl) ?_
  refine lv_istore_n (lv' := [(3, .int (nI (mxr (fun i => i % wd) g 0 (0 * wd)))), (2, .int (nI (mnr (fun i => i % wd) g wd (0 * wd)))), (0, .ref h), (1, .int (nI g))]) hx hb dX0_add_6 rfl hl (by decide) rfl (fun ls hl => ?_)
  refine lv_aload_n hx hb dX0_add_7 rfl (lv_at hl 2 rfl) ?_
  refine gf_X0_35 hC hK hP 0 rfl rfl dX0_add_8 ?_
  refine topi (y := nI (mnr (fun i => i / wd) g hd (0 * wd))) (by rw [Nat.zero_mul]; rfl) ?_
  refine lv_istore (lv' := [(4, .int (nI (mnr (fun i => i / wd) g hd (0 * wd)))), (3, .int (nI (mxr (fun i => i % wd) g 0 (0 * wd)))), (2, .int (nI (mnr (fun i => i % wd) g wd (0 * wd)))), (0, .ref h), (1, .int (nI g))]) hx hb dX0_add_11 hl (by decide) rfl (fun ls hl => ?_)
  refine lv_iconst (v := nI 0) hx hb dX0_add_13 (by decide) ?_
  refine topi (y := nI (mxr (fun i => i / wd) g 0 (0 * wd))) (by rw [Nat.zero_mul]; rfl) ?_
  refine lv_istore (lv' := [(5, .int (nI (mxr (fun i => i / wd) g 0 (0 * wd)))), (4, .int (nI (mnr (fun i => i / wd) g hd (0 * wd)))), (3, .int (nI (mxr (fun i => i % wd) g 0 (0 * wd)))), (2, .int (nI (mnr (fun i => i % wd) g wd (0 * wd)))), (0, .ref h), (1, .int (nI g))]) hx hb dX0_add_14 hl (by decide) rfl (fun ls hl => ?_)
  refine lv_iconst (v := nI 0) hx hb dX0_add_16 (by decide) ?_
  refine lv_istore (lv' := [(6, .int (nI 0)), (5, .int (nI (mxr (fun i => i / wd) g 0 (0 * wd)))), (4, .int (nI (mnr (fun i => i / wd) g hd (0 * wd)))), (3, .int (nI (mxr (fun i => i % wd) g 0 (0 * wd)))), (2, .int (nI (mnr (fun i => i % wd) g wd (0 * wd)))), (0, .ref h), (1, .int (nI g))]) hx hb dX0_add_17 hl (by decide) rfl (fun ls hl => ?_)
  have L19 : ∀ (n : Nat) (y : Nat), (y ≤ hd) → (hd - y) < n → ∀ (H : Heap) (locs : List Loc), va_P D vwCl (bW cI cJ cB h hs hw hh hp (nI se) (nI wd) (nI hd) (nI wl) (nI nb) (nI (topv wd)) (nI (rcv wd hd)) (nI (btv wd hd)) (nI (lcv wd hd)) (gI gl) (gI aq) st sl (gI lb) (fun zz => nI (sh zz)) (fun zz => nI (bw zz)) (fun zz => nI (bh zz)) (fun zz => nI (ps zz))) H → va_D A (bW cI cJ cB h hs hw hh hp (nI se) (nI wd) (nI hd) (nI wl) (nI nb) (nI (topv wd)) (nI (rcv wd hd)) (nI (btv wd hd)) (nI (lcv wd hd)) (gI gl) (gI aq) st sl (gI lb) (fun zz => nI (sh zz)) (fun zz => nI (bw zz)) (fun zz => nI (bh zz)) (fun zz => nI (ps zz))) → va_S A s.heap H locs → ∀ ls : Array Slot, lv_has ls 8 [(2, .int (nI (mnr (fun i => i % wd) g wd (y * wd)))), (3, .int (nI (mxr (fun i => i % wd) g 0 (y * wd)))), (4, .int (nI (mnr (fun i => i / wd) g hd (y * wd)))), (5, .int (nI (mxr (fun i => i / wd) g 0 (y * wd)))), (6, .int (nI y)), (0, .ref h), (1, .int (nI g))] → W p l e (rmN 1) s m args below meth c H locs 0 0 QQ (F0 m 19 ls []) := by
    intro n; induction n with
    | zero => intro y iy hm; exact absurd hm (Nat.not_lt_zero _)
    | succ n ih19 =>
      intro y iy hm19 H locs hP hD hS ls hl
      have hyw : y * wd ≤ hd * wd := Nat.mul_le_mul_right _ iy
      have hhw : hd * wd = wd * hd := Nat.mul_comm hd wd
      have a1 := (mnr_s (f := fun i => i % wd) (g := g) (s0 := wd) (y * wd)).1
      have a3 := (mnr_s (f := fun i => i / wd) (g := g) (s0 := hd) (y * wd)).1
      have a2 : mxr (fun i => i % wd) g 0 (y * wd) < 2 ^ 20 := by rcases (mxr_s (f := fun i => i % wd) (g := g) (s0 := 0) (y * wd)).2.2 with e | ⟨i, -, -, e⟩; omega; (have := Nat.mod_lt i hw1; omega)
      have a4 : mxr (fun i => i / wd) g 0 (y * wd) < 2 ^ 20 := by rcases (mxr_s (f := fun i => i / wd) (g := g) (s0 := 0) (y * wd)).2.2 with e | ⟨i, hi9, -, e⟩; omega; (have := Nat.div_le_self i wd; omega)
      refine lv_iload hx hb dX0_add_19 (lv_at hl 4 rfl) ?_
      refine lv_aload_n hx hb dX0_add_21 rfl (lv_at hl 5 rfl) ?_
      refine gf_X0_35 hC hK hP 0 rfl rfl dX0_add_22 ?_
      refine n_icmp_ge (a := y) (b := hd) (tgt := 101) hx hb dX0_add_25 (by decide) (by omega) (by omega) (fun c25 => ?_) (fun c25 => ?_)
      · have _ : True := trivial
        have e25 : hd = y := by omega
        obtain ⟨x1, x2, x3, x4, x5, x6⟩ := box_s hw1 hw6 hd6 hgs hne
        obtain ⟨v1, v2, v3, v4⟩ := box_eq hw1 hw6 hd6 hgs hne
        rw [← e25, Nat.mul_comm hd wd, v1, v2, v3, v4] at hl
        have hpl := box_lt (t := bxt wd g (wd * hd)) (l := bxl wd g (wd * hd)) (w := wd) (hd := hd) (by omega) (by omega)
        refine lv_iload hx hb dX0_add_101 (lv_at hl 2 rfl) ?_
        refine lv_aload_n hx hb dX0_add_103 rfl (lv_at hl 5 rfl) ?_
        refine gf_X0_32 hC hK hP 0 rfl rfl dX0_add_104 ?_
        refine n_imul hx hb dX0_add_107  ?_
        refine lv_iload_n hx hb dX0_add_108 rfl (lv_at hl 0 rfl) ?_
        refine n_iadd hx hb dX0_add_109  ?_
        refine lv_istore (lv' := [(6, .int (nI (((bxt wd g (wd * hd)) * wd) + (bxl wd g (wd * hd))))), (2, .int (nI (bxl wd g (wd * hd)))), (3, .int (nI (bxr wd g (wd * hd)))), (4, .int (nI (bxt wd g (wd * hd)))), (5, .int (nI (bxb wd g (wd * hd)))), (0, .ref h), (1, .int (nI g))]) hx hb dX0_add_110 hl (by decide) rfl (fun ls hl => ?_)
        refine lv_aload_n hx hb dX0_add_112 rfl (lv_at hl 5 rfl) ?_
        refine gf_X0_25 hC hK hP 0 rfl rfl dX0_add_113 ?_
        refine lv_aload_n hx hb dX0_add_116 rfl (lv_at hl 5 rfl) ?_
        refine gf_X0_41 hC hK hP 0 rfl rfl dX0_add_117 ?_
        refine lv_iload hx hb dX0_add_120 (lv_at hl 0 rfl) ?_
        refine callN_v (As := [.ref hp, .int (nI nb), .int (nI (((bxt wd g (wd * hd)) * wd) + (bxl wd g (wd * hd))))]) (rest := []) [4] hC hK hN hP hD rfl (by decide) hS (c_X7_put_N l D cI cJ cB hp 7 nb ps (((bxt wd g (wd * hd)) * wd) + (bxl wd g (wd * hd))) (by omega) (by omega)) q368 md_X7_put rfl hl.1 rfl (Nat.le_of_ble_eq_true rfl) dX0_add_122 ⟨Nat.le_of_ble_eq_true rfl, Nat.le_of_ble_eq_true rfl⟩ ⟨Nat.le_of_ble_eq_true rfl, Nat.le_of_ble_eq_true rfl⟩ (fun w H locs hpost hP hD hS => ?_)
        obtain rfl := hpost
        have hP : va_P D vwCl (bW cI cJ cB h hs hw hh hp (nI se) (nI wd) (nI hd) (nI wl) (nI nb) (nI (topv wd)) (nI (rcv wd hd)) (nI (btv wd hd)) (nI (lcv wd hd)) (gI gl) (gI aq) st sl (gI lb) (fun zz => nI (sh zz)) (fun zz => nI (bw zz)) (fun zz => nI (bh zz)) (fun zz => nI ((va_up ps nb (((bxt wd g (wd * hd)) * wd) + (bxl wd g (wd * hd)))) zz))) H := hP
        have hD : va_D A (bW cI cJ cB h hs hw hh hp (nI se) (nI wd) (nI hd) (nI wl) (nI nb) (nI (topv wd)) (nI (rcv wd hd)) (nI (btv wd hd)) (nI (lcv wd hd)) (gI gl) (gI aq) st sl (gI lb) (fun zz => nI (sh zz)) (fun zz => nI (bw zz)) (fun zz => nI (bh zz)) (fun zz => nI ((va_up ps nb (((bxt wd g (wd * hd)) * wd) + (bxl wd g (wd * hd)))) zz))) := hD
        refine lv_aload_n hx hb dX0_add_125 rfl (lv_at hl 5 rfl) ?_
        refine gf_X0_15 hC hK hP 0 rfl rfl dX0_add_126 ?_
        refine lv_aload_n hx hb dX0_add_129 rfl (lv_at hl 5 rfl) ?_
        refine gf_X0_41 hC hK hP 0 rfl rfl dX0_add_130 ?_
        refine lv_iload_n hx hb dX0_add_133 rfl (lv_at hl 6 rfl) ?_
        refine lv_iload hx hb dX0_add_134 (lv_at hl 0 rfl) ?_
        refine n_iushr hx hb dX0_add_136 (by omega) (by omega) ?_
        refine callN_v (As := [.ref hs, .int (nI nb), .int (nI (g >>> (((bxt wd g (wd * hd)) * wd) + (bxl wd g (wd * hd)))))]) (rest := []) [1] hC hK hN hP hD rfl (by decide) hS (c_X7_put_N l D cI cJ cB hs 7 nb sh (g >>> (((bxt wd g (wd * hd)) * wd) + (bxl wd g (wd * hd)))) (by omega) (by omega)) q368 md_X7_put rfl hl.1 rfl (Nat.le_of_ble_eq_true rfl) dX0_add_137 ⟨Nat.le_of_ble_eq_true rfl, Nat.le_of_ble_eq_true rfl⟩ ⟨Nat.le_of_ble_eq_true rfl, Nat.le_of_ble_eq_true rfl⟩ (fun w H locs hpost hP hD hS => ?_)
        obtain rfl := hpost
        have hP : va_P D vwCl (bW cI cJ cB h hs hw hh hp (nI se) (nI wd) (nI hd) (nI wl) (nI nb) (nI (topv wd)) (nI (rcv wd hd)) (nI (btv wd hd)) (nI (lcv wd hd)) (gI gl) (gI aq) st sl (gI lb) (fun zz => nI ((va_up sh nb (g >>> (((bxt wd g (wd * hd)) * wd) + (bxl wd g (wd * hd))))) zz)) (fun zz => nI (bw zz)) (fun zz => nI (bh zz)) (fun zz => nI ((va_up ps nb (((bxt wd g (wd * hd)) * wd) + (bxl wd g (wd * hd)))) zz))) H := hP
        have hD : va_D A (bW cI cJ cB h hs hw hh hp (nI se) (nI wd) (nI hd) (nI wl) (nI nb) (nI (topv wd)) (nI (rcv wd hd)) (nI (btv wd hd)) (nI (lcv wd hd)) (gI gl) (gI aq) st sl (gI lb) (fun zz => nI ((va_up sh nb (g >>> (((bxt wd g (wd * hd)) * wd) + (bxl wd g (wd * hd))))) zz)) (fun zz => nI (bw zz)) (fun zz => nI (bh zz)) (fun zz => nI ((va_up ps nb (((bxt wd g (wd * hd)) * wd) + (bxl wd g (wd * hd)))) zz))) := hD
        refine lv_aload_n hx hb dX0_add_140 rfl (lv_at hl 5 rfl) ?_
        refine gf_X0_19 hC hK hP 0 rfl rfl dX0_add_141 ?_
        refine lv_aload_n hx hb dX0_add_144 rfl (lv_at hl 5 rfl) ?_
        refine gf_X0_41 hC hK hP 0 rfl rfl dX0_add_145 ?_
        refine lv_iload_n hx hb dX0_add_148 rfl (lv_at hl 2 rfl) ?_
        refine lv_iload_n hx hb dX0_add_149 rfl (lv_at hl 1 rfl) ?_
        refine n_isub hx hb dX0_add_150 (by omega) ?_
        refine lv_iconst (v := nI 1) hx hb dX0_add_151 (by decide) ?_
        refine n_iadd hx hb dX0_add_152  ?_
        refine callN_v (As := [.ref hw, .int (nI nb), .int (nI (((bxr wd g (wd * hd)) - (bxl wd g (wd * hd))) + 1))]) (rest := []) [2] hC hK hN hP hD rfl (by decide) hS (c_X7_put_N l D cI cJ cB hw 7 nb bw (((bxr wd g (wd * hd)) - (bxl wd g (wd * hd))) + 1) (by omega) (by omega)) q368 md_X7_put rfl hl.1 rfl (Nat.le_of_ble_eq_true rfl) dX0_add_153 ⟨Nat.le_of_ble_eq_true rfl, Nat.le_of_ble_eq_true rfl⟩ ⟨Nat.le_of_ble_eq_true rfl, Nat.le_of_ble_eq_true rfl⟩ (fun w H locs hpost hP hD hS => ?_)
        obtain rfl := hpost
        have hP : va_P D vwCl (bW cI cJ cB h hs hw hh hp (nI se) (nI wd) (nI hd) (nI wl) (nI nb) (nI (topv wd)) (nI (rcv wd hd)) (nI (btv wd hd)) (nI (lcv wd hd)) (gI gl) (gI aq) st sl (gI lb) (fun zz => nI ((va_up sh nb (g >>> (((bxt wd g (wd * hd)) * wd) + (bxl wd g (wd * hd))))) zz)) (fun zz => nI ((va_up bw nb (((bxr wd g (wd * hd)) - (bxl wd g (wd * hd))) + 1)) zz)) (fun zz => nI (bh zz)) (fun zz => nI ((va_up ps nb (((bxt wd g (wd * hd)) * wd) + (bxl wd g (wd * hd)))) zz))) H := hP
        have hD : va_D A (bW cI cJ cB h hs hw hh hp (nI se) (nI wd) (nI hd) (nI wl) (nI nb) (nI (topv wd)) (nI (rcv wd hd)) (nI (btv wd hd)) (nI (lcv wd hd)) (gI gl) (gI aq) st sl (gI lb) (fun zz => nI ((va_up sh nb (g >>> (((bxt wd g (wd * hd)) * wd) + (bxl wd g (wd * hd))))) zz)) (fun zz => nI ((va_up bw nb (((bxr wd g (wd * hd)) - (bxl wd g (wd * hd))) + 1)) zz)) (fun zz => nI (bh zz)) (fun zz => nI ((va_up ps nb (((bxt wd g (wd * hd)) * wd) + (bxl wd g (wd * hd)))) zz))) := hD
        refine lv_aload_n hx hb dX0_add_156 rfl (lv_at hl 5 rfl) ?_
        refine gf_X0_22 hC hK hP 0 rfl rfl dX0_add_157 ?_
        refine lv_aload_n hx hb dX0_add_160 rfl (lv_at hl 5 rfl) ?_
        refine gf_X0_41 hC hK hP 0 rfl rfl dX0_add_161 ?_
        refine lv_iload hx hb dX0_add_164 (lv_at hl 4 rfl) ?_
        refine lv_iload hx hb dX0_add_166 (lv_at hl 3 rfl) ?_
        refine n_isub hx hb dX0_add_168 (by omega) ?_
        refine lv_iconst (v := nI 1) hx hb dX0_add_169 (by decide) ?_
        refine n_iadd hx hb dX0_add_170  ?_
        refine callN_v (As := [.ref hh, .int (nI nb), .int (nI (((bxb wd g (wd * hd)) - (bxt wd g (wd * hd))) + 1))]) (rest := []) [3] hC hK hN hP hD rfl (by decide) hS (c_X7_put_N l D cI cJ cB hh 7 nb bh (((bxb wd g (wd * hd)) - (bxt wd g (wd * hd))) + 1) (by omega) (by omega)) q368 md_X7_put rfl hl.1 rfl (Nat.le_of_ble_eq_true rfl) dX0_add_171 ⟨Nat.le_of_ble_eq_true rfl, Nat.le_of_ble_eq_true rfl⟩ ⟨Nat.le_of_ble_eq_true rfl, Nat.le_of_ble_eq_true rfl⟩ (fun w H locs hpost hP hD hS => ?_)
        obtain rfl := hpost
        have hP : va_P D vwCl (bW cI cJ cB h hs hw hh hp (nI se) (nI wd) (nI hd) (nI wl) (nI nb) (nI (topv wd)) (nI (rcv wd hd)) (nI (btv wd hd)) (nI (lcv wd hd)) (gI gl) (gI aq) st sl (gI lb) (fun zz => nI ((va_up sh nb (g >>> (((bxt wd g (wd * hd)) * wd) + (bxl wd g (wd * hd))))) zz)) (fun zz => nI ((va_up bw nb (((bxr wd g (wd * hd)) - (bxl wd g (wd * hd))) + 1)) zz)) (fun zz => nI ((va_up bh nb (((bxb wd g (wd * hd)) - (bxt wd g (wd * hd))) + 1)) zz)) (fun zz => nI ((va_up ps nb (((bxt wd g (wd * hd)) * wd) + (bxl wd g (wd * hd)))) zz))) H := hP
        have hD : va_D A (bW cI cJ cB h hs hw hh hp (nI se) (nI wd) (nI hd) (nI wl) (nI nb) (nI (topv wd)) (nI (rcv wd hd)) (nI (btv wd hd)) (nI (lcv wd hd)) (gI gl) (gI aq) st sl (gI lb) (fun zz => nI ((va_up sh nb (g >>> (((bxt wd g (wd * hd)) * wd) + (bxl wd g (wd * hd))))) zz)) (fun zz => nI ((va_up bw nb (((bxr wd g (wd * hd)) - (bxl wd g (wd * hd))) + 1)) zz)) (fun zz => nI ((va_up bh nb (((bxb wd g (wd * hd)) - (bxt wd g (wd * hd))) + 1)) zz)) (fun zz => nI ((va_up ps nb (((bxt wd g (wd * hd)) * wd) + (bxl wd g (wd * hd)))) zz))) := hD
        refine lv_aload_n hx hb dX0_add_174 rfl (lv_at hl 5 rfl) ?_
        refine lv_dup hx hb dX0_add_175 rfl ?_
        refine gf_X0_41 hC hK hP 0 rfl rfl dX0_add_176 ?_
        refine lv_iconst (v := nI 1) hx hb dX0_add_179 (by decide) ?_
        refine n_iadd hx hb dX0_add_180  ?_
        refine pf_X0_41 hC hK hP hD hS 0 rfl (Nat.le_of_ble_eq_true rfl) (ws1 := bW cI cJ cB h hs hw hh hp (nI se) (nI wd) (nI hd) (nI wl) (nI (nb + 1)) (nI (topv wd)) (nI (rcv wd hd)) (nI (btv wd hd)) (nI (lcv wd hd)) (gI gl) (gI aq) st sl (gI lb) (fun zz => nI ((va_up sh nb (g >>> (((bxt wd g (wd * hd)) * wd) + (bxl wd g (wd * hd))))) zz)) (fun zz => nI ((va_up bw nb (((bxr wd g (wd * hd)) - (bxl wd g (wd * hd))) + 1)) zz)) (fun zz => nI ((va_up bh nb (((bxb wd g (wd * hd)) - (bxt wd g (wd * hd))) + 1)) zz)) (fun zz => nI ((va_up ps nb (((bxt wd g (wd * hd)) * wd) + (bxl wd g (wd * hd)))) zz))) rfl dX0_add_181 (fun H locs hP hD hS => ?_)
        rw [hQ]
        exact W.vret hx hb hr (fun t9 ht hW => ⟨⟨_, rfl, rfl, by rw [ht]; exact hP, rfl⟩, hS.F ht⟩) hS.2.2 dX0_add_184
      · have _ : True := trivial
        refine lv_iconst (v := nI 0) hx hb dX0_add_28 (by decide) ?_
        refine lv_istore (lv' := [(7, .int (nI 0)), (2, .int (nI (mnr (fun i => i % wd) g wd (y * wd)))), (3, .int (nI (mxr (fun i => i % wd) g 0 (y * wd)))), (4, .int (nI (mnr (fun i => i / wd) g hd (y * wd)))), (5, .int (nI (mxr (fun i => i / wd) g 0 (y * wd)))), (6, .int (nI y)), (0, .ref h), (1, .int (nI g))]) hx hb dX0_add_29 hl (by decide) rfl (fun ls hl => ?_)
        have L31 : ∀ (n : Nat) (x : Nat), (x ≤ wd) → (wd - x) < n → ∀ (H : Heap) (locs : List Loc), va_P D vwCl (bW cI cJ cB h hs hw hh hp (nI se) (nI wd) (nI hd) (nI wl) (nI nb) (nI (topv wd)) (nI (rcv wd hd)) (nI (btv wd hd)) (nI (lcv wd hd)) (gI gl) (gI aq) st sl (gI lb) (fun zz => nI (sh zz)) (fun zz => nI (bw zz)) (fun zz => nI (bh zz)) (fun zz => nI (ps zz))) H → va_D A (bW cI cJ cB h hs hw hh hp (nI se) (nI wd) (nI hd) (nI wl) (nI nb) (nI (topv wd)) (nI (rcv wd hd)) (nI (btv wd hd)) (nI (lcv wd hd)) (gI gl) (gI aq) st sl (gI lb) (fun zz => nI (sh zz)) (fun zz => nI (bw zz)) (fun zz => nI (bh zz)) (fun zz => nI (ps zz))) → va_S A s.heap H locs → ∀ ls : Array Slot, lv_has ls 8 [(2, .int (nI (mnr (fun i => i % wd) g wd (y * wd + x)))), (3, .int (nI (mxr (fun i => i % wd) g 0 (y * wd + x)))), (4, .int (nI (mnr (fun i => i / wd) g hd (y * wd + x)))), (5, .int (nI (mxr (fun i => i / wd) g 0 (y * wd + x)))), (7, .int (nI x)), (6, .int (nI y)), (0, .ref h), (1, .int (nI g))] → W p l e (rmN 1) s m args below meth c H locs 0 0 QQ (F0 m 31 ls []) := by
          intro n; induction n with
          | zero => intro x ix hm; exact absurd hm (Nat.not_lt_zero _)
          | succ n ih31 =>
            intro x ix hm31 H locs hP hD hS ls hl
            have hyx : y * wd + x ≤ wd * hd := by have : (y + 1) * wd ≤ hd * wd := Nat.mul_le_mul_right _ (by omega); rw [Nat.add_mul] at this; omega
            have a1 := (mnr_s (f := fun i => i % wd) (g := g) (s0 := wd) (y * wd + x)).1
            have a3 := (mnr_s (f := fun i => i / wd) (g := g) (s0 := hd) (y * wd + x)).1
            have a2 : mxr (fun i => i % wd) g 0 (y * wd + x) < 2 ^ 20 := by rcases (mxr_s (f := fun i => i % wd) (g := g) (s0 := 0) (y * wd + x)).2.2 with e | ⟨i, -, -, e⟩; omega; (have := Nat.mod_lt i hw1; omega)
            have a4 : mxr (fun i => i / wd) g 0 (y * wd + x) < 2 ^ 20 := by rcases (mxr_s (f := fun i => i / wd) (g := g) (s0 := 0) (y * wd + x)).2.2 with e | ⟨i, hi9, -, e⟩; omega; (have := Nat.div_le_self i wd; omega)
            refine lv_iload hx hb dX0_add_31 (lv_at hl 4 rfl) ?_
            refine lv_aload_n hx hb dX0_add_33 rfl (lv_at hl 6 rfl) ?_
            refine gf_X0_32 hC hK hP 0 rfl rfl dX0_add_34 ?_
            refine n_icmp_ge (a := x) (b := wd) (tgt := 95) hx hb dX0_add_37 (by decide) (by omega) (by omega) (fun c37 => ?_) (fun c37 => ?_)
            · have _ : True := trivial
              have e37 : wd = x := by omega
              rw [show y * wd + x = (y + 1) * wd by rw [Nat.add_mul]; omega] at hl
              refine lv_iinc (v := nI (y + 1)) (lv' := [(6, .int (nI (y + 1))), (2, .int (nI (mnr (fun i => i % wd) g wd ((y + 1) * wd)))), (3, .int (nI (mxr (fun i => i % wd) g 0 ((y + 1) * wd)))), (4, .int (nI (mnr (fun i => i / wd) g hd ((y + 1) * wd)))), (5, .int (nI (mxr (fun i => i / wd) g 0 ((y + 1) * wd)))), (7, .int (nI x)), (0, .ref h), (1, .int (nI g))]) hx hb dX0_add_95 hl (k := 5) rfl (nI_1 _) (by decide) rfl (fun ls hl => ?_)
              refine lv_goto (tgt := 19) hx hb dX0_add_98 (by decide) ?_
              exact ih19 (y + 1) (by omega) (by omega) _ _ hP hD hS _ (lv_sub hl [1, 2, 3, 4, 0, 6, 7] rfl)
            · have _ : True := trivial
              have hm9 : (y * wd + x) % wd = x := by rw [Nat.mul_comm, Nat.mul_add_mod, Nat.mod_eq_of_lt (by omega)]
              have hd9 : (y * wd + x) / wd = y := by rw [Nat.mul_comm, Nat.mul_add_div (by omega), Nat.div_eq_of_lt (by omega), Nat.add_zero]
              have hyx24 : y * wd + x < 24 := by have : (y + 1) * wd ≤ hd * wd := Nat.mul_le_mul_right _ (by omega); rw [Nat.add_mul] at this; omega
              refine lv_iload_n hx hb dX0_add_40 rfl (lv_at hl 7 rfl) ?_
              refine lv_iload hx hb dX0_add_41 (lv_at hl 5 rfl) ?_
              refine lv_aload_n hx hb dX0_add_43 rfl (lv_at hl 6 rfl) ?_
              refine gf_X0_32 hC hK hP 0 rfl rfl dX0_add_44 ?_
              refine n_imul hx hb dX0_add_47  ?_
              refine lv_iload hx hb dX0_add_48 (lv_at hl 4 rfl) ?_
              refine n_iadd hx hb dX0_add_50  ?_
              refine n_ishr hx hb dX0_add_51 hg31 (by omega) ?_
              refine lv_iconst (v := nI 1) hx hb dX0_add_52 (by decide) ?_
              refine n_iand hx hb dX0_add_53  ?_
              refine n_if_eq (tgt := 89) hx hb dX0_add_54 (by decide) (by have := bit_and1 (x := g) (i := y * wd + x); omega) (fun c54 => ?_) (fun c54 => ?_)
              · have _ : True := trivial
                have hb9 : ¬ g.testBit (y * wd + x) = true := fun h => by have := bit_1.mpr h; omega
                rw [mnr_n hb9, mnr_n hb9, mxr_n hb9, mxr_n hb9] at hl
                refine lv_iinc (v := nI (x + 1)) (lv' := [(7, .int (nI (x + 1))), (2, .int (nI (mnr (fun i => i % wd) g wd (y * wd + x + 1)))), (3, .int (nI (mxr (fun i => i % wd) g 0 (y * wd + x + 1)))), (4, .int (nI (mnr (fun i => i / wd) g hd (y * wd + x + 1)))), (5, .int (nI (mxr (fun i => i / wd) g 0 (y * wd + x + 1)))), (6, .int (nI y)), (0, .ref h), (1, .int (nI g))]) hx hb dX0_add_89 hl (k := 4) rfl (nI_1 _) (by decide) rfl (fun ls hl => ?_)
                refine lv_goto (tgt := 31) hx hb dX0_add_92 (by decide) ?_
                exact ih31 (x + 1) (by omega) (by omega) _ _ hP hD hS _ (lv_sub hl [1, 2, 3, 4, 0, 5, 6, 7] rfl)
              · have _ : True := trivial
                have hb9 : g.testBit (y * wd + x) = true := bit_1.mp (by have := bit_and1 (x := g) (i := y * wd + x); omega)
                refine lv_iload_n hx hb dX0_add_57 rfl (lv_at hl 0 rfl) ?_
                refine lv_iload hx hb dX0_add_58 (lv_at hl 4 rfl) ?_
                refine va_mmin hx hb (hml.trans hl.1.symm) hC.2.2.2.1 (hC.2.2.2.2 _ q362) (hC.2.2.2.2 _ q363) (hC.2.2.2.2 _ q9) (hC.2.2.2.2 _ q364) (Nat.le_of_ble_eq_true rfl) (Nat.le_of_ble_eq_true rfl) (Nat.le_of_ble_eq_true rfl) (Nat.le_of_ble_eq_true rfl) dX0_add_60 ?_
                refine topi (y := nI (min (mnr (fun i => i % wd) g wd (y * wd + x)) x)) (mm_min (by omega) (by omega)) ?_
                refine topi (y := nI (mnr (fun i => i % wd) g wd (y * wd + x + 1))) (by rw [mnr_y hb9 hm9]) ?_
                refine lv_istore_n (lv' := [(2, .int (nI (mnr (fun i => i % wd) g wd (y * wd + x + 1)))), (3, .int (nI (mxr (fun i => i % wd) g 0 (y * wd + x)))), (4, .int (nI (mnr (fun i => i / wd) g hd (y * wd + x)))), (5, .int (nI (mxr (fun i => i / wd) g 0 (y * wd + x)))), (7, .int (nI x)), (6, .int (nI y)), (0, .ref h), (1, .int (nI g))]) hx hb dX0_add_63 rfl hl (by decide) rfl (fun ls hl => ?_)
                refine lv_iload_n hx hb dX0_add_64 rfl (lv_at hl 1 rfl) ?_
                refine lv_iload hx hb dX0_add_65 (lv_at hl 4 rfl) ?_
                refine va_mmax hx hb (hml.trans hl.1.symm) hC.2.2.2.1 (hC.2.2.2.2 _ q365) (hC.2.2.2.2 _ q366) (hC.2.2.2.2 _ q9) (hC.2.2.2.2 _ q367) (Nat.le_of_ble_eq_true rfl) (Nat.le_of_ble_eq_true rfl) (Nat.le_of_ble_eq_true rfl) (Nat.le_of_ble_eq_true rfl) dX0_add_67 ?_
                refine topi (y := nI (max (mxr (fun i => i % wd) g 0 (y * wd + x)) x)) (mm_max (by omega) (by omega)) ?_
                refine topi (y := nI (mxr (fun i => i % wd) g 0 (y * wd + x + 1))) (by rw [mxr_y hb9 hm9]) ?_
                refine lv_istore_n (lv' := [(3, .int (nI (mxr (fun i => i % wd) g 0 (y * wd + x + 1)))), (2, .int (nI (mnr (fun i => i % wd) g wd (y * wd + x + 1)))), (4, .int (nI (mnr (fun i => i / wd) g hd (y * wd + x)))), (5, .int (nI (mxr (fun i => i / wd) g 0 (y * wd + x)))), (7, .int (nI x)), (6, .int (nI y)), (0, .ref h), (1, .int (nI g))]) hx hb dX0_add_70 rfl hl (by decide) rfl (fun ls hl => ?_)
                refine lv_iload hx hb dX0_add_71 (lv_at hl 2 rfl) ?_
                refine lv_iload hx hb dX0_add_73 (lv_at hl 5 rfl) ?_
                refine va_mmin hx hb (hml.trans hl.1.symm) hC.2.2.2.1 (hC.2.2.2.2 _ q362) (hC.2.2.2.2 _ q363) (hC.2.2.2.2 _ q9) (hC.2.2.2.2 _ q364) (Nat.le_of_ble_eq_true rfl) (Nat.le_of_ble_eq_true rfl) (Nat.le_of_ble_eq_true rfl) (Nat.le_of_ble_eq_true rfl) dX0_add_75 ?_
                refine topi (y := nI (min (mnr (fun i => i / wd) g hd (y * wd + x)) y)) (mm_min (by omega) (by omega)) ?_
                refine topi (y := nI (mnr (fun i => i / wd) g hd (y * wd + x + 1))) (by rw [mnr_y hb9 hd9]) ?_
                refine lv_istore (lv' := [(4, .int (nI (mnr (fun i => i / wd) g hd (y * wd + x + 1)))), (3, .int (nI (mxr (fun i => i % wd) g 0 (y * wd + x + 1)))), (2, .int (nI (mnr (fun i => i % wd) g wd (y * wd + x + 1)))), (5, .int (nI (mxr (fun i => i / wd) g 0 (y * wd + x)))), (7, .int (nI x)), (6, .int (nI y)), (0, .ref h), (1, .int (nI g))]) hx hb dX0_add_78 hl (by decide) rfl (fun ls hl => ?_)
                refine lv_iload hx hb dX0_add_80 (lv_at hl 3 rfl) ?_
                refine lv_iload hx hb dX0_add_82 (lv_at hl 5 rfl) ?_
                refine va_mmax hx hb (hml.trans hl.1.symm) hC.2.2.2.1 (hC.2.2.2.2 _ q365) (hC.2.2.2.2 _ q366) (hC.2.2.2.2 _ q9) (hC.2.2.2.2 _ q367) (Nat.le_of_ble_eq_true rfl) (Nat.le_of_ble_eq_true rfl) (Nat.le_of_ble_eq_true rfl) (Nat.le_of_ble_eq_true rfl) dX0_add_84 ?_
                refine topi (y := nI (max (mxr (fun i => i / wd) g 0 (y * wd + x)) y)) (mm_max (by omega) (by omega)) ?_
                refine topi (y := nI (mxr (fun i => i / wd) g 0 (y * wd + x + 1))) (by rw [mxr_y hb9 hd9]) ?_
                refine lv_istore (lv' := [(5, .int (nI (mxr (fun i => i / wd) g 0 (y * wd + x + 1)))), (4, .int (nI (mnr (fun i => i / wd) g hd (y * wd + x + 1)))), (3, .int (nI (mxr (fun i => i % wd) g 0 (y * wd + x + 1)))), (2, .int (nI (mnr (fun i => i % wd) g wd (y * wd + x + 1)))), (7, .int (nI x)), (6, .int (nI y)), (0, .ref h), (1, .int (nI g))]) hx hb dX0_add_87 hl (by decide) rfl (fun ls hl => ?_)
                refine lv_iinc (v := nI (x + 1)) (lv' := [(7, .int (nI (x + 1))), (5, .int (nI (mxr (fun i => i / wd) g 0 (y * wd + x + 1)))), (4, .int (nI (mnr (fun i => i / wd) g hd (y * wd + x + 1)))), (3, .int (nI (mxr (fun i => i % wd) g 0 (y * wd + x + 1)))), (2, .int (nI (mnr (fun i => i % wd) g wd (y * wd + x + 1)))), (6, .int (nI y)), (0, .ref h), (1, .int (nI g))]) hx hb dX0_add_89 hl (k := 4) rfl (nI_1 _) (by decide) rfl (fun ls hl => ?_)
                refine lv_goto (tgt := 31) hx hb dX0_add_92 (by decide) ?_
                exact ih31 (x + 1) (by omega) (by omega) _ _ hP hD hS _ (lv_sub hl [4, 3, 2, 1, 0, 5, 6, 7] rfl)
        exact L31 _ 0 (by omega) (Nat.lt_succ_self _) _ _ hP hD hS _ (lv_sub hl [1, 2, 3, 4, 0, 5, 6, 7] rfl)
  exact L19 _ 0 (by omega) (Nat.lt_succ_self _) _ _ hP hD hS _ (lv_sub hl [4, 3, 2, 1, 0, 5, 6] rfl)
