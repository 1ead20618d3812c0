abbrev aWi (cI cJ cB : ClassId) (ra : Nat) (rn : Nat) (rf : Nat → Int32) : va_W := [(ra, .inl (cI, rn, .inl rf))]

set_option maxHeartbeats 400000 in
set_option maxRecDepth 100000 in
theorem c_X7_keyShift (l : Launch) (D : va_G) (cI cJ cB : ClassId) (b : Nat) (hb7 : b < 7) : Met l yX7_keyShift (Cond.code yX7_keyShift cX7_keyShift 1 (some .int) :: lw_all) (rmN 0) (va_Pc [.int (nI b)] (pB D (tyz cI cJ cB) ([] : va_W))) (va_Qi (fun (r : Int32) (w : va_W) => r = nI (5 * (6 - b)) ∧ w = []) (gB D ([] : va_W)) (aW ([] : va_W))) 0 0 (aW ([] : va_W)) := by
  refine Met.ofW (cc := cX7_keyShift) (maxL := 1) (ret := (some .int)) (by decide) rfl ?_
  intro p e s m args below meth c s₁ B hml hv
  obtain ⟨rfl, hK, hN, hP, hD0⟩ := hv
  have hx := B.exec; have hb := B.bytes; have hr := B.returns; have hlocks := B.notSynchronized
  have hts0 := atoms_spec (ws := Cond.code yX7_keyShift cX7_keyShift 1 (some .int) :: lw_all) B.pre
  have hC : CallFix p m c cX7_keyShift 1 s _ lw_all RX7 := ⟨hx, hb, hml, findClass_of_methodNamed B.named, fun w h => hts0 w (List.mem_cons_of_mem _ h)⟩
  have hD : va_D (aW ([] : va_W)) ([] : va_W) := ⟨hD0.1, fun k q h => ⟨k, q.2, h⟩⟩
  generalize hAe : aW ([] : va_W) = A at hD ⊢
  have hS : va_S A s.heap s.heap [] := va_S.rf
  have hl := lv_entry ([.int (nI b)]) (n := 1) (Nat.le_of_ble_eq_true rfl)
  rw [lg_entry_eq]
  generalize (lg_sl ([.int (nI b)]) ++ List.replicate (1 - (lg_sl ([.int (nI b)])).length) Slot.unset).toArray = ls at hl ⊢
  have hl : lv_has ls 1 [(0, .int (nI b))] := hl
  generalize hav : ([.int (nI b)] : List Value).toArray = args at hC ⊢
  refine W_gen (fun QQ hQ => ?_)
  show W p l e (rmN 0) s m args below meth c s.heap [] 0 0 QQ (F0 m 0 ls [])
  refine lv_iconst (v := nI 5) hx hb dX7_keyShift_0 (by decide) ?_
  refine lv_bipush (v := nI 6) hx hb dX7_keyShift_1 (by decide) ?_
  refine lv_iload_n hx hb dX7_keyShift_3 rfl (lv_at hl 0 rfl) ?_
  refine n_isub hx hb dX7_keyShift_4 (by omega) ?_
  refine n_imul hx hb dX7_keyShift_5  ?_
  rw [hQ]
  exact W.iret (v := nI (5 * (6 - b))) hx hb hr (fun t9 ht hW => ⟨⟨_, _, rfl, ⟨rfl, rfl⟩, by rw [ht]; exact hP, rfl⟩, hS.F ht⟩) hS.2.2 dX7_keyShift_6

set_option maxHeartbeats 400000 in
set_option maxRecDepth 100000 in
theorem c_X7_placeIn (l : Launch) (D : va_G) (cI cJ cB : ClassId) (k b : Nat) (hk : k < 2 ^ 35) (hb7 : b < 7) : Met l yX7_placeIn (Cond.code yX7_placeIn cX7_placeIn 3 (some .int) :: lw_all) (rmN 0) (va_Pc [.long (lN k), .int (nI b)] (pB D (tyz cI cJ cB) ([] : va_W))) (va_Qi (fun (r : Int32) (w : va_W) => r = nI (plc k b) ∧ w = []) (gB D ([] : va_W)) (aW ([] : va_W))) 0 0 (aW ([] : va_W)) := by
  refine Met.ofW (cc := cX7_placeIn) (maxL := 3) (ret := (some .int)) (by decide) rfl ?_
  intro p e s m args below meth c s₁ B hml hv
  obtain ⟨rfl, hK, hN, hP, hD0⟩ := hv
  have hx := B.exec; have hb := B.bytes; have hr := B.returns; have hlocks := B.notSynchronized
  have hts0 := atoms_spec (ws := Cond.code yX7_placeIn cX7_placeIn 3 (some .int) :: lw_all) B.pre
  have hC : CallFix p m c cX7_placeIn 3 s _ lw_all RX7 := ⟨hx, hb, hml, findClass_of_methodNamed B.named, fun w h => hts0 w (List.mem_cons_of_mem _ h)⟩
  have hD : va_D (aW ([] : va_W)) ([] : va_W) := ⟨hD0.1, fun k q h => ⟨k, q.2, h⟩⟩
  generalize hAe : aW ([] : va_W) = A at hD ⊢
  have hS : va_S A s.heap s.heap [] := va_S.rf
  have hl := lv_entry ([.long (lN k), .int (nI b)]) (n := 3) (Nat.le_of_ble_eq_true rfl)
  rw [lg_entry_eq]
  generalize (lg_sl ([.long (lN k), .int (nI b)]) ++ List.replicate (3 - (lg_sl ([.long (lN k), .int (nI b)])).length) Slot.unset).toArray = ls at hl ⊢
  have hl : lv_has ls 3 [(0, .long (lN k)), (2, .int (nI b))] := hl
  generalize hav : ([.long (lN k), .int (nI b)] : List Value).toArray = args at hC ⊢
  refine W_gen (fun QQ hQ => ?_)
  show W p l e (rmN 0) s m args below meth c s.heap [] 0 0 QQ (F0 m 0 ls [])
  refine lv_lload_n hx hb dX7_placeIn_0 rfl (lv_at hl 0 rfl) ?_
  refine lv_iconst (v := nI 5) hx hb dX7_placeIn_1 (by decide) ?_
  refine lv_bipush (v := nI 6) hx hb dX7_placeIn_2 (by decide) ?_
  refine lv_iload_n hx hb dX7_placeIn_4 rfl (lv_at hl 1 rfl) ?_
  refine n_isub hx hb dX7_placeIn_5 (by omega) ?_
  refine n_imul hx hb dX7_placeIn_6  ?_
  refine n_lushr hx hb dX7_placeIn_7 (by omega) (by omega) ?_
  refine lv_l2i (v := nI (k / 2 ^ (5 * (6 - b)))) hx hb dX7_placeIn_8 (lN_i _) ?_
  refine lv_bipush (v := nI 31) hx hb dX7_placeIn_9 (by decide) ?_
  refine n_iand hx hb dX7_placeIn_11  ?_
  refine topi (y := nI (plc k b)) (by unfold plc; rw [nI_and31]) ?_
  rw [hQ]
  exact W.iret (v := nI (plc k b)) hx hb hr (fun t9 ht hW => ⟨⟨_, _, rfl, ⟨rfl, rfl⟩, by rw [ht]; exact hP, rfl⟩, hS.F ht⟩) hS.2.2 dX7_placeIn_12

set_option maxHeartbeats 400000 in
set_option maxRecDepth 100000 in
theorem c_X7_at_N (l : Launch) (D : va_G) (cI cJ cB : ClassId) (ra rn i : Nat) (rf : Nat → Nat) (hir : i < rn) (hrn : rn < 2 ^ 31) : Met l yX7_at (Cond.code yX7_at cX7_at 2 (some .int) :: lw_all) (rmN 0) (va_Pc [.ref ra, .int (nI i)] (pB D (tyz cI cJ cB) (aWi cI cJ cB ra rn (fun zz => nI (rf zz))))) (va_Qi (fun (r : Int32) (w : va_W) => r = nI (rf i) ∧ w = aWi cI cJ cB ra rn (fun zz => nI (rf zz))) (gB D (aWi cI cJ cB ra rn (fun zz => nI (rf zz)))) (aW (aWi cI cJ cB ra rn (fun zz => nI (rf zz))))) 0 0 (aW (aWi cI cJ cB ra rn (fun zz => nI (rf zz)))) := by
  refine Met.ofW (cc := cX7_at) (maxL := 2) (ret := (some .int)) (by decide) rfl ?_
  intro p e s m args below meth c s₁ B hml hv
  obtain ⟨rfl, hK, hN, hP, hD0⟩ := hv
  have hx := B.exec; have hb := B.bytes; have hr := B.returns; have hlocks := B.notSynchronized
  have hts0 := atoms_spec (ws := Cond.code yX7_at cX7_at 2 (some .int) :: lw_all) B.pre
  have hC : CallFix p m c cX7_at 2 s _ lw_all RX7 := ⟨hx, hb, hml, findClass_of_methodNamed B.named, fun w h => hts0 w (List.mem_cons_of_mem _ h)⟩
  have hD : va_D (aW (aWi cI cJ cB ra rn (fun zz => nI (rf zz)))) (aWi cI cJ cB ra rn (fun zz => nI (rf zz))) := ⟨hD0.1, fun k q h => ⟨k, q.2, h⟩⟩
  generalize hAe : aW (aWi cI cJ cB ra rn (fun zz => nI (rf zz))) = A at hD ⊢
  have hS : va_S A s.heap s.heap [] := va_S.rf
  have hl := lv_entry ([.ref ra, .int (nI i)]) (n := 2) (Nat.le_of_ble_eq_true rfl)
  rw [lg_entry_eq]
  generalize (lg_sl ([.ref ra, .int (nI i)]) ++ List.replicate (2 - (lg_sl ([.ref ra, .int (nI i)])).length) Slot.unset).toArray = ls at hl ⊢
  have hl : lv_has ls 2 [(0, .ref ra), (1, .int (nI i))] := hl
  generalize hav : ([.ref ra, .int (nI i)] : List Value).toArray = args at hC ⊢
  refine W_gen (fun QQ hQ => ?_)
  show W p l e (rmN 0) s m args below meth c s.heap [] 0 0 QQ (F0 m 0 ls [])
  refine lv_iload_n hx hb dX7_at_0 rfl (lv_at hl 1 rfl) ?_
  refine n_if_lt (tgt := 16) hx hb dX7_at_1 (by decide) (by omega) ?_
  refine lv_iload_n hx hb dX7_at_4 rfl (lv_at hl 1 rfl) ?_
  refine lv_aload_n hx hb dX7_at_5 rfl (lv_at hl 0 rfl) ?_
  refine va_alen hx hb hK hP 0 0 rfl rfl (v := nI rn) rfl dX7_at_6 ?_
  refine n_icmp_ge (a := i) (b := rn) (tgt := 16) hx hb dX7_at_7 (by decide) (by omega) (by omega) (fun c7 => ?_) (fun c7 => ?_)
  · have _ : True := trivial
    exact absurd c7 (by omega)
  · have _ : True := trivial
    refine lv_aload_n hx hb dX7_at_10 rfl (lv_at hl 0 rfl) ?_
    refine lv_iload_n hx hb dX7_at_11 rfl (lv_at hl 1 rfl) ?_
    refine n_iald hx hb hK hP 0 0 rfl rfl (by omega) (by first | decide | omega) dX7_at_12 ?_
    refine lv_goto (tgt := 17) hx hb dX7_at_13 (by decide) ?_
    rw [hQ]
    exact W.iret (v := nI (rf i)) hx hb hr (fun t9 ht hW => ⟨⟨_, _, rfl, ⟨rfl, rfl⟩, by rw [ht]; exact hP, rfl⟩, hS.F ht⟩) hS.2.2 dX7_at_17

set_option maxHeartbeats 400000 in
set_option maxRecDepth 100000 in
theorem c_X7_at_O (l : Launch) (D : va_G) (cI cJ cB : ClassId) (ra rn i : Nat) (rf : Nat → Option Nat) (hir : i < rn) (hrn : rn < 2 ^ 31) : Met l yX7_at (Cond.code yX7_at cX7_at 2 (some .int) :: lw_all) (rmN 0) (va_Pc [.ref ra, .int (nI i)] (pB D (tyz cI cJ cB) (aWi cI cJ cB ra rn (fun zz => oI (rf zz))))) (va_Qi (fun (r : Int32) (w : va_W) => r = oI (rf i) ∧ w = aWi cI cJ cB ra rn (fun zz => oI (rf zz))) (gB D (aWi cI cJ cB ra rn (fun zz => oI (rf zz)))) (aW (aWi cI cJ cB ra rn (fun zz => oI (rf zz))))) 0 0 (aW (aWi cI cJ cB ra rn (fun zz => oI (rf zz)))) := by
  refine Met.ofW (cc := cX7_at) (maxL := 2) (ret := (some .int)) (by decide) rfl ?_
  intro p e s m args below meth c s₁ B hml hv
  obtain ⟨rfl, hK, hN, hP, hD0⟩ := hv
  have hx := B.exec; have hb := B.bytes; have hr := B.returns; have hlocks := B.notSynchronized
  have hts0 := atoms_spec (ws := Cond.code yX7_at cX7_at 2 (some .int) :: lw_all) B.pre
  have hC : CallFix p m c cX7_at 2 s _ lw_all RX7 := ⟨hx, hb, hml, findClass_of_methodNamed B.named, fun w h => hts0 w (List.mem_cons_of_mem _ h)⟩
  have hD : va_D (aW (aWi cI cJ cB ra rn (fun zz => oI (rf zz)))) (aWi cI cJ cB ra rn (fun zz => oI (rf zz))) := ⟨hD0.1, fun k q h => ⟨k, q.2, h⟩⟩
  generalize hAe : aW (aWi cI cJ cB ra rn (fun zz => oI (rf zz))) = A at hD ⊢
  have hS : va_S A s.heap s.heap [] := va_S.rf
  have hl := lv_entry ([.ref ra, .int (nI i)]) (n := 2) (Nat.le_of_ble_eq_true rfl)
  rw [lg_entry_eq]
  generalize (lg_sl ([.ref ra, .int (nI i)]) ++ List.replicate (2 - (lg_sl ([.ref ra, .int (nI i)])).length) Slot.unset).toArray = ls at hl ⊢
  have hl : lv_has ls 2 [(0, .ref ra), (1, .int (nI i))] := hl
  generalize hav : ([.ref ra, .int (nI i)] : List Value).toArray = args at hC ⊢
  refine W_gen (fun QQ hQ => ?_)
  show W p l e (rmN 0) s m args below meth c s.heap [] 0 0 QQ (F0 m 0 ls [])
  refine lv_iload_n hx hb dX7_at_0 rfl (lv_at hl 1 rfl) ?_
  refine n_if_lt (tgt := 16) hx hb dX7_at_1 (by decide) (by omega) ?_
  refine lv_iload_n hx hb dX7_at_4 rfl (lv_at hl 1 rfl) ?_
  refine lv_aload_n hx hb dX7_at_5 rfl (lv_at hl 0 rfl) ?_
  refine va_alen hx hb hK hP 0 0 rfl rfl (v := nI rn) rfl dX7_at_6 ?_
  refine n_icmp_ge (a := i) (b := rn) (tgt := 16) hx hb dX7_at_7 (by decide) (by omega) (by omega) (fun c7 => ?_) (fun c7 => ?_)
  · have _ : True := trivial
    exact absurd c7 (by omega)
  · have _ : True := trivial
    refine lv_aload_n hx hb dX7_at_10 rfl (lv_at hl 0 rfl) ?_
    refine lv_iload_n hx hb dX7_at_11 rfl (lv_at hl 1 rfl) ?_
    refine n_iald hx hb hK hP 0 0 rfl rfl (by omega) (by first | decide | omega) dX7_at_12 ?_
    refine lv_goto (tgt := 17) hx hb dX7_at_13 (by decide) ?_
    rw [hQ]
    exact W.iret (v := oI (rf i)) hx hb hr (fun t9 ht hW => ⟨⟨_, _, rfl, ⟨rfl, rfl⟩, by rw [ht]; exact hP, rfl⟩, hS.F ht⟩) hS.2.2 dX7_at_17

set_option maxHeartbeats 400000 in
set_option maxRecDepth 100000 in
theorem c_X7_put_N (l : Launch) (D : va_G) (cI cJ cB : ClassId) (ra rn i : Nat) (rf : Nat → Nat) (v : Nat) (hir : i < rn) (hrn : rn < 2 ^ 31) : Met l yX7_put (Cond.code yX7_put cX7_put 3 none :: lw_all) (rmN 0) (va_Pc [.ref ra, .int (nI i), .int (nI v)] (pB D (tyz cI cJ cB) (aWi cI cJ cB ra rn (fun zz => nI (rf zz))))) (va_Qv (fun (w : va_W) => w = aWi cI cJ cB ra rn (fun zz => nI ((va_up rf i v) zz))) (gB D (aWi cI cJ cB ra rn (fun zz => nI (rf zz)))) (aW (aWi cI cJ cB ra rn (fun zz => nI (rf zz))))) 0 0 (aW (aWi cI cJ cB ra rn (fun zz => nI (rf zz)))) := by
  refine Met.ofW (cc := cX7_put) (maxL := 3) (ret := none) (by decide) rfl ?_
  intro p e s m args below meth c s₁ B hml hv
  obtain ⟨rfl, hK, hN, hP, hD0⟩ := hv
  have hx := B.exec; have hb := B.bytes; have hr := B.returns; have hlocks := B.notSynchronized
  have hts0 := atoms_spec (ws := Cond.code yX7_put cX7_put 3 none :: lw_all) B.pre
  have hC : CallFix p m c cX7_put 3 s _ lw_all RX7 := ⟨hx, hb, hml, findClass_of_methodNamed B.named, fun w h => hts0 w (List.mem_cons_of_mem _ h)⟩
  have hD : va_D (aW (aWi cI cJ cB ra rn (fun zz => nI (rf zz)))) (aWi cI cJ cB ra rn (fun zz => nI (rf zz))) := ⟨hD0.1, fun k q h => ⟨k, q.2, h⟩⟩
  generalize hAe : aW (aWi cI cJ cB ra rn (fun zz => nI (rf zz))) = A at hD ⊢
  have hS : va_S A s.heap s.heap [] := va_S.rf
  have hl := lv_entry ([.ref ra, .int (nI i), .int (nI v)]) (n := 3) (Nat.le_of_ble_eq_true rfl)
  rw [lg_entry_eq]
  generalize (lg_sl ([.ref ra, .int (nI i), .int (nI v)]) ++ List.replicate (3 - (lg_sl ([.ref ra, .int (nI i), .int (nI v)])).length) Slot.unset).toArray = ls at hl ⊢
  have hl : lv_has ls 3 [(0, .ref ra), (1, .int (nI i)), (2, .int (nI v))] := hl
  generalize hav : ([.ref ra, .int (nI i), .int (nI v)] : List Value).toArray = args at hC ⊢
  refine W_gen (fun QQ hQ => ?_)
  show W p l e (rmN 0) s m args below meth c s.heap [] 0 0 QQ (F0 m 0 ls [])
  refine lv_iload_n hx hb dX7_put_0 rfl (lv_at hl 1 rfl) ?_
  refine n_if_lt (tgt := 14) hx hb dX7_put_1 (by decide) (by omega) ?_
  refine lv_iload_n hx hb dX7_put_4 rfl (lv_at hl 1 rfl) ?_
  refine lv_aload_n hx hb dX7_put_5 rfl (lv_at hl 0 rfl) ?_
  refine va_alen hx hb hK hP 0 0 rfl rfl (v := nI rn) rfl dX7_put_6 ?_
  refine n_icmp_ge (a := i) (b := rn) (tgt := 14) hx hb dX7_put_7 (by decide) (by omega) (by omega) (fun c7 => ?_) (fun c7 => ?_)
  · have _ : True := trivial
    exact absurd c7 (by omega)
  · have _ : True := trivial
    refine lv_aload_n hx hb dX7_put_10 rfl (lv_at hl 0 rfl) ?_
    refine lv_iload_n hx hb dX7_put_11 rfl (lv_at hl 1 rfl) ?_
    refine lv_iload_n hx hb dX7_put_12 rfl (lv_at hl 2 rfl) ?_
    refine n_iast hx hb hK hP hD hS 0 0 rfl rfl (by omega) (by first | decide | omega) (up_nI _ _ _) (ws1 := aWi cI cJ cB ra rn (fun zz => nI ((va_up rf i v) zz))) rfl dX7_put_13 (fun H locs hP hD hS => ?_)
    rw [hQ]
    exact W.vret hx hb hr (fun t9 ht hW => ⟨⟨_, rfl, rfl, by rw [ht]; exact hP, rfl⟩, hS.F ht⟩) hS.2.2 dX7_put_14

set_option maxHeartbeats 400000 in
set_option maxRecDepth 100000 in
theorem c_X7_put_O (l : Launch) (D : va_G) (cI cJ cB : ClassId) (ra rn i : Nat) (rf : Nat → Option Nat) (v : Option Nat) (hir : i < rn) (hrn : rn < 2 ^ 31) : Met l yX7_put (Cond.code yX7_put cX7_put 3 none :: lw_all) (rmN 0) (va_Pc [.ref ra, .int (nI i), .int (oI v)] (pB D (tyz cI cJ cB) (aWi cI cJ cB ra rn (fun zz => oI (rf zz))))) (va_Qv (fun (w : va_W) => w = aWi cI cJ cB ra rn (fun zz => oI ((va_up rf i v) zz))) (gB D (aWi cI cJ cB ra rn (fun zz => oI (rf zz)))) (aW (aWi cI cJ cB ra rn (fun zz => oI (rf zz))))) 0 0 (aW (aWi cI cJ cB ra rn (fun zz => oI (rf zz)))) := by
  refine Met.ofW (cc := cX7_put) (maxL := 3) (ret := none) (by decide) rfl ?_
  intro p e s m args below meth c s₁ B hml hv
  obtain ⟨rfl, hK, hN, hP, hD0⟩ := hv
  have hx := B.exec; have hb := B.bytes; have hr := B.returns; have hlocks := B.notSynchronized
  have hts0 := atoms_spec (ws := Cond.code yX7_put cX7_put 3 none :: lw_all) B.pre
  have hC : CallFix p m c cX7_put 3 s _ lw_all RX7 := ⟨hx, hb, hml, findClass_of_methodNamed B.named, fun w h => hts0 w (List.mem_cons_of_mem _ h)⟩
  have hD : va_D (aW (aWi cI cJ cB ra rn (fun zz => oI (rf zz)))) (aWi cI cJ cB ra rn (fun zz => oI (rf zz))) := ⟨hD0.1, fun k q h => ⟨k, q.2, h⟩⟩
  generalize hAe : aW (aWi cI cJ cB ra rn (fun zz => oI (rf zz))) = A at hD ⊢
  have hS : va_S A s.heap s.heap [] := va_S.rf
  have hl := lv_entry ([.ref ra, .int (nI i), .int (oI v)]) (n := 3) (Nat.le_of_ble_eq_true rfl)
  rw [lg_entry_eq]
  generalize (lg_sl ([.ref ra, .int (nI i), .int (oI v)]) ++ List.replicate (3 - (lg_sl ([.ref ra, .int (nI i), .int (oI v)])).length) Slot.unset).toArray = ls at hl ⊢
  have hl : lv_has ls 3 [(0, .ref ra), (1, .int (nI i)), (2, .int (oI v))] := hl
  generalize hav : ([.ref ra, .int (nI i), .int (oI v)] : List Value).toArray = args at hC ⊢
  refine W_gen (fun QQ hQ => ?_)
  show W p l e (rmN 0) s m args below meth c s.heap [] 0 0 QQ (F0 m 0 ls [])
  refine lv_iload_n hx hb dX7_put_0 rfl (lv_at hl 1 rfl) ?_
  refine n_if_lt (tgt := 14) hx hb dX7_put_1 (by decide) (by omega) ?_
  refine lv_iload_n hx hb dX7_put_4 rfl (lv_at hl 1 rfl) ?_
  refine lv_aload_n hx hb dX7_put_5 rfl (lv_at hl 0 rfl) ?_
  refine va_alen hx hb hK hP 0 0 rfl rfl (v := nI rn) rfl dX7_put_6 ?_
  refine n_icmp_ge (a := i) (b := rn) (tgt := 14) hx hb dX7_put_7 (by decide) (by omega) (by omega) (fun c7 => ?_) (fun c7 => ?_)
  · have _ : True := trivial
    exact absurd c7 (by omega)
  · have _ : True := trivial
    refine lv_aload_n hx hb dX7_put_10 rfl (lv_at hl 0 rfl) ?_
    refine lv_iload_n hx hb dX7_put_11 rfl (lv_at hl 1 rfl) ?_
    refine lv_iload_n hx hb dX7_put_12 rfl (lv_at hl 2 rfl) ?_
    refine n_iast hx hb hK hP hD hS 0 0 rfl rfl (by omega) (by first | decide | omega) (up_oI _ _ _) (ws1 := aWi cI cJ cB ra rn (fun zz => oI ((va_up rf i v) zz))) rfl dX7_put_13 (fun H locs hP hD hS => ?_)
    rw [hQ]
    exact W.vret hx hb hr (fun t9 ht hW => ⟨⟨_, rfl, rfl, by rw [ht]; exact hP, rfl⟩, hS.F ht⟩) hS.2.2 dX7_put_14

set_option maxHeartbeats 400000 in
set_option maxRecDepth 100000 in
theorem c_X0_has (l : Launch) (D : va_G) (cI cJ cB : ClassId) (h hs hw hh hp se wd hd nb wl : Nat) (st sl : Int32) (gl aq lb : Option Nat) (sh bw bh ps : Nat → Nat) (x : Int32) (hn7 : nb ≤ 7) : Met l yX0_has (Cond.code yX0_has cX0_has 2 (some .boolean) :: lw_all) (rmN 0) (va_Pc [.ref h, .int x] (pB D (tyz cI cJ cB) (bW cI cJ cB h hs hw hh hp (nI se) (nI wd) (nI hd) (nI wl) (nI nb) (nI (topv wd)) (nI (rcv wd hd)) (nI (btv wd hd)) (nI (lcv wd hd)) (gI gl) (gI aq) st sl (gI lb) (fun zz => nI (sh zz)) (fun zz => nI (bw zz)) (fun zz => nI (bh zz)) (fun zz => nI (ps zz))))) (va_Qi (fun (r : Int32) (w : va_W) => r = bI ((bOf nb x).isSome) ∧ w = bW cI cJ cB h hs hw hh hp (nI se) (nI wd) (nI hd) (nI wl) (nI nb) (nI (topv wd)) (nI (rcv wd hd)) (nI (btv wd hd)) (nI (lcv wd hd)) (gI gl) (gI aq) st sl (gI lb) (fun zz => nI (sh zz)) (fun zz => nI (bw zz)) (fun zz => nI (bh zz)) (fun zz => nI (ps zz))) (gB D (bW cI cJ cB h hs hw hh hp (nI se) (nI wd) (nI hd) (nI wl) (nI nb) (nI (topv wd)) (nI (rcv wd hd)) (nI (btv wd hd)) (nI (lcv wd hd)) (gI gl) (gI aq) st sl (gI lb) (fun zz => nI (sh zz)) (fun zz => nI (bw zz)) (fun zz => nI (bh zz)) (fun zz => nI (ps zz)))) (aW (bW cI cJ cB h hs hw hh hp (nI se) (nI wd) (nI hd) (nI wl) (nI nb) (nI (topv wd)) (nI (rcv wd hd)) (nI (btv wd hd)) (nI (lcv wd hd)) (gI gl) (gI aq) st sl (gI lb) (fun zz => nI (sh zz)) (fun zz => nI (bw zz)) (fun zz => nI (bh zz)) (fun zz => nI (ps zz))))) 0 0 (aW (bW cI cJ cB h hs hw hh hp (nI se) (nI wd) (nI hd) (nI wl) (nI nb) (nI (topv wd)) (nI (rcv wd hd)) (nI (btv wd hd)) (nI (lcv wd hd)) (gI gl) (gI aq) st sl (gI lb) (fun zz => nI (sh zz)) (fun zz => nI (bw zz)) (fun zz => nI (bh zz)) (fun zz => nI (ps zz)))) := by
  refine Met.ofW (cc := cX0_has) (maxL := 2) (ret := (some .boolean)) (by decide) rfl ?_
  intro p e s m args below meth c s₁ B hml hv
  obtain ⟨rfl, hK, hN, hP, hD0⟩ := hv
  have hx := B.exec; have hb := B.bytes; have hr := B.returns; have hlocks := B.notSynchronized
  have hts0 := atoms_spec (ws := Cond.code yX0_has cX0_has 2 (some .boolean) :: lw_all) B.pre
  have hC : CallFix p m c cX0_has 2 s _ lw_all RX0 := ⟨hx, hb, hml, findClass_of_methodNamed B.named, fun w h => hts0 w (List.mem_cons_of_mem _ h)⟩
  have hD : va_D (aW (bW cI cJ cB h hs hw hh hp (nI se) (nI wd) (nI hd) (nI wl) (nI nb) (nI (topv wd)) (nI (rcv wd hd)) (nI (btv wd hd)) (nI (lcv wd hd)) (gI gl) (gI aq) st sl (gI lb) (fun zz => nI (sh zz)) (fun zz => nI (bw zz)) (fun zz => nI (bh zz)) (fun zz => nI (ps zz)))) (bW cI cJ cB h hs hw hh hp (nI se) (nI wd) (nI hd) (nI wl) (nI nb) (nI (topv wd)) (nI (rcv wd hd)) (nI (btv wd hd)) (nI (lcv wd hd)) (gI gl) (gI aq) st sl (gI lb) (fun zz => nI (sh zz)) (fun zz => nI (bw zz)) (fun zz => nI (bh zz)) (fun zz => nI (ps zz))) := ⟨hD0.1, fun k q h => ⟨k, q.2, h⟩⟩
  generalize hAe : aW (bW cI cJ cB h hs hw hh hp (nI se) (nI wd) (nI hd) (nI wl) (nI nb) (nI (topv wd)) (nI (rcv wd hd)) (nI (btv wd hd)) (nI (lcv wd hd)) (gI gl) (gI aq) st sl (gI lb) (fun zz => nI (sh zz)) (fun zz => nI (bw zz)) (fun zz => nI (bh zz)) (fun zz => nI (ps zz))) = A at hD ⊢
  have hS : va_S A s.heap s.heap [] := va_S.rf
  have hl := lv_entry ([.ref h, .int x]) (n := 2) (Nat.le_of_ble_eq_true rfl)
  rw [lg_entry_eq]
  generalize (lg_sl ([.ref h, .int x]) ++ List.replicate (2 - (lg_sl ([.ref h, .int x])).length) Slot.unset).toArray = ls at hl ⊢
  have hl : lv_has ls 2 [(0, .ref h), (1, .int x)] := hl
  generalize hav : ([.ref h, .int x] : List Value).toArray = args at hC ⊢
  refine W_gen (fun QQ hQ => ?_)
  show W p l e (rmN 0) s m args below meth c s.heap [] 0 0 QQ (F0 m 0 ls [])
  refine lv_iload_n hx hb dX0_has_0 rfl (lv_at hl 1 rfl) ?_
  refine lv_if_lt (tgt := 16) hx hb dX0_has_1 (by decide) (fun c1 => ?_) (fun c1 => ?_)
  · have _ : True := trivial
    refine lv_iconst (v := nI 0) hx hb dX0_has_16 (by decide) ?_
    rw [hQ]
    exact W.zret (v := nI 0) hx hb hr rfl (fun t9 ht hW => ⟨⟨_, _, rfl, ⟨(by rw [has_n (by omega) (Or.inl c1)]; rfl), rfl⟩, by rw [ht]; exact hP, rfl⟩, hS.F ht⟩) hS.2.2 dX0_has_17
  · have _ : True := trivial
    refine lv_iload_n hx hb dX0_has_4 rfl (lv_at hl 1 rfl) ?_
    refine lv_aload_n hx hb dX0_has_5 rfl (lv_at hl 0 rfl) ?_
    refine gf_X0_41 hC hK hP 0 rfl rfl dX0_has_6 ?_
    refine lv_icmp_ge (tgt := 16) hx hb dX0_has_9 (by decide) (fun c9 => ?_) (fun c9 => ?_)
    · have _ : True := trivial
      refine lv_iconst (v := nI 0) hx hb dX0_has_16 (by decide) ?_
      rw [hQ]
      exact W.zret (v := nI 0) hx hb hr rfl (fun t9 ht hW => ⟨⟨_, _, rfl, ⟨(by rw [has_n (by omega) (Or.inr c9)]; rfl), rfl⟩, by rw [ht]; exact hP, rfl⟩, hS.F ht⟩) hS.2.2 dX0_has_17
    · have _ : True := trivial
      refine lv_iconst (v := nI 1) hx hb dX0_has_12 (by decide) ?_
      refine lv_goto (tgt := 17) hx hb dX0_has_13 (by decide) ?_
      rw [hQ]
      exact W.zret (v := nI 1) hx hb hr rfl (fun t9 ht hW => ⟨⟨_, _, rfl, ⟨(by rw [has_y (by omega) c1 c9]; rfl), rfl⟩, by rw [ht]; exact hP, rfl⟩, hS.F ht⟩) hS.2.2 dX0_has_17

set_option maxHeartbeats 400000 in
set_option maxRecDepth 100000 in
theorem c_X0_hasCell (l : Launch) (D : va_G) (cI cJ cB : ClassId) (h hs hw hh hp se wd hd nb wl : Nat) (st sl : Int32) (gl aq lb : Option Nat) (sh bw bh ps : Nat → Nat) (x : Int32) (h24 : wd * hd ≤ 24) : Met l yX0_hasCell (Cond.code yX0_hasCell cX0_hasCell 2 (some .boolean) :: lw_all) (rmN 0) (va_Pc [.ref h, .int x] (pB D (tyz cI cJ cB) (bW cI cJ cB h hs hw hh hp (nI se) (nI wd) (nI hd) (nI wl) (nI nb) (nI (topv wd)) (nI (rcv wd hd)) (nI (btv wd hd)) (nI (lcv wd hd)) (gI gl) (gI aq) st sl (gI lb) (fun zz => nI (sh zz)) (fun zz => nI (bw zz)) (fun zz => nI (bh zz)) (fun zz => nI (ps zz))))) (va_Qi (fun (r : Int32) (w : va_W) => r = bI ((bOf (wd * hd) x).isSome) ∧ w = bW cI cJ cB h hs hw hh hp (nI se) (nI wd) (nI hd) (nI wl) (nI nb) (nI (topv wd)) (nI (rcv wd hd)) (nI (btv wd hd)) (nI (lcv wd hd)) (gI gl) (gI aq) st sl (gI lb) (fun zz => nI (sh zz)) (fun zz => nI (bw zz)) (fun zz => nI (bh zz)) (fun zz => nI (ps zz))) (gB D (bW cI cJ cB h hs hw hh hp (nI se) (nI wd) (nI hd) (nI wl) (nI nb) (nI (topv wd)) (nI (rcv wd hd)) (nI (btv wd hd)) (nI (lcv wd hd)) (gI gl) (gI aq) st sl (gI lb) (fun zz => nI (sh zz)) (fun zz => nI (bw zz)) (fun zz => nI (bh zz)) (fun zz => nI (ps zz)))) (aW (bW cI cJ cB h hs hw hh hp (nI se) (nI wd) (nI hd) (nI wl) (nI nb) (nI (topv wd)) (nI (rcv wd hd)) (nI (btv wd hd)) (nI (lcv wd hd)) (gI gl) (gI aq) st sl (gI lb) (fun zz => nI (sh zz)) (fun zz => nI (bw zz)) (fun zz => nI (bh zz)) (fun zz => nI (ps zz))))) 0 0 (aW (bW cI cJ cB h hs hw hh hp (nI se) (nI wd) (nI hd) (nI wl) (nI nb) (nI (topv wd)) (nI (rcv wd hd)) (nI (btv wd hd)) (nI (lcv wd hd)) (gI gl) (gI aq) st sl (gI lb) (fun zz => nI (sh zz)) (fun zz => nI (bw zz)) (fun zz => nI (bh zz)) (fun zz => nI (ps zz)))) := by
  refine Met.ofW (cc := cX0_hasCell) (maxL := 2) (ret := (some .boolean)) (by decide) rfl ?_
  intro p e s m args below meth c s₁ B hml hv
  obtain ⟨rfl, hK, hN, hP, hD0⟩ := hv
  have hx := B.exec; have hb := B.bytes; have hr := B.returns; have hlocks := B.notSynchronized
  have hts0 := atoms_spec (ws := Cond.code yX0_hasCell cX0_hasCell 2 (some .boolean) :: lw_all) B.pre
  have hC : CallFix p m c cX0_hasCell 2 s _ lw_all RX0 := ⟨hx, hb, hml, findClass_of_methodNamed B.named, fun w h => hts0 w (List.mem_cons_of_mem _ h)⟩
  have hD : va_D (aW (bW cI cJ cB h hs hw hh hp (nI se) (nI wd) (nI hd) (nI wl) (nI nb) (nI (topv wd)) (nI (rcv wd hd)) (nI (btv wd hd)) (nI (lcv wd hd)) (gI gl) (gI aq) st sl (gI lb) (fun zz => nI (sh zz)) (fun zz => nI (bw zz)) (fun zz => nI (bh zz)) (fun zz => nI (ps zz)))) (bW cI cJ cB h hs hw hh hp (nI se) (nI wd) (nI hd) (nI wl) (nI nb) (nI (topv wd)) (nI (rcv wd hd)) (nI (btv wd hd)) (nI (lcv wd hd)) (gI gl) (gI aq) st sl (gI lb) (fun zz => nI (sh zz)) (fun zz => nI (bw zz)) (fun zz => nI (bh zz)) (fun zz => nI (ps zz))) := ⟨hD0.1, fun k q h => ⟨k, q.2, h⟩⟩
  generalize hAe : aW (bW cI cJ cB h hs hw hh hp (nI se) (nI wd) (nI hd) (nI wl) (nI nb) (nI (topv wd)) (nI (rcv wd hd)) (nI (btv wd hd)) (nI (lcv wd hd)) (gI gl) (gI aq) st sl (gI lb) (fun zz => nI (sh zz)) (fun zz => nI (bw zz)) (fun zz => nI (bh zz)) (fun zz => nI (ps zz))) = A at hD ⊢
  have hS : va_S A s.heap s.heap [] := va_S.rf
  have hl := lv_entry ([.ref h, .int x]) (n := 2) (Nat.le_of_ble_eq_true rfl)
  rw [lg_entry_eq]
  generalize (lg_sl ([.ref h, .int x]) ++ List.replicate (2 - (lg_sl ([.ref h, .int x])).length) Slot.unset).toArray = ls at hl ⊢
  have hl : lv_has ls 2 [(0, .ref h), (1, .int x)] := hl
  generalize hav : ([.ref h, .int x] : List Value).toArray = args at hC ⊢
  refine W_gen (fun QQ hQ => ?_)
  show W p l e (rmN 0) s m args below meth c s.heap [] 0 0 QQ (F0 m 0 ls [])
  refine lv_iload_n hx hb dX0_hasCell_0 rfl (lv_at hl 1 rfl) ?_
  refine lv_if_lt (tgt := 21) hx hb dX0_hasCell_1 (by decide) (fun c1 => ?_) (fun c1 => ?_)
  · have _ : True := trivial
    refine lv_iconst (v := nI 0) hx hb dX0_hasCell_21 (by decide) ?_
    rw [hQ]
    exact W.zret (v := nI 0) hx hb hr rfl (fun t9 ht hW => ⟨⟨_, _, rfl, ⟨(by rw [has_n (by omega) (Or.inl c1)]; rfl), rfl⟩, by rw [ht]; exact hP, rfl⟩, hS.F ht⟩) hS.2.2 dX0_hasCell_22
  · have _ : True := trivial
    refine lv_iload_n hx hb dX0_hasCell_4 rfl (lv_at hl 1 rfl) ?_
    refine lv_aload_n hx hb dX0_hasCell_5 rfl (lv_at hl 0 rfl) ?_
    refine gf_X0_32 hC hK hP 0 rfl rfl dX0_hasCell_6 ?_
    refine lv_aload_n hx hb dX0_hasCell_9 rfl (lv_at hl 0 rfl) ?_
    refine gf_X0_35 hC hK hP 0 rfl rfl dX0_hasCell_10 ?_
    refine n_imul hx hb dX0_hasCell_13  ?_
    refine lv_icmp_ge (tgt := 21) hx hb dX0_hasCell_14 (by decide) (fun c14 => ?_) (fun c14 => ?_)
    · have _ : True := trivial
      refine lv_iconst (v := nI 0) hx hb dX0_hasCell_21 (by decide) ?_
      rw [hQ]
      exact W.zret (v := nI 0) hx hb hr rfl (fun t9 ht hW => ⟨⟨_, _, rfl, ⟨(by rw [has_n (by omega) (Or.inr c14)]; rfl), rfl⟩, by rw [ht]; exact hP, rfl⟩, hS.F ht⟩) hS.2.2 dX0_hasCell_22
    · have _ : True := trivial
      refine lv_iconst (v := nI 1) hx hb dX0_hasCell_17 (by decide) ?_
      refine lv_goto (tgt := 22) hx hb dX0_hasCell_18 (by decide) ?_
      rw [hQ]
      exact W.zret (v := nI 1) hx hb hr rfl (fun t9 ht hW => ⟨⟨_, _, rfl, ⟨(by rw [has_y (by omega) c1 c14]; rfl), rfl⟩, by rw [ht]; exact hP, rfl⟩, hS.F ht⟩) hS.2.2 dX0_hasCell_22

set_option maxHeartbeats 400000 in
set_option maxRecDepth 100000 in
theorem c_X0_cellsOf (l : Launch) (D : va_G) (cI cJ cB : ClassId) (h hs hw hh hp se wd hd nb wl : Nat) (st sl : Int32) (gl aq lb : Option Nat) (sh bw bh ps : Nat → Nat) (b : Nat) (hb7 : b < 7) (hpb : ps b < 32) : Met l yX0_cellsOf (Cond.code yX0_cellsOf cX0_cellsOf 2 (some .int) :: lw_all) (rmN 1) (va_Pc [.ref h, .int (nI b)] (pB D (tyz cI cJ cB) (bW cI cJ cB h hs hw hh hp (nI se) (nI wd) (nI hd) (nI wl) (nI nb) (nI (topv wd)) (nI (rcv wd hd)) (nI (btv wd hd)) (nI (lcv wd hd)) (gI gl) (gI aq) st sl (gI lb) (fun zz => nI (sh zz)) (fun zz => nI (bw zz)) (fun zz => nI (bh zz)) (fun zz => nI (ps zz))))) (va_Qi (fun (r : Int32) (w : va_W) => r = nI (sh b <<< ps b) ∧ w = bW cI cJ cB h hs hw hh hp (nI se) (nI wd) (nI hd) (nI wl) (nI nb) (nI (topv wd)) (nI (rcv wd hd)) (nI (btv wd hd)) (nI (lcv wd hd)) (gI gl) (gI aq) st sl (gI lb) (fun zz => nI (sh zz)) (fun zz => nI (bw zz)) (fun zz => nI (bh zz)) (fun zz => nI (ps zz))) (gB D (bW cI cJ cB h hs hw hh hp (nI se) (nI wd) (nI hd) (nI wl) (nI nb) (nI (topv wd)) (nI (rcv wd hd)) (nI (btv wd hd)) (nI (lcv wd hd)) (gI gl) (gI aq) st sl (gI lb) (fun zz => nI (sh zz)) (fun zz => nI (bw zz)) (fun zz => nI (bh zz)) (fun zz => nI (ps zz)))) (aW (bW cI cJ cB h hs hw hh hp (nI se) (nI wd) (nI hd) (nI wl) (nI nb) (nI (topv wd)) (nI (rcv wd hd)) (nI (btv wd hd)) (nI (lcv wd hd)) (gI gl) (gI aq) st sl (gI lb) (fun zz => nI (sh zz)) (fun zz => nI (bw zz)) (fun zz => nI (bh zz)) (fun zz => nI (ps zz))))) 0 0 (aW (bW cI cJ cB h hs hw hh hp (nI se) (nI wd) (nI hd) (nI wl) (nI nb) (nI (topv wd)) (nI (rcv wd hd)) (nI (btv wd hd)) (nI (lcv wd hd)) (gI gl) (gI aq) st sl (gI lb) (fun zz => nI (sh zz)) (fun zz => nI (bw zz)) (fun zz => nI (bh zz)) (fun zz => nI (ps zz)))) := by
  refine Met.ofW (cc := cX0_cellsOf) (maxL := 2) (ret := (some .int)) (by decide) rfl ?_
  intro p e s m args below meth c s₁ B hml hv
  obtain ⟨rfl, hK, hN, hP, hD0⟩ := hv
  have hx := B.exec; have hb := B.bytes; have hr := B.returns; have hlocks := B.notSynchronized
  have hts0 := atoms_spec (ws := Cond.code yX0_cellsOf cX0_cellsOf 2 (some .int) :: lw_all) B.pre
  have hC : CallFix p m c cX0_cellsOf 2 s _ lw_all RX0 := ⟨hx, hb, hml, findClass_of_methodNamed B.named, fun w h => hts0 w (List.mem_cons_of_mem _ h)⟩
  have hD : va_D (aW (bW cI cJ cB h hs hw hh hp (nI se) (nI wd) (nI hd) (nI wl) (nI nb) (nI (topv wd)) (nI (rcv wd hd)) (nI (btv wd hd)) (nI (lcv wd hd)) (gI gl) (gI aq) st sl (gI lb) (fun zz => nI (sh zz)) (fun zz => nI (bw zz)) (fun zz => nI (bh zz)) (fun zz => nI (ps zz)))) (bW cI cJ cB h hs hw hh hp (nI se) (nI wd) (nI hd) (nI wl) (nI nb) (nI (topv wd)) (nI (rcv wd hd)) (nI (btv wd hd)) (nI (lcv wd hd)) (gI gl) (gI aq) st sl (gI lb) (fun zz => nI (sh zz)) (fun zz => nI (bw zz)) (fun zz => nI (bh zz)) (fun zz => nI (ps zz))) := ⟨hD0.1, fun k q h => ⟨k, q.2, h⟩⟩
  generalize hAe : aW (bW cI cJ cB h hs hw hh hp (nI se) (nI wd) (nI hd) (nI wl) (nI nb) (nI (topv wd)) (nI (rcv wd hd)) (nI (btv wd hd)) (nI (lcv wd hd)) (gI gl) (gI aq) st sl (gI lb) (fun zz => nI (sh zz)) (fun zz => nI (bw zz)) (fun zz => nI (bh zz)) (fun zz => nI (ps zz))) = A at hD ⊢
  have hS : va_S A s.heap s.heap [] := va_S.rf
  have hl := lv_entry ([.ref h, .int (nI b)]) (n := 2) (Nat.le_of_ble_eq_true rfl)
  rw [lg_entry_eq]
  generalize (lg_sl ([.ref h, .int (nI b)]) ++ List.replicate (2 - (lg_sl ([.ref h, .int (nI b)])).length) Slot.unset).toArray = ls at hl ⊢
  have hl : lv_has ls 2 [(0, .ref h), (1, .int (nI b))] := hl
  generalize hav : ([.ref h, .int (nI b)] : List Value).toArray = args at hC ⊢
  refine W_gen (fun QQ hQ => ?_)
  show W p l e (rmN 1) s m args below meth c s.heap [] 0 0 QQ (F0 m 0 ls [])
  refine lv_aload_n hx hb dX0_cellsOf_0 rfl (lv_at hl 0 rfl) ?_
  refine gf_X0_15 hC hK hP 0 rfl rfl dX0_cellsOf_1 ?_
  refine lv_iload_n hx hb dX0_cellsOf_4 rfl (lv_at hl 1 rfl) ?_
  refine callN_i (As := [.ref hs, .int (nI b)]) (rest := []) [1] hC hK hN hP hD rfl (by decide) hS (c_X7_at_N l D cI cJ cB hs 7 b sh (by omega) (by omega)) q401 md_X7_at rfl hl.1 rfl (Nat.le_of_ble_eq_true rfl) dX0_cellsOf_5 ⟨Nat.le_of_ble_eq_true rfl, Nat.le_of_ble_eq_true rfl⟩ ⟨Nat.le_of_ble_eq_true rfl, Nat.le_of_ble_eq_true rfl⟩ (fun r_5 w H locs hpost hP hD hS => ?_)
  obtain ⟨rfl, rfl⟩ := hpost
  have hP : va_P D vwCl (bW cI cJ cB h hs hw hh hp (nI se) (nI wd) (nI hd) (nI wl) (nI nb) (nI (topv wd)) (nI (rcv wd hd)) (nI (btv wd hd)) (nI (lcv wd hd)) (gI gl) (gI aq) st sl (gI lb) (fun zz => nI (sh zz)) (fun zz => nI (bw zz)) (fun zz => nI (bh zz)) (fun zz => nI (ps zz))) H := hP
  have hD : va_D A (bW cI cJ cB h hs hw hh hp (nI se) (nI wd) (nI hd) (nI wl) (nI nb) (nI (topv wd)) (nI (rcv wd hd)) (nI (btv wd hd)) (nI (lcv wd hd)) (gI gl) (gI aq) st sl (gI lb) (fun zz => nI (sh zz)) (fun zz => nI (bw zz)) (fun zz => nI (bh zz)) (fun zz => nI (ps zz))) := hD
  refine lv_aload_n hx hb dX0_cellsOf_8 rfl (lv_at hl 0 rfl) ?_
  refine gf_X0_25 hC hK hP 0 rfl rfl dX0_cellsOf_9 ?_
  refine lv_iload_n hx hb dX0_cellsOf_12 rfl (lv_at hl 1 rfl) ?_
  refine callN_i (As := [.ref hp, .int (nI b)]) (rest := [.int (nI (sh b))]) [4] hC hK hN hP hD rfl (by decide) hS (c_X7_at_N l D cI cJ cB hp 7 b ps (by omega) (by omega)) q401 md_X7_at rfl hl.1 rfl (Nat.le_of_ble_eq_true rfl) dX0_cellsOf_13 ⟨Nat.le_of_ble_eq_true rfl, Nat.le_of_ble_eq_true rfl⟩ ⟨Nat.le_of_ble_eq_true rfl, Nat.le_of_ble_eq_true rfl⟩ (fun r_13 w H locs hpost hP hD hS => ?_)
  obtain ⟨rfl, rfl⟩ := hpost
  have hP : va_P D vwCl (bW cI cJ cB h hs hw hh hp (nI se) (nI wd) (nI hd) (nI wl) (nI nb) (nI (topv wd)) (nI (rcv wd hd)) (nI (btv wd hd)) (nI (lcv wd hd)) (gI gl) (gI aq) st sl (gI lb) (fun zz => nI (sh zz)) (fun zz => nI (bw zz)) (fun zz => nI (bh zz)) (fun zz => nI (ps zz))) H := hP
  have hD : va_D A (bW cI cJ cB h hs hw hh hp (nI se) (nI wd) (nI hd) (nI wl) (nI nb) (nI (topv wd)) (nI (rcv wd hd)) (nI (btv wd hd)) (nI (lcv wd hd)) (gI gl) (gI aq) st sl (gI lb) (fun zz => nI (sh zz)) (fun zz => nI (bw zz)) (fun zz => nI (bh zz)) (fun zz => nI (ps zz))) := hD
  refine n_ishl hx hb dX0_cellsOf_16 (by omega) ?_
  rw [hQ]
  exact W.iret (v := nI ((sh b) <<< (ps b))) hx hb hr (fun t9 ht hW => ⟨⟨_, _, rfl, ⟨rfl, rfl⟩, by rw [ht]; exact hP, rfl⟩, hS.F ht⟩) hS.2.2 dX0_cellsOf_17

set_option maxHeartbeats 400000 in
set_option maxRecDepth 100000 in
theorem c_X0_taken (l : Launch) (D : va_G) (cI cJ cB : ClassId) (h hs hw hh hp se wd hd nb wl : Nat) (st sl : Int32) (gl aq lb : Option Nat) (sh bw bh ps : Nat → Nat) (hn7 : nb ≤ 7) (hps : ∀ b, b < nb → ps b < 32) : Met l yX0_taken (Cond.code yX0_taken cX0_taken 3 (some .int) :: lw_all) (rmN 2) (va_Pc [.ref h] (pB D (tyz cI cJ cB) (bW cI cJ cB h hs hw hh hp (nI se) (nI wd) (nI hd) (nI wl) (nI nb) (nI (topv wd)) (nI (rcv wd hd)) (nI (btv wd hd)) (nI (lcv wd hd)) (gI gl) (gI aq) st sl (gI lb) (fun zz => nI (sh zz)) (fun zz => nI (bw zz)) (fun zz => nI (bh zz)) (fun zz => nI (ps zz))))) (va_Qi (fun (r : Int32) (w : va_W) => r = nI (tkp wl sh ps nb) ∧ w = bW cI cJ cB h hs hw hh hp (nI se) (nI wd) (nI hd) (nI wl) (nI nb) (nI (topv wd)) (nI (rcv wd hd)) (nI (btv wd hd)) (nI (lcv wd hd)) (gI gl) (gI aq) st sl (gI lb) (fun zz => nI (sh zz)) (fun zz => nI (bw zz)) (fun zz => nI (bh zz)) (fun zz => nI (ps zz))) (gB D (bW cI cJ cB h hs hw hh hp (nI se) (nI wd) (nI hd) (nI wl) (nI nb) (nI (topv wd)) (nI (rcv wd hd)) (nI (btv wd hd)) (nI (lcv wd hd)) (gI gl) (gI aq) st sl (gI lb) (fun zz => nI (sh zz)) (fun zz => nI (bw zz)) (fun zz => nI (bh zz)) (fun zz => nI (ps zz)))) (aW (bW cI cJ cB h hs hw hh hp (nI se) (nI wd) (nI hd) (nI wl) (nI nb) (nI (topv wd)) (nI (rcv wd hd)) (nI (btv wd hd)) (nI (lcv wd hd)) (gI gl) (gI aq) st sl (gI lb) (fun zz => nI (sh zz)) (fun zz => nI (bw zz)) (fun zz => nI (bh zz)) (fun zz => nI (ps zz))))) 0 0 (aW (bW cI cJ cB h hs hw hh hp (nI se) (nI wd) (nI hd) (nI wl) (nI nb) (nI (topv wd)) (nI (rcv wd hd)) (nI (btv wd hd)) (nI (lcv wd hd)) (gI gl) (gI aq) st sl (gI lb) (fun zz => nI (sh zz)) (fun zz => nI (bw zz)) (fun zz => nI (bh zz)) (fun zz => nI (ps zz)))) := by
  refine Met.ofW (cc := cX0_taken) (maxL := 3) (ret := (some .int)) (by decide) rfl ?_
  intro p e s m args below meth c s₁ B hml hv
  obtain ⟨rfl, hK, hN, hP, hD0⟩ := hv
  have hx := B.exec; have hb := B.bytes; have hr := B.returns; have hlocks := B.notSynchronized
  have hts0 := atoms_spec (ws := Cond.code yX0_taken cX0_taken 3 (some .int) :: lw_all) B.pre
  have hC : CallFix p m c cX0_taken 3 s _ lw_all RX0 := ⟨hx, hb, hml, findClass_of_methodNamed B.named, fun w h => hts0 w (List.mem_cons_of_mem _ h)⟩
  have hD : va_D (aW (bW cI cJ cB h hs hw hh hp (nI se) (nI wd) (nI hd) (nI wl) (nI nb) (nI (topv wd)) (nI (rcv wd hd)) (nI (btv wd hd)) (nI (lcv wd hd)) (gI gl) (gI aq) st sl (gI lb) (fun zz => nI (sh zz)) (fun zz => nI (bw zz)) (fun zz => nI (bh zz)) (fun zz => nI (ps zz)))) (bW cI cJ cB h hs hw hh hp (nI se) (nI wd) (nI hd) (nI wl) (nI nb) (nI (topv wd)) (nI (rcv wd hd)) (nI (btv wd hd)) (nI (lcv wd hd)) (gI gl) (gI aq) st sl (gI lb) (fun zz => nI (sh zz)) (fun zz => nI (bw zz)) (fun zz => nI (bh zz)) (fun zz => nI (ps zz))) := ⟨hD0.1, fun k q h => ⟨k, q.2, h⟩⟩
  generalize hAe : aW (bW cI cJ cB h hs hw hh hp (nI se) (nI wd) (nI hd) (nI wl) (nI nb) (nI (topv wd)) (nI (rcv wd hd)) (nI (btv wd hd)) (nI (lcv wd hd)) (gI gl) (gI aq) st sl (gI lb) (fun zz => nI (sh zz)) (fun zz => nI (bw zz)) (fun zz => nI (bh zz)) (fun zz => nI (ps zz))) = A at hD ⊢
  have hS : va_S A s.heap s.heap [] := va_S.rf
  have hl := lv_entry ([.ref h]) (n := 3) (Nat.le_of_ble_eq_true rfl)
  rw [lg_entry_eq]
  generalize (lg_sl ([.ref h]) ++ List.replicate (3 - (lg_sl ([.ref h])).length) Slot.unset).toArray = ls at hl ⊢
  have hl : lv_has ls 3 [(0, .ref h)] := hl
  generalize hav : ([.ref h] : List Value).toArray = args at hC ⊢
  refine W_gen (fun QQ hQ => ?_)
  show W p l e (rmN 2) s m args below meth c s.heap [] 0 0 QQ (F0 m 0 ls [])
  refine lv_aload_n hx hb dX0_taken_0 rfl (lv_at hl 0 rfl) ?_
  refine gf_X0_38 hC hK hP 0 rfl rfl dX0_taken_1 ?_
  refine lv_istore_n (lv' := [(1, .int (nI wl)), (0, .ref h)]) hx hb dX0_taken_4 rfl hl (by decide) rfl (fun ls hl => ?_)
  refine lv_iconst (v := nI 0) hx hb dX0_taken_5 (by decide) ?_
  refine lv_istore_n (lv' := [(2, .int (nI 0)), (1, .int (nI wl)), (0, .ref h)]) hx hb dX0_taken_6 rfl hl (by decide) rfl (fun ls hl => ?_)
  have L7 : ∀ (n : Nat) (b : Nat), (b ≤ nb) → (nb - b) < n → ∀ (H : Heap) (locs : List Loc), va_P D vwCl (bW cI cJ cB h hs hw hh hp (nI se) (nI wd) (nI hd) (nI wl) (nI nb) (nI (topv wd)) (nI (rcv wd hd)) (nI (btv wd hd)) (nI (lcv wd hd)) (gI gl) (gI aq) st sl (gI lb) (fun zz => nI (sh zz)) (fun zz => nI (bw zz)) (fun zz => nI (bh zz)) (fun zz => nI (ps zz))) H → va_D A (bW cI cJ cB h hs hw hh hp (nI se) (nI wd) (nI hd) (nI wl) (nI nb) (nI (topv wd)) (nI (rcv wd hd)) (nI (btv wd hd)) (nI (lcv wd hd)) (gI gl) (gI aq) st sl (gI lb) (fun zz => nI (sh zz)) (fun zz => nI (bw zz)) (fun zz => nI (bh zz)) (fun zz => nI (ps zz))) → va_S A s.heap H locs → ∀ ls : Array Slot, lv_has ls 3 [(1, .int (nI (tkp wl sh ps b))), (2, .int (nI b)), (0, .ref h)] → W p l e (rmN 2) s m args below meth c H locs 0 0 QQ (F0 m 7 ls []) := by
    intro n; induction n with
    | zero => intro b ib hm; exact absurd hm (Nat.not_lt_zero _)
    | succ n ih7 =>
      intro b ib hm7 H locs hP hD hS ls hl
      refine lv_iload_n hx hb dX0_taken_7 rfl (lv_at hl 1 rfl) ?_
      refine lv_aload_n hx hb dX0_taken_8 rfl (lv_at hl 2 rfl) ?_
      refine gf_X0_41 hC hK hP 0 rfl rfl dX0_taken_9 ?_
      refine n_icmp_ge (a := b) (b := nb) (tgt := 29) hx hb dX0_taken_12 (by decide) (by omega) (by omega) (fun c12 => ?_) (fun c12 => ?_)
      · have _ : True := trivial
        have e12 : b = nb := by omega
        refine lv_iload_n hx hb dX0_taken_29 rfl (lv_at hl 0 rfl) ?_
        rw [hQ]
        exact W.iret (v := nI (tkp wl sh ps b)) hx hb hr (fun t9 ht hW => ⟨⟨_, _, rfl, ⟨(by rw [e12]), rfl⟩, by rw [ht]; exact hP, rfl⟩, hS.F ht⟩) hS.2.2 dX0_taken_30
      · have _ : True := trivial
        refine lv_iload_n hx hb dX0_taken_15 rfl (lv_at hl 0 rfl) ?_
        refine lv_aload_n hx hb dX0_taken_16 rfl (lv_at hl 2 rfl) ?_
        refine lv_iload_n hx hb dX0_taken_17 rfl (lv_at hl 1 rfl) ?_
        refine callV_i (As := [.int (nI b)]) (rest := [.int (nI (tkp wl sh ps b))]) [0, 1, 2, 3, 4] hC hK hN hP hD rfl (by decide) hS 0 (ci := 0) rfl rfl rfl (c_X0_cellsOf l D cI cJ cB h hs hw hh hp se wd hd nb wl st sl gl aq lb sh bw bh ps b (by omega) (hps b c12)) q397 md_X0_cellsOf rfl hl.1 rfl (Nat.le_of_ble_eq_true rfl) dX0_taken_18 ⟨Nat.le_of_ble_eq_true rfl, Nat.le_of_ble_eq_true rfl⟩ ⟨Nat.le_of_ble_eq_true rfl, Nat.le_of_ble_eq_true rfl⟩ (fun r_18 w H locs hpost hP hD hS => ?_)
        obtain ⟨rfl, rfl⟩ := hpost
        have hP : va_P D vwCl (bW cI cJ cB h hs hw hh hp (nI se) (nI wd) (nI hd) (nI wl) (nI nb) (nI (topv wd)) (nI (rcv wd hd)) (nI (btv wd hd)) (nI (lcv wd hd)) (gI gl) (gI aq) st sl (gI lb) (fun zz => nI (sh zz)) (fun zz => nI (bw zz)) (fun zz => nI (bh zz)) (fun zz => nI (ps zz))) H := hP
        have hD : va_D A (bW cI cJ cB h hs hw hh hp (nI se) (nI wd) (nI hd) (nI wl) (nI nb) (nI (topv wd)) (nI (rcv wd hd)) (nI (btv wd hd)) (nI (lcv wd hd)) (gI gl) (gI aq) st sl (gI lb) (fun zz => nI (sh zz)) (fun zz => nI (bw zz)) (fun zz => nI (bh zz)) (fun zz => nI (ps zz))) := hD
        refine n_ior hx hb dX0_taken_21  ?_
        refine topi (y := nI (tkp wl sh ps (b + 1))) rfl ?_
        refine lv_istore_n (lv' := [(1, .int (nI (tkp wl sh ps (b + 1)))), (2, .int (nI b)), (0, .ref h)]) hx hb dX0_taken_22 rfl hl (by decide) rfl (fun ls hl => ?_)
        refine lv_iinc (v := nI (b + 1)) (lv' := [(2, .int (nI (b + 1))), (1, .int (nI (tkp wl sh ps (b + 1)))), (0, .ref h)]) hx hb dX0_taken_23 hl (k := 1) rfl (nI_1 _) (by decide) rfl (fun ls hl => ?_)
        refine lv_goto (tgt := 7) hx hb dX0_taken_26 (by decide) ?_
        exact ih7 (b + 1) (by omega) (by omega) _ _ hP hD hS _ (lv_sub hl [1, 0, 2] rfl)
  exact L7 _ 0 (by omega) (Nat.lt_succ_self _) _ _ hP hD hS _ (lv_sub hl [1, 0, 2] rfl)

set_option maxHeartbeats 400000 in
set_option maxRecDepth 100000 in
theorem c_X0_firstAlike (l : Launch) (D : va_G) (cI cJ cB : ClassId) (h hs hw hh hp se wd hd nb wl : Nat) (st sl : Int32) (gl aq lb : Option Nat) (sh bw bh ps : Nat → Nat) (b : Nat) (hb7 : b < 7) (hsh : ∀ c, c ≤ b → sh c < 2 ^ 31) : Met l yX0_firstAlike (Cond.code yX0_firstAlike cX0_firstAlike 3 (some .int) :: lw_all) (rmN 1) (va_Pc [.ref h, .int (nI b)] (pB D (tyz cI cJ cB) (bW cI cJ cB h hs hw hh hp (nI se) (nI wd) (nI hd) (nI wl) (nI nb) (nI (topv wd)) (nI (rcv wd hd)) (nI (btv wd hd)) (nI (lcv wd hd)) (gI gl) (gI aq) st sl (gI lb) (fun zz => nI (sh zz)) (fun zz => nI (bw zz)) (fun zz => nI (bh zz)) (fun zz => nI (ps zz))))) (va_Qi (fun (r : Int32) (w : va_W) => r = nI (f_alike sh b) ∧ w = bW cI cJ cB h hs hw hh hp (nI se) (nI wd) (nI hd) (nI wl) (nI nb) (nI (topv wd)) (nI (rcv wd hd)) (nI (btv wd hd)) (nI (lcv wd hd)) (gI gl) (gI aq) st sl (gI lb) (fun zz => nI (sh zz)) (fun zz => nI (bw zz)) (fun zz => nI (bh zz)) (fun zz => nI (ps zz))) (gB D (bW cI cJ cB h hs hw hh hp (nI se) (nI wd) (nI hd) (nI wl) (nI nb) (nI (topv wd)) (nI (rcv wd hd)) (nI (btv wd hd)) (nI (lcv wd hd)) (gI gl) (gI aq) st sl (gI lb) (fun zz => nI (sh zz)) (fun zz => nI (bw zz)) (fun zz => nI (bh zz)) (fun zz => nI (ps zz)))) (aW (bW cI cJ cB h hs hw hh hp (nI se) (nI wd) (nI hd) (nI wl) (nI nb) (nI (topv wd)) (nI (rcv wd hd)) (nI (btv wd hd)) (nI (lcv wd hd)) (gI gl) (gI aq) st sl (gI lb) (fun zz => nI (sh zz)) (fun zz => nI (bw zz)) (fun zz => nI (bh zz)) (fun zz => nI (ps zz))))) 0 0 (aW (bW cI cJ cB h hs hw hh hp (nI se) (nI wd) (nI hd) (nI wl) (nI nb) (nI (topv wd)) (nI (rcv wd hd)) (nI (btv wd hd)) (nI (lcv wd hd)) (gI gl) (gI aq) st sl (gI lb) (fun zz => nI (sh zz)) (fun zz => nI (bw zz)) (fun zz => nI (bh zz)) (fun zz => nI (ps zz)))) := by
  refine Met.ofW (cc := cX0_firstAlike) (maxL := 3) (ret := (some .int)) (by decide) rfl ?_
  intro p e s m args below meth c s₁ B hml hv
  obtain ⟨rfl, hK, hN, hP, hD0⟩ := hv
  have hx := B.exec; have hb := B.bytes; have hr := B.returns; have hlocks := B.notSynchronized
  have hts0 := atoms_spec (ws := Cond.code yX0_firstAlike cX0_firstAlike 3 (some .int) :: lw_all) B.pre
  have hC : CallFix p m c cX0_firstAlike 3 s _ lw_all RX0 := ⟨hx, hb, hml, findClass_of_methodNamed B.named, fun w h => hts0 w (List.mem_cons_of_mem _ h)⟩
  have hD : va_D (aW (bW cI cJ cB h hs hw hh hp (nI se) (nI wd) (nI hd) (nI wl) (nI nb) (nI (topv wd)) (nI (rcv wd hd)) (nI (btv wd hd)) (nI (lcv wd hd)) (gI gl) (gI aq) st sl (gI lb) (fun zz => nI (sh zz)) (fun zz => nI (bw zz)) (fun zz => nI (bh zz)) (fun zz => nI (ps zz)))) (bW cI cJ cB h hs hw hh hp (nI se) (nI wd) (nI hd) (nI wl) (nI nb) (nI (topv wd)) (nI (rcv wd hd)) (nI (btv wd hd)) (nI (lcv wd hd)) (gI gl) (gI aq) st sl (gI lb) (fun zz => nI (sh zz)) (fun zz => nI (bw zz)) (fun zz => nI (bh zz)) (fun zz => nI (ps zz))) := ⟨hD0.1, fun k q h => ⟨k, q.2, h⟩⟩
  generalize hAe : aW (bW cI cJ cB h hs hw hh hp (nI se) (nI wd) (nI hd) (nI wl) (nI nb) (nI (topv wd)) (nI (rcv wd hd)) (nI (btv wd hd)) (nI (lcv wd hd)) (gI gl) (gI aq) st sl (gI lb) (fun zz => nI (sh zz)) (fun zz => nI (bw zz)) (fun zz => nI (bh zz)) (fun zz => nI (ps zz))) = A at hD ⊢
  have hS : va_S A s.heap s.heap [] := va_S.rf
  have hl := lv_entry ([.ref h, .int (nI b)]) (n := 3) (Nat.le_of_ble_eq_true rfl)
  rw [lg_entry_eq]
  generalize (lg_sl ([.ref h, .int (nI b)]) ++ List.replicate (3 - (lg_sl ([.ref h, .int (nI b)])).length) Slot.unset).toArray = ls at hl ⊢
  have hl : lv_has ls 3 [(0, .ref h), (1, .int (nI b))] := hl
  generalize hav : ([.ref h, .int (nI b)] : List Value).toArray = args at hC ⊢
  refine W_gen (fun QQ hQ => ?_)
  show W p l e (rmN 1) s m args below meth c s.heap [] 0 0 QQ (F0 m 0 ls [])
  refine lv_iconst (v := nI 0) hx hb dX0_firstAlike_0 (by decide) ?_
  refine lv_istore_n (lv' := [(2, .int (nI 0)), (0, .ref h), (1, .int (nI b))]) hx hb dX0_firstAlike_1 rfl hl (by decide) rfl (fun ls hl => ?_)
  have L2 : ∀ (n : Nat) (i : Nat), (i ≤ b) → (∀ j, j < i → sh j ≠ sh b) → (b - i) < n → ∀ (H : Heap) (locs : List Loc), va_P D vwCl (bW cI cJ cB h hs hw hh hp (nI se) (nI wd) (nI hd) (nI wl) (nI nb) (nI (topv wd)) (nI (rcv wd hd)) (nI (btv wd hd)) (nI (lcv wd hd)) (gI gl) (gI aq) st sl (gI lb) (fun zz => nI (sh zz)) (fun zz => nI (bw zz)) (fun zz => nI (bh zz)) (fun zz => nI (ps zz))) H → va_D A (bW cI cJ cB h hs hw hh hp (nI se) (nI wd) (nI hd) (nI wl) (nI nb) (nI (topv wd)) (nI (rcv wd hd)) (nI (btv wd hd)) (nI (lcv wd hd)) (gI gl) (gI aq) st sl (gI lb) (fun zz => nI (sh zz)) (fun zz => nI (bw zz)) (fun zz => nI (bh zz)) (fun zz => nI (ps zz))) → va_S A s.heap H locs → ∀ ls : Array Slot, lv_has ls 3 [(2, .int (nI i)), (0, .ref h), (1, .int (nI b))] → W p l e (rmN 1) s m args below meth c H locs 0 0 QQ (F0 m 2 ls []) := by
    intro n; induction n with
    | zero => intro i ii i1 hm; exact absurd hm (Nat.not_lt_zero _)
    | succ n ih2 =>
      intro i ii i1 hm2 H locs hP hD hS ls hl
      refine lv_iload_n hx hb dX0_firstAlike_2 rfl (lv_at hl 0 rfl) ?_
      refine lv_iload_n hx hb dX0_firstAlike_3 rfl (lv_at hl 2 rfl) ?_
      refine n_icmp_ge (a := i) (b := b) (tgt := 34) hx hb dX0_firstAlike_4 (by decide) (by omega) (by omega) (fun c4 => ?_) (fun c4 => ?_)
      · have _ : True := trivial
        have e4 : i = b := by omega
        refine lv_iload_n hx hb dX0_firstAlike_34 rfl (lv_at hl 2 rfl) ?_
        rw [hQ]
        exact W.iret (v := nI b) hx hb hr (fun t9 ht hW => ⟨⟨_, _, rfl, ⟨(by rw [← f_alike_eq (sh := sh) (b := b) ⟨Nat.le_refl b, rfl, by rw [← e4]; exact fun j hj => by rw [e4]; exact i1 j hj⟩]), rfl⟩, by rw [ht]; exact hP, rfl⟩, hS.F ht⟩) hS.2.2 dX0_firstAlike_35
      · have _ : True := trivial
        refine lv_aload_n hx hb dX0_firstAlike_7 rfl (lv_at hl 1 rfl) ?_
        refine gf_X0_15 hC hK hP 0 rfl rfl dX0_firstAlike_8 ?_
        refine lv_iload_n hx hb dX0_firstAlike_11 rfl (lv_at hl 0 rfl) ?_
        refine callN_i (As := [.ref hs, .int (nI i)]) (rest := []) [1] hC hK hN hP hD rfl (by decide) hS (c_X7_at_N l D cI cJ cB hs 7 i sh (by omega) (by omega)) q401 md_X7_at rfl hl.1 rfl (Nat.le_of_ble_eq_true rfl) dX0_firstAlike_12 ⟨Nat.le_of_ble_eq_true rfl, Nat.le_of_ble_eq_true rfl⟩ ⟨Nat.le_of_ble_eq_true rfl, Nat.le_of_ble_eq_true rfl⟩ (fun r_12 w H locs hpost hP hD hS => ?_)
        obtain ⟨rfl, rfl⟩ := hpost
        have hP : va_P D vwCl (bW cI cJ cB h hs hw hh hp (nI se) (nI wd) (nI hd) (nI wl) (nI nb) (nI (topv wd)) (nI (rcv wd hd)) (nI (btv wd hd)) (nI (lcv wd hd)) (gI gl) (gI aq) st sl (gI lb) (fun zz => nI (sh zz)) (fun zz => nI (bw zz)) (fun zz => nI (bh zz)) (fun zz => nI (ps zz))) H := hP
        have hD : va_D A (bW cI cJ cB h hs hw hh hp (nI se) (nI wd) (nI hd) (nI wl) (nI nb) (nI (topv wd)) (nI (rcv wd hd)) (nI (btv wd hd)) (nI (lcv wd hd)) (gI gl) (gI aq) st sl (gI lb) (fun zz => nI (sh zz)) (fun zz => nI (bw zz)) (fun zz => nI (bh zz)) (fun zz => nI (ps zz))) := hD
        refine lv_aload_n hx hb dX0_firstAlike_15 rfl (lv_at hl 1 rfl) ?_
        refine gf_X0_15 hC hK hP 0 rfl rfl dX0_firstAlike_16 ?_
        refine lv_iload_n hx hb dX0_firstAlike_19 rfl (lv_at hl 2 rfl) ?_
        refine callN_i (As := [.ref hs, .int (nI b)]) (rest := [.int (nI (sh i))]) [1] hC hK hN hP hD rfl (by decide) hS (c_X7_at_N l D cI cJ cB hs 7 b sh (by omega) (by omega)) q401 md_X7_at rfl hl.1 rfl (Nat.le_of_ble_eq_true rfl) dX0_firstAlike_20 ⟨Nat.le_of_ble_eq_true rfl, Nat.le_of_ble_eq_true rfl⟩ ⟨Nat.le_of_ble_eq_true rfl, Nat.le_of_ble_eq_true rfl⟩ (fun r_20 w H locs hpost hP hD hS => ?_)
        obtain ⟨rfl, rfl⟩ := hpost
        have hP : va_P D vwCl (bW cI cJ cB h hs hw hh hp (nI se) (nI wd) (nI hd) (nI wl) (nI nb) (nI (topv wd)) (nI (rcv wd hd)) (nI (btv wd hd)) (nI (lcv wd hd)) (gI gl) (gI aq) st sl (gI lb) (fun zz => nI (sh zz)) (fun zz => nI (bw zz)) (fun zz => nI (bh zz)) (fun zz => nI (ps zz))) H := hP
        have hD : va_D A (bW cI cJ cB h hs hw hh hp (nI se) (nI wd) (nI hd) (nI wl) (nI nb) (nI (topv wd)) (nI (rcv wd hd)) (nI (btv wd hd)) (nI (lcv wd hd)) (gI gl) (gI aq) st sl (gI lb) (fun zz => nI (sh zz)) (fun zz => nI (bw zz)) (fun zz => nI (bh zz)) (fun zz => nI (ps zz))) := hD
        refine n_icmp_ne (a := sh i) (b := sh b) (tgt := 28) hx hb dX0_firstAlike_23 (by decide) (hsh i (by omega)) (hsh b (Nat.le_refl b)) (fun c23 => ?_) (fun c23 => ?_)
        · have _ : True := trivial
          refine lv_iinc (v := nI (i + 1)) (lv' := [(2, .int (nI (i + 1))), (0, .ref h), (1, .int (nI b))]) hx hb dX0_firstAlike_28 hl (k := 0) rfl (nI_1 _) (by decide) rfl (fun ls hl => ?_)
          refine lv_goto (tgt := 2) hx hb dX0_firstAlike_31 (by decide) ?_
          exact ih2 (i + 1) (by omega) (lt_s i1 c23) (by omega) _ _ hP hD hS _ (lv_sub hl [0, 1, 2] rfl)
        · have _ : True := trivial
          refine lv_iload_n hx hb dX0_firstAlike_26 rfl (lv_at hl 0 rfl) ?_
          rw [hQ]
          exact W.iret (v := nI i) hx hb hr (fun t9 ht hW => ⟨⟨_, _, rfl, ⟨(by rw [← f_alike_eq ⟨by omega, c23, i1⟩]), rfl⟩, by rw [ht]; exact hP, rfl⟩, hS.F ht⟩) hS.2.2 dX0_firstAlike_27
  exact L2 _ 0 (by omega) (fun j h => absurd h (Nat.not_lt_zero j)) (Nat.lt_succ_self _) _ _ hP hD hS _ (lv_sub hl [0, 1, 2] rfl)

set_option maxHeartbeats 400000 in
set_option maxRecDepth 100000 in
theorem c_X0_offset (l : Launch) (D : va_G) (cI cJ cB : ClassId) (h hs hw hh hp se wd hd nb wl : Nat) (st sl : Int32) (gl aq lb : Option Nat) (sh bw bh ps : Nat → Nat) (d : Nat) (hd4 : d < 4) : Met l yX0_offset (Cond.code yX0_offset cX0_offset 2 (some .int) :: lw_all) (rmN 0) (va_Pc [.ref h, .int (nI d)] (pB D (tyz cI cJ cB) (bW cI cJ cB h hs hw hh hp (nI se) (nI wd) (nI hd) (nI wl) (nI nb) (nI (topv wd)) (nI (rcv wd hd)) (nI (btv wd hd)) (nI (lcv wd hd)) (gI gl) (gI aq) st sl (gI lb) (fun zz => nI (sh zz)) (fun zz => nI (bw zz)) (fun zz => nI (bh zz)) (fun zz => nI (ps zz))))) (va_Qi (fun (r : Int32) (w : va_W) => r = offs wd d ∧ w = bW cI cJ cB h hs hw hh hp (nI se) (nI wd) (nI hd) (nI wl) (nI nb) (nI (topv wd)) (nI (rcv wd hd)) (nI (btv wd hd)) (nI (lcv wd hd)) (gI gl) (gI aq) st sl (gI lb) (fun zz => nI (sh zz)) (fun zz => nI (bw zz)) (fun zz => nI (bh zz)) (fun zz => nI (ps zz))) (gB D (bW cI cJ cB h hs hw hh hp (nI se) (nI wd) (nI hd) (nI wl) (nI nb) (nI (topv wd)) (nI (rcv wd hd)) (nI (btv wd hd)) (nI (lcv wd hd)) (gI gl) (gI aq) st sl (gI lb) (fun zz => nI (sh zz)) (fun zz => nI (bw zz)) (fun zz => nI (bh zz)) (fun zz => nI (ps zz)))) (aW (bW cI cJ cB h hs hw hh hp (nI se) (nI wd) (nI hd) (nI wl) (nI nb) (nI (topv wd)) (nI (rcv wd hd)) (nI (btv wd hd)) (nI (lcv wd hd)) (gI gl) (gI aq) st sl (gI lb) (fun zz => nI (sh zz)) (fun zz => nI (bw zz)) (fun zz => nI (bh zz)) (fun zz => nI (ps zz))))) 0 0 (aW (bW cI cJ cB h hs hw hh hp (nI se) (nI wd) (nI hd) (nI wl) (nI nb) (nI (topv wd)) (nI (rcv wd hd)) (nI (btv wd hd)) (nI (lcv wd hd)) (gI gl) (gI aq) st sl (gI lb) (fun zz => nI (sh zz)) (fun zz => nI (bw zz)) (fun zz => nI (bh zz)) (fun zz => nI (ps zz)))) := by
  refine Met.ofW (cc := cX0_offset) (maxL := 2) (ret := (some .int)) (by decide) rfl ?_
  intro p e s m args below meth c s₁ B hml hv
  obtain ⟨rfl, hK, hN, hP, hD0⟩ := hv
  have hx := B.exec; have hb := B.bytes; have hr := B.returns; have hlocks := B.notSynchronized
  have hts0 := atoms_spec (ws := Cond.code yX0_offset cX0_offset 2 (some .int) :: lw_all) B.pre
  have hC : CallFix p m c cX0_offset 2 s _ lw_all RX0 := ⟨hx, hb, hml, findClass_of_methodNamed B.named, fun w h => hts0 w (List.mem_cons_of_mem _ h)⟩
  have hD : va_D (aW (bW cI cJ cB h hs hw hh hp (nI se) (nI wd) (nI hd) (nI wl) (nI nb) (nI (topv wd)) (nI (rcv wd hd)) (nI (btv wd hd)) (nI (lcv wd hd)) (gI gl) (gI aq) st sl (gI lb) (fun zz => nI (sh zz)) (fun zz => nI (bw zz)) (fun zz => nI (bh zz)) (fun zz => nI (ps zz)))) (bW cI cJ cB h hs hw hh hp (nI se) (nI wd) (nI hd) (nI wl) (nI nb) (nI (topv wd)) (nI (rcv wd hd)) (nI (btv wd hd)) (nI (lcv wd hd)) (gI gl) (gI aq) st sl (gI lb) (fun zz => nI (sh zz)) (fun zz => nI (bw zz)) (fun zz => nI (bh zz)) (fun zz => nI (ps zz))) := ⟨hD0.1, fun k q h => ⟨k, q.2, h⟩⟩
  generalize hAe : aW (bW cI cJ cB h hs hw hh hp (nI se) (nI wd) (nI hd) (nI wl) (nI nb) (nI (topv wd)) (nI (rcv wd hd)) (nI (btv wd hd)) (nI (lcv wd hd)) (gI gl) (gI aq) st sl (gI lb) (fun zz => nI (sh zz)) (fun zz => nI (bw zz)) (fun zz => nI (bh zz)) (fun zz => nI (ps zz))) = A at hD ⊢
  have hS : va_S A s.heap s.heap [] := va_S.rf
  have hl := lv_entry ([.ref h, .int (nI d)]) (n := 2) (Nat.le_of_ble_eq_true rfl)
  rw [lg_entry_eq]
  generalize (lg_sl ([.ref h, .int (nI d)]) ++ List.replicate (2 - (lg_sl ([.ref h, .int (nI d)])).length) Slot.unset).toArray = ls at hl ⊢
  have hl : lv_has ls 2 [(0, .ref h), (1, .int (nI d))] := hl
  generalize hav : ([.ref h, .int (nI d)] : List Value).toArray = args at hC ⊢
  refine W_gen (fun QQ hQ => ?_)
  show W p l e (rmN 0) s m args below meth c s.heap [] 0 0 QQ (F0 m 0 ls [])
  rcases (show d = 0 ∨ d = 1 ∨ d = 2 ∨ d = 3 by omega) with rfl | rfl | rfl | rfl
  · have _ : True := trivial
    refine lv_iload_n hx hb dX0_offset_0 rfl (lv_at hl 1 rfl) ?_
    refine lv_tableIn (x := nI 0) (off := 27) (tgt := 28) hx hb dX0_offset_1 (by decide) (by decide) rfl (by decide) ?_
    refine lv_aload_n hx hb dX0_offset_28 rfl (lv_at hl 0 rfl) ?_
    refine gf_X0_32 hC hK hP 0 rfl rfl dX0_offset_29 ?_
    refine lv_ineg hx hb dX0_offset_32 ?_
    rw [hQ]
    exact W.iret (v := -(nI wd)) hx hb hr (fun t9 ht hW => ⟨⟨_, _, rfl, ⟨rfl, rfl⟩, by rw [ht]; exact hP, rfl⟩, hS.F ht⟩) hS.2.2 dX0_offset_33
  · have _ : True := trivial
    refine lv_iload_n hx hb dX0_offset_0 rfl (lv_at hl 1 rfl) ?_
    refine lv_tableIn (x := nI 1) (off := 33) (tgt := 34) hx hb dX0_offset_1 (by decide) (by decide) rfl (by decide) ?_
    refine lv_iconst (v := nI 1) hx hb dX0_offset_34 (by decide) ?_
    rw [hQ]
    exact W.iret (v := nI 1) hx hb hr (fun t9 ht hW => ⟨⟨_, _, rfl, ⟨rfl, rfl⟩, by rw [ht]; exact hP, rfl⟩, hS.F ht⟩) hS.2.2 dX0_offset_35
  · have _ : True := trivial
    refine lv_iload_n hx hb dX0_offset_0 rfl (lv_at hl 1 rfl) ?_
    refine lv_tableIn (x := nI 2) (off := 35) (tgt := 36) hx hb dX0_offset_1 (by decide) (by decide) rfl (by decide) ?_
    refine lv_aload_n hx hb dX0_offset_36 rfl (lv_at hl 0 rfl) ?_
    refine gf_X0_32 hC hK hP 0 rfl rfl dX0_offset_37 ?_
    rw [hQ]
    exact W.iret (v := nI wd) hx hb hr (fun t9 ht hW => ⟨⟨_, _, rfl, ⟨rfl, rfl⟩, by rw [ht]; exact hP, rfl⟩, hS.F ht⟩) hS.2.2 dX0_offset_40
  · have _ : True := trivial
    refine lv_iload_n hx hb dX0_offset_0 rfl (lv_at hl 1 rfl) ?_
    refine lv_tableOut (x := nI 3) (tgt := 41) hx hb dX0_offset_1 (Or.inr (by decide)) (by decide) ?_
    refine lv_iconst (v := (-1)) hx hb dX0_offset_41 (by decide) ?_
    rw [hQ]
    exact W.iret (v := (-1)) hx hb hr (fun t9 ht hW => ⟨⟨_, _, rfl, ⟨rfl, rfl⟩, by rw [ht]; exact hP, rfl⟩, hS.F ht⟩) hS.2.2 dX0_offset_42

set_option maxHeartbeats 400000 in
set_option maxRecDepth 100000 in
theorem c_X0_forgetMoves (l : Launch) (D : va_G) (cI cJ cB : ClassId) (h hs hw hh hp se wd hd nb wl : Nat) (st sl : Int32) (gl aq lb : Option Nat) (sh bw bh ps : Nat → Nat)  : Met l yX0_forgetMoves (Cond.code yX0_forgetMoves cX0_forgetMoves 1 none :: lw_all) (rmN 0) (va_Pc [.ref h] (pB D (tyz cI cJ cB) (bW cI cJ cB h hs hw hh hp (nI se) (nI wd) (nI hd) (nI wl) (nI nb) (nI (topv wd)) (nI (rcv wd hd)) (nI (btv wd hd)) (nI (lcv wd hd)) (gI gl) (gI aq) st sl (gI lb) (fun zz => nI (sh zz)) (fun zz => nI (bw zz)) (fun zz => nI (bh zz)) (fun zz => nI (ps zz))))) (va_Qv (fun (w : va_W) => w = bW cI cJ cB h hs hw hh hp (nI se) (nI wd) (nI hd) (nI wl) (nI nb) (nI (topv wd)) (nI (rcv wd hd)) (nI (btv wd hd)) (nI (lcv wd hd)) (gI gl) (gI aq) 0 0 (gI none) (fun zz => nI (sh zz)) (fun zz => nI (bw zz)) (fun zz => nI (bh zz)) (fun zz => nI (ps zz))) (gB D (bW cI cJ cB h hs hw hh hp (nI se) (nI wd) (nI hd) (nI wl) (nI nb) (nI (topv wd)) (nI (rcv wd hd)) (nI (btv wd hd)) (nI (lcv wd hd)) (gI gl) (gI aq) st sl (gI lb) (fun zz => nI (sh zz)) (fun zz => nI (bw zz)) (fun zz => nI (bh zz)) (fun zz => nI (ps zz)))) (aW (bW cI cJ cB h hs hw hh hp (nI se) (nI wd) (nI hd) (nI wl) (nI nb) (nI (topv wd)) (nI (rcv wd hd)) (nI (btv wd hd)) (nI (lcv wd hd)) (gI gl) (gI aq) st sl (gI lb) (fun zz => nI (sh zz)) (fun zz => nI (bw zz)) (fun zz => nI (bh zz)) (fun zz => nI (ps zz))))) 0 0 (aW (bW cI cJ cB h hs hw hh hp (nI se) (nI wd) (nI hd) (nI wl) (nI nb) (nI (topv wd)) (nI (rcv wd hd)) (nI (btv wd hd)) (nI (lcv wd hd)) (gI gl) (gI aq) st sl (gI lb) (fun zz => nI (sh zz)) (fun zz => nI (bw zz)) (fun zz => nI (bh zz)) (fun zz => nI (ps zz)))) := by
  refine Met.ofW (cc := cX0_forgetMoves) (maxL := 1) (ret := none) (by decide) rfl ?_
  intro p e s m args below meth c s₁ B hml hv
  obtain ⟨rfl, hK, hN, hP, hD0⟩ := hv
  have hx := B.exec; have hb := B.bytes; have hr := B.returns; have hlocks := B.notSynchronized
  have hts0 := atoms_spec (ws := Cond.code yX0_forgetMoves cX0_forgetMoves 1 none :: lw_all) B.pre
  have hC : CallFix p m c cX0_forgetMoves 1 s _ lw_all RX0 := ⟨hx, hb, hml, findClass_of_methodNamed B.named, fun w h => hts0 w (List.mem_cons_of_mem _ h)⟩
  have hD : va_D (aW (bW cI cJ cB h hs hw hh hp (nI se) (nI wd) (nI hd) (nI wl) (nI nb) (nI (topv wd)) (nI (rcv wd hd)) (nI (btv wd hd)) (nI (lcv wd hd)) (gI gl) (gI aq) st sl (gI lb) (fun zz => nI (sh zz)) (fun zz => nI (bw zz)) (fun zz => nI (bh zz)) (fun zz => nI (ps zz)))) (bW cI cJ cB h hs hw hh hp (nI se) (nI wd) (nI hd) (nI wl) (nI nb) (nI (topv wd)) (nI (rcv wd hd)) (nI (btv wd hd)) (nI (lcv wd hd)) (gI gl) (gI aq) st sl (gI lb) (fun zz => nI (sh zz)) (fun zz => nI (bw zz)) (fun zz => nI (bh zz)) (fun zz => nI (ps zz))) := ⟨hD0.1, fun k q h => ⟨k, q.2, h⟩⟩
  generalize hAe : aW (bW cI cJ cB h hs hw hh hp (nI se) (nI wd) (nI hd) (nI wl) (nI nb) (nI (topv wd)) (nI (rcv wd hd)) (nI (btv wd hd)) (nI (lcv wd hd)) (gI gl) (gI aq) st sl (gI lb) (fun zz => nI (sh zz)) (fun zz => nI (bw zz)) (fun zz => nI (bh zz)) (fun zz => nI (ps zz))) = A at hD ⊢
  have hS : va_S A s.heap s.heap [] := va_S.rf
  have hl := lv_entry ([.ref h]) (n := 1) (Nat.le_of_ble_eq_true rfl)
  rw [lg_entry_eq]
  generalize (lg_sl ([.ref h]) ++ List.replicate (1 - (lg_sl ([.ref h])).length) Slot.unset).toArray = ls at hl ⊢
  have hl : lv_has ls 1 [(0, .ref h)] := hl
  generalize hav : ([.ref h] : List Value).toArray = args at hC ⊢
  refine W_gen (fun QQ hQ => ?_)
  show W p l e (rmN 0) s m args below meth c s.heap [] 0 0 QQ (F0 m 0 ls [])
  refine lv_aload_n hx hb dX0_forgetMoves_0 rfl (lv_at hl 0 rfl) ?_
  refine lv_iconst (v := nI 0) hx hb dX0_forgetMoves_1 (by decide) ?_
  refine pf_X0_66 hC hK hP hD hS 0 rfl (Nat.le_of_ble_eq_true rfl) (ws1 := bW cI cJ cB h hs hw hh hp (nI se) (nI wd) (nI hd) (nI wl) (nI nb) (nI (topv wd)) (nI (rcv wd hd)) (nI (btv wd hd)) (nI (lcv wd hd)) (gI gl) (gI aq) (nI 0) sl (gI lb) (fun zz => nI (sh zz)) (fun zz => nI (bw zz)) (fun zz => nI (bh zz)) (fun zz => nI (ps zz))) rfl dX0_forgetMoves_2 (fun H locs hP hD hS => ?_)
  refine lv_aload_n hx hb dX0_forgetMoves_5 rfl (lv_at hl 0 rfl) ?_
  refine lv_iconst (v := nI 0) hx hb dX0_forgetMoves_6 (by decide) ?_
  refine pf_X0_69 hC hK hP hD hS 0 rfl (Nat.le_of_ble_eq_true rfl) (ws1 := bW cI cJ cB h hs hw hh hp (nI se) (nI wd) (nI hd) (nI wl) (nI nb) (nI (topv wd)) (nI (rcv wd hd)) (nI (btv wd hd)) (nI (lcv wd hd)) (gI gl) (gI aq) (nI 0) (nI 0) (gI lb) (fun zz => nI (sh zz)) (fun zz => nI (bw zz)) (fun zz => nI (bh zz)) (fun zz => nI (ps zz))) rfl dX0_forgetMoves_7 (fun H locs hP hD hS => ?_)
  refine lv_aload_n hx hb dX0_forgetMoves_10 rfl (lv_at hl 0 rfl) ?_
  refine lv_bipush (v := (-9)) hx hb dX0_forgetMoves_11 (by decide) ?_
  refine topi (y := gI none) rfl ?_
  refine pf_X0_72 hC hK hP hD hS 0 rfl (Nat.le_of_ble_eq_true rfl) (ws1 := bW cI cJ cB h hs hw hh hp (nI se) (nI wd) (nI hd) (nI wl) (nI nb) (nI (topv wd)) (nI (rcv wd hd)) (nI (btv wd hd)) (nI (lcv wd hd)) (gI gl) (gI aq) (nI 0) (nI 0) (gI none) (fun zz => nI (sh zz)) (fun zz => nI (bw zz)) (fun zz => nI (bh zz)) (fun zz => nI (ps zz))) rfl dX0_forgetMoves_13 (fun H locs hP hD hS => ?_)
  rw [hQ]
  exact W.vret hx hb hr (fun t9 ht hW => ⟨⟨_, rfl, rfl, by rw [ht]; exact hP, rfl⟩, hS.F ht⟩) hS.2.2 dX0_forgetMoves_16

set_option maxHeartbeats 400000 in
set_option maxRecDepth 100000 in
theorem c_X0_key (l : Launch) (D : va_G) (cI cJ cB : ClassId) (h hs hw hh hp se wd hd nb wl : Nat) (st sl : Int32) (gl aq lb : Option Nat) (sh bw bh ps : Nat → Nat) (rb : Option Nat) (hn7 : nb ≤ 7) (hps : ∀ b, b < nb → ps b < 32) (hrb : ∀ d, rb = some d → d < 7) : Met l yX0_key (Cond.code yX0_key cX0_key 5 (some .long) :: lw_all) (rmN 1) (va_Pc [.ref h, .int (gI rb)] (pB D (tyz cI cJ cB) (bW cI cJ cB h hs hw hh hp (nI se) (nI wd) (nI hd) (nI wl) (nI nb) (nI (topv wd)) (nI (rcv wd hd)) (nI (btv wd hd)) (nI (lcv wd hd)) (gI gl) (gI aq) st sl (gI lb) (fun zz => nI (sh zz)) (fun zz => nI (bw zz)) (fun zz => nI (bh zz)) (fun zz => nI (ps zz))))) (va_Ql (fun (r : Int64) (w : va_W) => r = lN (keyx ps rb nb) ∧ w = bW cI cJ cB h hs hw hh hp (nI se) (nI wd) (nI hd) (nI wl) (nI nb) (nI (topv wd)) (nI (rcv wd hd)) (nI (btv wd hd)) (nI (lcv wd hd)) (gI gl) (gI aq) st sl (gI lb) (fun zz => nI (sh zz)) (fun zz => nI (bw zz)) (fun zz => nI (bh zz)) (fun zz => nI (ps zz))) (gB D (bW cI cJ cB h hs hw hh hp (nI se) (nI wd) (nI hd) (nI wl) (nI nb) (nI (topv wd)) (nI (rcv wd hd)) (nI (btv wd hd)) (nI (lcv wd hd)) (gI gl) (gI aq) st sl (gI lb) (fun zz => nI (sh zz)) (fun zz => nI (bw zz)) (fun zz => nI (bh zz)) (fun zz => nI (ps zz)))) (aW (bW cI cJ cB h hs hw hh hp (nI se) (nI wd) (nI hd) (nI wl) (nI nb) (nI (topv wd)) (nI (rcv wd hd)) (nI (btv wd hd)) (nI (lcv wd hd)) (gI gl) (gI aq) st sl (gI lb) (fun zz => nI (sh zz)) (fun zz => nI (bw zz)) (fun zz => nI (bh zz)) (fun zz => nI (ps zz))))) 0 0 (aW (bW cI cJ cB h hs hw hh hp (nI se) (nI wd) (nI hd) (nI wl) (nI nb) (nI (topv wd)) (nI (rcv wd hd)) (nI (btv wd hd)) (nI (lcv wd hd)) (gI gl) (gI aq) st sl (gI lb) (fun zz => nI (sh zz)) (fun zz => nI (bw zz)) (fun zz => nI (bh zz)) (fun zz => nI (ps zz)))) := by
  refine Met.ofW (cc := cX0_key) (maxL := 5) (ret := (some .long)) (by decide) rfl ?_
  intro p e s m args below meth c s₁ B hml hv
  obtain ⟨rfl, hK, hN, hP, hD0⟩ := hv
  have hx := B.exec; have hb := B.bytes; have hr := B.returns; have hlocks := B.notSynchronized
  have hts0 := atoms_spec (ws := Cond.code yX0_key cX0_key 5 (some .long) :: lw_all) B.pre
  have hC : CallFix p m c cX0_key 5 s _ lw_all RX0 := ⟨hx, hb, hml, findClass_of_methodNamed B.named, fun w h => hts0 w (List.mem_cons_of_mem _ h)⟩
  have hD : va_D (aW (bW cI cJ cB h hs hw hh hp (nI se) (nI wd) (nI hd) (nI wl) (nI nb) (nI (topv wd)) (nI (rcv wd hd)) (nI (btv wd hd)) (nI (lcv wd hd)) (gI gl) (gI aq) st sl (gI lb) (fun zz => nI (sh zz)) (fun zz => nI (bw zz)) (fun zz => nI (bh zz)) (fun zz => nI (ps zz)))) (bW cI cJ cB h hs hw hh hp (nI se) (nI wd) (nI hd) (nI wl) (nI nb) (nI (topv wd)) (nI (rcv wd hd)) (nI (btv wd hd)) (nI (lcv wd hd)) (gI gl) (gI aq) st sl (gI lb) (fun zz => nI (sh zz)) (fun zz => nI (bw zz)) (fun zz => nI (bh zz)) (fun zz => nI (ps zz))) := ⟨hD0.1, fun k q h => ⟨k, q.2, h⟩⟩
  generalize hAe : aW (bW cI cJ cB h hs hw hh hp (nI se) (nI wd) (nI hd) (nI wl) (nI nb) (nI (topv wd)) (nI (rcv wd hd)) (nI (btv wd hd)) (nI (lcv wd hd)) (gI gl) (gI aq) st sl (gI lb) (fun zz => nI (sh zz)) (fun zz => nI (bw zz)) (fun zz => nI (bh zz)) (fun zz => nI (ps zz))) = A at hD ⊢
  have hS : va_S A s.heap s.heap [] := va_S.rf
  have hl := lv_entry ([.ref h, .int (gI rb)]) (n := 5) (Nat.le_of_ble_eq_true rfl)
  rw [lg_entry_eq]
  generalize (lg_sl ([.ref h, .int (gI rb)]) ++ List.replicate (5 - (lg_sl ([.ref h, .int (gI rb)])).length) Slot.unset).toArray = ls at hl ⊢
  have hl : lv_has ls 5 [(0, .ref h), (1, .int (gI rb))] := hl
  generalize hav : ([.ref h, .int (gI rb)] : List Value).toArray = args at hC ⊢
  refine W_gen (fun QQ hQ => ?_)
  show W p l e (rmN 1) s m args below meth c s.heap [] 0 0 QQ (F0 m 0 ls [])
  refine lv_lconst (v := lN 0) hx hb dX0_key_0 rfl ?_
  refine topl (y := lN (keyx ps rb 0)) rfl ?_
  refine lv_lstore_n (lv' := [(2, .long (lN (keyx ps rb 0))), (0, .ref h), (1, .int (gI rb))]) hx hb dX0_key_1 rfl hl (by decide) rfl (fun ls hl => ?_)
  refine lv_iconst (v := nI 0) hx hb dX0_key_2 (by decide) ?_
  refine lv_istore (lv' := [(4, .int (nI 0)), (2, .long (lN (keyx ps rb 0))), (0, .ref h), (1, .int (gI rb))]) hx hb dX0_key_3 hl (by decide) rfl (fun ls hl => ?_)
  have L5 : ∀ (n : Nat) (b : Nat), (b ≤ nb) → (nb - b) < n → ∀ (H : Heap) (locs : List Loc), va_P D vwCl (bW cI cJ cB h hs hw hh hp (nI se) (nI wd) (nI hd) (nI wl) (nI nb) (nI (topv wd)) (nI (rcv wd hd)) (nI (btv wd hd)) (nI (lcv wd hd)) (gI gl) (gI aq) st sl (gI lb) (fun zz => nI (sh zz)) (fun zz => nI (bw zz)) (fun zz => nI (bh zz)) (fun zz => nI (ps zz))) H → va_D A (bW cI cJ cB h hs hw hh hp (nI se) (nI wd) (nI hd) (nI wl) (nI nb) (nI (topv wd)) (nI (rcv wd hd)) (nI (btv wd hd)) (nI (lcv wd hd)) (gI gl) (gI aq) st sl (gI lb) (fun zz => nI (sh zz)) (fun zz => nI (bw zz)) (fun zz => nI (bh zz)) (fun zz => nI (ps zz))) → va_S A s.heap H locs → ∀ ls : Array Slot, lv_has ls 5 [(2, .long (lN (keyx ps rb b))), (4, .int (nI b)), (0, .ref h), (1, .int (gI rb))] → W p l e (rmN 1) s m args below meth c H locs 0 0 QQ (F0 m 5 ls []) := by
    intro n; induction n with
    | zero => intro b ib hm; exact absurd hm (Nat.not_lt_zero _)
    | succ n ih5 =>
      intro b ib hm5 H locs hP hD hS ls hl
      refine lv_iload hx hb dX0_key_5 (lv_at hl 1 rfl) ?_
      refine lv_aload_n hx hb dX0_key_7 rfl (lv_at hl 2 rfl) ?_
      refine gf_X0_41 hC hK hP 0 rfl rfl dX0_key_8 ?_
      refine n_icmp_ge (a := b) (b := nb) (tgt := 45) hx hb dX0_key_11 (by decide) (by omega) (by omega) (fun c11 => ?_) (fun c11 => ?_)
      · have _ : True := trivial
        have e11 : b = nb := by omega
        refine lv_lload_n hx hb dX0_key_45 rfl (lv_at hl 0 rfl) ?_
        rw [hQ]
        exact W.lret (v := lN (keyx ps rb b)) hx hb hr (fun t9 ht hW => ⟨⟨_, _, rfl, ⟨(by rw [e11]), rfl⟩, by rw [ht]; exact hP, rfl⟩, hS.F ht⟩) hS.2.2 dX0_key_46
      · have _ : True := trivial
        refine lv_iload hx hb dX0_key_14 (lv_at hl 1 rfl) ?_
        refine lv_iload_n hx hb dX0_key_16 rfl (lv_at hl 3 rfl) ?_
        refine g_icmp_eq (a := b) (x := rb) (tgt := 39) hx hb dX0_key_17 (by decide) (by omega) (fun d h => by have := hrb d h; omega) (fun c17 => ?_) (fun c17 => ?_)
        · have _ : True := trivial
          rw [show keyx ps rb b = keyx ps rb (b + 1) by show _ = (if rb = some b then _ else _); rw [if_pos c17]] at hl
          refine lv_iinc (v := nI (b + 1)) (lv' := [(4, .int (nI (b + 1))), (2, .long (lN (keyx ps rb (b + 1)))), (0, .ref h), (1, .int (gI rb))]) hx hb dX0_key_39 hl (k := 1) rfl (nI_1 _) (by decide) rfl (fun ls hl => ?_)
          refine lv_goto (tgt := 5) hx hb dX0_key_42 (by decide) ?_
          exact ih5 (b + 1) (by omega) (by omega) _ _ hP hD hS _ (lv_sub hl [1, 0, 2, 3] rfl)
        · have _ : True := trivial
          refine lv_lload_n hx hb dX0_key_20 rfl (lv_at hl 0 rfl) ?_
          refine lv_aload_n hx hb dX0_key_21 rfl (lv_at hl 2 rfl) ?_
          refine gf_X0_25 hC hK hP 0 rfl rfl dX0_key_22 ?_
          refine lv_iload hx hb dX0_key_25 (lv_at hl 1 rfl) ?_
          refine callN_i (As := [.ref hp, .int (nI b)]) (rest := [.long (lN (keyx ps rb b))]) [4] hC hK hN hP hD rfl (by decide) hS (c_X7_at_N l D cI cJ cB hp 7 b ps (by omega) (by omega)) q401 md_X7_at rfl hl.1 rfl (Nat.le_of_ble_eq_true rfl) dX0_key_27 ⟨Nat.le_of_ble_eq_true rfl, Nat.le_of_ble_eq_true rfl⟩ ⟨Nat.le_of_ble_eq_true rfl, Nat.le_of_ble_eq_true rfl⟩ (fun r_27 w H locs hpost hP hD hS => ?_)
          obtain ⟨rfl, rfl⟩ := hpost
          have hP : va_P D vwCl (bW cI cJ cB h hs hw hh hp (nI se) (nI wd) (nI hd) (nI wl) (nI nb) (nI (topv wd)) (nI (rcv wd hd)) (nI (btv wd hd)) (nI (lcv wd hd)) (gI gl) (gI aq) st sl (gI lb) (fun zz => nI (sh zz)) (fun zz => nI (bw zz)) (fun zz => nI (bh zz)) (fun zz => nI (ps zz))) H := hP
          have hD : va_D A (bW cI cJ cB h hs hw hh hp (nI se) (nI wd) (nI hd) (nI wl) (nI nb) (nI (topv wd)) (nI (rcv wd hd)) (nI (btv wd hd)) (nI (lcv wd hd)) (gI gl) (gI aq) st sl (gI lb) (fun zz => nI (sh zz)) (fun zz => nI (bw zz)) (fun zz => nI (bh zz)) (fun zz => nI (ps zz))) := hD
          have hpb := hps b c11
          refine lv_i2l (v := lN (ps b)) hx hb dX0_key_30 (nI_l (by omega)) ?_
          refine lv_iload hx hb dX0_key_31 (lv_at hl 1 rfl) ?_
          refine callN_i (As := [.int (nI b)]) (rest := [.long (lN (ps b)), .long (lN (keyx ps rb b))]) [] hC hK hN hP hD rfl (by decide) hS (c_X7_keyShift l D cI cJ cB b (by omega)) q494 md_X7_keyShift rfl hl.1 rfl (Nat.le_of_ble_eq_true rfl) dX0_key_33 ⟨Nat.le_of_ble_eq_true rfl, Nat.le_of_ble_eq_true rfl⟩ ⟨Nat.le_of_ble_eq_true rfl, Nat.le_of_ble_eq_true rfl⟩ (fun r_33 w H locs hpost hP hD hS => ?_)
          obtain ⟨rfl, rfl⟩ := hpost
          have hP : va_P D vwCl (bW cI cJ cB h hs hw hh hp (nI se) (nI wd) (nI hd) (nI wl) (nI nb) (nI (topv wd)) (nI (rcv wd hd)) (nI (btv wd hd)) (nI (lcv wd hd)) (gI gl) (gI aq) st sl (gI lb) (fun zz => nI (sh zz)) (fun zz => nI (bw zz)) (fun zz => nI (bh zz)) (fun zz => nI (ps zz))) H := hP
          have hD : va_D A (bW cI cJ cB h hs hw hh hp (nI se) (nI wd) (nI hd) (nI wl) (nI nb) (nI (topv wd)) (nI (rcv wd hd)) (nI (btv wd hd)) (nI (lcv wd hd)) (gI gl) (gI aq) st sl (gI lb) (fun zz => nI (sh zz)) (fun zz => nI (bw zz)) (fun zz => nI (bh zz)) (fun zz => nI (ps zz))) := hD
          refine n_lshl hx hb dX0_key_36 (by omega) ?_
          refine n_lor hx hb dX0_key_37 ?_
          refine topl (y := lN (keyx ps rb (b + 1))) (by show _ = lN (if rb = some b then _ else _); rw [if_neg c17]) ?_
          refine lv_lstore_n (lv' := [(2, .long (lN (keyx ps rb (b + 1)))), (4, .int (nI b)), (0, .ref h), (1, .int (gI rb))]) hx hb dX0_key_38 rfl hl (by decide) rfl (fun ls hl => ?_)
          refine lv_iinc (v := nI (b + 1)) (lv' := [(4, .int (nI (b + 1))), (2, .long (lN (keyx ps rb (b + 1)))), (0, .ref h), (1, .int (gI rb))]) hx hb dX0_key_39 hl (k := 1) rfl (nI_1 _) (by decide) rfl (fun ls hl => ?_)
          refine lv_goto (tgt := 5) hx hb dX0_key_42 (by decide) ?_
          exact ih5 (b + 1) (by omega) (by omega) _ _ hP hD hS _ (lv_sub hl [1, 0, 2, 3] rfl)
  exact L5 _ 0 (by omega) (Nat.lt_succ_self _) _ _ hP hD hS _ (lv_sub hl [1, 0, 2, 3] rfl)

set_option maxHeartbeats 400000 in
set_option maxRecDepth 100000 in
theorem c_X0_move (l : Launch) (D : va_G) (cI cJ cB : ClassId) (h hs hw hh hp se wd hd nb wl : Nat) (st sl : Int32) (gl aq lb : Option Nat) (sh bw bh ps : Nat → Nat) (b q : Nat) (x : Int32) (z : Bool) (hb7 : b < 7) (hlb : ∀ d, lb = some d → d < 7) : Met l yX0_move (Cond.code yX0_move cX0_move 5 none :: lw_all) (rmN 1) (va_Pc [.ref h, .int (nI b), .int (nI q), .int x, .int (bI z)] (pB D (tyz cI cJ cB) (bW cI cJ cB h hs hw hh hp (nI se) (nI wd) (nI hd) (nI wl) (nI nb) (nI (topv wd)) (nI (rcv wd hd)) (nI (btv wd hd)) (nI (lcv wd hd)) (gI gl) (gI aq) st sl (gI lb) (fun zz => nI (sh zz)) (fun zz => nI (bw zz)) (fun zz => nI (bh zz)) (fun zz => nI (ps zz))))) (va_Qv (fun (w : va_W) => ∃ sl2 : Int32, w = bW cI cJ cB h hs hw hh hp (nI se) (nI wd) (nI hd) (nI wl) (nI nb) (nI (topv wd)) (nI (rcv wd hd)) (nI (btv wd hd)) (nI (lcv wd hd)) (gI gl) (gI aq) (st + x) sl2 (gI (some b)) (fun zz => nI (sh zz)) (fun zz => nI (bw zz)) (fun zz => nI (bh zz)) (fun zz => nI ((va_up ps b q) zz)) ∧ (sl2 = if z = true ∨ lb ≠ some b then sl + 1 else sl)) (gB D (bW cI cJ cB h hs hw hh hp (nI se) (nI wd) (nI hd) (nI wl) (nI nb) (nI (topv wd)) (nI (rcv wd hd)) (nI (btv wd hd)) (nI (lcv wd hd)) (gI gl) (gI aq) st sl (gI lb) (fun zz => nI (sh zz)) (fun zz => nI (bw zz)) (fun zz => nI (bh zz)) (fun zz => nI (ps zz)))) (aW (bW cI cJ cB h hs hw hh hp (nI se) (nI wd) (nI hd) (nI wl) (nI nb) (nI (topv wd)) (nI (rcv wd hd)) (nI (btv wd hd)) (nI (lcv wd hd)) (gI gl) (gI aq) st sl (gI lb) (fun zz => nI (sh zz)) (fun zz => nI (bw zz)) (fun zz => nI (bh zz)) (fun zz => nI (ps zz))))) 0 0 (aW (bW cI cJ cB h hs hw hh hp (nI se) (nI wd) (nI hd) (nI wl) (nI nb) (nI (topv wd)) (nI (rcv wd hd)) (nI (btv wd hd)) (nI (lcv wd hd)) (gI gl) (gI aq) st sl (gI lb) (fun zz => nI (sh zz)) (fun zz => nI (bw zz)) (fun zz => nI (bh zz)) (fun zz => nI (ps zz)))) := by
  refine Met.ofW (cc := cX0_move) (maxL := 5) (ret := none) (by decide) rfl ?_
  intro p e s m args below meth c s₁ B hml hv
  obtain ⟨rfl, hK, hN, hP, hD0⟩ := hv
  have hx := B.exec; have hb := B.bytes; have hr := B.returns; have hlocks := B.notSynchronized
  have hts0 := atoms_spec (ws := Cond.code yX0_move cX0_move 5 none :: lw_all) B.pre
  have hC : CallFix p m c cX0_move 5 s _ lw_all RX0 := ⟨hx, hb, hml, findClass_of_methodNamed B.named, fun w h => hts0 w (List.mem_cons_of_mem _ h)⟩
  have hD : va_D (aW (bW cI cJ cB h hs hw hh hp (nI se) (nI wd) (nI hd) (nI wl) (nI nb) (nI (topv wd)) (nI (rcv wd hd)) (nI (btv wd hd)) (nI (lcv wd hd)) (gI gl) (gI aq) st sl (gI lb) (fun zz => nI (sh zz)) (fun zz => nI (bw zz)) (fun zz => nI (bh zz)) (fun zz => nI (ps zz)))) (bW cI cJ cB h hs hw hh hp (nI se) (nI wd) (nI hd) (nI wl) (nI nb) (nI (topv wd)) (nI (rcv wd hd)) (nI (btv wd hd)) (nI (lcv wd hd)) (gI gl) (gI aq) st sl (gI lb) (fun zz => nI (sh zz)) (fun zz => nI (bw zz)) (fun zz => nI (bh zz)) (fun zz => nI (ps zz))) := ⟨hD0.1, fun k q h => ⟨k, q.2, h⟩⟩
  generalize hAe : aW (bW cI cJ cB h hs hw hh hp (nI se) (nI wd) (nI hd) (nI wl) (nI nb) (nI (topv wd)) (nI (rcv wd hd)) (nI (btv wd hd)) (nI (lcv wd hd)) (gI gl) (gI aq) st sl (gI lb) (fun zz => nI (sh zz)) (fun zz => nI (bw zz)) (fun zz => nI (bh zz)) (fun zz => nI (ps zz))) = A at hD ⊢
  have hS : va_S A s.heap s.heap [] := va_S.rf
  have hl := lv_entry ([.ref h, .int (nI b), .int (nI q), .int x, .int (bI z)]) (n := 5) (Nat.le_of_ble_eq_true rfl)
  rw [lg_entry_eq]
  generalize (lg_sl ([.ref h, .int (nI b), .int (nI q), .int x, .int (bI z)]) ++ List.replicate (5 - (lg_sl ([.ref h, .int (nI b), .int (nI q), .int x, .int (bI z)])).length) Slot.unset).toArray = ls at hl ⊢
  have hl : lv_has ls 5 [(0, .ref h), (1, .int (nI b)), (2, .int (nI q)), (3, .int x), (4, .int (bI z))] := hl
  generalize hav : ([.ref h, .int (nI b), .int (nI q), .int x, .int (bI z)] : List Value).toArray = args at hC ⊢
  refine W_gen (fun QQ hQ => ?_)
  show W p l e (rmN 1) s m args below meth c s.heap [] 0 0 QQ (F0 m 0 ls [])
  refine lv_aload_n hx hb dX0_move_0 rfl (lv_at hl 0 rfl) ?_
  refine gf_X0_25 hC hK hP 0 rfl rfl dX0_move_1 ?_
  refine lv_iload_n hx hb dX0_move_4 rfl (lv_at hl 1 rfl) ?_
  refine lv_iload_n hx hb dX0_move_5 rfl (lv_at hl 2 rfl) ?_
  refine callN_v (As := [.ref hp, .int (nI b), .int (nI q)]) (rest := []) [4] hC hK hN hP hD rfl (by decide) hS (c_X7_put_N l D cI cJ cB hp 7 b ps q (by omega) (by omega)) q368 md_X7_put rfl hl.1 rfl (Nat.le_of_ble_eq_true rfl) dX0_move_6 ⟨Nat.le_of_ble_eq_true rfl, Nat.le_of_ble_eq_true rfl⟩ ⟨Nat.le_of_ble_eq_true rfl, Nat.le_of_ble_eq_true rfl⟩ (fun w H locs hpost hP hD hS => ?_)
  obtain rfl := hpost
  have hP : va_P D vwCl (bW cI cJ cB h hs hw hh hp (nI se) (nI wd) (nI hd) (nI wl) (nI nb) (nI (topv wd)) (nI (rcv wd hd)) (nI (btv wd hd)) (nI (lcv wd hd)) (gI gl) (gI aq) st sl (gI lb) (fun zz => nI (sh zz)) (fun zz => nI (bw zz)) (fun zz => nI (bh zz)) (fun zz => nI ((va_up ps b q) zz))) H := hP
  have hD : va_D A (bW cI cJ cB h hs hw hh hp (nI se) (nI wd) (nI hd) (nI wl) (nI nb) (nI (topv wd)) (nI (rcv wd hd)) (nI (btv wd hd)) (nI (lcv wd hd)) (gI gl) (gI aq) st sl (gI lb) (fun zz => nI (sh zz)) (fun zz => nI (bw zz)) (fun zz => nI (bh zz)) (fun zz => nI ((va_up ps b q) zz))) := hD
  refine lv_aload_n hx hb dX0_move_9 rfl (lv_at hl 0 rfl) ?_
  refine lv_dup hx hb dX0_move_10 rfl ?_
  refine gf_X0_66 hC hK hP 0 rfl rfl dX0_move_11 ?_
  refine lv_iload_n hx hb dX0_move_14 rfl (lv_at hl 3 rfl) ?_
  refine lv_iadd hx hb dX0_move_15 ?_
  refine pf_X0_66 hC hK hP hD hS 0 rfl (Nat.le_of_ble_eq_true rfl) (ws1 := bW cI cJ cB h hs hw hh hp (nI se) (nI wd) (nI hd) (nI wl) (nI nb) (nI (topv wd)) (nI (rcv wd hd)) (nI (btv wd hd)) (nI (lcv wd hd)) (gI gl) (gI aq) (st + x) sl (gI lb) (fun zz => nI (sh zz)) (fun zz => nI (bw zz)) (fun zz => nI (bh zz)) (fun zz => nI ((va_up ps b q) zz))) rfl dX0_move_16 (fun H locs hP hD hS => ?_)
  refine lv_iload hx hb dX0_move_19 (lv_at hl 4 rfl) ?_
  refine b_if_ne (tgt := 32) hx hb dX0_move_21 (by decide) (fun c21 => ?_) (fun c21 => ?_)
  · have _ : True := trivial
    refine lv_aload_n hx hb dX0_move_32 rfl (lv_at hl 0 rfl) ?_
    refine lv_dup hx hb dX0_move_33 rfl ?_
    refine gf_X0_69 hC hK hP 0 rfl rfl dX0_move_34 ?_
    refine lv_iconst (v := nI 1) hx hb dX0_move_37 (by decide) ?_
    refine lv_iadd hx hb dX0_move_38 ?_
    refine pf_X0_69 hC hK hP hD hS 0 rfl (Nat.le_of_ble_eq_true rfl) (ws1 := bW cI cJ cB h hs hw hh hp (nI se) (nI wd) (nI hd) (nI wl) (nI nb) (nI (topv wd)) (nI (rcv wd hd)) (nI (btv wd hd)) (nI (lcv wd hd)) (gI gl) (gI aq) (st + x) (sl + (nI 1)) (gI lb) (fun zz => nI (sh zz)) (fun zz => nI (bw zz)) (fun zz => nI (bh zz)) (fun zz => nI ((va_up ps b q) zz))) rfl dX0_move_39 (fun H locs hP hD hS => ?_)
    refine lv_aload_n hx hb dX0_move_42 rfl (lv_at hl 0 rfl) ?_
    refine lv_iload_n hx hb dX0_move_43 rfl (lv_at hl 1 rfl) ?_
    refine pf_X0_72 hC hK hP hD hS 0 rfl (Nat.le_of_ble_eq_true rfl) (ws1 := bW cI cJ cB h hs hw hh hp (nI se) (nI wd) (nI hd) (nI wl) (nI nb) (nI (topv wd)) (nI (rcv wd hd)) (nI (btv wd hd)) (nI (lcv wd hd)) (gI gl) (gI aq) (st + x) (sl + (nI 1)) (nI b) (fun zz => nI (sh zz)) (fun zz => nI (bw zz)) (fun zz => nI (bh zz)) (fun zz => nI ((va_up ps b q) zz))) rfl dX0_move_44 (fun H locs hP hD hS => ?_)
    rw [hQ]
    exact W.vret hx hb hr (fun t9 ht hW => ⟨⟨_, rfl, ⟨sl + (nI 1), rfl, (by first | exact (if_pos (Or.inl c21)).symm | exact (if_pos (Or.inr c29)).symm | (rw [if_neg (fun h => h.elim (fun h => by simp_all) (fun h => h c29))]) | fail)⟩, by rw [ht]; exact hP, rfl⟩, hS.F ht⟩) hS.2.2 dX0_move_47
  · have _ : True := trivial
    refine lv_aload_n hx hb dX0_move_24 rfl (lv_at hl 0 rfl) ?_
    refine gf_X0_72 hC hK hP 0 rfl rfl dX0_move_25 ?_
    refine lv_iload_n hx hb dX0_move_28 rfl (lv_at hl 1 rfl) ?_
    refine g_icmp_eq2 (a := b) (x := lb) (tgt := 42) hx hb dX0_move_29 (by decide) (by omega) (fun d h => by have := hlb d h; omega) (fun c29 => ?_) (fun c29 => ?_)
    · have _ : True := trivial
      refine lv_aload_n hx hb dX0_move_42 rfl (lv_at hl 0 rfl) ?_
      refine lv_iload_n hx hb dX0_move_43 rfl (lv_at hl 1 rfl) ?_
      refine pf_X0_72 hC hK hP hD hS 0 rfl (Nat.le_of_ble_eq_true rfl) (ws1 := bW cI cJ cB h hs hw hh hp (nI se) (nI wd) (nI hd) (nI wl) (nI nb) (nI (topv wd)) (nI (rcv wd hd)) (nI (btv wd hd)) (nI (lcv wd hd)) (gI gl) (gI aq) (st + x) sl (nI b) (fun zz => nI (sh zz)) (fun zz => nI (bw zz)) (fun zz => nI (bh zz)) (fun zz => nI ((va_up ps b q) zz))) rfl dX0_move_44 (fun H locs hP hD hS => ?_)
      rw [hQ]
      exact W.vret hx hb hr (fun t9 ht hW => ⟨⟨_, rfl, ⟨sl, rfl, (by first | exact (if_pos (Or.inl c21)).symm | exact (if_pos (Or.inr c29)).symm | (rw [if_neg (fun h => h.elim (fun h => by simp_all) (fun h => h c29))]) | fail)⟩, by rw [ht]; exact hP, rfl⟩, hS.F ht⟩) hS.2.2 dX0_move_47
    · have _ : True := trivial
      refine lv_aload_n hx hb dX0_move_32 rfl (lv_at hl 0 rfl) ?_
      refine lv_dup hx hb dX0_move_33 rfl ?_
      refine gf_X0_69 hC hK hP 0 rfl rfl dX0_move_34 ?_
      refine lv_iconst (v := nI 1) hx hb dX0_move_37 (by decide) ?_
      refine lv_iadd hx hb dX0_move_38 ?_
      refine pf_X0_69 hC hK hP hD hS 0 rfl (Nat.le_of_ble_eq_true rfl) (ws1 := bW cI cJ cB h hs hw hh hp (nI se) (nI wd) (nI hd) (nI wl) (nI nb) (nI (topv wd)) (nI (rcv wd hd)) (nI (btv wd hd)) (nI (lcv wd hd)) (gI gl) (gI aq) (st + x) (sl + (nI 1)) (gI lb) (fun zz => nI (sh zz)) (fun zz => nI (bw zz)) (fun zz => nI (bh zz)) (fun zz => nI ((va_up ps b q) zz))) rfl dX0_move_39 (fun H locs hP hD hS => ?_)
      refine lv_aload_n hx hb dX0_move_42 rfl (lv_at hl 0 rfl) ?_
      refine lv_iload_n hx hb dX0_move_43 rfl (lv_at hl 1 rfl) ?_
      refine pf_X0_72 hC hK hP hD hS 0 rfl (Nat.le_of_ble_eq_true rfl) (ws1 := bW cI cJ cB h hs hw hh hp (nI se) (nI wd) (nI hd) (nI wl) (nI nb) (nI (topv wd)) (nI (rcv wd hd)) (nI (btv wd hd)) (nI (lcv wd hd)) (gI gl) (gI aq) (st + x) (sl + (nI 1)) (nI b) (fun zz => nI (sh zz)) (fun zz => nI (bw zz)) (fun zz => nI (bh zz)) (fun zz => nI ((va_up ps b q) zz))) rfl dX0_move_44 (fun H locs hP hD hS => ?_)
      rw [hQ]
      exact W.vret hx hb hr (fun t9 ht hW => ⟨⟨_, rfl, ⟨sl + (nI 1), rfl, (by first | exact (if_pos (Or.inl c21)).symm | exact (if_pos (Or.inr c29)).symm | (rw [if_neg (fun h => h.elim (fun h => by simp_all) (fun h => h c29))]) | fail)⟩, by rw [ht]; exact hP, rfl⟩, hS.F ht⟩) hS.2.2 dX0_move_47

set_option maxHeartbeats 400000 in
set_option maxRecDepth 100000 in
theorem c_X0_atGoal (l : Launch) (D : va_G) (cI cJ cB : ClassId) (h hs hw hh hp se wd hd nb wl : Nat) (st sl : Int32) (gl aq lb : Option Nat) (sh bw bh ps : Nat → Nat) (hn7 : nb ≤ 7) (hga : GA gl aq nb) (hps : ∀ b, b < nb → ps b < 32) : Met l yX0_atGoal (Cond.code yX0_atGoal cX0_atGoal 1 (some .boolean) :: lw_all) (rmN 1) (va_Pc [.ref h] (pB D (tyz cI cJ cB) (bW cI cJ cB h hs hw hh hp (nI se) (nI wd) (nI hd) (nI wl) (nI nb) (nI (topv wd)) (nI (rcv wd hd)) (nI (btv wd hd)) (nI (lcv wd hd)) (gI gl) (gI aq) st sl (gI lb) (fun zz => nI (sh zz)) (fun zz => nI (bw zz)) (fun zz => nI (bh zz)) (fun zz => nI (ps zz))))) (va_Qi (fun (r : Int32) (w : va_W) => r = bI (f_sol gl aq ps) ∧ w = bW cI cJ cB h hs hw hh hp (nI se) (nI wd) (nI hd) (nI wl) (nI nb) (nI (topv wd)) (nI (rcv wd hd)) (nI (btv wd hd)) (nI (lcv wd hd)) (gI gl) (gI aq) st sl (gI lb) (fun zz => nI (sh zz)) (fun zz => nI (bw zz)) (fun zz => nI (bh zz)) (fun zz => nI (ps zz))) (gB D (bW cI cJ cB h hs hw hh hp (nI se) (nI wd) (nI hd) (nI wl) (nI nb) (nI (topv wd)) (nI (rcv wd hd)) (nI (btv wd hd)) (nI (lcv wd hd)) (gI gl) (gI aq) st sl (gI lb) (fun zz => nI (sh zz)) (fun zz => nI (bw zz)) (fun zz => nI (bh zz)) (fun zz => nI (ps zz)))) (aW (bW cI cJ cB h hs hw hh hp (nI se) (nI wd) (nI hd) (nI wl) (nI nb) (nI (topv wd)) (nI (rcv wd hd)) (nI (btv wd hd)) (nI (lcv wd hd)) (gI gl) (gI aq) st sl (gI lb) (fun zz => nI (sh zz)) (fun zz => nI (bw zz)) (fun zz => nI (bh zz)) (fun zz => nI (ps zz))))) 0 0 (aW (bW cI cJ cB h hs hw hh hp (nI se) (nI wd) (nI hd) (nI wl) (nI nb) (nI (topv wd)) (nI (rcv wd hd)) (nI (btv wd hd)) (nI (lcv wd hd)) (gI gl) (gI aq) st sl (gI lb) (fun zz => nI (sh zz)) (fun zz => nI (bw zz)) (fun zz => nI (bh zz)) (fun zz => nI (ps zz)))) := by
  refine Met.ofW (cc := cX0_atGoal) (maxL := 1) (ret := (some .boolean)) (by decide) rfl ?_
  intro p e s m args below meth c s₁ B hml hv
  obtain ⟨rfl, hK, hN, hP, hD0⟩ := hv
  have hx := B.exec; have hb := B.bytes; have hr := B.returns; have hlocks := B.notSynchronized
  have hts0 := atoms_spec (ws := Cond.code yX0_atGoal cX0_atGoal 1 (some .boolean) :: lw_all) B.pre
  have hC : CallFix p m c cX0_atGoal 1 s _ lw_all RX0 := ⟨hx, hb, hml, findClass_of_methodNamed B.named, fun w h => hts0 w (List.mem_cons_of_mem _ h)⟩
  have hD : va_D (aW (bW cI cJ cB h hs hw hh hp (nI se) (nI wd) (nI hd) (nI wl) (nI nb) (nI (topv wd)) (nI (rcv wd hd)) (nI (btv wd hd)) (nI (lcv wd hd)) (gI gl) (gI aq) st sl (gI lb) (fun zz => nI (sh zz)) (fun zz => nI (bw zz)) (fun zz => nI (bh zz)) (fun zz => nI (ps zz)))) (bW cI cJ cB h hs hw hh hp (nI se) (nI wd) (nI hd) (nI wl) (nI nb) (nI (topv wd)) (nI (rcv wd hd)) (nI (btv wd hd)) (nI (lcv wd hd)) (gI gl) (gI aq) st sl (gI lb) (fun zz => nI (sh zz)) (fun zz => nI (bw zz)) (fun zz => nI (bh zz)) (fun zz => nI (ps zz))) := ⟨hD0.1, fun k q h => ⟨k, q.2, h⟩⟩
  generalize hAe : aW (bW cI cJ cB h hs hw hh hp (nI se) (nI wd) (nI hd) (nI wl) (nI nb) (nI (topv wd)) (nI (rcv wd hd)) (nI (btv wd hd)) (nI (lcv wd hd)) (gI gl) (gI aq) st sl (gI lb) (fun zz => nI (sh zz)) (fun zz => nI (bw zz)) (fun zz => nI (bh zz)) (fun zz => nI (ps zz))) = A at hD ⊢
  have hS : va_S A s.heap s.heap [] := va_S.rf
  have hl := lv_entry ([.ref h]) (n := 1) (Nat.le_of_ble_eq_true rfl)
  rw [lg_entry_eq]
  generalize (lg_sl ([.ref h]) ++ List.replicate (1 - (lg_sl ([.ref h])).length) Slot.unset).toArray = ls at hl ⊢
  have hl : lv_has ls 1 [(0, .ref h)] := hl
  generalize hav : ([.ref h] : List Value).toArray = args at hC ⊢
  refine W_gen (fun QQ hQ => ?_)
  show W p l e (rmN 1) s m args below meth c s.heap [] 0 0 QQ (F0 m 0 ls [])
  refine lv_aload_n hx hb dX0_atGoal_0 rfl (lv_at hl 0 rfl) ?_
  refine gf_X0_60 hC hK hP 0 rfl rfl dX0_atGoal_1 ?_
  refine lv_bipush (v := (-9)) hx hb dX0_atGoal_4 (by decide) ?_
  refine lv_icmp_eq (tgt := 31) hx hb dX0_atGoal_6 (by decide) (fun c6 => ?_) (fun c6 => ?_)
  · have _ : True := trivial
    replace c6 := gI_9 (fun d h => by rcases hga with ⟨h1, -⟩ | ⟨g, ap, h1, -, h3, -⟩ <;> rw [h1] at h <;> cases h; omega) c6
    refine lv_iconst (v := nI 0) hx hb dX0_atGoal_31 (by decide) ?_
    refine topi (y := bI (f_sol gl aq ps)) (by rw [c6]; rfl) ?_
    rw [hQ]
    exact W.zret (v := bI (f_sol gl aq ps)) hx hb hr (bnar _) (fun t9 ht hW => ⟨⟨_, _, rfl, ⟨rfl, rfl⟩, by rw [ht]; exact hP, rfl⟩, hS.F ht⟩) hS.2.2 dX0_atGoal_32
  · have _ : True := trivial
    obtain ⟨d6, c7⟩ := gI_n9 c6
    have hd6 : d6 < nb := by rcases hga with ⟨h1, -⟩ | ⟨g, ap, h1, -, h3, -⟩ <;> rw [h1] at c7 <;> cases c7; exact h3
    refine lv_aload_n hx hb dX0_atGoal_9 rfl (lv_at hl 0 rfl) ?_
    refine gf_X0_25 hC hK hP 0 rfl rfl dX0_atGoal_10 ?_
    refine lv_aload_n hx hb dX0_atGoal_13 rfl (lv_at hl 0 rfl) ?_
    refine gf_X0_60 hC hK hP 0 rfl rfl dX0_atGoal_14 ?_
    refine topi (y := nI d6) (by rw [c7]; rfl) ?_
    refine callN_i (As := [.ref hp, .int (nI d6)]) (rest := []) [4] hC hK hN hP hD rfl (by decide) hS (c_X7_at_N l D cI cJ cB hp 7 d6 ps (by omega) (by omega)) q401 md_X7_at rfl hl.1 rfl (Nat.le_of_ble_eq_true rfl) dX0_atGoal_17 ⟨Nat.le_of_ble_eq_true rfl, Nat.le_of_ble_eq_true rfl⟩ ⟨Nat.le_of_ble_eq_true rfl, Nat.le_of_ble_eq_true rfl⟩ (fun r_17 w H locs hpost hP hD hS => ?_)
    obtain ⟨rfl, rfl⟩ := hpost
    have hP : va_P D vwCl (bW cI cJ cB h hs hw hh hp (nI se) (nI wd) (nI hd) (nI wl) (nI nb) (nI (topv wd)) (nI (rcv wd hd)) (nI (btv wd hd)) (nI (lcv wd hd)) (gI gl) (gI aq) st sl (gI lb) (fun zz => nI (sh zz)) (fun zz => nI (bw zz)) (fun zz => nI (bh zz)) (fun zz => nI (ps zz))) H := hP
    have hD : va_D A (bW cI cJ cB h hs hw hh hp (nI se) (nI wd) (nI hd) (nI wl) (nI nb) (nI (topv wd)) (nI (rcv wd hd)) (nI (btv wd hd)) (nI (lcv wd hd)) (gI gl) (gI aq) st sl (gI lb) (fun zz => nI (sh zz)) (fun zz => nI (bw zz)) (fun zz => nI (bh zz)) (fun zz => nI (ps zz))) := hD
    refine lv_aload_n hx hb dX0_atGoal_20 rfl (lv_at hl 0 rfl) ?_
    refine gf_X0_63 hC hK hP 0 rfl rfl dX0_atGoal_21 ?_
    refine g_icmp_ne (a := ps d6) (x := aq) (tgt := 31) hx hb dX0_atGoal_24 (by decide) (by have := hps d6 hd6; omega) (fun d h => by rcases hga with ⟨-, h1⟩ | ⟨g, ap, -, h1, -, h3⟩ <;> rw [h1] at h <;> cases h; omega) (fun c24 => ?_) (fun c24 => ?_)
    · have _ : True := trivial
      refine lv_iconst (v := nI 0) hx hb dX0_atGoal_31 (by decide) ?_
      refine topi (y := bI (f_sol gl aq ps)) (by rw [c7]; show nI 0 = bI (decide (aq = some (ps d6))); simp [c24, bI]; rfl) ?_
      rw [hQ]
      exact W.zret (v := bI (f_sol gl aq ps)) hx hb hr (bnar _) (fun t9 ht hW => ⟨⟨_, _, rfl, ⟨rfl, rfl⟩, by rw [ht]; exact hP, rfl⟩, hS.F ht⟩) hS.2.2 dX0_atGoal_32
    · have _ : True := trivial
      refine lv_iconst (v := nI 1) hx hb dX0_atGoal_27 (by decide) ?_
      refine topi (y := bI (f_sol gl aq ps)) (by rw [c7]; show nI 1 = bI (decide (aq = some (ps d6))); simp [c24, bI]; rfl) ?_
      refine lv_goto (tgt := 32) hx hb dX0_atGoal_28 (by decide) ?_
      rw [hQ]
      exact W.zret (v := bI (f_sol gl aq ps)) hx hb hr (bnar _) (fun t9 ht hW => ⟨⟨_, _, rfl, ⟨rfl, rfl⟩, by rw [ht]; exact hP, rfl⟩, hS.F ht⟩) hS.2.2 dX0_atGoal_32

set_option maxHeartbeats 400000 in
set_option maxRecDepth 100000 in
theorem c_X0_arrange (l : Launch) (D : va_G) (cI cJ cB : ClassId) (h hs hw hh hp se wd hd nb wl : Nat) (st sl : Int32) (gl aq lb : Option Nat) (sh bw bh ps : Nat → Nat) (k : Nat) (hn7 : nb ≤ 7) (hk : k < 2 ^ 35) : Met l yX0_arrange (Cond.code yX0_arrange cX0_arrange 4 none :: lw_all) (rmN 1) (va_Pc [.ref h, .long (lN k)] (pB D (tyz cI cJ cB) (bW cI cJ cB h hs hw hh hp (nI se) (nI wd) (nI hd) (nI wl) (nI nb) (nI (topv wd)) (nI (rcv wd hd)) (nI (btv wd hd)) (nI (lcv wd hd)) (gI gl) (gI aq) st sl (gI lb) (fun zz => nI (sh zz)) (fun zz => nI (bw zz)) (fun zz => nI (bh zz)) (fun zz => nI (ps zz))))) (va_Qv (fun (w : va_W) => ∃ ps2 : Nat → Nat, w = bW cI cJ cB h hs hw hh hp (nI se) (nI wd) (nI hd) (nI wl) (nI nb) (nI (topv wd)) (nI (rcv wd hd)) (nI (btv wd hd)) (nI (lcv wd hd)) (gI gl) (gI aq) st sl (gI lb) (fun zz => nI (sh zz)) (fun zz => nI (bw zz)) (fun zz => nI (bh zz)) (fun zz => nI (ps2 zz)) ∧ (∀ b, b < nb → ps2 b = plc k b)) (gB D (bW cI cJ cB h hs hw hh hp (nI se) (nI wd) (nI hd) (nI wl) (nI nb) (nI (topv wd)) (nI (rcv wd hd)) (nI (btv wd hd)) (nI (lcv wd hd)) (gI gl) (gI aq) st sl (gI lb) (fun zz => nI (sh zz)) (fun zz => nI (bw zz)) (fun zz => nI (bh zz)) (fun zz => nI (ps zz)))) (aW (bW cI cJ cB h hs hw hh hp (nI se) (nI wd) (nI hd) (nI wl) (nI nb) (nI (topv wd)) (nI (rcv wd hd)) (nI (btv wd hd)) (nI (lcv wd hd)) (gI gl) (gI aq) st sl (gI lb) (fun zz => nI (sh zz)) (fun zz => nI (bw zz)) (fun zz => nI (bh zz)) (fun zz => nI (ps zz))))) 0 0 (aW (bW cI cJ cB h hs hw hh hp (nI se) (nI wd) (nI hd) (nI wl) (nI nb) (nI (topv wd)) (nI (rcv wd hd)) (nI (btv wd hd)) (nI (lcv wd hd)) (gI gl) (gI aq) st sl (gI lb) (fun zz => nI (sh zz)) (fun zz => nI (bw zz)) (fun zz => nI (bh zz)) (fun zz => nI (ps zz)))) := by
  refine Met.ofW (cc := cX0_arrange) (maxL := 4) (ret := none) (by decide) rfl ?_
  intro p e s m args below meth c s₁ B hml hv
  obtain ⟨rfl, hK, hN, hP, hD0⟩ := hv
  have hx := B.exec; have hb := B.bytes; have hr := B.returns; have hlocks := B.notSynchronized
  have hts0 := atoms_spec (ws := Cond.code yX0_arrange cX0_arrange 4 none :: lw_all) B.pre
  have hC : CallFix p m c cX0_arrange 4 s _ lw_all RX0 := ⟨hx, hb, hml, findClass_of_methodNamed B.named, fun w h => hts0 w (List.mem_cons_of_mem _ h)⟩
  have hD : va_D (aW (bW cI cJ cB h hs hw hh hp (nI se) (nI wd) (nI hd) (nI wl) (nI nb) (nI (topv wd)) (nI (rcv wd hd)) (nI (btv wd hd)) (nI (lcv wd hd)) (gI gl) (gI aq) st sl (gI lb) (fun zz => nI (sh zz)) (fun zz => nI (bw zz)) (fun zz => nI (bh zz)) (fun zz => nI (ps zz)))) (bW cI cJ cB h hs hw hh hp (nI se) (nI wd) (nI hd) (nI wl) (nI nb) (nI (topv wd)) (nI (rcv wd hd)) (nI (btv wd hd)) (nI (lcv wd hd)) (gI gl) (gI aq) st sl (gI lb) (fun zz => nI (sh zz)) (fun zz => nI (bw zz)) (fun zz => nI (bh zz)) (fun zz => nI (ps zz))) := ⟨hD0.1, fun k q h => ⟨k, q.2, h⟩⟩
  generalize hAe : aW (bW cI cJ cB h hs hw hh hp (nI se) (nI wd) (nI hd) (nI wl) (nI nb) (nI (topv wd)) (nI (rcv wd hd)) (nI (btv wd hd)) (nI (lcv wd hd)) (gI gl) (gI aq) st sl (gI lb) (fun zz => nI (sh zz)) (fun zz => nI (bw zz)) (fun zz => nI (bh zz)) (fun zz => nI (ps zz))) = A at hD ⊢
  have hS : va_S A s.heap s.heap [] := va_S.rf
  have hl := lv_entry ([.ref h, .long (lN k)]) (n := 4) (Nat.le_of_ble_eq_true rfl)
  rw [lg_entry_eq]
  generalize (lg_sl ([.ref h, .long (lN k)]) ++ List.replicate (4 - (lg_sl ([.ref h, .long (lN k)])).length) Slot.unset).toArray = ls at hl ⊢
  have hl : lv_has ls 4 [(0, .ref h), (1, .long (lN k))] := hl
  generalize hav : ([.ref h, .long (lN k)] : List Value).toArray = args at hC ⊢
  refine W_gen (fun QQ hQ => ?_)
  show W p l e (rmN 1) s m args below meth c s.heap [] 0 0 QQ (F0 m 0 ls [])
  refine lv_iconst (v := nI 0) hx hb dX0_arrange_0 (by decide) ?_
  refine lv_istore_n (lv' := [(3, .int (nI 0)), (0, .ref h), (1, .long (lN k))]) hx hb dX0_arrange_1 rfl hl (by decide) rfl (fun ls hl => ?_)
  have L2 : ∀ (n : Nat) (b : Nat) (ps1 : Nat → Nat), (b ≤ nb) → (∀ c, c < b → ps1 c = plc k c) → (nb - b) < n → ∀ (H : Heap) (locs : List Loc), va_P D vwCl (bW cI cJ cB h hs hw hh hp (nI se) (nI wd) (nI hd) (nI wl) (nI nb) (nI (topv wd)) (nI (rcv wd hd)) (nI (btv wd hd)) (nI (lcv wd hd)) (gI gl) (gI aq) st sl (gI lb) (fun zz => nI (sh zz)) (fun zz => nI (bw zz)) (fun zz => nI (bh zz)) (fun zz => nI (ps1 zz))) H → va_D A (bW cI cJ cB h hs hw hh hp (nI se) (nI wd) (nI hd) (nI wl) (nI nb) (nI (topv wd)) (nI (rcv wd hd)) (nI (btv wd hd)) (nI (lcv wd hd)) (gI gl) (gI aq) st sl (gI lb) (fun zz => nI (sh zz)) (fun zz => nI (bw zz)) (fun zz => nI (bh zz)) (fun zz => nI (ps1 zz))) → va_S A s.heap H locs → ∀ ls : Array Slot, lv_has ls 4 [(3, .int (nI b)), (0, .ref h), (1, .long (lN k))] → W p l e (rmN 1) s m args below meth c H locs 0 0 QQ (F0 m 2 ls []) := by
    intro n; induction n with
    | zero => intro b ps1 ib i1 hm; exact absurd hm (Nat.not_lt_zero _)
    | succ n ih2 =>
      intro b ps1 ib i1 hm2 H locs hP hD hS ls hl
      refine lv_iload_n hx hb dX0_arrange_2 rfl (lv_at hl 0 rfl) ?_
      refine lv_aload_n hx hb dX0_arrange_3 rfl (lv_at hl 1 rfl) ?_
      refine gf_X0_41 hC hK hP 0 rfl rfl dX0_arrange_4 ?_
      refine n_icmp_ge (a := b) (b := nb) (tgt := 29) hx hb dX0_arrange_7 (by decide) (by omega) (by omega) (fun c7 => ?_) (fun c7 => ?_)
      · have _ : True := trivial
        have e7 : b = nb := by omega
        rw [hQ]
        exact W.vret hx hb hr (fun t9 ht hW => ⟨⟨_, rfl, ⟨ps1, rfl, (by rw [← e7]; exact i1)⟩, by rw [ht]; exact hP, rfl⟩, hS.F ht⟩) hS.2.2 dX0_arrange_29
      · have _ : True := trivial
        refine lv_aload_n hx hb dX0_arrange_10 rfl (lv_at hl 1 rfl) ?_
        refine gf_X0_25 hC hK hP 0 rfl rfl dX0_arrange_11 ?_
        refine lv_iload_n hx hb dX0_arrange_14 rfl (lv_at hl 0 rfl) ?_
        refine lv_lload_n hx hb dX0_arrange_15 rfl (lv_at hl 2 rfl) ?_
        refine lv_iload_n hx hb dX0_arrange_16 rfl (lv_at hl 0 rfl) ?_
        refine callN_i (As := [.long (lN k), .int (nI b)]) (rest := [.int (nI b), .ref hp]) [] hC hK hN hP hD rfl (by decide) hS (c_X7_placeIn l D cI cJ cB k b (by omega) (by omega)) q676 md_X7_placeIn rfl hl.1 rfl (Nat.le_of_ble_eq_true rfl) dX0_arrange_17 ⟨Nat.le_of_ble_eq_true rfl, Nat.le_of_ble_eq_true rfl⟩ ⟨Nat.le_of_ble_eq_true rfl, Nat.le_of_ble_eq_true rfl⟩ (fun r_17 w H locs hpost hP hD hS => ?_)
        obtain ⟨rfl, rfl⟩ := hpost
        have hP : va_P D vwCl (bW cI cJ cB h hs hw hh hp (nI se) (nI wd) (nI hd) (nI wl) (nI nb) (nI (topv wd)) (nI (rcv wd hd)) (nI (btv wd hd)) (nI (lcv wd hd)) (gI gl) (gI aq) st sl (gI lb) (fun zz => nI (sh zz)) (fun zz => nI (bw zz)) (fun zz => nI (bh zz)) (fun zz => nI (ps1 zz))) H := hP
        have hD : va_D A (bW cI cJ cB h hs hw hh hp (nI se) (nI wd) (nI hd) (nI wl) (nI nb) (nI (topv wd)) (nI (rcv wd hd)) (nI (btv wd hd)) (nI (lcv wd hd)) (gI gl) (gI aq) st sl (gI lb) (fun zz => nI (sh zz)) (fun zz => nI (bw zz)) (fun zz => nI (bh zz)) (fun zz => nI (ps1 zz))) := hD
        refine callN_v (As := [.ref hp, .int (nI b), .int (nI (plc k b))]) (rest := []) [4] hC hK hN hP hD rfl (by decide) hS (c_X7_put_N l D cI cJ cB hp 7 b ps1 (plc k b) (by omega) (by omega)) q368 md_X7_put rfl hl.1 rfl (Nat.le_of_ble_eq_true rfl) dX0_arrange_20 ⟨Nat.le_of_ble_eq_true rfl, Nat.le_of_ble_eq_true rfl⟩ ⟨Nat.le_of_ble_eq_true rfl, Nat.le_of_ble_eq_true rfl⟩ (fun w H locs hpost hP hD hS => ?_)
        obtain rfl := hpost
        have hP : va_P D vwCl (bW cI cJ cB h hs hw hh hp (nI se) (nI wd) (nI hd) (nI wl) (nI nb) (nI (topv wd)) (nI (rcv wd hd)) (nI (btv wd hd)) (nI (lcv wd hd)) (gI gl) (gI aq) st sl (gI lb) (fun zz => nI (sh zz)) (fun zz => nI (bw zz)) (fun zz => nI (bh zz)) (fun zz => nI ((va_up ps1 b (plc k b)) zz))) H := hP
        have hD : va_D A (bW cI cJ cB h hs hw hh hp (nI se) (nI wd) (nI hd) (nI wl) (nI nb) (nI (topv wd)) (nI (rcv wd hd)) (nI (btv wd hd)) (nI (lcv wd hd)) (gI gl) (gI aq) st sl (gI lb) (fun zz => nI (sh zz)) (fun zz => nI (bw zz)) (fun zz => nI (bh zz)) (fun zz => nI ((va_up ps1 b (plc k b)) zz))) := hD
        refine lv_iinc (v := nI (b + 1)) (lv' := [(3, .int (nI (b + 1))), (0, .ref h), (1, .long (lN k))]) hx hb dX0_arrange_23 hl (k := 0) rfl (nI_1 _) (by decide) rfl (fun ls hl => ?_)
        refine lv_goto (tgt := 2) hx hb dX0_arrange_26 (by decide) ?_
        exact ih2 (b + 1) (va_up ps1 b (plc k b)) (by omega) (lt_s (fun c h => by rw [up_ne ps1 (by omega)]; exact i1 c h) (up_eq _ _ _)) (by omega) _ _ hP hD hS _ (lv_sub hl [0, 1, 2] rfl)
  exact L2 _ 0 ps (by omega) (fun j h => absurd h (Nat.not_lt_zero j)) (Nat.lt_succ_self _) _ _ hP hD hS _ (lv_sub hl [0, 1, 2] rfl)

set_option maxHeartbeats 400000 in
set_option maxRecDepth 100000 in
theorem c_X0_forget_raw (l : Launch) (D : va_G) (cI cJ cB : ClassId) (h hs hw hh hp : Nat) (bse bwi bhe bwa bco btr brc bbr blc bgb bgp bst bsl bla : Int32) (bsh bwd bhg bsp : Nat → Int32)  : Met l yX0_forgetMoves (Cond.code yX0_forgetMoves cX0_forgetMoves 1 none :: lw_all) (rmN 0) (va_Pc [.ref h] (pB D (tyz cI cJ cB) (bW cI cJ cB h hs hw hh hp bse bwi bhe bwa bco btr brc bbr blc bgb bgp bst bsl bla bsh bwd bhg bsp))) (va_Qv (fun (w : va_W) => w = bW cI cJ cB h hs hw hh hp bse bwi bhe bwa bco btr brc bbr blc bgb bgp 0 0 (gI none) bsh bwd bhg bsp) (gB D (bW cI cJ cB h hs hw hh hp bse bwi bhe bwa bco btr brc bbr blc bgb bgp bst bsl bla bsh bwd bhg bsp)) (aW (bW cI cJ cB h hs hw hh hp bse bwi bhe bwa bco btr brc bbr blc bgb bgp bst bsl bla bsh bwd bhg bsp))) 0 0 (aW (bW cI cJ cB h hs hw hh hp bse bwi bhe bwa bco btr brc bbr blc bgb bgp bst bsl bla bsh bwd bhg bsp)) := by
  refine Met.ofW (cc := cX0_forgetMoves) (maxL := 1) (ret := none) (by decide) rfl ?_
  intro p e s m args below meth c s₁ B hml hv
  obtain ⟨rfl, hK, hN, hP, hD0⟩ := hv
  have hx := B.exec; have hb := B.bytes; have hr := B.returns; have hlocks := B.notSynchronized
  have hts0 := atoms_spec (ws := Cond.code yX0_forgetMoves cX0_forgetMoves 1 none :: lw_all) B.pre
  have hC : CallFix p m c cX0_forgetMoves 1 s _ lw_all RX0 := ⟨hx, hb, hml, findClass_of_methodNamed B.named, fun w h => hts0 w (List.mem_cons_of_mem _ h)⟩
  have hD : va_D (aW (bW cI cJ cB h hs hw hh hp bse bwi bhe bwa bco btr brc bbr blc bgb bgp bst bsl bla bsh bwd bhg bsp)) (bW cI cJ cB h hs hw hh hp bse bwi bhe bwa bco btr brc bbr blc bgb bgp bst bsl bla bsh bwd bhg bsp) := ⟨hD0.1, fun k q h => ⟨k, q.2, h⟩⟩
  generalize hAe : aW (bW cI cJ cB h hs hw hh hp bse bwi bhe bwa bco btr brc bbr blc bgb bgp bst bsl bla bsh bwd bhg bsp) = A at hD ⊢
  have hS : va_S A s.heap s.heap [] := va_S.rf
  have hl := lv_entry ([.ref h]) (n := 1) (Nat.le_of_ble_eq_true rfl)
  rw [lg_entry_eq]
  generalize (lg_sl ([.ref h]) ++ List.replicate (1 - (lg_sl ([.ref h])).length) Slot.unset).toArray = ls at hl ⊢
  have hl : lv_has ls 1 [(0, .ref h)] := hl
  generalize hav : ([.ref h] : List Value).toArray = args at hC ⊢
  refine W_gen (fun QQ hQ => ?_)
  show W p l e (rmN 0) s m args below meth c s.heap [] 0 0 QQ (F0 m 0 ls [])
  refine lv_aload_n hx hb dX0_forgetMoves_0 rfl (lv_at hl 0 rfl) ?_
  refine lv_iconst (v := nI 0) hx hb dX0_forgetMoves_1 (by decide) ?_
  refine pf_X0_66 hC hK hP hD hS 0 rfl (Nat.le_of_ble_eq_true rfl) (ws1 := bW cI cJ cB h hs hw hh hp bse bwi bhe bwa bco btr brc bbr blc bgb bgp (nI 0) bsl bla bsh bwd bhg bsp) rfl dX0_forgetMoves_2 (fun H locs hP hD hS => ?_)
  refine lv_aload_n hx hb dX0_forgetMoves_5 rfl (lv_at hl 0 rfl) ?_
  refine lv_iconst (v := nI 0) hx hb dX0_forgetMoves_6 (by decide) ?_
  refine pf_X0_69 hC hK hP hD hS 0 rfl (Nat.le_of_ble_eq_true rfl) (ws1 := bW cI cJ cB h hs hw hh hp bse bwi bhe bwa bco btr brc bbr blc bgb bgp (nI 0) (nI 0) bla bsh bwd bhg bsp) rfl dX0_forgetMoves_7 (fun H locs hP hD hS => ?_)
  refine lv_aload_n hx hb dX0_forgetMoves_10 rfl (lv_at hl 0 rfl) ?_
  refine lv_bipush (v := (-9)) hx hb dX0_forgetMoves_11 (by decide) ?_
  refine pf_X0_72 hC hK hP hD hS 0 rfl (Nat.le_of_ble_eq_true rfl) (ws1 := bW cI cJ cB h hs hw hh hp bse bwi bhe bwa bco btr brc bbr blc bgb bgp (nI 0) (nI 0) (-9) bsh bwd bhg bsp) rfl dX0_forgetMoves_13 (fun H locs hP hD hS => ?_)
  rw [hQ]
  exact W.vret hx hb hr (fun t9 ht hW => ⟨⟨_, rfl, rfl, by rw [ht]; exact hP, rfl⟩, hS.F ht⟩) hS.2.2 dX0_forgetMoves_16

set_option maxHeartbeats 400000 in
set_option maxRecDepth 100000 in
theorem c_X0_empty (l : Launch) (D : va_G) (cI cJ cB : ClassId) (h hs hw hh hp wd hd : Nat) (bse bwi bhe bwa bco btr brc bbr blc bgb bgp bst bsl bla : Int32) (bsh bwd bhg bsp : Nat → Int32) (h1 : 1 ≤ wd) (h6 : wd ≤ 6) (g1 : 1 ≤ hd) (g6 : hd ≤ 6) (h24 : wd * hd ≤ 24) : Met l yX0_empty (Cond.code yX0_empty cX0_empty 4 none :: lw_all) (rmN 1) (va_Pc [.ref h, .int (nI wd), .int (nI hd)] (pB D (tyz cI cJ cB) (bW cI cJ cB h hs hw hh hp bse bwi bhe bwa bco btr brc bbr blc bgb bgp bst bsl bla bsh bwd bhg bsp))) (va_Qv (fun (w : va_W) => w = bW cI cJ cB h hs hw hh hp bse (nI wd) (nI hd) (nI 0) (nI 0) (nI (topv wd)) (nI (rcv wd hd)) (nI (btv wd hd)) (nI (lcv wd hd)) (gI none) (gI none) 0 0 (gI none) bsh bwd bhg bsp) (gB D (bW cI cJ cB h hs hw hh hp bse bwi bhe bwa bco btr brc bbr blc bgb bgp bst bsl bla bsh bwd bhg bsp)) (aW (bW cI cJ cB h hs hw hh hp bse bwi bhe bwa bco btr brc bbr blc bgb bgp bst bsl bla bsh bwd bhg bsp))) 0 0 (aW (bW cI cJ cB h hs hw hh hp bse bwi bhe bwa bco btr brc bbr blc bgb bgp bst bsl bla bsh bwd bhg bsp)) := by
  refine Met.ofW (cc := cX0_empty) (maxL := 4) (ret := none) (by decide) rfl ?_
  intro p e s m args below meth c s₁ B hml hv
  obtain ⟨rfl, hK, hN, hP, hD0⟩ := hv
  have hx := B.exec; have hb := B.bytes; have hr := B.returns; have hlocks := B.notSynchronized
  have hts0 := atoms_spec (ws := Cond.code yX0_empty cX0_empty 4 none :: lw_all) B.pre
  have hC : CallFix p m c cX0_empty 4 s _ lw_all RX0 := ⟨hx, hb, hml, findClass_of_methodNamed B.named, fun w h => hts0 w (List.mem_cons_of_mem _ h)⟩
  have hD : va_D (aW (bW cI cJ cB h hs hw hh hp bse bwi bhe bwa bco btr brc bbr blc bgb bgp bst bsl bla bsh bwd bhg bsp)) (bW cI cJ cB h hs hw hh hp bse bwi bhe bwa bco btr brc bbr blc bgb bgp bst bsl bla bsh bwd bhg bsp) := ⟨hD0.1, fun k q h => ⟨k, q.2, h⟩⟩
  generalize hAe : aW (bW cI cJ cB h hs hw hh hp bse bwi bhe bwa bco btr brc bbr blc bgb bgp bst bsl bla bsh bwd bhg bsp) = A at hD ⊢
  have hS : va_S A s.heap s.heap [] := va_S.rf
  have hl := lv_entry ([.ref h, .int (nI wd), .int (nI hd)]) (n := 4) (Nat.le_of_ble_eq_true rfl)
  rw [lg_entry_eq]
  generalize (lg_sl ([.ref h, .int (nI wd), .int (nI hd)]) ++ List.replicate (4 - (lg_sl ([.ref h, .int (nI wd), .int (nI hd)])).length) Slot.unset).toArray = ls at hl ⊢
  have hl : lv_has ls 4 [(0, .ref h), (1, .int (nI wd)), (2, .int (nI hd))] := hl
  generalize hav : ([.ref h, .int (nI wd), .int (nI hd)] : List Value).toArray = args at hC ⊢
  refine W_gen (fun QQ hQ => ?_)
  show W p l e (rmN 1) s m args below meth c s.heap [] 0 0 QQ (F0 m 0 ls [])
  refine lv_aload_n hx hb dX0_empty_0 rfl (lv_at hl 0 rfl) ?_
  refine lv_iload_n hx hb dX0_empty_1 rfl (lv_at hl 1 rfl) ?_
  refine pf_X0_32 hC hK hP hD hS 0 rfl (Nat.le_of_ble_eq_true rfl) (ws1 := bW cI cJ cB h hs hw hh hp bse (nI wd) bhe bwa bco btr brc bbr blc bgb bgp bst bsl bla bsh bwd bhg bsp) rfl dX0_empty_2 (fun H locs hP hD hS => ?_)
  refine lv_aload_n hx hb dX0_empty_5 rfl (lv_at hl 0 rfl) ?_
  refine lv_iload_n hx hb dX0_empty_6 rfl (lv_at hl 2 rfl) ?_
  refine pf_X0_35 hC hK hP hD hS 0 rfl (Nat.le_of_ble_eq_true rfl) (ws1 := bW cI cJ cB h hs hw hh hp bse (nI wd) (nI hd) bwa bco btr brc bbr blc bgb bgp bst bsl bla bsh bwd bhg bsp) rfl dX0_empty_7 (fun H locs hP hD hS => ?_)
  refine lv_aload_n hx hb dX0_empty_10 rfl (lv_at hl 0 rfl) ?_
  refine lv_iconst (v := nI 0) hx hb dX0_empty_11 (by decide) ?_
  refine pf_X0_38 hC hK hP hD hS 0 rfl (Nat.le_of_ble_eq_true rfl) (ws1 := bW cI cJ cB h hs hw hh hp bse (nI wd) (nI hd) (nI 0) bco btr brc bbr blc bgb bgp bst bsl bla bsh bwd bhg bsp) rfl dX0_empty_12 (fun H locs hP hD hS => ?_)
  refine lv_aload_n hx hb dX0_empty_15 rfl (lv_at hl 0 rfl) ?_
  refine lv_iconst (v := nI 0) hx hb dX0_empty_16 (by decide) ?_
  refine pf_X0_41 hC hK hP hD hS 0 rfl (Nat.le_of_ble_eq_true rfl) (ws1 := bW cI cJ cB h hs hw hh hp bse (nI wd) (nI hd) (nI 0) (nI 0) btr brc bbr blc bgb bgp bst bsl bla bsh bwd bhg bsp) rfl dX0_empty_17 (fun H locs hP hD hS => ?_)
  refine lv_aload_n hx hb dX0_empty_20 rfl (lv_at hl 0 rfl) ?_
  refine lv_bipush (v := (-9)) hx hb dX0_empty_21 (by decide) ?_
  refine pf_X0_60 hC hK hP hD hS 0 rfl (Nat.le_of_ble_eq_true rfl) (ws1 := bW cI cJ cB h hs hw hh hp bse (nI wd) (nI hd) (nI 0) (nI 0) btr brc bbr blc (-9) bgp bst bsl bla bsh bwd bhg bsp) rfl dX0_empty_23 (fun H locs hP hD hS => ?_)
  refine lv_aload_n hx hb dX0_empty_26 rfl (lv_at hl 0 rfl) ?_
  refine lv_bipush (v := (-9)) hx hb dX0_empty_27 (by decide) ?_
  refine pf_X0_63 hC hK hP hD hS 0 rfl (Nat.le_of_ble_eq_true rfl) (ws1 := bW cI cJ cB h hs hw hh hp bse (nI wd) (nI hd) (nI 0) (nI 0) btr brc bbr blc (-9) (-9) bst bsl bla bsh bwd bhg bsp) rfl dX0_empty_29 (fun H locs hP hD hS => ?_)
  refine lv_aload_n hx hb dX0_empty_32 rfl (lv_at hl 0 rfl) ?_
  refine callV_v (As := []) (rest := []) [0, 1, 2, 3, 4] hC hK hN hP hD rfl (by decide) hS 0 (ci := 0) rfl rfl rfl (c_X0_forget_raw l D cI cJ cB h hs hw hh hp bse (nI wd) (nI hd) (nI 0) (nI 0) btr brc bbr blc (-9) (-9) bst bsl bla bsh bwd bhg bsp ) q67 md_X0_forgetMoves rfl hl.1 rfl (Nat.le_of_ble_eq_true rfl) dX0_empty_33 ⟨Nat.le_of_ble_eq_true rfl, Nat.le_of_ble_eq_true rfl⟩ ⟨Nat.le_of_ble_eq_true rfl, Nat.le_of_ble_eq_true rfl⟩ (fun w H locs hpost hP hD hS => ?_)
  obtain rfl := hpost
  have hP : va_P D vwCl (bW cI cJ cB h hs hw hh hp bse (nI wd) (nI hd) (nI 0) (nI 0) btr brc bbr blc (-9) (-9) 0 0 (gI none) bsh bwd bhg bsp) H := hP
  have hD : va_D A (bW cI cJ cB h hs hw hh hp bse (nI wd) (nI hd) (nI 0) (nI 0) btr brc bbr blc (-9) (-9) 0 0 (gI none) bsh bwd bhg bsp) := hD
  refine lv_aload_n hx hb dX0_empty_36 rfl (lv_at hl 0 rfl) ?_
  refine lv_iconst (v := nI 1) hx hb dX0_empty_37 (by decide) ?_
  refine lv_aload_n hx hb dX0_empty_38 rfl (lv_at hl 0 rfl) ?_
  refine gf_X0_32 hC hK hP 0 rfl rfl dX0_empty_39 ?_
  refine n_ishl hx hb dX0_empty_42 (by omega) ?_
  refine lv_iconst (v := nI 1) hx hb dX0_empty_43 (by decide) ?_
  refine n_isub hx hb dX0_empty_44 (by rw [Nat.one_shiftLeft]; exact Nat.two_pow_pos wd) ?_
  refine topi (y := nI (topv wd)) rfl ?_
  refine pf_X0_44 hC hK hP hD hS 0 rfl (Nat.le_of_ble_eq_true rfl) (ws1 := bW cI cJ cB h hs hw hh hp bse (nI wd) (nI hd) (nI 0) (nI 0) (nI (topv wd)) brc bbr blc (-9) (-9) 0 0 (gI none) bsh bwd bhg bsp) rfl dX0_empty_45 (fun H locs hP hD hS => ?_)
  refine lv_aload_n hx hb dX0_empty_48 rfl (lv_at hl 0 rfl) ?_
  refine lv_aload_n hx hb dX0_empty_49 rfl (lv_at hl 0 rfl) ?_
  refine gf_X0_44 hC hK hP 0 rfl rfl dX0_empty_50 ?_
  refine lv_aload_n hx hb dX0_empty_53 rfl (lv_at hl 0 rfl) ?_
  refine gf_X0_35 hC hK hP 0 rfl rfl dX0_empty_54 ?_
  refine lv_iconst (v := nI 1) hx hb dX0_empty_57 (by decide) ?_
  refine n_isub hx hb dX0_empty_58 (by omega) ?_
  refine lv_aload_n hx hb dX0_empty_59 rfl (lv_at hl 0 rfl) ?_
  refine gf_X0_32 hC hK hP 0 rfl rfl dX0_empty_60 ?_
  refine n_imul hx hb dX0_empty_63  ?_
  refine n_ishl hx hb dX0_empty_64 (row_lt32 (hd := hd) (by omega) h24) ?_
  refine topi (y := nI (btv wd hd)) rfl ?_
  refine pf_X0_50 hC hK hP hD hS 0 rfl (Nat.le_of_ble_eq_true rfl) (ws1 := bW cI cJ cB h hs hw hh hp bse (nI wd) (nI hd) (nI 0) (nI 0) (nI (topv wd)) brc (nI (btv wd hd)) blc (-9) (-9) 0 0 (gI none) bsh bwd bhg bsp) rfl dX0_empty_65 (fun H locs hP hD hS => ?_)
  refine lv_aload_n hx hb dX0_empty_68 rfl (lv_at hl 0 rfl) ?_
  refine lv_iconst (v := nI 0) hx hb dX0_empty_69 (by decide) ?_
  refine pf_X0_53 hC hK hP hD hS 0 rfl (Nat.le_of_ble_eq_true rfl) (ws1 := bW cI cJ cB h hs hw hh hp bse (nI wd) (nI hd) (nI 0) (nI 0) (nI (topv wd)) brc (nI (btv wd hd)) (nI 0) (-9) (-9) 0 0 (gI none) bsh bwd bhg bsp) rfl dX0_empty_70 (fun H locs hP hD hS => ?_)
  refine lv_iconst (v := nI 0) hx hb dX0_empty_73 (by decide) ?_
  refine lv_istore_n (lv' := [(3, .int (nI 0)), (0, .ref h), (1, .int (nI wd)), (2, .int (nI hd))]) hx hb dX0_empty_74 rfl hl (by decide) rfl (fun ls hl => ?_)
  have L75 : ∀ (n : Nat) (y : Nat), (y ≤ hd) → (hd - y) < n → ∀ (H : Heap) (locs : List Loc), va_P D vwCl (bW cI cJ cB h hs hw hh hp bse (nI wd) (nI hd) (nI 0) (nI 0) (nI (topv wd)) brc (nI (btv wd hd)) (nI (lcv wd y)) (-9) (-9) 0 0 (gI none) bsh bwd bhg bsp) H → va_D A (bW cI cJ cB h hs hw hh hp bse (nI wd) (nI hd) (nI 0) (nI 0) (nI (topv wd)) brc (nI (btv wd hd)) (nI (lcv wd y)) (-9) (-9) 0 0 (gI none) bsh bwd bhg bsp) → va_S A s.heap H locs → ∀ ls : Array Slot, lv_has ls 4 [(3, .int (nI y)), (0, .ref h), (1, .int (nI wd)), (2, .int (nI hd))] → W p l e (rmN 1) s m args below meth c H locs 0 0 QQ (F0 m 75 ls []) := by
    intro n; induction n with
    | zero => intro y iy hm; exact absurd hm (Nat.not_lt_zero _)
    | succ n ih75 =>
      intro y iy hm75 H locs hP hD hS ls hl
      refine lv_iload_n hx hb dX0_empty_75 rfl (lv_at hl 0 rfl) ?_
      refine lv_aload_n hx hb dX0_empty_76 rfl (lv_at hl 1 rfl) ?_
      refine gf_X0_35 hC hK hP 0 rfl rfl dX0_empty_77 ?_
      refine n_icmp_ge (a := y) (b := hd) (tgt := 106) hx hb dX0_empty_80 (by decide) (by omega) (by omega) (fun c80 => ?_) (fun c80 => ?_)
      · have _ : True := trivial
        have e80 : hd = y := by omega
        subst e80
        refine lv_aload_n hx hb dX0_empty_106 rfl (lv_at hl 1 rfl) ?_
        refine lv_aload_n hx hb dX0_empty_107 rfl (lv_at hl 1 rfl) ?_
        refine gf_X0_53 hC hK hP 0 rfl rfl dX0_empty_108 ?_
        refine lv_aload_n hx hb dX0_empty_111 rfl (lv_at hl 1 rfl) ?_
        refine gf_X0_32 hC hK hP 0 rfl rfl dX0_empty_112 ?_
        refine lv_iconst (v := nI 1) hx hb dX0_empty_115 (by decide) ?_
        refine n_isub hx hb dX0_empty_116 (by omega) ?_
        refine n_ishl hx hb dX0_empty_117 (by omega) ?_
        refine topi (y := nI (rcv wd hd)) rfl ?_
        refine pf_X0_47 hC hK hP hD hS 0 rfl (Nat.le_of_ble_eq_true rfl) (ws1 := bW cI cJ cB h hs hw hh hp bse (nI wd) (nI hd) (nI 0) (nI 0) (nI (topv wd)) (nI (rcv wd hd)) (nI (btv wd hd)) (nI (lcv wd hd)) (-9) (-9) 0 0 (gI none) bsh bwd bhg bsp) rfl dX0_empty_118 (fun H locs hP hD hS => ?_)
        rw [hQ]
        exact W.vret hx hb hr (fun t9 ht hW => ⟨⟨_, rfl, rfl, by rw [ht]; exact hP, rfl⟩, hS.F ht⟩) hS.2.2 dX0_empty_121
      · have _ : True := trivial
        refine lv_aload_n hx hb dX0_empty_83 rfl (lv_at hl 1 rfl) ?_
        refine lv_dup hx hb dX0_empty_84 rfl ?_
        refine gf_X0_53 hC hK hP 0 rfl rfl dX0_empty_85 ?_
        refine lv_iconst (v := nI 1) hx hb dX0_empty_88 (by decide) ?_
        refine lv_iload_n hx hb dX0_empty_89 rfl (lv_at hl 0 rfl) ?_
        refine lv_aload_n hx hb dX0_empty_90 rfl (lv_at hl 1 rfl) ?_
        refine gf_X0_32 hC hK hP 0 rfl rfl dX0_empty_91 ?_
        refine n_imul hx hb dX0_empty_94  ?_
        refine n_ishl hx hb dX0_empty_95 (row_lt32 (hd := hd) (by omega) h24) ?_
        refine n_ior hx hb dX0_empty_96  ?_
        refine topi (y := nI (lcv wd (y + 1))) rfl ?_
        refine pf_X0_53 hC hK hP hD hS 0 rfl (Nat.le_of_ble_eq_true rfl) (ws1 := bW cI cJ cB h hs hw hh hp bse (nI wd) (nI hd) (nI 0) (nI 0) (nI (topv wd)) brc (nI (btv wd hd)) (nI (lcv wd (y + 1))) (-9) (-9) 0 0 (gI none) bsh bwd bhg bsp) rfl dX0_empty_97 (fun H locs hP hD hS => ?_)
        refine lv_iinc (v := nI (y + 1)) (lv' := [(3, .int (nI (y + 1))), (0, .ref h), (1, .int (nI wd)), (2, .int (nI hd))]) hx hb dX0_empty_100 hl (k := 0) rfl (nI_1 _) (by decide) rfl (fun ls hl => ?_)
        refine lv_goto (tgt := 75) hx hb dX0_empty_103 (by decide) ?_
        exact ih75 (y + 1) (by omega) (by omega) _ _ hP hD hS _ (lv_sub hl [0, 1, 2, 3] rfl)
  exact L75 _ 0 (by omega) (Nat.lt_succ_self _) _ _ hP hD hS _ (lv_sub hl [0, 1, 2, 3] rfl)

set_option maxHeartbeats 400000 in
set_option maxRecDepth 100000 in
theorem c_X0_fits (l : Launch) (D : va_G) (cI cJ cB : ClassId) (h hs hw hh hp se wd hd nb wl : Nat) (st sl : Int32) (gl aq lb : Option Nat) (sh bw bh ps : Nat → Nat) (b : Nat) (x : Int32) (hw1 : 1 ≤ wd) (hw6 : wd ≤ 6) (hd6 : hd ≤ 6) (h24 : wd * hd ≤ 24) (hb7 : b < 7) (hbw : bw b < 2 ^ 20) (hbh : bh b < 2 ^ 20) : Met l yX0_fits (Cond.code yX0_fits cX0_fits 3 (some .boolean) :: lw_all) (rmN 1) (va_Pc [.ref h, .int (nI b), .int x] (pB D (tyz cI cJ cB) (bW cI cJ cB h hs hw hh hp (nI se) (nI wd) (nI hd) (nI wl) (nI nb) (nI (topv wd)) (nI (rcv wd hd)) (nI (btv wd hd)) (nI (lcv wd hd)) (gI gl) (gI aq) st sl (gI lb) (fun zz => nI (sh zz)) (fun zz => nI (bw zz)) (fun zz => nI (bh zz)) (fun zz => nI (ps zz))))) (va_Qi (fun (r : Int32) (w : va_W) => r = bI (match bOf (wd * hd) x with | some q => f_ins wd hd (bw b) (bh b) q | none => false) ∧ w = bW cI cJ cB h hs hw hh hp (nI se) (nI wd) (nI hd) (nI wl) (nI nb) (nI (topv wd)) (nI (rcv wd hd)) (nI (btv wd hd)) (nI (lcv wd hd)) (gI gl) (gI aq) st sl (gI lb) (fun zz => nI (sh zz)) (fun zz => nI (bw zz)) (fun zz => nI (bh zz)) (fun zz => nI (ps zz))) (gB D (bW cI cJ cB h hs hw hh hp (nI se) (nI wd) (nI hd) (nI wl) (nI nb) (nI (topv wd)) (nI (rcv wd hd)) (nI (btv wd hd)) (nI (lcv wd hd)) (gI gl) (gI aq) st sl (gI lb) (fun zz => nI (sh zz)) (fun zz => nI (bw zz)) (fun zz => nI (bh zz)) (fun zz => nI (ps zz)))) (aW (bW cI cJ cB h hs hw hh hp (nI se) (nI wd) (nI hd) (nI wl) (nI nb) (nI (topv wd)) (nI (rcv wd hd)) (nI (btv wd hd)) (nI (lcv wd hd)) (gI gl) (gI aq) st sl (gI lb) (fun zz => nI (sh zz)) (fun zz => nI (bw zz)) (fun zz => nI (bh zz)) (fun zz => nI (ps zz))))) 0 0 (aW (bW cI cJ cB h hs hw hh hp (nI se) (nI wd) (nI hd) (nI wl) (nI nb) (nI (topv wd)) (nI (rcv wd hd)) (nI (btv wd hd)) (nI (lcv wd hd)) (gI gl) (gI aq) st sl (gI lb) (fun zz => nI (sh zz)) (fun zz => nI (bw zz)) (fun zz => nI (bh zz)) (fun zz => nI (ps zz)))) := by
  refine Met.ofW (cc := cX0_fits) (maxL := 3) (ret := (some .boolean)) (by decide) rfl ?_
  intro p e s m args below meth c s₁ B hml hv
  obtain ⟨rfl, hK, hN, hP, hD0⟩ := hv
  have hx := B.exec; have hb := B.bytes; have hr := B.returns; have hlocks := B.notSynchronized
  have hts0 := atoms_spec (ws := Cond.code yX0_fits cX0_fits 3 (some .boolean) :: lw_all) B.pre
  have hC : CallFix p m c cX0_fits 3 s _ lw_all RX0 := ⟨hx, hb, hml, findClass_of_methodNamed B.named, fun w h => hts0 w (List.mem_cons_of_mem _ h)⟩
  have hD : va_D (aW (bW cI cJ cB h hs hw hh hp (nI se) (nI wd) (nI hd) (nI wl) (nI nb) (nI (topv wd)) (nI (rcv wd hd)) (nI (btv wd hd)) (nI (lcv wd hd)) (gI gl) (gI aq) st sl (gI lb) (fun zz => nI (sh zz)) (fun zz => nI (bw zz)) (fun zz => nI (bh zz)) (fun zz => nI (ps zz)))) (bW cI cJ cB h hs hw hh hp (nI se) (nI wd) (nI hd) (nI wl) (nI nb) (nI (topv wd)) (nI (rcv wd hd)) (nI (btv wd hd)) (nI (lcv wd hd)) (gI gl) (gI aq) st sl (gI lb) (fun zz => nI (sh zz)) (fun zz => nI (bw zz)) (fun zz => nI (bh zz)) (fun zz => nI (ps zz))) := ⟨hD0.1, fun k q h => ⟨k, q.2, h⟩⟩
  generalize hAe : aW (bW cI cJ cB h hs hw hh hp (nI se) (nI wd) (nI hd) (nI wl) (nI nb) (nI (topv wd)) (nI (rcv wd hd)) (nI (btv wd hd)) (nI (lcv wd hd)) (gI gl) (gI aq) st sl (gI lb) (fun zz => nI (sh zz)) (fun zz => nI (bw zz)) (fun zz => nI (bh zz)) (fun zz => nI (ps zz))) = A at hD ⊢
  have hS : va_S A s.heap s.heap [] := va_S.rf
  have hl := lv_entry ([.ref h, .int (nI b), .int x]) (n := 3) (Nat.le_of_ble_eq_true rfl)
  rw [lg_entry_eq]
  generalize (lg_sl ([.ref h, .int (nI b), .int x]) ++ List.replicate (3 - (lg_sl ([.ref h, .int (nI b), .int x])).length) Slot.unset).toArray = ls at hl ⊢
  have hl : lv_has ls 3 [(0, .ref h), (1, .int (nI b)), (2, .int x)] := hl
  generalize hav : ([.ref h, .int (nI b), .int x] : List Value).toArray = args at hC ⊢
  refine W_gen (fun QQ hQ => ?_)
  show W p l e (rmN 1) s m args below meth c s.heap [] 0 0 QQ (F0 m 0 ls [])
  refine lv_aload_n hx hb dX0_fits_0 rfl (lv_at hl 0 rfl) ?_
  refine lv_iload_n hx hb dX0_fits_1 rfl (lv_at hl 2 rfl) ?_
  refine callV_i (As := [.int x]) (rest := []) [0, 1, 2, 3, 4] hC hK hN hP hD rfl (by decide) hS 0 (ci := 0) rfl rfl rfl (c_X0_hasCell l D cI cJ cB h hs hw hh hp se wd hd nb wl st sl gl aq lb sh bw bh ps x (by omega)) q476 md_X0_hasCell rfl hl.1 rfl (Nat.le_of_ble_eq_true rfl) dX0_fits_2 ⟨Nat.le_of_ble_eq_true rfl, Nat.le_of_ble_eq_true rfl⟩ ⟨Nat.le_of_ble_eq_true rfl, Nat.le_of_ble_eq_true rfl⟩ (fun r_2 w H locs hpost hP hD hS => ?_)
  obtain ⟨rfl, rfl⟩ := hpost
  have hP : va_P D vwCl (bW cI cJ cB h hs hw hh hp (nI se) (nI wd) (nI hd) (nI wl) (nI nb) (nI (topv wd)) (nI (rcv wd hd)) (nI (btv wd hd)) (nI (lcv wd hd)) (gI gl) (gI aq) st sl (gI lb) (fun zz => nI (sh zz)) (fun zz => nI (bw zz)) (fun zz => nI (bh zz)) (fun zz => nI (ps zz))) H := hP
  have hD : va_D A (bW cI cJ cB h hs hw hh hp (nI se) (nI wd) (nI hd) (nI wl) (nI nb) (nI (topv wd)) (nI (rcv wd hd)) (nI (btv wd hd)) (nI (lcv wd hd)) (gI gl) (gI aq) st sl (gI lb) (fun zz => nI (sh zz)) (fun zz => nI (bw zz)) (fun zz => nI (bh zz)) (fun zz => nI (ps zz))) := hD
  refine b_if_eq (tgt := 16) hx hb dX0_fits_5 (by decide) (fun c5 => ?_) (fun c5 => ?_)
  · have _ : True := trivial
    have c5n := bOf_non c5
    refine lv_iconst (v := nI 0) hx hb dX0_fits_16 (by decide) ?_
    rw [hQ]
    exact W.zret (v := nI 0) hx hb hr rfl (fun t9 ht hW => ⟨⟨_, _, rfl, ⟨(by rw [c5n]; rfl), rfl⟩, by rw [ht]; exact hP, rfl⟩, hS.F ht⟩) hS.2.2 dX0_fits_17
  · have _ : True := trivial
    obtain ⟨q, hq, hxq, hqo⟩ := bOf_yes (by omega) c5
    subst hxq
    refine lv_aload_n hx hb dX0_fits_8 rfl (lv_at hl 0 rfl) ?_
    refine gf_X0_32 hC hK hP 0 rfl rfl dX0_fits_9 ?_
    refine lv_iconst (v := nI 1) hx hb dX0_fits_12 (by decide) ?_
    refine n_icmp_ge (a := wd) (b := 1) (tgt := 18) hx hb dX0_fits_13 (by decide) (by omega) (by omega) (fun c13 => ?_) (fun c13 => ?_)
    · have _ : True := trivial
      refine lv_iload_n hx hb dX0_fits_18 rfl (lv_at hl 2 rfl) ?_
      refine lv_aload_n hx hb dX0_fits_19 rfl (lv_at hl 0 rfl) ?_
      refine gf_X0_32 hC hK hP 0 rfl rfl dX0_fits_20 ?_
      refine n_irem hx hb dX0_fits_23 (by omega) (by omega) (by omega) ?_
      refine lv_aload_n hx hb dX0_fits_24 rfl (lv_at hl 0 rfl) ?_
      refine gf_X0_19 hC hK hP 0 rfl rfl dX0_fits_25 ?_
      refine lv_iload_n hx hb dX0_fits_28 rfl (lv_at hl 1 rfl) ?_
      refine callN_i (As := [.ref hw, .int (nI b)]) (rest := [.int (nI (q % wd))]) [2] hC hK hN hP hD rfl (by decide) hS (c_X7_at_N l D cI cJ cB hw 7 b bw (by omega) (by omega)) q401 md_X7_at rfl hl.1 rfl (Nat.le_of_ble_eq_true rfl) dX0_fits_29 ⟨Nat.le_of_ble_eq_true rfl, Nat.le_of_ble_eq_true rfl⟩ ⟨Nat.le_of_ble_eq_true rfl, Nat.le_of_ble_eq_true rfl⟩ (fun r_29 w H locs hpost hP hD hS => ?_)
      obtain ⟨rfl, rfl⟩ := hpost
      have hP : va_P D vwCl (bW cI cJ cB h hs hw hh hp (nI se) (nI wd) (nI hd) (nI wl) (nI nb) (nI (topv wd)) (nI (rcv wd hd)) (nI (btv wd hd)) (nI (lcv wd hd)) (gI gl) (gI aq) st sl (gI lb) (fun zz => nI (sh zz)) (fun zz => nI (bw zz)) (fun zz => nI (bh zz)) (fun zz => nI (ps zz))) H := hP
      have hD : va_D A (bW cI cJ cB h hs hw hh hp (nI se) (nI wd) (nI hd) (nI wl) (nI nb) (nI (topv wd)) (nI (rcv wd hd)) (nI (btv wd hd)) (nI (lcv wd hd)) (gI gl) (gI aq) st sl (gI lb) (fun zz => nI (sh zz)) (fun zz => nI (bw zz)) (fun zz => nI (bh zz)) (fun zz => nI (ps zz))) := hD
      refine n_iadd hx hb dX0_fits_32  ?_
      refine lv_aload_n hx hb dX0_fits_33 rfl (lv_at hl 0 rfl) ?_
      refine gf_X0_32 hC hK hP 0 rfl rfl dX0_fits_34 ?_
      refine n_icmp_gt (a := (q % wd) + (bw b)) (b := wd) (tgt := 66) hx hb dX0_fits_37 (by decide) (by have := Nat.mod_lt q hw1; omega) (by omega) (fun c37 => ?_) (fun c37 => ?_)
      · have _ : True := trivial
        refine lv_iconst (v := nI 0) hx hb dX0_fits_66 (by decide) ?_
        refine topi (y := bI (match bOf (wd * hd) (nI q) with | some q => f_ins wd hd (bw b) (bh b) q | none => false)) (by rw [hqo]; simp [f_ins, Nat.not_le.mpr c37, bI]; rfl) ?_
        rw [hQ]
        exact W.zret (v := bI (match bOf (wd * hd) (nI q) with | some q => f_ins wd hd (bw b) (bh b) q | none => false)) hx hb hr (bnar _) (fun t9 ht hW => ⟨⟨_, _, rfl, ⟨rfl, rfl⟩, by rw [ht]; exact hP, rfl⟩, hS.F ht⟩) hS.2.2 dX0_fits_67
      · have _ : True := trivial
        refine lv_iload_n hx hb dX0_fits_40 rfl (lv_at hl 2 rfl) ?_
        refine lv_aload_n hx hb dX0_fits_41 rfl (lv_at hl 0 rfl) ?_
        refine gf_X0_32 hC hK hP 0 rfl rfl dX0_fits_42 ?_
        refine n_idiv hx hb dX0_fits_45 (by omega) (by omega) (by omega) ?_
        refine lv_aload_n hx hb dX0_fits_46 rfl (lv_at hl 0 rfl) ?_
        refine gf_X0_22 hC hK hP 0 rfl rfl dX0_fits_47 ?_
        refine lv_iload_n hx hb dX0_fits_50 rfl (lv_at hl 1 rfl) ?_
        refine callN_i (As := [.ref hh, .int (nI b)]) (rest := [.int (nI (q / wd))]) [3] hC hK hN hP hD rfl (by decide) hS (c_X7_at_N l D cI cJ cB hh 7 b bh (by omega) (by omega)) q401 md_X7_at rfl hl.1 rfl (Nat.le_of_ble_eq_true rfl) dX0_fits_51 ⟨Nat.le_of_ble_eq_true rfl, Nat.le_of_ble_eq_true rfl⟩ ⟨Nat.le_of_ble_eq_true rfl, Nat.le_of_ble_eq_true rfl⟩ (fun r_51 w H locs hpost hP hD hS => ?_)
        obtain ⟨rfl, rfl⟩ := hpost
        have hP : va_P D vwCl (bW cI cJ cB h hs hw hh hp (nI se) (nI wd) (nI hd) (nI wl) (nI nb) (nI (topv wd)) (nI (rcv wd hd)) (nI (btv wd hd)) (nI (lcv wd hd)) (gI gl) (gI aq) st sl (gI lb) (fun zz => nI (sh zz)) (fun zz => nI (bw zz)) (fun zz => nI (bh zz)) (fun zz => nI (ps zz))) H := hP
        have hD : va_D A (bW cI cJ cB h hs hw hh hp (nI se) (nI wd) (nI hd) (nI wl) (nI nb) (nI (topv wd)) (nI (rcv wd hd)) (nI (btv wd hd)) (nI (lcv wd hd)) (gI gl) (gI aq) st sl (gI lb) (fun zz => nI (sh zz)) (fun zz => nI (bw zz)) (fun zz => nI (bh zz)) (fun zz => nI (ps zz))) := hD
        refine n_iadd hx hb dX0_fits_54  ?_
        refine lv_aload_n hx hb dX0_fits_55 rfl (lv_at hl 0 rfl) ?_
        refine gf_X0_35 hC hK hP 0 rfl rfl dX0_fits_56 ?_
        refine n_icmp_gt (a := (q / wd) + (bh b)) (b := hd) (tgt := 66) hx hb dX0_fits_59 (by decide) (by have := Nat.div_le_self q wd; omega) (by omega) (fun c59 => ?_) (fun c59 => ?_)
        · have _ : True := trivial
          refine lv_iconst (v := nI 0) hx hb dX0_fits_66 (by decide) ?_
          refine topi (y := bI (match bOf (wd * hd) (nI q) with | some q => f_ins wd hd (bw b) (bh b) q | none => false)) (by rw [hqo]; simp [f_ins, Nat.not_le.mpr c59, bI]; rfl) ?_
          rw [hQ]
          exact W.zret (v := bI (match bOf (wd * hd) (nI q) with | some q => f_ins wd hd (bw b) (bh b) q | none => false)) hx hb hr (bnar _) (fun t9 ht hW => ⟨⟨_, _, rfl, ⟨rfl, rfl⟩, by rw [ht]; exact hP, rfl⟩, hS.F ht⟩) hS.2.2 dX0_fits_67
        · have _ : True := trivial
          refine lv_iconst (v := nI 1) hx hb dX0_fits_62 (by decide) ?_
          refine topi (y := bI (match bOf (wd * hd) (nI q) with | some q => f_ins wd hd (bw b) (bh b) q | none => false)) (by rw [hqo]; simp [f_ins, c37, c59, bI]; rfl) ?_
          refine lv_goto (tgt := 67) hx hb dX0_fits_63 (by decide) ?_
          rw [hQ]
          exact W.zret (v := bI (match bOf (wd * hd) (nI q) with | some q => f_ins wd hd (bw b) (bh b) q | none => false)) hx hb hr (bnar _) (fun t9 ht hW => ⟨⟨_, _, rfl, ⟨rfl, rfl⟩, by rw [ht]; exact hP, rfl⟩, hS.F ht⟩) hS.2.2 dX0_fits_67
    · have _ : True := trivial
      exact absurd c13 (by omega)
