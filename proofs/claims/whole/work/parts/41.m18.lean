abbrev aWi (cI cJ cB : ClassId) (ra : Nat) (rn : Nat) (rf : Nat → Int32) : va_W := [(ra, .inl (cI, rn, .inl rf))]

set_option maxHeartbeats 400000 in
set_option maxRecDepth 100000 in
theorem c_X7_keyShift (l : Launch) (D : va_G) (cI cJ cB : ClassId) (b : Nat) (hb7 : b < 7) : Met l yX7_keyShift (Cond.code yX7_keyShift cX7_keyShift 1 (some .int) :: lw_all) (rmN 0) (va_Pc [.int (nI b)] (pB D (tyz cI cJ cB) ([] : va_W))) (va_Qi (fun (r : Int32) (w : va_W) => r = nI (5 * (6 - b)) ∧ w = []) (gB D ([] : va_W)) (aW ([] : va_W))) 0 0 (aW ([] : va_W)) := by
  refine Met.ofW (cc := cX7_keyShift) (maxL := 1) (ret := (some .int)) (by decide) rfl ?_
  intro p e s m args below meth c s₁ B hml hv
  obtain ⟨rfl, hK, hN, hP, hD0⟩ := hv
  have hx := B.exec; have hb := B.bytes; have hr := B.returns; have hlocks := B.notSynchronized
  have hts0 := atoms_spec (ws := Cond.code yX7_keyShift cX7_keyShift 1 (some .int) :: lw_all) B.pre
  have hC : CallFix p m c cX7_keyShift 1 s _ lw_all RX7 := ⟨hx, hb, hml, findClass_of_methodNamed B.named, fun w h => hts0 w (List.mem_cons_of_mem _ h)⟩
  have hD : va_D (aW ([] : va_W)) ([] : va_W) := ⟨hD0.1, fun k q h => ⟨k, q.2, h⟩⟩
  generalize hAe : aW ([] : va_W) = A at hD ⊢
  have hS : va_S A s.heap s.heap [] := va_S.rf
  have hl := lv_entry ([.int (nI b)]) (n := 1) (Nat.le_of_ble_eq_true rfl)
  rw [lg_entry_eq]
  generalize (lg_sl ([.int (nI b)]) ++ List.replicate (1 - (lg_sl ([.int (nI b)])).length) Slot.unset).toArray = ls at hl ⊢
  have hl : lv_has ls 1 [(0, .int (nI b))] := hl
  generalize hav : ([.int (nI b)] : List Value).toArray = args at hC ⊢
  refine W_gen (fun QQ hQ => ?_)
  show W p l e (rmN 0) s m args below meth c s.heap [] 0 0 QQ (F0 m 0 ls [])
  refine lv_iconst (v := nI 5) hx hb dX7_keyShift_0 (by decide) ?_
  refine lv_bipush (v := nI 6) hx hb dX7_keyShift_1 (by decide) ?_
  refine lv_iload_n hx hb dX7_keyShift_3 rfl (lv_at hl 0 rfl) ?_
  refine n_isub hx hb dX7_keyShift_4 (by omega) ?_
  refine n_imul hx hb dX7_keyShift_5  ?_
  rw [hQ]
  exact W.iret (v := nI (5 * (6 - b))) hx hb hr (fun t9 ht hW => ⟨⟨_, _, rfl, ⟨rfl, rfl⟩, by rw [ht]; exact hP, rfl⟩, hS.F ht⟩) hS.2.2 dX7_keyShift_6

set_option maxHeartbeats 400000 in
set_option maxRecDepth 100000 in
theorem c_X7_placeIn (l : Launch) (D : va_G) (cI cJ cB : ClassId) (k b : Nat) (hk : k < 2 ^ 35) (hb7 : b < 7) : Met l yX7_placeIn (Cond.code yX7_placeIn cX7_placeIn 3 (some .int) :: lw_all) (rmN 0) (va_Pc [.long (lN k), .int (nI b)] (pB D (tyz cI cJ cB) ([] : va_W))) (va_Qi (fun (r : Int32) (w : va_W) => r = nI (plc k b) ∧ w = []) (gB D ([] : va_W)) (aW ([] : va_W))) 0 0 (aW ([] : va_W)) := by
  refine Met.ofW (cc := cX7_placeIn) (maxL := 3) (ret := (some .int)) (by decide) rfl ?_
  intro p e s m args below meth c s₁ B hml hv
  obtain ⟨rfl, hK, hN, hP, hD0⟩ := hv
  have hx := B.exec; have hb := B.bytes; have hr := B.returns; have hlocks := B.notSynchronized
  have hts0 := atoms_spec (ws := Cond.code yX7_placeIn cX7_placeIn 3 (some .int) :: lw_all) B.pre
  have hC : CallFix p m c cX7_placeIn 3 s _ lw_all RX7 := ⟨hx, hb, hml, findClass_of_methodNamed B.named, fun w h => hts0 w (List.mem_cons_of_mem _ h)⟩
  have hD : va_D (aW ([] : va_W)) ([] : va_W) := ⟨hD0.1, fun k q h => ⟨k, q.2, h⟩⟩
  generalize hAe : aW ([] : va_W) = A at hD ⊢
  have hS : va_S A s.heap s.heap [] := va_S.rf
  have hl := lv_entry ([.long (lN k), .int (nI b)]) (n := 3) (Nat.le_of_ble_eq_true rfl)
  rw [lg_entry_eq]
  generalize (lg_sl ([.long (lN k), .int (nI b)]) ++ List.replicate (3 - (lg_sl ([.long (lN k), .int (nI b)])).length) Slot.unset).toArray = ls at hl ⊢
  have hl : lv_has ls 3 [(0, .long (lN k)), (2, .int (nI b))] := hl
  generalize hav : ([.long (lN k), .int (nI b)] : List Value).toArray = args at hC ⊢
  refine W_gen (fun QQ hQ => ?_)
  show W p l e (rmN 0) s m args below meth c s.heap [] 0 0 QQ (F0 m 0 ls [])
  refine lv_lload_n hx hb dX7_placeIn_0 rfl (lv_at hl 0 rfl) ?_
  refine lv_iconst (v := nI 5) hx hb dX7_placeIn_1 (by decide) ?_
  refine lv_bipush (v := nI 6) hx hb dX7_placeIn_2 (by decide) ?_
  refine lv_iload_n hx hb dX7_placeIn_4 rfl (lv_at hl 1 rfl) ?_
  refine n_isub hx hb dX7_placeIn_5 (by omega) ?_
  refine n_imul hx hb dX7_placeIn_6  ?_
  refine n_lushr hx hb dX7_placeIn_7 (by omega) (by omega) ?_
  refine lv_l2i (v := nI (k / 2 ^ (5 * (6 - b)))) hx hb dX7_placeIn_8 (lN_i _) ?_
  refine lv_bipush (v := nI 31) hx hb dX7_placeIn_9 (by decide) ?_
  refine n_iand hx hb dX7_placeIn_11  ?_
  refine topi (y := nI (plc k b)) (by unfold plc; rw [nI_and31]) ?_
  rw [hQ]
  exact W.iret (v := nI (plc k b)) hx hb hr (fun t9 ht hW => ⟨⟨_, _, rfl, ⟨rfl, rfl⟩, by rw [ht]; exact hP, rfl⟩, hS.F ht⟩) hS.2.2 dX7_placeIn_12

set_option maxHeartbeats 400000 in
set_option maxRecDepth 100000 in
theorem c_X7_at_N (l : Launch) (D : va_G) (cI cJ cB : ClassId) (ra rn i : Nat) (rf : Nat → Nat) (hir : i < rn) (hrn : rn < 2 ^ 31) : Met l yX7_at (Cond.code yX7_at cX7_at 2 (some .int) :: lw_all) (rmN 0) (va_Pc [.ref ra, .int (nI i)] (pB D (tyz cI cJ cB) (aWi cI cJ cB ra rn (fun zz => nI (rf zz))))) (va_Qi (fun (r : Int32) (w : va_W) => r = nI (rf i) ∧ w = aWi cI cJ cB ra rn (fun zz => nI (rf zz))) (gB D (aWi cI cJ cB ra rn (fun zz => nI (rf zz)))) (aW (aWi cI cJ cB ra rn (fun zz => nI (rf zz))))) 0 0 (aW (aWi cI cJ cB ra rn (fun zz => nI (rf zz)))) := by
  refine Met.ofW (cc := cX7_at) (maxL := 2) (ret := (some .int)) (by decide) rfl ?_
  intro p e s m args below meth c s₁ B hml hv
  obtain ⟨rfl, hK, hN, hP, hD0⟩ := hv
  have hx := B.exec; have hb := B.bytes; have hr := B.returns; have hlocks := B.notSynchronized
  have hts0 := atoms_spec (ws := Cond.code yX7_at cX7_at 2 (some .int) :: lw_all) B.pre
  have hC : CallFix p m c cX7_at 2 s _ lw_all RX7 := ⟨hx, hb, hml, findClass_of_methodNamed B.named, fun w h => hts0 w (List.mem_cons_of_mem _ h)⟩
  have hD : va_D (aW (aWi cI cJ cB ra rn (fun zz => nI (rf zz)))) (aWi cI cJ cB ra rn (fun zz => nI (rf zz))) := ⟨hD0.1, fun k q h => ⟨k, q.2, h⟩⟩
  generalize hAe : aW (aWi cI cJ cB ra rn (fun zz => nI (rf zz))) = A at hD ⊢
  have hS : va_S A s.heap s.heap [] := va_S.rf
  have hl := lv_entry ([.ref ra, .int (nI i)]) (n := 2) (Nat.le_of_ble_eq_true rfl)
  rw [lg_entry_eq]
  generalize (lg_sl ([.ref ra, .int (nI i)]) ++ List.replicate (2 - (lg_sl ([.ref ra, .int (nI i)])).length) Slot.unset).toArray = ls at hl ⊢
  have hl : lv_has ls 2 [(0, .ref ra), (1, .int (nI i))] := hl
  generalize hav : ([.ref ra, .int (nI i)] : List Value).toArray = args at hC ⊢
  refine W_gen (fun QQ hQ => ?_)
  show W p l e (rmN 0) s m args below meth c s.heap [] 0 0 QQ (F0 m 0 ls [])
  refine lv_iload_n hx hb dX7_at_0 rfl (lv_at hl 1 rfl) ?_
  refine n_if_lt (tgt := 16) hx hb dX7_at_1 (by decide) (by omega) ?_
  refine lv_iload_n hx hb dX7_at_4 rfl (lv_at hl 1 rfl) ?_
  refine lv_aload_n hx hb dX7_at_5 rfl (lv_at hl 0 rfl) ?_
  refine va_alen hx hb hK hP 0 0 rfl rfl (v := nI rn) rfl dX7_at_6 ?_
  refine n_icmp_ge (a := i) (b := rn) (tgt := 16) hx hb dX7_at_7 (by decide) (by omega) (by omega) (fun c7 => ?_) (fun c7 => ?_)
  · have _ : True := trivial
    exact absurd c7 (by omega)
  · have _ : True := trivial
    refine lv_aload_n hx hb dX7_at_10 rfl (lv_at hl 0 rfl) ?_
    refine lv_iload_n hx hb dX7_at_11 rfl (lv_at hl 1 rfl) ?_
    refine n_iald hx hb hK hP 0 0 rfl rfl (by omega) (by first | decide | omega) dX7_at_12 ?_
    refine lv_goto (tgt := 17) hx hb dX7_at_13 (by decide) ?_
    rw [hQ]
    exact W.iret (v := nI (rf i)) hx hb hr (fun t9 ht hW => ⟨⟨_, _, rfl, ⟨rfl, rfl⟩, by rw [ht]; exact hP, rfl⟩, hS.F ht⟩) hS.2.2 dX7_at_17

set_option maxHeartbeats 400000 in
set_option maxRecDepth 100000 in
theorem c_X7_at_O (l : Launch) (D : va_G) (cI cJ cB : ClassId) (ra rn i : Nat) (rf : Nat → Option Nat) (hir : i < rn) (hrn : rn < 2 ^ 31) : Met l yX7_at (Cond.code yX7_at cX7_at 2 (some .int) :: lw_all) (rmN 0) (va_Pc [.ref ra, .int (nI i)] (pB D (tyz cI cJ cB) (aWi cI cJ cB ra rn (fun zz => oI (rf zz))))) (va_Qi (fun (r : Int32) (w : va_W) => r = oI (rf i) ∧ w = aWi cI cJ cB ra rn (fun zz => oI (rf zz))) (gB D (aWi cI cJ cB ra rn (fun zz => oI (rf zz)))) (aW (aWi cI cJ cB ra rn (fun zz => oI (rf zz))))) 0 0 (aW (aWi cI cJ cB ra rn (fun zz => oI (rf zz)))) := by
  refine Met.ofW (cc := cX7_at) (maxL := 2) (ret := (some .int)) (by decide) rfl ?_
  intro p e s m args below meth c s₁ B hml hv
  obtain ⟨rfl, hK, hN, hP, hD0⟩ := hv
  have hx := B.exec; have hb := B.bytes; have hr := B.returns; have hlocks := B.notSynchronized
  have hts0 := atoms_spec (ws := Cond.code yX7_at cX7_at 2 (some .int) :: lw_all) B.pre
  have hC : CallFix p m c cX7_at 2 s _ lw_all RX7 := ⟨hx, hb, hml, findClass_of_methodNamed B.named, fun w h => hts0 w (List.mem_cons_of_mem _ h)⟩
  have hD : va_D (aW (aWi cI cJ cB ra rn (fun zz => oI (rf zz)))) (aWi cI cJ cB ra rn (fun zz => oI (rf zz))) := ⟨hD0.1, fun k q h => ⟨k, q.2, h⟩⟩
  generalize hAe : aW (aWi cI cJ cB ra rn (fun zz => oI (rf zz))) = A at hD ⊢
  have hS : va_S A s.heap s.heap [] := va_S.rf
  have hl := lv_entry ([.ref ra, .int (nI i)]) (n := 2) (Nat.le_of_ble_eq_true rfl)
  rw [lg_entry_eq]
  generalize (lg_sl ([.ref ra, .int (nI i)]) ++ List.replicate (2 - (lg_sl ([.ref ra, .int (nI i)])).length) Slot.unset).toArray = ls at hl ⊢
  have hl : lv_has ls 2 [(0, .ref ra), (1, .int (nI i))] := hl
  generalize hav : ([.ref ra, .int (nI i)] : List Value).toArray = args at hC ⊢
  refine W_gen (fun QQ hQ => ?_)
  show W p l e (rmN 0) s m args below meth c s.heap [] 0 0 QQ (F0 m 0 ls [])
  refine lv_iload_n hx hb dX7_at_0 rfl (lv_at hl 1 rfl) ?_
  refine n_if_lt (tgt := 16) hx hb dX7_at_1 (by decide) (by omega) ?_
  refine lv_iload_n hx hb dX7_at_4 rfl (lv_at hl 1 rfl) ?_
  refine lv_aload_n hx hb dX7_at_5 rfl (lv_at hl 0 rfl) ?_
  refine va_alen hx hb hK hP 0 0 rfl rfl (v := nI rn) rfl dX7_at_6 ?_
  refine n_icmp_ge (a := i) (b := rn) (tgt := 16) hx hb dX7_at_7 (by decide) (by omega) (by omega) (fun c7 => ?_) (fun c7 => ?_)
  · have _ : True := trivial
    exact absurd c7 (by omega)
  · have _ : True := trivial
    refine lv_aload_n hx hb dX7_at_10 rfl (lv_at hl 0 rfl) ?_
    refine lv_iload_n hx hb dX7_at_11 rfl (lv_at hl 1 rfl) ?_
    refine n_iald hx hb hK hP 0 0 rfl rfl (by omega) (by first | decide | omega) dX7_at_12 ?_
    refine lv_goto (tgt := 17) hx hb dX7_at_13 (by decide) ?_
    rw [hQ]
    exact W.iret (v := oI (rf i)) hx hb hr (fun t9 ht hW => ⟨⟨_, _, rfl, ⟨rfl, rfl⟩, by rw [ht]; exact hP, rfl⟩, hS.F ht⟩) hS.2.2 dX7_at_17

set_option maxHeartbeats 400000 in
set_option maxRecDepth 100000 in
theorem c_X7_put_N (l : Launch) (D : va_G) (cI cJ cB : ClassId) (ra rn i : Nat) (rf : Nat → Nat) (v : Nat) (hir : i < rn) (hrn : rn < 2 ^ 31) : Met l yX7_put (Cond.code yX7_put cX7_put 3 none :: lw_all) (rmN 0) (va_Pc [.ref ra, .int (nI i), .int (nI v)] (pB D (tyz cI cJ cB) (aWi cI cJ cB ra rn (fun zz => nI (rf zz))))) (va_Qv (fun (w : va_W) => w = aWi cI cJ cB ra rn (fun zz => nI ((va_up rf i v) zz))) (gB D (aWi cI cJ cB ra rn (fun zz => nI (rf zz)))) (aW (aWi cI cJ cB ra rn (fun zz => nI (rf zz))))) 0 0 (aW (aWi cI cJ cB ra rn (fun zz => nI (rf zz)))) := by
  refine Met.ofW (cc := cX7_put) (maxL := 3) (ret := none) (by decide) rfl ?_
  intro p e s m args below meth c s₁ B hml hv
  obtain ⟨rfl, hK, hN, hP, hD0⟩ := hv
  have hx := B.exec; have hb := B.bytes; have hr := B.returns; have hlocks := B.notSynchronized
  have hts0 := atoms_spec (ws := Cond.code yX7_put cX7_put 3 none :: lw_all) B.pre
  have hC : CallFix p m c cX7_put 3 s _ lw_all RX7 := ⟨hx, hb, hml, findClass_of_methodNamed B.named, fun w h => hts0 w (List.mem_cons_of_mem _ h)⟩
  have hD : va_D (aW (aWi cI cJ cB ra rn (fun zz => nI (rf zz)))) (aWi cI cJ cB ra rn (fun zz => nI (rf zz))) := ⟨hD0.1, fun k q h => ⟨k, q.2, h⟩⟩
  generalize hAe : aW (aWi cI cJ cB ra rn (fun zz => nI (rf zz))) = A at hD ⊢
  have hS : va_S A s.heap s.heap [] := va_S.rf
  have hl := lv_entry ([.ref ra, .int (nI i), .int (nI v)]) (n := 3) (Nat.le_of_ble_eq_true rfl)
  rw [lg_entry_eq]
  generalize (lg_sl ([.ref ra, .int (nI i), .int (nI v)]) ++ List.replicate (3 - (lg_sl ([.ref ra, .int (nI i), .int (nI v)])).length) Slot.unset).toArray = ls at hl ⊢
  have hl : lv_has ls 3 [(0, .ref ra), (1, .int (nI i)), (2, .int (nI v))] := hl
  generalize hav : ([.ref ra, .int (nI i), .int (nI v)] : List Value).toArray = args at hC ⊢
  refine W_gen (fun QQ hQ => ?_)
  show W p l e (rmN 0) s m args below meth c s.heap [] 0 0 QQ (F0 m 0 ls [])
  refine lv_iload_n hx hb dX7_put_0 rfl (lv_at hl 1 rfl) ?_
  refine n_if_lt (tgt := 14) hx hb dX7_put_1 (by decide) (by omega) ?_
  refine lv_iload_n hx hb dX7_put_4 rfl (lv_at hl 1 rfl) ?_
  refine lv_aload_n hx hb dX7_put_5 rfl (lv_at hl 0 rfl) ?_
  refine va_alen hx hb hK hP 0 0 rfl rfl (v := nI rn) rfl dX7_put_6 ?_
  refine n_icmp_ge (a := i) (b := rn) (tgt := 14) hx hb dX7_put_7 (by decide) (by omega) (by omega) (fun c7 => ?_) (fun c7 => ?_)
  · have _ : True := trivial
    exact absurd c7 (by omega)
  · have _ : True := trivial
    refine lv_aload_n hx hb dX7_put_10 rfl (lv_at hl 0 rfl) ?_
    refine lv_iload_n hx hb dX7_put_11 rfl (lv_at hl 1 rfl) ?_
    refine lv_iload_n hx hb dX7_put_12 rfl (lv_at hl 2 rfl) ?_
    refine n_iast hx hb hK hP hD hS 0 0 rfl rfl (by omega) (by first | decide | omega) (up_nI _ _ _) (ws1 := aWi cI cJ cB ra rn (fun zz => nI ((va_up rf i v) zz))) rfl dX7_put_13 (fun H locs hP hD hS => ?_)
    rw [hQ]
    exact W.vret hx hb hr (fun t9 ht hW => ⟨⟨_, rfl, rfl, by rw [ht]; exact hP, rfl⟩, hS.F ht⟩) hS.2.2 dX7_put_14

set_option maxHeartbeats 400000 in
set_option maxRecDepth 100000 in
theorem c_X7_put_O (l : Launch) (D : va_G) (cI cJ cB : ClassId) (ra rn i : Nat) (rf : Nat → Option Nat) (v : Option Nat) (hir : i < rn) (hrn : rn < 2 ^ 31) : Met l yX7_put (Cond.code yX7_put cX7_put 3 none :: lw_all) (rmN 0) (va_Pc [.ref ra, .int (nI i), .int (oI v)] (pB D (tyz cI cJ cB) (aWi cI cJ cB ra rn (fun zz => oI (rf zz))))) (va_Qv (fun (w : va_W) => w = aWi cI cJ cB ra rn (fun zz => oI ((va_up rf i v) zz))) (gB D (aWi cI cJ cB ra rn (fun zz => oI (rf zz)))) (aW (aWi cI cJ cB ra rn (fun zz => oI (rf zz))))) 0 0 (aW (aWi cI cJ cB ra rn (fun zz => oI (rf zz)))) := by
  refine Met.ofW (cc := cX7_put) (maxL := 3) (ret := none) (by decide) rfl ?_
  intro p e s m args below meth c s₁ B hml hv
  obtain ⟨rfl, hK, hN, hP, hD0⟩ := hv
  have hx := B.exec; have hb := B.bytes; have hr := B.returns; have hlocks := B.notSynchronized
  have hts0 := atoms_spec (ws := Cond.code yX7_put cX7_put 3 none :: lw_all) B.pre
  have hC : CallFix p m c cX7_put 3 s _ lw_all RX7 := ⟨hx, hb, hml, findClass_of_methodNamed B.named, fun w h => hts0 w (List.mem_cons_of_mem _ h)⟩
  have hD : va_D (aW (aWi cI cJ cB ra rn (fun zz => oI (rf zz)))) (aWi cI cJ cB ra rn (fun zz => oI (rf zz))) := ⟨hD0.1, fun k q h => ⟨k, q.2, h⟩⟩
  generalize hAe : aW (aWi cI cJ cB ra rn (fun zz => oI (rf zz))) = A at hD ⊢
  have hS : va_S A s.heap s.heap [] := va_S.rf
  have hl := lv_entry ([.ref ra, .int (nI i), .int (oI v)]) (n := 3) (Nat.le_of_ble_eq_true rfl)
  rw [lg_entry_eq]
  generalize (lg_sl ([.ref ra, .int (nI i), .int (oI v)]) ++ List.replicate (3 - (lg_sl ([.ref ra, .int (nI i), .int (oI v)])).length) Slot.unset).toArray = ls at hl ⊢
  have hl : lv_has ls 3 [(0, .ref ra), (1, .int (nI i)), (2, .int (oI v))] := hl
  generalize hav : ([.ref ra, .int (nI i), .int (oI v)] : List Value).toArray = args at hC ⊢
  refine W_gen (fun QQ hQ => ?_)
  show W p l e (rmN 0) s m args below meth c s.heap [] 0 0 QQ (F0 m 0 ls [])
  refine lv_iload_n hx hb dX7_put_0 rfl (lv_at hl 1 rfl) ?_
  refine n_if_lt (tgt := 14) hx hb dX7_put_1 (by decide) (by omega) ?_
  refine lv_iload_n hx hb dX7_put_4 rfl (lv_at hl 1 rfl) ?_
  refine lv_aload_n hx hb dX7_put_5 rfl (lv_at hl 0 rfl) ?_
  refine va_alen hx hb hK hP 0 0 rfl rfl (v := nI rn) rfl dX7_put_6 ?_
  refine n_icmp_ge (a := i) (b := rn) (tgt := 14) hx hb dX7_put_7 (by decide) (by omega) (by omega) (fun c7 => ?_) (fun c7 => ?_)
  · have _ : True := trivial
    exact absurd c7 (by omega)
  · have _ : True := trivial
    refine lv_aload_n hx hb dX7_put_10 rfl (lv_at hl 0 rfl) ?_
    refine lv_iload_n hx hb dX7_put_11 rfl (lv_at hl 1 rfl) ?_
    refine lv_iload_n hx hb dX7_put_12 rfl (lv_at hl 2 rfl) ?_
    refine n_iast hx hb hK hP hD hS 0 0 rfl rfl (by omega) (by first | decide | omega) (up_oI _ _ _) (ws1 := aWi cI cJ cB ra rn (fun zz => oI ((va_up rf i v) zz))) rfl dX7_put_13 (fun H locs hP hD hS => ?_)
    rw [hQ]
    exact W.vret hx hb hr (fun t9 ht hW => ⟨⟨_, rfl, rfl, by rw [ht]; exact hP, rfl⟩, hS.F ht⟩) hS.2.2 dX7_put_14
