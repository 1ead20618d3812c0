abbrev aWi (cI cJ cB : ClassId) (ra : Nat) (rn : Nat) (rf : Nat → Int32) : va_W := [(ra, .inl (cI, rn, .inl rf))]

set_option maxHeartbeats 400000 in
set_option maxRecDepth 100000 in
theorem c_X7_keyShift (l : Launch) (D : va_G) (cI cJ cB : ClassId) (b : Nat) (hb7 : b < 7) : Met l yX7_keyShift (Cond.code yX7_keyShift cX7_keyShift 1 (some .int) :: lw_all) (rmN 0) (va_Pc [.int (nI b)] (pB D (tyz cI cJ cB) ([] : va_W))) (va_Qi (fun (r : Int32) (w : va_W) => r = nI (5 * (6 - b)) ∧ w = []) (gB D ([] : va_W)) (aW ([] : va_W))) 0 0 (aW ([] : va_W)) := by
  refine Met.ofW (cc := cX7_keyShift) (maxL := 1) (ret := (some .int)) (by decide) rfl ?_
  intro p e s m args below meth c s₁ B hml hv
  obtain ⟨rfl, hK, hN, hP, hD0⟩ := hv
  have hx := B.exec; have hb := B.bytes; have hr := B.returns; have hlocks := B.notSynchronized
  have hts0 := atoms_spec (ws := Cond.code yX7_keyShift cX7_keyShift 1 (some .int) :: lw_all) B.pre
  have hC : CallFix p m c cX7_keyShift 1 s _ lw_all RX7 := ⟨hx, hb, hml, findClass_of_methodNamed B.named, fun w h => hts0 w (List.mem_cons_of_mem _ h)⟩
  have hD : va_D (aW ([] : va_W)) ([] : va_W) := ⟨hD0.1, fun k q h => ⟨k, q.2, h⟩⟩
  generalize hAe : aW ([] : va_W) = A at hD ⊢
  have hS : va_S A s.heap s.heap [] := va_S.rf
  have hl := lv_entry ([.int (nI b)]) (n := 1) (Nat.le_of_ble_eq_true rfl)
  rw [lg_entry_eq]
  generalize (lg_sl ([.int (nI b)]) ++ List.replicate (1 - (lg_sl ([.int (nI b)])).length) Slot.unset).toArray = ls at hl ⊢
  have hl : lv_has ls 1 [(0, .int (nI b))] := hl
  generalize hav : ([.int (nI b)] : List Value).toArray = args at hC ⊢
  refine W_gen (fun QQ hQ => ?_)
  show W p l e (rmN 0) s m args below meth c s.heap [] 0 0 QQ (F0 m 0 ls [])
  refine lv_iconst (v := nI 5) hx hb dX7_keyShift_0 (by decide) ?_
  refine lv_bipush (v := nI 6) hx hb dX7_keyShift_1 (by decide) ?_
  refine lv_iload_n hx hb dX7_keyShift_3 rfl (lv_at hl 0 rfl) ?_
  refine n_isub hx hb dX7_keyShift_4 (by omega) ?_
  refine n_imul hx hb dX7_keyShift_5  ?_
  rw [hQ]
  exact W.iret (v := nI (5 * (6 - b))) hx hb hr (fun t9 ht hW => ⟨⟨_, _, rfl, ⟨rfl, rfl⟩, by rw [ht]; exact hP, rfl⟩, hS.F ht⟩) hS.2.2 dX7_keyShift_6

set_option maxHeartbeats 400000 in
set_option maxRecDepth 100000 in
theorem c_X7_placeIn (l : Launch) (D : va_G) (cI cJ cB : ClassId) (k b : Nat) (hk : k < 2 ^ 35) (hb7 : b < 7) : Met l yX7_placeIn (Cond.code yX7_placeIn cX7_placeIn 3 (some .int) :: lw_all) (rmN 0) (va_Pc [.long (lN k), .int (nI b)] (pB D (tyz cI cJ cB) ([] : va_W))) (va_Qi (fun (r : Int32) (w : va_W) => r = nI (plc k b) ∧ w = []) (gB D ([] : va_W)) (aW ([] : va_W))) 0 0 (aW ([] : va_W)) := by
  refine Met.ofW (cc := cX7_placeIn) (maxL := 3) (ret := (some .int)) (by decide) rfl ?_
  intro p e s m args below meth c s₁ B hml hv
  obtain ⟨rfl, hK, hN, hP, hD0⟩ := hv
  have hx := B.exec; have hb := B.bytes; have hr := B.returns; have hlocks := B.notSynchronized
  have hts0 := atoms_spec (ws := Cond.code yX7_placeIn cX7_placeIn 3 (some .int) :: lw_all) B.pre
  have hC : CallFix p m c cX7_placeIn 3 s _ lw_all RX7 := ⟨hx, hb, hml, findClass_of_methodNamed B.named, fun w h => hts0 w (List.mem_cons_of_mem _ h)⟩
  have hD : va_D (aW ([] : va_W)) ([] : va_W) := ⟨hD0.1, fun k q h => ⟨k, q.2, h⟩⟩
  generalize hAe : aW ([] : va_W) = A at hD ⊢
  have hS : va_S A s.heap s.heap [] := va_S.rf
  have hl := lv_entry ([.long (lN k), .int (nI b)]) (n := 3) (Nat.le_of_ble_eq_true rfl)
  rw [lg_entry_eq]
  generalize (lg_sl ([.long (lN k), .int (nI b)]) ++ List.replicate (3 - (lg_sl ([.long (lN k), .int (nI b)])).length) Slot.unset).toArray = ls at hl ⊢
  have hl : lv_has ls 3 [(0, .long (lN k)), (2, .int (nI b))] := hl
  generalize hav : ([.long (lN k), .int (nI b)] : List Value).toArray = args at hC ⊢
  refine W_gen (fun QQ hQ => ?_)
  show W p l e (rmN 0) s m args below meth c s.heap [] 0 0 QQ (F0 m 0 ls [])
  refine lv_lload_n hx hb dX7_placeIn_0 rfl (lv_at hl 0 rfl) ?_
  refine lv_iconst (v := nI 5) hx hb dX7_placeIn_1 (by decide) ?_
  refine lv_bipush (v := nI 6) hx hb dX7_placeIn_2 (by decide) ?_
  refine lv_iload_n hx hb dX7_placeIn_4 rfl (lv_at hl 1 rfl) ?_
  refine n_isub hx hb dX7_placeIn_5 (by omega) ?_
  refine n_imul hx hb dX7_placeIn_6  ?_
  refine n_lushr hx hb dX7_placeIn_7 (by omega) (by omega) ?_
  refine lv_l2i (v := nI (k / 2 ^ (5 * (6 - b)))) hx hb dX7_placeIn_8 (lN_i _) ?_
  refine lv_bipush (v := nI 31) hx hb dX7_placeIn_9 (by decide) ?_
  refine n_iand hx hb dX7_placeIn_11  ?_
  refine topi (y := nI (plc k b)) (by unfold plc; rw [nI_and31]) ?_
  rw [hQ]
  exact W.iret (v := nI (plc k b)) hx hb hr (fun t9 ht hW => ⟨⟨_, _, rfl, ⟨rfl, rfl⟩, by rw [ht]; exact hP, rfl⟩, hS.F ht⟩) hS.2.2 dX7_placeIn_12

set_option maxHeartbeats 400000 in
set_option maxRecDepth 100000 in
theorem c_X7_at_N (l : Launch) (D : va_G) (cI cJ cB : ClassId) (ra rn i : Nat) (rf : Nat → Nat) (hir : i < rn) (hrn : rn < 2 ^ 31) : Met l yX7_at (Cond.code yX7_at cX7_at 2 (some .int) :: lw_all) (rmN 0) (va_Pc [.ref ra, .int (nI i)] (pB D (tyz cI cJ cB) (aWi cI cJ cB ra rn (fun zz => nI (rf zz))))) (va_Qi (fun (r : Int32) (w : va_W) => r = nI (rf i) ∧ w = aWi cI cJ cB ra rn (fun zz => nI (rf zz))) (gB D (aWi cI cJ cB ra rn (fun zz => nI (rf zz)))) (aW (aWi cI cJ cB ra rn (fun zz => nI (rf zz))))) 0 0 (aW (aWi cI cJ cB ra rn (fun zz => nI (rf zz)))) := by
  refine Met.ofW (cc := cX7_at) (maxL := 2) (ret := (some .int)) (by decide) rfl ?_
  intro p e s m args below meth c s₁ B hml hv
  obtain ⟨rfl, hK, hN, hP, hD0⟩ := hv
  have hx := B.exec; have hb := B.bytes; have hr := B.returns; have hlocks := B.notSynchronized
  have hts0 := atoms_spec (ws := Cond.code yX7_at cX7_at 2 (some .int) :: lw_all) B.pre
  have hC : CallFix p m c cX7_at 2 s _ lw_all RX7 := ⟨hx, hb, hml, findClass_of_methodNamed B.named, fun w h => hts0 w (List.mem_cons_of_mem _ h)⟩
  have hD : va_D (aW (aWi cI cJ cB ra rn (fun zz => nI (rf zz)))) (aWi cI cJ cB ra rn (fun zz => nI (rf zz))) := ⟨hD0.1, fun k q h => ⟨k, q.2, h⟩⟩
  generalize hAe : aW (aWi cI cJ cB ra rn (fun zz => nI (rf zz))) = A at hD ⊢
  have hS : va_S A s.heap s.heap [] := va_S.rf
  have hl := lv_entry ([.ref ra, .int (nI i)]) (n := 2) (Nat.le_of_ble_eq_true rfl)
  rw [lg_entry_eq]
  generalize (lg_sl ([.ref ra, .int (nI i)]) ++ List.replicate (2 - (lg_sl ([.ref ra, .int (nI i)])).length) Slot.unset).toArray = ls at hl ⊢
  have hl : lv_has ls 2 [(0, .ref ra), (1, .int (nI i))] := hl
  generalize hav : ([.ref ra, .int (nI i)] : List Value).toArray = args at hC ⊢
  refine W_gen (fun QQ hQ => ?_)
  show W p l e (rmN 0) s m args below meth c s.heap [] 0 0 QQ (F0 m 0 ls [])
  refine lv_iload_n hx hb dX7_at_0 rfl (lv_at hl 1 rfl) ?_
  refine n_if_lt (tgt := 16) hx hb dX7_at_1 (by decide) (by omega) ?_
  refine lv_iload_n hx hb dX7_at_4 rfl (lv_at hl 1 rfl) ?_
  refine lv_aload_n hx hb dX7_at_5 rfl (lv_at hl 0 rfl) ?_
  refine va_alen hx hb hK hP 0 0 rfl rfl (v := nI rn) rfl dX7_at_6 ?_
  refine n_icmp_ge (a := i) (b := rn) (tgt := 16) hx hb dX7_at_7 (by decide) (by omega) (by omega) (fun c7 => ?_) (fun c7 => ?_)
  · have _ : True := trivial
    exact absurd c7 (by omega)
  · have _ : True := trivial
    refine lv_aload_n hx hb dX7_at_10 rfl (lv_at hl 0 rfl) ?_
    refine lv_iload_n hx hb dX7_at_11 rfl (lv_at hl 1 rfl) ?_
    refine n_iald hx hb hK hP 0 0 rfl rfl (by omega) (by first | decide | omega) dX7_at_12 ?_
    refine lv_goto (tgt := 17) hx hb dX7_at_13 (by decide) ?_
    rw [hQ]
    exact W.iret (v := nI (rf i)) hx hb hr (fun t9 ht hW => ⟨⟨_, _, rfl, ⟨rfl, rfl⟩, by rw [ht]; exact hP, rfl⟩, hS.F ht⟩) hS.2.2 dX7_at_17

set_option maxHeartbeats 400000 in
set_option maxRecDepth 100000 in
theorem c_X7_at_O (l : Launch) (D : va_G) (cI cJ cB : ClassId) (ra rn i : Nat) (rf : Nat → Option Nat) (hir : i < rn) (hrn : rn < 2 ^ 31) : Met l yX7_at (Cond.code yX7_at cX7_at 2 (some .int) :: lw_all) (rmN 0) (va_Pc [.ref ra, .int (nI i)] (pB D (tyz cI cJ cB) (aWi cI cJ cB ra rn (fun zz => oI (rf zz))))) (va_Qi (fun (r : Int32) (w : va_W) => r = oI (rf i) ∧ w = aWi cI cJ cB ra rn (fun zz => oI (rf zz))) (gB D (aWi cI cJ cB ra rn (fun zz => oI (rf zz)))) (aW (aWi cI cJ cB ra rn (fun zz => oI (rf zz))))) 0 0 (aW (aWi cI cJ cB ra rn (fun zz => oI (rf zz)))) := by
  refine Met.ofW (cc := cX7_at) (maxL := 2) (ret := (some .int)) (by decide) rfl ?_
  intro p e s m args below meth c s₁ B hml hv
  obtain ⟨rfl, hK, hN, hP, hD0⟩ := hv
  have hx := B.exec; have hb := B.bytes; have hr := B.returns; have hlocks := B.notSynchronized
  have hts0 := atoms_spec (ws := Cond.code yX7_at cX7_at 2 (some .int) :: lw_all) B.pre
  have hC : CallFix p m c cX7_at 2 s _ lw_all RX7 := ⟨hx, hb, hml, findClass_of_methodNamed B.named, fun w h => hts0 w (List.mem_cons_of_mem _ h)⟩
  have hD : va_D (aW (aWi cI cJ cB ra rn (fun zz => oI (rf zz)))) (aWi cI cJ cB ra rn (fun zz => oI (rf zz))) := ⟨hD0.1, fun k q h => ⟨k, q.2, h⟩⟩
  generalize hAe : aW (aWi cI cJ cB ra rn (fun zz => oI (rf zz))) = A at hD ⊢
  have hS : va_S A s.heap s.heap [] := va_S.rf
  have hl := lv_entry ([.ref ra, .int (nI i)]) (n := 2) (Nat.le_of_ble_eq_true rfl)
  rw [lg_entry_eq]
  generalize (lg_sl ([.ref ra, .int (nI i)]) ++ List.replicate (2 - (lg_sl ([.ref ra, .int (nI i)])).length) Slot.unset).toArray = ls at hl ⊢
  have hl : lv_has ls 2 [(0, .ref ra), (1, .int (nI i))] := hl
  generalize hav : ([.ref ra, .int (nI i)] : List Value).toArray = args at hC ⊢
  refine W_gen (fun QQ hQ => ?_)
  show W p l e (rmN 0) s m args below meth c s.heap [] 0 0 QQ (F0 m 0 ls [])
  refine lv_iload_n hx hb dX7_at_0 rfl (lv_at hl 1 rfl) ?_
  refine n_if_lt (tgt := 16) hx hb dX7_at_1 (by decide) (by omega) ?_
  refine lv_iload_n hx hb dX7_at_4 rfl (lv_at hl 1 rfl) ?_
  refine lv_aload_n hx hb dX7_at_5 rfl (lv_at hl 0 rfl) ?_
  refine va_alen hx hb hK hP 0 0 rfl rfl (v := nI rn) rfl dX7_at_6 ?_
  refine n_icmp_ge (a := i) (b := rn) (tgt := 16) hx hb dX7_at_7 (by decide) (by omega) (by omega) (fun c7 => ?_) (fun c7 => ?_)
  · have _ : True := trivial
    exact absurd c7 (by omega)
  · have _ : True := trivial
    refine lv_aload_n hx hb dX7_at_10 rfl (lv_at hl 0 rfl) ?_
    refine lv_iload_n hx hb dX7_at_11 rfl (lv_at hl 1 rfl) ?_
    refine n_iald hx hb hK hP 0 0 rfl rfl (by omega) (by first | decide | omega) dX7_at_12 ?_
    refine lv_goto (tgt := 17) hx hb dX7_at_13 (by decide) ?_
    rw [hQ]
    exact W.iret (v := oI (rf i)) hx hb hr (fun t9 ht hW => ⟨⟨_, _, rfl, ⟨rfl, rfl⟩, by rw [ht]; exact hP, rfl⟩, hS.F ht⟩) hS.2.2 dX7_at_17

set_option maxHeartbeats 400000 in
set_option maxRecDepth 100000 in
theorem c_X7_put_N (l : Launch) (D : va_G) (cI cJ cB : ClassId) (ra rn i : Nat) (rf : Nat → Nat) (v : Nat) (hir : i < rn) (hrn : rn < 2 ^ 31) : Met l yX7_put (Cond.code yX7_put cX7_put 3 none :: lw_all) (rmN 0) (va_Pc [.ref ra, .int (nI i), .int (nI v)] (pB D (tyz cI cJ cB) (aWi cI cJ cB ra rn (fun zz => nI (rf zz))))) (va_Qv (fun (w : va_W) => w = aWi cI cJ cB ra rn (fun zz => nI ((va_up rf i v) zz))) (gB D (aWi cI cJ cB ra rn (fun zz => nI (rf zz)))) (aW (aWi cI cJ cB ra rn (fun zz => nI (rf zz))))) 0 0 (aW (aWi cI cJ cB ra rn (fun zz => nI (rf zz)))) := by
  refine Met.ofW (cc := cX7_put) (maxL := 3) (ret := none) (by decide) rfl ?_
  intro p e s m args below meth c s₁ B hml hv
  obtain ⟨rfl, hK, hN, hP, hD0⟩ := hv
  have hx := B.exec; have hb := B.bytes; have hr := B.returns; have hlocks := B.notSynchronized
  have hts0 := atoms_spec (ws := Cond.code yX7_put cX7_put 3 none :: lw_all) B.pre
  have hC : CallFix p m c cX7_put 3 s _ lw_all RX7 := ⟨hx, hb, hml, findClass_of_methodNamed B.named, fun w h => hts0 w (List.mem_cons_of_mem _ h)⟩
  have hD : va_D (aW (aWi cI cJ cB ra rn (fun zz => nI (rf zz)))) (aWi cI cJ cB ra rn (fun zz => nI (rf zz))) := ⟨hD0.1, fun k q h => ⟨k, q.2, h⟩⟩
  generalize hAe : aW (aWi cI cJ cB ra rn (fun zz => nI (rf zz))) = A at hD ⊢
  have hS : va_S A s.heap s.heap [] := va_S.rf
  have hl := lv_entry ([.ref ra, .int (nI i), .int (nI v)]) (n := 3) (Nat.le_of_ble_eq_true rfl)
  rw [lg_entry_eq]
  generalize (lg_sl ([.ref ra, .int (nI i), .int (nI v)]) ++ List.replicate (3 - (lg_sl ([.ref ra, .int (nI i), .int (nI v)])).length) Slot.unset).toArray = ls at hl ⊢
  have hl : lv_has ls 3 [(0, .ref ra), (1, .int (nI i)), (2, .int (nI v))] := hl
  generalize hav : ([.ref ra, .int (nI i), .int (nI v)] : List Value).toArray = args at hC ⊢
  refine W_gen (fun QQ hQ => ?_)
  show W p l e (rmN 0) s m args below meth c s.heap [] 0 0 QQ (F0 m 0 ls [])
  refine lv_iload_n hx hb dX7_put_0 rfl (lv_at hl 1 rfl) ?_
  refine n_if_lt (tgt := 14) hx hb dX7_put_1 (by decide) (by omega) ?_
  refine lv_iload_n hx hb dX7_put_4 rfl (lv_at hl 1 rfl) ?_
  refine lv_aload_n hx hb dX7_put_5 rfl (lv_at hl 0 rfl) ?_
  refine va_alen hx hb hK hP 0 0 rfl rfl (v := nI rn) rfl dX7_put_6 ?_
  refine n_icmp_ge (a := i) (b := rn) (tgt := 14) hx hb dX7_put_7 (by decide) (by omega) (by omega) (fun c7 => ?_) (fun c7 => ?_)
  · have _ : True := trivial
    exact absurd c7 (by omega)
  · have _ : True := trivial
    refine lv_aload_n hx hb dX7_put_10 rfl (lv_at hl 0 rfl) ?_
    refine lv_iload_n hx hb dX7_put_11 rfl (lv_at hl 1 rfl) ?_
    refine lv_iload_n hx hb dX7_put_12 rfl (lv_at hl 2 rfl) ?_
    refine n_iast hx hb hK hP hD hS 0 0 rfl rfl (by omega) (by first | decide | omega) (up_nI _ _ _) (ws1 := aWi cI cJ cB ra rn (fun zz => nI ((va_up rf i v) zz))) rfl dX7_put_13 (fun H locs hP hD hS => ?_)
    rw [hQ]
    exact W.vret hx hb hr (fun t9 ht hW => ⟨⟨_, rfl, rfl, by rw [ht]; exact hP, rfl⟩, hS.F ht⟩) hS.2.2 dX7_put_14

set_option maxHeartbeats 400000 in
set_option maxRecDepth 100000 in
theorem c_X7_put_O (l : Launch) (D : va_G) (cI cJ cB : ClassId) (ra rn i : Nat) (rf : Nat → Option Nat) (v : Option Nat) (hir : i < rn) (hrn : rn < 2 ^ 31) : Met l yX7_put (Cond.code yX7_put cX7_put 3 none :: lw_all) (rmN 0) (va_Pc [.ref ra, .int (nI i), .int (oI v)] (pB D (tyz cI cJ cB) (aWi cI cJ cB ra rn (fun zz => oI (rf zz))))) (va_Qv (fun (w : va_W) => w = aWi cI cJ cB ra rn (fun zz => oI ((va_up rf i v) zz))) (gB D (aWi cI cJ cB ra rn (fun zz => oI (rf zz)))) (aW (aWi cI cJ cB ra rn (fun zz => oI (rf zz))))) 0 0 (aW (aWi cI cJ cB ra rn (fun zz => oI (rf zz)))) := by
  refine Met.ofW (cc := cX7_put) (maxL := 3) (ret := none) (by decide) rfl ?_
  intro p e s m args below meth c s₁ B hml hv
  obtain ⟨rfl, hK, hN, hP, hD0⟩ := hv
  have hx := B.exec; have hb := B.bytes; have hr := B.returns; have hlocks := B.notSynchronized
  have hts0 := atoms_spec (ws := Cond.code yX7_put cX7_put 3 none :: lw_all) B.pre
  have hC : CallFix p m c cX7_put 3 s _ lw_all RX7 := ⟨hx, hb, hml, findClass_of_methodNamed B.named, fun w h => hts0 w (List.mem_cons_of_mem _ h)⟩
  have hD : va_D (aW (aWi cI cJ cB ra rn (fun zz => oI (rf zz)))) (aWi cI cJ cB ra rn (fun zz => oI (rf zz))) := ⟨hD0.1, fun k q h => ⟨k, q.2, h⟩⟩
  generalize hAe : aW (aWi cI cJ cB ra rn (fun zz => oI (rf zz))) = A at hD ⊢
  have hS : va_S A s.heap s.heap [] := va_S.rf
  have hl := lv_entry ([.ref ra, .int (nI i), .int (oI v)]) (n := 3) (Nat.le_of_ble_eq_true rfl)
  rw [lg_entry_eq]
  generalize (lg_sl ([.ref ra, .int (nI i), .int (oI v)]) ++ List.replicate (3 - (lg_sl ([.ref ra, .int (nI i), .int (oI v)])).length) Slot.unset).toArray = ls at hl ⊢
  have hl : lv_has ls 3 [(0, .ref ra), (1, .int (nI i)), (2, .int (oI v))] := hl
  generalize hav : ([.ref ra, .int (nI i), .int (oI v)] : List Value).toArray = args at hC ⊢
  refine W_gen (fun QQ hQ => ?_)
  show W p l e (rmN 0) s m args below meth c s.heap [] 0 0 QQ (F0 m 0 ls [])
  refine lv_iload_n hx hb dX7_put_0 rfl (lv_at hl 1 rfl) ?_
  refine n_if_lt (tgt := 14) hx hb dX7_put_1 (by decide) (by omega) ?_
  refine lv_iload_n hx hb dX7_put_4 rfl (lv_at hl 1 rfl) ?_
  refine lv_aload_n hx hb dX7_put_5 rfl (lv_at hl 0 rfl) ?_
  refine va_alen hx hb hK hP 0 0 rfl rfl (v := nI rn) rfl dX7_put_6 ?_
  refine n_icmp_ge (a := i) (b := rn) (tgt := 14) hx hb dX7_put_7 (by decide) (by omega) (by omega) (fun c7 => ?_) (fun c7 => ?_)
  · have _ : True := trivial
    exact absurd c7 (by omega)
  · have _ : True := trivial
    refine lv_aload_n hx hb dX7_put_10 rfl (lv_at hl 0 rfl) ?_
    refine lv_iload_n hx hb dX7_put_11 rfl (lv_at hl 1 rfl) ?_
    refine lv_iload_n hx hb dX7_put_12 rfl (lv_at hl 2 rfl) ?_
    refine n_iast hx hb hK hP hD hS 0 0 rfl rfl (by omega) (by first | decide | omega) (up_oI _ _ _) (ws1 := aWi cI cJ cB ra rn (fun zz => oI ((va_up rf i v) zz))) rfl dX7_put_13 (fun H locs hP hD hS => ?_)
    rw [hQ]
    exact W.vret hx hb hr (fun t9 ht hW => ⟨⟨_, rfl, rfl, by rw [ht]; exact hP, rfl⟩, hS.F ht⟩) hS.2.2 dX7_put_14

set_option maxHeartbeats 400000 in
set_option maxRecDepth 100000 in
theorem c_X0_has (l : Launch) (D : va_G) (cI cJ cB : ClassId) (h hs hw hh hp se wd hd nb wl : Nat) (st sl : Int32) (gl aq lb : Option Nat) (sh bw bh ps : Nat → Nat) (x : Int32) (hn7 : nb ≤ 7) : Met l yX0_has (Cond.code yX0_has cX0_has 2 (some .boolean) :: lw_all) (rmN 0) (va_Pc [.ref h, .int x] (pB D (tyz cI cJ cB) (bW cI cJ cB h hs hw hh hp (nI se) (nI wd) (nI hd) (nI wl) (nI nb) (nI (topv wd)) (nI (rcv wd hd)) (nI (btv wd hd)) (nI (lcv wd hd)) (gI gl) (gI aq) st sl (gI lb) (fun zz => nI (sh zz)) (fun zz => nI (bw zz)) (fun zz => nI (bh zz)) (fun zz => nI (ps zz))))) (va_Qi (fun (r : Int32) (w : va_W) => r = bI ((bOf nb x).isSome) ∧ w = bW cI cJ cB h hs hw hh hp (nI se) (nI wd) (nI hd) (nI wl) (nI nb) (nI (topv wd)) (nI (rcv wd hd)) (nI (btv wd hd)) (nI (lcv wd hd)) (gI gl) (gI aq) st sl (gI lb) (fun zz => nI (sh zz)) (fun zz => nI (bw zz)) (fun zz => nI (bh zz)) (fun zz => nI (ps zz))) (gB D (bW cI cJ cB h hs hw hh hp (nI se) (nI wd) (nI hd) (nI wl) (nI nb) (nI (topv wd)) (nI (rcv wd hd)) (nI (btv wd hd)) (nI (lcv wd hd)) (gI gl) (gI aq) st sl (gI lb) (fun zz => nI (sh zz)) (fun zz => nI (bw zz)) (fun zz => nI (bh zz)) (fun zz => nI (ps zz)))) (aW (bW cI cJ cB h hs hw hh hp (nI se) (nI wd) (nI hd) (nI wl) (nI nb) (nI (topv wd)) (nI (rcv wd hd)) (nI (btv wd hd)) (nI (lcv wd hd)) (gI gl) (gI aq) st sl (gI lb) (fun zz => nI (sh zz)) (fun zz => nI (bw zz)) (fun zz => nI (bh zz)) (fun zz => nI (ps zz))))) 0 0 (aW (bW cI cJ cB h hs hw hh hp (nI se) (nI wd) (nI hd) (nI wl) (nI nb) (nI (topv wd)) (nI (rcv wd hd)) (nI (btv wd hd)) (nI (lcv wd hd)) (gI gl) (gI aq) st sl (gI lb) (fun zz => nI (sh zz)) (fun zz => nI (bw zz)) (fun zz => nI (bh zz)) (fun zz => nI (ps zz)))) := by
  refine Met.ofW (cc := cX0_has) (maxL := 2) (ret := (some .boolean)) (by decide) rfl ?_
  intro p e s m args below meth c s₁ B hml hv
  obtain ⟨rfl, hK, hN, hP, hD0⟩ := hv
  have hx := B.exec; have hb := B.bytes; have hr := B.returns; have hlocks := B.notSynchronized
  have hts0 := atoms_spec (ws := Cond.code yX0_has cX0_has 2 (some .boolean) :: lw_all) B.pre
  have hC : CallFix p m c cX0_has 2 s _ lw_all RX0 := ⟨hx, hb, hml, findClass_of_methodNamed B.named, fun w h => hts0 w (List.mem_cons_of_mem _ h)⟩
  have hD : va_D (aW (bW cI cJ cB h hs hw hh hp (nI se) (nI wd) (nI hd) (nI wl) (nI nb) (nI (topv wd)) (nI (rcv wd hd)) (nI (btv wd hd)) (nI (lcv wd hd)) (gI gl) (gI aq) st sl (gI lb) (fun zz => nI (sh zz)) (fun zz => nI (bw zz)) (fun zz => nI (bh zz)) (fun zz => nI (ps zz)))) (bW cI cJ cB h hs hw hh hp (nI se) (nI wd) (nI hd) (nI wl) (nI nb) (nI (topv wd)) (nI (rcv wd hd)) (nI (btv wd hd)) (nI (lcv wd hd)) (gI gl) (gI aq) st sl (gI lb) (fun zz => nI (sh zz)) (fun zz => nI (bw zz)) (fun zz => nI (bh zz)) (fun zz => nI (ps zz))) := ⟨hD0.1, fun k q h => ⟨k, q.2, h⟩⟩
  generalize hAe : aW (bW cI cJ cB h hs hw hh hp (nI se) (nI wd) (nI hd) (nI wl) (nI nb) (nI (topv wd)) (nI (rcv wd hd)) (nI (btv wd hd)) (nI (lcv wd hd)) (gI gl) (gI aq) st sl (gI lb) (fun zz => nI (sh zz)) (fun zz => nI (bw zz)) (fun zz => nI (bh zz)) (fun zz => nI (ps zz))) = A at hD ⊢
  have hS : va_S A s.heap s.heap [] := va_S.rf
  have hl := lv_entry ([.ref h, .int x]) (n := 2) (Nat.le_of_ble_eq_true rfl)
  rw [lg_entry_eq]
  generalize (lg_sl ([.ref h, .int x]) ++ List.replicate (2 - (lg_sl ([.ref h, .int x])).length) Slot.unset).toArray = ls at hl ⊢
  have hl : lv_has ls 2 [(0, .ref h), (1, .int x)] := hl
  generalize hav : ([.ref h, .int x] : List Value).toArray = args at hC ⊢
  refine W_gen (fun QQ hQ => ?_)
  show W p l e (rmN 0) s m args below meth c s.heap [] 0 0 QQ (F0 m 0 ls [])
  refine lv_iload_n hx hb dX0_has_0 rfl (lv_at hl 1 rfl) ?_
  refine lv_if_lt (tgt := 16) hx hb dX0_has_1 (by decide) (fun c1 => ?_) (fun c1 => ?_)
  · have _ : True := trivial
    refine lv_iconst (v := nI 0) hx hb dX0_has_16 (by decide) ?_
    rw [hQ]
    exact W.zret (v := nI 0) hx hb hr rfl (fun t9 ht hW => ⟨⟨_, _, rfl, ⟨(by rw [has_n (by omega) (Or.inl c1)]; rfl), rfl⟩, by rw [ht]; exact hP, rfl⟩, hS.F ht⟩) hS.2.2 dX0_has_17
  · have _ : True := trivial
    refine lv_iload_n hx hb dX0_has_4 rfl (lv_at hl 1 rfl) ?_
    refine lv_aload_n hx hb dX0_has_5 rfl (lv_at hl 0 rfl) ?_
    refine gf_X0_41 hC hK hP 0 rfl rfl dX0_has_6 ?_
    refine lv_icmp_ge (tgt := 16) hx hb dX0_has_9 (by decide) (fun c9 => ?_) (fun c9 => ?_)
    · have _ : True := trivial
      refine lv_iconst (v := nI 0) hx hb dX0_has_16 (by decide) ?_
      rw [hQ]
      exact W.zret (v := nI 0) hx hb hr rfl (fun t9 ht hW => ⟨⟨_, _, rfl, ⟨(by rw [has_n (by omega) (Or.inr c9)]; rfl), rfl⟩, by rw [ht]; exact hP, rfl⟩, hS.F ht⟩) hS.2.2 dX0_has_17
    · have _ : True := trivial
      refine lv_iconst (v := nI 1) hx hb dX0_has_12 (by decide) ?_
      refine lv_goto (tgt := 17) hx hb dX0_has_13 (by decide) ?_
      rw [hQ]
      exact W.zret (v := nI 1) hx hb hr rfl (fun t9 ht hW => ⟨⟨_, _, rfl, ⟨(by rw [has_y (by omega) c1 c9]; rfl), rfl⟩, by rw [ht]; exact hP, rfl⟩, hS.F ht⟩) hS.2.2 dX0_has_17

set_option maxHeartbeats 400000 in
set_option maxRecDepth 100000 in
theorem c_X0_hasCell (l : Launch) (D : va_G) (cI cJ cB : ClassId) (h hs hw hh hp se wd hd nb wl : Nat) (st sl : Int32) (gl aq lb : Option Nat) (sh bw bh ps : Nat → Nat) (x : Int32) (h24 : wd * hd ≤ 24) : Met l yX0_hasCell (Cond.code yX0_hasCell cX0_hasCell 2 (some .boolean) :: lw_all) (rmN 0) (va_Pc [.ref h, .int x] (pB D (tyz cI cJ cB) (bW cI cJ cB h hs hw hh hp (nI se) (nI wd) (nI hd) (nI wl) (nI nb) (nI (topv wd)) (nI (rcv wd hd)) (nI (btv wd hd)) (nI (lcv wd hd)) (gI gl) (gI aq) st sl (gI lb) (fun zz => nI (sh zz)) (fun zz => nI (bw zz)) (fun zz => nI (bh zz)) (fun zz => nI (ps zz))))) (va_Qi (fun (r : Int32) (w : va_W) => r = bI ((bOf (wd * hd) x).isSome) ∧ w = bW cI cJ cB h hs hw hh hp (nI se) (nI wd) (nI hd) (nI wl) (nI nb) (nI (topv wd)) (nI (rcv wd hd)) (nI (btv wd hd)) (nI (lcv wd hd)) (gI gl) (gI aq) st sl (gI lb) (fun zz => nI (sh zz)) (fun zz => nI (bw zz)) (fun zz => nI (bh zz)) (fun zz => nI (ps zz))) (gB D (bW cI cJ cB h hs hw hh hp (nI se) (nI wd) (nI hd) (nI wl) (nI nb) (nI (topv wd)) (nI (rcv wd hd)) (nI (btv wd hd)) (nI (lcv wd hd)) (gI gl) (gI aq) st sl (gI lb) (fun zz => nI (sh zz)) (fun zz => nI (bw zz)) (fun zz => nI (bh zz)) (fun zz => nI (ps zz)))) (aW (bW cI cJ cB h hs hw hh hp (nI se) (nI wd) (nI hd) (nI wl) (nI nb) (nI (topv wd)) (nI (rcv wd hd)) (nI (btv wd hd)) (nI (lcv wd hd)) (gI gl) (gI aq) st sl (gI lb) (fun zz => nI (sh zz)) (fun zz => nI (bw zz)) (fun zz => nI (bh zz)) (fun zz => nI (ps zz))))) 0 0 (aW (bW cI cJ cB h hs hw hh hp (nI se) (nI wd) (nI hd) (nI wl) (nI nb) (nI (topv wd)) (nI (rcv wd hd)) (nI (btv wd hd)) (nI (lcv wd hd)) (gI gl) (gI aq) st sl (gI lb) (fun zz => nI (sh zz)) (fun zz => nI (bw zz)) (fun zz => nI (bh zz)) (fun zz => nI (ps zz)))) := by
  refine Met.ofW (cc := cX0_hasCell) (maxL := 2) (ret := (some .boolean)) (by decide) rfl ?_
  intro p e s m args below meth c s₁ B hml hv
  obtain ⟨rfl, hK, hN, hP, hD0⟩ := hv
  have hx := B.exec; have hb := B.bytes; have hr := B.returns; have hlocks := B.notSynchronized
  have hts0 := atoms_spec (ws := Cond.code yX0_hasCell cX0_hasCell 2 (some .boolean) :: lw_all) B.pre
  have hC : CallFix p m c cX0_hasCell 2 s _ lw_all RX0 := ⟨hx, hb, hml, findClass_of_methodNamed B.named, fun w h => hts0 w (List.mem_cons_of_mem _ h)⟩
  have hD : va_D (aW (bW cI cJ cB h hs hw hh hp (nI se) (nI wd) (nI hd) (nI wl) (nI nb) (nI (topv wd)) (nI (rcv wd hd)) (nI (btv wd hd)) (nI (lcv wd hd)) (gI gl) (gI aq) st sl (gI lb) (fun zz => nI (sh zz)) (fun zz => nI (bw zz)) (fun zz => nI (bh zz)) (fun zz => nI (ps zz)))) (bW cI cJ cB h hs hw hh hp (nI se) (nI wd) (nI hd) (nI wl) (nI nb) (nI (topv wd)) (nI (rcv wd hd)) (nI (btv wd hd)) (nI (lcv wd hd)) (gI gl) (gI aq) st sl (gI lb) (fun zz => nI (sh zz)) (fun zz => nI (bw zz)) (fun zz => nI (bh zz)) (fun zz => nI (ps zz))) := ⟨hD0.1, fun k q h => ⟨k, q.2, h⟩⟩
  generalize hAe : aW (bW cI cJ cB h hs hw hh hp (nI se) (nI wd) (nI hd) (nI wl) (nI nb) (nI (topv wd)) (nI (rcv wd hd)) (nI (btv wd hd)) (nI (lcv wd hd)) (gI gl) (gI aq) st sl (gI lb) (fun zz => nI (sh zz)) (fun zz => nI (bw zz)) (fun zz => nI (bh zz)) (fun zz => nI (ps zz))) = A at hD ⊢
  have hS : va_S A s.heap s.heap [] := va_S.rf
  have hl := lv_entry ([.ref h, .int x]) (n := 2) (Nat.le_of_ble_eq_true rfl)
  rw [lg_entry_eq]
  generalize (lg_sl ([.ref h, .int x]) ++ List.replicate (2 - (lg_sl ([.ref h, .int x])).length) Slot.unset).toArray = ls at hl ⊢
  have hl : lv_has ls 2 [(0, .ref h), (1, .int x)] := hl
  generalize hav : ([.ref h, .int x] : List Value).toArray = args at hC ⊢
  refine W_gen (fun QQ hQ => ?_)
  show W p l e (rmN 0) s m args below meth c s.heap [] 0 0 QQ (F0 m 0 ls [])
  refine lv_iload_n hx hb dX0_hasCell_0 rfl (lv_at hl 1 rfl) ?_
  refine lv_if_lt (tgt := 21) hx hb dX0_hasCell_1 (by decide) (fun c1 => ?_) (fun c1 => ?_)
  · have _ : True := trivial
    refine lv_iconst (v := nI 0) hx hb dX0_hasCell_21 (by decide) ?_
    rw [hQ]
    exact W.zret (v := nI 0) hx hb hr rfl (fun t9 ht hW => ⟨⟨_, _, rfl, ⟨(by rw [has_n (by omega) (Or.inl c1)]; rfl), rfl⟩, by rw [ht]; exact hP, rfl⟩, hS.F ht⟩) hS.2.2 dX0_hasCell_22
  · have _ : True := trivial
    refine lv_iload_n hx hb dX0_hasCell_4 rfl (lv_at hl 1 rfl) ?_
    refine lv_aload_n hx hb dX0_hasCell_5 rfl (lv_at hl 0 rfl) ?_
    refine gf_X0_32 hC hK hP 0 rfl rfl dX0_hasCell_6 ?_
    refine lv_aload_n hx hb dX0_hasCell_9 rfl (lv_at hl 0 rfl) ?_
    refine gf_X0_35 hC hK hP 0 rfl rfl dX0_hasCell_10 ?_
    refine n_imul hx hb dX0_hasCell_13  ?_
    refine lv_icmp_ge (tgt := 21) hx hb dX0_hasCell_14 (by decide) (fun c14 => ?_) (fun c14 => ?_)
    · have _ : True := trivial
      refine lv_iconst (v := nI 0) hx hb dX0_hasCell_21 (by decide) ?_
      rw [hQ]
      exact W.zret (v := nI 0) hx hb hr rfl (fun t9 ht hW => ⟨⟨_, _, rfl, ⟨(by rw [has_n (by omega) (Or.inr c14)]; rfl), rfl⟩, by rw [ht]; exact hP, rfl⟩, hS.F ht⟩) hS.2.2 dX0_hasCell_22
    · have _ : True := trivial
      refine lv_iconst (v := nI 1) hx hb dX0_hasCell_17 (by decide) ?_
      refine lv_goto (tgt := 22) hx hb dX0_hasCell_18 (by decide) ?_
      rw [hQ]
      exact W.zret (v := nI 1) hx hb hr rfl (fun t9 ht hW => ⟨⟨_, _, rfl, ⟨(by rw [has_y (by omega) c1 c14]; rfl), rfl⟩, by rw [ht]; exact hP, rfl⟩, hS.F ht⟩) hS.2.2 dX0_hasCell_22

set_option maxHeartbeats 400000 in
set_option maxRecDepth 100000 in
theorem c_X0_cellsOf (l : Launch) (D : va_G) (cI cJ cB : ClassId) (h hs hw hh hp se wd hd nb wl : Nat) (st sl : Int32) (gl aq lb : Option Nat) (sh bw bh ps : Nat → Nat) (b : Nat) (hb7 : b < 7) (hpb : ps b < 32) : Met l yX0_cellsOf (Cond.code yX0_cellsOf cX0_cellsOf 2 (some .int) :: lw_all) (rmN 1) (va_Pc [.ref h, .int (nI b)] (pB D (tyz cI cJ cB) (bW cI cJ cB h hs hw hh hp (nI se) (nI wd) (nI hd) (nI wl) (nI nb) (nI (topv wd)) (nI (rcv wd hd)) (nI (btv wd hd)) (nI (lcv wd hd)) (gI gl) (gI aq) st sl (gI lb) (fun zz => nI (sh zz)) (fun zz => nI (bw zz)) (fun zz => nI (bh zz)) (fun zz => nI (ps zz))))) (va_Qi (fun (r : Int32) (w : va_W) => r = nI (sh b <<< ps b) ∧ w = bW cI cJ cB h hs hw hh hp (nI se) (nI wd) (nI hd) (nI wl) (nI nb) (nI (topv wd)) (nI (rcv wd hd)) (nI (btv wd hd)) (nI (lcv wd hd)) (gI gl) (gI aq) st sl (gI lb) (fun zz => nI (sh zz)) (fun zz => nI (bw zz)) (fun zz => nI (bh zz)) (fun zz => nI (ps zz))) (gB D (bW cI cJ cB h hs hw hh hp (nI se) (nI wd) (nI hd) (nI wl) (nI nb) (nI (topv wd)) (nI (rcv wd hd)) (nI (btv wd hd)) (nI (lcv wd hd)) (gI gl) (gI aq) st sl (gI lb) (fun zz => nI (sh zz)) (fun zz => nI (bw zz)) (fun zz => nI (bh zz)) (fun zz => nI (ps zz)))) (aW (bW cI cJ cB h hs hw hh hp (nI se) (nI wd) (nI hd) (nI wl) (nI nb) (nI (topv wd)) (nI (rcv wd hd)) (nI (btv wd hd)) (nI (lcv wd hd)) (gI gl) (gI aq) st sl (gI lb) (fun zz => nI (sh zz)) (fun zz => nI (bw zz)) (fun zz => nI (bh zz)) (fun zz => nI (ps zz))))) 0 0 (aW (bW cI cJ cB h hs hw hh hp (nI se) (nI wd) (nI hd) (nI wl) (nI nb) (nI (topv wd)) (nI (rcv wd hd)) (nI (btv wd hd)) (nI (lcv wd hd)) (gI gl) (gI aq) st sl (gI lb) (fun zz => nI (sh zz)) (fun zz => nI (bw zz)) (fun zz => nI (bh zz)) (fun zz => nI (ps zz)))) := by
  refine Met.ofW (cc := cX0_cellsOf) (maxL := 2) (ret := (some .int)) (by decide) rfl ?_
  intro p e s m args below meth c s₁ B hml hv
  obtain ⟨rfl, hK, hN, hP, hD0⟩ := hv
  have hx := B.exec; have hb := B.bytes; have hr := B.returns; have hlocks := B.notSynchronized
  have hts0 := atoms_spec (ws := Cond.code yX0_cellsOf cX0_cellsOf 2 (some .int) :: lw_all) B.pre
  have hC : CallFix p m c cX0_cellsOf 2 s _ lw_all RX0 := ⟨hx, hb, hml, findClass_of_methodNamed B.named, fun w h => hts0 w (List.mem_cons_of_mem _ h)⟩
  have hD : va_D (aW (bW cI cJ cB h hs hw hh hp (nI se) (nI wd) (nI hd) (nI wl) (nI nb) (nI (topv wd)) (nI (rcv wd hd)) (nI (btv wd hd)) (nI (lcv wd hd)) (gI gl) (gI aq) st sl (gI lb) (fun zz => nI (sh zz)) (fun zz => nI (bw zz)) (fun zz => nI (bh zz)) (fun zz => nI (ps zz)))) (bW cI cJ cB h hs hw hh hp (nI se) (nI wd) (nI hd) (nI wl) (nI nb) (nI (topv wd)) (nI (rcv wd hd)) (nI (btv wd hd)) (nI (lcv wd hd)) (gI gl) (gI aq) st sl (gI lb) (fun zz => nI (sh zz)) (fun zz => nI (bw zz)) (fun zz => nI (bh zz)) (fun zz => nI (ps zz))) := ⟨hD0.1, fun k q h => ⟨k, q.2, h⟩⟩
  generalize hAe : aW (bW cI cJ cB h hs hw hh hp (nI se) (nI wd) (nI hd) (nI wl) (nI nb) (nI (topv wd)) (nI (rcv wd hd)) (nI (btv wd hd)) (nI (lcv wd hd)) (gI gl) (gI aq) st sl (gI lb) (fun zz => nI (sh zz)) (fun zz => nI (bw zz)) (fun zz => nI (bh zz)) (fun zz => nI (ps zz))) = A at hD ⊢
  have hS : va_S A s.heap s.heap [] := va_S.rf
  have hl := lv_entry ([.ref h, .int (nI b)]) (n := 2) (Nat.le_of_ble_eq_true rfl)
  rw [lg_entry_eq]
  generalize (lg_sl ([.ref h, .int (nI b)]) ++ List.replicate (2 - (lg_sl ([.ref h, .int (nI b)])).length) Slot.unset).toArray = ls at hl ⊢
  have hl : lv_has ls 2 [(0, .ref h), (1, .int (nI b))] := hl
  generalize hav : ([.ref h, .int (nI b)] : List Value).toArray = args at hC ⊢
  refine W_gen (fun QQ hQ => ?_)
  show W p l e (rmN 1) s m args below meth c s.heap [] 0 0 QQ (F0 m 0 ls [])
  refine lv_aload_n hx hb dX0_cellsOf_0 rfl (lv_at hl 0 rfl) ?_
  refine gf_X0_15 hC hK hP 0 rfl rfl dX0_cellsOf_1 ?_
  refine lv_iload_n hx hb dX0_cellsOf_4 rfl (lv_at hl 1 rfl) ?_
  refine callN_i (As := [.ref hs, .int (nI b)]) (rest := []) [1] hC hK hN hP hD rfl (by decide) hS (c_X7_at_N l D cI cJ cB hs 7 b sh (by omega) (by omega)) q410 md_X7_at rfl hl.1 rfl (Nat.le_of_ble_eq_true rfl) dX0_cellsOf_5 ⟨Nat.le_of_ble_eq_true rfl, Nat.le_of_ble_eq_true rfl⟩ ⟨Nat.le_of_ble_eq_true rfl, Nat.le_of_ble_eq_true rfl⟩ (fun r_5 w H locs hpost hP hD hS => ?_)
  obtain ⟨rfl, rfl⟩ := hpost
  have hP : va_P D vwCl (bW cI cJ cB h hs hw hh hp (nI se) (nI wd) (nI hd) (nI wl) (nI nb) (nI (topv wd)) (nI (rcv wd hd)) (nI (btv wd hd)) (nI (lcv wd hd)) (gI gl) (gI aq) st sl (gI lb) (fun zz => nI (sh zz)) (fun zz => nI (bw zz)) (fun zz => nI (bh zz)) (fun zz => nI (ps zz))) H := hP
  have hD : va_D A (bW cI cJ cB h hs hw hh hp (nI se) (nI wd) (nI hd) (nI wl) (nI nb) (nI (topv wd)) (nI (rcv wd hd)) (nI (btv wd hd)) (nI (lcv wd hd)) (gI gl) (gI aq) st sl (gI lb) (fun zz => nI (sh zz)) (fun zz => nI (bw zz)) (fun zz => nI (bh zz)) (fun zz => nI (ps zz))) := hD
  refine lv_aload_n hx hb dX0_cellsOf_8 rfl (lv_at hl 0 rfl) ?_
  refine gf_X0_25 hC hK hP 0 rfl rfl dX0_cellsOf_9 ?_
  refine lv_iload_n hx hb dX0_cellsOf_12 rfl (lv_at hl 1 rfl) ?_
  refine callN_i (As := [.ref hp, .int (nI b)]) (rest := [.int (nI (sh b))]) [4] hC hK hN hP hD rfl (by decide) hS (c_X7_at_N l D cI cJ cB hp 7 b ps (by omega) (by omega)) q410 md_X7_at rfl hl.1 rfl (Nat.le_of_ble_eq_true rfl) dX0_cellsOf_13 ⟨Nat.le_of_ble_eq_true rfl, Nat.le_of_ble_eq_true rfl⟩ ⟨Nat.le_of_ble_eq_true rfl, Nat.le_of_ble_eq_true rfl⟩ (fun r_13 w H locs hpost hP hD hS => ?_)
  obtain ⟨rfl, rfl⟩ := hpost
  have hP : va_P D vwCl (bW cI cJ cB h hs hw hh hp (nI se) (nI wd) (nI hd) (nI wl) (nI nb) (nI (topv wd)) (nI (rcv wd hd)) (nI (btv wd hd)) (nI (lcv wd hd)) (gI gl) (gI aq) st sl (gI lb) (fun zz => nI (sh zz)) (fun zz => nI (bw zz)) (fun zz => nI (bh zz)) (fun zz => nI (ps zz))) H := hP
  have hD : va_D A (bW cI cJ cB h hs hw hh hp (nI se) (nI wd) (nI hd) (nI wl) (nI nb) (nI (topv wd)) (nI (rcv wd hd)) (nI (btv wd hd)) (nI (lcv wd hd)) (gI gl) (gI aq) st sl (gI lb) (fun zz => nI (sh zz)) (fun zz => nI (bw zz)) (fun zz => nI (bh zz)) (fun zz => nI (ps zz))) := hD
  refine n_ishl hx hb dX0_cellsOf_16 (by omega) ?_
  rw [hQ]
  exact W.iret (v := nI ((sh b) <<< (ps b))) hx hb hr (fun t9 ht hW => ⟨⟨_, _, rfl, ⟨rfl, rfl⟩, by rw [ht]; exact hP, rfl⟩, hS.F ht⟩) hS.2.2 dX0_cellsOf_17
