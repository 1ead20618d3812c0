abbrev tW (cI cJ cB : ClassId) (vo : Nat) (vsa : Nat) (vca : Nat) (vla : Nat) (vle : Int32) (vcc : Int32) (vlc : Int32) (vwi : Int32) (vro : Int32) (vco : Int32) (vS : Nat → Int32) (vC : Nat → Int32) (vL : Nat → Int32) : va_W := [(vo, .inr (6, [.ref vsa, .int vle, .ref vca, .int vcc, .ref vla, .int vlc, .int vwi, .int vro, .int vco])), (vsa, .inl (cI, 40, .inl vS)), (vca, .inl (cI, 24, .inl vC)), (vla, .inl (cI, 7, .inl vL))]
abbrev fW (cI cJ cB : ClassId) (vo : Nat) (vsa : Nat) (vca : Nat) (vla : Nat) (vle : Int32) (vcc : Int32) (vlc : Int32) (vwi : Int32) (vro : Int32) (vco : Int32) (vS : Nat → Int32) (vC : Nat → Int32) (vL : Nat → Int32) (h : Nat) (hs : Nat) (hw : Nat) (hh : Nat) (hp : Nat) (bse : Int32) (bwi : Int32) (bhe : Int32) (bwa : Int32) (bco : Int32) (btr : Int32) (brc : Int32) (bbr : Int32) (blc : Int32) (bgb : Int32) (bgp : Int32) (bst : Int32) (bsl : Int32) (bla : Int32) (bsh : Nat → Int32) (bwd : Nat → Int32) (bhg : Nat → Int32) (bsp : Nat → Int32) : va_W := [(vo, .inr (6, [.ref vsa, .int vle, .ref vca, .int vcc, .ref vla, .int vlc, .int vwi, .int vro, .int vco])), (vsa, .inl (cI, 40, .inl vS)), (vca, .inl (cI, 24, .inl vC)), (vla, .inl (cI, 7, .inl vL)), (h, .inr (0, [.int bse, .int bwi, .int bhe, .int bwa, .int bco, .int btr, .int brc, .int bbr, .int blc, .ref hs, .ref hw, .ref hh, .ref hp, .int bgb, .int bgp, .int bst, .int bsl, .int bla])), (hs, .inl (cI, 7, .inl bsh)), (hw, .inl (cI, 7, .inl bwd)), (hh, .inl (cI, 7, .inl bhg)), (hp, .inl (cI, 7, .inl bsp))]
set_option maxHeartbeats 400000 in
set_option maxRecDepth 100000 in
theorem c_X7_at_T (l : Launch) (D : va_G) (cI cJ cB : ClassId) (ra rn i : Nat) (rf : Nat → Nat) (hir : i < rn) (hrn : rn < 2 ^ 31) : Met l yX7_at (Cond.code yX7_at cX7_at 2 (some .int) :: lw_all) (rmN 0) (va_Pc [.ref ra, .int (nI i)] (pB D (tyz cI cJ cB) (aWi cI cJ cB ra rn (fun zz => tI (rf zz))))) (va_Qi (fun (r : Int32) (w : va_W) => r = tI (rf i) ∧ w = aWi cI cJ cB ra rn (fun zz => tI (rf zz))) (gB D (aWi cI cJ cB ra rn (fun zz => tI (rf zz)))) (aW (aWi cI cJ cB ra rn (fun zz => tI (rf zz))))) 0 0 (aW (aWi cI cJ cB ra rn (fun zz => tI (rf zz)))) := by
  refine Met.ofW (cc := cX7_at) (maxL := 2) (ret := (some .int)) (by decide) rfl ?_
  intro p e s m args below meth c s₁ B hml hv
  obtain ⟨rfl, hK, hN, hP, hD0⟩ := hv
  have hx := B.exec; have hb := B.bytes; have hr := B.returns; have hlocks := B.notSynchronized
  have hts0 := atoms_spec (ws := Cond.code yX7_at cX7_at 2 (some .int) :: lw_all) B.pre
  have hC : CallFix p m c cX7_at 2 s _ lw_all RX7 := ⟨hx, hb, hml, findClass_of_methodNamed B.named, fun w h => hts0 w (List.mem_cons_of_mem _ h)⟩
  have hD : va_D (aW (aWi cI cJ cB ra rn (fun zz => tI (rf zz)))) (aWi cI cJ cB ra rn (fun zz => tI (rf zz))) := ⟨hD0.1, fun k q h => ⟨k, q.2, h⟩⟩
  generalize hAe : aW (aWi cI cJ cB ra rn (fun zz => tI (rf zz))) = A at hD ⊢
  have hS : va_S A s.heap s.heap [] := va_S.rf
  have hl := lv_entry ([.ref ra, .int (nI i)]) (n := 2) (Nat.le_of_ble_eq_true rfl)
  rw [lg_entry_eq]
  generalize (lg_sl ([.ref ra, .int (nI i)]) ++ List.replicate (2 - (lg_sl ([.ref ra, .int (nI i)])).length) Slot.unset).toArray = ls at hl ⊢
  have hl : lv_has ls 2 [(0, .ref ra), (1, .int (nI i))] := hl
  generalize hav : ([.ref ra, .int (nI i)] : List Value).toArray = args at hC ⊢
  refine W_gen (fun QQ hQ => ?_)
  show W p l e (rmN 0) s m args below meth c s.heap [] 0 0 QQ (F0 m 0 ls [])
  refine lv_iload_n hx hb dX7_at_0 rfl (lv_at hl 1 rfl) ?_
  refine n_if_lt (tgt := 16) hx hb dX7_at_1 (by decide) (by omega) ?_
  refine lv_iload_n hx hb dX7_at_4 rfl (lv_at hl 1 rfl) ?_
  refine lv_aload_n hx hb dX7_at_5 rfl (lv_at hl 0 rfl) ?_
  refine va_alen hx hb hK hP 0 0 rfl rfl (v := nI rn) rfl dX7_at_6 ?_
  refine n_icmp_ge (a := i) (b := rn) (tgt := 16) hx hb dX7_at_7 (by decide) (by omega) (by omega) (fun c7 => ?_) (fun c7 => ?_)
  · have _ : True := trivial
    exact absurd c7 (by omega)
  · have _ : True := trivial
    refine lv_aload_n hx hb dX7_at_10 rfl (lv_at hl 0 rfl) ?_
    refine lv_iload_n hx hb dX7_at_11 rfl (lv_at hl 1 rfl) ?_
    refine n_iald hx hb hK hP 0 0 rfl rfl (by omega) (by first | decide | omega) dX7_at_12 ?_
    refine lv_goto (tgt := 17) hx hb dX7_at_13 (by decide) ?_
    rw [hQ]
    exact W.iret (v := tI (rf i)) hx hb hr (fun t9 ht hW => ⟨⟨_, _, rfl, ⟨rfl, rfl⟩, by rw [ht]; exact hP, rfl⟩, hS.F ht⟩) hS.2.2 dX7_at_17

set_option maxHeartbeats 400000 in
set_option maxRecDepth 100000 in
theorem c_X7_put_T (l : Launch) (D : va_G) (cI cJ cB : ClassId) (ra rn i : Nat) (rf : Nat → Nat) (v : Nat) (hir : i < rn) (hrn : rn < 2 ^ 31) : Met l yX7_put (Cond.code yX7_put cX7_put 3 none :: lw_all) (rmN 0) (va_Pc [.ref ra, .int (nI i), .int (tI v)] (pB D (tyz cI cJ cB) (aWi cI cJ cB ra rn (fun zz => tI (rf zz))))) (va_Qv (fun (w : va_W) => w = aWi cI cJ cB ra rn (fun zz => tI ((va_up rf i v) zz))) (gB D (aWi cI cJ cB ra rn (fun zz => tI (rf zz)))) (aW (aWi cI cJ cB ra rn (fun zz => tI (rf zz))))) 0 0 (aW (aWi cI cJ cB ra rn (fun zz => tI (rf zz)))) := by
  refine Met.ofW (cc := cX7_put) (maxL := 3) (ret := none) (by decide) rfl ?_
  intro p e s m args below meth c s₁ B hml hv
  obtain ⟨rfl, hK, hN, hP, hD0⟩ := hv
  have hx := B.exec; have hb := B.bytes; have hr := B.returns; have hlocks := B.notSynchronized
  have hts0 := atoms_spec (ws := Cond.code yX7_put cX7_put 3 none :: lw_all) B.pre
  have hC : CallFix p m c cX7_put 3 s _ lw_all RX7 := ⟨hx, hb, hml, findClass_of_methodNamed B.named, fun w h => hts0 w (List.mem_cons_of_mem _ h)⟩
  have hD : va_D (aW (aWi cI cJ cB ra rn (fun zz => tI (rf zz)))) (aWi cI cJ cB ra rn (fun zz => tI (rf zz))) := ⟨hD0.1, fun k q h => ⟨k, q.2, h⟩⟩
  generalize hAe : aW (aWi cI cJ cB ra rn (fun zz => tI (rf zz))) = A at hD ⊢
  have hS : va_S A s.heap s.heap [] := va_S.rf
  have hl := lv_entry ([.ref ra, .int (nI i), .int (tI v)]) (n := 3) (Nat.le_of_ble_eq_true rfl)
  rw [lg_entry_eq]
  generalize (lg_sl ([.ref ra, .int (nI i), .int (tI v)]) ++ List.replicate (3 - (lg_sl ([.ref ra, .int (nI i), .int (tI v)])).length) Slot.unset).toArray = ls at hl ⊢
  have hl : lv_has ls 3 [(0, .ref ra), (1, .int (nI i)), (2, .int (tI v))] := hl
  generalize hav : ([.ref ra, .int (nI i), .int (tI v)] : List Value).toArray = args at hC ⊢
  refine W_gen (fun QQ hQ => ?_)
  show W p l e (rmN 0) s m args below meth c s.heap [] 0 0 QQ (F0 m 0 ls [])
  refine lv_iload_n hx hb dX7_put_0 rfl (lv_at hl 1 rfl) ?_
  refine n_if_lt (tgt := 14) hx hb dX7_put_1 (by decide) (by omega) ?_
  refine lv_iload_n hx hb dX7_put_4 rfl (lv_at hl 1 rfl) ?_
  refine lv_aload_n hx hb dX7_put_5 rfl (lv_at hl 0 rfl) ?_
  refine va_alen hx hb hK hP 0 0 rfl rfl (v := nI rn) rfl dX7_put_6 ?_
  refine n_icmp_ge (a := i) (b := rn) (tgt := 14) hx hb dX7_put_7 (by decide) (by omega) (by omega) (fun c7 => ?_) (fun c7 => ?_)
  · have _ : True := trivial
    exact absurd c7 (by omega)
  · have _ : True := trivial
    refine lv_aload_n hx hb dX7_put_10 rfl (lv_at hl 0 rfl) ?_
    refine lv_iload_n hx hb dX7_put_11 rfl (lv_at hl 1 rfl) ?_
    refine lv_iload_n hx hb dX7_put_12 rfl (lv_at hl 2 rfl) ?_
    refine n_iast hx hb hK hP hD hS 0 0 rfl rfl (by omega) (by first | decide | omega) (up_tI _ _ _) (ws1 := aWi cI cJ cB ra rn (fun zz => tI ((va_up rf i v) zz))) rfl dX7_put_13 (fun H locs hP hD hS => ?_)
    rw [hQ]
    exact W.vret hx hb hr (fun t9 ht hW => ⟨⟨_, rfl, rfl, by rw [ht]; exact hP, rfl⟩, hS.F ht⟩) hS.2.2 dX7_put_14

set_option maxHeartbeats 400000 in
set_option maxRecDepth 100000 in
theorem c_X6_append (l : Launch) (D : va_G) (cI cJ cB : ClassId) (vo vsa vca vla ln all q vw ro row : Nat) (tx cl lt : Nat → Nat) (c9 : Nat) (hln : ln ≤ 40) : Met l yX6_append (Cond.code yX6_append cX6_append 2 (some .boolean) :: lw_all) (rmN 0) (va_Pc [.ref vo, .int (nI c9)] (pB D (tyz cI cJ cB) (tW cI cJ cB vo vsa vca vla (nI ln) (nI all) (nI q) (nI vw) (nI ro) (nI row) (fun zz => nI (tx zz)) (fun zz => tI (cl zz)) (fun zz => nI (lt zz))))) (va_Qi (fun (r : Int32) (w : va_W) => ∃ tx2 : Nat → Nat, ∃ ln2 : Nat, r = bI (decide (ln < 40)) ∧ w = tW cI cJ cB vo vsa vca vla (nI ln2) (nI all) (nI q) (nI vw) (nI ro) (nI row) (fun zz => nI (tx2 zz)) (fun zz => tI (cl zz)) (fun zz => nI (lt zz)) ∧ tx2 = (if ln = 40 then tx else va_up tx ln c9) ∧ ln2 = (if ln = 40 then ln else ln + 1)) (gB D (tW cI cJ cB vo vsa vca vla (nI ln) (nI all) (nI q) (nI vw) (nI ro) (nI row) (fun zz => nI (tx zz)) (fun zz => tI (cl zz)) (fun zz => nI (lt zz)))) (aW (tW cI cJ cB vo vsa vca vla (nI ln) (nI all) (nI q) (nI vw) (nI ro) (nI row) (fun zz => nI (tx zz)) (fun zz => tI (cl zz)) (fun zz => nI (lt zz))))) 0 0 (aW (tW cI cJ cB vo vsa vca vla (nI ln) (nI all) (nI q) (nI vw) (nI ro) (nI row) (fun zz => nI (tx zz)) (fun zz => tI (cl zz)) (fun zz => nI (lt zz)))) := by
  refine Met.ofW (cc := cX6_append) (maxL := 2) (ret := (some .boolean)) (by decide) rfl ?_
  intro p e s m args below meth c s₁ B hml hv
  obtain ⟨rfl, hK, hN, hP, hD0⟩ := hv
  have hx := B.exec; have hb := B.bytes; have hr := B.returns; have hlocks := B.notSynchronized
  have hts0 := atoms_spec (ws := Cond.code yX6_append cX6_append 2 (some .boolean) :: lw_all) B.pre
  have hC : CallFix p m c cX6_append 2 s _ lw_all RX6 := ⟨hx, hb, hml, findClass_of_methodNamed B.named, fun w h => hts0 w (List.mem_cons_of_mem _ h)⟩
  have hD : va_D (aW (tW cI cJ cB vo vsa vca vla (nI ln) (nI all) (nI q) (nI vw) (nI ro) (nI row) (fun zz => nI (tx zz)) (fun zz => tI (cl zz)) (fun zz => nI (lt zz)))) (tW cI cJ cB vo vsa vca vla (nI ln) (nI all) (nI q) (nI vw) (nI ro) (nI row) (fun zz => nI (tx zz)) (fun zz => tI (cl zz)) (fun zz => nI (lt zz))) := ⟨hD0.1, fun k q h => ⟨k, q.2, h⟩⟩
  generalize hAe : aW (tW cI cJ cB vo vsa vca vla (nI ln) (nI all) (nI q) (nI vw) (nI ro) (nI row) (fun zz => nI (tx zz)) (fun zz => tI (cl zz)) (fun zz => nI (lt zz))) = A at hD ⊢
  have hS : va_S A s.heap s.heap [] := va_S.rf
  have hl := lv_entry ([.ref vo, .int (nI c9)]) (n := 2) (Nat.le_of_ble_eq_true rfl)
  rw [lg_entry_eq]
  generalize (lg_sl ([.ref vo, .int (nI c9)]) ++ List.replicate (2 - (lg_sl ([.ref vo, .int (nI c9)])).length) Slot.unset).toArray = ls at hl ⊢
  have hl : lv_has ls 2 [(0, .ref vo), (1, .int (nI c9))] := hl
  generalize hav : ([.ref vo, .int (nI c9)] : List Value).toArray = args at hC ⊢
  refine W_gen (fun QQ hQ => ?_)
  show W p l e (rmN 0) s m args below meth c s.heap [] 0 0 QQ (F0 m 0 ls [])
  refine lv_aload_n hx hb dX6_append_0 rfl (lv_at hl 0 rfl) ?_
  refine gf_X6_15 hC hK hP 0 rfl rfl dX6_append_1 ?_
  refine n_if_lt (tgt := 19) hx hb dX6_append_4 (by decide) (by omega) ?_
  refine lv_aload_n hx hb dX6_append_7 rfl (lv_at hl 0 rfl) ?_
  refine gf_X6_15 hC hK hP 0 rfl rfl dX6_append_8 ?_
  refine lv_aload_n hx hb dX6_append_11 rfl (lv_at hl 0 rfl) ?_
  refine gf_X6_9 hC hK hP 0 rfl rfl dX6_append_12 ?_
  refine va_alen hx hb hK hP 1 0 rfl rfl (v := nI 40) rfl dX6_append_15 ?_
  refine n_icmp_lt (a := ln) (b := 40) (tgt := 21) hx hb dX6_append_16 (by decide) (by omega) (by omega) (fun c16 => ?_) (fun c16 => ?_)
  · have _ : True := trivial
    refine lv_aload_n hx hb dX6_append_21 rfl (lv_at hl 0 rfl) ?_
    refine gf_X6_9 hC hK hP 0 rfl rfl dX6_append_22 ?_
    refine lv_aload_n hx hb dX6_append_25 rfl (lv_at hl 0 rfl) ?_
    refine gf_X6_15 hC hK hP 0 rfl rfl dX6_append_26 ?_
    refine lv_iload_n hx hb dX6_append_29 rfl (lv_at hl 1 rfl) ?_
    refine n_iast hx hb hK hP hD hS 1 0 rfl rfl (by omega) (by first | decide | omega) (up_nI _ _ _) (ws1 := tW cI cJ cB vo vsa vca vla (nI ln) (nI all) (nI q) (nI vw) (nI ro) (nI row) (fun zz => nI ((va_up tx ln c9) zz)) (fun zz => tI (cl zz)) (fun zz => nI (lt zz))) rfl dX6_append_30 (fun H locs hP hD hS => ?_)
    refine lv_aload_n hx hb dX6_append_31 rfl (lv_at hl 0 rfl) ?_
    refine lv_dup hx hb dX6_append_32 rfl ?_
    refine gf_X6_15 hC hK hP 0 rfl rfl dX6_append_33 ?_
    refine lv_iconst (v := nI 1) hx hb dX6_append_36 (by decide) ?_
    refine n_iadd hx hb dX6_append_37  ?_
    refine pf_X6_15 hC hK hP hD hS 0 rfl (Nat.le_of_ble_eq_true rfl) (ws1 := tW cI cJ cB vo vsa vca vla (nI (ln + 1)) (nI all) (nI q) (nI vw) (nI ro) (nI row) (fun zz => nI ((va_up tx ln c9) zz)) (fun zz => tI (cl zz)) (fun zz => nI (lt zz))) rfl dX6_append_38 (fun H locs hP hD hS => ?_)
    refine lv_iconst (v := nI 1) hx hb dX6_append_41 (by decide) ?_
    rw [hQ]
    exact W.zret (v := nI 1) hx hb hr rfl (fun t9 ht hW => ⟨⟨_, _, rfl, ⟨va_up tx ln c9, ln + 1, (by rw [show decide (ln < 40) = true from decide_eq_true (by omega)]; rfl), rfl, (by rw [if_neg (by omega)]), (by rw [if_neg (by omega)])⟩, by rw [ht]; exact hP, rfl⟩, hS.F ht⟩) hS.2.2 dX6_append_42
  · have _ : True := trivial
    refine lv_iconst (v := nI 0) hx hb dX6_append_19 (by decide) ?_
    rw [hQ]
    exact W.zret (v := nI 0) hx hb hr rfl (fun t9 ht hW => ⟨⟨_, _, rfl, ⟨tx, ln, (by rw [show decide (ln < 40) = false from decide_eq_false (by omega)]; rfl), rfl, (by rw [if_pos (by omega)]), (by rw [if_pos (by omega)])⟩, by rw [ht]; exact hP, rfl⟩, hS.F ht⟩) hS.2.2 dX6_append_20

set_option maxHeartbeats 400000 in
set_option maxRecDepth 100000 in
theorem c_X6_startParse (l : Launch) (D : va_G) (cI cJ cB : ClassId) (vo vsa vca vla ln all q vw ro row : Nat) (tx cl lt : Nat → Nat)  : Met l yX6_startParse (Cond.code yX6_startParse cX6_startParse 1 none :: lw_all) (rmN 0) (va_Pc [.ref vo] (pB D (tyz cI cJ cB) (tW cI cJ cB vo vsa vca vla (nI ln) (nI all) (nI q) (nI vw) (nI ro) (nI row) (fun zz => nI (tx zz)) (fun zz => tI (cl zz)) (fun zz => nI (lt zz))))) (va_Qv (fun (w : va_W) => w = tW cI cJ cB vo vsa vca vla (nI ln) (nI 0) (nI 0) (nI 0) (nI 1) (nI 0) (fun zz => nI (tx zz)) (fun zz => tI (cl zz)) (fun zz => nI (lt zz))) (gB D (tW cI cJ cB vo vsa vca vla (nI ln) (nI all) (nI q) (nI vw) (nI ro) (nI row) (fun zz => nI (tx zz)) (fun zz => tI (cl zz)) (fun zz => nI (lt zz)))) (aW (tW cI cJ cB vo vsa vca vla (nI ln) (nI all) (nI q) (nI vw) (nI ro) (nI row) (fun zz => nI (tx zz)) (fun zz => tI (cl zz)) (fun zz => nI (lt zz))))) 0 0 (aW (tW cI cJ cB vo vsa vca vla (nI ln) (nI all) (nI q) (nI vw) (nI ro) (nI row) (fun zz => nI (tx zz)) (fun zz => tI (cl zz)) (fun zz => nI (lt zz)))) := by
  refine Met.ofW (cc := cX6_startParse) (maxL := 1) (ret := none) (by decide) rfl ?_
  intro p e s m args below meth c s₁ B hml hv
  obtain ⟨rfl, hK, hN, hP, hD0⟩ := hv
  have hx := B.exec; have hb := B.bytes; have hr := B.returns; have hlocks := B.notSynchronized
  have hts0 := atoms_spec (ws := Cond.code yX6_startParse cX6_startParse 1 none :: lw_all) B.pre
  have hC : CallFix p m c cX6_startParse 1 s _ lw_all RX6 := ⟨hx, hb, hml, findClass_of_methodNamed B.named, fun w h => hts0 w (List.mem_cons_of_mem _ h)⟩
  have hD : va_D (aW (tW cI cJ cB vo vsa vca vla (nI ln) (nI all) (nI q) (nI vw) (nI ro) (nI row) (fun zz => nI (tx zz)) (fun zz => tI (cl zz)) (fun zz => nI (lt zz)))) (tW cI cJ cB vo vsa vca vla (nI ln) (nI all) (nI q) (nI vw) (nI ro) (nI row) (fun zz => nI (tx zz)) (fun zz => tI (cl zz)) (fun zz => nI (lt zz))) := ⟨hD0.1, fun k q h => ⟨k, q.2, h⟩⟩
  generalize hAe : aW (tW cI cJ cB vo vsa vca vla (nI ln) (nI all) (nI q) (nI vw) (nI ro) (nI row) (fun zz => nI (tx zz)) (fun zz => tI (cl zz)) (fun zz => nI (lt zz))) = A at hD ⊢
  have hS : va_S A s.heap s.heap [] := va_S.rf
  have hl := lv_entry ([.ref vo]) (n := 1) (Nat.le_of_ble_eq_true rfl)
  rw [lg_entry_eq]
  generalize (lg_sl ([.ref vo]) ++ List.replicate (1 - (lg_sl ([.ref vo])).length) Slot.unset).toArray = ls at hl ⊢
  have hl : lv_has ls 1 [(0, .ref vo)] := hl
  generalize hav : ([.ref vo] : List Value).toArray = args at hC ⊢
  refine W_gen (fun QQ hQ => ?_)
  show W p l e (rmN 0) s m args below meth c s.heap [] 0 0 QQ (F0 m 0 ls [])
  refine lv_aload_n hx hb dX6_startParse_0 rfl (lv_at hl 0 rfl) ?_
  refine lv_iconst (v := nI 0) hx hb dX6_startParse_1 (by decide) ?_
  refine pf_X6_22 hC hK hP hD hS 0 rfl (Nat.le_of_ble_eq_true rfl) (ws1 := tW cI cJ cB vo vsa vca vla (nI ln) (nI 0) (nI q) (nI vw) (nI ro) (nI row) (fun zz => nI (tx zz)) (fun zz => tI (cl zz)) (fun zz => nI (lt zz))) rfl dX6_startParse_2 (fun H locs hP hD hS => ?_)
  refine lv_aload_n hx hb dX6_startParse_5 rfl (lv_at hl 0 rfl) ?_
  refine lv_iconst (v := nI 0) hx hb dX6_startParse_6 (by decide) ?_
  refine pf_X6_28 hC hK hP hD hS 0 rfl (Nat.le_of_ble_eq_true rfl) (ws1 := tW cI cJ cB vo vsa vca vla (nI ln) (nI 0) (nI 0) (nI vw) (nI ro) (nI row) (fun zz => nI (tx zz)) (fun zz => tI (cl zz)) (fun zz => nI (lt zz))) rfl dX6_startParse_7 (fun H locs hP hD hS => ?_)
  refine lv_aload_n hx hb dX6_startParse_10 rfl (lv_at hl 0 rfl) ?_
  refine lv_iconst (v := nI 0) hx hb dX6_startParse_11 (by decide) ?_
  refine pf_X6_31 hC hK hP hD hS 0 rfl (Nat.le_of_ble_eq_true rfl) (ws1 := tW cI cJ cB vo vsa vca vla (nI ln) (nI 0) (nI 0) (nI 0) (nI ro) (nI row) (fun zz => nI (tx zz)) (fun zz => tI (cl zz)) (fun zz => nI (lt zz))) rfl dX6_startParse_12 (fun H locs hP hD hS => ?_)
  refine lv_aload_n hx hb dX6_startParse_15 rfl (lv_at hl 0 rfl) ?_
  refine lv_iconst (v := nI 1) hx hb dX6_startParse_16 (by decide) ?_
  refine pf_X6_34 hC hK hP hD hS 0 rfl (Nat.le_of_ble_eq_true rfl) (ws1 := tW cI cJ cB vo vsa vca vla (nI ln) (nI 0) (nI 0) (nI 0) (nI 1) (nI row) (fun zz => nI (tx zz)) (fun zz => tI (cl zz)) (fun zz => nI (lt zz))) rfl dX6_startParse_17 (fun H locs hP hD hS => ?_)
  refine lv_aload_n hx hb dX6_startParse_20 rfl (lv_at hl 0 rfl) ?_
  refine lv_iconst (v := nI 0) hx hb dX6_startParse_21 (by decide) ?_
  refine pf_X6_37 hC hK hP hD hS 0 rfl (Nat.le_of_ble_eq_true rfl) (ws1 := tW cI cJ cB vo vsa vca vla (nI ln) (nI 0) (nI 0) (nI 0) (nI 1) (nI 0) (fun zz => nI (tx zz)) (fun zz => tI (cl zz)) (fun zz => nI (lt zz))) rfl dX6_startParse_22 (fun H locs hP hD hS => ?_)
  rw [hQ]
  exact W.vret hx hb hr (fun t9 ht hW => ⟨⟨_, rfl, rfl, by rw [ht]; exact hP, rfl⟩, hS.F ht⟩) hS.2.2 dX6_startParse_25

set_option maxHeartbeats 400000 in
set_option maxRecDepth 100000 in
theorem c_X6_isRowWhole (l : Launch) (D : va_G) (cI cJ cB : ClassId) (vo vsa vca vla ln all q vw ro row : Nat) (tx cl lt : Nat → Nat) (hr9 : row < 2 ^ 20) (hv9 : vw < 2 ^ 20) : Met l yX6_isRowWhole (Cond.code yX6_isRowWhole cX6_isRowWhole 1 (some .boolean) :: lw_all) (rmN 0) (va_Pc [.ref vo] (pB D (tyz cI cJ cB) (tW cI cJ cB vo vsa vca vla (nI ln) (nI all) (nI q) (nI vw) (nI ro) (nI row) (fun zz => nI (tx zz)) (fun zz => tI (cl zz)) (fun zz => nI (lt zz))))) (va_Qi (fun (r : Int32) (w : va_W) => r = bI (rwh row vw) ∧ w = tW cI cJ cB vo vsa vca vla (nI ln) (nI all) (nI q) (nI vw) (nI ro) (nI row) (fun zz => nI (tx zz)) (fun zz => tI (cl zz)) (fun zz => nI (lt zz))) (gB D (tW cI cJ cB vo vsa vca vla (nI ln) (nI all) (nI q) (nI vw) (nI ro) (nI row) (fun zz => nI (tx zz)) (fun zz => tI (cl zz)) (fun zz => nI (lt zz)))) (aW (tW cI cJ cB vo vsa vca vla (nI ln) (nI all) (nI q) (nI vw) (nI ro) (nI row) (fun zz => nI (tx zz)) (fun zz => tI (cl zz)) (fun zz => nI (lt zz))))) 0 0 (aW (tW cI cJ cB vo vsa vca vla (nI ln) (nI all) (nI q) (nI vw) (nI ro) (nI row) (fun zz => nI (tx zz)) (fun zz => tI (cl zz)) (fun zz => nI (lt zz)))) := by
  refine Met.ofW (cc := cX6_isRowWhole) (maxL := 1) (ret := (some .boolean)) (by decide) rfl ?_
  intro p e s m args below meth c s₁ B hml hv
  obtain ⟨rfl, hK, hN, hP, hD0⟩ := hv
  have hx := B.exec; have hb := B.bytes; have hr := B.returns; have hlocks := B.notSynchronized
  have hts0 := atoms_spec (ws := Cond.code yX6_isRowWhole cX6_isRowWhole 1 (some .boolean) :: lw_all) B.pre
  have hC : CallFix p m c cX6_isRowWhole 1 s _ lw_all RX6 := ⟨hx, hb, hml, findClass_of_methodNamed B.named, fun w h => hts0 w (List.mem_cons_of_mem _ h)⟩
  have hD : va_D (aW (tW cI cJ cB vo vsa vca vla (nI ln) (nI all) (nI q) (nI vw) (nI ro) (nI row) (fun zz => nI (tx zz)) (fun zz => tI (cl zz)) (fun zz => nI (lt zz)))) (tW cI cJ cB vo vsa vca vla (nI ln) (nI all) (nI q) (nI vw) (nI ro) (nI row) (fun zz => nI (tx zz)) (fun zz => tI (cl zz)) (fun zz => nI (lt zz))) := ⟨hD0.1, fun k q h => ⟨k, q.2, h⟩⟩
  generalize hAe : aW (tW cI cJ cB vo vsa vca vla (nI ln) (nI all) (nI q) (nI vw) (nI ro) (nI row) (fun zz => nI (tx zz)) (fun zz => tI (cl zz)) (fun zz => nI (lt zz))) = A at hD ⊢
  have hS : va_S A s.heap s.heap [] := va_S.rf
  have hl := lv_entry ([.ref vo]) (n := 1) (Nat.le_of_ble_eq_true rfl)
  rw [lg_entry_eq]
  generalize (lg_sl ([.ref vo]) ++ List.replicate (1 - (lg_sl ([.ref vo])).length) Slot.unset).toArray = ls at hl ⊢
  have hl : lv_has ls 1 [(0, .ref vo)] := hl
  generalize hav : ([.ref vo] : List Value).toArray = args at hC ⊢
  refine W_gen (fun QQ hQ => ?_)
  show W p l e (rmN 0) s m args below meth c s.heap [] 0 0 QQ (F0 m 0 ls [])
  refine lv_aload_n hx hb dX6_isRowWhole_0 rfl (lv_at hl 0 rfl) ?_
  refine gf_X6_37 hC hK hP 0 rfl rfl dX6_isRowWhole_1 ?_
  refine n_if_le (tgt := 22) hx hb dX6_isRowWhole_4 (by decide) (by omega) (fun c4 => ?_) (fun c4 => ?_)
  · have _ : True := trivial
    refine lv_iconst (v := nI 0) hx hb dX6_isRowWhole_22 (by decide) ?_
    refine topi (y := bI (rwh row vw)) (by rw [show rwh row vw = false by simp [rwh]; omega]; rfl) ?_
    rw [hQ]
    exact W.zret (v := bI (rwh row vw)) hx hb hr (bnar _) (fun t9 ht hW => ⟨⟨_, _, rfl, ⟨rfl, rfl⟩, by rw [ht]; exact hP, rfl⟩, hS.F ht⟩) hS.2.2 dX6_isRowWhole_23
  · have _ : True := trivial
    refine lv_aload_n hx hb dX6_isRowWhole_7 rfl (lv_at hl 0 rfl) ?_
    refine gf_X6_37 hC hK hP 0 rfl rfl dX6_isRowWhole_8 ?_
    refine lv_aload_n hx hb dX6_isRowWhole_11 rfl (lv_at hl 0 rfl) ?_
    refine gf_X6_31 hC hK hP 0 rfl rfl dX6_isRowWhole_12 ?_
    refine n_icmp_ne (a := row) (b := vw) (tgt := 22) hx hb dX6_isRowWhole_15 (by decide) (by omega) (by omega) (fun c15 => ?_) (fun c15 => ?_)
    · have _ : True := trivial
      refine lv_iconst (v := nI 0) hx hb dX6_isRowWhole_22 (by decide) ?_
      refine topi (y := bI (rwh row vw)) (by rw [show rwh row vw = false by simp [rwh]; omega]; rfl) ?_
      rw [hQ]
      exact W.zret (v := bI (rwh row vw)) hx hb hr (bnar _) (fun t9 ht hW => ⟨⟨_, _, rfl, ⟨rfl, rfl⟩, by rw [ht]; exact hP, rfl⟩, hS.F ht⟩) hS.2.2 dX6_isRowWhole_23
    · have _ : True := trivial
      refine lv_iconst (v := nI 1) hx hb dX6_isRowWhole_18 (by decide) ?_
      refine topi (y := bI (rwh row vw)) (by rw [show rwh row vw = true by simp [rwh]; omega]; rfl) ?_
      refine lv_goto (tgt := 23) hx hb dX6_isRowWhole_19 (by decide) ?_
      rw [hQ]
      exact W.zret (v := bI (rwh row vw)) hx hb hr (bnar _) (fun t9 ht hW => ⟨⟨_, _, rfl, ⟨rfl, rfl⟩, by rw [ht]; exact hP, rfl⟩, hS.F ht⟩) hS.2.2 dX6_isRowWhole_23

set_option maxHeartbeats 400000 in
set_option maxRecDepth 100000 in
theorem c_X6_endRow (l : Launch) (D : va_G) (cI cJ cB : ClassId) (vo vsa vca vla ln all q vw ro row : Nat) (tx cl lt : Nat → Nat) (hr9 : row < 2 ^ 20) (hv9 : vw < 2 ^ 20) (ho9 : ro < 2 ^ 20) : Met l yX6_endRow (Cond.code yX6_endRow cX6_endRow 1 (some .boolean) :: lw_all) (rmN 1) (va_Pc [.ref vo] (pB D (tyz cI cJ cB) (tW cI cJ cB vo vsa vca vla (nI ln) (nI all) (nI q) (nI vw) (nI ro) (nI row) (fun zz => nI (tx zz)) (fun zz => tI (cl zz)) (fun zz => nI (lt zz))))) (va_Qi (fun (r : Int32) (w : va_W) => ∃ z : Bool, ∃ ro2 : Nat, ∃ row2 : Nat, r = bI z ∧ w = tW cI cJ cB vo vsa vca vla (nI ln) (nI all) (nI q) (nI vw) (nI ro2) (nI row2) (fun zz => nI (tx zz)) (fun zz => tI (cl zz)) (fun zz => nI (lt zz)) ∧ ((z = false ∧ (rwh row vw = false ∨ 6 ≤ ro) ∧ ro2 = ro ∧ row2 = row) ∨ (z = true ∧ rwh row vw = true ∧ ro < 6 ∧ ro2 = ro + 1 ∧ row2 = 0))) (gB D (tW cI cJ cB vo vsa vca vla (nI ln) (nI all) (nI q) (nI vw) (nI ro) (nI row) (fun zz => nI (tx zz)) (fun zz => tI (cl zz)) (fun zz => nI (lt zz)))) (aW (tW cI cJ cB vo vsa vca vla (nI ln) (nI all) (nI q) (nI vw) (nI ro) (nI row) (fun zz => nI (tx zz)) (fun zz => tI (cl zz)) (fun zz => nI (lt zz))))) 0 0 (aW (tW cI cJ cB vo vsa vca vla (nI ln) (nI all) (nI q) (nI vw) (nI ro) (nI row) (fun zz => nI (tx zz)) (fun zz => tI (cl zz)) (fun zz => nI (lt zz)))) := by
  refine Met.ofW (cc := cX6_endRow) (maxL := 1) (ret := (some .boolean)) (by decide) rfl ?_
  intro p e s m args below meth c s₁ B hml hv
  obtain ⟨rfl, hK, hN, hP, hD0⟩ := hv
  have hx := B.exec; have hb := B.bytes; have hr := B.returns; have hlocks := B.notSynchronized
  have hts0 := atoms_spec (ws := Cond.code yX6_endRow cX6_endRow 1 (some .boolean) :: lw_all) B.pre
  have hC : CallFix p m c cX6_endRow 1 s _ lw_all RX6 := ⟨hx, hb, hml, findClass_of_methodNamed B.named, fun w h => hts0 w (List.mem_cons_of_mem _ h)⟩
  have hD : va_D (aW (tW cI cJ cB vo vsa vca vla (nI ln) (nI all) (nI q) (nI vw) (nI ro) (nI row) (fun zz => nI (tx zz)) (fun zz => tI (cl zz)) (fun zz => nI (lt zz)))) (tW cI cJ cB vo vsa vca vla (nI ln) (nI all) (nI q) (nI vw) (nI ro) (nI row) (fun zz => nI (tx zz)) (fun zz => tI (cl zz)) (fun zz => nI (lt zz))) := ⟨hD0.1, fun k q h => ⟨k, q.2, h⟩⟩
  generalize hAe : aW (tW cI cJ cB vo vsa vca vla (nI ln) (nI all) (nI q) (nI vw) (nI ro) (nI row) (fun zz => nI (tx zz)) (fun zz => tI (cl zz)) (fun zz => nI (lt zz))) = A at hD ⊢
  have hS : va_S A s.heap s.heap [] := va_S.rf
  have hl := lv_entry ([.ref vo]) (n := 1) (Nat.le_of_ble_eq_true rfl)
  rw [lg_entry_eq]
  generalize (lg_sl ([.ref vo]) ++ List.replicate (1 - (lg_sl ([.ref vo])).length) Slot.unset).toArray = ls at hl ⊢
  have hl : lv_has ls 1 [(0, .ref vo)] := hl
  generalize hav : ([.ref vo] : List Value).toArray = args at hC ⊢
  refine W_gen (fun QQ hQ => ?_)
  show W p l e (rmN 1) s m args below meth c s.heap [] 0 0 QQ (F0 m 0 ls [])
  refine lv_aload_n hx hb dX6_endRow_0 rfl (lv_at hl 0 rfl) ?_
  refine callV_i (As := []) (rest := []) [0, 1, 2, 3] hC hK hN hP hD rfl (by decide) hS 0 (ci := 6) rfl rfl rfl (c_X6_isRowWhole l D cI cJ cB vo vsa vca vla ln all q vw ro row tx cl lt (by omega) (by omega)) q319 md_X6_isRowWhole rfl hl.1 rfl (Nat.le_of_ble_eq_true rfl) dX6_endRow_1 ⟨Nat.le_of_ble_eq_true rfl, Nat.le_of_ble_eq_true rfl⟩ ⟨Nat.le_of_ble_eq_true rfl, Nat.le_of_ble_eq_true rfl⟩ (fun r_1 w H locs hpost hP hD hS => ?_)
  obtain ⟨rfl, rfl⟩ := hpost
  have hP : va_P D vwCl (tW cI cJ cB vo vsa vca vla (nI ln) (nI all) (nI q) (nI vw) (nI ro) (nI row) (fun zz => nI (tx zz)) (fun zz => tI (cl zz)) (fun zz => nI (lt zz))) H := hP
  have hD : va_D A (tW cI cJ cB vo vsa vca vla (nI ln) (nI all) (nI q) (nI vw) (nI ro) (nI row) (fun zz => nI (tx zz)) (fun zz => tI (cl zz)) (fun zz => nI (lt zz))) := hD
  refine b_if_eq (tgt := 16) hx hb dX6_endRow_4 (by decide) (fun c4 => ?_) (fun c4 => ?_)
  · have _ : True := trivial
    refine lv_iconst (v := nI 0) hx hb dX6_endRow_16 (by decide) ?_
    rw [hQ]
    exact W.zret (v := nI 0) hx hb hr rfl (fun t9 ht hW => ⟨⟨_, _, rfl, ⟨false, ro, row, rfl, rfl, (Or.inl ⟨rfl, Or.inl c4, rfl, rfl⟩)⟩, by rw [ht]; exact hP, rfl⟩, hS.F ht⟩) hS.2.2 dX6_endRow_17
  · have _ : True := trivial
    refine lv_aload_n hx hb dX6_endRow_7 rfl (lv_at hl 0 rfl) ?_
    refine gf_X6_34 hC hK hP 0 rfl rfl dX6_endRow_8 ?_
    refine lv_bipush (v := nI 6) hx hb dX6_endRow_11 (by decide) ?_
    refine n_icmp_lt (a := ro) (b := 6) (tgt := 18) hx hb dX6_endRow_13 (by decide) (by omega) (by omega) (fun c13 => ?_) (fun c13 => ?_)
    · have _ : True := trivial
      refine lv_aload_n hx hb dX6_endRow_18 rfl (lv_at hl 0 rfl) ?_
      refine lv_dup hx hb dX6_endRow_19 rfl ?_
      refine gf_X6_34 hC hK hP 0 rfl rfl dX6_endRow_20 ?_
      refine lv_iconst (v := nI 1) hx hb dX6_endRow_23 (by decide) ?_
      refine n_iadd hx hb dX6_endRow_24  ?_
      refine pf_X6_34 hC hK hP hD hS 0 rfl (Nat.le_of_ble_eq_true rfl) (ws1 := tW cI cJ cB vo vsa vca vla (nI ln) (nI all) (nI q) (nI vw) (nI (ro + 1)) (nI row) (fun zz => nI (tx zz)) (fun zz => tI (cl zz)) (fun zz => nI (lt zz))) rfl dX6_endRow_25 (fun H locs hP hD hS => ?_)
      refine lv_aload_n hx hb dX6_endRow_28 rfl (lv_at hl 0 rfl) ?_
      refine lv_iconst (v := nI 0) hx hb dX6_endRow_29 (by decide) ?_
      refine pf_X6_37 hC hK hP hD hS 0 rfl (Nat.le_of_ble_eq_true rfl) (ws1 := tW cI cJ cB vo vsa vca vla (nI ln) (nI all) (nI q) (nI vw) (nI (ro + 1)) (nI 0) (fun zz => nI (tx zz)) (fun zz => tI (cl zz)) (fun zz => nI (lt zz))) rfl dX6_endRow_30 (fun H locs hP hD hS => ?_)
      refine lv_iconst (v := nI 1) hx hb dX6_endRow_33 (by decide) ?_
      rw [hQ]
      exact W.zret (v := nI 1) hx hb hr rfl (fun t9 ht hW => ⟨⟨_, _, rfl, ⟨true, ro + 1, 0, rfl, rfl, (Or.inr ⟨rfl, c4, by omega, rfl, rfl⟩)⟩, by rw [ht]; exact hP, rfl⟩, hS.F ht⟩) hS.2.2 dX6_endRow_34
    · have _ : True := trivial
      refine lv_iconst (v := nI 0) hx hb dX6_endRow_16 (by decide) ?_
      rw [hQ]
      exact W.zret (v := nI 0) hx hb hr rfl (fun t9 ht hW => ⟨⟨_, _, rfl, ⟨false, ro, row, rfl, rfl, (Or.inl ⟨rfl, Or.inr (by omega), rfl, rfl⟩)⟩, by rw [ht]; exact hP, rfl⟩, hS.F ht⟩) hS.2.2 dX6_endRow_17

set_option maxHeartbeats 400000 in
set_option maxRecDepth 100000 in
theorem c_X6_contentOf (l : Launch) (D : va_G) (cI cJ cB : ClassId) (vo vsa vca vla ln all q vw ro row : Nat) (tx cl lt : Nat → Nat) (c9 : Nat) (hq7 : q ≤ 7) (hc9 : c9 < 2 ^ 20) (hlt : ∀ b, b < q → lt b < 2 ^ 20) : Met l yX6_contentOf (Cond.code yX6_contentOf cX6_contentOf 3 (some .int) :: lw_all) (rmN 1) (va_Pc [.ref vo, .int (nI c9)] (pB D (tyz cI cJ cB) (tW cI cJ cB vo vsa vca vla (nI ln) (nI all) (nI q) (nI vw) (nI ro) (nI row) (fun zz => nI (tx zz)) (fun zz => tI (cl zz)) (fun zz => nI (lt zz))))) (va_Qi (fun (r : Int32) (w : va_W) => r = cIv (ctn lt q c9) ∧ w = tW cI cJ cB vo vsa vca vla (nI ln) (nI all) (nI q) (nI vw) (nI ro) (nI row) (fun zz => nI (tx zz)) (fun zz => tI (cl zz)) (fun zz => nI (lt zz))) (gB D (tW cI cJ cB vo vsa vca vla (nI ln) (nI all) (nI q) (nI vw) (nI ro) (nI row) (fun zz => nI (tx zz)) (fun zz => tI (cl zz)) (fun zz => nI (lt zz)))) (aW (tW cI cJ cB vo vsa vca vla (nI ln) (nI all) (nI q) (nI vw) (nI ro) (nI row) (fun zz => nI (tx zz)) (fun zz => tI (cl zz)) (fun zz => nI (lt zz))))) 0 0 (aW (tW cI cJ cB vo vsa vca vla (nI ln) (nI all) (nI q) (nI vw) (nI ro) (nI row) (fun zz => nI (tx zz)) (fun zz => tI (cl zz)) (fun zz => nI (lt zz)))) := by
  refine Met.ofW (cc := cX6_contentOf) (maxL := 3) (ret := (some .int)) (by decide) rfl ?_
  intro p e s m args below meth c s₁ B hml hv
  obtain ⟨rfl, hK, hN, hP, hD0⟩ := hv
  have hx := B.exec; have hb := B.bytes; have hr := B.returns; have hlocks := B.notSynchronized
  have hts0 := atoms_spec (ws := Cond.code yX6_contentOf cX6_contentOf 3 (some .int) :: lw_all) B.pre
  have hC : CallFix p m c cX6_contentOf 3 s _ lw_all RX6 := ⟨hx, hb, hml, findClass_of_methodNamed B.named, fun w h => hts0 w (List.mem_cons_of_mem _ h)⟩
  have hD : va_D (aW (tW cI cJ cB vo vsa vca vla (nI ln) (nI all) (nI q) (nI vw) (nI ro) (nI row) (fun zz => nI (tx zz)) (fun zz => tI (cl zz)) (fun zz => nI (lt zz)))) (tW cI cJ cB vo vsa vca vla (nI ln) (nI all) (nI q) (nI vw) (nI ro) (nI row) (fun zz => nI (tx zz)) (fun zz => tI (cl zz)) (fun zz => nI (lt zz))) := ⟨hD0.1, fun k q h => ⟨k, q.2, h⟩⟩
  generalize hAe : aW (tW cI cJ cB vo vsa vca vla (nI ln) (nI all) (nI q) (nI vw) (nI ro) (nI row) (fun zz => nI (tx zz)) (fun zz => tI (cl zz)) (fun zz => nI (lt zz))) = A at hD ⊢
  have hS : va_S A s.heap s.heap [] := va_S.rf
  have hl := lv_entry ([.ref vo, .int (nI c9)]) (n := 3) (Nat.le_of_ble_eq_true rfl)
  rw [lg_entry_eq]
  generalize (lg_sl ([.ref vo, .int (nI c9)]) ++ List.replicate (3 - (lg_sl ([.ref vo, .int (nI c9)])).length) Slot.unset).toArray = ls at hl ⊢
  have hl : lv_has ls 3 [(0, .ref vo), (1, .int (nI c9))] := hl
  generalize hav : ([.ref vo, .int (nI c9)] : List Value).toArray = args at hC ⊢
  refine W_gen (fun QQ hQ => ?_)
  show W p l e (rmN 1) s m args below meth c s.heap [] 0 0 QQ (F0 m 0 ls [])
  refine lv_iload_n hx hb dX6_contentOf_0 rfl (lv_at hl 1 rfl) ?_
  refine lv_bipush (v := nI 46) hx hb dX6_contentOf_1 (by decide) ?_
  refine n_icmp_ne (a := c9) (b := 46) (tgt := 9) hx hb dX6_contentOf_3 (by decide) (by omega) (by omega) (fun c3 => ?_) (fun c3 => ?_)
  · have _ : True := trivial
    refine lv_iload_n hx hb dX6_contentOf_9 rfl (lv_at hl 1 rfl) ?_
    refine lv_bipush (v := nI 35) hx hb dX6_contentOf_10 (by decide) ?_
    refine n_icmp_ne (a := c9) (b := 35) (tgt := 18) hx hb dX6_contentOf_12 (by decide) (by omega) (by omega) (fun c12 => ?_) (fun c12 => ?_)
    · have _ : True := trivial
      refine lv_iload_n hx hb dX6_contentOf_18 rfl (lv_at hl 1 rfl) ?_
      refine lv_bipush (v := nI 97) hx hb dX6_contentOf_19 (by decide) ?_
      refine n_icmp_lt (a := c9) (b := 97) (tgt := 30) hx hb dX6_contentOf_21 (by decide) (by omega) (by omega) (fun c21 => ?_) (fun c21 => ?_)
      · have _ : True := trivial
        refine lv_iconst (v := (-1)) hx hb dX6_contentOf_30 (by decide) ?_
        rw [hQ]
        exact W.iret (v := (-1)) hx hb hr (fun t9 ht hW => ⟨⟨_, _, rfl, ⟨(by rw [ctn_no c3 c12 (by omega)]; rfl), rfl⟩, by rw [ht]; exact hP, rfl⟩, hS.F ht⟩) hS.2.2 dX6_contentOf_31
      · have _ : True := trivial
        refine lv_iload_n hx hb dX6_contentOf_24 rfl (lv_at hl 1 rfl) ?_
        refine lv_bipush (v := nI 122) hx hb dX6_contentOf_25 (by decide) ?_
        refine n_icmp_le (a := c9) (b := 122) (tgt := 32) hx hb dX6_contentOf_27 (by decide) (by omega) (by omega) (fun c27 => ?_) (fun c27 => ?_)
        · have _ : True := trivial
          refine lv_iconst (v := nI 0) hx hb dX6_contentOf_32 (by decide) ?_
          refine lv_istore_n (lv' := [(2, .int (nI 0)), (0, .ref vo), (1, .int (nI c9))]) hx hb dX6_contentOf_33 rfl hl (by decide) rfl (fun ls hl => ?_)
          have L34 : ∀ (n : Nat) (b : Nat), (b ≤ q) → (∀ j, j < b → lt j ≠ c9) → (q - b) < n → ∀ (H : Heap) (locs : List Loc), va_P D vwCl (tW cI cJ cB vo vsa vca vla (nI ln) (nI all) (nI q) (nI vw) (nI ro) (nI row) (fun zz => nI (tx zz)) (fun zz => tI (cl zz)) (fun zz => nI (lt zz))) H → va_D A (tW cI cJ cB vo vsa vca vla (nI ln) (nI all) (nI q) (nI vw) (nI ro) (nI row) (fun zz => nI (tx zz)) (fun zz => tI (cl zz)) (fun zz => nI (lt zz))) → va_S A s.heap H locs → ∀ ls : Array Slot, lv_has ls 3 [(2, .int (nI b)), (0, .ref vo), (1, .int (nI c9))] → W p l e (rmN 1) s m args below meth c H locs 0 0 QQ (F0 m 34 ls []) := by
            intro n; induction n with
            | zero => intro b ib i1 hm; exact absurd hm (Nat.not_lt_zero _)
            | succ n ih34 =>
              intro b ib i1 hm34 H locs hP hD hS ls hl
              refine lv_iload_n hx hb dX6_contentOf_34 rfl (lv_at hl 0 rfl) ?_
              refine lv_aload_n hx hb dX6_contentOf_35 rfl (lv_at hl 1 rfl) ?_
              refine gf_X6_28 hC hK hP 0 rfl rfl dX6_contentOf_36 ?_
              refine n_icmp_ge (a := b) (b := q) (tgt := 62) hx hb dX6_contentOf_39 (by decide) (by omega) (by omega) (fun c39 => ?_) (fun c39 => ?_)
              · have _ : True := trivial
                have e39 : b = q := by omega
                refine lv_aload_n hx hb dX6_contentOf_62 rfl (lv_at hl 1 rfl) ?_
                refine gf_X6_28 hC hK hP 0 rfl rfl dX6_contentOf_63 ?_
                refine lv_bipush (v := nI 7) hx hb dX6_contentOf_66 (by decide) ?_
                refine n_icmp_ge (a := q) (b := 7) (tgt := 78) hx hb dX6_contentOf_68 (by decide) (by omega) (by omega) (fun c68 => ?_) (fun c68 => ?_)
                · have _ : True := trivial
                  refine lv_iconst (v := (-1)) hx hb dX6_contentOf_78 (by decide) ?_
                  rw [hQ]
                  exact W.iret (v := (-1)) hx hb hr (fun t9 ht hW => ⟨⟨_, _, rfl, ⟨(by rw [ctn_l (by omega) (by omega), lk_eq (b := q) (Nat.le_refl q) (by rw [← e39]; exact i1) (fun h => absurd h (Nat.lt_irrefl _)), if_pos (by omega)]; rfl), rfl⟩, by rw [ht]; exact hP, rfl⟩, hS.F ht⟩) hS.2.2 dX6_contentOf_79
                · have _ : True := trivial
                  refine lv_aload_n hx hb dX6_contentOf_71 rfl (lv_at hl 1 rfl) ?_
                  refine gf_X6_28 hC hK hP 0 rfl rfl dX6_contentOf_72 ?_
                  refine lv_goto (tgt := 79) hx hb dX6_contentOf_75 (by decide) ?_
                  rw [hQ]
                  exact W.iret (v := nI q) hx hb hr (fun t9 ht hW => ⟨⟨_, _, rfl, ⟨(by rw [ctn_l (by omega) (by omega), lk_eq (b := q) (Nat.le_refl q) (by rw [← e39]; exact i1) (fun h => absurd h (Nat.lt_irrefl _)), if_neg (by omega)]; exact (tI_b q).symm), rfl⟩, by rw [ht]; exact hP, rfl⟩, hS.F ht⟩) hS.2.2 dX6_contentOf_79
              · have _ : True := trivial
                refine lv_aload_n hx hb dX6_contentOf_42 rfl (lv_at hl 1 rfl) ?_
                refine gf_X6_25 hC hK hP 0 rfl rfl dX6_contentOf_43 ?_
                refine lv_iload_n hx hb dX6_contentOf_46 rfl (lv_at hl 0 rfl) ?_
                refine callN_i (As := [.ref vla, .int (nI b)]) (rest := []) [3] hC hK hN hP hD rfl (by decide) hS (c_X7_at_N l D cI cJ cB vla 7 b lt (by omega) (by omega)) q331 md_X7_at rfl hl.1 rfl (Nat.le_of_ble_eq_true rfl) dX6_contentOf_47 ⟨Nat.le_of_ble_eq_true rfl, Nat.le_of_ble_eq_true rfl⟩ ⟨Nat.le_of_ble_eq_true rfl, Nat.le_of_ble_eq_true rfl⟩ (fun r_47 w H locs hpost hP hD hS => ?_)
                obtain ⟨rfl, rfl⟩ := hpost
                have hP : va_P D vwCl (tW cI cJ cB vo vsa vca vla (nI ln) (nI all) (nI q) (nI vw) (nI ro) (nI row) (fun zz => nI (tx zz)) (fun zz => tI (cl zz)) (fun zz => nI (lt zz))) H := hP
                have hD : va_D A (tW cI cJ cB vo vsa vca vla (nI ln) (nI all) (nI q) (nI vw) (nI ro) (nI row) (fun zz => nI (tx zz)) (fun zz => tI (cl zz)) (fun zz => nI (lt zz))) := hD
                refine lv_iload_n hx hb dX6_contentOf_50 rfl (lv_at hl 2 rfl) ?_
                refine n_icmp_ne (a := lt b) (b := c9) (tgt := 56) hx hb dX6_contentOf_51 (by decide) (by have := hlt b (by omega); omega) (by omega) (fun c51 => ?_) (fun c51 => ?_)
                · have _ : True := trivial
                  refine lv_iinc (v := nI (b + 1)) (lv' := [(2, .int (nI (b + 1))), (0, .ref vo), (1, .int (nI c9))]) hx hb dX6_contentOf_56 hl (k := 0) rfl (nI_1 _) (by decide) rfl (fun ls hl => ?_)
                  refine lv_goto (tgt := 34) hx hb dX6_contentOf_59 (by decide) ?_
                  exact ih34 (b + 1) (by omega) (lt_s i1 c51) (by omega) _ _ hP hD hS _ (lv_sub hl [0, 1, 2] rfl)
                · have _ : True := trivial
                  refine lv_iload_n hx hb dX6_contentOf_54 rfl (lv_at hl 0 rfl) ?_
                  rw [hQ]
                  exact W.iret (v := nI b) hx hb hr (fun t9 ht hW => ⟨⟨_, _, rfl, ⟨(by rw [ctn_l (by omega) (by omega), lk_eq (b := b) (by omega) i1 (fun _ => c51), if_neg (by omega)]; exact (tI_b b).symm), rfl⟩, by rw [ht]; exact hP, rfl⟩, hS.F ht⟩) hS.2.2 dX6_contentOf_55
          exact L34 _ 0 (by omega) (fun j h => absurd h (Nat.not_lt_zero j)) (Nat.lt_succ_self _) _ _ hP hD hS _ (lv_sub hl [0, 1, 2] rfl)
        · have _ : True := trivial
          refine lv_iconst (v := (-1)) hx hb dX6_contentOf_30 (by decide) ?_
          rw [hQ]
          exact W.iret (v := (-1)) hx hb hr (fun t9 ht hW => ⟨⟨_, _, rfl, ⟨(by rw [ctn_no c3 c12 (by omega)]; rfl), rfl⟩, by rw [ht]; exact hP, rfl⟩, hS.F ht⟩) hS.2.2 dX6_contentOf_31
    · have _ : True := trivial
      refine lv_bipush (v := (-10)) hx hb dX6_contentOf_15 (by decide) ?_
      rw [hQ]
      exact W.iret (v := (-10)) hx hb hr (fun t9 ht hW => ⟨⟨_, _, rfl, ⟨(by rw [c12]; rfl), rfl⟩, by rw [ht]; exact hP, rfl⟩, hS.F ht⟩) hS.2.2 dX6_contentOf_17
  · have _ : True := trivial
    refine lv_bipush (v := (-9)) hx hb dX6_contentOf_6 (by decide) ?_
    rw [hQ]
    exact W.iret (v := (-9)) hx hb hr (fun t9 ht hW => ⟨⟨_, _, rfl, ⟨(by rw [c3]; rfl), rfl⟩, by rw [ht]; exact hP, rfl⟩, hS.F ht⟩) hS.2.2 dX6_contentOf_8

set_option maxHeartbeats 400000 in
set_option maxRecDepth 100000 in
theorem c_X6_cellsWith (l : Launch) (D : va_G) (cI cJ cB : ClassId) (vo vsa vca vla ln all q vw ro row : Nat) (tx cl lt : Nat → Nat) (v : Nat) (hall : all ≤ 24) (hcl : ∀ i, i < all → cl i < 10) (hv : v < 10) : Met l yX6_cellsWith (Cond.code yX6_cellsWith cX6_cellsWith 4 (some .int) :: lw_all) (rmN 1) (va_Pc [.ref vo, .int (tI v)] (pB D (tyz cI cJ cB) (tW cI cJ cB vo vsa vca vla (nI ln) (nI all) (nI q) (nI vw) (nI ro) (nI row) (fun zz => nI (tx zz)) (fun zz => tI (cl zz)) (fun zz => nI (lt zz))))) (va_Qi (fun (r : Int32) (w : va_W) => r = nI (bset cl v all) ∧ w = tW cI cJ cB vo vsa vca vla (nI ln) (nI all) (nI q) (nI vw) (nI ro) (nI row) (fun zz => nI (tx zz)) (fun zz => tI (cl zz)) (fun zz => nI (lt zz))) (gB D (tW cI cJ cB vo vsa vca vla (nI ln) (nI all) (nI q) (nI vw) (nI ro) (nI row) (fun zz => nI (tx zz)) (fun zz => tI (cl zz)) (fun zz => nI (lt zz)))) (aW (tW cI cJ cB vo vsa vca vla (nI ln) (nI all) (nI q) (nI vw) (nI ro) (nI row) (fun zz => nI (tx zz)) (fun zz => tI (cl zz)) (fun zz => nI (lt zz))))) 0 0 (aW (tW cI cJ cB vo vsa vca vla (nI ln) (nI all) (nI q) (nI vw) (nI ro) (nI row) (fun zz => nI (tx zz)) (fun zz => tI (cl zz)) (fun zz => nI (lt zz)))) := by
  refine Met.ofW (cc := cX6_cellsWith) (maxL := 4) (ret := (some .int)) (by decide) rfl ?_
  intro p e s m args below meth c s₁ B hml hv
  obtain ⟨rfl, hK, hN, hP, hD0⟩ := hv
  have hx := B.exec; have hb := B.bytes; have hr := B.returns; have hlocks := B.notSynchronized
  have hts0 := atoms_spec (ws := Cond.code yX6_cellsWith cX6_cellsWith 4 (some .int) :: lw_all) B.pre
  have hC : CallFix p m c cX6_cellsWith 4 s _ lw_all RX6 := ⟨hx, hb, hml, findClass_of_methodNamed B.named, fun w h => hts0 w (List.mem_cons_of_mem _ h)⟩
  have hD : va_D (aW (tW cI cJ cB vo vsa vca vla (nI ln) (nI all) (nI q) (nI vw) (nI ro) (nI row) (fun zz => nI (tx zz)) (fun zz => tI (cl zz)) (fun zz => nI (lt zz)))) (tW cI cJ cB vo vsa vca vla (nI ln) (nI all) (nI q) (nI vw) (nI ro) (nI row) (fun zz => nI (tx zz)) (fun zz => tI (cl zz)) (fun zz => nI (lt zz))) := ⟨hD0.1, fun k q h => ⟨k, q.2, h⟩⟩
  generalize hAe : aW (tW cI cJ cB vo vsa vca vla (nI ln) (nI all) (nI q) (nI vw) (nI ro) (nI row) (fun zz => nI (tx zz)) (fun zz => tI (cl zz)) (fun zz => nI (lt zz))) = A at hD ⊢
  have hS : va_S A s.heap s.heap [] := va_S.rf
  have hl := lv_entry ([.ref vo, .int (tI v)]) (n := 4) (Nat.le_of_ble_eq_true rfl)
  rw [lg_entry_eq]
  generalize (lg_sl ([.ref vo, .int (tI v)]) ++ List.replicate (4 - (lg_sl ([.ref vo, .int (tI v)])).length) Slot.unset).toArray = ls at hl ⊢
  have hl : lv_has ls 4 [(0, .ref vo), (1, .int (tI v))] := hl
  generalize hav : ([.ref vo, .int (tI v)] : List Value).toArray = args at hC ⊢
  refine W_gen (fun QQ hQ => ?_)
  show W p l e (rmN 1) s m args below meth c s.heap [] 0 0 QQ (F0 m 0 ls [])
  refine lv_iconst (v := nI 0) hx hb dX6_cellsWith_0 (by decide) ?_
  refine topi (y := nI (bset cl v 0)) rfl ?_
  refine lv_istore_n (lv' := [(2, .int (nI (bset cl v 0))), (0, .ref vo), (1, .int (tI v))]) hx hb dX6_cellsWith_1 rfl hl (by decide) rfl (fun ls hl => ?_)
  refine lv_iconst (v := nI 0) hx hb dX6_cellsWith_2 (by decide) ?_
  refine lv_istore_n (lv' := [(3, .int (nI 0)), (2, .int (nI (bset cl v 0))), (0, .ref vo), (1, .int (tI v))]) hx hb dX6_cellsWith_3 rfl hl (by decide) rfl (fun ls hl => ?_)
  have L4 : ∀ (n : Nat) (i : Nat), (i ≤ all) → (all - i) < n → ∀ (H : Heap) (locs : List Loc), va_P D vwCl (tW cI cJ cB vo vsa vca vla (nI ln) (nI all) (nI q) (nI vw) (nI ro) (nI row) (fun zz => nI (tx zz)) (fun zz => tI (cl zz)) (fun zz => nI (lt zz))) H → va_D A (tW cI cJ cB vo vsa vca vla (nI ln) (nI all) (nI q) (nI vw) (nI ro) (nI row) (fun zz => nI (tx zz)) (fun zz => tI (cl zz)) (fun zz => nI (lt zz))) → va_S A s.heap H locs → ∀ ls : Array Slot, lv_has ls 4 [(2, .int (nI (bset cl v i))), (3, .int (nI i)), (0, .ref vo), (1, .int (tI v))] → W p l e (rmN 1) s m args below meth c H locs 0 0 QQ (F0 m 4 ls []) := by
    intro n; induction n with
    | zero => intro i ii hm; exact absurd hm (Nat.not_lt_zero _)
    | succ n ih4 =>
      intro i ii hm4 H locs hP hD hS ls hl
      refine lv_iload_n hx hb dX6_cellsWith_4 rfl (lv_at hl 1 rfl) ?_
      refine lv_aload_n hx hb dX6_cellsWith_5 rfl (lv_at hl 2 rfl) ?_
      refine gf_X6_22 hC hK hP 0 rfl rfl dX6_cellsWith_6 ?_
      refine n_icmp_ge (a := i) (b := all) (tgt := 36) hx hb dX6_cellsWith_9 (by decide) (by omega) (by omega) (fun c9 => ?_) (fun c9 => ?_)
      · have _ : True := trivial
        have e9 : i = all := by omega
        refine lv_iload_n hx hb dX6_cellsWith_36 rfl (lv_at hl 0 rfl) ?_
        rw [hQ]
        exact W.iret (v := nI (bset cl v i)) hx hb hr (fun t9 ht hW => ⟨⟨_, _, rfl, ⟨(by rw [e9]), rfl⟩, by rw [ht]; exact hP, rfl⟩, hS.F ht⟩) hS.2.2 dX6_cellsWith_37
      · have _ : True := trivial
        refine lv_aload_n hx hb dX6_cellsWith_12 rfl (lv_at hl 2 rfl) ?_
        refine gf_X6_19 hC hK hP 0 rfl rfl dX6_cellsWith_13 ?_
        refine lv_iload_n hx hb dX6_cellsWith_16 rfl (lv_at hl 1 rfl) ?_
        refine callN_i (As := [.ref vca, .int (nI i)]) (rest := []) [2] hC hK hN hP hD rfl (by decide) hS (c_X7_at_T l D cI cJ cB vca 24 i cl (by omega) (by omega)) q331 md_X7_at rfl hl.1 rfl (Nat.le_of_ble_eq_true rfl) dX6_cellsWith_17 ⟨Nat.le_of_ble_eq_true rfl, Nat.le_of_ble_eq_true rfl⟩ ⟨Nat.le_of_ble_eq_true rfl, Nat.le_of_ble_eq_true rfl⟩ (fun r_17 w H locs hpost hP hD hS => ?_)
        obtain ⟨rfl, rfl⟩ := hpost
        have hP : va_P D vwCl (tW cI cJ cB vo vsa vca vla (nI ln) (nI all) (nI q) (nI vw) (nI ro) (nI row) (fun zz => nI (tx zz)) (fun zz => tI (cl zz)) (fun zz => nI (lt zz))) H := hP
        have hD : va_D A (tW cI cJ cB vo vsa vca vla (nI ln) (nI all) (nI q) (nI vw) (nI ro) (nI row) (fun zz => nI (tx zz)) (fun zz => tI (cl zz)) (fun zz => nI (lt zz))) := hD
        refine lv_iload_n hx hb dX6_cellsWith_20 rfl (lv_at hl 3 rfl) ?_
        refine lv_icmp_ne (tgt := 30) hx hb dX6_cellsWith_21 (by decide) (fun c21 => ?_) (fun c21 => ?_)
        · have _ : True := trivial
          rw [bset_n (fun h => c21 ((tI_inj _ (hcl i (by omega)) _ hv).mpr h))] at hl
          refine lv_iinc (v := nI (i + 1)) (lv' := [(3, .int (nI (i + 1))), (2, .int (nI (bset cl v (i + 1)))), (0, .ref vo), (1, .int (tI v))]) hx hb dX6_cellsWith_30 hl (k := 1) rfl (nI_1 _) (by decide) rfl (fun ls hl => ?_)
          refine lv_goto (tgt := 4) hx hb dX6_cellsWith_33 (by decide) ?_
          exact ih4 (i + 1) (by omega) (by omega) _ _ hP hD hS _ (lv_sub hl [1, 0, 2, 3] rfl)
        · have _ : True := trivial
          refine lv_iload_n hx hb dX6_cellsWith_24 rfl (lv_at hl 0 rfl) ?_
          refine lv_iconst (v := nI 1) hx hb dX6_cellsWith_25 (by decide) ?_
          refine lv_iload_n hx hb dX6_cellsWith_26 rfl (lv_at hl 1 rfl) ?_
          refine n_ishl hx hb dX6_cellsWith_27 (by omega) ?_
          refine n_ior hx hb dX6_cellsWith_28  ?_
          refine topi (y := nI (bset cl v (i + 1))) (by rw [bset_y ((tI_inj _ (hcl i (by omega)) _ hv).mp c21)]) ?_
          refine lv_istore_n (lv' := [(2, .int (nI (bset cl v (i + 1)))), (3, .int (nI i)), (0, .ref vo), (1, .int (tI v))]) hx hb dX6_cellsWith_29 rfl hl (by decide) rfl (fun ls hl => ?_)
          refine lv_iinc (v := nI (i + 1)) (lv' := [(3, .int (nI (i + 1))), (2, .int (nI (bset cl v (i + 1)))), (0, .ref vo), (1, .int (tI v))]) hx hb dX6_cellsWith_30 hl (k := 1) rfl (nI_1 _) (by decide) rfl (fun ls hl => ?_)
          refine lv_goto (tgt := 4) hx hb dX6_cellsWith_33 (by decide) ?_
          exact ih4 (i + 1) (by omega) (by omega) _ _ hP hD hS _ (lv_sub hl [1, 0, 2, 3] rfl)
  exact L4 _ 0 (by omega) (Nat.lt_succ_self _) _ _ hP hD hS _ (lv_sub hl [1, 0, 2, 3] rfl)

set_option maxHeartbeats 400000 in
set_option maxRecDepth 100000 in
theorem c_X6_firstCell (l : Launch) (D : va_G) (cI cJ cB : ClassId) (vo vsa vca vla ln all q vw ro row : Nat) (tx cl lt : Nat → Nat) (b : Nat) (hall : all ≤ 24) (hcl : ∀ i, i < all → cl i < 10) (hb8 : b < 8) (hex : ∃ i, i < all ∧ cl i = 2 + b) : Met l yX6_firstCell (Cond.code yX6_firstCell cX6_firstCell 3 (some .int) :: lw_all) (rmN 1) (va_Pc [.ref vo, .int (nI b)] (pB D (tyz cI cJ cB) (tW cI cJ cB vo vsa vca vla (nI ln) (nI all) (nI q) (nI vw) (nI ro) (nI row) (fun zz => nI (tx zz)) (fun zz => tI (cl zz)) (fun zz => nI (lt zz))))) (va_Qi (fun (r : Int32) (w : va_W) => ∃ fc : Nat, r = nI fc ∧ w = tW cI cJ cB vo vsa vca vla (nI ln) (nI all) (nI q) (nI vw) (nI ro) (nI row) (fun zz => nI (tx zz)) (fun zz => tI (cl zz)) (fun zz => nI (lt zz)) ∧ fc < all ∧ firstc cl (2 + b) fc) (gB D (tW cI cJ cB vo vsa vca vla (nI ln) (nI all) (nI q) (nI vw) (nI ro) (nI row) (fun zz => nI (tx zz)) (fun zz => tI (cl zz)) (fun zz => nI (lt zz)))) (aW (tW cI cJ cB vo vsa vca vla (nI ln) (nI all) (nI q) (nI vw) (nI ro) (nI row) (fun zz => nI (tx zz)) (fun zz => tI (cl zz)) (fun zz => nI (lt zz))))) 0 0 (aW (tW cI cJ cB vo vsa vca vla (nI ln) (nI all) (nI q) (nI vw) (nI ro) (nI row) (fun zz => nI (tx zz)) (fun zz => tI (cl zz)) (fun zz => nI (lt zz)))) := by
  refine Met.ofW (cc := cX6_firstCell) (maxL := 3) (ret := (some .int)) (by decide) rfl ?_
  intro p e s m args below meth c s₁ B hml hv
  obtain ⟨rfl, hK, hN, hP, hD0⟩ := hv
  have hx := B.exec; have hb := B.bytes; have hr := B.returns; have hlocks := B.notSynchronized
  have hts0 := atoms_spec (ws := Cond.code yX6_firstCell cX6_firstCell 3 (some .int) :: lw_all) B.pre
  have hC : CallFix p m c cX6_firstCell 3 s _ lw_all RX6 := ⟨hx, hb, hml, findClass_of_methodNamed B.named, fun w h => hts0 w (List.mem_cons_of_mem _ h)⟩
  have hD : va_D (aW (tW cI cJ cB vo vsa vca vla (nI ln) (nI all) (nI q) (nI vw) (nI ro) (nI row) (fun zz => nI (tx zz)) (fun zz => tI (cl zz)) (fun zz => nI (lt zz)))) (tW cI cJ cB vo vsa vca vla (nI ln) (nI all) (nI q) (nI vw) (nI ro) (nI row) (fun zz => nI (tx zz)) (fun zz => tI (cl zz)) (fun zz => nI (lt zz))) := ⟨hD0.1, fun k q h => ⟨k, q.2, h⟩⟩
  generalize hAe : aW (tW cI cJ cB vo vsa vca vla (nI ln) (nI all) (nI q) (nI vw) (nI ro) (nI row) (fun zz => nI (tx zz)) (fun zz => tI (cl zz)) (fun zz => nI (lt zz))) = A at hD ⊢
  have hS : va_S A s.heap s.heap [] := va_S.rf
  have hl := lv_entry ([.ref vo, .int (nI b)]) (n := 3) (Nat.le_of_ble_eq_true rfl)
  rw [lg_entry_eq]
  generalize (lg_sl ([.ref vo, .int (nI b)]) ++ List.replicate (3 - (lg_sl ([.ref vo, .int (nI b)])).length) Slot.unset).toArray = ls at hl ⊢
  have hl : lv_has ls 3 [(0, .ref vo), (1, .int (nI b))] := hl
  generalize hav : ([.ref vo, .int (nI b)] : List Value).toArray = args at hC ⊢
  refine W_gen (fun QQ hQ => ?_)
  show W p l e (rmN 1) s m args below meth c s.heap [] 0 0 QQ (F0 m 0 ls [])
  refine lv_iconst (v := nI 0) hx hb dX6_firstCell_0 (by decide) ?_
  refine lv_istore_n (lv' := [(2, .int (nI 0)), (0, .ref vo), (1, .int (nI b))]) hx hb dX6_firstCell_1 rfl hl (by decide) rfl (fun ls hl => ?_)
  have L2 : ∀ (n : Nat) (i : Nat), (i ≤ all) → (∀ j, j < i → cl j ≠ 2 + b) → (all - i) < n → ∀ (H : Heap) (locs : List Loc), va_P D vwCl (tW cI cJ cB vo vsa vca vla (nI ln) (nI all) (nI q) (nI vw) (nI ro) (nI row) (fun zz => nI (tx zz)) (fun zz => tI (cl zz)) (fun zz => nI (lt zz))) H → va_D A (tW cI cJ cB vo vsa vca vla (nI ln) (nI all) (nI q) (nI vw) (nI ro) (nI row) (fun zz => nI (tx zz)) (fun zz => tI (cl zz)) (fun zz => nI (lt zz))) → va_S A s.heap H locs → ∀ ls : Array Slot, lv_has ls 3 [(2, .int (nI i)), (0, .ref vo), (1, .int (nI b))] → W p l e (rmN 1) s m args below meth c H locs 0 0 QQ (F0 m 2 ls []) := by
    intro n; induction n with
    | zero => intro i ii i1 hm; exact absurd hm (Nat.not_lt_zero _)
    | succ n ih2 =>
      intro i ii i1 hm2 H locs hP hD hS ls hl
      refine lv_iload_n hx hb dX6_firstCell_2 rfl (lv_at hl 0 rfl) ?_
      refine lv_aload_n hx hb dX6_firstCell_3 rfl (lv_at hl 1 rfl) ?_
      refine gf_X6_22 hC hK hP 0 rfl rfl dX6_firstCell_4 ?_
      refine n_icmp_ge (a := i) (b := all) (tgt := 30) hx hb dX6_firstCell_7 (by decide) (by omega) (by omega) (fun c7 => ?_) (fun c7 => ?_)
      · have _ : True := trivial
        obtain ⟨i9, h1, h2⟩ := hex; exact absurd h2 (i1 i9 (by omega))
      · have _ : True := trivial
        refine lv_aload_n hx hb dX6_firstCell_10 rfl (lv_at hl 1 rfl) ?_
        refine gf_X6_19 hC hK hP 0 rfl rfl dX6_firstCell_11 ?_
        refine lv_iload_n hx hb dX6_firstCell_14 rfl (lv_at hl 0 rfl) ?_
        refine callN_i (As := [.ref vca, .int (nI i)]) (rest := []) [2] hC hK hN hP hD rfl (by decide) hS (c_X7_at_T l D cI cJ cB vca 24 i cl (by omega) (by omega)) q331 md_X7_at rfl hl.1 rfl (Nat.le_of_ble_eq_true rfl) dX6_firstCell_15 ⟨Nat.le_of_ble_eq_true rfl, Nat.le_of_ble_eq_true rfl⟩ ⟨Nat.le_of_ble_eq_true rfl, Nat.le_of_ble_eq_true rfl⟩ (fun r_15 w H locs hpost hP hD hS => ?_)
        obtain ⟨rfl, rfl⟩ := hpost
        have hP : va_P D vwCl (tW cI cJ cB vo vsa vca vla (nI ln) (nI all) (nI q) (nI vw) (nI ro) (nI row) (fun zz => nI (tx zz)) (fun zz => tI (cl zz)) (fun zz => nI (lt zz))) H := hP
        have hD : va_D A (tW cI cJ cB vo vsa vca vla (nI ln) (nI all) (nI q) (nI vw) (nI ro) (nI row) (fun zz => nI (tx zz)) (fun zz => tI (cl zz)) (fun zz => nI (lt zz))) := hD
        refine lv_iload_n hx hb dX6_firstCell_18 rfl (lv_at hl 2 rfl) ?_
        refine lv_icmp_ne (tgt := 24) hx hb dX6_firstCell_19 (by decide) (fun c19 => ?_) (fun c19 => ?_)
        · have _ : True := trivial
          refine lv_iinc (v := nI (i + 1)) (lv' := [(2, .int (nI (i + 1))), (0, .ref vo), (1, .int (nI b))]) hx hb dX6_firstCell_24 hl (k := 0) rfl (nI_1 _) (by decide) rfl (fun ls hl => ?_)
          refine lv_goto (tgt := 2) hx hb dX6_firstCell_27 (by decide) ?_
          exact ih2 (i + 1) (by omega) (lt_s i1 (fun h => c19 ((tI_eqn _ (hcl i (by omega)) _ hb8).mpr h))) (by omega) _ _ hP hD hS _ (lv_sub hl [0, 1, 2] rfl)
        · have _ : True := trivial
          refine lv_iload_n hx hb dX6_firstCell_22 rfl (lv_at hl 0 rfl) ?_
          rw [hQ]
          exact W.iret (v := nI i) hx hb hr (fun t9 ht hW => ⟨⟨_, _, rfl, ⟨i, rfl, rfl, c7, ⟨(tI_eqn _ (hcl i (by omega)) _ hb8).mp c19, i1⟩⟩, by rw [ht]; exact hP, rfl⟩, hS.F ht⟩) hS.2.2 dX6_firstCell_23
  exact L2 _ 0 (by omega) (fun j h => absurd h (Nat.not_lt_zero j)) (Nat.lt_succ_self _) _ _ hP hD hS _ (lv_sub hl [0, 1, 2] rfl)

set_option maxHeartbeats 400000 in
set_option maxRecDepth 100000 in
theorem c_X6_textIndex (l : Launch) (D : va_G) (cI cJ cB : ClassId) (vo vsa vca vla ln all q vw ro row : Nat) (tx cl lt : Nat → Nat) (x9 : Nat) (hv1 : 1 ≤ vw) (hv6 : vw ≤ 6) (hx9 : x9 < 2 ^ 20) : Met l yX6_textIndex (Cond.code yX6_textIndex cX6_textIndex 2 (some .int) :: lw_all) (rmN 0) (va_Pc [.ref vo, .int (nI x9)] (pB D (tyz cI cJ cB) (tW cI cJ cB vo vsa vca vla (nI ln) (nI all) (nI q) (nI vw) (nI ro) (nI row) (fun zz => nI (tx zz)) (fun zz => tI (cl zz)) (fun zz => nI (lt zz))))) (va_Qi (fun (r : Int32) (w : va_W) => r = nI (x9 + x9 / vw) ∧ w = tW cI cJ cB vo vsa vca vla (nI ln) (nI all) (nI q) (nI vw) (nI ro) (nI row) (fun zz => nI (tx zz)) (fun zz => tI (cl zz)) (fun zz => nI (lt zz))) (gB D (tW cI cJ cB vo vsa vca vla (nI ln) (nI all) (nI q) (nI vw) (nI ro) (nI row) (fun zz => nI (tx zz)) (fun zz => tI (cl zz)) (fun zz => nI (lt zz)))) (aW (tW cI cJ cB vo vsa vca vla (nI ln) (nI all) (nI q) (nI vw) (nI ro) (nI row) (fun zz => nI (tx zz)) (fun zz => tI (cl zz)) (fun zz => nI (lt zz))))) 0 0 (aW (tW cI cJ cB vo vsa vca vla (nI ln) (nI all) (nI q) (nI vw) (nI ro) (nI row) (fun zz => nI (tx zz)) (fun zz => tI (cl zz)) (fun zz => nI (lt zz)))) := by
  refine Met.ofW (cc := cX6_textIndex) (maxL := 2) (ret := (some .int)) (by decide) rfl ?_
  intro p e s m args below meth c s₁ B hml hv
  obtain ⟨rfl, hK, hN, hP, hD0⟩ := hv
  have hx := B.exec; have hb := B.bytes; have hr := B.returns; have hlocks := B.notSynchronized
  have hts0 := atoms_spec (ws := Cond.code yX6_textIndex cX6_textIndex 2 (some .int) :: lw_all) B.pre
  have hC : CallFix p m c cX6_textIndex 2 s _ lw_all RX6 := ⟨hx, hb, hml, findClass_of_methodNamed B.named, fun w h => hts0 w (List.mem_cons_of_mem _ h)⟩
  have hD : va_D (aW (tW cI cJ cB vo vsa vca vla (nI ln) (nI all) (nI q) (nI vw) (nI ro) (nI row) (fun zz => nI (tx zz)) (fun zz => tI (cl zz)) (fun zz => nI (lt zz)))) (tW cI cJ cB vo vsa vca vla (nI ln) (nI all) (nI q) (nI vw) (nI ro) (nI row) (fun zz => nI (tx zz)) (fun zz => tI (cl zz)) (fun zz => nI (lt zz))) := ⟨hD0.1, fun k q h => ⟨k, q.2, h⟩⟩
  generalize hAe : aW (tW cI cJ cB vo vsa vca vla (nI ln) (nI all) (nI q) (nI vw) (nI ro) (nI row) (fun zz => nI (tx zz)) (fun zz => tI (cl zz)) (fun zz => nI (lt zz))) = A at hD ⊢
  have hS : va_S A s.heap s.heap [] := va_S.rf
  have hl := lv_entry ([.ref vo, .int (nI x9)]) (n := 2) (Nat.le_of_ble_eq_true rfl)
  rw [lg_entry_eq]
  generalize (lg_sl ([.ref vo, .int (nI x9)]) ++ List.replicate (2 - (lg_sl ([.ref vo, .int (nI x9)])).length) Slot.unset).toArray = ls at hl ⊢
  have hl : lv_has ls 2 [(0, .ref vo), (1, .int (nI x9))] := hl
  generalize hav : ([.ref vo, .int (nI x9)] : List Value).toArray = args at hC ⊢
  refine W_gen (fun QQ hQ => ?_)
  show W p l e (rmN 0) s m args below meth c s.heap [] 0 0 QQ (F0 m 0 ls [])
  refine lv_aload_n hx hb dX6_textIndex_0 rfl (lv_at hl 0 rfl) ?_
  refine gf_X6_31 hC hK hP 0 rfl rfl dX6_textIndex_1 ?_
  refine lv_iconst (v := nI 1) hx hb dX6_textIndex_4 (by decide) ?_
  refine n_icmp_ge (a := vw) (b := 1) (tgt := 12) hx hb dX6_textIndex_5 (by decide) (by omega) (by omega) (fun c5 => ?_) (fun c5 => ?_)
  · have _ : True := trivial
    refine lv_iload_n hx hb dX6_textIndex_12 rfl (lv_at hl 1 rfl) ?_
    refine lv_iload_n hx hb dX6_textIndex_13 rfl (lv_at hl 1 rfl) ?_
    refine lv_aload_n hx hb dX6_textIndex_14 rfl (lv_at hl 0 rfl) ?_
    refine gf_X6_31 hC hK hP 0 rfl rfl dX6_textIndex_15 ?_
    refine n_idiv hx hb dX6_textIndex_18 (by omega) (by omega) (by omega) ?_
    refine n_iadd hx hb dX6_textIndex_19  ?_
    rw [hQ]
    exact W.iret (v := nI (x9 + (x9 / vw))) hx hb hr (fun t9 ht hW => ⟨⟨_, _, rfl, ⟨rfl, rfl⟩, by rw [ht]; exact hP, rfl⟩, hS.F ht⟩) hS.2.2 dX6_textIndex_20
  · have _ : True := trivial
    exact absurd c5 (by omega)

set_option maxHeartbeats 400000 in
set_option maxRecDepth 100000 in
theorem c_X6_addCell (l : Launch) (D : va_G) (cI cJ cB : ClassId) (vo vsa vca vla ln all q vw hi row : Nat) (tx cl lt : Nat → Nat) (wi c9 : Nat) (hxr : TXR wi hi row all q vw) (hc9 : c9 < 2 ^ 20) (hc47 : c9 ≠ 47) (hlt : ∀ b, b < q → lt b < 2 ^ 20) : Met l yX6_addCell (Cond.code yX6_addCell cX6_addCell 4 (some .boolean) :: lw_all) (rmN 2) (va_Pc [.ref vo, .int (nI c9)] (pB D (tyz cI cJ cB) (tW cI cJ cB vo vsa vca vla (nI ln) (nI all) (nI q) (nI vw) (nI (hi + 1)) (nI row) (fun zz => nI (tx zz)) (fun zz => tI (cl zz)) (fun zz => nI (lt zz))))) (va_Qi (fun (r : Int32) (w : va_W) => ∃ z : Bool, ∃ row2 : Nat, ∃ all2 : Nat, ∃ q2 : Nat, ∃ vw2 : Nat, ∃ cl2 : Nat → Nat, ∃ lt9 : Nat → Nat, r = bI z ∧ w = tW cI cJ cB vo vsa vca vla (nI ln) (nI all2) (nI q2) (nI vw2) (nI (hi + 1)) (nI row2) (fun zz => nI (tx zz)) (fun zz => tI (cl2 zz)) (fun zz => nI (lt9 zz)) ∧ ADC c9 wi hi row all q vw cl lt z row2 all2 q2 vw2 cl2 lt9) (gB D (tW cI cJ cB vo vsa vca vla (nI ln) (nI all) (nI q) (nI vw) (nI (hi + 1)) (nI row) (fun zz => nI (tx zz)) (fun zz => tI (cl zz)) (fun zz => nI (lt zz)))) (aW (tW cI cJ cB vo vsa vca vla (nI ln) (nI all) (nI q) (nI vw) (nI (hi + 1)) (nI row) (fun zz => nI (tx zz)) (fun zz => tI (cl zz)) (fun zz => nI (lt zz))))) 0 0 (aW (tW cI cJ cB vo vsa vca vla (nI ln) (nI all) (nI q) (nI vw) (nI (hi + 1)) (nI row) (fun zz => nI (tx zz)) (fun zz => tI (cl zz)) (fun zz => nI (lt zz)))) := by
  refine Met.ofW (cc := cX6_addCell) (maxL := 4) (ret := (some .boolean)) (by decide) rfl ?_
  intro p e s m args below meth c s₁ B hml hv
  obtain ⟨rfl, hK, hN, hP, hD0⟩ := hv
  have hx := B.exec; have hb := B.bytes; have hr := B.returns; have hlocks := B.notSynchronized
  have hts0 := atoms_spec (ws := Cond.code yX6_addCell cX6_addCell 4 (some .boolean) :: lw_all) B.pre
  have hC : CallFix p m c cX6_addCell 4 s _ lw_all RX6 := ⟨hx, hb, hml, findClass_of_methodNamed B.named, fun w h => hts0 w (List.mem_cons_of_mem _ h)⟩
  have hD : va_D (aW (tW cI cJ cB vo vsa vca vla (nI ln) (nI all) (nI q) (nI vw) (nI (hi + 1)) (nI row) (fun zz => nI (tx zz)) (fun zz => tI (cl zz)) (fun zz => nI (lt zz)))) (tW cI cJ cB vo vsa vca vla (nI ln) (nI all) (nI q) (nI vw) (nI (hi + 1)) (nI row) (fun zz => nI (tx zz)) (fun zz => tI (cl zz)) (fun zz => nI (lt zz))) := ⟨hD0.1, fun k q h => ⟨k, q.2, h⟩⟩
  generalize hAe : aW (tW cI cJ cB vo vsa vca vla (nI ln) (nI all) (nI q) (nI vw) (nI (hi + 1)) (nI row) (fun zz => nI (tx zz)) (fun zz => tI (cl zz)) (fun zz => nI (lt zz))) = A at hD ⊢
  have hS : va_S A s.heap s.heap [] := va_S.rf
  have hl := lv_entry ([.ref vo, .int (nI c9)]) (n := 4) (Nat.le_of_ble_eq_true rfl)
  rw [lg_entry_eq]
  generalize (lg_sl ([.ref vo, .int (nI c9)]) ++ List.replicate (4 - (lg_sl ([.ref vo, .int (nI c9)])).length) Slot.unset).toArray = ls at hl ⊢
  have hl : lv_has ls 4 [(0, .ref vo), (1, .int (nI c9))] := hl
  generalize hav : ([.ref vo, .int (nI c9)] : List Value).toArray = args at hC ⊢
  refine W_gen (fun QQ hQ => ?_)
  show W p l e (rmN 2) s m args below meth c s.heap [] 0 0 QQ (F0 m 0 ls [])
  obtain ⟨hvw6, hrow6⟩ := TXR_vw hxr
  have hx9 := _root_.id hxr
  obtain ⟨x1, x2, x3, x4, x5, x6⟩ := hx9
  refine lv_aload_n hx hb dX6_addCell_0 rfl (lv_at hl 0 rfl) ?_
  refine lv_iload_n hx hb dX6_addCell_1 rfl (lv_at hl 1 rfl) ?_
  refine callV_i (As := [.int (nI c9)]) (rest := []) [0, 1, 2, 3] hC hK hN hP hD rfl (by decide) hS 0 (ci := 6) rfl rfl rfl (c_X6_contentOf l D cI cJ cB vo vsa vca vla ln all q vw (hi + 1) row tx cl lt c9 (by omega) (by omega) (by omega)) q327 md_X6_contentOf rfl hl.1 rfl (Nat.le_of_ble_eq_true rfl) dX6_addCell_2 ⟨Nat.le_of_ble_eq_true rfl, Nat.le_of_ble_eq_true rfl⟩ ⟨Nat.le_of_ble_eq_true rfl, Nat.le_of_ble_eq_true rfl⟩ (fun r_2 w H locs hpost hP hD hS => ?_)
  obtain ⟨rfl, rfl⟩ := hpost
  have hP : va_P D vwCl (tW cI cJ cB vo vsa vca vla (nI ln) (nI all) (nI q) (nI vw) (nI (hi + 1)) (nI row) (fun zz => nI (tx zz)) (fun zz => tI (cl zz)) (fun zz => nI (lt zz))) H := hP
  have hD : va_D A (tW cI cJ cB vo vsa vca vla (nI ln) (nI all) (nI q) (nI vw) (nI (hi + 1)) (nI row) (fun zz => nI (tx zz)) (fun zz => tI (cl zz)) (fun zz => nI (lt zz))) := hD
  refine lv_istore_n (lv' := [(2, .int (cIv (ctn lt q c9))), (0, .ref vo), (1, .int (nI c9))]) hx hb dX6_addCell_5 rfl hl (by decide) rfl (fun ls hl => ?_)
  have L23 : ∀ (mc : Nat), (mc = (if hi = 0 then 6 else wi)) → ∀ (H : Heap) (locs : List Loc), va_P D vwCl (tW cI cJ cB vo vsa vca vla (nI ln) (nI all) (nI q) (nI vw) (nI (hi + 1)) (nI row) (fun zz => nI (tx zz)) (fun zz => tI (cl zz)) (fun zz => nI (lt zz))) H → va_D A (tW cI cJ cB vo vsa vca vla (nI ln) (nI all) (nI q) (nI vw) (nI (hi + 1)) (nI row) (fun zz => nI (tx zz)) (fun zz => tI (cl zz)) (fun zz => nI (lt zz))) → va_S A s.heap H locs → ∀ ls : Array Slot, lv_has ls 4 [(2, .int (cIv (ctn lt q c9))), (0, .ref vo), (1, .int (nI c9))] → W p l e (rmN 2) s m args below meth c H locs 0 0 QQ (F0 m 23 ls [.int (nI mc)]) := by
    intro mc im H locs hP hD hS ls hl
    refine lv_istore_n (lv' := [(3, .int (nI mc)), (2, .int (cIv (ctn lt q c9))), (0, .ref vo), (1, .int (nI c9))]) hx hb dX6_addCell_23 rfl hl (by decide) rfl (fun ls hl => ?_)
    refine lv_iload_n hx hb dX6_addCell_24 rfl (lv_at hl 1 rfl) ?_
    refine lv_iconst (v := (-1)) hx hb dX6_addCell_25 (by decide) ?_
    refine lv_icmp_eq (tgt := 46) hx hb dX6_addCell_26 (by decide) (fun c26 => ?_) (fun c26 => ?_)
    · have _ : True := trivial
      have c26n := cIv_n1 x4 c26
      refine lv_iconst (v := nI 0) hx hb dX6_addCell_46 (by decide) ?_
      rw [hQ]
      exact W.zret (v := nI 0) hx hb hr rfl (fun t9 ht hW => ⟨⟨_, _, rfl, ⟨false, row, all, q, vw, cl, lt, rfl, rfl, Or.inl ⟨rfl, fun k fa => ctn_pst hc47 c26n, rfl, rfl, rfl, rfl, rfl, rfl⟩⟩, by rw [ht]; exact hP, rfl⟩, hS.F ht⟩) hS.2.2 dX6_addCell_47
    · have _ : True := trivial
      obtain ⟨v, hv9⟩ := cIv_ok c26
      have hv10 := ctn_lt x4 hv9
      have hnw := ctn_new x4 hv9
      rw [hv9] at hl
      refine lv_aload_n hx hb dX6_addCell_29 rfl (lv_at hl 2 rfl) ?_
      refine gf_X6_37 hC hK hP 0 rfl rfl dX6_addCell_30 ?_
      refine lv_iload_n hx hb dX6_addCell_33 rfl (lv_at hl 0 rfl) ?_
      refine n_icmp_ge (a := row) (b := mc) (tgt := 46) hx hb dX6_addCell_34 (by decide) (by omega) (by rw [im]; split <;> omega) (fun c34 => ?_) (fun c34 => ?_)
      · have _ : True := trivial
        have hful := row_full hxr im (by omega)
        refine lv_iconst (v := nI 0) hx hb dX6_addCell_46 (by decide) ?_
        rw [hQ]
        exact W.zret (v := nI 0) hx hb hr rfl (fun t9 ht hW => ⟨⟨_, _, rfl, ⟨false, row, all, q, vw, cl, lt, rfl, rfl, Or.inl ⟨rfl, fun k fa => pst_no hc47 (Or.inr (Or.inl hful)), rfl, rfl, rfl, rfl, rfl, rfl⟩⟩, by rw [ht]; exact hP, rfl⟩, hS.F ht⟩) hS.2.2 dX6_addCell_47
      · have _ : True := trivial
        refine lv_aload_n hx hb dX6_addCell_37 rfl (lv_at hl 2 rfl) ?_
        refine gf_X6_22 hC hK hP 0 rfl rfl dX6_addCell_38 ?_
        refine lv_bipush (v := nI 24) hx hb dX6_addCell_41 (by decide) ?_
        refine n_icmp_lt (a := all) (b := 24) (tgt := 48) hx hb dX6_addCell_43 (by decide) (by omega) (by omega) (fun c43 => ?_) (fun c43 => ?_)
        · have _ : True := trivial
          have L78 : ∀ (q9 : Nat) (l9 : Nat → Nat), (q9 = m2 lt q c9) → (l9 = lt2 lt q c9) → ∀ (H : Heap) (locs : List Loc), va_P D vwCl (tW cI cJ cB vo vsa vca vla (nI ln) (nI all) (nI q9) (nI vw) (nI (hi + 1)) (nI row) (fun zz => nI (tx zz)) (fun zz => tI (cl zz)) (fun zz => nI (l9 zz))) H → va_D A (tW cI cJ cB vo vsa vca vla (nI ln) (nI all) (nI q9) (nI vw) (nI (hi + 1)) (nI row) (fun zz => nI (tx zz)) (fun zz => tI (cl zz)) (fun zz => nI (l9 zz))) → va_S A s.heap H locs → ∀ ls : Array Slot, lv_has ls 4 [(3, .int (nI mc)), (2, .int (tI v)), (0, .ref vo), (1, .int (nI c9))] → W p l e (rmN 2) s m args below meth c H locs 0 0 QQ (F0 m 78 ls []) := by
            intro q9 l9 i1 i2 H locs hP hD hS ls hl
            refine lv_aload_n hx hb dX6_addCell_78 rfl (lv_at hl 2 rfl) ?_
            refine gf_X6_19 hC hK hP 0 rfl rfl dX6_addCell_79 ?_
            refine lv_aload_n hx hb dX6_addCell_82 rfl (lv_at hl 2 rfl) ?_
            refine gf_X6_22 hC hK hP 0 rfl rfl dX6_addCell_83 ?_
            refine lv_iload_n hx hb dX6_addCell_86 rfl (lv_at hl 1 rfl) ?_
            refine callN_v (As := [.ref vca, .int (nI all), .int (tI v)]) (rest := []) [2] hC hK hN hP hD rfl (by decide) hS (c_X7_put_T l D cI cJ cB vca 24 all cl v (by omega) (by omega)) q334 md_X7_put rfl hl.1 rfl (Nat.le_of_ble_eq_true rfl) dX6_addCell_87 ⟨Nat.le_of_ble_eq_true rfl, Nat.le_of_ble_eq_true rfl⟩ ⟨Nat.le_of_ble_eq_true rfl, Nat.le_of_ble_eq_true rfl⟩ (fun w H locs hpost hP hD hS => ?_)
            obtain rfl := hpost
            have hP : va_P D vwCl (tW cI cJ cB vo vsa vca vla (nI ln) (nI all) (nI q9) (nI vw) (nI (hi + 1)) (nI row) (fun zz => nI (tx zz)) (fun zz => tI ((va_up cl all v) zz)) (fun zz => nI (l9 zz))) H := hP
            have hD : va_D A (tW cI cJ cB vo vsa vca vla (nI ln) (nI all) (nI q9) (nI vw) (nI (hi + 1)) (nI row) (fun zz => nI (tx zz)) (fun zz => tI ((va_up cl all v) zz)) (fun zz => nI (l9 zz))) := hD
            refine lv_aload_n hx hb dX6_addCell_90 rfl (lv_at hl 2 rfl) ?_
            refine lv_dup hx hb dX6_addCell_91 rfl ?_
            refine gf_X6_22 hC hK hP 0 rfl rfl dX6_addCell_92 ?_
            refine lv_iconst (v := nI 1) hx hb dX6_addCell_95 (by decide) ?_
            refine n_iadd hx hb dX6_addCell_96  ?_
            refine pf_X6_22 hC hK hP hD hS 0 rfl (Nat.le_of_ble_eq_true rfl) (ws1 := tW cI cJ cB vo vsa vca vla (nI ln) (nI (all + 1)) (nI q9) (nI vw) (nI (hi + 1)) (nI row) (fun zz => nI (tx zz)) (fun zz => tI ((va_up cl all v) zz)) (fun zz => nI (l9 zz))) rfl dX6_addCell_97 (fun H locs hP hD hS => ?_)
            refine lv_aload_n hx hb dX6_addCell_100 rfl (lv_at hl 2 rfl) ?_
            refine lv_dup hx hb dX6_addCell_101 rfl ?_
            refine gf_X6_37 hC hK hP 0 rfl rfl dX6_addCell_102 ?_
            refine lv_iconst (v := nI 1) hx hb dX6_addCell_105 (by decide) ?_
            refine n_iadd hx hb dX6_addCell_106  ?_
            refine pf_X6_37 hC hK hP hD hS 0 rfl (Nat.le_of_ble_eq_true rfl) (ws1 := tW cI cJ cB vo vsa vca vla (nI ln) (nI (all + 1)) (nI q9) (nI vw) (nI (hi + 1)) (nI (row + 1)) (fun zz => nI (tx zz)) (fun zz => tI ((va_up cl all v) zz)) (fun zz => nI (l9 zz))) rfl dX6_addCell_107 (fun H locs hP hD hS => ?_)
            have L126 : ∀ (v9 : Nat), (v9 = (if hi = 0 then row + 1 else wi)) → ∀ (H : Heap) (locs : List Loc), va_P D vwCl (tW cI cJ cB vo vsa vca vla (nI ln) (nI (all + 1)) (nI q9) (nI v9) (nI (hi + 1)) (nI (row + 1)) (fun zz => nI (tx zz)) (fun zz => tI ((va_up cl all v) zz)) (fun zz => nI (l9 zz))) H → va_D A (tW cI cJ cB vo vsa vca vla (nI ln) (nI (all + 1)) (nI q9) (nI v9) (nI (hi + 1)) (nI (row + 1)) (fun zz => nI (tx zz)) (fun zz => tI ((va_up cl all v) zz)) (fun zz => nI (l9 zz))) → va_S A s.heap H locs → ∀ ls : Array Slot, lv_has ls 4 [(3, .int (nI mc)), (2, .int (tI v)), (0, .ref vo), (1, .int (nI c9))] → W p l e (rmN 2) s m args below meth c H locs 0 0 QQ (F0 m 126 ls []) := by
              intro v9 i3 H locs hP hD hS ls hl
              refine lv_iconst (v := nI 1) hx hb dX6_addCell_126 (by decide) ?_
              rw [hQ]
              exact W.zret (v := nI 1) hx hb hr rfl (fun t9 ht hW => ⟨⟨_, _, rfl, ⟨true, row + 1, all + 1, q9, v9, va_up cl all v, l9, rfl, rfl, Or.inr ⟨rfl, v, fun k fa => pst_ok hc47 (ctn_cv hv9).1 (by rw [← im]; omega) (by omega) (ctn_cv hv9).2, rfl, rfl, rfl, i1, i2, i3⟩⟩, by rw [ht]; exact hP, rfl⟩, hS.F ht⟩) hS.2.2 dX6_addCell_127
            refine lv_aload_n hx hb dX6_addCell_110 rfl (lv_at hl 2 rfl) ?_
            refine gf_X6_34 hC hK hP 0 rfl rfl dX6_addCell_111 ?_
            refine lv_iconst (v := nI 1) hx hb dX6_addCell_114 (by decide) ?_
            refine n_icmp_ne (a := (hi + 1)) (b := 1) (tgt := 126) hx hb dX6_addCell_115 (by decide) (by omega) (by omega) (fun c115 => ?_) (fun c115 => ?_)
            · have _ : True := trivial
              exact L126 vw (by rw [if_neg (by omega)]; rw [if_neg (by omega)] at x1; exact x1)  _ _ hP hD hS _ (lv_sub hl [0, 1, 2, 3] rfl)
            · have _ : True := trivial
              refine lv_aload_n hx hb dX6_addCell_118 rfl (lv_at hl 2 rfl) ?_
              refine lv_aload_n hx hb dX6_addCell_119 rfl (lv_at hl 2 rfl) ?_
              refine gf_X6_37 hC hK hP 0 rfl rfl dX6_addCell_120 ?_
              refine pf_X6_31 hC hK hP hD hS 0 rfl (Nat.le_of_ble_eq_true rfl) (ws1 := tW cI cJ cB vo vsa vca vla (nI ln) (nI (all + 1)) (nI q9) (nI (row + 1)) (nI (hi + 1)) (nI (row + 1)) (fun zz => nI (tx zz)) (fun zz => tI ((va_up cl all v) zz)) (fun zz => nI (l9 zz))) rfl dX6_addCell_123 (fun H locs hP hD hS => ?_)
              exact L126 (row + 1) (by rw [if_pos (by omega)])  _ _ hP hD hS _ (lv_sub hl [0, 1, 2, 3] rfl)
          refine lv_iload_n hx hb dX6_addCell_48 rfl (lv_at hl 1 rfl) ?_
          refine lv_aload_n hx hb dX6_addCell_49 rfl (lv_at hl 2 rfl) ?_
          refine gf_X6_28 hC hK hP 0 rfl rfl dX6_addCell_50 ?_
          refine lv_icmp_ne (tgt := 78) hx hb dX6_addCell_53 (by decide) (fun c53 => ?_) (fun c53 => ?_)
          · have _ : True := trivial
            have h53 := hnw.2 (fun h => c53 ((tI_eqn _ hv10 _ (by omega)).mpr h))
            exact L78 q lt (by unfold m2; rw [h53]; rfl) (by unfold lt2; rw [h53]; rfl)  _ _ hP hD hS _ (lv_sub hl [0, 1, 2, 3] rfl)
          · have _ : True := trivial
            have h53 := hnw.1 ((tI_eqn _ hv10 _ (by omega)).mp c53)
            refine lv_aload_n hx hb dX6_addCell_56 rfl (lv_at hl 2 rfl) ?_
            refine gf_X6_25 hC hK hP 0 rfl rfl dX6_addCell_57 ?_
            refine lv_aload_n hx hb dX6_addCell_60 rfl (lv_at hl 2 rfl) ?_
            refine gf_X6_28 hC hK hP 0 rfl rfl dX6_addCell_61 ?_
            refine lv_iload_n hx hb dX6_addCell_64 rfl (lv_at hl 3 rfl) ?_
            refine callN_v (As := [.ref vla, .int (nI q), .int (nI c9)]) (rest := []) [3] hC hK hN hP hD rfl (by decide) hS (c_X7_put_N l D cI cJ cB vla 7 q lt c9 (by omega) (by omega)) q334 md_X7_put rfl hl.1 rfl (Nat.le_of_ble_eq_true rfl) dX6_addCell_65 ⟨Nat.le_of_ble_eq_true rfl, Nat.le_of_ble_eq_true rfl⟩ ⟨Nat.le_of_ble_eq_true rfl, Nat.le_of_ble_eq_true rfl⟩ (fun w H locs hpost hP hD hS => ?_)
            obtain rfl := hpost
            have hP : va_P D vwCl (tW cI cJ cB vo vsa vca vla (nI ln) (nI all) (nI q) (nI vw) (nI (hi + 1)) (nI row) (fun zz => nI (tx zz)) (fun zz => tI (cl zz)) (fun zz => nI ((va_up lt q c9) zz))) H := hP
            have hD : va_D A (tW cI cJ cB vo vsa vca vla (nI ln) (nI all) (nI q) (nI vw) (nI (hi + 1)) (nI row) (fun zz => nI (tx zz)) (fun zz => tI (cl zz)) (fun zz => nI ((va_up lt q c9) zz))) := hD
            refine lv_aload_n hx hb dX6_addCell_68 rfl (lv_at hl 2 rfl) ?_
            refine lv_dup hx hb dX6_addCell_69 rfl ?_
            refine gf_X6_28 hC hK hP 0 rfl rfl dX6_addCell_70 ?_
            refine lv_iconst (v := nI 1) hx hb dX6_addCell_73 (by decide) ?_
            refine n_iadd hx hb dX6_addCell_74  ?_
            refine pf_X6_28 hC hK hP hD hS 0 rfl (Nat.le_of_ble_eq_true rfl) (ws1 := tW cI cJ cB vo vsa vca vla (nI ln) (nI all) (nI (q + 1)) (nI vw) (nI (hi + 1)) (nI row) (fun zz => nI (tx zz)) (fun zz => tI (cl zz)) (fun zz => nI ((va_up lt q c9) zz))) rfl dX6_addCell_75 (fun H locs hP hD hS => ?_)
            exact L78 (q + 1) (va_up lt q c9) (by unfold m2; rw [h53.1]; rfl) (by unfold lt2; rw [h53.1]; rfl)  _ _ hP hD hS _ (lv_sub hl [0, 1, 2, 3] rfl)
        · have _ : True := trivial
          refine lv_iconst (v := nI 0) hx hb dX6_addCell_46 (by decide) ?_
          rw [hQ]
          exact W.zret (v := nI 0) hx hb hr rfl (fun t9 ht hW => ⟨⟨_, _, rfl, ⟨false, row, all, q, vw, cl, lt, rfl, rfl, Or.inl ⟨rfl, fun k fa => pst_no hc47 (Or.inr (Or.inr (by omega))), rfl, rfl, rfl, rfl, rfl, rfl⟩⟩, by rw [ht]; exact hP, rfl⟩, hS.F ht⟩) hS.2.2 dX6_addCell_47
  refine lv_aload_n hx hb dX6_addCell_6 rfl (lv_at hl 1 rfl) ?_
  refine gf_X6_34 hC hK hP 0 rfl rfl dX6_addCell_7 ?_
  refine lv_iconst (v := nI 1) hx hb dX6_addCell_10 (by decide) ?_
  refine n_icmp_ne (a := (hi + 1)) (b := 1) (tgt := 19) hx hb dX6_addCell_11 (by decide) (by omega) (by omega) (fun c11 => ?_) (fun c11 => ?_)
  · have _ : True := trivial
    refine lv_aload_n hx hb dX6_addCell_19 rfl (lv_at hl 1 rfl) ?_
    refine gf_X6_31 hC hK hP 0 rfl rfl dX6_addCell_20 ?_
    exact L23 vw (by rw [if_neg (by omega)]; rw [if_neg (by omega)] at x1; exact x1)  _ _ hP hD hS _ (lv_sub hl [0, 1, 2] rfl)
  · have _ : True := trivial
    refine lv_bipush (v := nI 6) hx hb dX6_addCell_14 (by decide) ?_
    refine lv_goto (tgt := 23) hx hb dX6_addCell_16 (by decide) ?_
    exact L23 6 (by rw [if_pos (by omega)])  _ _ hP hD hS _ (lv_sub hl [0, 1, 2] rfl)

set_option maxHeartbeats 400000 in
set_option maxRecDepth 100000 in
theorem c_X6_fill (l : Launch) (D : va_G) (cI cJ cB : ClassId) (vo vsa vca vla ln all q vw ro row : Nat) (tx cl lt ca la : Nat → Nat) (se : Nat) (h hs hw hh hp : Nat) (bwi bhe bwa bco btr brc bbr blc bgb bgp bst bsl bla : Int32) (bsh bwd bhg bsp : Nat → Nat) (fa : Nat → Nat) (hca : ∀ j, j < all → ca j = cl j) (hpa : pall tx ln = .inr (vw, ro, 0, all, cl, q, lt, fa)) (h1 : 1 ≤ vw) (h6 : vw ≤ 6) (g1 : 1 ≤ ro) (g6 : ro ≤ 6) (hal : all = vw * ro) (ha24 : all ≤ 24) (hq7 : q ≤ 7) (hc : ∀ i, i < all → cl i < 2 + q) (hfa : ∀ b, b < q → ∃ i, i < all ∧ cl i = 2 + b ∧ (∀ j, j < i → cl j ≠ 2 + b) ∧ fa b = i + i / vw) : Met l yX6_fill (Cond.code yX6_fill cX6_fill 4 (some .int) :: lw_all) (rmN 3) (va_Pc [.ref vo, .ref h] (pB D (tyz cI cJ cB) (fW cI cJ cB vo vsa vca vla (nI ln) (nI all) (nI q) (nI vw) (nI ro) (nI row) (fun zz => nI (tx zz)) (fun zz => tI (ca zz)) (fun zz => nI (la zz)) h hs hw hh hp (nI se) bwi bhe bwa bco btr brc bbr blc bgb bgp bst bsl bla (fun zz => nI (bsh zz)) (fun zz => nI (bwd zz)) (fun zz => nI (bhg zz)) (fun zz => nI (bsp zz))))) (va_Qi (fun (r : Int32) (w : va_W) => ∃ wd2 : Nat, ∃ hd2 : Nat, ∃ nb2 : Nat, ∃ wl2 : Nat, ∃ st2 : Int32, ∃ sl2 : Int32, ∃ gl2 : Option Nat, ∃ aq2 : Option Nat, ∃ lb2 : Option Nat, ∃ sh2 : Nat → Nat, ∃ bw2 : Nat → Nat, ∃ bh2 : Nat → Nat, ∃ ps2 : Nat → Nat, w = fW cI cJ cB vo vsa vca vla (nI ln) (nI all) (nI q) (nI vw) (nI ro) (nI row) (fun zz => nI (tx zz)) (fun zz => tI (ca zz)) (fun zz => nI (la zz)) h hs hw hh hp (nI se) (nI wd2) (nI hd2) (nI wl2) (nI nb2) (nI (topv wd2)) (nI (rcv wd2 hd2)) (nI (btv wd2 hd2)) (nI (lcv wd2 hd2)) (gI gl2) (gI aq2) st2 sl2 (gI lb2) (fun zz => nI (sh2 zz)) (fun zz => nI (bw2 zz)) (fun zz => nI (bh2 zz)) (fun zz => nI (ps2 zz)) ∧ PRS tx ln r wd2 hd2 nb2 wl2 st2 sl2 gl2 aq2 lb2 sh2 bw2 bh2 ps2) (gB D (fW cI cJ cB vo vsa vca vla (nI ln) (nI all) (nI q) (nI vw) (nI ro) (nI row) (fun zz => nI (tx zz)) (fun zz => tI (ca zz)) (fun zz => nI (la zz)) h hs hw hh hp (nI se) bwi bhe bwa bco btr brc bbr blc bgb bgp bst bsl bla (fun zz => nI (bsh zz)) (fun zz => nI (bwd zz)) (fun zz => nI (bhg zz)) (fun zz => nI (bsp zz)))) (aW (fW cI cJ cB vo vsa vca vla (nI ln) (nI all) (nI q) (nI vw) (nI ro) (nI row) (fun zz => nI (tx zz)) (fun zz => tI (ca zz)) (fun zz => nI (la zz)) h hs hw hh hp (nI se) bwi bhe bwa bco btr brc bbr blc bgb bgp bst bsl bla (fun zz => nI (bsh zz)) (fun zz => nI (bwd zz)) (fun zz => nI (bhg zz)) (fun zz => nI (bsp zz))))) 0 0 (aW (fW cI cJ cB vo vsa vca vla (nI ln) (nI all) (nI q) (nI vw) (nI ro) (nI row) (fun zz => nI (tx zz)) (fun zz => tI (ca zz)) (fun zz => nI (la zz)) h hs hw hh hp (nI se) bwi bhe bwa bco btr brc bbr blc bgb bgp bst bsl bla (fun zz => nI (bsh zz)) (fun zz => nI (bwd zz)) (fun zz => nI (bhg zz)) (fun zz => nI (bsp zz)))) := by
  refine Met.ofW (cc := cX6_fill) (maxL := 4) (ret := (some .int)) (by decide) rfl ?_
  intro p e s m args below meth c s₁ B hml hv
  obtain ⟨rfl, hK, hN, hP, hD0⟩ := hv
  have hx := B.exec; have hb := B.bytes; have hr := B.returns; have hlocks := B.notSynchronized
  have hts0 := atoms_spec (ws := Cond.code yX6_fill cX6_fill 4 (some .int) :: lw_all) B.pre
  have hC : CallFix p m c cX6_fill 4 s _ lw_all RX6 := ⟨hx, hb, hml, findClass_of_methodNamed B.named, fun w h => hts0 w (List.mem_cons_of_mem _ h)⟩
  have hD : va_D (aW (fW cI cJ cB vo vsa vca vla (nI ln) (nI all) (nI q) (nI vw) (nI ro) (nI row) (fun zz => nI (tx zz)) (fun zz => tI (ca zz)) (fun zz => nI (la zz)) h hs hw hh hp (nI se) bwi bhe bwa bco btr brc bbr blc bgb bgp bst bsl bla (fun zz => nI (bsh zz)) (fun zz => nI (bwd zz)) (fun zz => nI (bhg zz)) (fun zz => nI (bsp zz)))) (fW cI cJ cB vo vsa vca vla (nI ln) (nI all) (nI q) (nI vw) (nI ro) (nI row) (fun zz => nI (tx zz)) (fun zz => tI (ca zz)) (fun zz => nI (la zz)) h hs hw hh hp (nI se) bwi bhe bwa bco btr brc bbr blc bgb bgp bst bsl bla (fun zz => nI (bsh zz)) (fun zz => nI (bwd zz)) (fun zz => nI (bhg zz)) (fun zz => nI (bsp zz))) := ⟨hD0.1, fun k q h => ⟨k, q.2, h⟩⟩
  generalize hAe : aW (fW cI cJ cB vo vsa vca vla (nI ln) (nI all) (nI q) (nI vw) (nI ro) (nI row) (fun zz => nI (tx zz)) (fun zz => tI (ca zz)) (fun zz => nI (la zz)) h hs hw hh hp (nI se) bwi bhe bwa bco btr brc bbr blc bgb bgp bst bsl bla (fun zz => nI (bsh zz)) (fun zz => nI (bwd zz)) (fun zz => nI (bhg zz)) (fun zz => nI (bsp zz))) = A at hD ⊢
  have hS : va_S A s.heap s.heap [] := va_S.rf
  have hl := lv_entry ([.ref vo, .ref h]) (n := 4) (Nat.le_of_ble_eq_true rfl)
  rw [lg_entry_eq]
  generalize (lg_sl ([.ref vo, .ref h]) ++ List.replicate (4 - (lg_sl ([.ref vo, .ref h])).length) Slot.unset).toArray = ls at hl ⊢
  have hl : lv_has ls 4 [(0, .ref vo), (1, .ref h)] := hl
  generalize hav : ([.ref vo, .ref h] : List Value).toArray = args at hC ⊢
  refine W_gen (fun QQ hQ => ?_)
  show W p l e (rmN 3) s m args below meth c s.heap [] 0 0 QQ (F0 m 0 ls [])
  have hvr : vw * ro ≤ 24 := by omega
  refine lv_aload_n hx hb dX6_fill_0 rfl (lv_at hl 1 rfl) ?_
  refine lv_aload_n hx hb dX6_fill_1 rfl (lv_at hl 0 rfl) ?_
  refine gf_X6_31 hC hK hP 0 rfl rfl dX6_fill_2 ?_
  refine lv_aload_n hx hb dX6_fill_5 rfl (lv_at hl 0 rfl) ?_
  refine gf_X6_34 hC hK hP 0 rfl rfl dX6_fill_6 ?_
  refine callV_v (As := [.int (nI vw), .int (nI ro)]) (rest := []) [4, 5, 6, 7, 8] hC hK hN hP hD rfl (by decide) hS 4 (ci := 0) rfl rfl rfl (c_X0_empty l D cI cJ cB h hs hw hh hp vw ro (nI se) bwi bhe bwa bco btr brc bbr blc bgb bgp bst bsl bla (fun zz => nI (bsh zz)) (fun zz => nI (bwd zz)) (fun zz => nI (bhg zz)) (fun zz => nI (bsp zz)) (by omega) (by omega) (by omega) (by omega) (by omega)) q341 md_X0_empty rfl hl.1 rfl (Nat.le_of_ble_eq_true rfl) dX6_fill_9 ⟨Nat.le_of_ble_eq_true rfl, Nat.le_of_ble_eq_true rfl⟩ ⟨Nat.le_of_ble_eq_true rfl, Nat.le_of_ble_eq_true rfl⟩ (fun w H locs hpost hP hD hS => ?_)
  obtain rfl := hpost
  have hP : va_P D vwCl (fW cI cJ cB vo vsa vca vla (nI ln) (nI all) (nI q) (nI vw) (nI ro) (nI row) (fun zz => nI (tx zz)) (fun zz => tI (ca zz)) (fun zz => nI (la zz)) h hs hw hh hp (nI se) (nI vw) (nI ro) (nI 0) (nI 0) (nI (topv vw)) (nI (rcv vw ro)) (nI (btv vw ro)) (nI (lcv vw ro)) (gI none) (gI none) 0 0 (gI none) (fun zz => nI (bsh zz)) (fun zz => nI (bwd zz)) (fun zz => nI (bhg zz)) (fun zz => nI (bsp zz))) H := hP
  have hD : va_D A (fW cI cJ cB vo vsa vca vla (nI ln) (nI all) (nI q) (nI vw) (nI ro) (nI row) (fun zz => nI (tx zz)) (fun zz => tI (ca zz)) (fun zz => nI (la zz)) h hs hw hh hp (nI se) (nI vw) (nI ro) (nI 0) (nI 0) (nI (topv vw)) (nI (rcv vw ro)) (nI (btv vw ro)) (nI (lcv vw ro)) (gI none) (gI none) 0 0 (gI none) (fun zz => nI (bsh zz)) (fun zz => nI (bwd zz)) (fun zz => nI (bhg zz)) (fun zz => nI (bsp zz))) := hD
  refine lv_aload_n hx hb dX6_fill_12 rfl (lv_at hl 1 rfl) ?_
  refine lv_aload_n hx hb dX6_fill_13 rfl (lv_at hl 0 rfl) ?_
  refine lv_bipush (v := (-10)) hx hb dX6_fill_14 (by decide) ?_
  refine callV_i (As := [.int (-10)]) (rest := [.ref h]) [0, 1, 2, 3] hC hK hN hP hD rfl (by decide) hS 0 (ci := 6) rfl rfl rfl (c_X6_cellsWith l D cI cJ cB vo vsa vca vla ln all q vw ro row tx ca la 1 (by omega) (fun i h => by rw [hca i h]; have := hc i h; omega) (by omega)) q342 md_X6_cellsWith rfl hl.1 rfl (Nat.le_of_ble_eq_true rfl) dX6_fill_16 ⟨Nat.le_of_ble_eq_true rfl, Nat.le_of_ble_eq_true rfl⟩ ⟨Nat.le_of_ble_eq_true rfl, Nat.le_of_ble_eq_true rfl⟩ (fun r_16 w H locs hpost hP hD hS => ?_)
  obtain ⟨rfl, rfl⟩ := hpost
  have hP : va_P D vwCl (fW cI cJ cB vo vsa vca vla (nI ln) (nI all) (nI q) (nI vw) (nI ro) (nI row) (fun zz => nI (tx zz)) (fun zz => tI (ca zz)) (fun zz => nI (la zz)) h hs hw hh hp (nI se) (nI vw) (nI ro) (nI 0) (nI 0) (nI (topv vw)) (nI (rcv vw ro)) (nI (btv vw ro)) (nI (lcv vw ro)) (gI none) (gI none) 0 0 (gI none) (fun zz => nI (bsh zz)) (fun zz => nI (bwd zz)) (fun zz => nI (bhg zz)) (fun zz => nI (bsp zz))) H := hP
  have hD : va_D A (fW cI cJ cB vo vsa vca vla (nI ln) (nI all) (nI q) (nI vw) (nI ro) (nI row) (fun zz => nI (tx zz)) (fun zz => tI (ca zz)) (fun zz => nI (la zz)) h hs hw hh hp (nI se) (nI vw) (nI ro) (nI 0) (nI 0) (nI (topv vw)) (nI (rcv vw ro)) (nI (btv vw ro)) (nI (lcv vw ro)) (gI none) (gI none) 0 0 (gI none) (fun zz => nI (bsh zz)) (fun zz => nI (bwd zz)) (fun zz => nI (bhg zz)) (fun zz => nI (bsp zz))) := hD
  refine topi (y := nI (bset cl 1 (vw * ro))) (by rw [bset_c hca, hal]) ?_
  refine pf_X6_79 hC hK hP hD hS 4 rfl (Nat.le_of_ble_eq_true rfl) (ws1 := fW cI cJ cB vo vsa vca vla (nI ln) (nI all) (nI q) (nI vw) (nI ro) (nI row) (fun zz => nI (tx zz)) (fun zz => tI (ca zz)) (fun zz => nI (la zz)) h hs hw hh hp (nI se) (nI vw) (nI ro) (nI (bset cl 1 (vw * ro))) (nI 0) (nI (topv vw)) (nI (rcv vw ro)) (nI (btv vw ro)) (nI (lcv vw ro)) (gI none) (gI none) 0 0 (gI none) (fun zz => nI (bsh zz)) (fun zz => nI (bwd zz)) (fun zz => nI (bhg zz)) (fun zz => nI (bsp zz))) rfl dX6_fill_19 (fun H locs hP hD hS => ?_)
  refine lv_iconst (v := nI 0) hx hb dX6_fill_22 (by decide) ?_
  refine lv_istore_n (lv' := [(2, .int (nI 0)), (0, .ref vo), (1, .ref h)]) hx hb dX6_fill_23 rfl hl (by decide) rfl (fun ls hl => ?_)
  have L24 : ∀ (n : Nat) (i : Nat) (sh1 : Nat → Nat) (bw1 : Nat → Nat) (bh1 : Nat → Nat) (ps1 : Nat → Nat), (i ≤ q) → (SHP vw ro (fun b => bset cl (2 + b) (vw * ro)) i sh1 bw1 bh1 ps1) → (∀ j, j < i → isone vw ro (bset cl (2 + j) (vw * ro)) = true) → (q - i) < n → ∀ (H : Heap) (locs : List Loc), va_P D vwCl (fW cI cJ cB vo vsa vca vla (nI ln) (nI all) (nI q) (nI vw) (nI ro) (nI row) (fun zz => nI (tx zz)) (fun zz => tI (ca zz)) (fun zz => nI (la zz)) h hs hw hh hp (nI se) (nI vw) (nI ro) (nI (bset cl 1 (vw * ro))) (nI i) (nI (topv vw)) (nI (rcv vw ro)) (nI (btv vw ro)) (nI (lcv vw ro)) (gI none) (gI none) 0 0 (gI none) (fun zz => nI (sh1 zz)) (fun zz => nI (bw1 zz)) (fun zz => nI (bh1 zz)) (fun zz => nI (ps1 zz))) H → va_D A (fW cI cJ cB vo vsa vca vla (nI ln) (nI all) (nI q) (nI vw) (nI ro) (nI row) (fun zz => nI (tx zz)) (fun zz => tI (ca zz)) (fun zz => nI (la zz)) h hs hw hh hp (nI se) (nI vw) (nI ro) (nI (bset cl 1 (vw * ro))) (nI i) (nI (topv vw)) (nI (rcv vw ro)) (nI (btv vw ro)) (nI (lcv vw ro)) (gI none) (gI none) 0 0 (gI none) (fun zz => nI (sh1 zz)) (fun zz => nI (bw1 zz)) (fun zz => nI (bh1 zz)) (fun zz => nI (ps1 zz))) → va_S A s.heap H locs → ∀ ls : Array Slot, lv_has ls 4 [(2, .int (nI i)), (0, .ref vo), (1, .ref h)] → W p l e (rmN 3) s m args below meth c H locs 0 0 QQ (F0 m 24 ls []) := by
    intro n; induction n with
    | zero => intro i sh1 bw1 bh1 ps1 ii i1 i2 hm; exact absurd hm (Nat.not_lt_zero _)
    | succ n ih24 =>
      intro i sh1 bw1 bh1 ps1 ii i1 i2 hm24 H locs hP hD hS ls hl
      refine lv_iload_n hx hb dX6_fill_24 rfl (lv_at hl 0 rfl) ?_
      refine lv_aload_n hx hb dX6_fill_25 rfl (lv_at hl 1 rfl) ?_
      refine gf_X6_28 hC hK hP 0 rfl rfl dX6_fill_26 ?_
      refine n_icmp_ge (a := i) (b := q) (tgt := 67) hx hb dX6_fill_29 (by decide) (by omega) (by omega) (fun c29 => ?_) (fun c29 => ?_)
      · have _ : True := trivial
        have e29 : i = q := by omega
        refine lv_bipush (v := (-9)) hx hb dX6_fill_67 (by decide) ?_
        rw [hQ]
        exact W.iret (v := (-9)) hx hb hr (fun t9 ht hW => ⟨⟨_, _, rfl, ⟨vw, ro, i, bset cl 1 (vw * ro), 0, 0, none, none, none, sh1, bw1, bh1, ps1, rfl, Or.inr ⟨cl, ⟨h1, h6, g1, g6, hvr, by omega, fun b hb => by obtain ⟨i9, k1, k2, -⟩ := hfa b (by omega); exact ⟨i9, by omega, k2⟩, ⟨lt, fa, by rw [← hal, e29]; exact hpa⟩, i2⟩, rfl, rfl, i1, rfl, rfl, rfl, rfl, rfl⟩⟩, by rw [ht]; exact hP, rfl⟩, hS.F ht⟩) hS.2.2 dX6_fill_69
      · have _ : True := trivial
        refine lv_aload_n hx hb dX6_fill_32 rfl (lv_at hl 1 rfl) ?_
        refine lv_iload_n hx hb dX6_fill_33 rfl (lv_at hl 0 rfl) ?_
        refine topi (y := tI (2 + i)) (tI_b i).symm ?_
        refine callV_i (As := [.int (tI (2 + i))]) (rest := []) [0, 1, 2, 3] hC hK hN hP hD rfl (by decide) hS 0 (ci := 6) rfl rfl rfl (c_X6_cellsWith l D cI cJ cB vo vsa vca vla ln all q vw ro row tx ca la (2 + i) (by omega) (fun i h => by rw [hca i h]; have := hc i h; omega) (by omega)) q342 md_X6_cellsWith rfl hl.1 rfl (Nat.le_of_ble_eq_true rfl) dX6_fill_34 ⟨Nat.le_of_ble_eq_true rfl, Nat.le_of_ble_eq_true rfl⟩ ⟨Nat.le_of_ble_eq_true rfl, Nat.le_of_ble_eq_true rfl⟩ (fun r_34 w H locs hpost hP hD hS => ?_)
        obtain ⟨rfl, rfl⟩ := hpost
        have hP : va_P D vwCl (fW cI cJ cB vo vsa vca vla (nI ln) (nI all) (nI q) (nI vw) (nI ro) (nI row) (fun zz => nI (tx zz)) (fun zz => tI (ca zz)) (fun zz => nI (la zz)) h hs hw hh hp (nI se) (nI vw) (nI ro) (nI (bset cl 1 (vw * ro))) (nI i) (nI (topv vw)) (nI (rcv vw ro)) (nI (btv vw ro)) (nI (lcv vw ro)) (gI none) (gI none) 0 0 (gI none) (fun zz => nI (sh1 zz)) (fun zz => nI (bw1 zz)) (fun zz => nI (bh1 zz)) (fun zz => nI (ps1 zz))) H := hP
        have hD : va_D A (fW cI cJ cB vo vsa vca vla (nI ln) (nI all) (nI q) (nI vw) (nI ro) (nI row) (fun zz => nI (tx zz)) (fun zz => tI (ca zz)) (fun zz => nI (la zz)) h hs hw hh hp (nI se) (nI vw) (nI ro) (nI (bset cl 1 (vw * ro))) (nI i) (nI (topv vw)) (nI (rcv vw ro)) (nI (btv vw ro)) (nI (lcv vw ro)) (gI none) (gI none) 0 0 (gI none) (fun zz => nI (sh1 zz)) (fun zz => nI (bw1 zz)) (fun zz => nI (bh1 zz)) (fun zz => nI (ps1 zz))) := hD
        refine topi (y := nI (bset cl (2 + i) (vw * ro))) (by rw [bset_c hca, hal]) ?_
        refine lv_istore_n (lv' := [(3, .int (nI (bset cl (2 + i) (vw * ro)))), (2, .int (nI i)), (0, .ref vo), (1, .ref h)]) hx hb dX6_fill_37 rfl hl (by decide) rfl (fun ls hl => ?_)
        refine lv_aload_n hx hb dX6_fill_38 rfl (lv_at hl 3 rfl) ?_
        refine lv_iload_n hx hb dX6_fill_39 rfl (lv_at hl 0 rfl) ?_
        refine callV_i (As := [.int (nI (bset cl (2 + i) (vw * ro)))]) (rest := []) [4, 5, 6, 7, 8] hC hK hN hP hD rfl (by decide) hS 4 (ci := 0) rfl rfl rfl (c_X0_isJoined l D cI cJ cB h hs hw hh hp se vw ro i (bset cl 1 (vw * ro)) 0 0 none none none sh1 bw1 bh1 ps1 (bset cl (2 + i) (vw * ro)) (by omega) (by omega) (by omega) bset_lt) q346 md_X0_isJoined rfl hl.1 rfl (Nat.le_of_ble_eq_true rfl) dX6_fill_40 ⟨Nat.le_of_ble_eq_true rfl, Nat.le_of_ble_eq_true rfl⟩ ⟨Nat.le_of_ble_eq_true rfl, Nat.le_of_ble_eq_true rfl⟩ (fun r_40 w H locs hpost hP hD hS => ?_)
        obtain ⟨rfl, rfl⟩ := hpost
        have hP : va_P D vwCl (fW cI cJ cB vo vsa vca vla (nI ln) (nI all) (nI q) (nI vw) (nI ro) (nI row) (fun zz => nI (tx zz)) (fun zz => tI (ca zz)) (fun zz => nI (la zz)) h hs hw hh hp (nI se) (nI vw) (nI ro) (nI (bset cl 1 (vw * ro))) (nI i) (nI (topv vw)) (nI (rcv vw ro)) (nI (btv vw ro)) (nI (lcv vw ro)) (gI none) (gI none) 0 0 (gI none) (fun zz => nI (sh1 zz)) (fun zz => nI (bw1 zz)) (fun zz => nI (bh1 zz)) (fun zz => nI (ps1 zz))) H := hP
        have hD : va_D A (fW cI cJ cB vo vsa vca vla (nI ln) (nI all) (nI q) (nI vw) (nI ro) (nI row) (fun zz => nI (tx zz)) (fun zz => tI (ca zz)) (fun zz => nI (la zz)) h hs hw hh hp (nI se) (nI vw) (nI ro) (nI (bset cl 1 (vw * ro))) (nI i) (nI (topv vw)) (nI (rcv vw ro)) (nI (btv vw ro)) (nI (lcv vw ro)) (gI none) (gI none) 0 0 (gI none) (fun zz => nI (sh1 zz)) (fun zz => nI (bw1 zz)) (fun zz => nI (bh1 zz)) (fun zz => nI (ps1 zz))) := hD
        refine b_if_ne (tgt := 56) hx hb dX6_fill_43 (by decide) (fun c43 => ?_) (fun c43 => ?_)
        · have _ : True := trivial
          refine lv_aload_n hx hb dX6_fill_56 rfl (lv_at hl 3 rfl) ?_
          refine lv_iload_n hx hb dX6_fill_57 rfl (lv_at hl 0 rfl) ?_
          refine callV_v (As := [.int (nI (bset cl (2 + i) (vw * ro)))]) (rest := []) [4, 5, 6, 7, 8] hC hK hN hP hD rfl (by decide) hS 4 (ci := 0) rfl rfl rfl (c_X0_add l D cI cJ cB h hs hw hh hp se vw ro i (bset cl 1 (vw * ro)) 0 0 none none none sh1 bw1 bh1 ps1 (bset cl (2 + i) (vw * ro)) (by omega) (by omega) (by omega) (by omega) (by omega) (by omega) bset_lt (by obtain ⟨i9, h1, h2, -⟩ := hfa i (by omega); exact ⟨i9, bset_bit.mpr ⟨by omega, h2⟩⟩)) q358 md_X0_add rfl hl.1 rfl (Nat.le_of_ble_eq_true rfl) dX6_fill_58 ⟨Nat.le_of_ble_eq_true rfl, Nat.le_of_ble_eq_true rfl⟩ ⟨Nat.le_of_ble_eq_true rfl, Nat.le_of_ble_eq_true rfl⟩ (fun w H locs hpost hP hD hS => ?_)
          obtain rfl := hpost
          have hP : va_P D vwCl (fW cI cJ cB vo vsa vca vla (nI ln) (nI all) (nI q) (nI vw) (nI ro) (nI row) (fun zz => nI (tx zz)) (fun zz => tI (ca zz)) (fun zz => nI (la zz)) h hs hw hh hp (nI se) (nI vw) (nI ro) (nI (bset cl 1 (vw * ro))) (nI (i + 1)) (nI (topv vw)) (nI (rcv vw ro)) (nI (btv vw ro)) (nI (lcv vw ro)) (gI none) (gI none) 0 0 (gI none) (fun zz => nI ((va_up sh1 i ((bset cl (2 + i) (vw * ro)) >>> (bxt vw (bset cl (2 + i) (vw * ro)) (vw * ro) * vw + bxl vw (bset cl (2 + i) (vw * ro)) (vw * ro)))) zz)) (fun zz => nI ((va_up bw1 i (bxr vw (bset cl (2 + i) (vw * ro)) (vw * ro) - bxl vw (bset cl (2 + i) (vw * ro)) (vw * ro) + 1)) zz)) (fun zz => nI ((va_up bh1 i (bxb vw (bset cl (2 + i) (vw * ro)) (vw * ro) - bxt vw (bset cl (2 + i) (vw * ro)) (vw * ro) + 1)) zz)) (fun zz => nI ((va_up ps1 i (bxt vw (bset cl (2 + i) (vw * ro)) (vw * ro) * vw + bxl vw (bset cl (2 + i) (vw * ro)) (vw * ro))) zz))) H := hP
          have hD : va_D A (fW cI cJ cB vo vsa vca vla (nI ln) (nI all) (nI q) (nI vw) (nI ro) (nI row) (fun zz => nI (tx zz)) (fun zz => tI (ca zz)) (fun zz => nI (la zz)) h hs hw hh hp (nI se) (nI vw) (nI ro) (nI (bset cl 1 (vw * ro))) (nI (i + 1)) (nI (topv vw)) (nI (rcv vw ro)) (nI (btv vw ro)) (nI (lcv vw ro)) (gI none) (gI none) 0 0 (gI none) (fun zz => nI ((va_up sh1 i ((bset cl (2 + i) (vw * ro)) >>> (bxt vw (bset cl (2 + i) (vw * ro)) (vw * ro) * vw + bxl vw (bset cl (2 + i) (vw * ro)) (vw * ro)))) zz)) (fun zz => nI ((va_up bw1 i (bxr vw (bset cl (2 + i) (vw * ro)) (vw * ro) - bxl vw (bset cl (2 + i) (vw * ro)) (vw * ro) + 1)) zz)) (fun zz => nI ((va_up bh1 i (bxb vw (bset cl (2 + i) (vw * ro)) (vw * ro) - bxt vw (bset cl (2 + i) (vw * ro)) (vw * ro) + 1)) zz)) (fun zz => nI ((va_up ps1 i (bxt vw (bset cl (2 + i) (vw * ro)) (vw * ro) * vw + bxl vw (bset cl (2 + i) (vw * ro)) (vw * ro))) zz))) := hD
          refine lv_iinc (v := nI (i + 1)) (lv' := [(2, .int (nI (i + 1))), (3, .int (nI (bset cl (2 + i) (vw * ro)))), (0, .ref vo), (1, .ref h)]) hx hb dX6_fill_61 hl (k := 1) rfl (nI_1 _) (by decide) rfl (fun ls hl => ?_)
          refine lv_goto (tgt := 24) hx hb dX6_fill_64 (by decide) ?_
          exact ih24 (i + 1) (va_up sh1 i ((bset cl (2 + i) (vw * ro)) >>> (bxt vw (bset cl (2 + i) (vw * ro)) (vw * ro) * vw + bxl vw (bset cl (2 + i) (vw * ro)) (vw * ro)))) (va_up bw1 i (bxr vw (bset cl (2 + i) (vw * ro)) (vw * ro) - bxl vw (bset cl (2 + i) (vw * ro)) (vw * ro) + 1)) (va_up bh1 i (bxb vw (bset cl (2 + i) (vw * ro)) (vw * ro) - bxt vw (bset cl (2 + i) (vw * ro)) (vw * ro) + 1)) (va_up ps1 i (bxt vw (bset cl (2 + i) (vw * ro)) (vw * ro) * vw + bxl vw (bset cl (2 + i) (vw * ro)) (vw * ro))) (by omega) (SHP_s (G := (fun b => bset cl (2 + b) (vw * ro))) i1) (lt_s i2 c43) (by omega) _ _ hP hD hS _ (lv_sub hl [0, 2, 3] rfl)
        · have _ : True := trivial
          refine lv_aload_n hx hb dX6_fill_46 rfl (lv_at hl 2 rfl) ?_
          refine lv_aload_n hx hb dX6_fill_47 rfl (lv_at hl 2 rfl) ?_
          refine lv_iload_n hx hb dX6_fill_48 rfl (lv_at hl 1 rfl) ?_
          refine callV_i (As := [.int (nI i)]) (rest := [.ref vo]) [0, 1, 2, 3] hC hK hN hP hD rfl (by decide) hS 0 (ci := 6) rfl rfl rfl (c_X6_firstCell l D cI cJ cB vo vsa vca vla ln all q vw ro row tx ca la i (by omega) (fun i h => by rw [hca i h]; have := hc i h; omega) (by omega) (by obtain ⟨i9, h1, h2, -⟩ := hfa i (by omega); exact ⟨i9, h1, by rw [hca i9 h1]; exact h2⟩)) q350 md_X6_firstCell rfl hl.1 rfl (Nat.le_of_ble_eq_true rfl) dX6_fill_49 ⟨Nat.le_of_ble_eq_true rfl, Nat.le_of_ble_eq_true rfl⟩ ⟨Nat.le_of_ble_eq_true rfl, Nat.le_of_ble_eq_true rfl⟩ (fun r_49 w H locs hpost hP hD hS => ?_)
          obtain ⟨fc_49, rfl, rfl, h49_f1, h49_f2⟩ := hpost
          have hP : va_P D vwCl (fW cI cJ cB vo vsa vca vla (nI ln) (nI all) (nI q) (nI vw) (nI ro) (nI row) (fun zz => nI (tx zz)) (fun zz => tI (ca zz)) (fun zz => nI (la zz)) h hs hw hh hp (nI se) (nI vw) (nI ro) (nI (bset cl 1 (vw * ro))) (nI i) (nI (topv vw)) (nI (rcv vw ro)) (nI (btv vw ro)) (nI (lcv vw ro)) (gI none) (gI none) 0 0 (gI none) (fun zz => nI (sh1 zz)) (fun zz => nI (bw1 zz)) (fun zz => nI (bh1 zz)) (fun zz => nI (ps1 zz))) H := hP
          have hD : va_D A (fW cI cJ cB vo vsa vca vla (nI ln) (nI all) (nI q) (nI vw) (nI ro) (nI row) (fun zz => nI (tx zz)) (fun zz => tI (ca zz)) (fun zz => nI (la zz)) h hs hw hh hp (nI se) (nI vw) (nI ro) (nI (bset cl 1 (vw * ro))) (nI i) (nI (topv vw)) (nI (rcv vw ro)) (nI (btv vw ro)) (nI (lcv vw ro)) (gI none) (gI none) 0 0 (gI none) (fun zz => nI (sh1 zz)) (fun zz => nI (bw1 zz)) (fun zz => nI (bh1 zz)) (fun zz => nI (ps1 zz))) := hD
          refine callV_i (As := [.int (nI fc_49)]) (rest := []) [0, 1, 2, 3] hC hK hN hP hD rfl (by decide) hS 0 (ci := 6) rfl rfl rfl (c_X6_textIndex l D cI cJ cB vo vsa vca vla ln all q vw ro row tx ca la fc_49 (by omega) (by omega) (by omega)) q354 md_X6_textIndex rfl hl.1 rfl (Nat.le_of_ble_eq_true rfl) dX6_fill_52 ⟨Nat.le_of_ble_eq_true rfl, Nat.le_of_ble_eq_true rfl⟩ ⟨Nat.le_of_ble_eq_true rfl, Nat.le_of_ble_eq_true rfl⟩ (fun r_52 w H locs hpost hP hD hS => ?_)
          obtain ⟨rfl, rfl⟩ := hpost
          have hP : va_P D vwCl (fW cI cJ cB vo vsa vca vla (nI ln) (nI all) (nI q) (nI vw) (nI ro) (nI row) (fun zz => nI (tx zz)) (fun zz => tI (ca zz)) (fun zz => nI (la zz)) h hs hw hh hp (nI se) (nI vw) (nI ro) (nI (bset cl 1 (vw * ro))) (nI i) (nI (topv vw)) (nI (rcv vw ro)) (nI (btv vw ro)) (nI (lcv vw ro)) (gI none) (gI none) 0 0 (gI none) (fun zz => nI (sh1 zz)) (fun zz => nI (bw1 zz)) (fun zz => nI (bh1 zz)) (fun zz => nI (ps1 zz))) H := hP
          have hD : va_D A (fW cI cJ cB vo vsa vca vla (nI ln) (nI all) (nI q) (nI vw) (nI ro) (nI row) (fun zz => nI (tx zz)) (fun zz => tI (ca zz)) (fun zz => nI (la zz)) h hs hw hh hp (nI se) (nI vw) (nI ro) (nI (bset cl 1 (vw * ro))) (nI i) (nI (topv vw)) (nI (rcv vw ro)) (nI (btv vw ro)) (nI (lcv vw ro)) (gI none) (gI none) 0 0 (gI none) (fun zz => nI (sh1 zz)) (fun zz => nI (bw1 zz)) (fun zz => nI (bh1 zz)) (fun zz => nI (ps1 zz))) := hD
          obtain ⟨i9, k1, k2, k3, k4⟩ := hfa i (by omega)
          have k5 := firstc_u (firstc_c hca h49_f1 h49_f2) ⟨k2, k3⟩
          have k6 : fc_49 / vw ≤ fc_49 := Nat.div_le_self _ _
          rw [hQ]
          exact W.iret (v := nI (fc_49 + fc_49 / vw)) hx hb hr (fun t9 ht hW => ⟨⟨_, _, rfl, ⟨vw, ro, i, bset cl 1 (vw * ro), 0, 0, none, none, none, sh1, bw1, bh1, ps1, rfl, Or.inl ⟨fc_49 + fc_49 / vw, Or.inr ⟨vw, ro, all, cl, q, lt, fa, i, hpa, by omega, by rw [hal]; exact i2, by rw [hal]; exact c43, by rw [k5, k4]⟩, by omega, rfl⟩⟩, by rw [ht]; exact hP, rfl⟩, hS.F ht⟩) hS.2.2 dX6_fill_55
  exact L24 _ 0 bsh bwd bhg bsp (by omega) (fun b h => absurd h (Nat.not_lt_zero b)) (fun b h => absurd h (Nat.not_lt_zero b)) (Nat.lt_succ_self _) _ _ hP hD hS _ (lv_sub hl [0, 1, 2] rfl)

set_option maxHeartbeats 400000 in
set_option maxRecDepth 100000 in
theorem c_X6_parse (l : Launch) (D : va_G) (cI cJ cB : ClassId) (vo vsa vca vla ln all0 k0 vw0 ro0 row0 : Nat) (tx cl0 lt0 : Nat → Nat) (h hs hw hh hp se wd hd nb wl : Nat) (st sl : Int32) (gl aq lb : Option Nat) (sh bw bh ps : Nat → Nat) (hln : ln ≤ 40) (htx : ∀ i, tx i < 2 ^ 20) : Met l yX6_parse (Cond.code yX6_parse cX6_parse 4 (some .int) :: lw_all) (rmN 4) (va_Pc [.ref vo, .ref h] (pB D (tyz cI cJ cB) (fW cI cJ cB vo vsa vca vla (nI ln) (nI all0) (nI k0) (nI vw0) (nI ro0) (nI row0) (fun zz => nI (tx zz)) (fun zz => tI (cl0 zz)) (fun zz => nI (lt0 zz)) h hs hw hh hp (nI se) (nI wd) (nI hd) (nI wl) (nI nb) (nI (topv wd)) (nI (rcv wd hd)) (nI (btv wd hd)) (nI (lcv wd hd)) (gI gl) (gI aq) st sl (gI lb) (fun zz => nI (sh zz)) (fun zz => nI (bw zz)) (fun zz => nI (bh zz)) (fun zz => nI (ps zz))))) (va_Qi (fun (r : Int32) (w : va_W) => ∃ all2 : Nat, ∃ k2 : Nat, ∃ vw2 : Nat, ∃ ro2 : Nat, ∃ row2 : Nat, ∃ cl2 : Nat → Nat, ∃ lt9 : Nat → Nat, ∃ wd2 : Nat, ∃ hd2 : Nat, ∃ nb2 : Nat, ∃ wl2 : Nat, ∃ st2 : Int32, ∃ sl2 : Int32, ∃ gl2 : Option Nat, ∃ aq2 : Option Nat, ∃ lb2 : Option Nat, ∃ sh2 : Nat → Nat, ∃ bw2 : Nat → Nat, ∃ bh2 : Nat → Nat, ∃ ps2 : Nat → Nat, w = fW cI cJ cB vo vsa vca vla (nI ln) (nI all2) (nI k2) (nI vw2) (nI ro2) (nI row2) (fun zz => nI (tx zz)) (fun zz => tI (cl2 zz)) (fun zz => nI (lt9 zz)) h hs hw hh hp (nI se) (nI wd2) (nI hd2) (nI wl2) (nI nb2) (nI (topv wd2)) (nI (rcv wd2 hd2)) (nI (btv wd2 hd2)) (nI (lcv wd2 hd2)) (gI gl2) (gI aq2) st2 sl2 (gI lb2) (fun zz => nI (sh2 zz)) (fun zz => nI (bw2 zz)) (fun zz => nI (bh2 zz)) (fun zz => nI (ps2 zz)) ∧ PRS tx ln r wd2 hd2 nb2 wl2 st2 sl2 gl2 aq2 lb2 sh2 bw2 bh2 ps2) (gB D (fW cI cJ cB vo vsa vca vla (nI ln) (nI all0) (nI k0) (nI vw0) (nI ro0) (nI row0) (fun zz => nI (tx zz)) (fun zz => tI (cl0 zz)) (fun zz => nI (lt0 zz)) h hs hw hh hp (nI se) (nI wd) (nI hd) (nI wl) (nI nb) (nI (topv wd)) (nI (rcv wd hd)) (nI (btv wd hd)) (nI (lcv wd hd)) (gI gl) (gI aq) st sl (gI lb) (fun zz => nI (sh zz)) (fun zz => nI (bw zz)) (fun zz => nI (bh zz)) (fun zz => nI (ps zz)))) (aW (fW cI cJ cB vo vsa vca vla (nI ln) (nI all0) (nI k0) (nI vw0) (nI ro0) (nI row0) (fun zz => nI (tx zz)) (fun zz => tI (cl0 zz)) (fun zz => nI (lt0 zz)) h hs hw hh hp (nI se) (nI wd) (nI hd) (nI wl) (nI nb) (nI (topv wd)) (nI (rcv wd hd)) (nI (btv wd hd)) (nI (lcv wd hd)) (gI gl) (gI aq) st sl (gI lb) (fun zz => nI (sh zz)) (fun zz => nI (bw zz)) (fun zz => nI (bh zz)) (fun zz => nI (ps zz))))) 0 0 (aW (fW cI cJ cB vo vsa vca vla (nI ln) (nI all0) (nI k0) (nI vw0) (nI ro0) (nI row0) (fun zz => nI (tx zz)) (fun zz => tI (cl0 zz)) (fun zz => nI (lt0 zz)) h hs hw hh hp (nI se) (nI wd) (nI hd) (nI wl) (nI nb) (nI (topv wd)) (nI (rcv wd hd)) (nI (btv wd hd)) (nI (lcv wd hd)) (gI gl) (gI aq) st sl (gI lb) (fun zz => nI (sh zz)) (fun zz => nI (bw zz)) (fun zz => nI (bh zz)) (fun zz => nI (ps zz)))) := by
  refine Met.ofW (cc := cX6_parse) (maxL := 4) (ret := (some .int)) (by decide) rfl ?_
  intro p e s m args below meth c s₁ B hml hv
  obtain ⟨rfl, hK, hN, hP, hD0⟩ := hv
  have hx := B.exec; have hb := B.bytes; have hr := B.returns; have hlocks := B.notSynchronized
  have hts0 := atoms_spec (ws := Cond.code yX6_parse cX6_parse 4 (some .int) :: lw_all) B.pre
  have hC : CallFix p m c cX6_parse 4 s _ lw_all RX6 := ⟨hx, hb, hml, findClass_of_methodNamed B.named, fun w h => hts0 w (List.mem_cons_of_mem _ h)⟩
  have hD : va_D (aW (fW cI cJ cB vo vsa vca vla (nI ln) (nI all0) (nI k0) (nI vw0) (nI ro0) (nI row0) (fun zz => nI (tx zz)) (fun zz => tI (cl0 zz)) (fun zz => nI (lt0 zz)) h hs hw hh hp (nI se) (nI wd) (nI hd) (nI wl) (nI nb) (nI (topv wd)) (nI (rcv wd hd)) (nI (btv wd hd)) (nI (lcv wd hd)) (gI gl) (gI aq) st sl (gI lb) (fun zz => nI (sh zz)) (fun zz => nI (bw zz)) (fun zz => nI (bh zz)) (fun zz => nI (ps zz)))) (fW cI cJ cB vo vsa vca vla (nI ln) (nI all0) (nI k0) (nI vw0) (nI ro0) (nI row0) (fun zz => nI (tx zz)) (fun zz => tI (cl0 zz)) (fun zz => nI (lt0 zz)) h hs hw hh hp (nI se) (nI wd) (nI hd) (nI wl) (nI nb) (nI (topv wd)) (nI (rcv wd hd)) (nI (btv wd hd)) (nI (lcv wd hd)) (gI gl) (gI aq) st sl (gI lb) (fun zz => nI (sh zz)) (fun zz => nI (bw zz)) (fun zz => nI (bh zz)) (fun zz => nI (ps zz))) := ⟨hD0.1, fun k q h => ⟨k, q.2, h⟩⟩
  generalize hAe : aW (fW cI cJ cB vo vsa vca vla (nI ln) (nI all0) (nI k0) (nI vw0) (nI ro0) (nI row0) (fun zz => nI (tx zz)) (fun zz => tI (cl0 zz)) (fun zz => nI (lt0 zz)) h hs hw hh hp (nI se) (nI wd) (nI hd) (nI wl) (nI nb) (nI (topv wd)) (nI (rcv wd hd)) (nI (btv wd hd)) (nI (lcv wd hd)) (gI gl) (gI aq) st sl (gI lb) (fun zz => nI (sh zz)) (fun zz => nI (bw zz)) (fun zz => nI (bh zz)) (fun zz => nI (ps zz))) = A at hD ⊢
  have hS : va_S A s.heap s.heap [] := va_S.rf
  have hl := lv_entry ([.ref vo, .ref h]) (n := 4) (Nat.le_of_ble_eq_true rfl)
  rw [lg_entry_eq]
  generalize (lg_sl ([.ref vo, .ref h]) ++ List.replicate (4 - (lg_sl ([.ref vo, .ref h])).length) Slot.unset).toArray = ls at hl ⊢
  have hl : lv_has ls 4 [(0, .ref vo), (1, .ref h)] := hl
  generalize hav : ([.ref vo, .ref h] : List Value).toArray = args at hC ⊢
  refine W_gen (fun QQ hQ => ?_)
  show W p l e (rmN 4) s m args below meth c s.heap [] 0 0 QQ (F0 m 0 ls [])
  refine lv_aload_n hx hb dX6_parse_0 rfl (lv_at hl 0 rfl) ?_
  refine callV_v (As := []) (rest := []) [0, 1, 2, 3] hC hK hN hP hD rfl (by decide) hS 0 (ci := 6) rfl rfl rfl (c_X6_startParse l D cI cJ cB vo vsa vca vla ln all0 k0 vw0 ro0 row0 tx cl0 lt0 ) q311 md_X6_startParse rfl hl.1 rfl (Nat.le_of_ble_eq_true rfl) dX6_parse_1 ⟨Nat.le_of_ble_eq_true rfl, Nat.le_of_ble_eq_true rfl⟩ ⟨Nat.le_of_ble_eq_true rfl, Nat.le_of_ble_eq_true rfl⟩ (fun w H locs hpost hP hD hS => ?_)
  obtain rfl := hpost
  have hP : va_P D vwCl (fW cI cJ cB vo vsa vca vla (nI ln) (nI 0) (nI 0) (nI 0) (nI 1) (nI 0) (fun zz => nI (tx zz)) (fun zz => tI (cl0 zz)) (fun zz => nI (lt0 zz)) h hs hw hh hp (nI se) (nI wd) (nI hd) (nI wl) (nI nb) (nI (topv wd)) (nI (rcv wd hd)) (nI (btv wd hd)) (nI (lcv wd hd)) (gI gl) (gI aq) st sl (gI lb) (fun zz => nI (sh zz)) (fun zz => nI (bw zz)) (fun zz => nI (bh zz)) (fun zz => nI (ps zz))) H := hP
  have hD : va_D A (fW cI cJ cB vo vsa vca vla (nI ln) (nI 0) (nI 0) (nI 0) (nI 1) (nI 0) (fun zz => nI (tx zz)) (fun zz => tI (cl0 zz)) (fun zz => nI (lt0 zz)) h hs hw hh hp (nI se) (nI wd) (nI hd) (nI wl) (nI nb) (nI (topv wd)) (nI (rcv wd hd)) (nI (btv wd hd)) (nI (lcv wd hd)) (gI gl) (gI aq) st sl (gI lb) (fun zz => nI (sh zz)) (fun zz => nI (bw zz)) (fun zz => nI (bh zz)) (fun zz => nI (ps zz))) := hD
  refine lv_iconst (v := nI 0) hx hb dX6_parse_4 (by decide) ?_
  refine lv_istore_n (lv' := [(2, .int (nI 0)), (0, .ref vo), (1, .ref h)]) hx hb dX6_parse_5 rfl hl (by decide) rfl (fun ls hl => ?_)
  have L6 : ∀ (n : Nat) (i : Nat) (wi : Nat) (hi : Nat) (row : Nat) (all : Nat) (cl : Nat → Nat) (q : Nat) (lt : Nat → Nat) (fa : Nat → Nat) (vw : Nat) (ca : Nat → Nat) (la : Nat → Nat), (i ≤ ln) → (prun tx i = .inr (wi, hi, row, all, cl, q, lt, fa)) → (vw = (if hi = 0 then row else wi)) → (∀ j, j < all → ca j = cl j) → (∀ b, b < q → la b = lt b) → (ln - i) < n → ∀ (H : Heap) (locs : List Loc), va_P D vwCl (fW cI cJ cB vo vsa vca vla (nI ln) (nI all) (nI q) (nI vw) (nI (hi + 1)) (nI row) (fun zz => nI (tx zz)) (fun zz => tI (ca zz)) (fun zz => nI (la zz)) h hs hw hh hp (nI se) (nI wd) (nI hd) (nI wl) (nI nb) (nI (topv wd)) (nI (rcv wd hd)) (nI (btv wd hd)) (nI (lcv wd hd)) (gI gl) (gI aq) st sl (gI lb) (fun zz => nI (sh zz)) (fun zz => nI (bw zz)) (fun zz => nI (bh zz)) (fun zz => nI (ps zz))) H → va_D A (fW cI cJ cB vo vsa vca vla (nI ln) (nI all) (nI q) (nI vw) (nI (hi + 1)) (nI row) (fun zz => nI (tx zz)) (fun zz => tI (ca zz)) (fun zz => nI (la zz)) h hs hw hh hp (nI se) (nI wd) (nI hd) (nI wl) (nI nb) (nI (topv wd)) (nI (rcv wd hd)) (nI (btv wd hd)) (nI (lcv wd hd)) (gI gl) (gI aq) st sl (gI lb) (fun zz => nI (sh zz)) (fun zz => nI (bw zz)) (fun zz => nI (bh zz)) (fun zz => nI (ps zz))) → va_S A s.heap H locs → ∀ ls : Array Slot, lv_has ls 4 [(2, .int (nI i)), (0, .ref vo), (1, .ref h)] → W p l e (rmN 4) s m args below meth c H locs 0 0 QQ (F0 m 6 ls []) := by
    intro n; induction n with
    | zero => intro i wi hi row all cl q lt fa vw ca la ii ip iv ic il hm; exact absurd hm (Nat.not_lt_zero _)
    | succ n ih6 =>
      intro i wi hi row all cl q lt fa vw ca la ii ip iv ic il hm6 H locs hP hD hS ls hl
      have hpin := prun_inv htx i wi hi row all cl q lt fa ip
      have hxr := TXR_of hpin
      rw [← iv] at hxr
      obtain ⟨hvw6, hrow6⟩ := TXR_vw hxr
      obtain ⟨p1, p2, p3, p4, p5, p6, p7, p8, p9, p10, p11⟩ := _root_.id hpin
      refine lv_iload_n hx hb dX6_parse_6 rfl (lv_at hl 0 rfl) ?_
      refine lv_aload_n hx hb dX6_parse_7 rfl (lv_at hl 1 rfl) ?_
      refine gf_X6_15 hC hK hP 0 rfl rfl dX6_parse_8 ?_
      refine n_icmp_ge (a := i) (b := ln) (tgt := 64) hx hb dX6_parse_11 (by decide) (by omega) (by omega) (fun c11 => ?_) (fun c11 => ?_)
      · have _ : True := trivial
        have e11 : i = ln := by omega
        refine lv_aload_n hx hb dX6_parse_64 rfl (lv_at hl 1 rfl) ?_
        refine callV_i (As := []) (rest := []) [0, 1, 2, 3] hC hK hN hP hD rfl (by decide) hS 0 (ci := 6) rfl rfl rfl (c_X6_isRowWhole l D cI cJ cB vo vsa vca vla ln all q vw (hi + 1) row tx ca la (by omega) (by omega)) q319 md_X6_isRowWhole rfl hl.1 rfl (Nat.le_of_ble_eq_true rfl) dX6_parse_65 ⟨Nat.le_of_ble_eq_true rfl, Nat.le_of_ble_eq_true rfl⟩ ⟨Nat.le_of_ble_eq_true rfl, Nat.le_of_ble_eq_true rfl⟩ (fun r_65 w H locs hpost hP hD hS => ?_)
        obtain ⟨rfl, rfl⟩ := hpost
        have hP : va_P D vwCl (fW cI cJ cB vo vsa vca vla (nI ln) (nI all) (nI q) (nI vw) (nI (hi + 1)) (nI row) (fun zz => nI (tx zz)) (fun zz => tI (ca zz)) (fun zz => nI (la zz)) h hs hw hh hp (nI se) (nI wd) (nI hd) (nI wl) (nI nb) (nI (topv wd)) (nI (rcv wd hd)) (nI (btv wd hd)) (nI (lcv wd hd)) (gI gl) (gI aq) st sl (gI lb) (fun zz => nI (sh zz)) (fun zz => nI (bw zz)) (fun zz => nI (bh zz)) (fun zz => nI (ps zz))) H := hP
        have hD : va_D A (fW cI cJ cB vo vsa vca vla (nI ln) (nI all) (nI q) (nI vw) (nI (hi + 1)) (nI row) (fun zz => nI (tx zz)) (fun zz => tI (ca zz)) (fun zz => nI (la zz)) h hs hw hh hp (nI se) (nI wd) (nI hd) (nI wl) (nI nb) (nI (topv wd)) (nI (rcv wd hd)) (nI (btv wd hd)) (nI (lcv wd hd)) (gI gl) (gI aq) st sl (gI lb) (fun zz => nI (sh zz)) (fun zz => nI (bw zz)) (fun zz => nI (bh zz)) (fun zz => nI (ps zz))) := hD
        refine b_if_ne (tgt := 76) hx hb dX6_parse_68 (by decide) (fun c68 => ?_) (fun c68 => ?_)
        · have _ : True := trivial
          obtain ⟨w1, w2, w3⟩ := rwh_t hxr c68
          have hpe : pall tx ln = .inr (vw, hi + 1, 0, all, cl, q, lt, fa) := by rw [← e11, lay_end ip, if_neg (by omega), w3]
          have hfe : ∀ b, b < q → ∃ i, i < all ∧ cl i = 2 + b ∧ (∀ j, j < i → cl j ≠ 2 + b) ∧ fa b = i + i / vw := by rw [← w3]; exact PIN_end hpin (by omega) (by omega)
          have hal9 : all = vw * (hi + 1) := by rw [p5, Nat.mul_add, Nat.mul_one, ← w3]; by_cases e : hi = 0; (rw [e]; simp); (have : wi = row := by have := (p6 (by omega)).2; omega); rw [this, Nat.mul_comm]
          refine lv_aload_n hx hb dX6_parse_76 rfl (lv_at hl 1 rfl) ?_
          refine lv_aload_n hx hb dX6_parse_77 rfl (lv_at hl 2 rfl) ?_
          refine callV_i (As := [.ref h]) (rest := []) [0, 1, 2, 3, 4, 5, 6, 7, 8] hC hK hN hP hD rfl (by decide) hS 0 (ci := 6) rfl rfl rfl (c_X6_fill l D cI cJ cB vo vsa vca vla ln all q vw (hi + 1) row tx cl lt ca la se h hs hw hh hp (nI wd) (nI hd) (nI wl) (nI nb) (nI (topv wd)) (nI (rcv wd hd)) (nI (btv wd hd)) (nI (lcv wd hd)) (gI gl) (gI aq) st sl (gI lb) sh bw bh ps fa ic hpe (by omega) (by omega) (by omega) (by omega) (by omega) (by omega) (by omega) p10 hfe) q337 md_X6_fill rfl hl.1 rfl (Nat.le_of_ble_eq_true rfl) dX6_parse_78 ⟨Nat.le_of_ble_eq_true rfl, Nat.le_of_ble_eq_true rfl⟩ ⟨Nat.le_of_ble_eq_true rfl, Nat.le_of_ble_eq_true rfl⟩ (fun r_78 w H locs hpost hP hD hS => ?_)
          obtain ⟨wd2_78, hd2_78, nb2_78, wl2_78, st2_78, sl2_78, gl2_78, aq2_78, lb2_78, sh2_78, bw2_78, bh2_78, ps2_78, rfl, h78_pr⟩ := hpost
          have hP : va_P D vwCl (fW cI cJ cB vo vsa vca vla (nI ln) (nI all) (nI q) (nI vw) (nI (hi + 1)) (nI row) (fun zz => nI (tx zz)) (fun zz => tI (ca zz)) (fun zz => nI (la zz)) h hs hw hh hp (nI se) (nI wd2_78) (nI hd2_78) (nI wl2_78) (nI nb2_78) (nI (topv wd2_78)) (nI (rcv wd2_78 hd2_78)) (nI (btv wd2_78 hd2_78)) (nI (lcv wd2_78 hd2_78)) (gI gl2_78) (gI aq2_78) st2_78 sl2_78 (gI lb2_78) (fun zz => nI (sh2_78 zz)) (fun zz => nI (bw2_78 zz)) (fun zz => nI (bh2_78 zz)) (fun zz => nI (ps2_78 zz))) H := hP
          have hD : va_D A (fW cI cJ cB vo vsa vca vla (nI ln) (nI all) (nI q) (nI vw) (nI (hi + 1)) (nI row) (fun zz => nI (tx zz)) (fun zz => tI (ca zz)) (fun zz => nI (la zz)) h hs hw hh hp (nI se) (nI wd2_78) (nI hd2_78) (nI wl2_78) (nI nb2_78) (nI (topv wd2_78)) (nI (rcv wd2_78 hd2_78)) (nI (btv wd2_78 hd2_78)) (nI (lcv wd2_78 hd2_78)) (gI gl2_78) (gI aq2_78) st2_78 sl2_78 (gI lb2_78) (fun zz => nI (sh2_78 zz)) (fun zz => nI (bw2_78 zz)) (fun zz => nI (bh2_78 zz)) (fun zz => nI (ps2_78 zz))) := hD
          rw [hQ]
          exact W.iret (v := r_78) hx hb hr (fun t9 ht hW => ⟨⟨_, _, rfl, ⟨all, q, vw, (hi + 1), row, ca, la, wd2_78, hd2_78, nb2_78, wl2_78, st2_78, sl2_78, gl2_78, aq2_78, lb2_78, sh2_78, bw2_78, bh2_78, ps2_78, rfl, h78_pr⟩, by rw [ht]; exact hP, rfl⟩, hS.F ht⟩) hS.2.2 dX6_parse_81
        · have _ : True := trivial
          have hrf := rwh_f hxr c68
          have hpn : pall tx ln = .inl ln := by rw [← e11, lay_end ip, if_pos hrf]
          refine lv_aload_n hx hb dX6_parse_71 rfl (lv_at hl 1 rfl) ?_
          refine gf_X6_15 hC hK hP 0 rfl rfl dX6_parse_72 ?_
          rw [hQ]
          exact W.iret (v := nI ln) hx hb hr (fun t9 ht hW => ⟨⟨_, _, rfl, ⟨all, q, vw, (hi + 1), row, ca, la, wd, hd, nb, wl, st, sl, gl, aq, lb, sh, bw, bh, ps, rfl, Or.inl ⟨ln, Or.inl hpn, by omega, rfl⟩⟩, by rw [ht]; exact hP, rfl⟩, hS.F ht⟩) hS.2.2 dX6_parse_75
      · have _ : True := trivial
        refine lv_iload_n hx hb dX6_parse_14 rfl (lv_at hl 0 rfl) ?_
        refine lv_aload_n hx hb dX6_parse_15 rfl (lv_at hl 1 rfl) ?_
        refine gf_X6_9 hC hK hP 0 rfl rfl dX6_parse_16 ?_
        refine va_alen hx hb hK hP 1 0 rfl rfl (v := nI 40) rfl dX6_parse_19 ?_
        refine n_icmp_ge (a := i) (b := 40) (tgt := 64) hx hb dX6_parse_20 (by decide) (by omega) (by omega) (fun c20 => ?_) (fun c20 => ?_)
        · have _ : True := trivial
          exact absurd c20 (by omega)
        · have _ : True := trivial
          refine lv_aload_n hx hb dX6_parse_23 rfl (lv_at hl 1 rfl) ?_
          refine gf_X6_9 hC hK hP 0 rfl rfl dX6_parse_24 ?_
          refine lv_iload_n hx hb dX6_parse_27 rfl (lv_at hl 0 rfl) ?_
          refine n_iald hx hb hK hP 1 0 rfl rfl (by omega) (by first | decide | omega) dX6_parse_28 ?_
          refine lv_bipush (v := nI 47) hx hb dX6_parse_29 (by decide) ?_
          refine n_icmp_ne (a := tx i) (b := 47) (tgt := 41) hx hb dX6_parse_31 (by decide) (by have := htx i; omega) (by omega) (fun c31 => ?_) (fun c31 => ?_)
          · have _ : True := trivial
            refine lv_aload_n hx hb dX6_parse_41 rfl (lv_at hl 1 rfl) ?_
            refine lv_aload_n hx hb dX6_parse_42 rfl (lv_at hl 1 rfl) ?_
            refine gf_X6_9 hC hK hP 0 rfl rfl dX6_parse_43 ?_
            refine lv_iload_n hx hb dX6_parse_46 rfl (lv_at hl 0 rfl) ?_
            refine n_iald hx hb hK hP 1 0 rfl rfl (by omega) (by first | decide | omega) dX6_parse_47 ?_
            refine callV_i (As := [.int (nI (tx i))]) (rest := []) [0, 1, 2, 3] hC hK hN hP hD rfl (by decide) hS 0 (ci := 6) rfl rfl rfl (c_X6_addCell l D cI cJ cB vo vsa vca vla ln all q vw hi row tx ca la wi (tx i) hxr (htx i) c31 (fun b h => by rw [il b h]; exact p9 b h)) q323 md_X6_addCell rfl hl.1 rfl (Nat.le_of_ble_eq_true rfl) dX6_parse_48 ⟨Nat.le_of_ble_eq_true rfl, Nat.le_of_ble_eq_true rfl⟩ ⟨Nat.le_of_ble_eq_true rfl, Nat.le_of_ble_eq_true rfl⟩ (fun r_48 w H locs hpost hP hD hS => ?_)
            obtain ⟨z_48, row2_48, all2_48, q2_48, vw2_48, cl2_48, lt9_48, rfl, rfl, h48_ac⟩ := hpost
            have hP : va_P D vwCl (fW cI cJ cB vo vsa vca vla (nI ln) (nI all2_48) (nI q2_48) (nI vw2_48) (nI (hi + 1)) (nI row2_48) (fun zz => nI (tx zz)) (fun zz => tI (cl2_48 zz)) (fun zz => nI (lt9_48 zz)) h hs hw hh hp (nI se) (nI wd) (nI hd) (nI wl) (nI nb) (nI (topv wd)) (nI (rcv wd hd)) (nI (btv wd hd)) (nI (lcv wd hd)) (gI gl) (gI aq) st sl (gI lb) (fun zz => nI (sh zz)) (fun zz => nI (bw zz)) (fun zz => nI (bh zz)) (fun zz => nI (ps zz))) H := hP
            have hD : va_D A (fW cI cJ cB vo vsa vca vla (nI ln) (nI all2_48) (nI q2_48) (nI vw2_48) (nI (hi + 1)) (nI row2_48) (fun zz => nI (tx zz)) (fun zz => tI (cl2_48 zz)) (fun zz => nI (lt9_48 zz)) h hs hw hh hp (nI se) (nI wd) (nI hd) (nI wl) (nI nb) (nI (topv wd)) (nI (rcv wd hd)) (nI (btv wd hd)) (nI (lcv wd hd)) (gI gl) (gI aq) st sl (gI lb) (fun zz => nI (sh zz)) (fun zz => nI (bw zz)) (fun zz => nI (bh zz)) (fun zz => nI (ps zz))) := hD
            refine lv_istore_n (lv' := [(3, .int (bI z_48)), (2, .int (nI i)), (0, .ref vo), (1, .ref h)]) hx hb dX6_parse_51 rfl hl (by decide) rfl (fun ls hl => ?_)
            refine lv_iload_n hx hb dX6_parse_52 rfl (lv_at hl 0 rfl) ?_
            refine b_if_ne (tgt := 58) hx hb dX6_parse_53 (by decide) (fun c53 => ?_) (fun c53 => ?_)
            · have _ : True := trivial
              rcases ADC_c c31 ic il h48_ac with ⟨h, -⟩ | ⟨-, v, h1, rfl, rfl, rfl, rfl, rfl, rfl, g1, g2⟩
              · rw [h] at c53; cases c53
              have hps := h1 i fa
              refine lv_iinc (v := nI (i + 1)) (lv' := [(2, .int (nI (i + 1))), (3, .int (bI z_48)), (0, .ref vo), (1, .ref h)]) hx hb dX6_parse_58 hl (k := 1) rfl (nI_1 _) (by decide) rfl (fun ls hl => ?_)
              refine lv_goto (tgt := 6) hx hb dX6_parse_61 (by decide) ?_
              exact ih6 (i + 1) wi hi (row + 1) (all + 1) (va_up cl all v) (m2 lt q (tx i)) (lt2 lt q (tx i)) (fa2 lt q (tx i) fa i) (if hi = 0 then row + 1 else wi) (va_up ca all v) (lt2 la q (tx i)) (by omega) (prun_s ip hps) rfl g1 g2 (by omega) _ _ hP hD hS _ (lv_sub hl [0, 2, 3] rfl)
            · have _ : True := trivial
              rcases ADC_c c31 ic il h48_ac with ⟨-, h1⟩ | ⟨h, -⟩
              rotate_left
              · rw [h] at c53; cases c53
              have hpn := lay_bad (prun_n ip (h1 i fa) ln (by omega))
              refine lv_iload_n hx hb dX6_parse_56 rfl (lv_at hl 1 rfl) ?_
              rw [hQ]
              exact W.iret (v := nI i) hx hb hr (fun t9 ht hW => ⟨⟨_, _, rfl, ⟨all2_48, q2_48, vw2_48, (hi + 1), row2_48, cl2_48, lt9_48, wd, hd, nb, wl, st, sl, gl, aq, lb, sh, bw, bh, ps, rfl, Or.inl ⟨i, Or.inl hpn, by omega, rfl⟩⟩, by rw [ht]; exact hP, rfl⟩, hS.F ht⟩) hS.2.2 dX6_parse_57
          · have _ : True := trivial
            refine lv_aload_n hx hb dX6_parse_34 rfl (lv_at hl 1 rfl) ?_
            refine callV_i (As := []) (rest := []) [0, 1, 2, 3] hC hK hN hP hD rfl (by decide) hS 0 (ci := 6) rfl rfl rfl (c_X6_endRow l D cI cJ cB vo vsa vca vla ln all q vw (hi + 1) row tx ca la (by omega) (by omega) (by omega)) q315 md_X6_endRow rfl hl.1 rfl (Nat.le_of_ble_eq_true rfl) dX6_parse_35 ⟨Nat.le_of_ble_eq_true rfl, Nat.le_of_ble_eq_true rfl⟩ ⟨Nat.le_of_ble_eq_true rfl, Nat.le_of_ble_eq_true rfl⟩ (fun r_35 w H locs hpost hP hD hS => ?_)
            obtain ⟨z_35, ro2_35, row2_35, rfl, rfl, h35_er⟩ := hpost
            have hP : va_P D vwCl (fW cI cJ cB vo vsa vca vla (nI ln) (nI all) (nI q) (nI vw) (nI ro2_35) (nI row2_35) (fun zz => nI (tx zz)) (fun zz => tI (ca zz)) (fun zz => nI (la zz)) h hs hw hh hp (nI se) (nI wd) (nI hd) (nI wl) (nI nb) (nI (topv wd)) (nI (rcv wd hd)) (nI (btv wd hd)) (nI (lcv wd hd)) (gI gl) (gI aq) st sl (gI lb) (fun zz => nI (sh zz)) (fun zz => nI (bw zz)) (fun zz => nI (bh zz)) (fun zz => nI (ps zz))) H := hP
            have hD : va_D A (fW cI cJ cB vo vsa vca vla (nI ln) (nI all) (nI q) (nI vw) (nI ro2_35) (nI row2_35) (fun zz => nI (tx zz)) (fun zz => tI (ca zz)) (fun zz => nI (la zz)) h hs hw hh hp (nI se) (nI wd) (nI hd) (nI wl) (nI nb) (nI (topv wd)) (nI (rcv wd hd)) (nI (btv wd hd)) (nI (lcv wd hd)) (gI gl) (gI aq) st sl (gI lb) (fun zz => nI (sh zz)) (fun zz => nI (bw zz)) (fun zz => nI (bh zz)) (fun zz => nI (ps zz))) := hD
            refine lv_goto (tgt := 51) hx hb dX6_parse_38 (by decide) ?_
            refine lv_istore_n (lv' := [(3, .int (bI z_35)), (2, .int (nI i)), (0, .ref vo), (1, .ref h)]) hx hb dX6_parse_51 rfl hl (by decide) rfl (fun ls hl => ?_)
            refine lv_iload_n hx hb dX6_parse_52 rfl (lv_at hl 0 rfl) ?_
            refine b_if_ne (tgt := 58) hx hb dX6_parse_53 (by decide) (fun c53 => ?_) (fun c53 => ?_)
            · have _ : True := trivial
              rcases h35_er with ⟨h, -⟩ | ⟨-, h1, h2, rfl, rfl⟩
              · rw [h] at c53; cases c53
              obtain ⟨w1, w2, w3⟩ := rwh_t hxr h1
              have hps := pst_bar_ok (k := i) (all := all) (cl := cl) (m := q) (lt := lt) (fa := fa) c31 w1 w2 (show hi ≠ 5 by omega)
              refine lv_iinc (v := nI (i + 1)) (lv' := [(2, .int (nI (i + 1))), (3, .int (bI z_35)), (0, .ref vo), (1, .ref h)]) hx hb dX6_parse_58 hl (k := 1) rfl (nI_1 _) (by decide) rfl (fun ls hl => ?_)
              refine lv_goto (tgt := 6) hx hb dX6_parse_61 (by decide) ?_
              exact ih6 (i + 1) row (hi + 1) 0 all cl q lt fa vw ca la (by omega) (prun_s ip hps) (by rw [if_neg (by omega), w3]) ic il (by omega) _ _ hP hD hS _ (lv_sub hl [0, 2, 3] rfl)
            · have _ : True := trivial
              rcases h35_er with ⟨-, h1, -, -⟩ | ⟨h, -⟩
              rotate_left
              · rw [h] at c53; cases c53
              have hpn := lay_bad (prun_n ip (pst_bar_no (k := i) (all := all) (cl := cl) (m := q) (lt := lt) (fa := fa) c31 (by rcases h1 with h1 | h1; (rcases rwh_f hxr h1 with h | h; exact Or.inl h; exact Or.inr (Or.inl h)); exact Or.inr (Or.inr (by omega)))) ln (by omega))
              refine lv_iload_n hx hb dX6_parse_56 rfl (lv_at hl 1 rfl) ?_
              rw [hQ]
              exact W.iret (v := nI i) hx hb hr (fun t9 ht hW => ⟨⟨_, _, rfl, ⟨all, q, vw, ro2_35, row2_35, ca, la, wd, hd, nb, wl, st, sl, gl, aq, lb, sh, bw, bh, ps, rfl, Or.inl ⟨i, Or.inl hpn, by omega, rfl⟩⟩, by rw [ht]; exact hP, rfl⟩, hS.F ht⟩) hS.2.2 dX6_parse_57
  exact L6 _ 0 0 0 0 0 (fun _ => 0) 0 (fun _ => 0) (fun _ => 0) 0 cl0 lt0 (by omega) rfl rfl (fun j h => absurd h (Nat.not_lt_zero j)) (fun j h => absurd h (Nat.not_lt_zero j)) (Nat.lt_succ_self _) _ _ hP hD hS _ (lv_sub hl [0, 1, 2] rfl)
