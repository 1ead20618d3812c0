set_option maxHeartbeats 400000 in
set_option maxRecDepth 100000 in
theorem c_X0_directions (l : Launch) (D : va_G) (cI cJ cB : ClassId) (h hs hw hh hp se wd hd nb wl : Nat) (st sl : Int32) (gl aq lb : Option Nat) (sh bw bh ps : Nat → Nat) (cc ot s9 w9 h9 p9 : Nat) (hcc : cc = s9 <<< p9) (hw1 : 1 ≤ wd) (hw6 : wd ≤ 6) (hd1 : 1 ≤ hd) (hs9 : ShV wd hd s9 w9 h9) (hp9 : PlV wd hd w9 h9 p9) (hc31 : cc < 2 ^ 31) (hot : ot < 2 ^ 31) : Met l yX0_directions (Cond.code yX0_directions cX0_directions 4 (some .int) :: lw_all) (rmN 0) (va_Pc [.ref h, .int (nI cc), .int (nI ot)] (pB D (tyz cI cJ cB) (bW cI cJ cB h hs hw hh hp (nI se) (nI wd) (nI hd) (nI wl) (nI nb) (nI (topv wd)) (nI (rcv wd hd)) (nI (btv wd hd)) (nI (lcv wd hd)) (gI gl) (gI aq) st sl (gI lb) (fun zz => nI (sh zz)) (fun zz => nI (bw zz)) (fun zz => nI (bh zz)) (fun zz => nI (ps zz))))) (va_Qi (fun (r : Int32) (w : va_W) => r = nI (dset (fun d => mvt wd hd w9 h9 s9 ot p9 d) 4) ∧ w = bW cI cJ cB h hs hw hh hp (nI se) (nI wd) (nI hd) (nI wl) (nI nb) (nI (topv wd)) (nI (rcv wd hd)) (nI (btv wd hd)) (nI (lcv wd hd)) (gI gl) (gI aq) st sl (gI lb) (fun zz => nI (sh zz)) (fun zz => nI (bw zz)) (fun zz => nI (bh zz)) (fun zz => nI (ps zz))) (gB D (bW cI cJ cB h hs hw hh hp (nI se) (nI wd) (nI hd) (nI wl) (nI nb) (nI (topv wd)) (nI (rcv wd hd)) (nI (btv wd hd)) (nI (lcv wd hd)) (gI gl) (gI aq) st sl (gI lb) (fun zz => nI (sh zz)) (fun zz => nI (bw zz)) (fun zz => nI (bh zz)) (fun zz => nI (ps zz)))) (aW (bW cI cJ cB h hs hw hh hp (nI se) (nI wd) (nI hd) (nI wl) (nI nb) (nI (topv wd)) (nI (rcv wd hd)) (nI (btv wd hd)) (nI (lcv wd hd)) (gI gl) (gI aq) st sl (gI lb) (fun zz => nI (sh zz)) (fun zz => nI (bw zz)) (fun zz => nI (bh zz)) (fun zz => nI (ps zz))))) 0 0 (aW (bW cI cJ cB h hs hw hh hp (nI se) (nI wd) (nI hd) (nI wl) (nI nb) (nI (topv wd)) (nI (rcv wd hd)) (nI (btv wd hd)) (nI (lcv wd hd)) (gI gl) (gI aq) st sl (gI lb) (fun zz => nI (sh zz)) (fun zz => nI (bw zz)) (fun zz => nI (bh zz)) (fun zz => nI (ps zz)))) := by
  refine Met.ofW (cc := cX0_directions) (maxL := 4) (ret := (some .int)) (by decide) rfl ?_
  intro p e s m args below meth c s₁ B hml hv
  obtain ⟨rfl, hK, hN, hP, hD0⟩ := hv
  have hx := B.exec; have hb := B.bytes; have hr := B.returns; have hlocks := B.notSynchronized
  have hts0 := atoms_spec (ws := Cond.code yX0_directions cX0_directions 4 (some .int) :: lw_all) B.pre
  have hC : CallFix p m c cX0_directions 4 s _ lw_all RX0 := ⟨hx, hb, hml, findClass_of_methodNamed B.named, fun w h => hts0 w (List.mem_cons_of_mem _ h)⟩
  have hD : va_D (aW (bW cI cJ cB h hs hw hh hp (nI se) (nI wd) (nI hd) (nI wl) (nI nb) (nI (topv wd)) (nI (rcv wd hd)) (nI (btv wd hd)) (nI (lcv wd hd)) (gI gl) (gI aq) st sl (gI lb) (fun zz => nI (sh zz)) (fun zz => nI (bw zz)) (fun zz => nI (bh zz)) (fun zz => nI (ps zz)))) (bW cI cJ cB h hs hw hh hp (nI se) (nI wd) (nI hd) (nI wl) (nI nb) (nI (topv wd)) (nI (rcv wd hd)) (nI (btv wd hd)) (nI (lcv wd hd)) (gI gl) (gI aq) st sl (gI lb) (fun zz => nI (sh zz)) (fun zz => nI (bw zz)) (fun zz => nI (bh zz)) (fun zz => nI (ps zz))) := ⟨hD0.1, fun k q h => ⟨k, q.2, h⟩⟩
  generalize hAe : aW (bW cI cJ cB h hs hw hh hp (nI se) (nI wd) (nI hd) (nI wl) (nI nb) (nI (topv wd)) (nI (rcv wd hd)) (nI (btv wd hd)) (nI (lcv wd hd)) (gI gl) (gI aq) st sl (gI lb) (fun zz => nI (sh zz)) (fun zz => nI (bw zz)) (fun zz => nI (bh zz)) (fun zz => nI (ps zz))) = A at hD ⊢
  have hS : va_S A s.heap s.heap [] := va_S.rf
  have hl := lv_entry ([.ref h, .int (nI cc), .int (nI ot)]) (n := 4) (Nat.le_of_ble_eq_true rfl)
  rw [lg_entry_eq]
  generalize (lg_sl ([.ref h, .int (nI cc), .int (nI ot)]) ++ List.replicate (4 - (lg_sl ([.ref h, .int (nI cc), .int (nI ot)])).length) Slot.unset).toArray = ls at hl ⊢
  have hl : lv_has ls 4 [(0, .ref h), (1, .int (nI cc)), (2, .int (nI ot))] := hl
  generalize hav : ([.ref h, .int (nI cc), .int (nI ot)] : List Value).toArray = args at hC ⊢
  refine W_gen (fun QQ hQ => ?_)
  show W p l e (rmN 0) s m args below meth c s.heap [] 0 0 QQ (F0 m 0 ls [])
  refine lv_iconst (v := nI 0) hx hb dX0_directions_0 (by decide) ?_
  refine topi (y := nI (dset (fun d => mvt wd hd w9 h9 s9 ot p9 d) 0)) rfl ?_
  refine lv_istore_n (lv' := [(3, .int (nI (dset (fun d => mvt wd hd w9 h9 s9 ot p9 d) 0))), (0, .ref h), (1, .int (nI cc)), (2, .int (nI ot))]) hx hb dX0_directions_1 rfl hl (by decide) rfl (fun ls hl => ?_)
  have L26 : ∀ (_ : True) , ∀ (H : Heap) (locs : List Loc), va_P D vwCl (bW cI cJ cB h hs hw hh hp (nI se) (nI wd) (nI hd) (nI wl) (nI nb) (nI (topv wd)) (nI (rcv wd hd)) (nI (btv wd hd)) (nI (lcv wd hd)) (gI gl) (gI aq) st sl (gI lb) (fun zz => nI (sh zz)) (fun zz => nI (bw zz)) (fun zz => nI (bh zz)) (fun zz => nI (ps zz))) H → va_D A (bW cI cJ cB h hs hw hh hp (nI se) (nI wd) (nI hd) (nI wl) (nI nb) (nI (topv wd)) (nI (rcv wd hd)) (nI (btv wd hd)) (nI (lcv wd hd)) (gI gl) (gI aq) st sl (gI lb) (fun zz => nI (sh zz)) (fun zz => nI (bw zz)) (fun zz => nI (bh zz)) (fun zz => nI (ps zz))) → va_S A s.heap H locs → ∀ ls : Array Slot, lv_has ls 4 [(3, .int (nI (dset (fun d => mvt wd hd w9 h9 s9 ot p9 d) 1))), (0, .ref h), (1, .int (nI cc)), (2, .int (nI ot))] → W p l e (rmN 0) s m args below meth c H locs 0 0 QQ (F0 m 26 ls []) := by
    intro _  H locs hP hD hS ls hl
    refine lv_iload_n hx hb dX0_directions_26 rfl (lv_at hl 2 rfl) ?_
    have L47 : ∀ (_ : True) , ∀ (H : Heap) (locs : List Loc), va_P D vwCl (bW cI cJ cB h hs hw hh hp (nI se) (nI wd) (nI hd) (nI wl) (nI nb) (nI (topv wd)) (nI (rcv wd hd)) (nI (btv wd hd)) (nI (lcv wd hd)) (gI gl) (gI aq) st sl (gI lb) (fun zz => nI (sh zz)) (fun zz => nI (bw zz)) (fun zz => nI (bh zz)) (fun zz => nI (ps zz))) H → va_D A (bW cI cJ cB h hs hw hh hp (nI se) (nI wd) (nI hd) (nI wl) (nI nb) (nI (topv wd)) (nI (rcv wd hd)) (nI (btv wd hd)) (nI (lcv wd hd)) (gI gl) (gI aq) st sl (gI lb) (fun zz => nI (sh zz)) (fun zz => nI (bw zz)) (fun zz => nI (bh zz)) (fun zz => nI (ps zz))) → va_S A s.heap H locs → ∀ ls : Array Slot, lv_has ls 4 [(3, .int (nI (dset (fun d => mvt wd hd w9 h9 s9 ot p9 d) 2))), (0, .ref h), (1, .int (nI cc)), (2, .int (nI ot))] → W p l e (rmN 0) s m args below meth c H locs 0 0 QQ (F0 m 47 ls []) := by
      intro _  H locs hP hD hS ls hl
      refine lv_iload_n hx hb dX0_directions_47 rfl (lv_at hl 2 rfl) ?_
      have L71 : ∀ (_ : True) , ∀ (H : Heap) (locs : List Loc), va_P D vwCl (bW cI cJ cB h hs hw hh hp (nI se) (nI wd) (nI hd) (nI wl) (nI nb) (nI (topv wd)) (nI (rcv wd hd)) (nI (btv wd hd)) (nI (lcv wd hd)) (gI gl) (gI aq) st sl (gI lb) (fun zz => nI (sh zz)) (fun zz => nI (bw zz)) (fun zz => nI (bh zz)) (fun zz => nI (ps zz))) H → va_D A (bW cI cJ cB h hs hw hh hp (nI se) (nI wd) (nI hd) (nI wl) (nI nb) (nI (topv wd)) (nI (rcv wd hd)) (nI (btv wd hd)) (nI (lcv wd hd)) (gI gl) (gI aq) st sl (gI lb) (fun zz => nI (sh zz)) (fun zz => nI (bw zz)) (fun zz => nI (bh zz)) (fun zz => nI (ps zz))) → va_S A s.heap H locs → ∀ ls : Array Slot, lv_has ls 4 [(3, .int (nI (dset (fun d => mvt wd hd w9 h9 s9 ot p9 d) 3))), (0, .ref h), (1, .int (nI cc)), (2, .int (nI ot))] → W p l e (rmN 0) s m args below meth c H locs 0 0 QQ (F0 m 71 ls []) := by
        intro _  H locs hP hD hS ls hl
        refine lv_iload_n hx hb dX0_directions_71 rfl (lv_at hl 2 rfl) ?_
        have L93 : ∀ (_ : True) , ∀ (H : Heap) (locs : List Loc), va_P D vwCl (bW cI cJ cB h hs hw hh hp (nI se) (nI wd) (nI hd) (nI wl) (nI nb) (nI (topv wd)) (nI (rcv wd hd)) (nI (btv wd hd)) (nI (lcv wd hd)) (gI gl) (gI aq) st sl (gI lb) (fun zz => nI (sh zz)) (fun zz => nI (bw zz)) (fun zz => nI (bh zz)) (fun zz => nI (ps zz))) H → va_D A (bW cI cJ cB h hs hw hh hp (nI se) (nI wd) (nI hd) (nI wl) (nI nb) (nI (topv wd)) (nI (rcv wd hd)) (nI (btv wd hd)) (nI (lcv wd hd)) (gI gl) (gI aq) st sl (gI lb) (fun zz => nI (sh zz)) (fun zz => nI (bw zz)) (fun zz => nI (bh zz)) (fun zz => nI (ps zz))) → va_S A s.heap H locs → ∀ ls : Array Slot, lv_has ls 4 [(3, .int (nI (dset (fun d => mvt wd hd w9 h9 s9 ot p9 d) 4))), (0, .ref h), (1, .int (nI cc)), (2, .int (nI ot))] → W p l e (rmN 0) s m args below meth c H locs 0 0 QQ (F0 m 93 ls []) := by
          intro _  H locs hP hD hS ls hl
          refine lv_iload_n hx hb dX0_directions_93 rfl (lv_at hl 0 rfl) ?_
          rw [hQ]
          exact W.iret (v := nI (dset (fun d => mvt wd hd w9 h9 s9 ot p9 d) 4)) hx hb hr (fun t9 ht hW => ⟨⟨_, _, rfl, ⟨rfl, rfl⟩, by rw [ht]; exact hP, rfl⟩, hS.F ht⟩) hS.2.2 dX0_directions_94
        refine lv_aload_n hx hb dX0_directions_72 rfl (lv_at hl 1 rfl) ?_
        refine gf_X0_53 hC hK hP 0 rfl rfl dX0_directions_73 ?_
        refine n_iand hx hb dX0_directions_76  ?_
        refine n_if_ne (tgt := 93) hx hb dX0_directions_77 (by decide) (Nat.lt_of_le_of_lt Nat.and_le_left hc31) (fun c77 => ?_) (fun c77 => ?_)
        · have _ : True := trivial
          rw [dset_n (m := (fun d => mvt wd hd w9 h9 s9 ot p9 d)) (d := 3) (fun h => (Nat.ne_of_gt c77) (by rw [hcc]; exact ((dir_3 hw1 hs9 hp9).mpr h).1))] at hl
          exact L93 trivial   _ _ hP hD hS _ (lv_sub hl [0, 1, 2, 3] rfl)
        · have _ : True := trivial
          refine lv_iload_n hx hb dX0_directions_80 rfl (lv_at hl 2 rfl) ?_
          refine lv_iconst (v := nI 1) hx hb dX0_directions_81 (by decide) ?_
          refine n_iushr hx hb dX0_directions_82 (by omega) (by omega) ?_
          refine lv_iload_n hx hb dX0_directions_83 rfl (lv_at hl 3 rfl) ?_
          refine n_iand hx hb dX0_directions_84  ?_
          refine n_if_ne (tgt := 93) hx hb dX0_directions_85 (by decide) (Nat.lt_of_le_of_lt Nat.and_le_right hot) (fun c85 => ?_) (fun c85 => ?_)
          · have _ : True := trivial
            rw [dset_n (m := (fun d => mvt wd hd w9 h9 s9 ot p9 d)) (d := 3) (fun h => (Nat.ne_of_gt c85) (by rw [hcc]; exact ((dir_3 hw1 hs9 hp9).mpr h).2))] at hl
            exact L93 trivial   _ _ hP hD hS _ (lv_sub hl [0, 1, 2, 3] rfl)
          · have _ : True := trivial
            refine lv_iload_n hx hb dX0_directions_88 rfl (lv_at hl 0 rfl) ?_
            refine lv_bipush (v := nI 8) hx hb dX0_directions_89 (by decide) ?_
            refine n_ior hx hb dX0_directions_91  ?_
            refine topi (y := nI (dset (fun d => mvt wd hd w9 h9 s9 ot p9 d) 4)) (by rw [← dset_y (m := (fun d => mvt wd hd w9 h9 s9 ot p9 d)) (d := 3) ((dir_3 hw1 hs9 hp9).mp ⟨by rw [← hcc]; omega, by rw [← hcc]; omega⟩)]; rfl) ?_
            refine lv_istore_n (lv' := [(3, .int (nI (dset (fun d => mvt wd hd w9 h9 s9 ot p9 d) 4))), (0, .ref h), (1, .int (nI cc)), (2, .int (nI ot))]) hx hb dX0_directions_92 rfl hl (by decide) rfl (fun ls hl => ?_)
            exact L93 trivial   _ _ hP hD hS _ (lv_sub hl [0, 1, 2, 3] rfl)
      refine lv_aload_n hx hb dX0_directions_48 rfl (lv_at hl 1 rfl) ?_
      refine gf_X0_50 hC hK hP 0 rfl rfl dX0_directions_49 ?_
      refine n_iand hx hb dX0_directions_52  ?_
      refine n_if_ne (tgt := 71) hx hb dX0_directions_53 (by decide) (Nat.lt_of_le_of_lt Nat.and_le_left hc31) (fun c53 => ?_) (fun c53 => ?_)
      · have _ : True := trivial
        rw [dset_n (m := (fun d => mvt wd hd w9 h9 s9 ot p9 d)) (d := 2) (fun h => (Nat.ne_of_gt c53) (by rw [hcc]; exact ((dir_2 hw1 hd1 hs9 hp9).mpr h).1))] at hl
        exact L71 trivial   _ _ hP hD hS _ (lv_sub hl [0, 1, 2, 3] rfl)
      · have _ : True := trivial
        refine lv_iload_n hx hb dX0_directions_56 rfl (lv_at hl 2 rfl) ?_
        refine lv_aload_n hx hb dX0_directions_57 rfl (lv_at hl 1 rfl) ?_
        refine gf_X0_32 hC hK hP 0 rfl rfl dX0_directions_58 ?_
        refine n_ishl hx hb dX0_directions_61 (by omega) ?_
        refine lv_iload_n hx hb dX0_directions_62 rfl (lv_at hl 3 rfl) ?_
        refine n_iand hx hb dX0_directions_63  ?_
        refine n_if_ne (tgt := 71) hx hb dX0_directions_64 (by decide) (Nat.lt_of_le_of_lt Nat.and_le_right hot) (fun c64 => ?_) (fun c64 => ?_)
        · have _ : True := trivial
          rw [dset_n (m := (fun d => mvt wd hd w9 h9 s9 ot p9 d)) (d := 2) (fun h => (Nat.ne_of_gt c64) (by rw [hcc]; exact ((dir_2 hw1 hd1 hs9 hp9).mpr h).2))] at hl
          exact L71 trivial   _ _ hP hD hS _ (lv_sub hl [0, 1, 2, 3] rfl)
        · have _ : True := trivial
          refine lv_iload_n hx hb dX0_directions_67 rfl (lv_at hl 0 rfl) ?_
          refine lv_iconst (v := nI 4) hx hb dX0_directions_68 (by decide) ?_
          refine n_ior hx hb dX0_directions_69  ?_
          refine topi (y := nI (dset (fun d => mvt wd hd w9 h9 s9 ot p9 d) 3)) (by rw [← dset_y (m := (fun d => mvt wd hd w9 h9 s9 ot p9 d)) (d := 2) ((dir_2 hw1 hd1 hs9 hp9).mp ⟨by rw [← hcc]; omega, by rw [← hcc]; omega⟩)]; rfl) ?_
          refine lv_istore_n (lv' := [(3, .int (nI (dset (fun d => mvt wd hd w9 h9 s9 ot p9 d) 3))), (0, .ref h), (1, .int (nI cc)), (2, .int (nI ot))]) hx hb dX0_directions_70 rfl hl (by decide) rfl (fun ls hl => ?_)
          exact L71 trivial   _ _ hP hD hS _ (lv_sub hl [0, 1, 2, 3] rfl)
    refine lv_aload_n hx hb dX0_directions_27 rfl (lv_at hl 1 rfl) ?_
    refine gf_X0_47 hC hK hP 0 rfl rfl dX0_directions_28 ?_
    refine n_iand hx hb dX0_directions_31  ?_
    refine n_if_ne (tgt := 47) hx hb dX0_directions_32 (by decide) (Nat.lt_of_le_of_lt Nat.and_le_left hc31) (fun c32 => ?_) (fun c32 => ?_)
    · have _ : True := trivial
      rw [dset_n (m := (fun d => mvt wd hd w9 h9 s9 ot p9 d)) (d := 1) (fun h => (Nat.ne_of_gt c32) (by rw [hcc]; exact ((dir_1 hw1 hs9 hp9).mpr h).1))] at hl
      exact L47 trivial   _ _ hP hD hS _ (lv_sub hl [0, 1, 2, 3] rfl)
    · have _ : True := trivial
      refine lv_iload_n hx hb dX0_directions_35 rfl (lv_at hl 2 rfl) ?_
      refine lv_iconst (v := nI 1) hx hb dX0_directions_36 (by decide) ?_
      refine n_ishl hx hb dX0_directions_37 (by omega) ?_
      refine lv_iload_n hx hb dX0_directions_38 rfl (lv_at hl 3 rfl) ?_
      refine n_iand hx hb dX0_directions_39  ?_
      refine n_if_ne (tgt := 47) hx hb dX0_directions_40 (by decide) (Nat.lt_of_le_of_lt Nat.and_le_right hot) (fun c40 => ?_) (fun c40 => ?_)
      · have _ : True := trivial
        rw [dset_n (m := (fun d => mvt wd hd w9 h9 s9 ot p9 d)) (d := 1) (fun h => (Nat.ne_of_gt c40) (by rw [hcc]; exact ((dir_1 hw1 hs9 hp9).mpr h).2))] at hl
        exact L47 trivial   _ _ hP hD hS _ (lv_sub hl [0, 1, 2, 3] rfl)
      · have _ : True := trivial
        refine lv_iload_n hx hb dX0_directions_43 rfl (lv_at hl 0 rfl) ?_
        refine lv_iconst (v := nI 2) hx hb dX0_directions_44 (by decide) ?_
        refine n_ior hx hb dX0_directions_45  ?_
        refine topi (y := nI (dset (fun d => mvt wd hd w9 h9 s9 ot p9 d) 2)) (by rw [← dset_y (m := (fun d => mvt wd hd w9 h9 s9 ot p9 d)) (d := 1) ((dir_1 hw1 hs9 hp9).mp ⟨by rw [← hcc]; omega, by rw [← hcc]; omega⟩)]; rfl) ?_
        refine lv_istore_n (lv' := [(3, .int (nI (dset (fun d => mvt wd hd w9 h9 s9 ot p9 d) 2))), (0, .ref h), (1, .int (nI cc)), (2, .int (nI ot))]) hx hb dX0_directions_46 rfl hl (by decide) rfl (fun ls hl => ?_)
        exact L47 trivial   _ _ hP hD hS _ (lv_sub hl [0, 1, 2, 3] rfl)
  refine lv_iload_n hx hb dX0_directions_2 rfl (lv_at hl 2 rfl) ?_
  refine lv_aload_n hx hb dX0_directions_3 rfl (lv_at hl 1 rfl) ?_
  refine gf_X0_44 hC hK hP 0 rfl rfl dX0_directions_4 ?_
  refine n_iand hx hb dX0_directions_7  ?_
  refine n_if_ne (tgt := 26) hx hb dX0_directions_8 (by decide) (Nat.lt_of_le_of_lt Nat.and_le_left hc31) (fun c8 => ?_) (fun c8 => ?_)
  · have _ : True := trivial
    rw [dset_n (m := (fun d => mvt wd hd w9 h9 s9 ot p9 d)) (d := 0) (fun h => (Nat.ne_of_gt c8) (by rw [hcc]; exact ((dir_0 hw1 hs9 hp9).mpr h).1))] at hl
    exact L26 trivial   _ _ hP hD hS _ (lv_sub hl [0, 1, 2, 3] rfl)
  · have _ : True := trivial
    refine lv_iload_n hx hb dX0_directions_11 rfl (lv_at hl 2 rfl) ?_
    refine lv_aload_n hx hb dX0_directions_12 rfl (lv_at hl 1 rfl) ?_
    refine gf_X0_32 hC hK hP 0 rfl rfl dX0_directions_13 ?_
    refine n_iushr hx hb dX0_directions_16 (by omega) (by omega) ?_
    refine lv_iload_n hx hb dX0_directions_17 rfl (lv_at hl 3 rfl) ?_
    refine n_iand hx hb dX0_directions_18  ?_
    refine n_if_ne (tgt := 26) hx hb dX0_directions_19 (by decide) (Nat.lt_of_le_of_lt Nat.and_le_right hot) (fun c19 => ?_) (fun c19 => ?_)
    · have _ : True := trivial
      rw [dset_n (m := (fun d => mvt wd hd w9 h9 s9 ot p9 d)) (d := 0) (fun h => (Nat.ne_of_gt c19) (by rw [hcc]; exact ((dir_0 hw1 hs9 hp9).mpr h).2))] at hl
      exact L26 trivial   _ _ hP hD hS _ (lv_sub hl [0, 1, 2, 3] rfl)
    · have _ : True := trivial
      refine lv_iload_n hx hb dX0_directions_22 rfl (lv_at hl 0 rfl) ?_
      refine lv_iconst (v := nI 1) hx hb dX0_directions_23 (by decide) ?_
      refine n_ior hx hb dX0_directions_24  ?_
      refine topi (y := nI (dset (fun d => mvt wd hd w9 h9 s9 ot p9 d) 1)) (by rw [← dset_y (m := (fun d => mvt wd hd w9 h9 s9 ot p9 d)) (d := 0) ((dir_0 hw1 hs9 hp9).mp ⟨by rw [← hcc]; omega, by rw [← hcc]; omega⟩)]; rfl) ?_
      refine lv_istore_n (lv' := [(3, .int (nI (dset (fun d => mvt wd hd w9 h9 s9 ot p9 d) 1))), (0, .ref h), (1, .int (nI cc)), (2, .int (nI ot))]) hx hb dX0_directions_25 rfl hl (by decide) rfl (fun ls hl => ?_)
      exact L26 trivial   _ _ hP hD hS _ (lv_sub hl [0, 1, 2, 3] rfl)
