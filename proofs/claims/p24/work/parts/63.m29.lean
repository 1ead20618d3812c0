abbrev xtW (cI cJ cB : ClassId) (xo : Nat) (vo : Nat) (h : Nat) (h2 : Nat) (ho : Nat) (ro : Nat) (ys : Nat) (yw : Nat) (xr : Int32) (vsa : Nat) (vca : Nat) (vla : Nat) (vle : Int32) (vcc : Int32) (vlc : Int32) (vwi : Int32) (vro : Int32) (vco : Int32) (vS : Nat → Int32) (vC : Nat → Int32) (vL : Nat → Int32) : va_W := [(xo, .inr (7, [.ref vo, .ref h, .ref h2, .ref ho, .ref ro, .ref ys, .ref yw, .int xr])), (vo, .inr (6, [.ref vsa, .int vle, .ref vca, .int vcc, .ref vla, .int vlc, .int vwi, .int vro, .int vco])), (vsa, .inl (cI, 40, .inl vS)), (vca, .inl (cI, 24, .inl vC)), (vla, .inl (cI, 7, .inl vL))]
abbrev xbW (cI cJ cB : ClassId) (xo : Nat) (vo : Nat) (h : Nat) (h2 : Nat) (ho : Nat) (ro : Nat) (ys : Nat) (yw : Nat) (xr : Int32) (hs : Nat) (hw : Nat) (hh : Nat) (hp : Nat) (bse : Int32) (bwi : Int32) (bhe : Int32) (bwa : Int32) (bco : Int32) (btr : Int32) (brc : Int32) (bbr : Int32) (blc : Int32) (bgb : Int32) (bgp : Int32) (bst : Int32) (bsl : Int32) (bla : Int32) (bsh : Nat → Int32) (bwd : Nat → Int32) (bhg : Nat → Int32) (bsp : Nat → Int32) : va_W := [(xo, .inr (7, [.ref vo, .ref h, .ref h2, .ref ho, .ref ro, .ref ys, .ref yw, .int xr])), (h, .inr (0, [.int bse, .int bwi, .int bhe, .int bwa, .int bco, .int btr, .int brc, .int bbr, .int blc, .ref hs, .ref hw, .ref hh, .ref hp, .int bgb, .int bgp, .int bst, .int bsl, .int bla])), (hs, .inl (cI, 7, .inl bsh)), (hw, .inl (cI, 7, .inl bwd)), (hh, .inl (cI, 7, .inl bhg)), (hp, .inl (cI, 7, .inl bsp))]
abbrev xrW (cI cJ cB : ClassId) (xo : Nat) (vo : Nat) (h : Nat) (h2 : Nat) (ho : Nat) (ro : Nat) (ys : Nat) (yw : Nat) (xr : Int32) (hs : Nat) (hw : Nat) (hh : Nat) (hp : Nat) (bse : Int32) (bwi : Int32) (bhe : Int32) (bwa : Int32) (bco : Int32) (btr : Int32) (brc : Int32) (bbr : Int32) (blc : Int32) (bgb : Int32) (bgp : Int32) (bst : Int32) (bsl : Int32) (bla : Int32) (bsh : Nat → Int32) (bwd : Nat → Int32) (bhg : Nat → Int32) (bsp : Nat → Int32) (rfa : Nat) (rqa : Nat) (rF : Nat → Int32) (rQ : Nat → Int32) : va_W := [(xo, .inr (7, [.ref vo, .ref h, .ref h2, .ref ho, .ref ro, .ref ys, .ref yw, .int xr])), (h, .inr (0, [.int bse, .int bwi, .int bhe, .int bwa, .int bco, .int btr, .int brc, .int bbr, .int blc, .ref hs, .ref hw, .ref hh, .ref hp, .int bgb, .int bgp, .int bst, .int bsl, .int bla])), (hs, .inl (cI, 7, .inl bsh)), (hw, .inl (cI, 7, .inl bwd)), (hh, .inl (cI, 7, .inl bhg)), (hp, .inl (cI, 7, .inl bsp)), (ro, .inr (3, [.ref rfa, .ref rqa])), (rfa, .inl (cI, 24, .inl rF)), (rqa, .inl (cI, 24, .inl rQ))]
set_option maxHeartbeats 400000 in
set_option maxRecDepth 100000 in
theorem c_X7_type (l : Launch) (D : va_G) (cI cJ cB : ClassId) (xo h h2 ho ro ys yw : Nat) (xr : Int32) (vo vsa vca vla ln all q vw rr row : Nat) (tx cl lt : Nat → Nat) (x : Int32) (hln : ln ≤ 40) : Met l yX7_type (Cond.code yX7_type cX7_type 2 (some .int) :: lw_all) (rmN 1) (va_Pc [.ref xo, .int x] (pB D (tyz cI cJ cB) (xtW cI cJ cB xo vo h h2 ho ro ys yw xr vsa vca vla (nI ln) (nI all) (nI q) (nI vw) (nI rr) (nI row) (fun zz => nI (tx zz)) (fun zz => tI (cl zz)) (fun zz => nI (lt zz))))) (va_Qi (fun (r : Int32) (w : va_W) => ∃ tx2 : Nat → Nat, ∃ ln2 : Nat, r = (match tOf x with | some _ => (if ln = 40 then -3 else nI (ln + 1)) | none => -1) ∧ w = xtW cI cJ cB xo vo h h2 ho ro ys yw xr vsa vca vla (nI ln2) (nI all) (nI q) (nI vw) (nI rr) (nI row) (fun zz => nI (tx2 zz)) (fun zz => tI (cl zz)) (fun zz => nI (lt zz)) ∧ tx2 = (match tOf x with | some q => (if ln = 40 then tx else va_up tx ln q) | none => tx) ∧ ln2 = (match tOf x with | some _ => (if ln = 40 then ln else ln + 1) | none => ln)) (gB D (xtW cI cJ cB xo vo h h2 ho ro ys yw xr vsa vca vla (nI ln) (nI all) (nI q) (nI vw) (nI rr) (nI row) (fun zz => nI (tx zz)) (fun zz => tI (cl zz)) (fun zz => nI (lt zz)))) (aW (xtW cI cJ cB xo vo h h2 ho ro ys yw xr vsa vca vla (nI ln) (nI all) (nI q) (nI vw) (nI rr) (nI row) (fun zz => nI (tx zz)) (fun zz => tI (cl zz)) (fun zz => nI (lt zz))))) 0 0 (aW (xtW cI cJ cB xo vo h h2 ho ro ys yw xr vsa vca vla (nI ln) (nI all) (nI q) (nI vw) (nI rr) (nI row) (fun zz => nI (tx zz)) (fun zz => tI (cl zz)) (fun zz => nI (lt zz)))) := by
  refine Met.ofW (cc := cX7_type) (maxL := 2) (ret := (some .int)) (by decide) rfl ?_
  intro p e s m args below meth c s₁ B hml hv
  obtain ⟨rfl, hK, hN, hP, hD0⟩ := hv
  have hx := B.exec; have hb := B.bytes; have hr := B.returns; have hlocks := B.notSynchronized
  have hts0 := atoms_spec (ws := Cond.code yX7_type cX7_type 2 (some .int) :: lw_all) B.pre
  have hC : CallFix p m c cX7_type 2 s _ lw_all RX7 := ⟨hx, hb, hml, findClass_of_methodNamed B.named, fun w h => hts0 w (List.mem_cons_of_mem _ h)⟩
  have hD : va_D (aW (xtW cI cJ cB xo vo h h2 ho ro ys yw xr vsa vca vla (nI ln) (nI all) (nI q) (nI vw) (nI rr) (nI row) (fun zz => nI (tx zz)) (fun zz => tI (cl zz)) (fun zz => nI (lt zz)))) (xtW cI cJ cB xo vo h h2 ho ro ys yw xr vsa vca vla (nI ln) (nI all) (nI q) (nI vw) (nI rr) (nI row) (fun zz => nI (tx zz)) (fun zz => tI (cl zz)) (fun zz => nI (lt zz))) := ⟨hD0.1, fun k q h => ⟨k, q.2, h⟩⟩
  generalize hAe : aW (xtW cI cJ cB xo vo h h2 ho ro ys yw xr vsa vca vla (nI ln) (nI all) (nI q) (nI vw) (nI rr) (nI row) (fun zz => nI (tx zz)) (fun zz => tI (cl zz)) (fun zz => nI (lt zz))) = A at hD ⊢
  have hS : va_S A s.heap s.heap [] := va_S.rf
  have hl := lv_entry ([.ref xo, .int x]) (n := 2) (Nat.le_of_ble_eq_true rfl)
  rw [lg_entry_eq]
  generalize (lg_sl ([.ref xo, .int x]) ++ List.replicate (2 - (lg_sl ([.ref xo, .int x])).length) Slot.unset).toArray = ls at hl ⊢
  have hl : lv_has ls 2 [(0, .ref xo), (1, .int x)] := hl
  generalize hav : ([.ref xo, .int x] : List Value).toArray = args at hC ⊢
  refine W_gen (fun QQ hQ => ?_)
  show W p l e (rmN 1) s m args below meth c s.heap [] 0 0 QQ (F0 m 0 ls [])
  refine lv_iload_n hx hb dX7_type_0 rfl (lv_at hl 1 rfl) ?_
  refine lv_bipush (v := nI 32) hx hb dX7_type_1 (by decide) ?_
  refine lv_icmp_lt (tgt := 12) hx hb dX7_type_3 (by decide) (fun c3 => ?_) (fun c3 => ?_)
  · have _ : True := trivial
    have hqo := tOf_lo c3
    refine lv_iconst (v := (-1)) hx hb dX7_type_12 (by decide) ?_
    rw [hQ]
    exact W.iret (v := (-1)) hx hb hr (fun t9 ht hW => ⟨⟨_, _, rfl, ⟨tx, ln, (by rw [hqo]), rfl, (by rw [hqo]), (by rw [hqo])⟩, by rw [ht]; exact hP, rfl⟩, hS.F ht⟩) hS.2.2 dX7_type_13
  · have _ : True := trivial
    refine lv_iload_n hx hb dX7_type_6 rfl (lv_at hl 1 rfl) ?_
    refine lv_bipush (v := nI 126) hx hb dX7_type_7 (by decide) ?_
    refine lv_icmp_le (tgt := 14) hx hb dX7_type_9 (by decide) (fun c9 => ?_) (fun c9 => ?_)
    · have _ : True := trivial
      obtain ⟨q9, hq1, hq2, hxq, hqo⟩ := tOf_ok c3 c9
      subst hxq
      refine lv_aload_n hx hb dX7_type_14 rfl (lv_at hl 0 rfl) ?_
      refine gf_X7_10 hC hK hP 0 rfl rfl dX7_type_15 ?_
      refine lv_iload_n hx hb dX7_type_18 rfl (lv_at hl 1 rfl) ?_
      refine callV_i (As := [.int (nI q9)]) (rest := []) [1, 2, 3, 4] hC hK hN hP hD rfl (by decide) hS 1 (ci := 6) rfl rfl rfl (c_X6_append l D cI cJ cB vo vsa vca vla ln all q vw rr row tx cl lt q9 (by omega)) q612 md_X6_append rfl hl.1 rfl (Nat.le_of_ble_eq_true rfl) dX7_type_19 ⟨Nat.le_of_ble_eq_true rfl, Nat.le_of_ble_eq_true rfl⟩ ⟨Nat.le_of_ble_eq_true rfl, Nat.le_of_ble_eq_true rfl⟩ (fun r_19 w H locs hpost hP hD hS => ?_)
      obtain ⟨tx2_19, ln2_19, rfl, rfl, h19_t1, h19_t2⟩ := hpost
      have hP : va_P D vwCl (xtW cI cJ cB xo vo h h2 ho ro ys yw xr vsa vca vla (nI ln2_19) (nI all) (nI q) (nI vw) (nI rr) (nI row) (fun zz => nI (tx2_19 zz)) (fun zz => tI (cl zz)) (fun zz => nI (lt zz))) H := hP
      have hD : va_D A (xtW cI cJ cB xo vo h h2 ho ro ys yw xr vsa vca vla (nI ln2_19) (nI all) (nI q) (nI vw) (nI rr) (nI row) (fun zz => nI (tx2_19 zz)) (fun zz => tI (cl zz)) (fun zz => nI (lt zz))) := hD
      refine b_if_eq (tgt := 35) hx hb dX7_type_22 (by decide) (fun c22 => ?_) (fun c22 => ?_)
      · have _ : True := trivial
        have e22 : ln = 40 := by have := of_decide_eq_false c22; omega
        refine lv_bipush (v := (-3)) hx hb dX7_type_35 (by decide) ?_
        rw [hQ]
        exact W.iret (v := (-3)) hx hb hr (fun t9 ht hW => ⟨⟨_, _, rfl, ⟨tx2_19, ln2_19, (by rw [hqo]; exact (if_pos e22).symm), rfl, (by rw [hqo, h19_t1]), (by rw [hqo, h19_t2])⟩, by rw [ht]; exact hP, rfl⟩, hS.F ht⟩) hS.2.2 dX7_type_37
      · have _ : True := trivial
        have e22 : ln ≠ 40 := by have := of_decide_eq_true c22; omega
        refine lv_aload_n hx hb dX7_type_25 rfl (lv_at hl 0 rfl) ?_
        refine gf_X7_10 hC hK hP 0 rfl rfl dX7_type_26 ?_
        refine gf_X7_63 hC hK hP 1 rfl rfl dX7_type_29 ?_
        refine lv_goto (tgt := 37) hx hb dX7_type_32 (by decide) ?_
        rw [hQ]
        exact W.iret (v := nI ln2_19) hx hb hr (fun t9 ht hW => ⟨⟨_, _, rfl, ⟨tx2_19, ln2_19, (by rw [hqo, h19_t2, if_neg e22]; exact (if_neg e22).symm), rfl, (by rw [hqo, h19_t1]), (by rw [hqo, h19_t2])⟩, by rw [ht]; exact hP, rfl⟩, hS.F ht⟩) hS.2.2 dX7_type_37
    · have _ : True := trivial
      have hqo := tOf_hi c9
      refine lv_iconst (v := (-1)) hx hb dX7_type_12 (by decide) ?_
      rw [hQ]
      exact W.iret (v := (-1)) hx hb hr (fun t9 ht hW => ⟨⟨_, _, rfl, ⟨tx, ln, (by rw [hqo]), rfl, (by rw [hqo]), (by rw [hqo])⟩, by rw [ht]; exact hP, rfl⟩, hS.F ht⟩) hS.2.2 dX7_type_13

set_option maxHeartbeats 400000 in
set_option maxRecDepth 100000 in
theorem c_X7_clear (l : Launch) (D : va_G) (cI cJ cB : ClassId) (xo h h2 ho ro ys yw : Nat) (xr : Int32) (vo vsa vca vla ln all q vw rr row : Nat) (tx cl lt : Nat → Nat)  : Met l yX7_clear (Cond.code yX7_clear cX7_clear 2 (some .int) :: lw_all) (rmN 0) (va_Pc [.ref xo] (pB D (tyz cI cJ cB) (xtW cI cJ cB xo vo h h2 ho ro ys yw xr vsa vca vla (nI ln) (nI all) (nI q) (nI vw) (nI rr) (nI row) (fun zz => nI (tx zz)) (fun zz => tI (cl zz)) (fun zz => nI (lt zz))))) (va_Qi (fun (r : Int32) (w : va_W) => r = nI ln ∧ w = xtW cI cJ cB xo vo h h2 ho ro ys yw xr vsa vca vla (nI 0) (nI all) (nI q) (nI vw) (nI rr) (nI row) (fun zz => nI (tx zz)) (fun zz => tI (cl zz)) (fun zz => nI (lt zz))) (gB D (xtW cI cJ cB xo vo h h2 ho ro ys yw xr vsa vca vla (nI ln) (nI all) (nI q) (nI vw) (nI rr) (nI row) (fun zz => nI (tx zz)) (fun zz => tI (cl zz)) (fun zz => nI (lt zz)))) (aW (xtW cI cJ cB xo vo h h2 ho ro ys yw xr vsa vca vla (nI ln) (nI all) (nI q) (nI vw) (nI rr) (nI row) (fun zz => nI (tx zz)) (fun zz => tI (cl zz)) (fun zz => nI (lt zz))))) 0 0 (aW (xtW cI cJ cB xo vo h h2 ho ro ys yw xr vsa vca vla (nI ln) (nI all) (nI q) (nI vw) (nI rr) (nI row) (fun zz => nI (tx zz)) (fun zz => tI (cl zz)) (fun zz => nI (lt zz)))) := by
  refine Met.ofW (cc := cX7_clear) (maxL := 2) (ret := (some .int)) (by decide) rfl ?_
  intro p e s m args below meth c s₁ B hml hv
  obtain ⟨rfl, hK, hN, hP, hD0⟩ := hv
  have hx := B.exec; have hb := B.bytes; have hr := B.returns; have hlocks := B.notSynchronized
  have hts0 := atoms_spec (ws := Cond.code yX7_clear cX7_clear 2 (some .int) :: lw_all) B.pre
  have hC : CallFix p m c cX7_clear 2 s _ lw_all RX7 := ⟨hx, hb, hml, findClass_of_methodNamed B.named, fun w h => hts0 w (List.mem_cons_of_mem _ h)⟩
  have hD : va_D (aW (xtW cI cJ cB xo vo h h2 ho ro ys yw xr vsa vca vla (nI ln) (nI all) (nI q) (nI vw) (nI rr) (nI row) (fun zz => nI (tx zz)) (fun zz => tI (cl zz)) (fun zz => nI (lt zz)))) (xtW cI cJ cB xo vo h h2 ho ro ys yw xr vsa vca vla (nI ln) (nI all) (nI q) (nI vw) (nI rr) (nI row) (fun zz => nI (tx zz)) (fun zz => tI (cl zz)) (fun zz => nI (lt zz))) := ⟨hD0.1, fun k q h => ⟨k, q.2, h⟩⟩
  generalize hAe : aW (xtW cI cJ cB xo vo h h2 ho ro ys yw xr vsa vca vla (nI ln) (nI all) (nI q) (nI vw) (nI rr) (nI row) (fun zz => nI (tx zz)) (fun zz => tI (cl zz)) (fun zz => nI (lt zz))) = A at hD ⊢
  have hS : va_S A s.heap s.heap [] := va_S.rf
  have hl := lv_entry ([.ref xo]) (n := 2) (Nat.le_of_ble_eq_true rfl)
  rw [lg_entry_eq]
  generalize (lg_sl ([.ref xo]) ++ List.replicate (2 - (lg_sl ([.ref xo])).length) Slot.unset).toArray = ls at hl ⊢
  have hl : lv_has ls 2 [(0, .ref xo)] := hl
  generalize hav : ([.ref xo] : List Value).toArray = args at hC ⊢
  refine W_gen (fun QQ hQ => ?_)
  show W p l e (rmN 0) s m args below meth c s.heap [] 0 0 QQ (F0 m 0 ls [])
  refine lv_aload_n hx hb dX7_clear_0 rfl (lv_at hl 0 rfl) ?_
  refine gf_X7_10 hC hK hP 0 rfl rfl dX7_clear_1 ?_
  refine gf_X7_63 hC hK hP 1 rfl rfl dX7_clear_4 ?_
  refine lv_istore_n (lv' := [(1, .int (nI ln)), (0, .ref xo)]) hx hb dX7_clear_7 rfl hl (by decide) rfl (fun ls hl => ?_)
  refine lv_aload_n hx hb dX7_clear_8 rfl (lv_at hl 1 rfl) ?_
  refine gf_X7_10 hC hK hP 0 rfl rfl dX7_clear_9 ?_
  refine lv_iconst (v := nI 0) hx hb dX7_clear_12 (by decide) ?_
  refine pf_X7_63 hC hK hP hD hS 1 rfl (Nat.le_of_ble_eq_true rfl) (ws1 := xtW cI cJ cB xo vo h h2 ho ro ys yw xr vsa vca vla (nI 0) (nI all) (nI q) (nI vw) (nI rr) (nI row) (fun zz => nI (tx zz)) (fun zz => tI (cl zz)) (fun zz => nI (lt zz))) rfl dX7_clear_13 (fun H locs hP hD hS => ?_)
  refine lv_iload_n hx hb dX7_clear_16 rfl (lv_at hl 0 rfl) ?_
  rw [hQ]
  exact W.iret (v := nI ln) hx hb hr (fun t9 ht hW => ⟨⟨_, _, rfl, ⟨rfl, rfl⟩, by rw [ht]; exact hP, rfl⟩, hS.F ht⟩) hS.2.2 dX7_clear_17

set_option maxHeartbeats 400000 in
set_option maxRecDepth 100000 in
theorem c_X7_frame (l : Launch) (D : va_G) (cI cJ cB : ClassId) (xo vo h2 ho ro ys yw : Nat) (xr : Int32) (h hs hw hh hp se wd hd nb wl : Nat) (st sl : Int32) (gl aq lb : Option Nat) (sh bw bh ps : Nat → Nat) (x : Int32) (htv : TV wd hd nb wl sh bw bh ps gl aq lb) : Met l yX7_frame (Cond.code yX7_frame cX7_frame 2 (some .int) :: lw_all) (rmN 3) (va_Pc [.ref xo, .int x] (pB D (tyz cI cJ cB) (xbW cI cJ cB xo vo h h2 ho ro ys yw xr hs hw hh hp (nI se) (nI wd) (nI hd) (nI wl) (nI nb) (nI (topv wd)) (nI (rcv wd hd)) (nI (btv wd hd)) (nI (lcv wd hd)) (gI gl) (gI aq) st sl (gI lb) (fun zz => nI (sh zz)) (fun zz => nI (bw zz)) (fun zz => nI (bh zz)) (fun zz => nI (ps zz))))) (va_Qi (fun (r : Int32) (w : va_W) => r = f_framex wd hd nb wl st sl gl aq sh ps x ∧ w = xbW cI cJ cB xo vo h h2 ho ro ys yw xr hs hw hh hp (nI se) (nI wd) (nI hd) (nI wl) (nI nb) (nI (topv wd)) (nI (rcv wd hd)) (nI (btv wd hd)) (nI (lcv wd hd)) (gI gl) (gI aq) st sl (gI lb) (fun zz => nI (sh zz)) (fun zz => nI (bw zz)) (fun zz => nI (bh zz)) (fun zz => nI (ps zz))) (gB D (xbW cI cJ cB xo vo h h2 ho ro ys yw xr hs hw hh hp (nI se) (nI wd) (nI hd) (nI wl) (nI nb) (nI (topv wd)) (nI (rcv wd hd)) (nI (btv wd hd)) (nI (lcv wd hd)) (gI gl) (gI aq) st sl (gI lb) (fun zz => nI (sh zz)) (fun zz => nI (bw zz)) (fun zz => nI (bh zz)) (fun zz => nI (ps zz)))) (aW (xbW cI cJ cB xo vo h h2 ho ro ys yw xr hs hw hh hp (nI se) (nI wd) (nI hd) (nI wl) (nI nb) (nI (topv wd)) (nI (rcv wd hd)) (nI (btv wd hd)) (nI (lcv wd hd)) (gI gl) (gI aq) st sl (gI lb) (fun zz => nI (sh zz)) (fun zz => nI (bw zz)) (fun zz => nI (bh zz)) (fun zz => nI (ps zz))))) 0 0 (aW (xbW cI cJ cB xo vo h h2 ho ro ys yw xr hs hw hh hp (nI se) (nI wd) (nI hd) (nI wl) (nI nb) (nI (topv wd)) (nI (rcv wd hd)) (nI (btv wd hd)) (nI (lcv wd hd)) (gI gl) (gI aq) st sl (gI lb) (fun zz => nI (sh zz)) (fun zz => nI (bw zz)) (fun zz => nI (bh zz)) (fun zz => nI (ps zz)))) := by
  refine Met.ofW (cc := cX7_frame) (maxL := 2) (ret := (some .int)) (by decide) rfl ?_
  intro p e s m args below meth c s₁ B hml hv
  obtain ⟨rfl, hK, hN, hP, hD0⟩ := hv
  have hx := B.exec; have hb := B.bytes; have hr := B.returns; have hlocks := B.notSynchronized
  have hts0 := atoms_spec (ws := Cond.code yX7_frame cX7_frame 2 (some .int) :: lw_all) B.pre
  have hC : CallFix p m c cX7_frame 2 s _ lw_all RX7 := ⟨hx, hb, hml, findClass_of_methodNamed B.named, fun w h => hts0 w (List.mem_cons_of_mem _ h)⟩
  have hD : va_D (aW (xbW cI cJ cB xo vo h h2 ho ro ys yw xr hs hw hh hp (nI se) (nI wd) (nI hd) (nI wl) (nI nb) (nI (topv wd)) (nI (rcv wd hd)) (nI (btv wd hd)) (nI (lcv wd hd)) (gI gl) (gI aq) st sl (gI lb) (fun zz => nI (sh zz)) (fun zz => nI (bw zz)) (fun zz => nI (bh zz)) (fun zz => nI (ps zz)))) (xbW cI cJ cB xo vo h h2 ho ro ys yw xr hs hw hh hp (nI se) (nI wd) (nI hd) (nI wl) (nI nb) (nI (topv wd)) (nI (rcv wd hd)) (nI (btv wd hd)) (nI (lcv wd hd)) (gI gl) (gI aq) st sl (gI lb) (fun zz => nI (sh zz)) (fun zz => nI (bw zz)) (fun zz => nI (bh zz)) (fun zz => nI (ps zz))) := ⟨hD0.1, fun k q h => ⟨k, q.2, h⟩⟩
  generalize hAe : aW (xbW cI cJ cB xo vo h h2 ho ro ys yw xr hs hw hh hp (nI se) (nI wd) (nI hd) (nI wl) (nI nb) (nI (topv wd)) (nI (rcv wd hd)) (nI (btv wd hd)) (nI (lcv wd hd)) (gI gl) (gI aq) st sl (gI lb) (fun zz => nI (sh zz)) (fun zz => nI (bw zz)) (fun zz => nI (bh zz)) (fun zz => nI (ps zz))) = A at hD ⊢
  have hS : va_S A s.heap s.heap [] := va_S.rf
  have hl := lv_entry ([.ref xo, .int x]) (n := 2) (Nat.le_of_ble_eq_true rfl)
  rw [lg_entry_eq]
  generalize (lg_sl ([.ref xo, .int x]) ++ List.replicate (2 - (lg_sl ([.ref xo, .int x])).length) Slot.unset).toArray = ls at hl ⊢
  have hl : lv_has ls 2 [(0, .ref xo), (1, .int x)] := hl
  generalize hav : ([.ref xo, .int x] : List Value).toArray = args at hC ⊢
  refine W_gen (fun QQ hQ => ?_)
  show W p l e (rmN 3) s m args below meth c s.heap [] 0 0 QQ (F0 m 0 ls [])
  obtain ⟨hf, hps, hk1, hga, hlb⟩ := id htv
  have hn7 := hf.2.2.2.2.2.1
  have h24 := hf.2.2.2.2.1
  rcases fr10 x with hko | hko | hko | hko | hko | hko | hko | hko | hko | hko
  · have _ : True := trivial
    obtain ⟨hf, hps, hk1, hga, hlb⟩ := id htv
    have hn7 := hf.2.2.2.2.2.1
    have h24 := hf.2.2.2.2.1
    refine lv_iload_n hx hb dX7_frame_0 rfl (lv_at hl 1 rfl) ?_
    refine lv_tableOut (tgt := 151) hx hb dX7_frame_1 (bOf_out hko) (by decide) ?_
    refine lv_iconst (v := (-1)) hx hb dX7_frame_151 (by decide) ?_
    rw [hQ]
    exact W.iret (v := (-1)) hx hb hr (fun t9 ht hW => ⟨⟨_, _, rfl, ⟨(by unfold f_framex; rw [hko]), rfl⟩, by rw [ht]; exact hP, rfl⟩, hS.F ht⟩) hS.2.2 dX7_frame_152
  · have _ : True := trivial
    subst hko
    obtain ⟨hf, hps, hk1, hga, hlb⟩ := id htv
    have hn7 := hf.2.2.2.2.2.1
    have h24 := hf.2.2.2.2.1
    refine lv_iload_n hx hb dX7_frame_0 rfl (lv_at hl 1 rfl) ?_
    refine lv_tableIn (x := nI 0) (off := 51) (tgt := 52) hx hb dX7_frame_1 (by decide) (by decide) rfl (by decide) ?_
    refine lv_aload_n hx hb dX7_frame_52 rfl (lv_at hl 0 rfl) ?_
    refine gf_X7_19 hC hK hP 0 rfl rfl dX7_frame_53 ?_
    refine gf_X7_83 hC hK hP 1 rfl rfl dX7_frame_56 ?_
    rw [hQ]
    exact W.iret (v := nI wd) hx hb hr (fun t9 ht hW => ⟨⟨_, _, rfl, ⟨(by unfold f_framex; rw [bOf_nI (by decide) (by decide)]; rfl), rfl⟩, by rw [ht]; exact hP, rfl⟩, hS.F ht⟩) hS.2.2 dX7_frame_59
  · have _ : True := trivial
    subst hko
    obtain ⟨hf, hps, hk1, hga, hlb⟩ := id htv
    have hn7 := hf.2.2.2.2.2.1
    have h24 := hf.2.2.2.2.1
    refine lv_iload_n hx hb dX7_frame_0 rfl (lv_at hl 1 rfl) ?_
    refine lv_tableIn (x := nI 1) (off := 59) (tgt := 60) hx hb dX7_frame_1 (by decide) (by decide) rfl (by decide) ?_
    refine lv_aload_n hx hb dX7_frame_60 rfl (lv_at hl 0 rfl) ?_
    refine gf_X7_19 hC hK hP 0 rfl rfl dX7_frame_61 ?_
    refine gf_X7_86 hC hK hP 1 rfl rfl dX7_frame_64 ?_
    rw [hQ]
    exact W.iret (v := nI hd) hx hb hr (fun t9 ht hW => ⟨⟨_, _, rfl, ⟨(by unfold f_framex; rw [bOf_nI (by decide) (by decide)]; rfl), rfl⟩, by rw [ht]; exact hP, rfl⟩, hS.F ht⟩) hS.2.2 dX7_frame_67
  · have _ : True := trivial
    subst hko
    obtain ⟨hf, hps, hk1, hga, hlb⟩ := id htv
    have hn7 := hf.2.2.2.2.2.1
    have h24 := hf.2.2.2.2.1
    refine lv_iload_n hx hb dX7_frame_0 rfl (lv_at hl 1 rfl) ?_
    refine lv_tableIn (x := nI 2) (off := 67) (tgt := 68) hx hb dX7_frame_1 (by decide) (by decide) rfl (by decide) ?_
    refine lv_aload_n hx hb dX7_frame_68 rfl (lv_at hl 0 rfl) ?_
    refine gf_X7_19 hC hK hP 0 rfl rfl dX7_frame_69 ?_
    refine gf_X7_80 hC hK hP 1 rfl rfl dX7_frame_72 ?_
    rw [hQ]
    exact W.iret (v := nI nb) hx hb hr (fun t9 ht hW => ⟨⟨_, _, rfl, ⟨(by unfold f_framex; rw [bOf_nI (by decide) (by decide)]; rfl), rfl⟩, by rw [ht]; exact hP, rfl⟩, hS.F ht⟩) hS.2.2 dX7_frame_75
  · have _ : True := trivial
    subst hko
    obtain ⟨hf, hps, hk1, hga, hlb⟩ := id htv
    have hn7 := hf.2.2.2.2.2.1
    have h24 := hf.2.2.2.2.1
    refine lv_iload_n hx hb dX7_frame_0 rfl (lv_at hl 1 rfl) ?_
    refine lv_tableIn (x := nI 3) (off := 75) (tgt := 76) hx hb dX7_frame_1 (by decide) (by decide) rfl (by decide) ?_
    refine lv_aload_n hx hb dX7_frame_76 rfl (lv_at hl 0 rfl) ?_
    refine gf_X7_19 hC hK hP 0 rfl rfl dX7_frame_77 ?_
    refine gf_X7_83 hC hK hP 1 rfl rfl dX7_frame_80 ?_
    refine lv_aload_n hx hb dX7_frame_83 rfl (lv_at hl 0 rfl) ?_
    refine gf_X7_19 hC hK hP 0 rfl rfl dX7_frame_84 ?_
    refine gf_X7_86 hC hK hP 1 rfl rfl dX7_frame_87 ?_
    refine n_imul hx hb dX7_frame_90  ?_
    refine lv_aload_n hx hb dX7_frame_91 rfl (lv_at hl 0 rfl) ?_
    refine gf_X7_19 hC hK hP 0 rfl rfl dX7_frame_92 ?_
    refine callV_i (As := []) (rest := [.int (nI (wd * hd))]) [1, 2, 3, 4, 5] hC hK hN hP hD rfl (by decide) hS 1 (ci := 0) rfl rfl rfl (c_X0_taken l D cI cJ cB h hs hw hh hp se wd hd nb wl st sl gl aq lb sh bw bh ps (by omega) hps) q393 md_X0_taken rfl hl.1 rfl (Nat.le_of_ble_eq_true rfl) dX7_frame_95 ⟨Nat.le_of_ble_eq_true rfl, Nat.le_of_ble_eq_true rfl⟩ ⟨Nat.le_of_ble_eq_true rfl, Nat.le_of_ble_eq_true rfl⟩ (fun r_95 w H locs hpost hP hD hS => ?_)
    obtain ⟨rfl, rfl⟩ := hpost
    have hP : va_P D vwCl (xbW cI cJ cB xo vo h h2 ho ro ys yw xr hs hw hh hp (nI se) (nI wd) (nI hd) (nI wl) (nI nb) (nI (topv wd)) (nI (rcv wd hd)) (nI (btv wd hd)) (nI (lcv wd hd)) (gI gl) (gI aq) st sl (gI lb) (fun zz => nI (sh zz)) (fun zz => nI (bw zz)) (fun zz => nI (bh zz)) (fun zz => nI (ps zz))) H := hP
    have hD : va_D A (xbW cI cJ cB xo vo h h2 ho ro ys yw xr hs hw hh hp (nI se) (nI wd) (nI hd) (nI wl) (nI nb) (nI (topv wd)) (nI (rcv wd hd)) (nI (btv wd hd)) (nI (lcv wd hd)) (gI gl) (gI aq) st sl (gI lb) (fun zz => nI (sh zz)) (fun zz => nI (bw zz)) (fun zz => nI (bh zz)) (fun zz => nI (ps zz))) := hD
    refine callS_i (As := [.int (nI (tkp wl sh ps nb))]) (rest := [.int (nI (wd * hd))]) [] hC hK hN hP hD rfl (by decide) hS (c_J6_bitCount_0f7a4 l D cI cJ cB (tkp wl sh ps nb) (by rw [tkp_free hn7 hps]; exact tk_lt hf hk1 (fun _ _ h => by cases h))) q402 md_J6_bitCount_0f7a4 rfl hl.1 rfl (Nat.le_of_ble_eq_true rfl) dX7_frame_98 ⟨Nat.le_of_ble_eq_true rfl, Nat.le_of_ble_eq_true rfl⟩ ⟨Nat.le_of_ble_eq_true rfl, Nat.le_of_ble_eq_true rfl⟩ (fun r_98 w H locs hpost hP hD hS => ?_)
    obtain ⟨rfl, rfl⟩ := hpost
    have hP : va_P D vwCl (xbW cI cJ cB xo vo h h2 ho ro ys yw xr hs hw hh hp (nI se) (nI wd) (nI hd) (nI wl) (nI nb) (nI (topv wd)) (nI (rcv wd hd)) (nI (btv wd hd)) (nI (lcv wd hd)) (gI gl) (gI aq) st sl (gI lb) (fun zz => nI (sh zz)) (fun zz => nI (bw zz)) (fun zz => nI (bh zz)) (fun zz => nI (ps zz))) H := hP
    have hD : va_D A (xbW cI cJ cB xo vo h h2 ho ro ys yw xr hs hw hh hp (nI se) (nI wd) (nI hd) (nI wl) (nI nb) (nI (topv wd)) (nI (rcv wd hd)) (nI (btv wd hd)) (nI (lcv wd hd)) (gI gl) (gI aq) st sl (gI lb) (fun zz => nI (sh zz)) (fun zz => nI (bw zz)) (fun zz => nI (bh zz)) (fun zz => nI (ps zz))) := hD
    refine lv_isub hx hb dX7_frame_101 ?_
    rw [hQ]
    exact W.iret (v := (nI (wd * hd)) - (nI (cnt (tkp wl sh ps nb) 24))) hx hb hr (fun t9 ht hW => ⟨⟨_, _, rfl, ⟨(by unfold f_framex; rw [bOf_nI (by decide) (by decide)]; show _ = f_free wd hd nb wl sh ps; unfold f_free; rw [tkp_free hn7 hps]), rfl⟩, by rw [ht]; exact hP, rfl⟩, hS.F ht⟩) hS.2.2 dX7_frame_102
  · have _ : True := trivial
    subst hko
    obtain ⟨hf, hps, hk1, hga, hlb⟩ := id htv
    have hn7 := hf.2.2.2.2.2.1
    have h24 := hf.2.2.2.2.1
    refine lv_iload_n hx hb dX7_frame_0 rfl (lv_at hl 1 rfl) ?_
    refine lv_tableIn (x := nI 4) (off := 102) (tgt := 103) hx hb dX7_frame_1 (by decide) (by decide) rfl (by decide) ?_
    refine lv_aload_n hx hb dX7_frame_103 rfl (lv_at hl 0 rfl) ?_
    refine gf_X7_19 hC hK hP 0 rfl rfl dX7_frame_104 ?_
    refine gf_X7_99 hC hK hP 1 rfl rfl dX7_frame_107 ?_
    rw [hQ]
    exact W.iret (v := st) hx hb hr (fun t9 ht hW => ⟨⟨_, _, rfl, ⟨(by unfold f_framex; rw [bOf_nI (by decide) (by decide)]; rfl), rfl⟩, by rw [ht]; exact hP, rfl⟩, hS.F ht⟩) hS.2.2 dX7_frame_110
  · have _ : True := trivial
    subst hko
    obtain ⟨hf, hps, hk1, hga, hlb⟩ := id htv
    have hn7 := hf.2.2.2.2.2.1
    have h24 := hf.2.2.2.2.1
    refine lv_iload_n hx hb dX7_frame_0 rfl (lv_at hl 1 rfl) ?_
    refine lv_tableIn (x := nI 5) (off := 110) (tgt := 111) hx hb dX7_frame_1 (by decide) (by decide) rfl (by decide) ?_
    refine lv_aload_n hx hb dX7_frame_111 rfl (lv_at hl 0 rfl) ?_
    refine gf_X7_19 hC hK hP 0 rfl rfl dX7_frame_112 ?_
    refine gf_X7_102 hC hK hP 1 rfl rfl dX7_frame_115 ?_
    rw [hQ]
    exact W.iret (v := sl) hx hb hr (fun t9 ht hW => ⟨⟨_, _, rfl, ⟨(by unfold f_framex; rw [bOf_nI (by decide) (by decide)]; rfl), rfl⟩, by rw [ht]; exact hP, rfl⟩, hS.F ht⟩) hS.2.2 dX7_frame_118
  · have _ : True := trivial
    subst hko
    obtain ⟨hf, hps, hk1, hga, hlb⟩ := id htv
    have hn7 := hf.2.2.2.2.2.1
    have h24 := hf.2.2.2.2.1
    refine lv_iload_n hx hb dX7_frame_0 rfl (lv_at hl 1 rfl) ?_
    refine lv_tableIn (x := nI 6) (off := 118) (tgt := 119) hx hb dX7_frame_1 (by decide) (by decide) rfl (by decide) ?_
    refine lv_aload_n hx hb dX7_frame_119 rfl (lv_at hl 0 rfl) ?_
    refine gf_X7_19 hC hK hP 0 rfl rfl dX7_frame_120 ?_
    refine gf_X7_105 hC hK hP 1 rfl rfl dX7_frame_123 ?_
    rw [hQ]
    exact W.iret (v := gI gl) hx hb hr (fun t9 ht hW => ⟨⟨_, _, rfl, ⟨(by unfold f_framex; rw [bOf_nI (by decide) (by decide)]; rfl), rfl⟩, by rw [ht]; exact hP, rfl⟩, hS.F ht⟩) hS.2.2 dX7_frame_126
  · have _ : True := trivial
    subst hko
    obtain ⟨hf, hps, hk1, hga, hlb⟩ := id htv
    have hn7 := hf.2.2.2.2.2.1
    have h24 := hf.2.2.2.2.1
    refine lv_iload_n hx hb dX7_frame_0 rfl (lv_at hl 1 rfl) ?_
    refine lv_tableIn (x := nI 7) (off := 126) (tgt := 127) hx hb dX7_frame_1 (by decide) (by decide) rfl (by decide) ?_
    refine lv_aload_n hx hb dX7_frame_127 rfl (lv_at hl 0 rfl) ?_
    refine gf_X7_19 hC hK hP 0 rfl rfl dX7_frame_128 ?_
    refine gf_X7_108 hC hK hP 1 rfl rfl dX7_frame_131 ?_
    rw [hQ]
    exact W.iret (v := gI aq) hx hb hr (fun t9 ht hW => ⟨⟨_, _, rfl, ⟨(by unfold f_framex; rw [bOf_nI (by decide) (by decide)]; rfl), rfl⟩, by rw [ht]; exact hP, rfl⟩, hS.F ht⟩) hS.2.2 dX7_frame_134
  · have _ : True := trivial
    subst hko
    obtain ⟨hf, hps, hk1, hga, hlb⟩ := id htv
    have hn7 := hf.2.2.2.2.2.1
    have h24 := hf.2.2.2.2.1
    refine lv_iload_n hx hb dX7_frame_0 rfl (lv_at hl 1 rfl) ?_
    refine lv_tableIn (x := nI 8) (off := 134) (tgt := 135) hx hb dX7_frame_1 (by decide) (by decide) rfl (by decide) ?_
    refine lv_aload_n hx hb dX7_frame_135 rfl (lv_at hl 0 rfl) ?_
    refine gf_X7_19 hC hK hP 0 rfl rfl dX7_frame_136 ?_
    refine callV_i (As := []) (rest := []) [1, 2, 3, 4, 5] hC hK hN hP hD rfl (by decide) hS 1 (ci := 0) rfl rfl rfl (c_X0_atGoal l D cI cJ cB h hs hw hh hp se wd hd nb wl st sl gl aq lb sh bw bh ps (by omega) hga hps) q408 md_X0_atGoal rfl hl.1 rfl (Nat.le_of_ble_eq_true rfl) dX7_frame_139 ⟨Nat.le_of_ble_eq_true rfl, Nat.le_of_ble_eq_true rfl⟩ ⟨Nat.le_of_ble_eq_true rfl, Nat.le_of_ble_eq_true rfl⟩ (fun r_139 w H locs hpost hP hD hS => ?_)
    obtain ⟨rfl, rfl⟩ := hpost
    have hP : va_P D vwCl (xbW cI cJ cB xo vo h h2 ho ro ys yw xr hs hw hh hp (nI se) (nI wd) (nI hd) (nI wl) (nI nb) (nI (topv wd)) (nI (rcv wd hd)) (nI (btv wd hd)) (nI (lcv wd hd)) (gI gl) (gI aq) st sl (gI lb) (fun zz => nI (sh zz)) (fun zz => nI (bw zz)) (fun zz => nI (bh zz)) (fun zz => nI (ps zz))) H := hP
    have hD : va_D A (xbW cI cJ cB xo vo h h2 ho ro ys yw xr hs hw hh hp (nI se) (nI wd) (nI hd) (nI wl) (nI nb) (nI (topv wd)) (nI (rcv wd hd)) (nI (btv wd hd)) (nI (lcv wd hd)) (gI gl) (gI aq) st sl (gI lb) (fun zz => nI (sh zz)) (fun zz => nI (bw zz)) (fun zz => nI (bh zz)) (fun zz => nI (ps zz))) := hD
    refine b_if_eq (tgt := 149) hx hb dX7_frame_142 (by decide) (fun c142 => ?_) (fun c142 => ?_)
    · have _ : True := trivial
      refine lv_iconst (v := nI 0) hx hb dX7_frame_149 (by decide) ?_
      refine topi (y := bI (f_sol gl aq ps)) (by rw [c142]; rfl) ?_
      rw [hQ]
      exact W.iret (v := bI (f_sol gl aq ps)) hx hb hr (fun t9 ht hW => ⟨⟨_, _, rfl, ⟨(by unfold f_framex; rw [bOf_nI (by decide) (by decide)]; rfl), rfl⟩, by rw [ht]; exact hP, rfl⟩, hS.F ht⟩) hS.2.2 dX7_frame_150
    · have _ : True := trivial
      refine lv_iconst (v := nI 1) hx hb dX7_frame_145 (by decide) ?_
      refine topi (y := bI (f_sol gl aq ps)) (by rw [c142]; rfl) ?_
      refine lv_goto (tgt := 150) hx hb dX7_frame_146 (by decide) ?_
      rw [hQ]
      exact W.iret (v := bI (f_sol gl aq ps)) hx hb hr (fun t9 ht hW => ⟨⟨_, _, rfl, ⟨(by unfold f_framex; rw [bOf_nI (by decide) (by decide)]; rfl), rfl⟩, by rw [ht]; exact hP, rfl⟩, hS.F ht⟩) hS.2.2 dX7_frame_150

set_option maxHeartbeats 400000 in
set_option maxRecDepth 100000 in
theorem c_X7_cell (l : Launch) (D : va_G) (cI cJ cB : ClassId) (xo vo h2 ho ro ys yw : Nat) (xr : Int32) (h hs hw hh hp se wd hd nb wl : Nat) (st sl : Int32) (gl aq lb : Option Nat) (sh bw bh ps : Nat → Nat) (x : Int32) (htv : TV wd hd nb wl sh bw bh ps gl aq lb) : Met l yX7_cell (Cond.code yX7_cell cX7_cell 4 (some .int) :: lw_all) (rmN 2) (va_Pc [.ref xo, .int x] (pB D (tyz cI cJ cB) (xbW cI cJ cB xo vo h h2 ho ro ys yw xr hs hw hh hp (nI se) (nI wd) (nI hd) (nI wl) (nI nb) (nI (topv wd)) (nI (rcv wd hd)) (nI (btv wd hd)) (nI (lcv wd hd)) (gI gl) (gI aq) st sl (gI lb) (fun zz => nI (sh zz)) (fun zz => nI (bw zz)) (fun zz => nI (bh zz)) (fun zz => nI (ps zz))))) (va_Qi (fun (r : Int32) (w : va_W) => r = f_cellx wd hd nb wl sh ps x ∧ w = xbW cI cJ cB xo vo h h2 ho ro ys yw xr hs hw hh hp (nI se) (nI wd) (nI hd) (nI wl) (nI nb) (nI (topv wd)) (nI (rcv wd hd)) (nI (btv wd hd)) (nI (lcv wd hd)) (gI gl) (gI aq) st sl (gI lb) (fun zz => nI (sh zz)) (fun zz => nI (bw zz)) (fun zz => nI (bh zz)) (fun zz => nI (ps zz))) (gB D (xbW cI cJ cB xo vo h h2 ho ro ys yw xr hs hw hh hp (nI se) (nI wd) (nI hd) (nI wl) (nI nb) (nI (topv wd)) (nI (rcv wd hd)) (nI (btv wd hd)) (nI (lcv wd hd)) (gI gl) (gI aq) st sl (gI lb) (fun zz => nI (sh zz)) (fun zz => nI (bw zz)) (fun zz => nI (bh zz)) (fun zz => nI (ps zz)))) (aW (xbW cI cJ cB xo vo h h2 ho ro ys yw xr hs hw hh hp (nI se) (nI wd) (nI hd) (nI wl) (nI nb) (nI (topv wd)) (nI (rcv wd hd)) (nI (btv wd hd)) (nI (lcv wd hd)) (gI gl) (gI aq) st sl (gI lb) (fun zz => nI (sh zz)) (fun zz => nI (bw zz)) (fun zz => nI (bh zz)) (fun zz => nI (ps zz))))) 0 0 (aW (xbW cI cJ cB xo vo h h2 ho ro ys yw xr hs hw hh hp (nI se) (nI wd) (nI hd) (nI wl) (nI nb) (nI (topv wd)) (nI (rcv wd hd)) (nI (btv wd hd)) (nI (lcv wd hd)) (gI gl) (gI aq) st sl (gI lb) (fun zz => nI (sh zz)) (fun zz => nI (bw zz)) (fun zz => nI (bh zz)) (fun zz => nI (ps zz)))) := by
  refine Met.ofW (cc := cX7_cell) (maxL := 4) (ret := (some .int)) (by decide) rfl ?_
  intro p e s m args below meth c s₁ B hml hv
  obtain ⟨rfl, hK, hN, hP, hD0⟩ := hv
  have hx := B.exec; have hb := B.bytes; have hr := B.returns; have hlocks := B.notSynchronized
  have hts0 := atoms_spec (ws := Cond.code yX7_cell cX7_cell 4 (some .int) :: lw_all) B.pre
  have hC : CallFix p m c cX7_cell 4 s _ lw_all RX7 := ⟨hx, hb, hml, findClass_of_methodNamed B.named, fun w h => hts0 w (List.mem_cons_of_mem _ h)⟩
  have hD : va_D (aW (xbW cI cJ cB xo vo h h2 ho ro ys yw xr hs hw hh hp (nI se) (nI wd) (nI hd) (nI wl) (nI nb) (nI (topv wd)) (nI (rcv wd hd)) (nI (btv wd hd)) (nI (lcv wd hd)) (gI gl) (gI aq) st sl (gI lb) (fun zz => nI (sh zz)) (fun zz => nI (bw zz)) (fun zz => nI (bh zz)) (fun zz => nI (ps zz)))) (xbW cI cJ cB xo vo h h2 ho ro ys yw xr hs hw hh hp (nI se) (nI wd) (nI hd) (nI wl) (nI nb) (nI (topv wd)) (nI (rcv wd hd)) (nI (btv wd hd)) (nI (lcv wd hd)) (gI gl) (gI aq) st sl (gI lb) (fun zz => nI (sh zz)) (fun zz => nI (bw zz)) (fun zz => nI (bh zz)) (fun zz => nI (ps zz))) := ⟨hD0.1, fun k q h => ⟨k, q.2, h⟩⟩
  generalize hAe : aW (xbW cI cJ cB xo vo h h2 ho ro ys yw xr hs hw hh hp (nI se) (nI wd) (nI hd) (nI wl) (nI nb) (nI (topv wd)) (nI (rcv wd hd)) (nI (btv wd hd)) (nI (lcv wd hd)) (gI gl) (gI aq) st sl (gI lb) (fun zz => nI (sh zz)) (fun zz => nI (bw zz)) (fun zz => nI (bh zz)) (fun zz => nI (ps zz))) = A at hD ⊢
  have hS : va_S A s.heap s.heap [] := va_S.rf
  have hl := lv_entry ([.ref xo, .int x]) (n := 4) (Nat.le_of_ble_eq_true rfl)
  rw [lg_entry_eq]
  generalize (lg_sl ([.ref xo, .int x]) ++ List.replicate (4 - (lg_sl ([.ref xo, .int x])).length) Slot.unset).toArray = ls at hl ⊢
  have hl : lv_has ls 4 [(0, .ref xo), (1, .int x)] := hl
  generalize hav : ([.ref xo, .int x] : List Value).toArray = args at hC ⊢
  refine W_gen (fun QQ hQ => ?_)
  show W p l e (rmN 2) s m args below meth c s.heap [] 0 0 QQ (F0 m 0 ls [])
  obtain ⟨hf, hps, hk1, hga, hlb⟩ := id htv
  have hn7 := hf.2.2.2.2.2.1
  have h24 := hf.2.2.2.2.1
  refine lv_aload_n hx hb dX7_cell_0 rfl (lv_at hl 0 rfl) ?_
  refine gf_X7_19 hC hK hP 0 rfl rfl dX7_cell_1 ?_
  refine lv_iload_n hx hb dX7_cell_4 rfl (lv_at hl 1 rfl) ?_
  refine callV_i (As := [.int x]) (rest := []) [1, 2, 3, 4, 5] hC hK hN hP hD rfl (by decide) hS 1 (ci := 0) rfl rfl rfl (c_X0_hasCell l D cI cJ cB h hs hw hh hp se wd hd nb wl st sl gl aq lb sh bw bh ps x (by omega)) q416 md_X0_hasCell rfl hl.1 rfl (Nat.le_of_ble_eq_true rfl) dX7_cell_5 ⟨Nat.le_of_ble_eq_true rfl, Nat.le_of_ble_eq_true rfl⟩ ⟨Nat.le_of_ble_eq_true rfl, Nat.le_of_ble_eq_true rfl⟩ (fun r_5 w H locs hpost hP hD hS => ?_)
  obtain ⟨rfl, rfl⟩ := hpost
  have hP : va_P D vwCl (xbW cI cJ cB xo vo h h2 ho ro ys yw xr hs hw hh hp (nI se) (nI wd) (nI hd) (nI wl) (nI nb) (nI (topv wd)) (nI (rcv wd hd)) (nI (btv wd hd)) (nI (lcv wd hd)) (gI gl) (gI aq) st sl (gI lb) (fun zz => nI (sh zz)) (fun zz => nI (bw zz)) (fun zz => nI (bh zz)) (fun zz => nI (ps zz))) H := hP
  have hD : va_D A (xbW cI cJ cB xo vo h h2 ho ro ys yw xr hs hw hh hp (nI se) (nI wd) (nI hd) (nI wl) (nI nb) (nI (topv wd)) (nI (rcv wd hd)) (nI (btv wd hd)) (nI (lcv wd hd)) (gI gl) (gI aq) st sl (gI lb) (fun zz => nI (sh zz)) (fun zz => nI (bw zz)) (fun zz => nI (bh zz)) (fun zz => nI (ps zz))) := hD
  refine b_if_ne (tgt := 13) hx hb dX7_cell_8 (by decide) (fun c8 => ?_) (fun c8 => ?_)
  · have _ : True := trivial
    obtain ⟨i, hi9, hxi, hio⟩ := bOf_yes (by omega) c8
    subst hxi
    refine lv_iconst (v := nI 1) hx hb dX7_cell_13 (by decide) ?_
    refine lv_iload_n hx hb dX7_cell_14 rfl (lv_at hl 1 rfl) ?_
    refine n_ishl hx hb dX7_cell_15 (by omega) ?_
    refine lv_istore_n (lv' := [(2, .int (nI (1 <<< i))), (0, .ref xo), (1, .int (nI i))]) hx hb dX7_cell_16 rfl hl (by decide) rfl (fun ls hl => ?_)
    refine lv_aload_n hx hb dX7_cell_17 rfl (lv_at hl 1 rfl) ?_
    refine gf_X7_19 hC hK hP 0 rfl rfl dX7_cell_18 ?_
    refine gf_X7_118 hC hK hP 1 rfl rfl dX7_cell_21 ?_
    refine lv_iload_n hx hb dX7_cell_24 rfl (lv_at hl 0 rfl) ?_
    refine n_iand hx hb dX7_cell_25  ?_
    refine n_if_eq (tgt := 32) hx hb dX7_cell_26 (by decide) (Nat.lt_of_le_of_lt Nat.and_le_right (by rw [Nat.one_shiftLeft]; exact Nat.pow_lt_pow_right (by decide) (show i < 31 by omega))) (fun c26 => ?_) (fun c26 => ?_)
    · have _ : True := trivial
      have hw0 := mbit_no c26
      refine lv_iconst (v := nI 0) hx hb dX7_cell_32 (by decide) ?_
      refine lv_istore_n (lv' := [(3, .int (nI 0)), (2, .int (nI (1 <<< i))), (0, .ref xo), (1, .int (nI i))]) hx hb dX7_cell_33 rfl hl (by decide) rfl (fun ls hl => ?_)
      have L34 : ∀ (n : Nat) (b : Nat), (b ≤ nb) → (∀ c, c < b → ¬ (sh c <<< ps c).testBit i = true) → (nb - b) < n → ∀ (H : Heap) (locs : List Loc), va_P D vwCl (xbW cI cJ cB xo vo h h2 ho ro ys yw xr hs hw hh hp (nI se) (nI wd) (nI hd) (nI wl) (nI nb) (nI (topv wd)) (nI (rcv wd hd)) (nI (btv wd hd)) (nI (lcv wd hd)) (gI gl) (gI aq) st sl (gI lb) (fun zz => nI (sh zz)) (fun zz => nI (bw zz)) (fun zz => nI (bh zz)) (fun zz => nI (ps zz))) H → va_D A (xbW cI cJ cB xo vo h h2 ho ro ys yw xr hs hw hh hp (nI se) (nI wd) (nI hd) (nI wl) (nI nb) (nI (topv wd)) (nI (rcv wd hd)) (nI (btv wd hd)) (nI (lcv wd hd)) (gI gl) (gI aq) st sl (gI lb) (fun zz => nI (sh zz)) (fun zz => nI (bw zz)) (fun zz => nI (bh zz)) (fun zz => nI (ps zz))) → va_S A s.heap H locs → ∀ ls : Array Slot, lv_has ls 4 [(3, .int (nI b)), (2, .int (nI (1 <<< i))), (0, .ref xo), (1, .int (nI i))] → W p l e (rmN 2) s m args below meth c H locs 0 0 QQ (F0 m 34 ls []) := by
        intro n; induction n with
        | zero => intro b ib i1 hm; exact absurd hm (Nat.not_lt_zero _)
        | succ n ih34 =>
          intro b ib i1 hm34 H locs hP hD hS ls hl
          refine lv_iload_n hx hb dX7_cell_34 rfl (lv_at hl 0 rfl) ?_
          refine lv_aload_n hx hb dX7_cell_35 rfl (lv_at hl 2 rfl) ?_
          refine gf_X7_19 hC hK hP 0 rfl rfl dX7_cell_36 ?_
          refine gf_X7_80 hC hK hP 1 rfl rfl dX7_cell_39 ?_
          refine n_icmp_ge (a := b) (b := nb) (tgt := 66) hx hb dX7_cell_42 (by decide) (by omega) (by omega) (fun c42 => ?_) (fun c42 => ?_)
          · have _ : True := trivial
            have e42 : b = nb := by omega
            refine lv_bipush (v := (-9)) hx hb dX7_cell_66 (by decide) ?_
            rw [hQ]
            exact W.iret (v := (-9)) hx hb hr (fun t9 ht hW => ⟨⟨_, _, rfl, ⟨(by unfold f_cellx; rw [hio]; exact (cel_n hw0 nb (by rw [← e42]; exact i1)).symm), rfl⟩, by rw [ht]; exact hP, rfl⟩, hS.F ht⟩) hS.2.2 dX7_cell_68
          · have _ : True := trivial
            refine lv_aload_n hx hb dX7_cell_45 rfl (lv_at hl 2 rfl) ?_
            refine gf_X7_19 hC hK hP 0 rfl rfl dX7_cell_46 ?_
            refine lv_iload_n hx hb dX7_cell_49 rfl (lv_at hl 0 rfl) ?_
            refine callV_i (As := [.int (nI b)]) (rest := []) [1, 2, 3, 4, 5] hC hK hN hP hD rfl (by decide) hS 1 (ci := 0) rfl rfl rfl (c_X0_cellsOf l D cI cJ cB h hs hw hh hp se wd hd nb wl st sl gl aq lb sh bw bh ps b (by omega) (hps b (by omega))) q420 md_X0_cellsOf rfl hl.1 rfl (Nat.le_of_ble_eq_true rfl) dX7_cell_50 ⟨Nat.le_of_ble_eq_true rfl, Nat.le_of_ble_eq_true rfl⟩ ⟨Nat.le_of_ble_eq_true rfl, Nat.le_of_ble_eq_true rfl⟩ (fun r_50 w H locs hpost hP hD hS => ?_)
            obtain ⟨rfl, rfl⟩ := hpost
            have hP : va_P D vwCl (xbW cI cJ cB xo vo h h2 ho ro ys yw xr hs hw hh hp (nI se) (nI wd) (nI hd) (nI wl) (nI nb) (nI (topv wd)) (nI (rcv wd hd)) (nI (btv wd hd)) (nI (lcv wd hd)) (gI gl) (gI aq) st sl (gI lb) (fun zz => nI (sh zz)) (fun zz => nI (bw zz)) (fun zz => nI (bh zz)) (fun zz => nI (ps zz))) H := hP
            have hD : va_D A (xbW cI cJ cB xo vo h h2 ho ro ys yw xr hs hw hh hp (nI se) (nI wd) (nI hd) (nI wl) (nI nb) (nI (topv wd)) (nI (rcv wd hd)) (nI (btv wd hd)) (nI (lcv wd hd)) (gI gl) (gI aq) st sl (gI lb) (fun zz => nI (sh zz)) (fun zz => nI (bw zz)) (fun zz => nI (bh zz)) (fun zz => nI (ps zz))) := hD
            refine lv_iload_n hx hb dX7_cell_53 rfl (lv_at hl 1 rfl) ?_
            refine n_iand hx hb dX7_cell_54  ?_
            refine n_if_eq (tgt := 60) hx hb dX7_cell_55 (by decide) (Nat.lt_of_le_of_lt Nat.and_le_right (by rw [Nat.one_shiftLeft]; exact Nat.pow_lt_pow_right (by decide) (show i < 31 by omega))) (fun c55 => ?_) (fun c55 => ?_)
            · have _ : True := trivial
              have hb0 := mbit_no c55
              refine lv_iinc (v := nI (b + 1)) (lv' := [(3, .int (nI (b + 1))), (2, .int (nI (1 <<< i))), (0, .ref xo), (1, .int (nI i))]) hx hb dX7_cell_60 hl (k := 0) rfl (nI_1 _) (by decide) rfl (fun ls hl => ?_)
              refine lv_goto (tgt := 34) hx hb dX7_cell_63 (by decide) ?_
              exact ih34 (b + 1) (by omega) (lt_s i1 hb0) (by omega) _ _ hP hD hS _ (lv_sub hl [0, 1, 2, 3] rfl)
            · have _ : True := trivial
              have hb0 := mbit_yes c55
              refine lv_iload_n hx hb dX7_cell_58 rfl (lv_at hl 0 rfl) ?_
              rw [hQ]
              exact W.iret (v := nI b) hx hb hr (fun t9 ht hW => ⟨⟨_, _, rfl, ⟨(by unfold f_cellx; rw [hio]; exact (cel_b hn7 hps hk1 (by omega) hb0 nb (by omega) (Nat.le_refl nb)).symm), rfl⟩, by rw [ht]; exact hP, rfl⟩, hS.F ht⟩) hS.2.2 dX7_cell_59
      exact L34 _ 0 (by omega) (fun c h => absurd h (Nat.not_lt_zero c)) (Nat.lt_succ_self _) _ _ hP hD hS _ (lv_sub hl [0, 1, 2, 3] rfl)
    · have _ : True := trivial
      have hw0 := mbit_yes c26
      refine lv_bipush (v := (-10)) hx hb dX7_cell_29 (by decide) ?_
      rw [hQ]
      exact W.iret (v := (-10)) hx hb hr (fun t9 ht hW => ⟨⟨_, _, rfl, ⟨(by unfold f_cellx; rw [hio]; exact (cel_w hn7 hps hk1 hw0 nb (Nat.le_refl nb)).symm), rfl⟩, by rw [ht]; exact hP, rfl⟩, hS.F ht⟩) hS.2.2 dX7_cell_31
  · have _ : True := trivial
    have hio := bOf_non c8
    refine lv_iconst (v := (-1)) hx hb dX7_cell_11 (by decide) ?_
    rw [hQ]
    exact W.iret (v := (-1)) hx hb hr (fun t9 ht hW => ⟨⟨_, _, rfl, ⟨(by unfold f_cellx; rw [hio]), rfl⟩, by rw [ht]; exact hP, rfl⟩, hS.F ht⟩) hS.2.2 dX7_cell_12

set_option maxHeartbeats 400000 in
set_option maxRecDepth 100000 in
theorem c_X7_block (l : Launch) (D : va_G) (cI cJ cB : ClassId) (xo vo h2 ho ys yw : Nat) (xr : Int32) (ro rfa rqa : Nat) (rF : Nat → Option Nat) (rQ : Nat → Nat) (h hs hw hh hp se wd hd nb wl : Nat) (st sl : Int32) (gl aq lb : Option Nat) (sh bw bh ps : Nat → Nat) (x y : Int32) (htv : TV wd hd nb wl sh bw bh ps gl aq lb) : Met l yX7_block (Cond.code yX7_block cX7_block 3 (some .int) :: lw_all) (rmN 4) (va_Pc [.ref xo, .int x, .int y] (pB D (tyz cI cJ cB) (xrW cI cJ cB xo vo h h2 ho ro ys yw xr hs hw hh hp (nI se) (nI wd) (nI hd) (nI wl) (nI nb) (nI (topv wd)) (nI (rcv wd hd)) (nI (btv wd hd)) (nI (lcv wd hd)) (gI gl) (gI aq) st sl (gI lb) (fun zz => nI (sh zz)) (fun zz => nI (bw zz)) (fun zz => nI (bh zz)) (fun zz => nI (ps zz)) rfa rqa (fun zz => oI (rF zz)) (fun zz => nI (rQ zz))))) (va_Qi (fun (r : Int32) (w : va_W) => ∃ F2 : Nat → Option Nat, ∃ Q2 : Nat → Nat, r = f_blkx wd hd nb wl sh bw bh ps x y ∧ w = xrW cI cJ cB xo vo h h2 ho ro ys yw xr hs hw hh hp (nI se) (nI wd) (nI hd) (nI wl) (nI nb) (nI (topv wd)) (nI (rcv wd hd)) (nI (btv wd hd)) (nI (lcv wd hd)) (gI gl) (gI aq) st sl (gI lb) (fun zz => nI (sh zz)) (fun zz => nI (bw zz)) (fun zz => nI (bh zz)) (fun zz => nI (ps zz)) rfa rqa (fun zz => oI (F2 zz)) (fun zz => nI (Q2 zz))) (gB D (xrW cI cJ cB xo vo h h2 ho ro ys yw xr hs hw hh hp (nI se) (nI wd) (nI hd) (nI wl) (nI nb) (nI (topv wd)) (nI (rcv wd hd)) (nI (btv wd hd)) (nI (lcv wd hd)) (gI gl) (gI aq) st sl (gI lb) (fun zz => nI (sh zz)) (fun zz => nI (bw zz)) (fun zz => nI (bh zz)) (fun zz => nI (ps zz)) rfa rqa (fun zz => oI (rF zz)) (fun zz => nI (rQ zz)))) (aW (xrW cI cJ cB xo vo h h2 ho ro ys yw xr hs hw hh hp (nI se) (nI wd) (nI hd) (nI wl) (nI nb) (nI (topv wd)) (nI (rcv wd hd)) (nI (btv wd hd)) (nI (lcv wd hd)) (gI gl) (gI aq) st sl (gI lb) (fun zz => nI (sh zz)) (fun zz => nI (bw zz)) (fun zz => nI (bh zz)) (fun zz => nI (ps zz)) rfa rqa (fun zz => oI (rF zz)) (fun zz => nI (rQ zz))))) 0 0 (aW (xrW cI cJ cB xo vo h h2 ho ro ys yw xr hs hw hh hp (nI se) (nI wd) (nI hd) (nI wl) (nI nb) (nI (topv wd)) (nI (rcv wd hd)) (nI (btv wd hd)) (nI (lcv wd hd)) (gI gl) (gI aq) st sl (gI lb) (fun zz => nI (sh zz)) (fun zz => nI (bw zz)) (fun zz => nI (bh zz)) (fun zz => nI (ps zz)) rfa rqa (fun zz => oI (rF zz)) (fun zz => nI (rQ zz)))) := by
  refine Met.ofW (cc := cX7_block) (maxL := 3) (ret := (some .int)) (by decide) rfl ?_
  intro p e s m args below meth c s₁ B hml hv
  obtain ⟨rfl, hK, hN, hP, hD0⟩ := hv
  have hx := B.exec; have hb := B.bytes; have hr := B.returns; have hlocks := B.notSynchronized
  have hts0 := atoms_spec (ws := Cond.code yX7_block cX7_block 3 (some .int) :: lw_all) B.pre
  have hC : CallFix p m c cX7_block 3 s _ lw_all RX7 := ⟨hx, hb, hml, findClass_of_methodNamed B.named, fun w h => hts0 w (List.mem_cons_of_mem _ h)⟩
  have hD : va_D (aW (xrW cI cJ cB xo vo h h2 ho ro ys yw xr hs hw hh hp (nI se) (nI wd) (nI hd) (nI wl) (nI nb) (nI (topv wd)) (nI (rcv wd hd)) (nI (btv wd hd)) (nI (lcv wd hd)) (gI gl) (gI aq) st sl (gI lb) (fun zz => nI (sh zz)) (fun zz => nI (bw zz)) (fun zz => nI (bh zz)) (fun zz => nI (ps zz)) rfa rqa (fun zz => oI (rF zz)) (fun zz => nI (rQ zz)))) (xrW cI cJ cB xo vo h h2 ho ro ys yw xr hs hw hh hp (nI se) (nI wd) (nI hd) (nI wl) (nI nb) (nI (topv wd)) (nI (rcv wd hd)) (nI (btv wd hd)) (nI (lcv wd hd)) (gI gl) (gI aq) st sl (gI lb) (fun zz => nI (sh zz)) (fun zz => nI (bw zz)) (fun zz => nI (bh zz)) (fun zz => nI (ps zz)) rfa rqa (fun zz => oI (rF zz)) (fun zz => nI (rQ zz))) := ⟨hD0.1, fun k q h => ⟨k, q.2, h⟩⟩
  generalize hAe : aW (xrW cI cJ cB xo vo h h2 ho ro ys yw xr hs hw hh hp (nI se) (nI wd) (nI hd) (nI wl) (nI nb) (nI (topv wd)) (nI (rcv wd hd)) (nI (btv wd hd)) (nI (lcv wd hd)) (gI gl) (gI aq) st sl (gI lb) (fun zz => nI (sh zz)) (fun zz => nI (bw zz)) (fun zz => nI (bh zz)) (fun zz => nI (ps zz)) rfa rqa (fun zz => oI (rF zz)) (fun zz => nI (rQ zz))) = A at hD ⊢
  have hS : va_S A s.heap s.heap [] := va_S.rf
  have hl := lv_entry ([.ref xo, .int x, .int y]) (n := 3) (Nat.le_of_ble_eq_true rfl)
  rw [lg_entry_eq]
  generalize (lg_sl ([.ref xo, .int x, .int y]) ++ List.replicate (3 - (lg_sl ([.ref xo, .int x, .int y])).length) Slot.unset).toArray = ls at hl ⊢
  have hl : lv_has ls 3 [(0, .ref xo), (1, .int x), (2, .int y)] := hl
  generalize hav : ([.ref xo, .int x, .int y] : List Value).toArray = args at hC ⊢
  refine W_gen (fun QQ hQ => ?_)
  show W p l e (rmN 4) s m args below meth c s.heap [] 0 0 QQ (F0 m 0 ls [])
  obtain ⟨hf, hps, hk1, hga, hlb⟩ := id htv
  have hn7 := hf.2.2.2.2.2.1
  have h24 := hf.2.2.2.2.1
  refine lv_aload_n hx hb dX7_block_0 rfl (lv_at hl 0 rfl) ?_
  refine gf_X7_19 hC hK hP 0 rfl rfl dX7_block_1 ?_
  refine lv_iload_n hx hb dX7_block_4 rfl (lv_at hl 1 rfl) ?_
  refine callV_i (As := [.int x]) (rest := []) [1, 2, 3, 4, 5] hC hK hN hP hD rfl (by decide) hS 1 (ci := 0) rfl rfl rfl (c_X0_has l D cI cJ cB h hs hw hh hp se wd hd nb wl st sl gl aq lb sh bw bh ps x (by omega)) q425 md_X0_has rfl hl.1 rfl (Nat.le_of_ble_eq_true rfl) dX7_block_5 ⟨Nat.le_of_ble_eq_true rfl, Nat.le_of_ble_eq_true rfl⟩ ⟨Nat.le_of_ble_eq_true rfl, Nat.le_of_ble_eq_true rfl⟩ (fun r_5 w H locs hpost hP hD hS => ?_)
  obtain ⟨rfl, rfl⟩ := hpost
  have hP : va_P D vwCl (xrW cI cJ cB xo vo h h2 ho ro ys yw xr hs hw hh hp (nI se) (nI wd) (nI hd) (nI wl) (nI nb) (nI (topv wd)) (nI (rcv wd hd)) (nI (btv wd hd)) (nI (lcv wd hd)) (gI gl) (gI aq) st sl (gI lb) (fun zz => nI (sh zz)) (fun zz => nI (bw zz)) (fun zz => nI (bh zz)) (fun zz => nI (ps zz)) rfa rqa (fun zz => oI (rF zz)) (fun zz => nI (rQ zz))) H := hP
  have hD : va_D A (xrW cI cJ cB xo vo h h2 ho ro ys yw xr hs hw hh hp (nI se) (nI wd) (nI hd) (nI wl) (nI nb) (nI (topv wd)) (nI (rcv wd hd)) (nI (btv wd hd)) (nI (lcv wd hd)) (gI gl) (gI aq) st sl (gI lb) (fun zz => nI (sh zz)) (fun zz => nI (bw zz)) (fun zz => nI (bh zz)) (fun zz => nI (ps zz)) rfa rqa (fun zz => oI (rF zz)) (fun zz => nI (rQ zz))) := hD
  refine b_if_ne (tgt := 13) hx hb dX7_block_8 (by decide) (fun c8 => ?_) (fun c8 => ?_)
  · have _ : True := trivial
    obtain ⟨b, hbn, hxb, hbo⟩ := bOf_yes (by omega) c8
    subst hxb
    have hsb := hf.2.2.2.2.2.2.2 b hbn
    rcases bk8 y with hko | hko | hko | hko | hko | hko | hko | hko
    · have _ : True := trivial
      refine lv_iload_n hx hb dX7_block_13 rfl (lv_at hl 2 rfl) ?_
      refine lv_tableOut (tgt := 138) hx hb dX7_block_14 (bOf_out hko) (by decide) ?_
      refine lv_iconst (v := (-1)) hx hb dX7_block_138 (by decide) ?_
      rw [hQ]
      exact W.iret (v := (-1)) hx hb hr (fun t9 ht hW => ⟨⟨_, _, rfl, ⟨rF, rQ, (by unfold f_blkx; rw [hbo, hko]), rfl⟩, by rw [ht]; exact hP, rfl⟩, hS.F ht⟩) hS.2.2 dX7_block_139
    · have _ : True := trivial
      subst hko
      refine lv_iload_n hx hb dX7_block_13 rfl (lv_at hl 2 rfl) ?_
      refine lv_tableIn (x := nI 0) (off := 42) (tgt := 56) hx hb dX7_block_14 (by decide) (by decide) rfl (by decide) ?_
      refine lv_aload_n hx hb dX7_block_56 rfl (lv_at hl 0 rfl) ?_
      refine gf_X7_19 hC hK hP 0 rfl rfl dX7_block_57 ?_
      refine gf_X7_127 hC hK hP 1 rfl rfl dX7_block_60 ?_
      refine lv_iload_n hx hb dX7_block_63 rfl (lv_at hl 1 rfl) ?_
      refine callS_i (As := [.ref hp, .int (nI b)]) (rest := []) [5] hC hK hN hP hD rfl (by decide) hS (c_X7_at_N l D cI cJ cB hp 7 b ps (by omega) (by omega)) q429 md_X7_at rfl hl.1 rfl (Nat.le_of_ble_eq_true rfl) dX7_block_64 ⟨Nat.le_of_ble_eq_true rfl, Nat.le_of_ble_eq_true rfl⟩ ⟨Nat.le_of_ble_eq_true rfl, Nat.le_of_ble_eq_true rfl⟩ (fun r_64 w H locs hpost hP hD hS => ?_)
      obtain ⟨rfl, rfl⟩ := hpost
      have hP : va_P D vwCl (xrW cI cJ cB xo vo h h2 ho ro ys yw xr hs hw hh hp (nI se) (nI wd) (nI hd) (nI wl) (nI nb) (nI (topv wd)) (nI (rcv wd hd)) (nI (btv wd hd)) (nI (lcv wd hd)) (gI gl) (gI aq) st sl (gI lb) (fun zz => nI (sh zz)) (fun zz => nI (bw zz)) (fun zz => nI (bh zz)) (fun zz => nI (ps zz)) rfa rqa (fun zz => oI (rF zz)) (fun zz => nI (rQ zz))) H := hP
      have hD : va_D A (xrW cI cJ cB xo vo h h2 ho ro ys yw xr hs hw hh hp (nI se) (nI wd) (nI hd) (nI wl) (nI nb) (nI (topv wd)) (nI (rcv wd hd)) (nI (btv wd hd)) (nI (lcv wd hd)) (gI gl) (gI aq) st sl (gI lb) (fun zz => nI (sh zz)) (fun zz => nI (bw zz)) (fun zz => nI (bh zz)) (fun zz => nI (ps zz)) rfa rqa (fun zz => oI (rF zz)) (fun zz => nI (rQ zz))) := hD
      rw [hQ]
      exact W.iret (v := nI (ps b)) hx hb hr (fun t9 ht hW => ⟨⟨_, _, rfl, ⟨rF, rQ, (by unfold f_blkx; rw [hbo, bOf_nI (by decide) (by decide)]; rfl), rfl⟩, by rw [ht]; exact hP, rfl⟩, hS.F ht⟩) hS.2.2 dX7_block_67
    · have _ : True := trivial
      subst hko
      refine lv_iload_n hx hb dX7_block_13 rfl (lv_at hl 2 rfl) ?_
      refine lv_tableIn (x := nI 1) (off := 54) (tgt := 68) hx hb dX7_block_14 (by decide) (by decide) rfl (by decide) ?_
      refine lv_aload_n hx hb dX7_block_68 rfl (lv_at hl 0 rfl) ?_
      refine gf_X7_19 hC hK hP 0 rfl rfl dX7_block_69 ?_
      refine gf_X7_135 hC hK hP 1 rfl rfl dX7_block_72 ?_
      refine lv_iload_n hx hb dX7_block_75 rfl (lv_at hl 1 rfl) ?_
      refine callS_i (As := [.ref hs, .int (nI b)]) (rest := []) [2] hC hK hN hP hD rfl (by decide) hS (c_X7_at_N l D cI cJ cB hs 7 b sh (by omega) (by omega)) q429 md_X7_at rfl hl.1 rfl (Nat.le_of_ble_eq_true rfl) dX7_block_76 ⟨Nat.le_of_ble_eq_true rfl, Nat.le_of_ble_eq_true rfl⟩ ⟨Nat.le_of_ble_eq_true rfl, Nat.le_of_ble_eq_true rfl⟩ (fun r_76 w H locs hpost hP hD hS => ?_)
      obtain ⟨rfl, rfl⟩ := hpost
      have hP : va_P D vwCl (xrW cI cJ cB xo vo h h2 ho ro ys yw xr hs hw hh hp (nI se) (nI wd) (nI hd) (nI wl) (nI nb) (nI (topv wd)) (nI (rcv wd hd)) (nI (btv wd hd)) (nI (lcv wd hd)) (gI gl) (gI aq) st sl (gI lb) (fun zz => nI (sh zz)) (fun zz => nI (bw zz)) (fun zz => nI (bh zz)) (fun zz => nI (ps zz)) rfa rqa (fun zz => oI (rF zz)) (fun zz => nI (rQ zz))) H := hP
      have hD : va_D A (xrW cI cJ cB xo vo h h2 ho ro ys yw xr hs hw hh hp (nI se) (nI wd) (nI hd) (nI wl) (nI nb) (nI (topv wd)) (nI (rcv wd hd)) (nI (btv wd hd)) (nI (lcv wd hd)) (gI gl) (gI aq) st sl (gI lb) (fun zz => nI (sh zz)) (fun zz => nI (bw zz)) (fun zz => nI (bh zz)) (fun zz => nI (ps zz)) rfa rqa (fun zz => oI (rF zz)) (fun zz => nI (rQ zz))) := hD
      refine callS_i (As := [.int (nI (sh b))]) (rest := []) [] hC hK hN hP hD rfl (by decide) hS (c_J6_bitCount_0f7a4 l D cI cJ cB (sh b) (ShV_lt hf.1 h24 hsb)) q402 md_J6_bitCount_0f7a4 rfl hl.1 rfl (Nat.le_of_ble_eq_true rfl) dX7_block_79 ⟨Nat.le_of_ble_eq_true rfl, Nat.le_of_ble_eq_true rfl⟩ ⟨Nat.le_of_ble_eq_true rfl, Nat.le_of_ble_eq_true rfl⟩ (fun r_79 w H locs hpost hP hD hS => ?_)
      obtain ⟨rfl, rfl⟩ := hpost
      have hP : va_P D vwCl (xrW cI cJ cB xo vo h h2 ho ro ys yw xr hs hw hh hp (nI se) (nI wd) (nI hd) (nI wl) (nI nb) (nI (topv wd)) (nI (rcv wd hd)) (nI (btv wd hd)) (nI (lcv wd hd)) (gI gl) (gI aq) st sl (gI lb) (fun zz => nI (sh zz)) (fun zz => nI (bw zz)) (fun zz => nI (bh zz)) (fun zz => nI (ps zz)) rfa rqa (fun zz => oI (rF zz)) (fun zz => nI (rQ zz))) H := hP
      have hD : va_D A (xrW cI cJ cB xo vo h h2 ho ro ys yw xr hs hw hh hp (nI se) (nI wd) (nI hd) (nI wl) (nI nb) (nI (topv wd)) (nI (rcv wd hd)) (nI (btv wd hd)) (nI (lcv wd hd)) (gI gl) (gI aq) st sl (gI lb) (fun zz => nI (sh zz)) (fun zz => nI (bw zz)) (fun zz => nI (bh zz)) (fun zz => nI (ps zz)) rfa rqa (fun zz => oI (rF zz)) (fun zz => nI (rQ zz))) := hD
      rw [hQ]
      exact W.iret (v := nI (cnt (sh b) 24)) hx hb hr (fun t9 ht hW => ⟨⟨_, _, rfl, ⟨rF, rQ, (by unfold f_blkx; rw [hbo, bOf_nI (by decide) (by decide)]; rfl), rfl⟩, by rw [ht]; exact hP, rfl⟩, hS.F ht⟩) hS.2.2 dX7_block_82
    · have _ : True := trivial
      subst hko
      refine lv_iload_n hx hb dX7_block_13 rfl (lv_at hl 2 rfl) ?_
      refine lv_tableIn (x := nI 2) (off := 69) (tgt := 83) hx hb dX7_block_14 (by decide) (by decide) rfl (by decide) ?_
      refine lv_aload_n hx hb dX7_block_83 rfl (lv_at hl 0 rfl) ?_
      refine gf_X7_19 hC hK hP 0 rfl rfl dX7_block_84 ?_
      refine gf_X7_138 hC hK hP 1 rfl rfl dX7_block_87 ?_
      refine lv_iload_n hx hb dX7_block_90 rfl (lv_at hl 1 rfl) ?_
      refine callS_i (As := [.ref hw, .int (nI b)]) (rest := []) [3] hC hK hN hP hD rfl (by decide) hS (c_X7_at_N l D cI cJ cB hw 7 b bw (by omega) (by omega)) q429 md_X7_at rfl hl.1 rfl (Nat.le_of_ble_eq_true rfl) dX7_block_91 ⟨Nat.le_of_ble_eq_true rfl, Nat.le_of_ble_eq_true rfl⟩ ⟨Nat.le_of_ble_eq_true rfl, Nat.le_of_ble_eq_true rfl⟩ (fun r_91 w H locs hpost hP hD hS => ?_)
      obtain ⟨rfl, rfl⟩ := hpost
      have hP : va_P D vwCl (xrW cI cJ cB xo vo h h2 ho ro ys yw xr hs hw hh hp (nI se) (nI wd) (nI hd) (nI wl) (nI nb) (nI (topv wd)) (nI (rcv wd hd)) (nI (btv wd hd)) (nI (lcv wd hd)) (gI gl) (gI aq) st sl (gI lb) (fun zz => nI (sh zz)) (fun zz => nI (bw zz)) (fun zz => nI (bh zz)) (fun zz => nI (ps zz)) rfa rqa (fun zz => oI (rF zz)) (fun zz => nI (rQ zz))) H := hP
      have hD : va_D A (xrW cI cJ cB xo vo h h2 ho ro ys yw xr hs hw hh hp (nI se) (nI wd) (nI hd) (nI wl) (nI nb) (nI (topv wd)) (nI (rcv wd hd)) (nI (btv wd hd)) (nI (lcv wd hd)) (gI gl) (gI aq) st sl (gI lb) (fun zz => nI (sh zz)) (fun zz => nI (bw zz)) (fun zz => nI (bh zz)) (fun zz => nI (ps zz)) rfa rqa (fun zz => oI (rF zz)) (fun zz => nI (rQ zz))) := hD
      rw [hQ]
      exact W.iret (v := nI (bw b)) hx hb hr (fun t9 ht hW => ⟨⟨_, _, rfl, ⟨rF, rQ, (by unfold f_blkx; rw [hbo, bOf_nI (by decide) (by decide)]; rfl), rfl⟩, by rw [ht]; exact hP, rfl⟩, hS.F ht⟩) hS.2.2 dX7_block_94
    · have _ : True := trivial
      subst hko
      refine lv_iload_n hx hb dX7_block_13 rfl (lv_at hl 2 rfl) ?_
      refine lv_tableIn (x := nI 3) (off := 81) (tgt := 95) hx hb dX7_block_14 (by decide) (by decide) rfl (by decide) ?_
      refine lv_aload_n hx hb dX7_block_95 rfl (lv_at hl 0 rfl) ?_
      refine gf_X7_19 hC hK hP 0 rfl rfl dX7_block_96 ?_
      refine gf_X7_141 hC hK hP 1 rfl rfl dX7_block_99 ?_
      refine lv_iload_n hx hb dX7_block_102 rfl (lv_at hl 1 rfl) ?_
      refine callS_i (As := [.ref hh, .int (nI b)]) (rest := []) [4] hC hK hN hP hD rfl (by decide) hS (c_X7_at_N l D cI cJ cB hh 7 b bh (by omega) (by omega)) q429 md_X7_at rfl hl.1 rfl (Nat.le_of_ble_eq_true rfl) dX7_block_103 ⟨Nat.le_of_ble_eq_true rfl, Nat.le_of_ble_eq_true rfl⟩ ⟨Nat.le_of_ble_eq_true rfl, Nat.le_of_ble_eq_true rfl⟩ (fun r_103 w H locs hpost hP hD hS => ?_)
      obtain ⟨rfl, rfl⟩ := hpost
      have hP : va_P D vwCl (xrW cI cJ cB xo vo h h2 ho ro ys yw xr hs hw hh hp (nI se) (nI wd) (nI hd) (nI wl) (nI nb) (nI (topv wd)) (nI (rcv wd hd)) (nI (btv wd hd)) (nI (lcv wd hd)) (gI gl) (gI aq) st sl (gI lb) (fun zz => nI (sh zz)) (fun zz => nI (bw zz)) (fun zz => nI (bh zz)) (fun zz => nI (ps zz)) rfa rqa (fun zz => oI (rF zz)) (fun zz => nI (rQ zz))) H := hP
      have hD : va_D A (xrW cI cJ cB xo vo h h2 ho ro ys yw xr hs hw hh hp (nI se) (nI wd) (nI hd) (nI wl) (nI nb) (nI (topv wd)) (nI (rcv wd hd)) (nI (btv wd hd)) (nI (lcv wd hd)) (gI gl) (gI aq) st sl (gI lb) (fun zz => nI (sh zz)) (fun zz => nI (bw zz)) (fun zz => nI (bh zz)) (fun zz => nI (ps zz)) rfa rqa (fun zz => oI (rF zz)) (fun zz => nI (rQ zz))) := hD
      rw [hQ]
      exact W.iret (v := nI (bh b)) hx hb hr (fun t9 ht hW => ⟨⟨_, _, rfl, ⟨rF, rQ, (by unfold f_blkx; rw [hbo, bOf_nI (by decide) (by decide)]; rfl), rfl⟩, by rw [ht]; exact hP, rfl⟩, hS.F ht⟩) hS.2.2 dX7_block_106
    · have _ : True := trivial
      subst hko
      refine lv_iload_n hx hb dX7_block_13 rfl (lv_at hl 2 rfl) ?_
      refine lv_tableIn (x := nI 4) (off := 93) (tgt := 107) hx hb dX7_block_14 (by decide) (by decide) rfl (by decide) ?_
      refine lv_aload_n hx hb dX7_block_107 rfl (lv_at hl 0 rfl) ?_
      refine gf_X7_19 hC hK hP 0 rfl rfl dX7_block_108 ?_
      refine lv_iload_n hx hb dX7_block_111 rfl (lv_at hl 1 rfl) ?_
      refine callV_i (As := [.int (nI b)]) (rest := []) [1, 2, 3, 4, 5] hC hK hN hP hD rfl (by decide) hS 1 (ci := 0) rfl rfl rfl (c_X0_directionsOf l D cI cJ cB h hs hw hh hp se wd hd nb wl st sl gl aq lb sh bw bh ps b htv (by omega)) q430 md_X0_directionsOf rfl hl.1 rfl (Nat.le_of_ble_eq_true rfl) dX7_block_112 ⟨Nat.le_of_ble_eq_true rfl, Nat.le_of_ble_eq_true rfl⟩ ⟨Nat.le_of_ble_eq_true rfl, Nat.le_of_ble_eq_true rfl⟩ (fun r_112 w H locs hpost hP hD hS => ?_)
      obtain ⟨rfl, rfl⟩ := hpost
      have hP : va_P D vwCl (xrW cI cJ cB xo vo h h2 ho ro ys yw xr hs hw hh hp (nI se) (nI wd) (nI hd) (nI wl) (nI nb) (nI (topv wd)) (nI (rcv wd hd)) (nI (btv wd hd)) (nI (lcv wd hd)) (gI gl) (gI aq) st sl (gI lb) (fun zz => nI (sh zz)) (fun zz => nI (bw zz)) (fun zz => nI (bh zz)) (fun zz => nI (ps zz)) rfa rqa (fun zz => oI (rF zz)) (fun zz => nI (rQ zz))) H := hP
      have hD : va_D A (xrW cI cJ cB xo vo h h2 ho ro ys yw xr hs hw hh hp (nI se) (nI wd) (nI hd) (nI wl) (nI nb) (nI (topv wd)) (nI (rcv wd hd)) (nI (btv wd hd)) (nI (lcv wd hd)) (gI gl) (gI aq) st sl (gI lb) (fun zz => nI (sh zz)) (fun zz => nI (bw zz)) (fun zz => nI (bh zz)) (fun zz => nI (ps zz)) rfa rqa (fun zz => oI (rF zz)) (fun zz => nI (rQ zz))) := hD
      rw [hQ]
      exact W.iret (v := nI (dset (fun d => mvt wd hd (bw b) (bh b) (sh b) (tk wl sh (pkey ps nb) (exb none (some b)) nb) (ps b) d) 4)) hx hb hr (fun t9 ht hW => ⟨⟨_, _, rfl, ⟨rF, rQ, (by unfold f_blkx; rw [hbo, bOf_nI (by decide) (by decide)]; rfl), rfl⟩, by rw [ht]; exact hP, rfl⟩, hS.F ht⟩) hS.2.2 dX7_block_115
    · have _ : True := trivial
      subst hko
      refine lv_iload_n hx hb dX7_block_13 rfl (lv_at hl 2 rfl) ?_
      refine lv_tableIn (x := nI 5) (off := 102) (tgt := 116) hx hb dX7_block_14 (by decide) (by decide) rfl (by decide) ?_
      refine lv_aload_n hx hb dX7_block_116 rfl (lv_at hl 0 rfl) ?_
      refine gf_X7_36 hC hK hP 0 rfl rfl dX7_block_117 ?_
      refine lv_aload_n hx hb dX7_block_120 rfl (lv_at hl 0 rfl) ?_
      refine gf_X7_19 hC hK hP 0 rfl rfl dX7_block_121 ?_
      refine lv_iload_n hx hb dX7_block_124 rfl (lv_at hl 1 rfl) ?_
      refine callV_i (As := [.ref h, .int (nI b)]) (rest := []) [6, 7, 8, 1, 2, 3, 4, 5] hC hK hN hP hD rfl (by decide) hS 6 (ci := 3) rfl rfl rfl (c_X3_spread l D cI cJ cB ro rfa rqa rF rQ h hs hw hh hp se wd hd nb wl st sl gl aq lb sh bw bh ps b htv (by omega)) q439 md_X3_spread rfl hl.1 rfl (Nat.le_of_ble_eq_true rfl) dX7_block_125 ⟨Nat.le_of_ble_eq_true rfl, Nat.le_of_ble_eq_true rfl⟩ ⟨Nat.le_of_ble_eq_true rfl, Nat.le_of_ble_eq_true rfl⟩ (fun r_125 w H locs hpost hP hD hS => ?_)
      obtain ⟨F2_125, Q2_125, rfl, rfl, hfl, hfb⟩ := hpost
      have hP : va_P D vwCl (xrW cI cJ cB xo vo h h2 ho ro ys yw xr hs hw hh hp (nI se) (nI wd) (nI hd) (nI wl) (nI nb) (nI (topv wd)) (nI (rcv wd hd)) (nI (btv wd hd)) (nI (lcv wd hd)) (gI gl) (gI aq) st sl (gI lb) (fun zz => nI (sh zz)) (fun zz => nI (bw zz)) (fun zz => nI (bh zz)) (fun zz => nI (ps zz)) rfa rqa (fun zz => oI (F2_125 zz)) (fun zz => nI (Q2_125 zz))) H := hP
      have hD : va_D A (xrW cI cJ cB xo vo h h2 ho ro ys yw xr hs hw hh hp (nI se) (nI wd) (nI hd) (nI wl) (nI nb) (nI (topv wd)) (nI (rcv wd hd)) (nI (btv wd hd)) (nI (lcv wd hd)) (gI gl) (gI aq) st sl (gI lb) (fun zz => nI (sh zz)) (fun zz => nI (bw zz)) (fun zz => nI (bh zz)) (fun zz => nI (ps zz)) rfa rqa (fun zz => oI (F2_125 zz)) (fun zz => nI (Q2_125 zz))) := hD
      rw [hQ]
      exact W.iret (v := nI (cntF F2_125 24)) hx hb hr (fun t9 ht hW => ⟨⟨_, _, rfl, ⟨F2_125, Q2_125, (by unfold f_blkx; rw [hbo, bOf_nI (by decide) (by decide)]; show _ = nI (cntF (flo wd hd nb wl sh bw bh none (pkey ps nb) b) 24); rw [← flo_eq hfl]), rfl⟩, by rw [ht]; exact hP, rfl⟩, hS.F ht⟩) hS.2.2 dX7_block_128
    · have _ : True := trivial
      subst hko
      refine lv_iload_n hx hb dX7_block_13 rfl (lv_at hl 2 rfl) ?_
      refine lv_tableIn (x := nI 6) (off := 115) (tgt := 129) hx hb dX7_block_14 (by decide) (by decide) rfl (by decide) ?_
      refine lv_aload_n hx hb dX7_block_129 rfl (lv_at hl 0 rfl) ?_
      refine gf_X7_19 hC hK hP 0 rfl rfl dX7_block_130 ?_
      refine lv_iload_n hx hb dX7_block_133 rfl (lv_at hl 1 rfl) ?_
      refine callV_i (As := [.int (nI b)]) (rest := []) [1, 2, 3, 4, 5] hC hK hN hP hD rfl (by decide) hS 1 (ci := 0) rfl rfl rfl (c_X0_firstAlike l D cI cJ cB h hs hw hh hp se wd hd nb wl st sl gl aq lb sh bw bh ps b (by omega) (fun c hc => by have := ShV_lt hf.1 h24 (hf.2.2.2.2.2.2.2 c (by omega)); omega)) q455 md_X0_firstAlike rfl hl.1 rfl (Nat.le_of_ble_eq_true rfl) dX7_block_134 ⟨Nat.le_of_ble_eq_true rfl, Nat.le_of_ble_eq_true rfl⟩ ⟨Nat.le_of_ble_eq_true rfl, Nat.le_of_ble_eq_true rfl⟩ (fun r_134 w H locs hpost hP hD hS => ?_)
      obtain ⟨rfl, rfl⟩ := hpost
      have hP : va_P D vwCl (xrW cI cJ cB xo vo h h2 ho ro ys yw xr hs hw hh hp (nI se) (nI wd) (nI hd) (nI wl) (nI nb) (nI (topv wd)) (nI (rcv wd hd)) (nI (btv wd hd)) (nI (lcv wd hd)) (gI gl) (gI aq) st sl (gI lb) (fun zz => nI (sh zz)) (fun zz => nI (bw zz)) (fun zz => nI (bh zz)) (fun zz => nI (ps zz)) rfa rqa (fun zz => oI (rF zz)) (fun zz => nI (rQ zz))) H := hP
      have hD : va_D A (xrW cI cJ cB xo vo h h2 ho ro ys yw xr hs hw hh hp (nI se) (nI wd) (nI hd) (nI wl) (nI nb) (nI (topv wd)) (nI (rcv wd hd)) (nI (btv wd hd)) (nI (lcv wd hd)) (gI gl) (gI aq) st sl (gI lb) (fun zz => nI (sh zz)) (fun zz => nI (bw zz)) (fun zz => nI (bh zz)) (fun zz => nI (ps zz)) rfa rqa (fun zz => oI (rF zz)) (fun zz => nI (rQ zz))) := hD
      rw [hQ]
      exact W.iret (v := nI (f_alike sh b)) hx hb hr (fun t9 ht hW => ⟨⟨_, _, rfl, ⟨rF, rQ, (by unfold f_blkx; rw [hbo, bOf_nI (by decide) (by decide)]; rfl), rfl⟩, by rw [ht]; exact hP, rfl⟩, hS.F ht⟩) hS.2.2 dX7_block_137
  · have _ : True := trivial
    have hbo := bOf_non c8
    refine lv_iconst (v := (-1)) hx hb dX7_block_11 (by decide) ?_
    rw [hQ]
    exact W.iret (v := (-1)) hx hb hr (fun t9 ht hW => ⟨⟨_, _, rfl, ⟨rF, rQ, (by unfold f_blkx; rw [hbo]), rfl⟩, by rw [ht]; exact hP, rfl⟩, hS.F ht⟩) hS.2.2 dX7_block_12
