abbrev xsW (cI cJ cB : ClassId) (xo : Nat) (vo : Nat) (h : Nat) (h2 : Nat) (ho : Nat) (ro : Nat) (ys : Nat) (yw : Nat) (xr : Int32) (hs : Nat) (hw : Nat) (hh : Nat) (hp : Nat) (bse : Int32) (bwi : Int32) (bhe : Int32) (bwa : Int32) (bco : Int32) (btr : Int32) (brc : Int32) (bbr : Int32) (blc : Int32) (bgb : Int32) (bgp : Int32) (bst : Int32) (bsl : Int32) (bla : Int32) (bsh : Nat → Int32) (bwd : Nat → Int32) (bhg : Nat → Int32) (bsp : Nat → Int32) (HW : va_W) : va_W := [(xo, .inr (7, [.ref vo, .ref h, .ref h2, .ref ho, .ref ro, .ref ys, .ref yw, .int xr])), (h, .inr (0, [.int bse, .int bwi, .int bhe, .int bwa, .int bco, .int btr, .int brc, .int bbr, .int blc, .ref hs, .ref hw, .ref hh, .ref hp, .int bgb, .int bgp, .int bst, .int bsl, .int bla])), (hs, .inl (cI, 7, .inl bsh)), (hw, .inl (cI, 7, .inl bwd)), (hh, .inl (cI, 7, .inl bhg)), (hp, .inl (cI, 7, .inl bsp))] ++ HW
abbrev xlW (cI cJ cB : ClassId) (xo : Nat) (vo : Nat) (h : Nat) (h2 : Nat) (ho : Nat) (ro : Nat) (ys : Nat) (yw : Nat) (xr : Int32) (hs : Nat) (hw : Nat) (hh : Nat) (hp : Nat) (bse : Int32) (bwi : Int32) (bhe : Int32) (bwa : Int32) (bco : Int32) (btr : Int32) (brc : Int32) (bbr : Int32) (blc : Int32) (bgb : Int32) (bgp : Int32) (bst : Int32) (bsl : Int32) (bla : Int32) (bsh : Nat → Int32) (bwd : Nat → Int32) (bhg : Nat → Int32) (bsp : Nat → Int32) (rfa : Nat) (rqa : Nat) (rF : Nat → Int32) (rQ : Nat → Int32) (HW : va_W) : va_W := [(xo, .inr (7, [.ref vo, .ref h, .ref h2, .ref ho, .ref ro, .ref ys, .ref yw, .int xr])), (h, .inr (0, [.int bse, .int bwi, .int bhe, .int bwa, .int bco, .int btr, .int brc, .int bbr, .int blc, .ref hs, .ref hw, .ref hh, .ref hp, .int bgb, .int bgp, .int bst, .int bsl, .int bla])), (hs, .inl (cI, 7, .inl bsh)), (hw, .inl (cI, 7, .inl bwd)), (hh, .inl (cI, 7, .inl bhg)), (hp, .inl (cI, 7, .inl bsp)), (ro, .inr (3, [.ref rfa, .ref rqa])), (rfa, .inl (cI, 24, .inl rF)), (rqa, .inl (cI, 24, .inl rQ))] ++ HW
set_option maxHeartbeats 400000 in
set_option maxRecDepth 100000 in
theorem c_X7_step (l : Launch) (D : va_G) (cI cJ cB : ClassId) (xo vo h2 ho ro ys yw : Nat) (xr : Int32) (h hs hw hh hp se wd hd nb wl : Nat) (st sl : Int32) (gl aq lb : Option Nat) (sh bw bh ps : Nat → Nat) (hsz : Nat) (hg : Nat → BT) (HW : va_W) (x y : Int32) (htv : TV wd hd nb wl sh bw bh ps gl aq lb) (hHW : HWp cI cJ cB ho hsz hg HW) : Met l yX7_step (Cond.code yX7_step cX7_step 4 (some .int) :: lw_all) (rmN 4) (va_Pc [.ref xo, .int x, .int y] (pB D (tyz cI cJ cB) (xsW cI cJ cB xo vo h h2 ho ro ys yw xr hs hw hh hp (nI se) (nI wd) (nI hd) (nI wl) (nI nb) (nI (topv wd)) (nI (rcv wd hd)) (nI (btv wd hd)) (nI (lcv wd hd)) (gI gl) (gI aq) st sl (gI lb) (fun zz => nI (sh zz)) (fun zz => nI (bw zz)) (fun zz => nI (bh zz)) (fun zz => nI (ps zz)) HW))) (va_Qi (fun (r : Int32) (w : va_W) => ∃ st2 : Int32, ∃ sl2 : Int32, ∃ lb2 : Option Nat, ∃ ps2 : Nat → Nat, ∃ sz2 : Nat, ∃ hg2 : Nat → BT, ∃ HW2 : va_W, r = f_stepr wd hd nb wl sh bw bh ps x y ∧ w = xsW cI cJ cB xo vo h h2 ho ro ys yw xr hs hw hh hp (nI se) (nI wd) (nI hd) (nI wl) (nI nb) (nI (topv wd)) (nI (rcv wd hd)) (nI (btv wd hd)) (nI (lcv wd hd)) (gI gl) (gI aq) st2 sl2 (gI lb2) (fun zz => nI (sh zz)) (fun zz => nI (bw zz)) (fun zz => nI (bh zz)) (fun zz => nI (ps2 zz)) HW2 ∧ MVD (f_stepm wd hd nb wl sh bw bh ps x y) st sl lb ps st2 sl2 lb2 ps2 ∧ HIC cI cJ cB ((f_stepm wd hd nb wl sh bw bh ps x y).isSome) ho hsz hg HW (tup se wd hd nb wl st sl gl aq lb sh bw bh ps) sz2 hg2 HW2) (gB D (xsW cI cJ cB xo vo h h2 ho ro ys yw xr hs hw hh hp (nI se) (nI wd) (nI hd) (nI wl) (nI nb) (nI (topv wd)) (nI (rcv wd hd)) (nI (btv wd hd)) (nI (lcv wd hd)) (gI gl) (gI aq) st sl (gI lb) (fun zz => nI (sh zz)) (fun zz => nI (bw zz)) (fun zz => nI (bh zz)) (fun zz => nI (ps zz)) HW)) (aW (xsW cI cJ cB xo vo h h2 ho ro ys yw xr hs hw hh hp (nI se) (nI wd) (nI hd) (nI wl) (nI nb) (nI (topv wd)) (nI (rcv wd hd)) (nI (btv wd hd)) (nI (lcv wd hd)) (gI gl) (gI aq) st sl (gI lb) (fun zz => nI (sh zz)) (fun zz => nI (bw zz)) (fun zz => nI (bh zz)) (fun zz => nI (ps zz)) HW))) 0 0 (aW (xsW cI cJ cB xo vo h h2 ho ro ys yw xr hs hw hh hp (nI se) (nI wd) (nI hd) (nI wl) (nI nb) (nI (topv wd)) (nI (rcv wd hd)) (nI (btv wd hd)) (nI (lcv wd hd)) (gI gl) (gI aq) st sl (gI lb) (fun zz => nI (sh zz)) (fun zz => nI (bw zz)) (fun zz => nI (bh zz)) (fun zz => nI (ps zz)) HW)) := by
  refine Met.ofW (cc := cX7_step) (maxL := 4) (ret := (some .int)) (by decide) rfl ?_
  intro p e s m args below meth c s₁ B hml hv
  obtain ⟨rfl, hK, hN, hP, hD0⟩ := hv
  have hx := B.exec; have hb := B.bytes; have hr := B.returns; have hlocks := B.notSynchronized
  have hts0 := atoms_spec (ws := Cond.code yX7_step cX7_step 4 (some .int) :: lw_all) B.pre
  have hC : CallFix p m c cX7_step 4 s _ lw_all RX7 := ⟨hx, hb, hml, findClass_of_methodNamed B.named, fun w h => hts0 w (List.mem_cons_of_mem _ h)⟩
  have hD : va_D (aW (xsW cI cJ cB xo vo h h2 ho ro ys yw xr hs hw hh hp (nI se) (nI wd) (nI hd) (nI wl) (nI nb) (nI (topv wd)) (nI (rcv wd hd)) (nI (btv wd hd)) (nI (lcv wd hd)) (gI gl) (gI aq) st sl (gI lb) (fun zz => nI (sh zz)) (fun zz => nI (bw zz)) (fun zz => nI (bh zz)) (fun zz => nI (ps zz)) HW)) (xsW cI cJ cB xo vo h h2 ho ro ys yw xr hs hw hh hp (nI se) (nI wd) (nI hd) (nI wl) (nI nb) (nI (topv wd)) (nI (rcv wd hd)) (nI (btv wd hd)) (nI (lcv wd hd)) (gI gl) (gI aq) st sl (gI lb) (fun zz => nI (sh zz)) (fun zz => nI (bw zz)) (fun zz => nI (bh zz)) (fun zz => nI (ps zz)) HW) := ⟨hD0.1, fun k q h => ⟨k, q.2, h⟩⟩
  generalize hAe : aW (xsW cI cJ cB xo vo h h2 ho ro ys yw xr hs hw hh hp (nI se) (nI wd) (nI hd) (nI wl) (nI nb) (nI (topv wd)) (nI (rcv wd hd)) (nI (btv wd hd)) (nI (lcv wd hd)) (gI gl) (gI aq) st sl (gI lb) (fun zz => nI (sh zz)) (fun zz => nI (bw zz)) (fun zz => nI (bh zz)) (fun zz => nI (ps zz)) HW) = A at hD ⊢
  have hS : va_S A s.heap s.heap [] := va_S.rf
  have hl := lv_entry ([.ref xo, .int x, .int y]) (n := 4) (Nat.le_of_ble_eq_true rfl)
  rw [lg_entry_eq]
  generalize (lg_sl ([.ref xo, .int x, .int y]) ++ List.replicate (4 - (lg_sl ([.ref xo, .int x, .int y])).length) Slot.unset).toArray = ls at hl ⊢
  have hl : lv_has ls 4 [(0, .ref xo), (1, .int x), (2, .int y)] := hl
  generalize hav : ([.ref xo, .int x, .int y] : List Value).toArray = args at hC ⊢
  refine W_gen (fun QQ hQ => ?_)
  show W p l e (rmN 4) s m args below meth c s.heap [] 0 0 QQ (F0 m 0 ls [])
  obtain ⟨hf, hps, hk1, hga, hlb⟩ := id htv
  have hn7 := hf.2.2.2.2.2.1
  have h24 := hf.2.2.2.2.1
  refine lv_aload_n hx hb dX7_step_0 rfl (lv_at hl 0 rfl) ?_
  refine gf_X7_19 hC hK hP 0 rfl rfl dX7_step_1 ?_
  refine lv_iload_n hx hb dX7_step_4 rfl (lv_at hl 1 rfl) ?_
  refine callV_i (As := [.int x]) (rest := []) [1, 2, 3, 4, 5] hC hK hN hP hD rfl (by decide) hS 1 (ci := 0) rfl rfl rfl (c_X0_has l D cI cJ cB h hs hw hh hp se wd hd nb wl st sl gl aq lb sh bw bh ps x (by omega)) q425 md_X0_has rfl hl.1 rfl (Nat.le_of_ble_eq_true rfl) dX7_step_5 ⟨Nat.le_of_ble_eq_true rfl, Nat.le_of_ble_eq_true rfl⟩ ⟨Nat.le_of_ble_eq_true rfl, Nat.le_of_ble_eq_true rfl⟩ (fun r_5 w H locs hpost hP hD hS => ?_)
  obtain ⟨rfl, rfl⟩ := hpost
  have hP : va_P D vwCl (xsW cI cJ cB xo vo h h2 ho ro ys yw xr hs hw hh hp (nI se) (nI wd) (nI hd) (nI wl) (nI nb) (nI (topv wd)) (nI (rcv wd hd)) (nI (btv wd hd)) (nI (lcv wd hd)) (gI gl) (gI aq) st sl (gI lb) (fun zz => nI (sh zz)) (fun zz => nI (bw zz)) (fun zz => nI (bh zz)) (fun zz => nI (ps zz)) HW) H := hP
  have hD : va_D A (xsW cI cJ cB xo vo h h2 ho ro ys yw xr hs hw hh hp (nI se) (nI wd) (nI hd) (nI wl) (nI nb) (nI (topv wd)) (nI (rcv wd hd)) (nI (btv wd hd)) (nI (lcv wd hd)) (gI gl) (gI aq) st sl (gI lb) (fun zz => nI (sh zz)) (fun zz => nI (bw zz)) (fun zz => nI (bh zz)) (fun zz => nI (ps zz)) HW) := hD
  refine b_if_eq (tgt := 20) hx hb dX7_step_8 (by decide) (fun c8 => ?_) (fun c8 => ?_)
  · have _ : True := trivial
    have hbo := bOf_non c8
    refine lv_iconst (v := (-1)) hx hb dX7_step_20 (by decide) ?_
    have hm0 : f_stepm wd hd nb wl sh bw bh ps x y = none := by unfold f_stepm; rw [hbo]
    rw [hQ]
    exact W.iret (v := (-1)) hx hb hr (fun t9 ht hW => ⟨⟨_, _, rfl, ⟨st, sl, lb, ps, hsz, hg, HW, (by unfold f_stepr; rw [hbo]), rfl, (by rw [hm0]; exact ⟨rfl, rfl, rfl, rfl⟩), (by rw [hm0]; exact HIC_no hHW)⟩, by rw [ht]; exact hP, rfl⟩, hS.F ht⟩) hS.2.2 dX7_step_21
  · have _ : True := trivial
    obtain ⟨b, hbn, hxb, hbo⟩ := bOf_yes (by omega) c8
    subst hxb
    obtain ⟨hpl, hpe⟩ := KV_pl hn7 hps hk1 hbn
    have hsb := hf.2.2.2.2.2.2.2 b hbn
    refine lv_iload_n hx hb dX7_step_11 rfl (lv_at hl 2 rfl) ?_
    refine lv_if_lt (tgt := 20) hx hb dX7_step_12 (by decide) (fun c12 => ?_) (fun c12 => ?_)
    · have _ : True := trivial
      have hyo := has_n (n := 4) (by decide) (Or.inl c12)
      refine lv_iconst (v := (-1)) hx hb dX7_step_20 (by decide) ?_
      have hm0 : f_stepm wd hd nb wl sh bw bh ps (nI b) y = none := by unfold f_stepm; rw [hbo, hyo]
      rw [hQ]
      exact W.iret (v := (-1)) hx hb hr (fun t9 ht hW => ⟨⟨_, _, rfl, ⟨st, sl, lb, ps, hsz, hg, HW, (by unfold f_stepr; rw [hbo, hyo]), rfl, (by rw [hm0]; exact ⟨rfl, rfl, rfl, rfl⟩), (by rw [hm0]; exact HIC_no hHW)⟩, by rw [ht]; exact hP, rfl⟩, hS.F ht⟩) hS.2.2 dX7_step_21
    · have _ : True := trivial
      refine lv_iload_n hx hb dX7_step_15 rfl (lv_at hl 2 rfl) ?_
      refine lv_iconst (v := nI 4) hx hb dX7_step_16 (by decide) ?_
      refine lv_icmp_lt (tgt := 22) hx hb dX7_step_17 (by decide) (fun c17 => ?_) (fun c17 => ?_)
      · have _ : True := trivial
        obtain ⟨d9, hd49, hyd, hdo⟩ := bOf_yes (by decide) (has_y (n := 4) (by decide) c12 (Int32.not_le.mpr c17))
        subst hyd
        refine lv_aload_n hx hb dX7_step_22 rfl (lv_at hl 0 rfl) ?_
        refine gf_X7_19 hC hK hP 0 rfl rfl dX7_step_23 ?_
        refine lv_iload_n hx hb dX7_step_26 rfl (lv_at hl 1 rfl) ?_
        refine callV_i (As := [.int (nI b)]) (rest := []) [1, 2, 3, 4, 5] hC hK hN hP hD rfl (by decide) hS 1 (ci := 0) rfl rfl rfl (c_X0_directionsOf l D cI cJ cB h hs hw hh hp se wd hd nb wl st sl gl aq lb sh bw bh ps b htv (by omega)) q430 md_X0_directionsOf rfl hl.1 rfl (Nat.le_of_ble_eq_true rfl) dX7_step_27 ⟨Nat.le_of_ble_eq_true rfl, Nat.le_of_ble_eq_true rfl⟩ ⟨Nat.le_of_ble_eq_true rfl, Nat.le_of_ble_eq_true rfl⟩ (fun r_27 w H locs hpost hP hD hS => ?_)
        obtain ⟨rfl, rfl⟩ := hpost
        have hP : va_P D vwCl (xsW cI cJ cB xo vo h h2 ho ro ys yw xr hs hw hh hp (nI se) (nI wd) (nI hd) (nI wl) (nI nb) (nI (topv wd)) (nI (rcv wd hd)) (nI (btv wd hd)) (nI (lcv wd hd)) (gI gl) (gI aq) st sl (gI lb) (fun zz => nI (sh zz)) (fun zz => nI (bw zz)) (fun zz => nI (bh zz)) (fun zz => nI (ps zz)) HW) H := hP
        have hD : va_D A (xsW cI cJ cB xo vo h h2 ho ro ys yw xr hs hw hh hp (nI se) (nI wd) (nI hd) (nI wl) (nI nb) (nI (topv wd)) (nI (rcv wd hd)) (nI (btv wd hd)) (nI (lcv wd hd)) (gI gl) (gI aq) st sl (gI lb) (fun zz => nI (sh zz)) (fun zz => nI (bw zz)) (fun zz => nI (bh zz)) (fun zz => nI (ps zz)) HW) := hD
        refine lv_iload_n hx hb dX7_step_30 rfl (lv_at hl 2 rfl) ?_
        refine n_ishr hx hb dX7_step_31 (by have := dset_lt4 (fun d => mvt wd hd (bw b) (bh b) (sh b) (tk wl sh (pkey ps nb) (exb none (some b)) nb) (ps b) d); omega) (by omega) ?_
        refine lv_iconst (v := nI 1) hx hb dX7_step_32 (by decide) ?_
        refine n_iand hx hb dX7_step_33  ?_
        refine n_if_ne (tgt := 40) hx hb dX7_step_34 (by decide) (by have := bit_and1 (x := dset (fun d => mvt wd hd (bw b) (bh b) (sh b) (tk wl sh (pkey ps nb) (exb none (some b)) nb) (ps b) d) 4) (i := d9); omega) (fun c34 => ?_) (fun c34 => ?_)
        · have _ : True := trivial
          obtain ⟨q9, hq9⟩ := dset_yes (m := (fun d => mvt wd hd (bw b) (bh b) (sh b) (tk wl sh (pkey ps nb) (exb none (some b)) nb) (ps b) d)) c34
          have hst9 := (mvt_inv hq9).1
          have hm0 : f_stepm wd hd nb wl sh bw bh ps (nI b) (nI d9) = some (b, q9, 1, false) := by unfold f_stepm; rw [hbo, hdo]; show (mvt wd hd (bw b) (bh b) (sh b) (tk wl sh (pkey ps nb) (exb none (some b)) nb) (ps b) d9).map _ = _; rw [hq9]; rfl
          refine lv_aload_n hx hb dX7_step_40 rfl (lv_at hl 0 rfl) ?_
          refine gf_X7_29 hC hK hP 0 rfl rfl dX7_step_41 ?_
          refine lv_aload_n hx hb dX7_step_44 rfl (lv_at hl 0 rfl) ?_
          refine gf_X7_19 hC hK hP 0 rfl rfl dX7_step_45 ?_
          obtain ⟨fs9, hrc9⟩ := HWp_rc hHW
          refine callV_v (As := [.ref h]) (rest := []) ([1, 2, 3, 4, 5] ++ tl 6 (List.length HW)) hC hK hN hP hD (tl_pick (n := 6) rfl rfl) (tl_nodup (by decide) (by decide)) hS 6 (ci := 2) rfl (hrc9 _ 6 rfl) rfl (c_X2_keep l D cI cJ cB ho hsz hg HW h hs hw hh hp se wd hd nb wl st sl gl aq lb sh bw bh ps hHW) q369 md_X2_keep rfl hl.1 rfl (Nat.le_of_ble_eq_true rfl) dX7_step_48 ⟨Nat.le_of_ble_eq_true rfl, Nat.le_of_ble_eq_true rfl⟩ ⟨Nat.le_of_ble_eq_true rfl, Nat.le_of_ble_eq_true rfl⟩ (fun w H locs hpost hP hD hS => ?_)
          obtain ⟨HW2_48, rfl, hkp, hkl⟩ := hpost
          have hP : va_P D vwCl (xsW cI cJ cB xo vo h h2 ho ro ys yw xr hs hw hh hp (nI se) (nI wd) (nI hd) (nI wl) (nI nb) (nI (topv wd)) (nI (rcv wd hd)) (nI (btv wd hd)) (nI (lcv wd hd)) (gI gl) (gI aq) st sl (gI lb) (fun zz => nI (sh zz)) (fun zz => nI (bw zz)) (fun zz => nI (bh zz)) (fun zz => nI (ps zz)) HW2_48) H := tl_P (n := 6) (js := [1, 2, 3, 4, 5]) hP rfl (by decide) rfl (adr_len hkl) rfl
          have hD : va_D A (xsW cI cJ cB xo vo h h2 ho ro ys yw xr hs hw hh hp (nI se) (nI wd) (nI hd) (nI wl) (nI nb) (nI (topv wd)) (nI (rcv wd hd)) (nI (btv wd hd)) (nI (lcv wd hd)) (gI gl) (gI aq) st sl (gI lb) (fun zz => nI (sh zz)) (fun zz => nI (bw zz)) (fun zz => nI (bh zz)) (fun zz => nI (ps zz)) HW2_48) := tl_D (n := 6) (js := [1, 2, 3, 4, 5]) hD rfl (by decide) rfl (adr_len hkl) rfl
          refine lv_aload_n hx hb dX7_step_51 rfl (lv_at hl 0 rfl) ?_
          refine gf_X7_19 hC hK hP 0 rfl rfl dX7_step_52 ?_
          refine gf_X7_127 hC hK hP 1 rfl rfl dX7_step_55 ?_
          refine lv_iload_n hx hb dX7_step_58 rfl (lv_at hl 1 rfl) ?_
          refine callS_i (As := [.ref hp, .int (nI b)]) (rest := []) [5] hC hK hN hP hD rfl (by decide) hS (c_X7_at_N l D cI cJ cB hp 7 b ps (by omega) (by omega)) q429 md_X7_at rfl hl.1 rfl (Nat.le_of_ble_eq_true rfl) dX7_step_59 ⟨Nat.le_of_ble_eq_true rfl, Nat.le_of_ble_eq_true rfl⟩ ⟨Nat.le_of_ble_eq_true rfl, Nat.le_of_ble_eq_true rfl⟩ (fun r_59 w H locs hpost hP hD hS => ?_)
          obtain ⟨rfl, rfl⟩ := hpost
          have hP : va_P D vwCl (xsW cI cJ cB xo vo h h2 ho ro ys yw xr hs hw hh hp (nI se) (nI wd) (nI hd) (nI wl) (nI nb) (nI (topv wd)) (nI (rcv wd hd)) (nI (btv wd hd)) (nI (lcv wd hd)) (gI gl) (gI aq) st sl (gI lb) (fun zz => nI (sh zz)) (fun zz => nI (bw zz)) (fun zz => nI (bh zz)) (fun zz => nI (ps zz)) HW2_48) H := hP
          have hD : va_D A (xsW cI cJ cB xo vo h h2 ho ro ys yw xr hs hw hh hp (nI se) (nI wd) (nI hd) (nI wl) (nI nb) (nI (topv wd)) (nI (rcv wd hd)) (nI (btv wd hd)) (nI (lcv wd hd)) (gI gl) (gI aq) st sl (gI lb) (fun zz => nI (sh zz)) (fun zz => nI (bw zz)) (fun zz => nI (bh zz)) (fun zz => nI (ps zz)) HW2_48) := hD
          refine lv_aload_n hx hb dX7_step_62 rfl (lv_at hl 0 rfl) ?_
          refine gf_X7_19 hC hK hP 0 rfl rfl dX7_step_63 ?_
          refine lv_iload_n hx hb dX7_step_66 rfl (lv_at hl 2 rfl) ?_
          refine callV_i (As := [.int (nI d9)]) (rest := [.int (nI (ps b))]) [1, 2, 3, 4, 5] hC hK hN hP hD rfl (by decide) hS 1 (ci := 0) rfl rfl rfl (c_X0_offset l D cI cJ cB h hs hw hh hp se wd hd nb wl st sl gl aq lb sh bw bh ps d9 (by omega)) q463 md_X0_offset rfl hl.1 rfl (Nat.le_of_ble_eq_true rfl) dX7_step_67 ⟨Nat.le_of_ble_eq_true rfl, Nat.le_of_ble_eq_true rfl⟩ ⟨Nat.le_of_ble_eq_true rfl, Nat.le_of_ble_eq_true rfl⟩ (fun r_67 w H locs hpost hP hD hS => ?_)
          obtain ⟨rfl, rfl⟩ := hpost
          have hP : va_P D vwCl (xsW cI cJ cB xo vo h h2 ho ro ys yw xr hs hw hh hp (nI se) (nI wd) (nI hd) (nI wl) (nI nb) (nI (topv wd)) (nI (rcv wd hd)) (nI (btv wd hd)) (nI (lcv wd hd)) (gI gl) (gI aq) st sl (gI lb) (fun zz => nI (sh zz)) (fun zz => nI (bw zz)) (fun zz => nI (bh zz)) (fun zz => nI (ps zz)) HW2_48) H := hP
          have hD : va_D A (xsW cI cJ cB xo vo h h2 ho ro ys yw xr hs hw hh hp (nI se) (nI wd) (nI hd) (nI wl) (nI nb) (nI (topv wd)) (nI (rcv wd hd)) (nI (btv wd hd)) (nI (lcv wd hd)) (gI gl) (gI aq) st sl (gI lb) (fun zz => nI (sh zz)) (fun zz => nI (bw zz)) (fun zz => nI (bh zz)) (fun zz => nI (ps zz)) HW2_48) := hD
          refine lv_iadd hx hb dX7_step_70 ?_
          refine topi (y := nI q9) (offs_add hf.1 hst9) ?_
          refine lv_istore_n (lv' := [(3, .int (nI q9)), (0, .ref xo), (1, .int (nI b)), (2, .int (nI d9))]) hx hb dX7_step_71 rfl hl (by decide) rfl (fun ls hl => ?_)
          refine lv_aload_n hx hb dX7_step_72 rfl (lv_at hl 1 rfl) ?_
          refine gf_X7_19 hC hK hP 0 rfl rfl dX7_step_73 ?_
          refine lv_iload_n hx hb dX7_step_76 rfl (lv_at hl 2 rfl) ?_
          refine lv_iload_n hx hb dX7_step_77 rfl (lv_at hl 0 rfl) ?_
          refine lv_iconst (v := nI 1) hx hb dX7_step_78 (by decide) ?_
          refine lv_iconst (v := nI 0) hx hb dX7_step_79 (by decide) ?_
          refine callV_v (As := [.int (nI b), .int (nI q9), .int (nI 1), .int (nI 0)]) (rest := []) [1, 2, 3, 4, 5] hC hK hN hP hD rfl (by decide) hS 1 (ci := 0) rfl rfl rfl (c_X0_move l D cI cJ cB h hs hw hh hp se wd hd nb wl st sl gl aq lb sh bw bh ps b q9 (nI 1) false (by omega) (fun d h => by have := hlb d h; omega)) q464 md_X0_move rfl hl.1 rfl (Nat.le_of_ble_eq_true rfl) dX7_step_80 ⟨Nat.le_of_ble_eq_true rfl, Nat.le_of_ble_eq_true rfl⟩ ⟨Nat.le_of_ble_eq_true rfl, Nat.le_of_ble_eq_true rfl⟩ (fun w H locs hpost hP hD hS => ?_)
          obtain ⟨sl2_80, rfl, hsl9⟩ := hpost
          have hP : va_P D vwCl (xsW cI cJ cB xo vo h h2 ho ro ys yw xr hs hw hh hp (nI se) (nI wd) (nI hd) (nI wl) (nI nb) (nI (topv wd)) (nI (rcv wd hd)) (nI (btv wd hd)) (nI (lcv wd hd)) (gI gl) (gI aq) (st + (nI 1)) sl2_80 (gI (some b)) (fun zz => nI (sh zz)) (fun zz => nI (bw zz)) (fun zz => nI (bh zz)) (fun zz => nI ((va_up ps b q9) zz)) HW2_48) H := hP
          have hD : va_D A (xsW cI cJ cB xo vo h h2 ho ro ys yw xr hs hw hh hp (nI se) (nI wd) (nI hd) (nI wl) (nI nb) (nI (topv wd)) (nI (rcv wd hd)) (nI (btv wd hd)) (nI (lcv wd hd)) (gI gl) (gI aq) (st + (nI 1)) sl2_80 (gI (some b)) (fun zz => nI (sh zz)) (fun zz => nI (bw zz)) (fun zz => nI (bh zz)) (fun zz => nI ((va_up ps b q9) zz)) HW2_48) := hD
          refine lv_iload_n hx hb dX7_step_83 rfl (lv_at hl 0 rfl) ?_
          rw [hQ]
          exact W.iret (v := nI q9) hx hb hr (fun t9 ht hW => ⟨⟨_, _, rfl, ⟨st + (nI 1), sl2_80, some b, va_up ps b q9, (hcnt hsz), (hpu hg hsz (tup se wd hd nb wl st sl gl aq lb sh bw bh ps)), HW2_48, (by unfold f_stepr; rw [hbo, hdo]; show _ = (match mvt wd hd (bw b) (bh b) (sh b) (tk wl sh (pkey ps nb) (exb none (some b)) nb) (ps b) d9 with | some q => nI q | none => -2); rw [hq9]), rfl, (by rw [hm0]; exact ⟨rfl, mvsl_eq hsl9, rfl, rfl⟩), (by rw [hm0]; exact HIC_yes hkp hkl)⟩, by rw [ht]; exact hP, (adr_app rfl hkl)⟩, hS.F ht⟩) hS.2.2 dX7_step_84
        · have _ : True := trivial
          have hm9 := dset_no (m := (fun d => mvt wd hd (bw b) (bh b) (sh b) (tk wl sh (pkey ps nb) (exb none (some b)) nb) (ps b) d)) hd49 c34
          refine lv_bipush (v := (-2)) hx hb dX7_step_37 (by decide) ?_
          have hm0 : f_stepm wd hd nb wl sh bw bh ps (nI b) (nI d9) = none := by unfold f_stepm; rw [hbo, hdo]; show (mvt wd hd (bw b) (bh b) (sh b) (tk wl sh (pkey ps nb) (exb none (some b)) nb) (ps b) d9).map _ = none; rw [hm9]; rfl
          rw [hQ]
          exact W.iret (v := (-2)) hx hb hr (fun t9 ht hW => ⟨⟨_, _, rfl, ⟨st, sl, lb, ps, hsz, hg, HW, (by unfold f_stepr; rw [hbo, hdo]; show _ = (match mvt wd hd (bw b) (bh b) (sh b) (tk wl sh (pkey ps nb) (exb none (some b)) nb) (ps b) d9 with | some q => nI q | none => -2); rw [hm9]), rfl, (by rw [hm0]; exact ⟨rfl, rfl, rfl, rfl⟩), (by rw [hm0]; exact HIC_no hHW)⟩, by rw [ht]; exact hP, rfl⟩, hS.F ht⟩) hS.2.2 dX7_step_39
      · have _ : True := trivial
        have hyo := has_n (n := 4) (by decide) (Or.inr (Int32.not_lt.mp c17))
        refine lv_iconst (v := (-1)) hx hb dX7_step_20 (by decide) ?_
        have hm0 : f_stepm wd hd nb wl sh bw bh ps (nI b) y = none := by unfold f_stepm; rw [hbo, hyo]
        rw [hQ]
        exact W.iret (v := (-1)) hx hb hr (fun t9 ht hW => ⟨⟨_, _, rfl, ⟨st, sl, lb, ps, hsz, hg, HW, (by unfold f_stepr; rw [hbo, hyo]), rfl, (by rw [hm0]; exact ⟨rfl, rfl, rfl, rfl⟩), (by rw [hm0]; exact HIC_no hHW)⟩, by rw [ht]; exact hP, rfl⟩, hS.F ht⟩) hS.2.2 dX7_step_21

set_option maxHeartbeats 400000 in
set_option maxRecDepth 100000 in
theorem c_X7_slide (l : Launch) (D : va_G) (cI cJ cB : ClassId) (xo vo h2 ho ys yw : Nat) (xr : Int32) (ro rfa rqa : Nat) (rF : Nat → Option Nat) (rQ : Nat → Nat) (h hs hw hh hp se wd hd nb wl : Nat) (st sl : Int32) (gl aq lb : Option Nat) (sh bw bh ps : Nat → Nat) (hsz : Nat) (hg : Nat → BT) (HW : va_W) (x y : Int32) (htv : TV wd hd nb wl sh bw bh ps gl aq lb) (hHW : HWp cI cJ cB ho hsz hg HW) : Met l yX7_slide (Cond.code yX7_slide cX7_slide 4 (some .int) :: lw_all) (rmN 4) (va_Pc [.ref xo, .int x, .int y] (pB D (tyz cI cJ cB) (xlW cI cJ cB xo vo h h2 ho ro ys yw xr hs hw hh hp (nI se) (nI wd) (nI hd) (nI wl) (nI nb) (nI (topv wd)) (nI (rcv wd hd)) (nI (btv wd hd)) (nI (lcv wd hd)) (gI gl) (gI aq) st sl (gI lb) (fun zz => nI (sh zz)) (fun zz => nI (bw zz)) (fun zz => nI (bh zz)) (fun zz => nI (ps zz)) rfa rqa (fun zz => oI (rF zz)) (fun zz => nI (rQ zz)) HW))) (va_Qi (fun (r : Int32) (w : va_W) => ∃ F2 : Nat → Option Nat, ∃ Q2 : Nat → Nat, ∃ st2 : Int32, ∃ sl2 : Int32, ∃ lb2 : Option Nat, ∃ ps2 : Nat → Nat, ∃ sz2 : Nat, ∃ hg2 : Nat → BT, ∃ HW2 : va_W, r = f_slider wd hd nb wl sh bw bh ps x y ∧ w = xlW cI cJ cB xo vo h h2 ho ro ys yw xr hs hw hh hp (nI se) (nI wd) (nI hd) (nI wl) (nI nb) (nI (topv wd)) (nI (rcv wd hd)) (nI (btv wd hd)) (nI (lcv wd hd)) (gI gl) (gI aq) st2 sl2 (gI lb2) (fun zz => nI (sh zz)) (fun zz => nI (bw zz)) (fun zz => nI (bh zz)) (fun zz => nI (ps2 zz)) rfa rqa (fun zz => oI (F2 zz)) (fun zz => nI (Q2 zz)) HW2 ∧ MVD (f_slidem wd hd nb wl sh bw bh ps x y) st sl lb ps st2 sl2 lb2 ps2 ∧ HIC cI cJ cB ((f_slidem wd hd nb wl sh bw bh ps x y).isSome) ho hsz hg HW (tup se wd hd nb wl st sl gl aq lb sh bw bh ps) sz2 hg2 HW2) (gB D (xlW cI cJ cB xo vo h h2 ho ro ys yw xr hs hw hh hp (nI se) (nI wd) (nI hd) (nI wl) (nI nb) (nI (topv wd)) (nI (rcv wd hd)) (nI (btv wd hd)) (nI (lcv wd hd)) (gI gl) (gI aq) st sl (gI lb) (fun zz => nI (sh zz)) (fun zz => nI (bw zz)) (fun zz => nI (bh zz)) (fun zz => nI (ps zz)) rfa rqa (fun zz => oI (rF zz)) (fun zz => nI (rQ zz)) HW)) (aW (xlW cI cJ cB xo vo h h2 ho ro ys yw xr hs hw hh hp (nI se) (nI wd) (nI hd) (nI wl) (nI nb) (nI (topv wd)) (nI (rcv wd hd)) (nI (btv wd hd)) (nI (lcv wd hd)) (gI gl) (gI aq) st sl (gI lb) (fun zz => nI (sh zz)) (fun zz => nI (bw zz)) (fun zz => nI (bh zz)) (fun zz => nI (ps zz)) rfa rqa (fun zz => oI (rF zz)) (fun zz => nI (rQ zz)) HW))) 0 0 (aW (xlW cI cJ cB xo vo h h2 ho ro ys yw xr hs hw hh hp (nI se) (nI wd) (nI hd) (nI wl) (nI nb) (nI (topv wd)) (nI (rcv wd hd)) (nI (btv wd hd)) (nI (lcv wd hd)) (gI gl) (gI aq) st sl (gI lb) (fun zz => nI (sh zz)) (fun zz => nI (bw zz)) (fun zz => nI (bh zz)) (fun zz => nI (ps zz)) rfa rqa (fun zz => oI (rF zz)) (fun zz => nI (rQ zz)) HW)) := by
  refine Met.ofW (cc := cX7_slide) (maxL := 4) (ret := (some .int)) (by decide) rfl ?_
  intro p e s m args below meth c s₁ B hml hv
  obtain ⟨rfl, hK, hN, hP, hD0⟩ := hv
  have hx := B.exec; have hb := B.bytes; have hr := B.returns; have hlocks := B.notSynchronized
  have hts0 := atoms_spec (ws := Cond.code yX7_slide cX7_slide 4 (some .int) :: lw_all) B.pre
  have hC : CallFix p m c cX7_slide 4 s _ lw_all RX7 := ⟨hx, hb, hml, findClass_of_methodNamed B.named, fun w h => hts0 w (List.mem_cons_of_mem _ h)⟩
  have hD : va_D (aW (xlW cI cJ cB xo vo h h2 ho ro ys yw xr hs hw hh hp (nI se) (nI wd) (nI hd) (nI wl) (nI nb) (nI (topv wd)) (nI (rcv wd hd)) (nI (btv wd hd)) (nI (lcv wd hd)) (gI gl) (gI aq) st sl (gI lb) (fun zz => nI (sh zz)) (fun zz => nI (bw zz)) (fun zz => nI (bh zz)) (fun zz => nI (ps zz)) rfa rqa (fun zz => oI (rF zz)) (fun zz => nI (rQ zz)) HW)) (xlW cI cJ cB xo vo h h2 ho ro ys yw xr hs hw hh hp (nI se) (nI wd) (nI hd) (nI wl) (nI nb) (nI (topv wd)) (nI (rcv wd hd)) (nI (btv wd hd)) (nI (lcv wd hd)) (gI gl) (gI aq) st sl (gI lb) (fun zz => nI (sh zz)) (fun zz => nI (bw zz)) (fun zz => nI (bh zz)) (fun zz => nI (ps zz)) rfa rqa (fun zz => oI (rF zz)) (fun zz => nI (rQ zz)) HW) := ⟨hD0.1, fun k q h => ⟨k, q.2, h⟩⟩
  generalize hAe : aW (xlW cI cJ cB xo vo h h2 ho ro ys yw xr hs hw hh hp (nI se) (nI wd) (nI hd) (nI wl) (nI nb) (nI (topv wd)) (nI (rcv wd hd)) (nI (btv wd hd)) (nI (lcv wd hd)) (gI gl) (gI aq) st sl (gI lb) (fun zz => nI (sh zz)) (fun zz => nI (bw zz)) (fun zz => nI (bh zz)) (fun zz => nI (ps zz)) rfa rqa (fun zz => oI (rF zz)) (fun zz => nI (rQ zz)) HW) = A at hD ⊢
  have hS : va_S A s.heap s.heap [] := va_S.rf
  have hl := lv_entry ([.ref xo, .int x, .int y]) (n := 4) (Nat.le_of_ble_eq_true rfl)
  rw [lg_entry_eq]
  generalize (lg_sl ([.ref xo, .int x, .int y]) ++ List.replicate (4 - (lg_sl ([.ref xo, .int x, .int y])).length) Slot.unset).toArray = ls at hl ⊢
  have hl : lv_has ls 4 [(0, .ref xo), (1, .int x), (2, .int y)] := hl
  generalize hav : ([.ref xo, .int x, .int y] : List Value).toArray = args at hC ⊢
  refine W_gen (fun QQ hQ => ?_)
  show W p l e (rmN 4) s m args below meth c s.heap [] 0 0 QQ (F0 m 0 ls [])
  obtain ⟨hf, hps, hk1, hga, hlb⟩ := id htv
  have hn7 := hf.2.2.2.2.2.1
  have h24 := hf.2.2.2.2.1
  refine lv_aload_n hx hb dX7_slide_0 rfl (lv_at hl 0 rfl) ?_
  refine gf_X7_19 hC hK hP 0 rfl rfl dX7_slide_1 ?_
  refine lv_iload_n hx hb dX7_slide_4 rfl (lv_at hl 1 rfl) ?_
  refine callV_i (As := [.int x]) (rest := []) [1, 2, 3, 4, 5] hC hK hN hP hD rfl (by decide) hS 1 (ci := 0) rfl rfl rfl (c_X0_has l D cI cJ cB h hs hw hh hp se wd hd nb wl st sl gl aq lb sh bw bh ps x (by omega)) q425 md_X0_has rfl hl.1 rfl (Nat.le_of_ble_eq_true rfl) dX7_slide_5 ⟨Nat.le_of_ble_eq_true rfl, Nat.le_of_ble_eq_true rfl⟩ ⟨Nat.le_of_ble_eq_true rfl, Nat.le_of_ble_eq_true rfl⟩ (fun r_5 w H locs hpost hP hD hS => ?_)
  obtain ⟨rfl, rfl⟩ := hpost
  have hP : va_P D vwCl (xlW cI cJ cB xo vo h h2 ho ro ys yw xr hs hw hh hp (nI se) (nI wd) (nI hd) (nI wl) (nI nb) (nI (topv wd)) (nI (rcv wd hd)) (nI (btv wd hd)) (nI (lcv wd hd)) (gI gl) (gI aq) st sl (gI lb) (fun zz => nI (sh zz)) (fun zz => nI (bw zz)) (fun zz => nI (bh zz)) (fun zz => nI (ps zz)) rfa rqa (fun zz => oI (rF zz)) (fun zz => nI (rQ zz)) HW) H := hP
  have hD : va_D A (xlW cI cJ cB xo vo h h2 ho ro ys yw xr hs hw hh hp (nI se) (nI wd) (nI hd) (nI wl) (nI nb) (nI (topv wd)) (nI (rcv wd hd)) (nI (btv wd hd)) (nI (lcv wd hd)) (gI gl) (gI aq) st sl (gI lb) (fun zz => nI (sh zz)) (fun zz => nI (bw zz)) (fun zz => nI (bh zz)) (fun zz => nI (ps zz)) rfa rqa (fun zz => oI (rF zz)) (fun zz => nI (rQ zz)) HW) := hD
  refine b_if_eq (tgt := 22) hx hb dX7_slide_8 (by decide) (fun c8 => ?_) (fun c8 => ?_)
  · have _ : True := trivial
    have hbo := bOf_non c8
    refine lv_iconst (v := (-1)) hx hb dX7_slide_22 (by decide) ?_
    have hm0 : f_slidem wd hd nb wl sh bw bh ps x y = none := by unfold f_slidem; rw [hbo]
    rw [hQ]
    exact W.iret (v := (-1)) hx hb hr (fun t9 ht hW => ⟨⟨_, _, rfl, ⟨rF, rQ, st, sl, lb, ps, hsz, hg, HW, (by unfold f_slider; rw [hbo]), rfl, (by rw [hm0]; exact ⟨rfl, rfl, rfl, rfl⟩), (by rw [hm0]; exact HIC_no hHW)⟩, by rw [ht]; exact hP, rfl⟩, hS.F ht⟩) hS.2.2 dX7_slide_23
  · have _ : True := trivial
    obtain ⟨b, hbn, hxb, hbo⟩ := bOf_yes (by omega) c8
    subst hxb
    refine lv_aload_n hx hb dX7_slide_11 rfl (lv_at hl 0 rfl) ?_
    refine gf_X7_19 hC hK hP 0 rfl rfl dX7_slide_12 ?_
    refine lv_iload_n hx hb dX7_slide_15 rfl (lv_at hl 2 rfl) ?_
    refine callV_i (As := [.int y]) (rest := []) [1, 2, 3, 4, 5] hC hK hN hP hD rfl (by decide) hS 1 (ci := 0) rfl rfl rfl (c_X0_hasCell l D cI cJ cB h hs hw hh hp se wd hd nb wl st sl gl aq lb sh bw bh ps y (by omega)) q416 md_X0_hasCell rfl hl.1 rfl (Nat.le_of_ble_eq_true rfl) dX7_slide_16 ⟨Nat.le_of_ble_eq_true rfl, Nat.le_of_ble_eq_true rfl⟩ ⟨Nat.le_of_ble_eq_true rfl, Nat.le_of_ble_eq_true rfl⟩ (fun r_16 w H locs hpost hP hD hS => ?_)
    obtain ⟨rfl, rfl⟩ := hpost
    have hP : va_P D vwCl (xlW cI cJ cB xo vo h h2 ho ro ys yw xr hs hw hh hp (nI se) (nI wd) (nI hd) (nI wl) (nI nb) (nI (topv wd)) (nI (rcv wd hd)) (nI (btv wd hd)) (nI (lcv wd hd)) (gI gl) (gI aq) st sl (gI lb) (fun zz => nI (sh zz)) (fun zz => nI (bw zz)) (fun zz => nI (bh zz)) (fun zz => nI (ps zz)) rfa rqa (fun zz => oI (rF zz)) (fun zz => nI (rQ zz)) HW) H := hP
    have hD : va_D A (xlW cI cJ cB xo vo h h2 ho ro ys yw xr hs hw hh hp (nI se) (nI wd) (nI hd) (nI wl) (nI nb) (nI (topv wd)) (nI (rcv wd hd)) (nI (btv wd hd)) (nI (lcv wd hd)) (gI gl) (gI aq) st sl (gI lb) (fun zz => nI (sh zz)) (fun zz => nI (bw zz)) (fun zz => nI (bh zz)) (fun zz => nI (ps zz)) rfa rqa (fun zz => oI (rF zz)) (fun zz => nI (rQ zz)) HW) := hD
    refine b_if_ne (tgt := 24) hx hb dX7_slide_19 (by decide) (fun c19 => ?_) (fun c19 => ?_)
    · have _ : True := trivial
      obtain ⟨q, hq9, hyq, hqo⟩ := bOf_yes (by omega) c19
      subst hyq
      refine lv_aload_n hx hb dX7_slide_24 rfl (lv_at hl 0 rfl) ?_
      refine gf_X7_36 hC hK hP 0 rfl rfl dX7_slide_25 ?_
      refine lv_aload_n hx hb dX7_slide_28 rfl (lv_at hl 0 rfl) ?_
      refine gf_X7_19 hC hK hP 0 rfl rfl dX7_slide_29 ?_
      refine lv_iload_n hx hb dX7_slide_32 rfl (lv_at hl 1 rfl) ?_
      refine callV_i (As := [.ref h, .int (nI b)]) (rest := []) [6, 7, 8, 1, 2, 3, 4, 5] hC hK hN hP hD rfl (by decide) hS 6 (ci := 3) rfl rfl rfl (c_X3_spread l D cI cJ cB ro rfa rqa rF rQ h hs hw hh hp se wd hd nb wl st sl gl aq lb sh bw bh ps b htv (by omega)) q439 md_X3_spread rfl hl.1 rfl (Nat.le_of_ble_eq_true rfl) dX7_slide_33 ⟨Nat.le_of_ble_eq_true rfl, Nat.le_of_ble_eq_true rfl⟩ ⟨Nat.le_of_ble_eq_true rfl, Nat.le_of_ble_eq_true rfl⟩ (fun r_33 w H locs hpost hP hD hS => ?_)
      obtain ⟨F2_33, Q2_33, rfl, rfl, hfl, hfb⟩ := hpost
      have hP : va_P D vwCl (xlW cI cJ cB xo vo h h2 ho ro ys yw xr hs hw hh hp (nI se) (nI wd) (nI hd) (nI wl) (nI nb) (nI (topv wd)) (nI (rcv wd hd)) (nI (btv wd hd)) (nI (lcv wd hd)) (gI gl) (gI aq) st sl (gI lb) (fun zz => nI (sh zz)) (fun zz => nI (bw zz)) (fun zz => nI (bh zz)) (fun zz => nI (ps zz)) rfa rqa (fun zz => oI (F2_33 zz)) (fun zz => nI (Q2_33 zz)) HW) H := hP
      have hD : va_D A (xlW cI cJ cB xo vo h h2 ho ro ys yw xr hs hw hh hp (nI se) (nI wd) (nI hd) (nI wl) (nI nb) (nI (topv wd)) (nI (rcv wd hd)) (nI (btv wd hd)) (nI (lcv wd hd)) (gI gl) (gI aq) st sl (gI lb) (fun zz => nI (sh zz)) (fun zz => nI (bw zz)) (fun zz => nI (bh zz)) (fun zz => nI (ps zz)) rfa rqa (fun zz => oI (F2_33 zz)) (fun zz => nI (Q2_33 zz)) HW) := hD
      have hflo := flo_eq hfl
      refine lv_pop hx hb dX7_slide_36 rfl ?_
      refine lv_aload_n hx hb dX7_slide_37 rfl (lv_at hl 0 rfl) ?_
      refine gf_X7_36 hC hK hP 0 rfl rfl dX7_slide_38 ?_
      refine gf_X7_161 hC hK hP 6 rfl rfl dX7_slide_41 ?_
      refine lv_iload_n hx hb dX7_slide_44 rfl (lv_at hl 2 rfl) ?_
      refine callS_i (As := [.ref rfa, .int (nI q)]) (rest := []) [7] hC hK hN hP hD rfl (by decide) hS (c_X7_at_O l D cI cJ cB rfa 24 q F2_33 (by omega) (by omega)) q429 md_X7_at rfl hl.1 rfl (Nat.le_of_ble_eq_true rfl) dX7_slide_45 ⟨Nat.le_of_ble_eq_true rfl, Nat.le_of_ble_eq_true rfl⟩ ⟨Nat.le_of_ble_eq_true rfl, Nat.le_of_ble_eq_true rfl⟩ (fun r_45 w H locs hpost hP hD hS => ?_)
      obtain ⟨rfl, rfl⟩ := hpost
      have hP : va_P D vwCl (xlW cI cJ cB xo vo h h2 ho ro ys yw xr hs hw hh hp (nI se) (nI wd) (nI hd) (nI wl) (nI nb) (nI (topv wd)) (nI (rcv wd hd)) (nI (btv wd hd)) (nI (lcv wd hd)) (gI gl) (gI aq) st sl (gI lb) (fun zz => nI (sh zz)) (fun zz => nI (bw zz)) (fun zz => nI (bh zz)) (fun zz => nI (ps zz)) rfa rqa (fun zz => oI (F2_33 zz)) (fun zz => nI (Q2_33 zz)) HW) H := hP
      have hD : va_D A (xlW cI cJ cB xo vo h h2 ho ro ys yw xr hs hw hh hp (nI se) (nI wd) (nI hd) (nI wl) (nI nb) (nI (topv wd)) (nI (rcv wd hd)) (nI (btv wd hd)) (nI (lcv wd hd)) (gI gl) (gI aq) st sl (gI lb) (fun zz => nI (sh zz)) (fun zz => nI (bw zz)) (fun zz => nI (bh zz)) (fun zz => nI (ps zz)) rfa rqa (fun zz => oI (F2_33 zz)) (fun zz => nI (Q2_33 zz)) HW) := hD
      refine lv_istore_n (lv' := [(3, .int (oI (F2_33 q))), (0, .ref xo), (1, .int (nI b)), (2, .int (nI q))]) hx hb dX7_slide_48 rfl hl (by decide) rfl (fun ls hl => ?_)
      refine lv_iload_n hx hb dX7_slide_49 rfl (lv_at hl 0 rfl) ?_
      refine lv_if_gt (tgt := 56) hx hb dX7_slide_50 (by decide) (fun c50 => ?_) (fun c50 => ?_)
      · have _ : True := trivial
        obtain ⟨e, he9⟩ := oI_gt0 (Int32.not_le.mpr c50)
        have hm0 : f_slidem wd hd nb wl sh bw bh ps (nI b) (nI q) = some (b, q, e + 1, true) := by unfold f_slidem; rw [hbo, hqo]; show (match flo wd hd nb wl sh bw bh none (pkey ps nb) b q with | some (e + 1) => some (b, q, e + 1, true) | _ => none) = _; rw [← hflo, he9]
        refine lv_aload_n hx hb dX7_slide_56 rfl (lv_at hl 1 rfl) ?_
        refine gf_X7_29 hC hK hP 0 rfl rfl dX7_slide_57 ?_
        refine lv_aload_n hx hb dX7_slide_60 rfl (lv_at hl 1 rfl) ?_
        refine gf_X7_19 hC hK hP 0 rfl rfl dX7_slide_61 ?_
        obtain ⟨fs9, hrc9⟩ := HWp_rc hHW
        refine callV_v (As := [.ref h]) (rest := []) ([1, 2, 3, 4, 5] ++ tl 9 (List.length HW)) hC hK hN hP hD (tl_pick (n := 9) rfl rfl) (tl_nodup (by decide) (by decide)) hS 9 (ci := 2) rfl (hrc9 _ 9 rfl) rfl (c_X2_keep l D cI cJ cB ho hsz hg HW h hs hw hh hp se wd hd nb wl st sl gl aq lb sh bw bh ps hHW) q369 md_X2_keep rfl hl.1 rfl (Nat.le_of_ble_eq_true rfl) dX7_slide_64 ⟨Nat.le_of_ble_eq_true rfl, Nat.le_of_ble_eq_true rfl⟩ ⟨Nat.le_of_ble_eq_true rfl, Nat.le_of_ble_eq_true rfl⟩ (fun w H locs hpost hP hD hS => ?_)
        obtain ⟨HW2_64, rfl, hkp, hkl⟩ := hpost
        have hP : va_P D vwCl (xlW cI cJ cB xo vo h h2 ho ro ys yw xr hs hw hh hp (nI se) (nI wd) (nI hd) (nI wl) (nI nb) (nI (topv wd)) (nI (rcv wd hd)) (nI (btv wd hd)) (nI (lcv wd hd)) (gI gl) (gI aq) st sl (gI lb) (fun zz => nI (sh zz)) (fun zz => nI (bw zz)) (fun zz => nI (bh zz)) (fun zz => nI (ps zz)) rfa rqa (fun zz => oI (F2_33 zz)) (fun zz => nI (Q2_33 zz)) HW2_64) H := tl_P (n := 9) (js := [1, 2, 3, 4, 5]) hP rfl (by decide) rfl (adr_len hkl) rfl
        have hD : va_D A (xlW cI cJ cB xo vo h h2 ho ro ys yw xr hs hw hh hp (nI se) (nI wd) (nI hd) (nI wl) (nI nb) (nI (topv wd)) (nI (rcv wd hd)) (nI (btv wd hd)) (nI (lcv wd hd)) (gI gl) (gI aq) st sl (gI lb) (fun zz => nI (sh zz)) (fun zz => nI (bw zz)) (fun zz => nI (bh zz)) (fun zz => nI (ps zz)) rfa rqa (fun zz => oI (F2_33 zz)) (fun zz => nI (Q2_33 zz)) HW2_64) := tl_D (n := 9) (js := [1, 2, 3, 4, 5]) hD rfl (by decide) rfl (adr_len hkl) rfl
        refine lv_aload_n hx hb dX7_slide_67 rfl (lv_at hl 1 rfl) ?_
        refine gf_X7_19 hC hK hP 0 rfl rfl dX7_slide_68 ?_
        refine lv_iload_n hx hb dX7_slide_71 rfl (lv_at hl 2 rfl) ?_
        refine lv_iload_n hx hb dX7_slide_72 rfl (lv_at hl 3 rfl) ?_
        refine lv_iload_n hx hb dX7_slide_73 rfl (lv_at hl 0 rfl) ?_
        refine topi (y := nI (e + 1)) (by rw [he9]; rfl) ?_
        refine lv_iconst (v := nI 1) hx hb dX7_slide_74 (by decide) ?_
        refine callV_v (As := [.int (nI b), .int (nI q), .int (nI (e + 1)), .int (nI 1)]) (rest := []) [1, 2, 3, 4, 5] hC hK hN hP hD rfl (by decide) hS 1 (ci := 0) rfl rfl rfl (c_X0_move l D cI cJ cB h hs hw hh hp se wd hd nb wl st sl gl aq lb sh bw bh ps b q (nI (e + 1)) true (by omega) (fun d h => by have := hlb d h; omega)) q464 md_X0_move rfl hl.1 rfl (Nat.le_of_ble_eq_true rfl) dX7_slide_75 ⟨Nat.le_of_ble_eq_true rfl, Nat.le_of_ble_eq_true rfl⟩ ⟨Nat.le_of_ble_eq_true rfl, Nat.le_of_ble_eq_true rfl⟩ (fun w H locs hpost hP hD hS => ?_)
        obtain ⟨sl2_75, rfl, hsl9⟩ := hpost
        have hP : va_P D vwCl (xlW cI cJ cB xo vo h h2 ho ro ys yw xr hs hw hh hp (nI se) (nI wd) (nI hd) (nI wl) (nI nb) (nI (topv wd)) (nI (rcv wd hd)) (nI (btv wd hd)) (nI (lcv wd hd)) (gI gl) (gI aq) (st + (nI (e + 1))) sl2_75 (gI (some b)) (fun zz => nI (sh zz)) (fun zz => nI (bw zz)) (fun zz => nI (bh zz)) (fun zz => nI ((va_up ps b q) zz)) rfa rqa (fun zz => oI (F2_33 zz)) (fun zz => nI (Q2_33 zz)) HW2_64) H := hP
        have hD : va_D A (xlW cI cJ cB xo vo h h2 ho ro ys yw xr hs hw hh hp (nI se) (nI wd) (nI hd) (nI wl) (nI nb) (nI (topv wd)) (nI (rcv wd hd)) (nI (btv wd hd)) (nI (lcv wd hd)) (gI gl) (gI aq) (st + (nI (e + 1))) sl2_75 (gI (some b)) (fun zz => nI (sh zz)) (fun zz => nI (bw zz)) (fun zz => nI (bh zz)) (fun zz => nI ((va_up ps b q) zz)) rfa rqa (fun zz => oI (F2_33 zz)) (fun zz => nI (Q2_33 zz)) HW2_64) := hD
        refine lv_iload_n hx hb dX7_slide_78 rfl (lv_at hl 0 rfl) ?_
        refine topi (y := nI (e + 1)) (by rw [he9]; rfl) ?_
        rw [hQ]
        exact W.iret (v := nI (e + 1)) hx hb hr (fun t9 ht hW => ⟨⟨_, _, rfl, ⟨F2_33, Q2_33, st + (nI (e + 1)), sl2_75, some b, va_up ps b q, (hcnt hsz), (hpu hg hsz (tup se wd hd nb wl st sl gl aq lb sh bw bh ps)), HW2_64, (by unfold f_slider; rw [hbo, hqo]; show _ = (match flo wd hd nb wl sh bw bh none (pkey ps nb) b q with | some (e + 1) => nI (e + 1) | _ => -2); rw [← hflo, he9]), rfl, (by rw [hm0]; exact ⟨rfl, mvsl_eq hsl9, rfl, rfl⟩), (by rw [hm0]; exact HIC_yes hkp hkl)⟩, by rw [ht]; exact hP, (adr_app rfl hkl)⟩, hS.F ht⟩) hS.2.2 dX7_slide_79
      · have _ : True := trivial
        have hne := oI_le0 (fun d h => by have := (hfb q d h).2.2; omega) (Int32.not_lt.mp c50)
        refine lv_bipush (v := (-2)) hx hb dX7_slide_53 (by decide) ?_
        have hm0 : f_slidem wd hd nb wl sh bw bh ps (nI b) (nI q) = none := by unfold f_slidem; rw [hbo, hqo]; show (match flo wd hd nb wl sh bw bh none (pkey ps nb) b q with | some (e + 1) => some (b, q, e + 1, true) | _ => none) = none; rw [← hflo]; split; exact absurd (by assumption) (hne _); rfl
        rw [hQ]
        exact W.iret (v := (-2)) hx hb hr (fun t9 ht hW => ⟨⟨_, _, rfl, ⟨F2_33, Q2_33, st, sl, lb, ps, hsz, hg, HW, (by unfold f_slider; rw [hbo, hqo]; show -2 = (match flo wd hd nb wl sh bw bh none (pkey ps nb) b q with | some (e + 1) => nI (e + 1) | _ => -2); rw [← hflo]; split; exact absurd (by assumption) (hne _); rfl), rfl, (by rw [hm0]; exact ⟨rfl, rfl, rfl, rfl⟩), (by rw [hm0]; exact HIC_no hHW)⟩, by rw [ht]; exact hP, rfl⟩, hS.F ht⟩) hS.2.2 dX7_slide_55
    · have _ : True := trivial
      have hyo := bOf_non c19
      refine lv_iconst (v := (-1)) hx hb dX7_slide_22 (by decide) ?_
      have hm0 : f_slidem wd hd nb wl sh bw bh ps (nI b) y = none := by unfold f_slidem; rw [hbo, hyo]
      rw [hQ]
      exact W.iret (v := (-1)) hx hb hr (fun t9 ht hW => ⟨⟨_, _, rfl, ⟨rF, rQ, st, sl, lb, ps, hsz, hg, HW, (by unfold f_slider; rw [hbo, hyo]), rfl, (by rw [hm0]; exact ⟨rfl, rfl, rfl, rfl⟩), (by rw [hm0]; exact HIC_no hHW)⟩, by rw [ht]; exact hP, rfl⟩, hS.F ht⟩) hS.2.2 dX7_slide_23

set_option maxHeartbeats 400000 in
set_option maxRecDepth 100000 in
theorem c_X7_goal (l : Launch) (D : va_G) (cI cJ cB : ClassId) (xo vo h2 ho ro ys yw : Nat) (xr : Int32) (h hs hw hh hp se wd hd nb wl : Nat) (st sl : Int32) (gl aq lb : Option Nat) (sh bw bh ps : Nat → Nat) (hsz : Nat) (hg : Nat → BT) (HW : va_W) (x y : Int32) (htv : TV wd hd nb wl sh bw bh ps gl aq lb) (hHW : HWp cI cJ cB ho hsz hg HW) : Met l yX7_goal (Cond.code yX7_goal cX7_goal 3 (some .int) :: lw_all) (rmN 4) (va_Pc [.ref xo, .int x, .int y] (pB D (tyz cI cJ cB) (xsW cI cJ cB xo vo h h2 ho ro ys yw xr hs hw hh hp (nI se) (nI wd) (nI hd) (nI wl) (nI nb) (nI (topv wd)) (nI (rcv wd hd)) (nI (btv wd hd)) (nI (lcv wd hd)) (gI gl) (gI aq) st sl (gI lb) (fun zz => nI (sh zz)) (fun zz => nI (bw zz)) (fun zz => nI (bh zz)) (fun zz => nI (ps zz)) HW))) (va_Qi (fun (r : Int32) (w : va_W) => ∃ gl2 : Option Nat, ∃ aq2 : Option Nat, ∃ sz2 : Nat, ∃ hg2 : Nat → BT, ∃ HW2 : va_W, r = f_goalr wd hd nb bw bh ps x y ∧ w = xsW cI cJ cB xo vo h h2 ho ro ys yw xr hs hw hh hp (nI se) (nI wd) (nI hd) (nI wl) (nI nb) (nI (topv wd)) (nI (rcv wd hd)) (nI (btv wd hd)) (nI (lcv wd hd)) (gI gl2) (gI aq2) st sl (gI lb) (fun zz => nI (sh zz)) (fun zz => nI (bw zz)) (fun zz => nI (bh zz)) (fun zz => nI (ps zz)) HW2 ∧ GLD (f_goalm wd hd nb bw bh x y) gl aq gl2 aq2 ∧ HIC cI cJ cB ((f_goalm wd hd nb bw bh x y).isSome) ho hsz hg HW (tup se wd hd nb wl st sl gl aq lb sh bw bh ps) sz2 hg2 HW2) (gB D (xsW cI cJ cB xo vo h h2 ho ro ys yw xr hs hw hh hp (nI se) (nI wd) (nI hd) (nI wl) (nI nb) (nI (topv wd)) (nI (rcv wd hd)) (nI (btv wd hd)) (nI (lcv wd hd)) (gI gl) (gI aq) st sl (gI lb) (fun zz => nI (sh zz)) (fun zz => nI (bw zz)) (fun zz => nI (bh zz)) (fun zz => nI (ps zz)) HW)) (aW (xsW cI cJ cB xo vo h h2 ho ro ys yw xr hs hw hh hp (nI se) (nI wd) (nI hd) (nI wl) (nI nb) (nI (topv wd)) (nI (rcv wd hd)) (nI (btv wd hd)) (nI (lcv wd hd)) (gI gl) (gI aq) st sl (gI lb) (fun zz => nI (sh zz)) (fun zz => nI (bw zz)) (fun zz => nI (bh zz)) (fun zz => nI (ps zz)) HW))) 0 0 (aW (xsW cI cJ cB xo vo h h2 ho ro ys yw xr hs hw hh hp (nI se) (nI wd) (nI hd) (nI wl) (nI nb) (nI (topv wd)) (nI (rcv wd hd)) (nI (btv wd hd)) (nI (lcv wd hd)) (gI gl) (gI aq) st sl (gI lb) (fun zz => nI (sh zz)) (fun zz => nI (bw zz)) (fun zz => nI (bh zz)) (fun zz => nI (ps zz)) HW)) := by
  refine Met.ofW (cc := cX7_goal) (maxL := 3) (ret := (some .int)) (by decide) rfl ?_
  intro p e s m args below meth c s₁ B hml hv
  obtain ⟨rfl, hK, hN, hP, hD0⟩ := hv
  have hx := B.exec; have hb := B.bytes; have hr := B.returns; have hlocks := B.notSynchronized
  have hts0 := atoms_spec (ws := Cond.code yX7_goal cX7_goal 3 (some .int) :: lw_all) B.pre
  have hC : CallFix p m c cX7_goal 3 s _ lw_all RX7 := ⟨hx, hb, hml, findClass_of_methodNamed B.named, fun w h => hts0 w (List.mem_cons_of_mem _ h)⟩
  have hD : va_D (aW (xsW cI cJ cB xo vo h h2 ho ro ys yw xr hs hw hh hp (nI se) (nI wd) (nI hd) (nI wl) (nI nb) (nI (topv wd)) (nI (rcv wd hd)) (nI (btv wd hd)) (nI (lcv wd hd)) (gI gl) (gI aq) st sl (gI lb) (fun zz => nI (sh zz)) (fun zz => nI (bw zz)) (fun zz => nI (bh zz)) (fun zz => nI (ps zz)) HW)) (xsW cI cJ cB xo vo h h2 ho ro ys yw xr hs hw hh hp (nI se) (nI wd) (nI hd) (nI wl) (nI nb) (nI (topv wd)) (nI (rcv wd hd)) (nI (btv wd hd)) (nI (lcv wd hd)) (gI gl) (gI aq) st sl (gI lb) (fun zz => nI (sh zz)) (fun zz => nI (bw zz)) (fun zz => nI (bh zz)) (fun zz => nI (ps zz)) HW) := ⟨hD0.1, fun k q h => ⟨k, q.2, h⟩⟩
  generalize hAe : aW (xsW cI cJ cB xo vo h h2 ho ro ys yw xr hs hw hh hp (nI se) (nI wd) (nI hd) (nI wl) (nI nb) (nI (topv wd)) (nI (rcv wd hd)) (nI (btv wd hd)) (nI (lcv wd hd)) (gI gl) (gI aq) st sl (gI lb) (fun zz => nI (sh zz)) (fun zz => nI (bw zz)) (fun zz => nI (bh zz)) (fun zz => nI (ps zz)) HW) = A at hD ⊢
  have hS : va_S A s.heap s.heap [] := va_S.rf
  have hl := lv_entry ([.ref xo, .int x, .int y]) (n := 3) (Nat.le_of_ble_eq_true rfl)
  rw [lg_entry_eq]
  generalize (lg_sl ([.ref xo, .int x, .int y]) ++ List.replicate (3 - (lg_sl ([.ref xo, .int x, .int y])).length) Slot.unset).toArray = ls at hl ⊢
  have hl : lv_has ls 3 [(0, .ref xo), (1, .int x), (2, .int y)] := hl
  generalize hav : ([.ref xo, .int x, .int y] : List Value).toArray = args at hC ⊢
  refine W_gen (fun QQ hQ => ?_)
  show W p l e (rmN 4) s m args below meth c s.heap [] 0 0 QQ (F0 m 0 ls [])
  obtain ⟨hf, hps, hk1, hga, hlb⟩ := id htv
  have hn7 := hf.2.2.2.2.2.1
  have h24 := hf.2.2.2.2.1
  refine lv_aload_n hx hb dX7_goal_0 rfl (lv_at hl 0 rfl) ?_
  refine gf_X7_19 hC hK hP 0 rfl rfl dX7_goal_1 ?_
  refine lv_iload_n hx hb dX7_goal_4 rfl (lv_at hl 1 rfl) ?_
  refine callV_i (As := [.int x]) (rest := []) [1, 2, 3, 4, 5] hC hK hN hP hD rfl (by decide) hS 1 (ci := 0) rfl rfl rfl (c_X0_has l D cI cJ cB h hs hw hh hp se wd hd nb wl st sl gl aq lb sh bw bh ps x (by omega)) q425 md_X0_has rfl hl.1 rfl (Nat.le_of_ble_eq_true rfl) dX7_goal_5 ⟨Nat.le_of_ble_eq_true rfl, Nat.le_of_ble_eq_true rfl⟩ ⟨Nat.le_of_ble_eq_true rfl, Nat.le_of_ble_eq_true rfl⟩ (fun r_5 w H locs hpost hP hD hS => ?_)
  obtain ⟨rfl, rfl⟩ := hpost
  have hP : va_P D vwCl (xsW cI cJ cB xo vo h h2 ho ro ys yw xr hs hw hh hp (nI se) (nI wd) (nI hd) (nI wl) (nI nb) (nI (topv wd)) (nI (rcv wd hd)) (nI (btv wd hd)) (nI (lcv wd hd)) (gI gl) (gI aq) st sl (gI lb) (fun zz => nI (sh zz)) (fun zz => nI (bw zz)) (fun zz => nI (bh zz)) (fun zz => nI (ps zz)) HW) H := hP
  have hD : va_D A (xsW cI cJ cB xo vo h h2 ho ro ys yw xr hs hw hh hp (nI se) (nI wd) (nI hd) (nI wl) (nI nb) (nI (topv wd)) (nI (rcv wd hd)) (nI (btv wd hd)) (nI (lcv wd hd)) (gI gl) (gI aq) st sl (gI lb) (fun zz => nI (sh zz)) (fun zz => nI (bw zz)) (fun zz => nI (bh zz)) (fun zz => nI (ps zz)) HW) := hD
  refine b_if_eq (tgt := 23) hx hb dX7_goal_8 (by decide) (fun c8 => ?_) (fun c8 => ?_)
  · have _ : True := trivial
    have hbo := bOf_non c8
    refine lv_iconst (v := (-1)) hx hb dX7_goal_23 (by decide) ?_
    have hm0 : f_goalm wd hd nb bw bh x y = none := by unfold f_goalm; rw [hbo]
    rw [hQ]
    exact W.iret (v := (-1)) hx hb hr (fun t9 ht hW => ⟨⟨_, _, rfl, ⟨gl, aq, hsz, hg, HW, (by unfold f_goalr; rw [hm0]), rfl, (by rw [hm0]; exact ⟨rfl, rfl⟩), (by rw [hm0]; exact HIC_no hHW)⟩, by rw [ht]; exact hP, rfl⟩, hS.F ht⟩) hS.2.2 dX7_goal_24
  · have _ : True := trivial
    obtain ⟨b, hbn, hxb, hbo⟩ := bOf_yes (by omega) c8
    subst hxb
    have hsb := hf.2.2.2.2.2.2.2 b hbn
    refine lv_aload_n hx hb dX7_goal_11 rfl (lv_at hl 0 rfl) ?_
    refine gf_X7_19 hC hK hP 0 rfl rfl dX7_goal_12 ?_
    refine lv_iload_n hx hb dX7_goal_15 rfl (lv_at hl 1 rfl) ?_
    refine lv_iload_n hx hb dX7_goal_16 rfl (lv_at hl 2 rfl) ?_
    refine callV_i (As := [.int (nI b), .int y]) (rest := []) [1, 2, 3, 4, 5] hC hK hN hP hD rfl (by decide) hS 1 (ci := 0) rfl rfl rfl (c_X0_fits l D cI cJ cB h hs hw hh hp se wd hd nb wl st sl gl aq lb sh bw bh ps b y hf.1 hf.2.1 hf.2.2.2.1 (by omega) (by omega) (by have := hsb.2.1; have := hf.2.1; omega) (by have := hsb.2.2.2.1; have := hf.2.2.2.1; omega)) q472 md_X0_fits rfl hl.1 rfl (Nat.le_of_ble_eq_true rfl) dX7_goal_17 ⟨Nat.le_of_ble_eq_true rfl, Nat.le_of_ble_eq_true rfl⟩ ⟨Nat.le_of_ble_eq_true rfl, Nat.le_of_ble_eq_true rfl⟩ (fun r_17 w H locs hpost hP hD hS => ?_)
    obtain ⟨rfl, rfl⟩ := hpost
    have hP : va_P D vwCl (xsW cI cJ cB xo vo h h2 ho ro ys yw xr hs hw hh hp (nI se) (nI wd) (nI hd) (nI wl) (nI nb) (nI (topv wd)) (nI (rcv wd hd)) (nI (btv wd hd)) (nI (lcv wd hd)) (gI gl) (gI aq) st sl (gI lb) (fun zz => nI (sh zz)) (fun zz => nI (bw zz)) (fun zz => nI (bh zz)) (fun zz => nI (ps zz)) HW) H := hP
    have hD : va_D A (xsW cI cJ cB xo vo h h2 ho ro ys yw xr hs hw hh hp (nI se) (nI wd) (nI hd) (nI wl) (nI nb) (nI (topv wd)) (nI (rcv wd hd)) (nI (btv wd hd)) (nI (lcv wd hd)) (gI gl) (gI aq) st sl (gI lb) (fun zz => nI (sh zz)) (fun zz => nI (bw zz)) (fun zz => nI (bh zz)) (fun zz => nI (ps zz)) HW) := hD
    refine b_if_ne (tgt := 25) hx hb dX7_goal_20 (by decide) (fun c20 => ?_) (fun c20 => ?_)
    · have _ : True := trivial
      obtain ⟨q, hq9, hyq, hqo, hin9⟩ : ∃ q, q < wd * hd ∧ y = nI q ∧ bOf (wd * hd) y = some q ∧ f_ins wd hd (bw b) (bh b) q = true := bOf_in (by omega) c20
      subst hyq
      have hm0 : f_goalm wd hd nb bw bh (nI b) (nI q) = some (b, q) := by unfold f_goalm; rw [hbo, hqo]; exact if_pos hin9
      refine lv_aload_n hx hb dX7_goal_25 rfl (lv_at hl 0 rfl) ?_
      refine gf_X7_29 hC hK hP 0 rfl rfl dX7_goal_26 ?_
      refine lv_aload_n hx hb dX7_goal_29 rfl (lv_at hl 0 rfl) ?_
      refine gf_X7_19 hC hK hP 0 rfl rfl dX7_goal_30 ?_
      obtain ⟨fs9, hrc9⟩ := HWp_rc hHW
      refine callV_v (As := [.ref h]) (rest := []) ([1, 2, 3, 4, 5] ++ tl 6 (List.length HW)) hC hK hN hP hD (tl_pick (n := 6) rfl rfl) (tl_nodup (by decide) (by decide)) hS 6 (ci := 2) rfl (hrc9 _ 6 rfl) rfl (c_X2_keep l D cI cJ cB ho hsz hg HW h hs hw hh hp se wd hd nb wl st sl gl aq lb sh bw bh ps hHW) q369 md_X2_keep rfl hl.1 rfl (Nat.le_of_ble_eq_true rfl) dX7_goal_33 ⟨Nat.le_of_ble_eq_true rfl, Nat.le_of_ble_eq_true rfl⟩ ⟨Nat.le_of_ble_eq_true rfl, Nat.le_of_ble_eq_true rfl⟩ (fun w H locs hpost hP hD hS => ?_)
      obtain ⟨HW2_33, rfl, hkp, hkl⟩ := hpost
      have hP : va_P D vwCl (xsW cI cJ cB xo vo h h2 ho ro ys yw xr hs hw hh hp (nI se) (nI wd) (nI hd) (nI wl) (nI nb) (nI (topv wd)) (nI (rcv wd hd)) (nI (btv wd hd)) (nI (lcv wd hd)) (gI gl) (gI aq) st sl (gI lb) (fun zz => nI (sh zz)) (fun zz => nI (bw zz)) (fun zz => nI (bh zz)) (fun zz => nI (ps zz)) HW2_33) H := tl_P (n := 6) (js := [1, 2, 3, 4, 5]) hP rfl (by decide) rfl (adr_len hkl) rfl
      have hD : va_D A (xsW cI cJ cB xo vo h h2 ho ro ys yw xr hs hw hh hp (nI se) (nI wd) (nI hd) (nI wl) (nI nb) (nI (topv wd)) (nI (rcv wd hd)) (nI (btv wd hd)) (nI (lcv wd hd)) (gI gl) (gI aq) st sl (gI lb) (fun zz => nI (sh zz)) (fun zz => nI (bw zz)) (fun zz => nI (bh zz)) (fun zz => nI (ps zz)) HW2_33) := tl_D (n := 6) (js := [1, 2, 3, 4, 5]) hD rfl (by decide) rfl (adr_len hkl) rfl
      refine lv_aload_n hx hb dX7_goal_36 rfl (lv_at hl 0 rfl) ?_
      refine gf_X7_19 hC hK hP 0 rfl rfl dX7_goal_37 ?_
      refine lv_iload_n hx hb dX7_goal_40 rfl (lv_at hl 1 rfl) ?_
      refine pf_X7_105 hC hK hP hD hS 1 rfl (Nat.le_of_ble_eq_true rfl) (ws1 := xsW cI cJ cB xo vo h h2 ho ro ys yw xr hs hw hh hp (nI se) (nI wd) (nI hd) (nI wl) (nI nb) (nI (topv wd)) (nI (rcv wd hd)) (nI (btv wd hd)) (nI (lcv wd hd)) (nI b) (gI aq) st sl (gI lb) (fun zz => nI (sh zz)) (fun zz => nI (bw zz)) (fun zz => nI (bh zz)) (fun zz => nI (ps zz)) HW2_33) rfl dX7_goal_41 (fun H locs hP hD hS => ?_)
      refine lv_aload_n hx hb dX7_goal_44 rfl (lv_at hl 0 rfl) ?_
      refine gf_X7_19 hC hK hP 0 rfl rfl dX7_goal_45 ?_
      refine lv_iload_n hx hb dX7_goal_48 rfl (lv_at hl 2 rfl) ?_
      refine pf_X7_108 hC hK hP hD hS 1 rfl (Nat.le_of_ble_eq_true rfl) (ws1 := xsW cI cJ cB xo vo h h2 ho ro ys yw xr hs hw hh hp (nI se) (nI wd) (nI hd) (nI wl) (nI nb) (nI (topv wd)) (nI (rcv wd hd)) (nI (btv wd hd)) (nI (lcv wd hd)) (nI b) (nI q) st sl (gI lb) (fun zz => nI (sh zz)) (fun zz => nI (bw zz)) (fun zz => nI (bh zz)) (fun zz => nI (ps zz)) HW2_33) rfl dX7_goal_49 (fun H locs hP hD hS => ?_)
      refine lv_aload_n hx hb dX7_goal_52 rfl (lv_at hl 0 rfl) ?_
      refine gf_X7_19 hC hK hP 0 rfl rfl dX7_goal_53 ?_
      refine callV_i (As := []) (rest := []) [1, 2, 3, 4, 5] hC hK hN hP hD rfl (by decide) hS 1 (ci := 0) rfl rfl rfl (c_X0_atGoal l D cI cJ cB h hs hw hh hp se wd hd nb wl st sl (some b) (some q) lb sh bw bh ps (by omega) (Or.inr ⟨b, q, rfl, rfl, hbn, by omega⟩) hps) q408 md_X0_atGoal rfl hl.1 rfl (Nat.le_of_ble_eq_true rfl) dX7_goal_56 ⟨Nat.le_of_ble_eq_true rfl, Nat.le_of_ble_eq_true rfl⟩ ⟨Nat.le_of_ble_eq_true rfl, Nat.le_of_ble_eq_true rfl⟩ (fun r_56 w H locs hpost hP hD hS => ?_)
      obtain ⟨rfl, rfl⟩ := hpost
      have hP : va_P D vwCl (xsW cI cJ cB xo vo h h2 ho ro ys yw xr hs hw hh hp (nI se) (nI wd) (nI hd) (nI wl) (nI nb) (nI (topv wd)) (nI (rcv wd hd)) (nI (btv wd hd)) (nI (lcv wd hd)) (nI b) (nI q) st sl (gI lb) (fun zz => nI (sh zz)) (fun zz => nI (bw zz)) (fun zz => nI (bh zz)) (fun zz => nI (ps zz)) HW2_33) H := hP
      have hD : va_D A (xsW cI cJ cB xo vo h h2 ho ro ys yw xr hs hw hh hp (nI se) (nI wd) (nI hd) (nI wl) (nI nb) (nI (topv wd)) (nI (rcv wd hd)) (nI (btv wd hd)) (nI (lcv wd hd)) (nI b) (nI q) st sl (gI lb) (fun zz => nI (sh zz)) (fun zz => nI (bw zz)) (fun zz => nI (bh zz)) (fun zz => nI (ps zz)) HW2_33) := hD
      refine b_if_eq (tgt := 66) hx hb dX7_goal_59 (by decide) (fun c59 => ?_) (fun c59 => ?_)
      · have _ : True := trivial
        refine lv_iconst (v := nI 0) hx hb dX7_goal_66 (by decide) ?_
        refine topi (y := bI (f_sol (some b) (some q) ps)) (by rw [c59]; rfl) ?_
        rw [hQ]
        exact W.iret (v := bI (f_sol (some b) (some q) ps)) hx hb hr (fun t9 ht hW => ⟨⟨_, _, rfl, ⟨(some b), (some q), (hcnt hsz), (hpu hg hsz (tup se wd hd nb wl st sl gl aq lb sh bw bh ps)), HW2_33, (by unfold f_goalr; rw [hm0]), rfl, (by rw [hm0]; exact ⟨rfl, rfl⟩), (by rw [hm0]; exact HIC_yes hkp hkl)⟩, by rw [ht]; exact hP, (adr_app rfl hkl)⟩, hS.F ht⟩) hS.2.2 dX7_goal_67
      · have _ : True := trivial
        refine lv_iconst (v := nI 1) hx hb dX7_goal_62 (by decide) ?_
        refine topi (y := bI (f_sol (some b) (some q) ps)) (by rw [c59]; rfl) ?_
        refine lv_goto (tgt := 67) hx hb dX7_goal_63 (by decide) ?_
        rw [hQ]
        exact W.iret (v := bI (f_sol (some b) (some q) ps)) hx hb hr (fun t9 ht hW => ⟨⟨_, _, rfl, ⟨(some b), (some q), (hcnt hsz), (hpu hg hsz (tup se wd hd nb wl st sl gl aq lb sh bw bh ps)), HW2_33, (by unfold f_goalr; rw [hm0]), rfl, (by rw [hm0]; exact ⟨rfl, rfl⟩), (by rw [hm0]; exact HIC_yes hkp hkl)⟩, by rw [ht]; exact hP, (adr_app rfl hkl)⟩, hS.F ht⟩) hS.2.2 dX7_goal_67
    · have _ : True := trivial
      refine lv_iconst (v := (-1)) hx hb dX7_goal_23 (by decide) ?_
      have hm0 : f_goalm wd hd nb bw bh (nI b) y = none := by unfold f_goalm; rw [hbo]; cases h9 : bOf (wd * hd) y with | none => rfl | some q => rw [h9] at c20; exact if_neg (by rw [show f_ins wd hd (bw b) (bh b) q = false from c20]; simp)
      rw [hQ]
      exact W.iret (v := (-1)) hx hb hr (fun t9 ht hW => ⟨⟨_, _, rfl, ⟨gl, aq, hsz, hg, HW, (by unfold f_goalr; rw [hm0]), rfl, (by rw [hm0]; exact ⟨rfl, rfl⟩), (by rw [hm0]; exact HIC_no hHW)⟩, by rw [ht]; exact hP, rfl⟩, hS.F ht⟩) hS.2.2 dX7_goal_24

set_option maxHeartbeats 400000 in
set_option maxRecDepth 100000 in
theorem c_X7_undo (l : Launch) (D : va_G) (cI cJ cB : ClassId) (xo vo h2 ho ro ys yw : Nat) (xr : Int32) (h hs hw hh hp se wd hd nb wl : Nat) (st sl : Int32) (gl aq lb : Option Nat) (sh bw bh ps : Nat → Nat) (hsz : Nat) (hg : Nat → BT) (HW : va_W) (hHW : HWp cI cJ cB ho hsz hg HW) : Met l yX7_undo (Cond.code yX7_undo cX7_undo 1 (some .int) :: lw_all) (rmN 4) (va_Pc [.ref xo] (pB D (tyz cI cJ cB) (xsW cI cJ cB xo vo h h2 ho ro ys yw xr hs hw hh hp (nI se) (nI wd) (nI hd) (nI wl) (nI nb) (nI (topv wd)) (nI (rcv wd hd)) (nI (btv wd hd)) (nI (lcv wd hd)) (gI gl) (gI aq) st sl (gI lb) (fun zz => nI (sh zz)) (fun zz => nI (bw zz)) (fun zz => nI (bh zz)) (fun zz => nI (ps zz)) HW))) (va_Qi (fun (r : Int32) (w : va_W) => ∃ t2 : BT, ∃ HW2 : va_W, r = (if hsz = 0 then -9 else nI (hsz - 1)) ∧ w = xsW cI cJ cB xo vo h h2 ho ro ys yw xr hs hw hh hp (nI (tse t2)) (nI (twd t2)) (nI (thd t2)) (nI (twl t2)) (nI (tnb t2)) (nI (topv (twd t2))) (nI (rcv (twd t2) (thd t2))) (nI (btv (twd t2) (thd t2))) (nI (lcv (twd t2) (thd t2))) (gI (tgl t2)) (gI (taq t2)) (tst t2) (tsl t2) (gI (tlb t2)) (fun zz => nI ((tsh t2) zz)) (fun zz => nI ((tbw t2) zz)) (fun zz => nI ((tbh t2) zz)) (fun zz => nI ((tps t2) zz)) HW2 ∧ HWp cI cJ cB ho (hsz - 1) hg HW2 ∧ adr HW2 = adr HW ∧ (hsz = 0 → t2 = (tup se wd hd nb wl st sl gl aq lb sh bw bh ps)) ∧ (hsz ≠ 0 → t2 = hg (hsz - 1))) (gB D (xsW cI cJ cB xo vo h h2 ho ro ys yw xr hs hw hh hp (nI se) (nI wd) (nI hd) (nI wl) (nI nb) (nI (topv wd)) (nI (rcv wd hd)) (nI (btv wd hd)) (nI (lcv wd hd)) (gI gl) (gI aq) st sl (gI lb) (fun zz => nI (sh zz)) (fun zz => nI (bw zz)) (fun zz => nI (bh zz)) (fun zz => nI (ps zz)) HW)) (aW (xsW cI cJ cB xo vo h h2 ho ro ys yw xr hs hw hh hp (nI se) (nI wd) (nI hd) (nI wl) (nI nb) (nI (topv wd)) (nI (rcv wd hd)) (nI (btv wd hd)) (nI (lcv wd hd)) (gI gl) (gI aq) st sl (gI lb) (fun zz => nI (sh zz)) (fun zz => nI (bw zz)) (fun zz => nI (bh zz)) (fun zz => nI (ps zz)) HW))) 0 0 (aW (xsW cI cJ cB xo vo h h2 ho ro ys yw xr hs hw hh hp (nI se) (nI wd) (nI hd) (nI wl) (nI nb) (nI (topv wd)) (nI (rcv wd hd)) (nI (btv wd hd)) (nI (lcv wd hd)) (gI gl) (gI aq) st sl (gI lb) (fun zz => nI (sh zz)) (fun zz => nI (bw zz)) (fun zz => nI (bh zz)) (fun zz => nI (ps zz)) HW)) := by
  refine Met.ofW (cc := cX7_undo) (maxL := 1) (ret := (some .int)) (by decide) rfl ?_
  intro p e s m args below meth c s₁ B hml hv
  obtain ⟨rfl, hK, hN, hP, hD0⟩ := hv
  have hx := B.exec; have hb := B.bytes; have hr := B.returns; have hlocks := B.notSynchronized
  have hts0 := atoms_spec (ws := Cond.code yX7_undo cX7_undo 1 (some .int) :: lw_all) B.pre
  have hC : CallFix p m c cX7_undo 1 s _ lw_all RX7 := ⟨hx, hb, hml, findClass_of_methodNamed B.named, fun w h => hts0 w (List.mem_cons_of_mem _ h)⟩
  have hD : va_D (aW (xsW cI cJ cB xo vo h h2 ho ro ys yw xr hs hw hh hp (nI se) (nI wd) (nI hd) (nI wl) (nI nb) (nI (topv wd)) (nI (rcv wd hd)) (nI (btv wd hd)) (nI (lcv wd hd)) (gI gl) (gI aq) st sl (gI lb) (fun zz => nI (sh zz)) (fun zz => nI (bw zz)) (fun zz => nI (bh zz)) (fun zz => nI (ps zz)) HW)) (xsW cI cJ cB xo vo h h2 ho ro ys yw xr hs hw hh hp (nI se) (nI wd) (nI hd) (nI wl) (nI nb) (nI (topv wd)) (nI (rcv wd hd)) (nI (btv wd hd)) (nI (lcv wd hd)) (gI gl) (gI aq) st sl (gI lb) (fun zz => nI (sh zz)) (fun zz => nI (bw zz)) (fun zz => nI (bh zz)) (fun zz => nI (ps zz)) HW) := ⟨hD0.1, fun k q h => ⟨k, q.2, h⟩⟩
  generalize hAe : aW (xsW cI cJ cB xo vo h h2 ho ro ys yw xr hs hw hh hp (nI se) (nI wd) (nI hd) (nI wl) (nI nb) (nI (topv wd)) (nI (rcv wd hd)) (nI (btv wd hd)) (nI (lcv wd hd)) (gI gl) (gI aq) st sl (gI lb) (fun zz => nI (sh zz)) (fun zz => nI (bw zz)) (fun zz => nI (bh zz)) (fun zz => nI (ps zz)) HW) = A at hD ⊢
  have hS : va_S A s.heap s.heap [] := va_S.rf
  have hl := lv_entry ([.ref xo]) (n := 1) (Nat.le_of_ble_eq_true rfl)
  rw [lg_entry_eq]
  generalize (lg_sl ([.ref xo]) ++ List.replicate (1 - (lg_sl ([.ref xo])).length) Slot.unset).toArray = ls at hl ⊢
  have hl : lv_has ls 1 [(0, .ref xo)] := hl
  generalize hav : ([.ref xo] : List Value).toArray = args at hC ⊢
  refine W_gen (fun QQ hQ => ?_)
  show W p l e (rmN 4) s m args below meth c s.heap [] 0 0 QQ (F0 m 0 ls [])
  refine lv_aload_n hx hb dX7_undo_0 rfl (lv_at hl 0 rfl) ?_
  refine gf_X7_29 hC hK hP 0 rfl rfl dX7_undo_1 ?_
  refine lv_aload_n hx hb dX7_undo_4 rfl (lv_at hl 0 rfl) ?_
  refine gf_X7_19 hC hK hP 0 rfl rfl dX7_undo_5 ?_
  obtain ⟨fs9, hrc9⟩ := HWp_rc hHW
  refine callV_i (As := [.ref h]) (rest := []) ([1, 2, 3, 4, 5] ++ tl 6 (List.length HW)) hC hK hN hP hD (tl_pick (n := 6) rfl rfl) (tl_nodup (by decide) (by decide)) hS 6 (ci := 2) rfl (hrc9 _ 6 rfl) rfl (c_X2_restore l D cI cJ cB ho hsz hg HW h hs hw hh hp se wd hd nb wl st sl gl aq lb sh bw bh ps hHW) q532 md_X2_restore rfl hl.1 rfl (Nat.le_of_ble_eq_true rfl) dX7_undo_8 ⟨Nat.le_of_ble_eq_true rfl, Nat.le_of_ble_eq_true rfl⟩ ⟨Nat.le_of_ble_eq_true rfl, Nat.le_of_ble_eq_true rfl⟩ (fun r_8 w H locs hpost hP hD hS => ?_)
  obtain ⟨t2_8, HW2_8, rfl, rfl, h8_hp, h8_hl, h8_u1, h8_u2⟩ := hpost
  have hP : va_P D vwCl (xsW cI cJ cB xo vo h h2 ho ro ys yw xr hs hw hh hp (nI (tse t2_8)) (nI (twd t2_8)) (nI (thd t2_8)) (nI (twl t2_8)) (nI (tnb t2_8)) (nI (topv (twd t2_8))) (nI (rcv (twd t2_8) (thd t2_8))) (nI (btv (twd t2_8) (thd t2_8))) (nI (lcv (twd t2_8) (thd t2_8))) (gI (tgl t2_8)) (gI (taq t2_8)) (tst t2_8) (tsl t2_8) (gI (tlb t2_8)) (fun zz => nI ((tsh t2_8) zz)) (fun zz => nI ((tbw t2_8) zz)) (fun zz => nI ((tbh t2_8) zz)) (fun zz => nI ((tps t2_8) zz)) HW2_8) H := tl_P (n := 6) (js := [1, 2, 3, 4, 5]) hP rfl (by decide) rfl (adr_len h8_hl) rfl
  have hD : va_D A (xsW cI cJ cB xo vo h h2 ho ro ys yw xr hs hw hh hp (nI (tse t2_8)) (nI (twd t2_8)) (nI (thd t2_8)) (nI (twl t2_8)) (nI (tnb t2_8)) (nI (topv (twd t2_8))) (nI (rcv (twd t2_8) (thd t2_8))) (nI (btv (twd t2_8) (thd t2_8))) (nI (lcv (twd t2_8) (thd t2_8))) (gI (tgl t2_8)) (gI (taq t2_8)) (tst t2_8) (tsl t2_8) (gI (tlb t2_8)) (fun zz => nI ((tsh t2_8) zz)) (fun zz => nI ((tbw t2_8) zz)) (fun zz => nI ((tbh t2_8) zz)) (fun zz => nI ((tps t2_8) zz)) HW2_8) := tl_D (n := 6) (js := [1, 2, 3, 4, 5]) hD rfl (by decide) rfl (adr_len h8_hl) rfl
  rw [hQ]
  exact W.iret (v := (if hsz = 0 then -9 else nI (hsz - 1))) hx hb hr (fun t9 ht hW => ⟨⟨_, _, rfl, ⟨t2_8, HW2_8, rfl, rfl, h8_hp, h8_hl, h8_u1, h8_u2⟩, by rw [ht]; exact hP, (adr_app rfl h8_hl)⟩, hS.F ht⟩) hS.2.2 dX7_undo_11
