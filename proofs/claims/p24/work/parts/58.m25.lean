abbrev dW (cI cJ cB : ClassId) (zo : Nat) (zs : Nat) (zsl : Int32) (zf : Nat) (zgb : Int32) (zgp : Int32) (zfo : Int32) (zsu : Int32) (zgr : Int32) (zq : Nat) (zm : Nat) (zl : Nat) (zF : Nat → Int32) (zQ : Nat → Int32) (zM : Nat → Int32) (zL : Nat → Int32) : va_W := [(zo, .inr (1, [.int zsl, .ref zs, .ref zf, .int zgb, .int zgp, .int zfo, .int zsu, .int zgr])), (zf, .inl (cI, 2000, .inl zF)), (zs, .inr (4, [.ref zq, .ref zm, .ref zl])), (zq, .inl (cI, 2000, .inl zQ)), (zm, .inl (cI, 2000, .inl zM)), (zl, .inl (cI, 24, .inl zL))]
abbrev dkW (cI cJ cB : ClassId) (zo : Nat) (zs : Nat) (zsl : Int32) (zf : Nat) (zgb : Int32) (zgp : Int32) (zfo : Int32) (zsu : Int32) (zgr : Int32) (zq : Nat) (zm : Nat) (zl : Nat) (zF : Nat → Int32) (zQ : Nat → Int32) (zM : Nat → Int32) (zL : Nat → Int32) (ys : Nat) (yk : Nat) (yp : Nat) (yt : Nat) (y1 : Nat) (y2 : Nat) (ysz : Int32) (ytm : Int32) (yse : Int32) (yrm : Int32) (yK : Nat → Int64) (yP : Nat → Int32) (yT : Nat → Int32) : va_W := [(zo, .inr (1, [.int zsl, .ref zs, .ref zf, .int zgb, .int zgp, .int zfo, .int zsu, .int zgr])), (zf, .inl (cI, 2000, .inl zF)), (zs, .inr (4, [.ref zq, .ref zm, .ref zl])), (zq, .inl (cI, 2000, .inl zQ)), (zm, .inl (cI, 2000, .inl zM)), (zl, .inl (cI, 24, .inl zL)), (ys, .inr (5, [.ref yk, .ref yp, .ref yt, .ref y1, .ref y2, .int ysz, .int ytm, .int yse, .int yrm])), (yk, .inl (cJ, 2000, .inr (.inl yK))), (yp, .inl (cI, 2000, .inl yP)), (yt, .inl (cI, 4096, .inl yT))]
abbrev dkbW (cI cJ cB : ClassId) (zo : Nat) (zs : Nat) (zsl : Int32) (zf : Nat) (zgb : Int32) (zgp : Int32) (zfo : Int32) (zsu : Int32) (zgr : Int32) (zq : Nat) (zm : Nat) (zl : Nat) (zF : Nat → Int32) (zQ : Nat → Int32) (zM : Nat → Int32) (zL : Nat → Int32) (ys : Nat) (yk : Nat) (yp : Nat) (yt : Nat) (y1 : Nat) (y2 : Nat) (ysz : Int32) (ytm : Int32) (yse : Int32) (yrm : Int32) (yK : Nat → Int64) (yP : Nat → Int32) (yT : Nat → Int32) (h : Nat) (hs : Nat) (hw : Nat) (hh : Nat) (hp : Nat) (bse : Int32) (bwi : Int32) (bhe : Int32) (bwa : Int32) (bco : Int32) (btr : Int32) (brc : Int32) (bbr : Int32) (blc : Int32) (bgb : Int32) (bgp : Int32) (bst : Int32) (bsl : Int32) (bla : Int32) (bsh : Nat → Int32) (bwd : Nat → Int32) (bhg : Nat → Int32) (bsp : Nat → Int32) : va_W := [(zo, .inr (1, [.int zsl, .ref zs, .ref zf, .int zgb, .int zgp, .int zfo, .int zsu, .int zgr])), (zf, .inl (cI, 2000, .inl zF)), (zs, .inr (4, [.ref zq, .ref zm, .ref zl])), (zq, .inl (cI, 2000, .inl zQ)), (zm, .inl (cI, 2000, .inl zM)), (zl, .inl (cI, 24, .inl zL)), (ys, .inr (5, [.ref yk, .ref yp, .ref yt, .ref y1, .ref y2, .int ysz, .int ytm, .int yse, .int yrm])), (yk, .inl (cJ, 2000, .inr (.inl yK))), (yp, .inl (cI, 2000, .inl yP)), (yt, .inl (cI, 4096, .inl yT)), (h, .inr (0, [.int bse, .int bwi, .int bhe, .int bwa, .int bco, .int btr, .int brc, .int bbr, .int blc, .ref hs, .ref hw, .ref hh, .ref hp, .int bgb, .int bgp, .int bst, .int bsl, .int bla])), (hs, .inl (cI, 7, .inl bsh)), (hw, .inl (cI, 7, .inl bwd)), (hh, .inl (cI, 7, .inl bhg)), (hp, .inl (cI, 7, .inl bsp))]
set_option maxHeartbeats 400000 in
set_option maxRecDepth 100000 in
theorem c_X5_canMove (l : Launch) (D : va_G) (cI cJ cB : ClassId) (ys yk yp yt y1 y2 sz : Nat) (tm : Bool) (sse srm : Option Nat) (K P T : Nat → Nat) (u b wd hd nb wl ku : Nat) (sh bw bh : Nat → Nat) (hu : u < 2000) (hb7 : b < 7) (hn7 : nb ≤ 7) (hbn : b < nb) (hp : P u = pos wd hd nb wl sh bw bh srm ku nb) : Met l yX5_canMove (Cond.code yX5_canMove cX5_canMove 3 (some .boolean) :: lw_all) (rmN 1) (va_Pc [.ref ys, .int (nI u), .int (nI b)] (pB D (tyz cI cJ cB) (kW cI cJ cB ys yk yp yt y1 y2 (nI sz) (bI tm) (gI sse) (gI srm) (fun zz => lN (K zz)) (fun zz => nI (P zz)) (fun zz => nI (T zz))))) (va_Qi (fun (r : Int32) (w : va_W) => ∃ z : Bool, r = bI z ∧ w = kW cI cJ cB ys yk yp yt y1 y2 (nI sz) (bI tm) (gI sse) (gI srm) (fun zz => lN (K zz)) (fun zz => nI (P zz)) (fun zz => nI (T zz)) ∧ (z = false → srm ≠ some b → ∀ d, d < 4 → mvb wd hd nb wl sh bw bh srm ku b d = none) ∧ (z = true → srm ≠ some b)) (gB D (kW cI cJ cB ys yk yp yt y1 y2 (nI sz) (bI tm) (gI sse) (gI srm) (fun zz => lN (K zz)) (fun zz => nI (P zz)) (fun zz => nI (T zz)))) (aW (kW cI cJ cB ys yk yp yt y1 y2 (nI sz) (bI tm) (gI sse) (gI srm) (fun zz => lN (K zz)) (fun zz => nI (P zz)) (fun zz => nI (T zz))))) 0 0 (aW (kW cI cJ cB ys yk yp yt y1 y2 (nI sz) (bI tm) (gI sse) (gI srm) (fun zz => lN (K zz)) (fun zz => nI (P zz)) (fun zz => nI (T zz)))) := by
  refine Met.ofW (cc := cX5_canMove) (maxL := 3) (ret := (some .boolean)) (by decide) rfl ?_
  intro p e s m args below meth c s₁ B hml hv
  obtain ⟨rfl, hK, hN, hP, hD0⟩ := hv
  have hx := B.exec; have hb := B.bytes; have hr := B.returns; have hlocks := B.notSynchronized
  have hts0 := atoms_spec (ws := Cond.code yX5_canMove cX5_canMove 3 (some .boolean) :: lw_all) B.pre
  have hC : CallFix p m c cX5_canMove 3 s _ lw_all RX5 := ⟨hx, hb, hml, findClass_of_methodNamed B.named, fun w h => hts0 w (List.mem_cons_of_mem _ h)⟩
  have hD : va_D (aW (kW cI cJ cB ys yk yp yt y1 y2 (nI sz) (bI tm) (gI sse) (gI srm) (fun zz => lN (K zz)) (fun zz => nI (P zz)) (fun zz => nI (T zz)))) (kW cI cJ cB ys yk yp yt y1 y2 (nI sz) (bI tm) (gI sse) (gI srm) (fun zz => lN (K zz)) (fun zz => nI (P zz)) (fun zz => nI (T zz))) := ⟨hD0.1, fun k q h => ⟨k, q.2, h⟩⟩
  generalize hAe : aW (kW cI cJ cB ys yk yp yt y1 y2 (nI sz) (bI tm) (gI sse) (gI srm) (fun zz => lN (K zz)) (fun zz => nI (P zz)) (fun zz => nI (T zz))) = A at hD ⊢
  have hS : va_S A s.heap s.heap [] := va_S.rf
  have hl := lv_entry ([.ref ys, .int (nI u), .int (nI b)]) (n := 3) (Nat.le_of_ble_eq_true rfl)
  rw [lg_entry_eq]
  generalize (lg_sl ([.ref ys, .int (nI u), .int (nI b)]) ++ List.replicate (3 - (lg_sl ([.ref ys, .int (nI u), .int (nI b)])).length) Slot.unset).toArray = ls at hl ⊢
  have hl : lv_has ls 3 [(0, .ref ys), (1, .int (nI u)), (2, .int (nI b))] := hl
  generalize hav : ([.ref ys, .int (nI u), .int (nI b)] : List Value).toArray = args at hC ⊢
  refine W_gen (fun QQ hQ => ?_)
  show W p l e (rmN 1) s m args below meth c s.heap [] 0 0 QQ (F0 m 0 ls [])
  have hp28 : pos wd hd nb wl sh bw bh srm ku nb < 2 ^ 28 := pos_lt28 hn7
  refine lv_aload_n hx hb dX5_canMove_0 rfl (lv_at hl 0 rfl) ?_
  refine gf_X5_15 hC hK hP 0 rfl rfl dX5_canMove_1 ?_
  refine lv_iload_n hx hb dX5_canMove_4 rfl (lv_at hl 1 rfl) ?_
  refine callN_i (As := [.ref yp, .int (nI u)]) (rest := []) [2] hC hK hN hP hD rfl (by decide) hS (c_X7_at_N l D cI cJ cB yp 2000 u P (by omega) (by omega)) q506 md_X7_at rfl hl.1 rfl (Nat.le_of_ble_eq_true rfl) dX5_canMove_5 ⟨Nat.le_of_ble_eq_true rfl, Nat.le_of_ble_eq_true rfl⟩ ⟨Nat.le_of_ble_eq_true rfl, Nat.le_of_ble_eq_true rfl⟩ (fun r_5 w H locs hpost hP hD hS => ?_)
  obtain ⟨rfl, rfl⟩ := hpost
  have hP : va_P D vwCl (kW cI cJ cB ys yk yp yt y1 y2 (nI sz) (bI tm) (gI sse) (gI srm) (fun zz => lN (K zz)) (fun zz => nI (P zz)) (fun zz => nI (T zz))) H := hP
  have hD : va_D A (kW cI cJ cB ys yk yp yt y1 y2 (nI sz) (bI tm) (gI sse) (gI srm) (fun zz => lN (K zz)) (fun zz => nI (P zz)) (fun zz => nI (T zz))) := hD
  refine topi (y := nI (pos wd hd nb wl sh bw bh srm ku nb)) (by rw [hp]) ?_
  refine lv_iconst (v := nI 4) hx hb dX5_canMove_8 (by decide) ?_
  refine lv_iload_n hx hb dX5_canMove_9 rfl (lv_at hl 2 rfl) ?_
  refine n_imul hx hb dX5_canMove_10  ?_
  refine n_ishr hx hb dX5_canMove_11 (by omega) (by omega) ?_
  refine lv_bipush (v := nI 15) hx hb dX5_canMove_12 (by decide) ?_
  refine n_iand hx hb dX5_canMove_14  ?_
  refine n_if_eq (tgt := 22) hx hb dX5_canMove_15 (by decide) (Nat.lt_of_le_of_lt Nat.and_le_right (by decide)) (fun c15 => ?_) (fun c15 => ?_)
  · have _ : True := trivial
    refine lv_iconst (v := nI 0) hx hb dX5_canMove_22 (by decide) ?_
    rw [hQ]
    exact W.zret (v := nI 0) hx hb hr rfl (fun t9 ht hW => ⟨⟨_, _, rfl, ⟨false, rfl, rfl, (fun _ hr => pos_0 c15 hbn hr), (fun h => by cases h)⟩, by rw [ht]; exact hP, rfl⟩, hS.F ht⟩) hS.2.2 dX5_canMove_23
  · have _ : True := trivial
    refine lv_iconst (v := nI 1) hx hb dX5_canMove_18 (by decide) ?_
    refine lv_goto (tgt := 23) hx hb dX5_canMove_19 (by decide) ?_
    rw [hQ]
    exact W.zret (v := nI 1) hx hb hr rfl (fun t9 ht hW => ⟨⟨_, _, rfl, ⟨true, rfl, rfl, (fun h => by cases h), (fun _ => pos_1 c15)⟩, by rw [ht]; exact hP, rfl⟩, hS.F ht⟩) hS.2.2 dX5_canMove_23

set_option maxHeartbeats 400000 in
set_option maxRecDepth 100000 in
theorem c_X5_after (l : Launch) (D : va_G) (cI cJ cB : ClassId) (ys yk yp yt y1 y2 sz : Nat) (tm : Bool) (sse srm : Option Nat) (K P T : Nat → Nat) (h hs hw hh hp se wd hd nb wl : Nat) (st sl : Int32) (gl aq lb : Option Nat) (sh bw bh ps : Nat → Nat) (u b dd k0 : Nat) (hf : FrV wd hd nb wl sh bw bh) (hsp : SPC wd hd nb wl sh bw bh srm k0 K sz P T tm) (htm : tm = false) (hu : u < sz) (hbn : b < nb) (hrb : srm ≠ some b) (hd4 : dd < 4) : Met l yX5_after (Cond.code yX5_after cX5_after 7 (some .int) :: lw_all) (rmN 2) (va_Pc [.ref ys, .ref h, .int (nI u), .int (nI b), .int (nI dd)] (pB D (tyz cI cJ cB) (kbW cI cJ cB ys yk yp yt y1 y2 (nI sz) (bI tm) (gI sse) (gI srm) (fun zz => lN (K zz)) (fun zz => nI (P zz)) (fun zz => nI (T zz)) h hs hw hh hp (nI se) (nI wd) (nI hd) (nI wl) (nI nb) (nI (topv wd)) (nI (rcv wd hd)) (nI (btv wd hd)) (nI (lcv wd hd)) (gI gl) (gI aq) st sl (gI lb) (fun zz => nI (sh zz)) (fun zz => nI (bw zz)) (fun zz => nI (bh zz)) (fun zz => nI (ps zz))))) (va_Qi (fun (r : Int32) (w : va_W) => ∃ r9 : Option Nat, r = oI r9 ∧ w = kbW cI cJ cB ys yk yp yt y1 y2 (nI sz) (bI tm) (gI sse) (gI srm) (fun zz => lN (K zz)) (fun zz => nI (P zz)) (fun zz => nI (T zz)) h hs hw hh hp (nI se) (nI wd) (nI hd) (nI wl) (nI nb) (nI (topv wd)) (nI (rcv wd hd)) (nI (btv wd hd)) (nI (lcv wd hd)) (gI gl) (gI aq) st sl (gI lb) (fun zz => nI (sh zz)) (fun zz => nI (bw zz)) (fun zz => nI (bh zz)) (fun zz => nI (ps zz)) ∧ ((mvb wd hd nb wl sh bw bh srm (K u) b dd) = none → r9 = none) ∧ (∀ q, (mvb wd hd nb wl sh bw bh srm (K u) b dd) = some q → ∃ i, r9 = some i ∧ i < sz ∧ K i = wth (K u) b q) ∧ (∀ d, r9 = some d → d < 2000)) (gB D (kbW cI cJ cB ys yk yp yt y1 y2 (nI sz) (bI tm) (gI sse) (gI srm) (fun zz => lN (K zz)) (fun zz => nI (P zz)) (fun zz => nI (T zz)) h hs hw hh hp (nI se) (nI wd) (nI hd) (nI wl) (nI nb) (nI (topv wd)) (nI (rcv wd hd)) (nI (btv wd hd)) (nI (lcv wd hd)) (gI gl) (gI aq) st sl (gI lb) (fun zz => nI (sh zz)) (fun zz => nI (bw zz)) (fun zz => nI (bh zz)) (fun zz => nI (ps zz)))) (aW (kbW cI cJ cB ys yk yp yt y1 y2 (nI sz) (bI tm) (gI sse) (gI srm) (fun zz => lN (K zz)) (fun zz => nI (P zz)) (fun zz => nI (T zz)) h hs hw hh hp (nI se) (nI wd) (nI hd) (nI wl) (nI nb) (nI (topv wd)) (nI (rcv wd hd)) (nI (btv wd hd)) (nI (lcv wd hd)) (gI gl) (gI aq) st sl (gI lb) (fun zz => nI (sh zz)) (fun zz => nI (bw zz)) (fun zz => nI (bh zz)) (fun zz => nI (ps zz))))) 0 0 (aW (kbW cI cJ cB ys yk yp yt y1 y2 (nI sz) (bI tm) (gI sse) (gI srm) (fun zz => lN (K zz)) (fun zz => nI (P zz)) (fun zz => nI (T zz)) h hs hw hh hp (nI se) (nI wd) (nI hd) (nI wl) (nI nb) (nI (topv wd)) (nI (rcv wd hd)) (nI (btv wd hd)) (nI (lcv wd hd)) (gI gl) (gI aq) st sl (gI lb) (fun zz => nI (sh zz)) (fun zz => nI (bw zz)) (fun zz => nI (bh zz)) (fun zz => nI (ps zz)))) := by
  refine Met.ofW (cc := cX5_after) (maxL := 7) (ret := (some .int)) (by decide) rfl ?_
  intro p e s m args below meth c s₁ B hml hv
  obtain ⟨rfl, hK, hN, hP, hD0⟩ := hv
  have hx := B.exec; have hb := B.bytes; have hr := B.returns; have hlocks := B.notSynchronized
  have hts0 := atoms_spec (ws := Cond.code yX5_after cX5_after 7 (some .int) :: lw_all) B.pre
  have hC : CallFix p m c cX5_after 7 s _ lw_all RX5 := ⟨hx, hb, hml, findClass_of_methodNamed B.named, fun w h => hts0 w (List.mem_cons_of_mem _ h)⟩
  have hD : va_D (aW (kbW cI cJ cB ys yk yp yt y1 y2 (nI sz) (bI tm) (gI sse) (gI srm) (fun zz => lN (K zz)) (fun zz => nI (P zz)) (fun zz => nI (T zz)) h hs hw hh hp (nI se) (nI wd) (nI hd) (nI wl) (nI nb) (nI (topv wd)) (nI (rcv wd hd)) (nI (btv wd hd)) (nI (lcv wd hd)) (gI gl) (gI aq) st sl (gI lb) (fun zz => nI (sh zz)) (fun zz => nI (bw zz)) (fun zz => nI (bh zz)) (fun zz => nI (ps zz)))) (kbW cI cJ cB ys yk yp yt y1 y2 (nI sz) (bI tm) (gI sse) (gI srm) (fun zz => lN (K zz)) (fun zz => nI (P zz)) (fun zz => nI (T zz)) h hs hw hh hp (nI se) (nI wd) (nI hd) (nI wl) (nI nb) (nI (topv wd)) (nI (rcv wd hd)) (nI (btv wd hd)) (nI (lcv wd hd)) (gI gl) (gI aq) st sl (gI lb) (fun zz => nI (sh zz)) (fun zz => nI (bw zz)) (fun zz => nI (bh zz)) (fun zz => nI (ps zz))) := ⟨hD0.1, fun k q h => ⟨k, q.2, h⟩⟩
  generalize hAe : aW (kbW cI cJ cB ys yk yp yt y1 y2 (nI sz) (bI tm) (gI sse) (gI srm) (fun zz => lN (K zz)) (fun zz => nI (P zz)) (fun zz => nI (T zz)) h hs hw hh hp (nI se) (nI wd) (nI hd) (nI wl) (nI nb) (nI (topv wd)) (nI (rcv wd hd)) (nI (btv wd hd)) (nI (lcv wd hd)) (gI gl) (gI aq) st sl (gI lb) (fun zz => nI (sh zz)) (fun zz => nI (bw zz)) (fun zz => nI (bh zz)) (fun zz => nI (ps zz))) = A at hD ⊢
  have hS : va_S A s.heap s.heap [] := va_S.rf
  have hl := lv_entry ([.ref ys, .ref h, .int (nI u), .int (nI b), .int (nI dd)]) (n := 7) (Nat.le_of_ble_eq_true rfl)
  rw [lg_entry_eq]
  generalize (lg_sl ([.ref ys, .ref h, .int (nI u), .int (nI b), .int (nI dd)]) ++ List.replicate (7 - (lg_sl ([.ref ys, .ref h, .int (nI u), .int (nI b), .int (nI dd)])).length) Slot.unset).toArray = ls at hl ⊢
  have hl : lv_has ls 7 [(0, .ref ys), (1, .ref h), (2, .int (nI u)), (3, .int (nI b)), (4, .int (nI dd))] := hl
  generalize hav : ([.ref ys, .ref h, .int (nI u), .int (nI b), .int (nI dd)] : List Value).toArray = args at hC ⊢
  refine W_gen (fun QQ hQ => ?_)
  show W p l e (rmN 2) s m args below meth c s.heap [] 0 0 QQ (F0 m 0 ls [])
  obtain ⟨s1, s2, s3, s4, -, s6⟩ := _root_.id hsp
  obtain ⟨s7, s8, s9⟩ := s6 htm
  have hp28 : pos wd hd nb wl sh bw bh srm (K u) nb < 2 ^ 28 := pos_lt28 hf.2.2.2.2.2.1
  have hn7 := hf.2.2.2.2.2.1
  have hku := (s4 u hu).2
  refine lv_aload_n hx hb dX5_after_0 rfl (lv_at hl 0 rfl) ?_
  refine gf_X5_15 hC hK hP 0 rfl rfl dX5_after_1 ?_
  refine lv_iload_n hx hb dX5_after_4 rfl (lv_at hl 2 rfl) ?_
  refine callN_i (As := [.ref yp, .int (nI u)]) (rest := []) [2] hC hK hN hP hD rfl (by decide) hS (c_X7_at_N l D cI cJ cB yp 2000 u P (by omega) (by omega)) q506 md_X7_at rfl hl.1 rfl (Nat.le_of_ble_eq_true rfl) dX5_after_5 ⟨Nat.le_of_ble_eq_true rfl, Nat.le_of_ble_eq_true rfl⟩ ⟨Nat.le_of_ble_eq_true rfl, Nat.le_of_ble_eq_true rfl⟩ (fun r_5 w H locs hpost hP hD hS => ?_)
  obtain ⟨rfl, rfl⟩ := hpost
  have hP : va_P D vwCl (kbW cI cJ cB ys yk yp yt y1 y2 (nI sz) (bI tm) (gI sse) (gI srm) (fun zz => lN (K zz)) (fun zz => nI (P zz)) (fun zz => nI (T zz)) h hs hw hh hp (nI se) (nI wd) (nI hd) (nI wl) (nI nb) (nI (topv wd)) (nI (rcv wd hd)) (nI (btv wd hd)) (nI (lcv wd hd)) (gI gl) (gI aq) st sl (gI lb) (fun zz => nI (sh zz)) (fun zz => nI (bw zz)) (fun zz => nI (bh zz)) (fun zz => nI (ps zz))) H := hP
  have hD : va_D A (kbW cI cJ cB ys yk yp yt y1 y2 (nI sz) (bI tm) (gI sse) (gI srm) (fun zz => lN (K zz)) (fun zz => nI (P zz)) (fun zz => nI (T zz)) h hs hw hh hp (nI se) (nI wd) (nI hd) (nI wl) (nI nb) (nI (topv wd)) (nI (rcv wd hd)) (nI (btv wd hd)) (nI (lcv wd hd)) (gI gl) (gI aq) st sl (gI lb) (fun zz => nI (sh zz)) (fun zz => nI (bw zz)) (fun zz => nI (bh zz)) (fun zz => nI (ps zz))) := hD
  refine topi (y := nI (pos wd hd nb wl sh bw bh srm (K u) nb)) (by rw [s9 u hu]) ?_
  refine lv_iconst (v := nI 4) hx hb dX5_after_8 (by decide) ?_
  refine lv_iload_n hx hb dX5_after_9 rfl (lv_at hl 3 rfl) ?_
  refine n_imul hx hb dX5_after_10  ?_
  refine lv_iload hx hb dX5_after_11 (lv_at hl 4 rfl) ?_
  refine n_iadd hx hb dX5_after_13  ?_
  refine n_ishr hx hb dX5_after_14 (by omega) (by omega) ?_
  refine lv_iconst (v := nI 1) hx hb dX5_after_15 (by decide) ?_
  refine n_iand hx hb dX5_after_16  ?_
  refine n_if_ne (tgt := 22) hx hb dX5_after_17 (by decide) (by have := bit_and1 (x := pos wd hd nb wl sh bw bh srm (K u) nb) (i := 4 * b + dd); omega) (fun c17 => ?_) (fun c17 => ?_)
  · have _ : True := trivial
    have hpb := (pos_bit hd4).mp (bit_1.mp (show (pos wd hd nb wl sh bw bh srm (K u) nb >>> (4 * b + dd)) &&& 1 = 1 by have := bit_and1 (x := pos wd hd nb wl sh bw bh srm (K u) nb) (i := 4 * b + dd); omega))
    obtain ⟨q9, hq9⟩ := Option.isSome_iff_exists.mp hpb.2.2
    have hst9 := (mvt_inv hq9).1
    have hst := (KV_step hf hku hbn hrb hq9).2.2
    refine lv_aload_n hx hb dX5_after_22 rfl (lv_at hl 0 rfl) ?_
    refine gf_X5_9 hC hK hP 0 rfl rfl dX5_after_23 ?_
    refine lv_iload_n hx hb dX5_after_26 rfl (lv_at hl 2 rfl) ?_
    refine callN_l (As := [.ref yk, .int (nI u)]) (rest := []) [1] hC hK hN hP hD rfl (by decide) hS (c_X7_at_L l D cI cJ cB yk 2000 u K (by omega) (by omega)) q515 md_X7_at_ rfl hl.1 rfl (Nat.le_of_ble_eq_true rfl) dX5_after_27 ⟨Nat.le_of_ble_eq_true rfl, Nat.le_of_ble_eq_true rfl⟩ ⟨Nat.le_of_ble_eq_true rfl, Nat.le_of_ble_eq_true rfl⟩ (fun r_27 w H locs hpost hP hD hS => ?_)
    obtain ⟨rfl, rfl⟩ := hpost
    have hP : va_P D vwCl (kbW cI cJ cB ys yk yp yt y1 y2 (nI sz) (bI tm) (gI sse) (gI srm) (fun zz => lN (K zz)) (fun zz => nI (P zz)) (fun zz => nI (T zz)) h hs hw hh hp (nI se) (nI wd) (nI hd) (nI wl) (nI nb) (nI (topv wd)) (nI (rcv wd hd)) (nI (btv wd hd)) (nI (lcv wd hd)) (gI gl) (gI aq) st sl (gI lb) (fun zz => nI (sh zz)) (fun zz => nI (bw zz)) (fun zz => nI (bh zz)) (fun zz => nI (ps zz))) H := hP
    have hD : va_D A (kbW cI cJ cB ys yk yp yt y1 y2 (nI sz) (bI tm) (gI sse) (gI srm) (fun zz => lN (K zz)) (fun zz => nI (P zz)) (fun zz => nI (T zz)) h hs hw hh hp (nI se) (nI wd) (nI hd) (nI wl) (nI nb) (nI (topv wd)) (nI (rcv wd hd)) (nI (btv wd hd)) (nI (lcv wd hd)) (gI gl) (gI aq) st sl (gI lb) (fun zz => nI (sh zz)) (fun zz => nI (bw zz)) (fun zz => nI (bh zz)) (fun zz => nI (ps zz))) := hD
    refine lv_aload_n hx hb dX5_after_30 rfl (lv_at hl 1 rfl) ?_
    refine lv_iload hx hb dX5_after_31 (lv_at hl 4 rfl) ?_
    refine callV_i (As := [.int (nI dd)]) (rest := [.long (lN (K u))]) [4, 5, 6, 7, 8] hC hK hN hP hD rfl (by decide) hS 4 (ci := 0) rfl rfl rfl (c_X0_offset l D cI cJ cB h hs hw hh hp se wd hd nb wl st sl gl aq lb sh bw bh ps dd (by omega)) q526 md_X0_offset rfl hl.1 rfl (Nat.le_of_ble_eq_true rfl) dX5_after_33 ⟨Nat.le_of_ble_eq_true rfl, Nat.le_of_ble_eq_true rfl⟩ ⟨Nat.le_of_ble_eq_true rfl, Nat.le_of_ble_eq_true rfl⟩ (fun r_33 w H locs hpost hP hD hS => ?_)
    obtain ⟨rfl, rfl⟩ := hpost
    have hP : va_P D vwCl (kbW cI cJ cB ys yk yp yt y1 y2 (nI sz) (bI tm) (gI sse) (gI srm) (fun zz => lN (K zz)) (fun zz => nI (P zz)) (fun zz => nI (T zz)) h hs hw hh hp (nI se) (nI wd) (nI hd) (nI wl) (nI nb) (nI (topv wd)) (nI (rcv wd hd)) (nI (btv wd hd)) (nI (lcv wd hd)) (gI gl) (gI aq) st sl (gI lb) (fun zz => nI (sh zz)) (fun zz => nI (bw zz)) (fun zz => nI (bh zz)) (fun zz => nI (ps zz))) H := hP
    have hD : va_D A (kbW cI cJ cB ys yk yp yt y1 y2 (nI sz) (bI tm) (gI sse) (gI srm) (fun zz => lN (K zz)) (fun zz => nI (P zz)) (fun zz => nI (T zz)) h hs hw hh hp (nI se) (nI wd) (nI hd) (nI wl) (nI nb) (nI (topv wd)) (nI (rcv wd hd)) (nI (btv wd hd)) (nI (lcv wd hd)) (gI gl) (gI aq) st sl (gI lb) (fun zz => nI (sh zz)) (fun zz => nI (bw zz)) (fun zz => nI (bh zz)) (fun zz => nI (ps zz))) := hD
    refine lv_i2l hx hb dX5_after_36 rfl ?_
    refine lv_iload_n hx hb dX5_after_37 rfl (lv_at hl 3 rfl) ?_
    refine callN_i (As := [.int (nI b)]) (rest := [.long ((offs wd dd).toInt64), .long (lN (K u))]) [] hC hK hN hP hD rfl (by decide) hS (c_X7_keyShift l D cI cJ cB b (by omega)) q527 md_X7_keyShift rfl hl.1 rfl (Nat.le_of_ble_eq_true rfl) dX5_after_38 ⟨Nat.le_of_ble_eq_true rfl, Nat.le_of_ble_eq_true rfl⟩ ⟨Nat.le_of_ble_eq_true rfl, Nat.le_of_ble_eq_true rfl⟩ (fun r_38 w H locs hpost hP hD hS => ?_)
    obtain ⟨rfl, rfl⟩ := hpost
    have hP : va_P D vwCl (kbW cI cJ cB ys yk yp yt y1 y2 (nI sz) (bI tm) (gI sse) (gI srm) (fun zz => lN (K zz)) (fun zz => nI (P zz)) (fun zz => nI (T zz)) h hs hw hh hp (nI se) (nI wd) (nI hd) (nI wl) (nI nb) (nI (topv wd)) (nI (rcv wd hd)) (nI (btv wd hd)) (nI (lcv wd hd)) (gI gl) (gI aq) st sl (gI lb) (fun zz => nI (sh zz)) (fun zz => nI (bw zz)) (fun zz => nI (bh zz)) (fun zz => nI (ps zz))) H := hP
    have hD : va_D A (kbW cI cJ cB ys yk yp yt y1 y2 (nI sz) (bI tm) (gI sse) (gI srm) (fun zz => lN (K zz)) (fun zz => nI (P zz)) (fun zz => nI (T zz)) h hs hw hh hp (nI se) (nI wd) (nI hd) (nI wl) (nI nb) (nI (topv wd)) (nI (rcv wd hd)) (nI (btv wd hd)) (nI (lcv wd hd)) (gI gl) (gI aq) st sl (gI lb) (fun zz => nI (sh zz)) (fun zz => nI (bw zz)) (fun zz => nI (bh zz)) (fun zz => nI (ps zz))) := hD
    refine lv_lshl hx hb dX5_after_41 rfl ?_
    refine lv_ladd hx hb dX5_after_42 ?_
    refine topl (y := lN (wth (K u) b q9)) (offs_key hf.1 hf.2.1 (by omega) hst9) ?_
    refine lv_lstore (lv' := [(5, .long (lN (wth (K u) b q9))), (0, .ref ys), (1, .ref h), (2, .int (nI u)), (3, .int (nI b)), (4, .int (nI dd))]) hx hb dX5_after_43 hl (by decide) rfl (fun ls hl => ?_)
    refine lv_aload_n hx hb dX5_after_45 rfl (lv_at hl 1 rfl) ?_
    refine gf_X5_19 hC hK hP 0 rfl rfl dX5_after_46 ?_
    refine lv_aload_n hx hb dX5_after_49 rfl (lv_at hl 1 rfl) ?_
    refine lv_lload hx hb dX5_after_50 (lv_at hl 0 rfl) ?_
    refine callV_i (As := [.long (lN (wth (K u) b q9))]) (rest := [.ref yt]) [0, 1, 2, 3] hC hK hN hP hD rfl (by decide) hS 0 (ci := 5) rfl rfl rfl (c_X5_slotOf l D cI cJ cB ys yk yp yt y1 y2 sz tm sse srm K P T (wth (K u) b q9) hst.1 s1 (by omega) (fun i hi => (s4 i hi).2.1)) q501 md_X5_slotOf rfl hl.1 rfl (Nat.le_of_ble_eq_true rfl) dX5_after_52 ⟨Nat.le_of_ble_eq_true rfl, Nat.le_of_ble_eq_true rfl⟩ ⟨Nat.le_of_ble_eq_true rfl, Nat.le_of_ble_eq_true rfl⟩ (fun r_52 w H locs hpost hP hD hS => ?_)
    obtain ⟨t_52, rfl, rfl, h2t, h2w, h2f⟩ := hpost
    have hP : va_P D vwCl (kbW cI cJ cB ys yk yp yt y1 y2 (nI sz) (bI tm) (gI sse) (gI srm) (fun zz => lN (K zz)) (fun zz => nI (P zz)) (fun zz => nI (T zz)) h hs hw hh hp (nI se) (nI wd) (nI hd) (nI wl) (nI nb) (nI (topv wd)) (nI (rcv wd hd)) (nI (btv wd hd)) (nI (lcv wd hd)) (gI gl) (gI aq) st sl (gI lb) (fun zz => nI (sh zz)) (fun zz => nI (bw zz)) (fun zz => nI (bh zz)) (fun zz => nI (ps zz))) H := hP
    have hD : va_D A (kbW cI cJ cB ys yk yp yt y1 y2 (nI sz) (bI tm) (gI sse) (gI srm) (fun zz => lN (K zz)) (fun zz => nI (P zz)) (fun zz => nI (T zz)) h hs hw hh hp (nI se) (nI wd) (nI hd) (nI wl) (nI nb) (nI (topv wd)) (nI (rcv wd hd)) (nI (btv wd hd)) (nI (lcv wd hd)) (gI gl) (gI aq) st sl (gI lb) (fun zz => nI (sh zz)) (fun zz => nI (bw zz)) (fun zz => nI (bh zz)) (fun zz => nI (ps zz))) := hD
    obtain ⟨e1, e2, e3⟩ := TC_has s1 h2w h2f (s8 u hu _ ⟨b, hbn, hrb, dd, hd4, q9, hq9, rfl⟩)
    refine callN_i (As := [.ref yt, .int (nI ((hkC (wth (K u) b q9) + t_52) % 4096))]) (rest := []) [3] hC hK hN hP hD rfl (by decide) hS (c_X7_at_N l D cI cJ cB yt 4096 ((hkC (wth (K u) b q9) + t_52) % 4096) T (Nat.mod_lt _ (by decide)) (by omega)) q506 md_X7_at rfl hl.1 rfl (Nat.le_of_ble_eq_true rfl) dX5_after_55 ⟨Nat.le_of_ble_eq_true rfl, Nat.le_of_ble_eq_true rfl⟩ ⟨Nat.le_of_ble_eq_true rfl, Nat.le_of_ble_eq_true rfl⟩ (fun r_55 w H locs hpost hP hD hS => ?_)
    obtain ⟨rfl, rfl⟩ := hpost
    have hP : va_P D vwCl (kbW cI cJ cB ys yk yp yt y1 y2 (nI sz) (bI tm) (gI sse) (gI srm) (fun zz => lN (K zz)) (fun zz => nI (P zz)) (fun zz => nI (T zz)) h hs hw hh hp (nI se) (nI wd) (nI hd) (nI wl) (nI nb) (nI (topv wd)) (nI (rcv wd hd)) (nI (btv wd hd)) (nI (lcv wd hd)) (gI gl) (gI aq) st sl (gI lb) (fun zz => nI (sh zz)) (fun zz => nI (bw zz)) (fun zz => nI (bh zz)) (fun zz => nI (ps zz))) H := hP
    have hD : va_D A (kbW cI cJ cB ys yk yp yt y1 y2 (nI sz) (bI tm) (gI sse) (gI srm) (fun zz => lN (K zz)) (fun zz => nI (P zz)) (fun zz => nI (T zz)) h hs hw hh hp (nI se) (nI wd) (nI hd) (nI wl) (nI nb) (nI (topv wd)) (nI (rcv wd hd)) (nI (btv wd hd)) (nI (lcv wd hd)) (gI gl) (gI aq) st sl (gI lb) (fun zz => nI (sh zz)) (fun zz => nI (bw zz)) (fun zz => nI (bh zz)) (fun zz => nI (ps zz))) := hD
    refine lv_iconst (v := nI 1) hx hb dX5_after_58 (by decide) ?_
    refine n_isub hx hb dX5_after_59 (by omega) ?_
    rw [hQ]
    exact W.iret (v := nI ((T ((hkC (wth (K u) b q9) + t_52) % 4096)) - 1)) hx hb hr (fun t9 ht hW => ⟨⟨_, _, rfl, ⟨(some (T ((hkC (wth (K u) b q9) + t_52) % 4096) - 1)), rfl, rfl, (fun h => by rw [hq9] at h; cases h), (fun q h => by rw [hq9] at h; cases h; exact ⟨_, rfl, by omega, e3⟩), (fun d h => by cases h; omega)⟩, by rw [ht]; exact hP, rfl⟩, hS.F ht⟩) hS.2.2 dX5_after_60
  · have _ : True := trivial
    have hmn : (mvb wd hd nb wl sh bw bh srm (K u) b dd) = none := by
      cases e : (mvb wd hd nb wl sh bw bh srm (K u) b dd) with
      | none => rfl
      | some x => have h1 := bit_1.mpr ((pos_bit hd4 (n := nb)).mpr ⟨hbn, hrb, show (mvb wd hd nb wl sh bw bh srm (K u) b dd).isSome = true by rw [e]; rfl⟩); omega
    refine lv_iconst (v := (-1)) hx hb dX5_after_20 (by decide) ?_
    rw [hQ]
    exact W.iret (v := (-1)) hx hb hr (fun t9 ht hW => ⟨⟨_, _, rfl, ⟨none, rfl, rfl, (fun _ => rfl), (fun q h => by rw [hmn] at h; cases h), (fun d h => by cases h)⟩, by rw [ht]; exact hP, rfl⟩, hS.F ht⟩) hS.2.2 dX5_after_21

set_option maxHeartbeats 400000 in
set_option maxRecDepth 100000 in
theorem c_X5_countAt (l : Launch) (D : va_G) (cI cJ cB : ClassId) (ys yk yp yt y1 y2 sz : Nat) (tm : Bool) (sse srm : Option Nat) (K P T : Nat → Nat) (g ap : Nat) (hsz : sz ≤ 2000) (hal : ∀ i, i < sz → K i < 2 ^ 35) (hg7 : g < 7) (hap : ap < 2 ^ 20) : Met l yX5_countAt (Cond.code yX5_countAt cX5_countAt 5 (some .int) :: lw_all) (rmN 1) (va_Pc [.ref ys, .int (nI g), .int (nI ap)] (pB D (tyz cI cJ cB) (kW cI cJ cB ys yk yp yt y1 y2 (nI sz) (bI tm) (gI sse) (gI srm) (fun zz => lN (K zz)) (fun zz => nI (P zz)) (fun zz => nI (T zz))))) (va_Qi (fun (r : Int32) (w : va_W) => r = nI (sumN (fun x => if plc x g = ap then 1 else 0) K sz) ∧ w = kW cI cJ cB ys yk yp yt y1 y2 (nI sz) (bI tm) (gI sse) (gI srm) (fun zz => lN (K zz)) (fun zz => nI (P zz)) (fun zz => nI (T zz))) (gB D (kW cI cJ cB ys yk yp yt y1 y2 (nI sz) (bI tm) (gI sse) (gI srm) (fun zz => lN (K zz)) (fun zz => nI (P zz)) (fun zz => nI (T zz)))) (aW (kW cI cJ cB ys yk yp yt y1 y2 (nI sz) (bI tm) (gI sse) (gI srm) (fun zz => lN (K zz)) (fun zz => nI (P zz)) (fun zz => nI (T zz))))) 0 0 (aW (kW cI cJ cB ys yk yp yt y1 y2 (nI sz) (bI tm) (gI sse) (gI srm) (fun zz => lN (K zz)) (fun zz => nI (P zz)) (fun zz => nI (T zz)))) := by
  refine Met.ofW (cc := cX5_countAt) (maxL := 5) (ret := (some .int)) (by decide) rfl ?_
  intro p e s m args below meth c s₁ B hml hv
  obtain ⟨rfl, hK, hN, hP, hD0⟩ := hv
  have hx := B.exec; have hb := B.bytes; have hr := B.returns; have hlocks := B.notSynchronized
  have hts0 := atoms_spec (ws := Cond.code yX5_countAt cX5_countAt 5 (some .int) :: lw_all) B.pre
  have hC : CallFix p m c cX5_countAt 5 s _ lw_all RX5 := ⟨hx, hb, hml, findClass_of_methodNamed B.named, fun w h => hts0 w (List.mem_cons_of_mem _ h)⟩
  have hD : va_D (aW (kW cI cJ cB ys yk yp yt y1 y2 (nI sz) (bI tm) (gI sse) (gI srm) (fun zz => lN (K zz)) (fun zz => nI (P zz)) (fun zz => nI (T zz)))) (kW cI cJ cB ys yk yp yt y1 y2 (nI sz) (bI tm) (gI sse) (gI srm) (fun zz => lN (K zz)) (fun zz => nI (P zz)) (fun zz => nI (T zz))) := ⟨hD0.1, fun k q h => ⟨k, q.2, h⟩⟩
  generalize hAe : aW (kW cI cJ cB ys yk yp yt y1 y2 (nI sz) (bI tm) (gI sse) (gI srm) (fun zz => lN (K zz)) (fun zz => nI (P zz)) (fun zz => nI (T zz))) = A at hD ⊢
  have hS : va_S A s.heap s.heap [] := va_S.rf
  have hl := lv_entry ([.ref ys, .int (nI g), .int (nI ap)]) (n := 5) (Nat.le_of_ble_eq_true rfl)
  rw [lg_entry_eq]
  generalize (lg_sl ([.ref ys, .int (nI g), .int (nI ap)]) ++ List.replicate (5 - (lg_sl ([.ref ys, .int (nI g), .int (nI ap)])).length) Slot.unset).toArray = ls at hl ⊢
  have hl : lv_has ls 5 [(0, .ref ys), (1, .int (nI g)), (2, .int (nI ap))] := hl
  generalize hav : ([.ref ys, .int (nI g), .int (nI ap)] : List Value).toArray = args at hC ⊢
  refine W_gen (fun QQ hQ => ?_)
  show W p l e (rmN 1) s m args below meth c s.heap [] 0 0 QQ (F0 m 0 ls [])
  refine lv_iconst (v := nI 0) hx hb dX5_countAt_0 (by decide) ?_
  refine topi (y := nI (sumN (fun x => if plc x g = ap then 1 else 0) K 0)) rfl ?_
  refine lv_istore_n (lv' := [(3, .int (nI (sumN (fun x => if plc x g = ap then 1 else 0) K 0))), (0, .ref ys), (1, .int (nI g)), (2, .int (nI ap))]) hx hb dX5_countAt_1 rfl hl (by decide) rfl (fun ls hl => ?_)
  refine lv_iconst (v := nI 0) hx hb dX5_countAt_2 (by decide) ?_
  refine lv_istore (lv' := [(4, .int (nI 0)), (3, .int (nI (sumN (fun x => if plc x g = ap then 1 else 0) K 0))), (0, .ref ys), (1, .int (nI g)), (2, .int (nI ap))]) hx hb dX5_countAt_3 hl (by decide) rfl (fun ls hl => ?_)
  have L5 : ∀ (n : Nat) (i : Nat), (i ≤ sz) → (sz - i) < n → ∀ (H : Heap) (locs : List Loc), va_P D vwCl (kW cI cJ cB ys yk yp yt y1 y2 (nI sz) (bI tm) (gI sse) (gI srm) (fun zz => lN (K zz)) (fun zz => nI (P zz)) (fun zz => nI (T zz))) H → va_D A (kW cI cJ cB ys yk yp yt y1 y2 (nI sz) (bI tm) (gI sse) (gI srm) (fun zz => lN (K zz)) (fun zz => nI (P zz)) (fun zz => nI (T zz))) → va_S A s.heap H locs → ∀ ls : Array Slot, lv_has ls 5 [(3, .int (nI (sumN (fun x => if plc x g = ap then 1 else 0) K i))), (4, .int (nI i)), (0, .ref ys), (1, .int (nI g)), (2, .int (nI ap))] → W p l e (rmN 1) s m args below meth c H locs 0 0 QQ (F0 m 5 ls []) := by
    intro n; induction n with
    | zero => intro i ii hm; exact absurd hm (Nat.not_lt_zero _)
    | succ n ih5 =>
      intro i ii hm5 H locs hP hD hS ls hl
      refine lv_iload hx hb dX5_countAt_5 (lv_at hl 1 rfl) ?_
      refine lv_aload_n hx hb dX5_countAt_7 rfl (lv_at hl 2 rfl) ?_
      refine gf_X5_22 hC hK hP 0 rfl rfl dX5_countAt_8 ?_
      refine n_icmp_ge (a := i) (b := sz) (tgt := 40) hx hb dX5_countAt_11 (by decide) (by omega) (by omega) (fun c11 => ?_) (fun c11 => ?_)
      · have _ : True := trivial
        have e11 : i = sz := by omega
        refine lv_iload_n hx hb dX5_countAt_40 rfl (lv_at hl 0 rfl) ?_
        rw [hQ]
        exact W.iret (v := nI (sumN (fun x => if plc x g = ap then 1 else 0) K i)) hx hb hr (fun t9 ht hW => ⟨⟨_, _, rfl, ⟨(by rw [e11]), rfl⟩, by rw [ht]; exact hP, rfl⟩, hS.F ht⟩) hS.2.2 dX5_countAt_41
      · have _ : True := trivial
        refine lv_aload_n hx hb dX5_countAt_14 rfl (lv_at hl 2 rfl) ?_
        refine gf_X5_9 hC hK hP 0 rfl rfl dX5_countAt_15 ?_
        refine lv_iload hx hb dX5_countAt_18 (lv_at hl 1 rfl) ?_
        refine callN_l (As := [.ref yk, .int (nI i)]) (rest := []) [1] hC hK hN hP hD rfl (by decide) hS (c_X7_at_L l D cI cJ cB yk 2000 i K (by omega) (by omega)) q515 md_X7_at_ rfl hl.1 rfl (Nat.le_of_ble_eq_true rfl) dX5_countAt_20 ⟨Nat.le_of_ble_eq_true rfl, Nat.le_of_ble_eq_true rfl⟩ ⟨Nat.le_of_ble_eq_true rfl, Nat.le_of_ble_eq_true rfl⟩ (fun r_20 w H locs hpost hP hD hS => ?_)
        obtain ⟨rfl, rfl⟩ := hpost
        have hP : va_P D vwCl (kW cI cJ cB ys yk yp yt y1 y2 (nI sz) (bI tm) (gI sse) (gI srm) (fun zz => lN (K zz)) (fun zz => nI (P zz)) (fun zz => nI (T zz))) H := hP
        have hD : va_D A (kW cI cJ cB ys yk yp yt y1 y2 (nI sz) (bI tm) (gI sse) (gI srm) (fun zz => lN (K zz)) (fun zz => nI (P zz)) (fun zz => nI (T zz))) := hD
        refine lv_iload_n hx hb dX5_countAt_23 rfl (lv_at hl 3 rfl) ?_
        refine callN_i (As := [.long (lN (K i)), .int (nI g)]) (rest := []) [] hC hK hN hP hD rfl (by decide) hS (c_X7_placeIn l D cI cJ cB (K i) g (hal i (by omega)) (by omega)) q522 md_X7_placeIn rfl hl.1 rfl (Nat.le_of_ble_eq_true rfl) dX5_countAt_24 ⟨Nat.le_of_ble_eq_true rfl, Nat.le_of_ble_eq_true rfl⟩ ⟨Nat.le_of_ble_eq_true rfl, Nat.le_of_ble_eq_true rfl⟩ (fun r_24 w H locs hpost hP hD hS => ?_)
        obtain ⟨rfl, rfl⟩ := hpost
        have hP : va_P D vwCl (kW cI cJ cB ys yk yp yt y1 y2 (nI sz) (bI tm) (gI sse) (gI srm) (fun zz => lN (K zz)) (fun zz => nI (P zz)) (fun zz => nI (T zz))) H := hP
        have hD : va_D A (kW cI cJ cB ys yk yp yt y1 y2 (nI sz) (bI tm) (gI sse) (gI srm) (fun zz => lN (K zz)) (fun zz => nI (P zz)) (fun zz => nI (T zz))) := hD
        refine lv_iload_n hx hb dX5_countAt_27 rfl (lv_at hl 4 rfl) ?_
        refine n_icmp_ne (a := plc (K i) g) (b := ap) (tgt := 34) hx hb dX5_countAt_28 (by decide) (by have := plc_lt (K i) g; omega) (by omega) (fun c28 => ?_) (fun c28 => ?_)
        · have _ : True := trivial
          rw [show sumN (fun x => if plc x g = ap then 1 else 0) K i = sumN (fun x => if plc x g = ap then 1 else 0) K (i + 1) by show _ = sumN (fun x => if plc x g = ap then 1 else 0) K i + (if plc (K i) g = ap then 1 else 0); rw [if_neg c28]; rfl] at hl
          refine lv_iinc (v := nI (i + 1)) (lv' := [(4, .int (nI (i + 1))), (3, .int (nI (sumN (fun x => if plc x g = ap then 1 else 0) K (i + 1)))), (0, .ref ys), (1, .int (nI g)), (2, .int (nI ap))]) hx hb dX5_countAt_34 hl (k := 1) rfl (nI_1 _) (by decide) rfl (fun ls hl => ?_)
          refine lv_goto (tgt := 5) hx hb dX5_countAt_37 (by decide) ?_
          exact ih5 (i + 1) (by omega) (by omega) _ _ hP hD hS _ (lv_sub hl [1, 0, 2, 3, 4] rfl)
        · have _ : True := trivial
          refine lv_iinc (v := nI (sumN (fun x => if plc x g = ap then 1 else 0) K (i + 1))) (lv' := [(3, .int (nI (sumN (fun x => if plc x g = ap then 1 else 0) K (i + 1)))), (4, .int (nI i)), (0, .ref ys), (1, .int (nI g)), (2, .int (nI ap))]) hx hb dX5_countAt_31 hl (k := 0) rfl ((nI_1 _).trans (by show nI (sumN (fun x => if plc x g = ap then 1 else 0) K i + 1) = nI (sumN (fun x => if plc x g = ap then 1 else 0) K i + (if plc (K i) g = ap then 1 else 0)); rw [if_pos c28])) (by decide) rfl (fun ls hl => ?_)
          refine lv_iinc (v := nI (i + 1)) (lv' := [(4, .int (nI (i + 1))), (3, .int (nI (sumN (fun x => if plc x g = ap then 1 else 0) K (i + 1)))), (0, .ref ys), (1, .int (nI g)), (2, .int (nI ap))]) hx hb dX5_countAt_34 hl (k := 1) rfl (nI_1 _) (by decide) rfl (fun ls hl => ?_)
          refine lv_goto (tgt := 5) hx hb dX5_countAt_37 (by decide) ?_
          exact ih5 (i + 1) (by omega) (by omega) _ _ hP hD hS _ (lv_sub hl [1, 0, 2, 3, 4] rfl)
  exact L5 _ 0 (by omega) (Nat.lt_succ_self _) _ _ hP hD hS _ (lv_sub hl [1, 0, 2, 3, 4] rfl)

set_option maxHeartbeats 400000 in
set_option maxRecDepth 100000 in
theorem c_X5_placesOf (l : Launch) (D : va_G) (cI cJ cB : ClassId) (ys yk yp yt y1 y2 sz : Nat) (tm : Bool) (sse srm : Option Nat) (K P T : Nat → Nat) (b : Nat) (hsz : sz ≤ 2000) (hal : ∀ i, i < sz → K i < 2 ^ 35) (hb7 : b < 7) : Met l yX5_placesOf (Cond.code yX5_placesOf cX5_placesOf 4 (some .int) :: lw_all) (rmN 1) (va_Pc [.ref ys, .int (nI b)] (pB D (tyz cI cJ cB) (kW cI cJ cB ys yk yp yt y1 y2 (nI sz) (bI tm) (gI sse) (gI srm) (fun zz => lN (K zz)) (fun zz => nI (P zz)) (fun zz => nI (T zz))))) (va_Qi (fun (r : Int32) (w : va_W) => r = nI (orN K b sz) ∧ w = kW cI cJ cB ys yk yp yt y1 y2 (nI sz) (bI tm) (gI sse) (gI srm) (fun zz => lN (K zz)) (fun zz => nI (P zz)) (fun zz => nI (T zz))) (gB D (kW cI cJ cB ys yk yp yt y1 y2 (nI sz) (bI tm) (gI sse) (gI srm) (fun zz => lN (K zz)) (fun zz => nI (P zz)) (fun zz => nI (T zz)))) (aW (kW cI cJ cB ys yk yp yt y1 y2 (nI sz) (bI tm) (gI sse) (gI srm) (fun zz => lN (K zz)) (fun zz => nI (P zz)) (fun zz => nI (T zz))))) 0 0 (aW (kW cI cJ cB ys yk yp yt y1 y2 (nI sz) (bI tm) (gI sse) (gI srm) (fun zz => lN (K zz)) (fun zz => nI (P zz)) (fun zz => nI (T zz)))) := by
  refine Met.ofW (cc := cX5_placesOf) (maxL := 4) (ret := (some .int)) (by decide) rfl ?_
  intro p e s m args below meth c s₁ B hml hv
  obtain ⟨rfl, hK, hN, hP, hD0⟩ := hv
  have hx := B.exec; have hb := B.bytes; have hr := B.returns; have hlocks := B.notSynchronized
  have hts0 := atoms_spec (ws := Cond.code yX5_placesOf cX5_placesOf 4 (some .int) :: lw_all) B.pre
  have hC : CallFix p m c cX5_placesOf 4 s _ lw_all RX5 := ⟨hx, hb, hml, findClass_of_methodNamed B.named, fun w h => hts0 w (List.mem_cons_of_mem _ h)⟩
  have hD : va_D (aW (kW cI cJ cB ys yk yp yt y1 y2 (nI sz) (bI tm) (gI sse) (gI srm) (fun zz => lN (K zz)) (fun zz => nI (P zz)) (fun zz => nI (T zz)))) (kW cI cJ cB ys yk yp yt y1 y2 (nI sz) (bI tm) (gI sse) (gI srm) (fun zz => lN (K zz)) (fun zz => nI (P zz)) (fun zz => nI (T zz))) := ⟨hD0.1, fun k q h => ⟨k, q.2, h⟩⟩
  generalize hAe : aW (kW cI cJ cB ys yk yp yt y1 y2 (nI sz) (bI tm) (gI sse) (gI srm) (fun zz => lN (K zz)) (fun zz => nI (P zz)) (fun zz => nI (T zz))) = A at hD ⊢
  have hS : va_S A s.heap s.heap [] := va_S.rf
  have hl := lv_entry ([.ref ys, .int (nI b)]) (n := 4) (Nat.le_of_ble_eq_true rfl)
  rw [lg_entry_eq]
  generalize (lg_sl ([.ref ys, .int (nI b)]) ++ List.replicate (4 - (lg_sl ([.ref ys, .int (nI b)])).length) Slot.unset).toArray = ls at hl ⊢
  have hl : lv_has ls 4 [(0, .ref ys), (1, .int (nI b))] := hl
  generalize hav : ([.ref ys, .int (nI b)] : List Value).toArray = args at hC ⊢
  refine W_gen (fun QQ hQ => ?_)
  show W p l e (rmN 1) s m args below meth c s.heap [] 0 0 QQ (F0 m 0 ls [])
  refine lv_iconst (v := nI 0) hx hb dX5_placesOf_0 (by decide) ?_
  refine topi (y := nI (orN K b 0)) rfl ?_
  refine lv_istore_n (lv' := [(2, .int (nI (orN K b 0))), (0, .ref ys), (1, .int (nI b))]) hx hb dX5_placesOf_1 rfl hl (by decide) rfl (fun ls hl => ?_)
  refine lv_iconst (v := nI 0) hx hb dX5_placesOf_2 (by decide) ?_
  refine lv_istore_n (lv' := [(3, .int (nI 0)), (2, .int (nI (orN K b 0))), (0, .ref ys), (1, .int (nI b))]) hx hb dX5_placesOf_3 rfl hl (by decide) rfl (fun ls hl => ?_)
  have L4 : ∀ (n : Nat) (i : Nat), (i ≤ sz) → (sz - i) < n → ∀ (H : Heap) (locs : List Loc), va_P D vwCl (kW cI cJ cB ys yk yp yt y1 y2 (nI sz) (bI tm) (gI sse) (gI srm) (fun zz => lN (K zz)) (fun zz => nI (P zz)) (fun zz => nI (T zz))) H → va_D A (kW cI cJ cB ys yk yp yt y1 y2 (nI sz) (bI tm) (gI sse) (gI srm) (fun zz => lN (K zz)) (fun zz => nI (P zz)) (fun zz => nI (T zz))) → va_S A s.heap H locs → ∀ ls : Array Slot, lv_has ls 4 [(2, .int (nI (orN K b i))), (3, .int (nI i)), (0, .ref ys), (1, .int (nI b))] → W p l e (rmN 1) s m args below meth c H locs 0 0 QQ (F0 m 4 ls []) := by
    intro n; induction n with
    | zero => intro i ii hm; exact absurd hm (Nat.not_lt_zero _)
    | succ n ih4 =>
      intro i ii hm4 H locs hP hD hS ls hl
      refine lv_iload_n hx hb dX5_placesOf_4 rfl (lv_at hl 1 rfl) ?_
      refine lv_aload_n hx hb dX5_placesOf_5 rfl (lv_at hl 2 rfl) ?_
      refine gf_X5_22 hC hK hP 0 rfl rfl dX5_placesOf_6 ?_
      refine n_icmp_ge (a := i) (b := sz) (tgt := 35) hx hb dX5_placesOf_9 (by decide) (by omega) (by omega) (fun c9 => ?_) (fun c9 => ?_)
      · have _ : True := trivial
        have e9 : i = sz := by omega
        refine lv_iload_n hx hb dX5_placesOf_35 rfl (lv_at hl 0 rfl) ?_
        rw [hQ]
        exact W.iret (v := nI (orN K b i)) hx hb hr (fun t9 ht hW => ⟨⟨_, _, rfl, ⟨(by rw [e9]), rfl⟩, by rw [ht]; exact hP, rfl⟩, hS.F ht⟩) hS.2.2 dX5_placesOf_36
      · have _ : True := trivial
        refine lv_iload_n hx hb dX5_placesOf_12 rfl (lv_at hl 0 rfl) ?_
        refine lv_iconst (v := nI 1) hx hb dX5_placesOf_13 (by decide) ?_
        refine lv_aload_n hx hb dX5_placesOf_14 rfl (lv_at hl 2 rfl) ?_
        refine gf_X5_9 hC hK hP 0 rfl rfl dX5_placesOf_15 ?_
        refine lv_iload_n hx hb dX5_placesOf_18 rfl (lv_at hl 1 rfl) ?_
        refine callN_l (As := [.ref yk, .int (nI i)]) (rest := [.int (nI 1), .int (nI (orN K b i))]) [1] hC hK hN hP hD rfl (by decide) hS (c_X7_at_L l D cI cJ cB yk 2000 i K (by omega) (by omega)) q515 md_X7_at_ rfl hl.1 rfl (Nat.le_of_ble_eq_true rfl) dX5_placesOf_19 ⟨Nat.le_of_ble_eq_true rfl, Nat.le_of_ble_eq_true rfl⟩ ⟨Nat.le_of_ble_eq_true rfl, Nat.le_of_ble_eq_true rfl⟩ (fun r_19 w H locs hpost hP hD hS => ?_)
        obtain ⟨rfl, rfl⟩ := hpost
        have hP : va_P D vwCl (kW cI cJ cB ys yk yp yt y1 y2 (nI sz) (bI tm) (gI sse) (gI srm) (fun zz => lN (K zz)) (fun zz => nI (P zz)) (fun zz => nI (T zz))) H := hP
        have hD : va_D A (kW cI cJ cB ys yk yp yt y1 y2 (nI sz) (bI tm) (gI sse) (gI srm) (fun zz => lN (K zz)) (fun zz => nI (P zz)) (fun zz => nI (T zz))) := hD
        refine lv_iload_n hx hb dX5_placesOf_22 rfl (lv_at hl 3 rfl) ?_
        refine callN_i (As := [.long (lN (K i)), .int (nI b)]) (rest := [.int (nI 1), .int (nI (orN K b i))]) [] hC hK hN hP hD rfl (by decide) hS (c_X7_placeIn l D cI cJ cB (K i) b (hal i (by omega)) (by omega)) q522 md_X7_placeIn rfl hl.1 rfl (Nat.le_of_ble_eq_true rfl) dX5_placesOf_23 ⟨Nat.le_of_ble_eq_true rfl, Nat.le_of_ble_eq_true rfl⟩ ⟨Nat.le_of_ble_eq_true rfl, Nat.le_of_ble_eq_true rfl⟩ (fun r_23 w H locs hpost hP hD hS => ?_)
        obtain ⟨rfl, rfl⟩ := hpost
        have hP : va_P D vwCl (kW cI cJ cB ys yk yp yt y1 y2 (nI sz) (bI tm) (gI sse) (gI srm) (fun zz => lN (K zz)) (fun zz => nI (P zz)) (fun zz => nI (T zz))) H := hP
        have hD : va_D A (kW cI cJ cB ys yk yp yt y1 y2 (nI sz) (bI tm) (gI sse) (gI srm) (fun zz => lN (K zz)) (fun zz => nI (P zz)) (fun zz => nI (T zz))) := hD
        refine n_ishl hx hb dX5_placesOf_26 (by have := plc_lt (K i) b; omega) ?_
        refine n_ior hx hb dX5_placesOf_27  ?_
        refine topi (y := nI (orN K b (i + 1))) rfl ?_
        refine lv_istore_n (lv' := [(2, .int (nI (orN K b (i + 1)))), (3, .int (nI i)), (0, .ref ys), (1, .int (nI b))]) hx hb dX5_placesOf_28 rfl hl (by decide) rfl (fun ls hl => ?_)
        refine lv_iinc (v := nI (i + 1)) (lv' := [(3, .int (nI (i + 1))), (2, .int (nI (orN K b (i + 1)))), (0, .ref ys), (1, .int (nI b))]) hx hb dX5_placesOf_29 hl (k := 1) rfl (nI_1 _) (by decide) rfl (fun ls hl => ?_)
        refine lv_goto (tgt := 4) hx hb dX5_placesOf_32 (by decide) ?_
        exact ih4 (i + 1) (by omega) (by omega) _ _ hP hD hS _ (lv_sub hl [1, 0, 2, 3] rfl)
  exact L4 _ 0 (by omega) (Nat.lt_succ_self _) _ _ hP hD hS _ (lv_sub hl [1, 0, 2, 3] rfl)

set_option maxHeartbeats 400000 in
set_option maxRecDepth 100000 in
theorem c_X1_reach (l : Launch) (D : va_G) (cI cJ cB : ClassId) (zo zs zf zq zm zl fo su : Nat) (zb : Bool) (dgb dgp dgr : Option Nat) (Fa : Nat → Option Nat) (Qa Ma La : Nat → Nat) (i v : Nat) (hi9 : i < 2000) (hF : ∀ d, Fa i = some d → d < 2 ^ 31) (hfo : Fa i = none → fo < 2000) : Met l yX1_reach (Cond.code yX1_reach cX1_reach 3 none :: lw_all) (rmN 1) (va_Pc [.ref zo, .int (nI i), .int (nI v)] (pB D (tyz cI cJ cB) (dW cI cJ cB zo zs (bI zb) zf (gI dgb) (gI dgp) (nI fo) (nI su) (gI dgr) zq zm zl (fun zz => oI (Fa zz)) (fun zz => nI (Qa zz)) (fun zz => nI (Ma zz)) (fun zz => nI (La zz))))) (va_Qv (fun (w : va_W) => ∃ F2 : Nat → Option Nat, ∃ Q2 : Nat → Nat, ∃ fo2 : Nat, ∃ su2 : Nat, w = dW cI cJ cB zo zs (bI zb) zf (gI dgb) (gI dgp) (nI fo2) (nI su2) (gI dgr) zq zm zl (fun zz => oI (F2 zz)) (fun zz => nI (Q2 zz)) (fun zz => nI (Ma zz)) (fun zz => nI (La zz)) ∧ RC1 Fa Qa fo su i v F2 Q2 fo2 su2) (gB D (dW cI cJ cB zo zs (bI zb) zf (gI dgb) (gI dgp) (nI fo) (nI su) (gI dgr) zq zm zl (fun zz => oI (Fa zz)) (fun zz => nI (Qa zz)) (fun zz => nI (Ma zz)) (fun zz => nI (La zz)))) (aW (dW cI cJ cB zo zs (bI zb) zf (gI dgb) (gI dgp) (nI fo) (nI su) (gI dgr) zq zm zl (fun zz => oI (Fa zz)) (fun zz => nI (Qa zz)) (fun zz => nI (Ma zz)) (fun zz => nI (La zz))))) 0 0 (aW (dW cI cJ cB zo zs (bI zb) zf (gI dgb) (gI dgp) (nI fo) (nI su) (gI dgr) zq zm zl (fun zz => oI (Fa zz)) (fun zz => nI (Qa zz)) (fun zz => nI (Ma zz)) (fun zz => nI (La zz)))) := by
  refine Met.ofW (cc := cX1_reach) (maxL := 3) (ret := none) (by decide) rfl ?_
  intro p e s m args below meth c s₁ B hml hv
  obtain ⟨rfl, hK, hN, hP, hD0⟩ := hv
  have hx := B.exec; have hb := B.bytes; have hr := B.returns; have hlocks := B.notSynchronized
  have hts0 := atoms_spec (ws := Cond.code yX1_reach cX1_reach 3 none :: lw_all) B.pre
  have hC : CallFix p m c cX1_reach 3 s _ lw_all RX1 := ⟨hx, hb, hml, findClass_of_methodNamed B.named, fun w h => hts0 w (List.mem_cons_of_mem _ h)⟩
  have hD : va_D (aW (dW cI cJ cB zo zs (bI zb) zf (gI dgb) (gI dgp) (nI fo) (nI su) (gI dgr) zq zm zl (fun zz => oI (Fa zz)) (fun zz => nI (Qa zz)) (fun zz => nI (Ma zz)) (fun zz => nI (La zz)))) (dW cI cJ cB zo zs (bI zb) zf (gI dgb) (gI dgp) (nI fo) (nI su) (gI dgr) zq zm zl (fun zz => oI (Fa zz)) (fun zz => nI (Qa zz)) (fun zz => nI (Ma zz)) (fun zz => nI (La zz))) := ⟨hD0.1, fun k q h => ⟨k, q.2, h⟩⟩
  generalize hAe : aW (dW cI cJ cB zo zs (bI zb) zf (gI dgb) (gI dgp) (nI fo) (nI su) (gI dgr) zq zm zl (fun zz => oI (Fa zz)) (fun zz => nI (Qa zz)) (fun zz => nI (Ma zz)) (fun zz => nI (La zz))) = A at hD ⊢
  have hS : va_S A s.heap s.heap [] := va_S.rf
  have hl := lv_entry ([.ref zo, .int (nI i), .int (nI v)]) (n := 3) (Nat.le_of_ble_eq_true rfl)
  rw [lg_entry_eq]
  generalize (lg_sl ([.ref zo, .int (nI i), .int (nI v)]) ++ List.replicate (3 - (lg_sl ([.ref zo, .int (nI i), .int (nI v)])).length) Slot.unset).toArray = ls at hl ⊢
  have hl : lv_has ls 3 [(0, .ref zo), (1, .int (nI i)), (2, .int (nI v))] := hl
  generalize hav : ([.ref zo, .int (nI i), .int (nI v)] : List Value).toArray = args at hC ⊢
  refine W_gen (fun QQ hQ => ?_)
  show W p l e (rmN 1) s m args below meth c s.heap [] 0 0 QQ (F0 m 0 ls [])
  refine lv_aload_n hx hb dX1_reach_0 rfl (lv_at hl 0 rfl) ?_
  refine gf_X1_9 hC hK hP 0 rfl rfl dX1_reach_1 ?_
  refine lv_iload_n hx hb dX1_reach_4 rfl (lv_at hl 1 rfl) ?_
  refine callN_i (As := [.ref zf, .int (nI i)]) (rest := []) [1] hC hK hN hP hD rfl (by decide) hS (c_X7_at_O l D cI cJ cB zf 2000 i Fa (by omega) (by omega)) q584 md_X7_at rfl hl.1 rfl (Nat.le_of_ble_eq_true rfl) dX1_reach_5 ⟨Nat.le_of_ble_eq_true rfl, Nat.le_of_ble_eq_true rfl⟩ ⟨Nat.le_of_ble_eq_true rfl, Nat.le_of_ble_eq_true rfl⟩ (fun r_5 w H locs hpost hP hD hS => ?_)
  obtain ⟨rfl, rfl⟩ := hpost
  have hP : va_P D vwCl (dW cI cJ cB zo zs (bI zb) zf (gI dgb) (gI dgp) (nI fo) (nI su) (gI dgr) zq zm zl (fun zz => oI (Fa zz)) (fun zz => nI (Qa zz)) (fun zz => nI (Ma zz)) (fun zz => nI (La zz))) H := hP
  have hD : va_D A (dW cI cJ cB zo zs (bI zb) zf (gI dgb) (gI dgp) (nI fo) (nI su) (gI dgr) zq zm zl (fun zz => oI (Fa zz)) (fun zz => nI (Qa zz)) (fun zz => nI (Ma zz)) (fun zz => nI (La zz))) := hD
  refine o_if_ge (tgt := 55) hx hb dX1_reach_8 (by decide) hF (fun d8 c8 => ?_) (fun c8 => ?_)
  · have _ : True := trivial
    rw [hQ]
    exact W.vret hx hb hr (fun t9 ht hW => ⟨⟨_, rfl, ⟨Fa, Qa, fo, su, rfl, Or.inl ⟨d8, c8, rfl, rfl, rfl, rfl⟩⟩, by rw [ht]; exact hP, rfl⟩, hS.F ht⟩) hS.2.2 dX1_reach_55
  · have _ : True := trivial
    refine lv_aload_n hx hb dX1_reach_11 rfl (lv_at hl 0 rfl) ?_
    refine gf_X1_9 hC hK hP 0 rfl rfl dX1_reach_12 ?_
    refine lv_iload_n hx hb dX1_reach_15 rfl (lv_at hl 1 rfl) ?_
    refine lv_iload_n hx hb dX1_reach_16 rfl (lv_at hl 2 rfl) ?_
    refine callN_v (As := [.ref zf, .int (nI i), .int (nI v)]) (rest := []) [1] hC hK hN hP hD rfl (by decide) hS (c_X7_put_O l D cI cJ cB zf 2000 i Fa (some v) (by omega) (by omega)) q585 md_X7_put rfl hl.1 rfl (Nat.le_of_ble_eq_true rfl) dX1_reach_17 ⟨Nat.le_of_ble_eq_true rfl, Nat.le_of_ble_eq_true rfl⟩ ⟨Nat.le_of_ble_eq_true rfl, Nat.le_of_ble_eq_true rfl⟩ (fun w H locs hpost hP hD hS => ?_)
    obtain rfl := hpost
    have hP : va_P D vwCl (dW cI cJ cB zo zs (bI zb) zf (gI dgb) (gI dgp) (nI fo) (nI su) (gI dgr) zq zm zl (fun zz => oI ((va_up Fa i (some v)) zz)) (fun zz => nI (Qa zz)) (fun zz => nI (Ma zz)) (fun zz => nI (La zz))) H := hP
    have hD : va_D A (dW cI cJ cB zo zs (bI zb) zf (gI dgb) (gI dgp) (nI fo) (nI su) (gI dgr) zq zm zl (fun zz => oI ((va_up Fa i (some v)) zz)) (fun zz => nI (Qa zz)) (fun zz => nI (Ma zz)) (fun zz => nI (La zz))) := hD
    refine lv_aload_n hx hb dX1_reach_20 rfl (lv_at hl 0 rfl) ?_
    refine gf_X1_35 hC hK hP 0 rfl rfl dX1_reach_21 ?_
    refine gf_X1_47 hC hK hP 2 rfl rfl dX1_reach_24 ?_
    refine lv_aload_n hx hb dX1_reach_27 rfl (lv_at hl 0 rfl) ?_
    refine gf_X1_22 hC hK hP 0 rfl rfl dX1_reach_28 ?_
    refine lv_iload_n hx hb dX1_reach_31 rfl (lv_at hl 1 rfl) ?_
    refine callN_v (As := [.ref zq, .int (nI fo), .int (nI i)]) (rest := []) [3] hC hK hN hP hD rfl (by decide) hS (c_X7_put_N l D cI cJ cB zq 2000 fo Qa i (hfo c8) (by omega)) q585 md_X7_put rfl hl.1 rfl (Nat.le_of_ble_eq_true rfl) dX1_reach_32 ⟨Nat.le_of_ble_eq_true rfl, Nat.le_of_ble_eq_true rfl⟩ ⟨Nat.le_of_ble_eq_true rfl, Nat.le_of_ble_eq_true rfl⟩ (fun w H locs hpost hP hD hS => ?_)
    obtain rfl := hpost
    have hP : va_P D vwCl (dW cI cJ cB zo zs (bI zb) zf (gI dgb) (gI dgp) (nI fo) (nI su) (gI dgr) zq zm zl (fun zz => oI ((va_up Fa i (some v)) zz)) (fun zz => nI ((va_up Qa fo i) zz)) (fun zz => nI (Ma zz)) (fun zz => nI (La zz))) H := hP
    have hD : va_D A (dW cI cJ cB zo zs (bI zb) zf (gI dgb) (gI dgp) (nI fo) (nI su) (gI dgr) zq zm zl (fun zz => oI ((va_up Fa i (some v)) zz)) (fun zz => nI ((va_up Qa fo i) zz)) (fun zz => nI (Ma zz)) (fun zz => nI (La zz))) := hD
    refine lv_aload_n hx hb dX1_reach_35 rfl (lv_at hl 0 rfl) ?_
    refine lv_dup hx hb dX1_reach_36 rfl ?_
    refine gf_X1_22 hC hK hP 0 rfl rfl dX1_reach_37 ?_
    refine lv_iconst (v := nI 1) hx hb dX1_reach_40 (by decide) ?_
    refine n_iadd hx hb dX1_reach_41  ?_
    refine pf_X1_22 hC hK hP hD hS 0 rfl (Nat.le_of_ble_eq_true rfl) (ws1 := dW cI cJ cB zo zs (bI zb) zf (gI dgb) (gI dgp) (nI (fo + 1)) (nI su) (gI dgr) zq zm zl (fun zz => oI ((va_up Fa i (some v)) zz)) (fun zz => nI ((va_up Qa fo i) zz)) (fun zz => nI (Ma zz)) (fun zz => nI (La zz))) rfl dX1_reach_42 (fun H locs hP hD hS => ?_)
    refine lv_aload_n hx hb dX1_reach_45 rfl (lv_at hl 0 rfl) ?_
    refine lv_dup hx hb dX1_reach_46 rfl ?_
    refine gf_X1_25 hC hK hP 0 rfl rfl dX1_reach_47 ?_
    refine lv_iload_n hx hb dX1_reach_50 rfl (lv_at hl 2 rfl) ?_
    refine n_iadd hx hb dX1_reach_51  ?_
    refine pf_X1_25 hC hK hP hD hS 0 rfl (Nat.le_of_ble_eq_true rfl) (ws1 := dW cI cJ cB zo zs (bI zb) zf (gI dgb) (gI dgp) (nI (fo + 1)) (nI (su + v)) (gI dgr) zq zm zl (fun zz => oI ((va_up Fa i (some v)) zz)) (fun zz => nI ((va_up Qa fo i) zz)) (fun zz => nI (Ma zz)) (fun zz => nI (La zz))) rfl dX1_reach_52 (fun H locs hP hD hS => ?_)
    rw [hQ]
    exact W.vret hx hb hr (fun t9 ht hW => ⟨⟨_, rfl, ⟨va_up Fa i (some v), va_up Qa fo i, fo + 1, su + v, rfl, Or.inr ⟨c8, rfl, rfl, rfl, rfl⟩⟩, by rw [ht]; exact hP, rfl⟩, hS.F ht⟩) hS.2.2 dX1_reach_55

set_option maxHeartbeats 400000 in
set_option maxRecDepth 100000 in
theorem c_X1_beginAtSolved (l : Launch) (D : va_G) (cI cJ cB : ClassId) (zo zs zf zq zm zl fo su : Nat) (zb : Bool) (dgr : Option Nat) (Fa : Nat → Option Nat) (Qa Ma La : Nat → Nat) (ys yk yp yt y1 y2 sz : Nat) (tm : Bool) (sse srm : Option Nat) (K P T : Nat → Nat) (g ap : Nat) (stp9 : Nat → Nat → Prop) (hsz : sz ≤ 2000) (hal : ∀ i, i < sz → K i < 2 ^ 35) (hg7 : g < 7) (hap : ap < 2 ^ 20) : Met l yX1_beginAtSolved (Cond.code yX1_beginAtSolved cX1_beginAtSolved 3 none :: lw_all) (rmN 2) (va_Pc [.ref zo, .ref ys] (pB D (tyz cI cJ cB) (dkW cI cJ cB zo zs (bI zb) zf (gI (some g)) (gI (some ap)) (nI fo) (nI su) (gI dgr) zq zm zl (fun zz => oI (Fa zz)) (fun zz => nI (Qa zz)) (fun zz => nI (Ma zz)) (fun zz => nI (La zz)) ys yk yp yt y1 y2 (nI sz) (bI tm) (gI sse) (gI srm) (fun zz => lN (K zz)) (fun zz => nI (P zz)) (fun zz => nI (T zz))))) (va_Qv (fun (w : va_W) => ∃ F2 : Nat → Option Nat, ∃ Q2 : Nat → Nat, ∃ fo2 : Nat, w = dkW cI cJ cB zo zs (bI zb) zf (gI (some g)) (gI (some ap)) (nI fo2) (nI 0) (gI dgr) zq zm zl (fun zz => oI (F2 zz)) (fun zz => nI (Q2 zz)) (fun zz => nI ((fun _ => 0) zz)) (fun zz => nI (La zz)) ys yk yp yt y1 y2 (nI sz) (bI tm) (gI sse) (gI srm) (fun zz => lN (K zz)) (fun zz => nI (P zz)) (fun zz => nI (T zz)) ∧ MS0 stp9 (fun i => plc (K i) g = ap) F2 Q2 fo2 sz ∧ (∀ i, sz ≤ i → F2 i = none)) (gB D (dkW cI cJ cB zo zs (bI zb) zf (gI (some g)) (gI (some ap)) (nI fo) (nI su) (gI dgr) zq zm zl (fun zz => oI (Fa zz)) (fun zz => nI (Qa zz)) (fun zz => nI (Ma zz)) (fun zz => nI (La zz)) ys yk yp yt y1 y2 (nI sz) (bI tm) (gI sse) (gI srm) (fun zz => lN (K zz)) (fun zz => nI (P zz)) (fun zz => nI (T zz)))) (aW (dkW cI cJ cB zo zs (bI zb) zf (gI (some g)) (gI (some ap)) (nI fo) (nI su) (gI dgr) zq zm zl (fun zz => oI (Fa zz)) (fun zz => nI (Qa zz)) (fun zz => nI (Ma zz)) (fun zz => nI (La zz)) ys yk yp yt y1 y2 (nI sz) (bI tm) (gI sse) (gI srm) (fun zz => lN (K zz)) (fun zz => nI (P zz)) (fun zz => nI (T zz))))) 0 0 (aW (dkW cI cJ cB zo zs (bI zb) zf (gI (some g)) (gI (some ap)) (nI fo) (nI su) (gI dgr) zq zm zl (fun zz => oI (Fa zz)) (fun zz => nI (Qa zz)) (fun zz => nI (Ma zz)) (fun zz => nI (La zz)) ys yk yp yt y1 y2 (nI sz) (bI tm) (gI sse) (gI srm) (fun zz => lN (K zz)) (fun zz => nI (P zz)) (fun zz => nI (T zz)))) := by
  refine Met.ofW (cc := cX1_beginAtSolved) (maxL := 3) (ret := none) (by decide) rfl ?_
  intro p e s m args below meth c s₁ B hml hv
  obtain ⟨rfl, hK, hN, hP, hD0⟩ := hv
  have hx := B.exec; have hb := B.bytes; have hr := B.returns; have hlocks := B.notSynchronized
  have hts0 := atoms_spec (ws := Cond.code yX1_beginAtSolved cX1_beginAtSolved 3 none :: lw_all) B.pre
  have hC : CallFix p m c cX1_beginAtSolved 3 s _ lw_all RX1 := ⟨hx, hb, hml, findClass_of_methodNamed B.named, fun w h => hts0 w (List.mem_cons_of_mem _ h)⟩
  have hD : va_D (aW (dkW cI cJ cB zo zs (bI zb) zf (gI (some g)) (gI (some ap)) (nI fo) (nI su) (gI dgr) zq zm zl (fun zz => oI (Fa zz)) (fun zz => nI (Qa zz)) (fun zz => nI (Ma zz)) (fun zz => nI (La zz)) ys yk yp yt y1 y2 (nI sz) (bI tm) (gI sse) (gI srm) (fun zz => lN (K zz)) (fun zz => nI (P zz)) (fun zz => nI (T zz)))) (dkW cI cJ cB zo zs (bI zb) zf (gI (some g)) (gI (some ap)) (nI fo) (nI su) (gI dgr) zq zm zl (fun zz => oI (Fa zz)) (fun zz => nI (Qa zz)) (fun zz => nI (Ma zz)) (fun zz => nI (La zz)) ys yk yp yt y1 y2 (nI sz) (bI tm) (gI sse) (gI srm) (fun zz => lN (K zz)) (fun zz => nI (P zz)) (fun zz => nI (T zz))) := ⟨hD0.1, fun k q h => ⟨k, q.2, h⟩⟩
  generalize hAe : aW (dkW cI cJ cB zo zs (bI zb) zf (gI (some g)) (gI (some ap)) (nI fo) (nI su) (gI dgr) zq zm zl (fun zz => oI (Fa zz)) (fun zz => nI (Qa zz)) (fun zz => nI (Ma zz)) (fun zz => nI (La zz)) ys yk yp yt y1 y2 (nI sz) (bI tm) (gI sse) (gI srm) (fun zz => lN (K zz)) (fun zz => nI (P zz)) (fun zz => nI (T zz))) = A at hD ⊢
  have hS : va_S A s.heap s.heap [] := va_S.rf
  have hl := lv_entry ([.ref zo, .ref ys]) (n := 3) (Nat.le_of_ble_eq_true rfl)
  rw [lg_entry_eq]
  generalize (lg_sl ([.ref zo, .ref ys]) ++ List.replicate (3 - (lg_sl ([.ref zo, .ref ys])).length) Slot.unset).toArray = ls at hl ⊢
  have hl : lv_has ls 3 [(0, .ref zo), (1, .ref ys)] := hl
  generalize hav : ([.ref zo, .ref ys] : List Value).toArray = args at hC ⊢
  refine W_gen (fun QQ hQ => ?_)
  show W p l e (rmN 2) s m args below meth c s.heap [] 0 0 QQ (F0 m 0 ls [])
  refine lv_aload_n hx hb dX1_beginAtSolved_0 rfl (lv_at hl 0 rfl) ?_
  refine gf_X1_9 hC hK hP 0 rfl rfl dX1_beginAtSolved_1 ?_
  refine lv_iconst (v := (-1)) hx hb dX1_beginAtSolved_4 (by decide) ?_
  refine callS_v (As := [.ref zf, .int (-1)]) (rest := []) [1] hC hK hN hP hD rfl (by decide) hS (c_J7_fill_O l D cI cJ cB zf 2000 Fa (by omega)) q577 md_J7_fill_53178 rfl hl.1 rfl (Nat.le_of_ble_eq_true rfl) dX1_beginAtSolved_5 ⟨Nat.le_of_ble_eq_true rfl, Nat.le_of_ble_eq_true rfl⟩ ⟨Nat.le_of_ble_eq_true rfl, Nat.le_of_ble_eq_true rfl⟩ (fun w H locs hpost hP hD hS => ?_)
  obtain rfl := hpost
  have hP : va_P D vwCl (dkW cI cJ cB zo zs (bI zb) zf (gI (some g)) (gI (some ap)) (nI fo) (nI su) (gI dgr) zq zm zl (fun zz => oI (noneF zz)) (fun zz => nI (Qa zz)) (fun zz => nI (Ma zz)) (fun zz => nI (La zz)) ys yk yp yt y1 y2 (nI sz) (bI tm) (gI sse) (gI srm) (fun zz => lN (K zz)) (fun zz => nI (P zz)) (fun zz => nI (T zz))) H := hP
  have hD : va_D A (dkW cI cJ cB zo zs (bI zb) zf (gI (some g)) (gI (some ap)) (nI fo) (nI su) (gI dgr) zq zm zl (fun zz => oI (noneF zz)) (fun zz => nI (Qa zz)) (fun zz => nI (Ma zz)) (fun zz => nI (La zz)) ys yk yp yt y1 y2 (nI sz) (bI tm) (gI sse) (gI srm) (fun zz => lN (K zz)) (fun zz => nI (P zz)) (fun zz => nI (T zz))) := hD
  refine lv_aload_n hx hb dX1_beginAtSolved_8 rfl (lv_at hl 0 rfl) ?_
  refine gf_X1_35 hC hK hP 0 rfl rfl dX1_beginAtSolved_9 ?_
  refine gf_X1_78 hC hK hP 2 rfl rfl dX1_beginAtSolved_12 ?_
  refine lv_iconst (v := nI 0) hx hb dX1_beginAtSolved_15 (by decide) ?_
  refine callS_v (As := [.ref zm, .int (nI 0)]) (rest := []) [4] hC hK hN hP hD rfl (by decide) hS (c_J7_fill_N l D cI cJ cB zm 2000 Ma (by omega)) q577 md_J7_fill_53178 rfl hl.1 rfl (Nat.le_of_ble_eq_true rfl) dX1_beginAtSolved_16 ⟨Nat.le_of_ble_eq_true rfl, Nat.le_of_ble_eq_true rfl⟩ ⟨Nat.le_of_ble_eq_true rfl, Nat.le_of_ble_eq_true rfl⟩ (fun w H locs hpost hP hD hS => ?_)
  obtain rfl := hpost
  have hP : va_P D vwCl (dkW cI cJ cB zo zs (bI zb) zf (gI (some g)) (gI (some ap)) (nI fo) (nI su) (gI dgr) zq zm zl (fun zz => oI (noneF zz)) (fun zz => nI (Qa zz)) (fun zz => nI ((fun _ => 0) zz)) (fun zz => nI (La zz)) ys yk yp yt y1 y2 (nI sz) (bI tm) (gI sse) (gI srm) (fun zz => lN (K zz)) (fun zz => nI (P zz)) (fun zz => nI (T zz))) H := hP
  have hD : va_D A (dkW cI cJ cB zo zs (bI zb) zf (gI (some g)) (gI (some ap)) (nI fo) (nI su) (gI dgr) zq zm zl (fun zz => oI (noneF zz)) (fun zz => nI (Qa zz)) (fun zz => nI ((fun _ => 0) zz)) (fun zz => nI (La zz)) ys yk yp yt y1 y2 (nI sz) (bI tm) (gI sse) (gI srm) (fun zz => lN (K zz)) (fun zz => nI (P zz)) (fun zz => nI (T zz))) := hD
  refine lv_aload_n hx hb dX1_beginAtSolved_19 rfl (lv_at hl 0 rfl) ?_
  refine lv_iconst (v := nI 0) hx hb dX1_beginAtSolved_20 (by decide) ?_
  refine pf_X1_22 hC hK hP hD hS 0 rfl (Nat.le_of_ble_eq_true rfl) (ws1 := dkW cI cJ cB zo zs (bI zb) zf (gI (some g)) (gI (some ap)) (nI 0) (nI su) (gI dgr) zq zm zl (fun zz => oI (noneF zz)) (fun zz => nI (Qa zz)) (fun zz => nI ((fun _ => 0) zz)) (fun zz => nI (La zz)) ys yk yp yt y1 y2 (nI sz) (bI tm) (gI sse) (gI srm) (fun zz => lN (K zz)) (fun zz => nI (P zz)) (fun zz => nI (T zz))) rfl dX1_beginAtSolved_21 (fun H locs hP hD hS => ?_)
  refine lv_aload_n hx hb dX1_beginAtSolved_24 rfl (lv_at hl 0 rfl) ?_
  refine lv_iconst (v := nI 0) hx hb dX1_beginAtSolved_25 (by decide) ?_
  refine pf_X1_25 hC hK hP hD hS 0 rfl (Nat.le_of_ble_eq_true rfl) (ws1 := dkW cI cJ cB zo zs (bI zb) zf (gI (some g)) (gI (some ap)) (nI 0) (nI 0) (gI dgr) zq zm zl (fun zz => oI (noneF zz)) (fun zz => nI (Qa zz)) (fun zz => nI ((fun _ => 0) zz)) (fun zz => nI (La zz)) ys yk yp yt y1 y2 (nI sz) (bI tm) (gI sse) (gI srm) (fun zz => lN (K zz)) (fun zz => nI (P zz)) (fun zz => nI (T zz))) rfl dX1_beginAtSolved_26 (fun H locs hP hD hS => ?_)
  refine lv_iconst (v := nI 0) hx hb dX1_beginAtSolved_29 (by decide) ?_
  refine lv_istore_n (lv' := [(2, .int (nI 0)), (0, .ref zo), (1, .ref ys)]) hx hb dX1_beginAtSolved_30 rfl hl (by decide) rfl (fun ls hl => ?_)
  have L31 : ∀ (n : Nat) (u : Nat) (Fb : Nat → Option Nat) (Qb : Nat → Nat) (fb : Nat) (sb : Nat), (MS0 stp9 (fun i => plc (K i) g = ap) Fb Qb fb u) → (∀ i, u ≤ i → Fb i = none) → (u ≤ sz) → (sb = 0) → (sz - u) < n → ∀ (H : Heap) (locs : List Loc), va_P D vwCl (dkW cI cJ cB zo zs (bI zb) zf (gI (some g)) (gI (some ap)) (nI fb) (nI sb) (gI dgr) zq zm zl (fun zz => oI (Fb zz)) (fun zz => nI (Qb zz)) (fun zz => nI ((fun _ => 0) zz)) (fun zz => nI (La zz)) ys yk yp yt y1 y2 (nI sz) (bI tm) (gI sse) (gI srm) (fun zz => lN (K zz)) (fun zz => nI (P zz)) (fun zz => nI (T zz))) H → va_D A (dkW cI cJ cB zo zs (bI zb) zf (gI (some g)) (gI (some ap)) (nI fb) (nI sb) (gI dgr) zq zm zl (fun zz => oI (Fb zz)) (fun zz => nI (Qb zz)) (fun zz => nI ((fun _ => 0) zz)) (fun zz => nI (La zz)) ys yk yp yt y1 y2 (nI sz) (bI tm) (gI sse) (gI srm) (fun zz => lN (K zz)) (fun zz => nI (P zz)) (fun zz => nI (T zz))) → va_S A s.heap H locs → ∀ ls : Array Slot, lv_has ls 3 [(2, .int (nI u)), (0, .ref zo), (1, .ref ys)] → W p l e (rmN 2) s m args below meth c H locs 0 0 QQ (F0 m 31 ls []) := by
    intro n; induction n with
    | zero => intro u Fb Qb fb sb iM iz iu i0 hm; exact absurd hm (Nat.not_lt_zero _)
    | succ n ih31 =>
      intro u Fb Qb fb sb iM iz iu i0 hm31 H locs hP hD hS ls hl
      refine lv_iload_n hx hb dX1_beginAtSolved_31 rfl (lv_at hl 0 rfl) ?_
      refine lv_aload_n hx hb dX1_beginAtSolved_32 rfl (lv_at hl 2 rfl) ?_
      refine gf_X1_81 hC hK hP 6 rfl rfl dX1_beginAtSolved_33 ?_
      refine n_icmp_ge (a := u) (b := sz) (tgt := 73) hx hb dX1_beginAtSolved_36 (by decide) (by omega) (by omega) (fun c36 => ?_) (fun c36 => ?_)
      · have _ : True := trivial
        have e36 : u = sz := by omega
        rw [i0] at hP
        rw [hQ]
        exact W.vret hx hb hr (fun t9 ht hW => ⟨⟨_, rfl, ⟨Fb, Qb, fb, rfl, (by rw [← e36]; exact iM), (by rw [← e36]; exact iz)⟩, by rw [ht]; exact hP, rfl⟩, hS.F ht⟩) hS.2.2 dX1_beginAtSolved_73
      · have _ : True := trivial
        refine lv_aload_n hx hb dX1_beginAtSolved_39 rfl (lv_at hl 2 rfl) ?_
        refine gf_X1_84 hC hK hP 6 rfl rfl dX1_beginAtSolved_40 ?_
        refine lv_iload_n hx hb dX1_beginAtSolved_43 rfl (lv_at hl 0 rfl) ?_
        refine callN_l (As := [.ref yk, .int (nI u)]) (rest := []) [7] hC hK hN hP hD rfl (by decide) hS (c_X7_at_L l D cI cJ cB yk 2000 u K (by omega) (by omega)) q578 md_X7_at_ rfl hl.1 rfl (Nat.le_of_ble_eq_true rfl) dX1_beginAtSolved_44 ⟨Nat.le_of_ble_eq_true rfl, Nat.le_of_ble_eq_true rfl⟩ ⟨Nat.le_of_ble_eq_true rfl, Nat.le_of_ble_eq_true rfl⟩ (fun r_44 w H locs hpost hP hD hS => ?_)
        obtain ⟨rfl, rfl⟩ := hpost
        have hP : va_P D vwCl (dkW cI cJ cB zo zs (bI zb) zf (gI (some g)) (gI (some ap)) (nI fb) (nI sb) (gI dgr) zq zm zl (fun zz => oI (Fb zz)) (fun zz => nI (Qb zz)) (fun zz => nI ((fun _ => 0) zz)) (fun zz => nI (La zz)) ys yk yp yt y1 y2 (nI sz) (bI tm) (gI sse) (gI srm) (fun zz => lN (K zz)) (fun zz => nI (P zz)) (fun zz => nI (T zz))) H := hP
        have hD : va_D A (dkW cI cJ cB zo zs (bI zb) zf (gI (some g)) (gI (some ap)) (nI fb) (nI sb) (gI dgr) zq zm zl (fun zz => oI (Fb zz)) (fun zz => nI (Qb zz)) (fun zz => nI ((fun _ => 0) zz)) (fun zz => nI (La zz)) ys yk yp yt y1 y2 (nI sz) (bI tm) (gI sse) (gI srm) (fun zz => lN (K zz)) (fun zz => nI (P zz)) (fun zz => nI (T zz))) := hD
        refine lv_aload_n hx hb dX1_beginAtSolved_47 rfl (lv_at hl 1 rfl) ?_
        refine gf_X1_15 hC hK hP 0 rfl rfl dX1_beginAtSolved_48 ?_
        refine topi (y := nI g) rfl ?_
        refine callN_i (As := [.long (lN (K u)), .int (nI g)]) (rest := []) [] hC hK hN hP hD rfl (by decide) hS (c_X7_placeIn l D cI cJ cB (K u) g (hal u (by omega)) (by omega)) q579 md_X7_placeIn rfl hl.1 rfl (Nat.le_of_ble_eq_true rfl) dX1_beginAtSolved_51 ⟨Nat.le_of_ble_eq_true rfl, Nat.le_of_ble_eq_true rfl⟩ ⟨Nat.le_of_ble_eq_true rfl, Nat.le_of_ble_eq_true rfl⟩ (fun r_51 w H locs hpost hP hD hS => ?_)
        obtain ⟨rfl, rfl⟩ := hpost
        have hP : va_P D vwCl (dkW cI cJ cB zo zs (bI zb) zf (gI (some g)) (gI (some ap)) (nI fb) (nI sb) (gI dgr) zq zm zl (fun zz => oI (Fb zz)) (fun zz => nI (Qb zz)) (fun zz => nI ((fun _ => 0) zz)) (fun zz => nI (La zz)) ys yk yp yt y1 y2 (nI sz) (bI tm) (gI sse) (gI srm) (fun zz => lN (K zz)) (fun zz => nI (P zz)) (fun zz => nI (T zz))) H := hP
        have hD : va_D A (dkW cI cJ cB zo zs (bI zb) zf (gI (some g)) (gI (some ap)) (nI fb) (nI sb) (gI dgr) zq zm zl (fun zz => oI (Fb zz)) (fun zz => nI (Qb zz)) (fun zz => nI ((fun _ => 0) zz)) (fun zz => nI (La zz)) ys yk yp yt y1 y2 (nI sz) (bI tm) (gI sse) (gI srm) (fun zz => lN (K zz)) (fun zz => nI (P zz)) (fun zz => nI (T zz))) := hD
        refine lv_aload_n hx hb dX1_beginAtSolved_54 rfl (lv_at hl 1 rfl) ?_
        refine gf_X1_19 hC hK hP 0 rfl rfl dX1_beginAtSolved_55 ?_
        refine topi (y := nI ap) rfl ?_
        refine n_icmp_ne (a := plc (K u) g) (b := ap) (tgt := 67) hx hb dX1_beginAtSolved_58 (by decide) (by have := plc_lt (K u) g; omega) (by omega) (fun c58 => ?_) (fun c58 => ?_)
        · have _ : True := trivial
          refine lv_iinc (v := nI (u + 1)) (lv' := [(2, .int (nI (u + 1))), (0, .ref zo), (1, .ref ys)]) hx hb dX1_beginAtSolved_67 hl (k := 0) rfl (nI_1 _) (by decide) rfl (fun ls hl => ?_)
          refine lv_goto (tgt := 31) hx hb dX1_beginAtSolved_70 (by decide) ?_
          exact ih31 (u + 1) Fb Qb fb sb (by have h9 := MS0_no iM c58; rw [up_same (iz u (Nat.le_refl u))] at h9; exact h9) (fun i hi => iz i (by omega)) (by omega) i0 (by omega) _ _ hP hD hS _ (lv_sub hl [0, 1, 2] rfl)
        · have _ : True := trivial
          refine lv_aload_n hx hb dX1_beginAtSolved_61 rfl (lv_at hl 1 rfl) ?_
          refine lv_iload_n hx hb dX1_beginAtSolved_62 rfl (lv_at hl 0 rfl) ?_
          refine lv_iconst (v := nI 0) hx hb dX1_beginAtSolved_63 (by decide) ?_
          refine callV_v (As := [.int (nI u), .int (nI 0)]) (rest := []) [0, 1, 2, 3, 4, 5] hC hK hN hP hD rfl (by decide) hS 0 (ci := 1) rfl rfl rfl (c_X1_reach l D cI cJ cB zo zs zf zq zm zl fb sb zb (some g) (some ap) dgr Fb Qb (fun _ => 0) La u 0 (by omega) (fun d h => by rw [iz u (Nat.le_refl u)] at h; cases h) (fun _ => by have := iM.2.2; omega)) q580 md_X1_reach rfl hl.1 rfl (Nat.le_of_ble_eq_true rfl) dX1_beginAtSolved_64 ⟨Nat.le_of_ble_eq_true rfl, Nat.le_of_ble_eq_true rfl⟩ ⟨Nat.le_of_ble_eq_true rfl, Nat.le_of_ble_eq_true rfl⟩ (fun w H locs hpost hP hD hS => ?_)
          obtain ⟨F2_64, Q2_64, fo2_64, su2_64, rfl, hrc⟩ := hpost
          have hP : va_P D vwCl (dkW cI cJ cB zo zs (bI zb) zf (gI (some g)) (gI (some ap)) (nI fo2_64) (nI su2_64) (gI dgr) zq zm zl (fun zz => oI (F2_64 zz)) (fun zz => nI (Q2_64 zz)) (fun zz => nI ((fun _ => 0) zz)) (fun zz => nI (La zz)) ys yk yp yt y1 y2 (nI sz) (bI tm) (gI sse) (gI srm) (fun zz => lN (K zz)) (fun zz => nI (P zz)) (fun zz => nI (T zz))) H := hP
          have hD : va_D A (dkW cI cJ cB zo zs (bI zb) zf (gI (some g)) (gI (some ap)) (nI fo2_64) (nI su2_64) (gI dgr) zq zm zl (fun zz => oI (F2_64 zz)) (fun zz => nI (Q2_64 zz)) (fun zz => nI ((fun _ => 0) zz)) (fun zz => nI (La zz)) ys yk yp yt y1 y2 (nI sz) (bI tm) (gI sse) (gI srm) (fun zz => lN (K zz)) (fun zz => nI (P zz)) (fun zz => nI (T zz))) := hD
          rcases hrc with ⟨e, h1, -⟩ | ⟨h1, rfl, rfl, rfl, hs9⟩
          · rw [iz u (Nat.le_refl u)] at h1; cases h1
          refine lv_iinc (v := nI (u + 1)) (lv' := [(2, .int (nI (u + 1))), (0, .ref zo), (1, .ref ys)]) hx hb dX1_beginAtSolved_67 hl (k := 0) rfl (nI_1 _) (by decide) rfl (fun ls hl => ?_)
          refine lv_goto (tgt := 31) hx hb dX1_beginAtSolved_70 (by decide) ?_
          exact ih31 (u + 1) (va_up Fb u (some 0)) (va_up Qb fb u) (fb + 1) su2_64 (MS0_yes iM c58) (fun i hi => by rw [up_ne Fb (by omega)]; exact iz i (by omega)) (by omega) (by omega) (by omega) _ _ hP hD hS _ (lv_sub hl [0, 1, 2] rfl)
  exact L31 _ 0 noneF Qa 0 0 MS0_0 (fun _ _ => rfl) (by omega) rfl (Nat.lt_succ_self _) _ _ hP hD hS _ (lv_sub hl [0, 1, 2] rfl)
