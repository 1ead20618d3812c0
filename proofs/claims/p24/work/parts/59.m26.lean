abbrev ysW (cI cJ cB : ClassId) (ys : Nat) (yk : Nat) (yp : Nat) (yt : Nat) (y1 : Nat) (y2 : Nat) (ysz : Int32) (ytm : Int32) (yse : Int32) (yrm : Int32) : va_W := [(ys, .inr (5, [.ref yk, .ref yp, .ref yt, .ref y1, .ref y2, .int ysz, .int ytm, .int yse, .int yrm]))]
abbrev kfW (cI cJ cB : ClassId) (ys : Nat) (yk : Nat) (yp : Nat) (yt : Nat) (y1 : Nat) (y2 : Nat) (ysz : Int32) (ytm : Int32) (yse : Int32) (yrm : Int32) (yK : Nat → Int64) (yP : Nat → Int32) (yT : Nat → Int32) (zs : Nat) (zsl1 : Int32) (zf1 : Nat) (zgb1 : Int32) (zgp1 : Int32) (zfo1 : Int32) (zsu1 : Int32) (zgr1 : Int32) (zsl2 : Int32) (zf2 : Nat) (zgb2 : Int32) (zgp2 : Int32) (zfo2 : Int32) (zsu2 : Int32) (zgr2 : Int32) (zF1 : Nat → Int32) (zF2 : Nat → Int32) : va_W := [(ys, .inr (5, [.ref yk, .ref yp, .ref yt, .ref y1, .ref y2, .int ysz, .int ytm, .int yse, .int yrm])), (yk, .inl (cJ, 2000, .inr (.inl yK))), (yp, .inl (cI, 2000, .inl yP)), (yt, .inl (cI, 4096, .inl yT)), (y1, .inr (1, [.int zsl1, .ref zs, .ref zf1, .int zgb1, .int zgp1, .int zfo1, .int zsu1, .int zgr1])), (y2, .inr (1, [.int zsl2, .ref zs, .ref zf2, .int zgb2, .int zgp2, .int zfo2, .int zsu2, .int zgr2])), (zf1, .inl (cI, 2000, .inl zF1)), (zf2, .inl (cI, 2000, .inl zF2))]
set_option maxHeartbeats 400000 in
set_option maxRecDepth 100000 in
theorem c_X5_distances_t (l : Launch) (D : va_G) (cI cJ cB : ClassId) (ys yk yp yt y1 y2 : Nat) (ysz ytm yse yrm : Int32) (z : Bool) (hz : z = true) : Met l yX5_distances (Cond.code yX5_distances cX5_distances 2 (some (.object "SlidingBlocks$Distances")) :: lw_all) (rmN 0) (va_Pc [.ref ys, .int (bI z)] (pB D (tyz cI cJ cB) (ysW cI cJ cB ys yk yp yt y1 y2 ysz ytm yse yrm))) (va_Qq (fun (r : Option Nat) (w : va_W) => r = some y2 ∧ w = ysW cI cJ cB ys yk yp yt y1 y2 ysz ytm yse yrm) (gB D (ysW cI cJ cB ys yk yp yt y1 y2 ysz ytm yse yrm)) (aW (ysW cI cJ cB ys yk yp yt y1 y2 ysz ytm yse yrm))) 0 0 (aW (ysW cI cJ cB ys yk yp yt y1 y2 ysz ytm yse yrm)) := by
  refine Met.ofW (cc := cX5_distances) (maxL := 2) (ret := (some (.object "SlidingBlocks$Distances"))) (by decide) rfl ?_
  intro p e s m args below meth c s₁ B hml hv
  obtain ⟨rfl, hK, hN, hP, hD0⟩ := hv
  have hx := B.exec; have hb := B.bytes; have hr := B.returns; have hlocks := B.notSynchronized
  have hts0 := atoms_spec (ws := Cond.code yX5_distances cX5_distances 2 (some (.object "SlidingBlocks$Distances")) :: lw_all) B.pre
  have hC : CallFix p m c cX5_distances 2 s _ lw_all RX5 := ⟨hx, hb, hml, findClass_of_methodNamed B.named, fun w h => hts0 w (List.mem_cons_of_mem _ h)⟩
  have hD : va_D (aW (ysW cI cJ cB ys yk yp yt y1 y2 ysz ytm yse yrm)) (ysW cI cJ cB ys yk yp yt y1 y2 ysz ytm yse yrm) := ⟨hD0.1, fun k q h => ⟨k, q.2, h⟩⟩
  generalize hAe : aW (ysW cI cJ cB ys yk yp yt y1 y2 ysz ytm yse yrm) = A at hD ⊢
  have hS : va_S A s.heap s.heap [] := va_S.rf
  have hl := lv_entry ([.ref ys, .int (bI z)]) (n := 2) (Nat.le_of_ble_eq_true rfl)
  rw [lg_entry_eq]
  generalize (lg_sl ([.ref ys, .int (bI z)]) ++ List.replicate (2 - (lg_sl ([.ref ys, .int (bI z)])).length) Slot.unset).toArray = ls at hl ⊢
  have hl : lv_has ls 2 [(0, .ref ys), (1, .int (bI z))] := hl
  generalize hav : ([.ref ys, .int (bI z)] : List Value).toArray = args at hC ⊢
  refine W_gen (fun QQ hQ => ?_)
  show W p l e (rmN 0) s m args below meth c s.heap [] 0 0 QQ (F0 m 0 ls [])
  refine lv_iload_n hx hb dX5_distances_0 rfl (lv_at hl 1 rfl) ?_
  refine b_if_eq (tgt := 11) hx hb dX5_distances_1 (by decide) (fun c1 => ?_) (fun c1 => ?_)
  · have _ : True := trivial
    rw [hz] at c1; cases c1
  · have _ : True := trivial
    refine lv_aload_n hx hb dX5_distances_4 rfl (lv_at hl 0 rfl) ?_
    refine gf_X5_45 hC hK hP 0 rfl rfl dX5_distances_5 ?_
    refine lv_goto (tgt := 15) hx hb dX5_distances_8 (by decide) ?_
    rw [hQ]
    exact W.aret (v := .ref y2) hx hb hr (Or.inl ⟨_, rfl⟩) (Or.inr ⟨_, rfl⟩) (fun t9 ht hW => ⟨⟨_, _, rfl, ⟨rfl, rfl⟩, by rw [ht]; exact hP, rfl⟩, hS.F ht⟩) hS.2.2 dX5_distances_15

set_option maxHeartbeats 400000 in
set_option maxRecDepth 100000 in
theorem c_X5_distances_f (l : Launch) (D : va_G) (cI cJ cB : ClassId) (ys yk yp yt y1 y2 : Nat) (ysz ytm yse yrm : Int32) (z : Bool) (hz : z = false) : Met l yX5_distances (Cond.code yX5_distances cX5_distances 2 (some (.object "SlidingBlocks$Distances")) :: lw_all) (rmN 0) (va_Pc [.ref ys, .int (bI z)] (pB D (tyz cI cJ cB) (ysW cI cJ cB ys yk yp yt y1 y2 ysz ytm yse yrm))) (va_Qq (fun (r : Option Nat) (w : va_W) => r = some y1 ∧ w = ysW cI cJ cB ys yk yp yt y1 y2 ysz ytm yse yrm) (gB D (ysW cI cJ cB ys yk yp yt y1 y2 ysz ytm yse yrm)) (aW (ysW cI cJ cB ys yk yp yt y1 y2 ysz ytm yse yrm))) 0 0 (aW (ysW cI cJ cB ys yk yp yt y1 y2 ysz ytm yse yrm)) := by
  refine Met.ofW (cc := cX5_distances) (maxL := 2) (ret := (some (.object "SlidingBlocks$Distances"))) (by decide) rfl ?_
  intro p e s m args below meth c s₁ B hml hv
  obtain ⟨rfl, hK, hN, hP, hD0⟩ := hv
  have hx := B.exec; have hb := B.bytes; have hr := B.returns; have hlocks := B.notSynchronized
  have hts0 := atoms_spec (ws := Cond.code yX5_distances cX5_distances 2 (some (.object "SlidingBlocks$Distances")) :: lw_all) B.pre
  have hC : CallFix p m c cX5_distances 2 s _ lw_all RX5 := ⟨hx, hb, hml, findClass_of_methodNamed B.named, fun w h => hts0 w (List.mem_cons_of_mem _ h)⟩
  have hD : va_D (aW (ysW cI cJ cB ys yk yp yt y1 y2 ysz ytm yse yrm)) (ysW cI cJ cB ys yk yp yt y1 y2 ysz ytm yse yrm) := ⟨hD0.1, fun k q h => ⟨k, q.2, h⟩⟩
  generalize hAe : aW (ysW cI cJ cB ys yk yp yt y1 y2 ysz ytm yse yrm) = A at hD ⊢
  have hS : va_S A s.heap s.heap [] := va_S.rf
  have hl := lv_entry ([.ref ys, .int (bI z)]) (n := 2) (Nat.le_of_ble_eq_true rfl)
  rw [lg_entry_eq]
  generalize (lg_sl ([.ref ys, .int (bI z)]) ++ List.replicate (2 - (lg_sl ([.ref ys, .int (bI z)])).length) Slot.unset).toArray = ls at hl ⊢
  have hl : lv_has ls 2 [(0, .ref ys), (1, .int (bI z))] := hl
  generalize hav : ([.ref ys, .int (bI z)] : List Value).toArray = args at hC ⊢
  refine W_gen (fun QQ hQ => ?_)
  show W p l e (rmN 0) s m args below meth c s.heap [] 0 0 QQ (F0 m 0 ls [])
  refine lv_iload_n hx hb dX5_distances_0 rfl (lv_at hl 1 rfl) ?_
  refine b_if_eq (tgt := 11) hx hb dX5_distances_1 (by decide) (fun c1 => ?_) (fun c1 => ?_)
  · have _ : True := trivial
    refine lv_aload_n hx hb dX5_distances_11 rfl (lv_at hl 0 rfl) ?_
    refine gf_X5_41 hC hK hP 0 rfl rfl dX5_distances_12 ?_
    rw [hQ]
    exact W.aret (v := .ref y1) hx hb hr (Or.inl ⟨_, rfl⟩) (Or.inr ⟨_, rfl⟩) (fun t9 ht hW => ⟨⟨_, _, rfl, ⟨rfl, rfl⟩, by rw [ht]; exact hP, rfl⟩, hS.F ht⟩) hS.2.2 dX5_distances_15
  · have _ : True := trivial
    rw [hz] at c1; cases c1

set_option maxHeartbeats 400000 in
set_option maxRecDepth 100000 in
theorem c_X5_farOf_t (l : Launch) (D : va_G) (cI cJ cB : ClassId) (ys yk yp yt y1 y2 sz : Nat) (tm : Bool) (sse srm : Option Nat) (K P T : Nat → Nat) (zs zf1 zf2 : Nat) (zsl1 zgb1 zgp1 zfo1 zsu1 zgr1 zsl2 zgb2 zgp2 zfo2 zsu2 zgr2 : Int32) (Fa1 Fa2 : Nat → Option Nat) (x : Nat) (z : Bool) (hk : x < 2 ^ 35) (hT : TI 4096 hkC K sz T) (hsz : sz ≤ 2000) (hal : ∀ i, i < sz → K i < 2 ^ 35) (hh : Has K sz x) (hz : z = true) : Met l yX5_farOf (Cond.code yX5_farOf cX5_farOf 5 (some .int) :: lw_all) (rmN 1) (va_Pc [.ref ys, .long (lN x), .int (bI z)] (pB D (tyz cI cJ cB) (kfW cI cJ cB ys yk yp yt y1 y2 (nI sz) (bI tm) (gI sse) (gI srm) (fun zz => lN (K zz)) (fun zz => nI (P zz)) (fun zz => nI (T zz)) zs zsl1 zf1 zgb1 zgp1 zfo1 zsu1 zgr1 zsl2 zf2 zgb2 zgp2 zfo2 zsu2 zgr2 (fun zz => oI (Fa1 zz)) (fun zz => oI (Fa2 zz))))) (va_Qi (fun (r : Int32) (w : va_W) => ∃ i : Nat, r = oI (Fa2 i) ∧ w = kfW cI cJ cB ys yk yp yt y1 y2 (nI sz) (bI tm) (gI sse) (gI srm) (fun zz => lN (K zz)) (fun zz => nI (P zz)) (fun zz => nI (T zz)) zs zsl1 zf1 zgb1 zgp1 zfo1 zsu1 zgr1 zsl2 zf2 zgb2 zgp2 zfo2 zsu2 zgr2 (fun zz => oI (Fa1 zz)) (fun zz => oI (Fa2 zz)) ∧ i < sz ∧ K i = x) (gB D (kfW cI cJ cB ys yk yp yt y1 y2 (nI sz) (bI tm) (gI sse) (gI srm) (fun zz => lN (K zz)) (fun zz => nI (P zz)) (fun zz => nI (T zz)) zs zsl1 zf1 zgb1 zgp1 zfo1 zsu1 zgr1 zsl2 zf2 zgb2 zgp2 zfo2 zsu2 zgr2 (fun zz => oI (Fa1 zz)) (fun zz => oI (Fa2 zz)))) (aW (kfW cI cJ cB ys yk yp yt y1 y2 (nI sz) (bI tm) (gI sse) (gI srm) (fun zz => lN (K zz)) (fun zz => nI (P zz)) (fun zz => nI (T zz)) zs zsl1 zf1 zgb1 zgp1 zfo1 zsu1 zgr1 zsl2 zf2 zgb2 zgp2 zfo2 zsu2 zgr2 (fun zz => oI (Fa1 zz)) (fun zz => oI (Fa2 zz))))) 0 0 (aW (kfW cI cJ cB ys yk yp yt y1 y2 (nI sz) (bI tm) (gI sse) (gI srm) (fun zz => lN (K zz)) (fun zz => nI (P zz)) (fun zz => nI (T zz)) zs zsl1 zf1 zgb1 zgp1 zfo1 zsu1 zgr1 zsl2 zf2 zgb2 zgp2 zfo2 zsu2 zgr2 (fun zz => oI (Fa1 zz)) (fun zz => oI (Fa2 zz)))) := by
  refine Met.ofW (cc := cX5_farOf) (maxL := 5) (ret := (some .int)) (by decide) rfl ?_
  intro p e s m args below meth c s₁ B hml hv
  obtain ⟨rfl, hK, hN, hP, hD0⟩ := hv
  have hx := B.exec; have hb := B.bytes; have hr := B.returns; have hlocks := B.notSynchronized
  have hts0 := atoms_spec (ws := Cond.code yX5_farOf cX5_farOf 5 (some .int) :: lw_all) B.pre
  have hC : CallFix p m c cX5_farOf 5 s _ lw_all RX5 := ⟨hx, hb, hml, findClass_of_methodNamed B.named, fun w h => hts0 w (List.mem_cons_of_mem _ h)⟩
  have hD : va_D (aW (kfW cI cJ cB ys yk yp yt y1 y2 (nI sz) (bI tm) (gI sse) (gI srm) (fun zz => lN (K zz)) (fun zz => nI (P zz)) (fun zz => nI (T zz)) zs zsl1 zf1 zgb1 zgp1 zfo1 zsu1 zgr1 zsl2 zf2 zgb2 zgp2 zfo2 zsu2 zgr2 (fun zz => oI (Fa1 zz)) (fun zz => oI (Fa2 zz)))) (kfW cI cJ cB ys yk yp yt y1 y2 (nI sz) (bI tm) (gI sse) (gI srm) (fun zz => lN (K zz)) (fun zz => nI (P zz)) (fun zz => nI (T zz)) zs zsl1 zf1 zgb1 zgp1 zfo1 zsu1 zgr1 zsl2 zf2 zgb2 zgp2 zfo2 zsu2 zgr2 (fun zz => oI (Fa1 zz)) (fun zz => oI (Fa2 zz))) := ⟨hD0.1, fun k q h => ⟨k, q.2, h⟩⟩
  generalize hAe : aW (kfW cI cJ cB ys yk yp yt y1 y2 (nI sz) (bI tm) (gI sse) (gI srm) (fun zz => lN (K zz)) (fun zz => nI (P zz)) (fun zz => nI (T zz)) zs zsl1 zf1 zgb1 zgp1 zfo1 zsu1 zgr1 zsl2 zf2 zgb2 zgp2 zfo2 zsu2 zgr2 (fun zz => oI (Fa1 zz)) (fun zz => oI (Fa2 zz))) = A at hD ⊢
  have hS : va_S A s.heap s.heap [] := va_S.rf
  have hl := lv_entry ([.ref ys, .long (lN x), .int (bI z)]) (n := 5) (Nat.le_of_ble_eq_true rfl)
  rw [lg_entry_eq]
  generalize (lg_sl ([.ref ys, .long (lN x), .int (bI z)]) ++ List.replicate (5 - (lg_sl ([.ref ys, .long (lN x), .int (bI z)])).length) Slot.unset).toArray = ls at hl ⊢
  have hl : lv_has ls 5 [(0, .ref ys), (1, .long (lN x)), (3, .int (bI z))] := hl
  generalize hav : ([.ref ys, .long (lN x), .int (bI z)] : List Value).toArray = args at hC ⊢
  refine W_gen (fun QQ hQ => ?_)
  show W p l e (rmN 1) s m args below meth c s.heap [] 0 0 QQ (F0 m 0 ls [])
  refine lv_aload_n hx hb dX5_farOf_0 rfl (lv_at hl 0 rfl) ?_
  refine gf_X5_19 hC hK hP 0 rfl rfl dX5_farOf_1 ?_
  refine lv_aload_n hx hb dX5_farOf_4 rfl (lv_at hl 0 rfl) ?_
  refine lv_lload_n hx hb dX5_farOf_5 rfl (lv_at hl 1 rfl) ?_
  refine callV_i (As := [.long (lN x)]) (rest := [.ref yt]) [0, 1, 2, 3] hC hK hN hP hD rfl (by decide) hS 0 (ci := 5) rfl rfl rfl (c_X5_slotOf l D cI cJ cB ys yk yp yt y1 y2 sz tm sse srm K P T x (by omega) (by omega) (by omega) (by omega)) q501 md_X5_slotOf rfl hl.1 rfl (Nat.le_of_ble_eq_true rfl) dX5_farOf_6 ⟨Nat.le_of_ble_eq_true rfl, Nat.le_of_ble_eq_true rfl⟩ ⟨Nat.le_of_ble_eq_true rfl, Nat.le_of_ble_eq_true rfl⟩ (fun r_6 w H locs hpost hP hD hS => ?_)
  obtain ⟨t_6, rfl, rfl, h2t, h2w, h2f⟩ := hpost
  have hP : va_P D vwCl (kfW cI cJ cB ys yk yp yt y1 y2 (nI sz) (bI tm) (gI sse) (gI srm) (fun zz => lN (K zz)) (fun zz => nI (P zz)) (fun zz => nI (T zz)) zs zsl1 zf1 zgb1 zgp1 zfo1 zsu1 zgr1 zsl2 zf2 zgb2 zgp2 zfo2 zsu2 zgr2 (fun zz => oI (Fa1 zz)) (fun zz => oI (Fa2 zz))) H := hP
  have hD : va_D A (kfW cI cJ cB ys yk yp yt y1 y2 (nI sz) (bI tm) (gI sse) (gI srm) (fun zz => lN (K zz)) (fun zz => nI (P zz)) (fun zz => nI (T zz)) zs zsl1 zf1 zgb1 zgp1 zfo1 zsu1 zgr1 zsl2 zf2 zgb2 zgp2 zfo2 zsu2 zgr2 (fun zz => oI (Fa1 zz)) (fun zz => oI (Fa2 zz))) := hD
  obtain ⟨e1, e2, e3⟩ := TC_has hT h2w h2f hh
  refine callN_i (As := [.ref yt, .int (nI ((hkC x + t_6) % 4096))]) (rest := []) [3] hC hK hN hP hD rfl (by decide) hS (c_X7_at_N l D cI cJ cB yt 4096 ((hkC x + t_6) % 4096) T (Nat.mod_lt _ (by decide)) (by omega)) q506 md_X7_at rfl hl.1 rfl (Nat.le_of_ble_eq_true rfl) dX5_farOf_9 ⟨Nat.le_of_ble_eq_true rfl, Nat.le_of_ble_eq_true rfl⟩ ⟨Nat.le_of_ble_eq_true rfl, Nat.le_of_ble_eq_true rfl⟩ (fun r_9 w H locs hpost hP hD hS => ?_)
  obtain ⟨rfl, rfl⟩ := hpost
  have hP : va_P D vwCl (kfW cI cJ cB ys yk yp yt y1 y2 (nI sz) (bI tm) (gI sse) (gI srm) (fun zz => lN (K zz)) (fun zz => nI (P zz)) (fun zz => nI (T zz)) zs zsl1 zf1 zgb1 zgp1 zfo1 zsu1 zgr1 zsl2 zf2 zgb2 zgp2 zfo2 zsu2 zgr2 (fun zz => oI (Fa1 zz)) (fun zz => oI (Fa2 zz))) H := hP
  have hD : va_D A (kfW cI cJ cB ys yk yp yt y1 y2 (nI sz) (bI tm) (gI sse) (gI srm) (fun zz => lN (K zz)) (fun zz => nI (P zz)) (fun zz => nI (T zz)) zs zsl1 zf1 zgb1 zgp1 zfo1 zsu1 zgr1 zsl2 zf2 zgb2 zgp2 zfo2 zsu2 zgr2 (fun zz => oI (Fa1 zz)) (fun zz => oI (Fa2 zz))) := hD
  refine lv_iconst (v := nI 1) hx hb dX5_farOf_12 (by decide) ?_
  refine n_isub hx hb dX5_farOf_13 (by omega) ?_
  refine lv_istore (lv' := [(4, .int (nI ((T ((hkC x + t_6) % 4096)) - 1))), (0, .ref ys), (1, .long (lN x)), (3, .int (bI z))]) hx hb dX5_farOf_14 hl (by decide) rfl (fun ls hl => ?_)
  refine lv_iload hx hb dX5_farOf_16 (lv_at hl 0 rfl) ?_
  refine n_if_ge (tgt := 26) hx hb dX5_farOf_18 (by decide) (by omega) ?_
  refine lv_aload_n hx hb dX5_farOf_26 rfl (lv_at hl 1 rfl) ?_
  refine lv_iload_n hx hb dX5_farOf_27 rfl (lv_at hl 3 rfl) ?_
  refine callV_q (As := [.int (bI z)]) (rest := []) [0] hC hK hN hP hD rfl (by decide) hS 0 (ci := 5) rfl rfl rfl (c_X5_distances_t l D cI cJ cB ys yk yp yt y1 y2 (nI sz) (bI tm) (gI sse) (gI srm) z hz) q607 md_X5_distances rfl hl.1 rfl (Nat.le_of_ble_eq_true rfl) dX5_farOf_28 ⟨Nat.le_of_ble_eq_true rfl, Nat.le_of_ble_eq_true rfl⟩ ⟨Nat.le_of_ble_eq_true rfl, Nat.le_of_ble_eq_true rfl⟩ (fun r_28 w H locs hpost hP hD hS => ?_)
  obtain ⟨rfl, rfl⟩ := hpost
  have hP : va_P D vwCl (kfW cI cJ cB ys yk yp yt y1 y2 (nI sz) (bI tm) (gI sse) (gI srm) (fun zz => lN (K zz)) (fun zz => nI (P zz)) (fun zz => nI (T zz)) zs zsl1 zf1 zgb1 zgp1 zfo1 zsu1 zgr1 zsl2 zf2 zgb2 zgp2 zfo2 zsu2 zgr2 (fun zz => oI (Fa1 zz)) (fun zz => oI (Fa2 zz))) H := hP
  have hD : va_D A (kfW cI cJ cB ys yk yp yt y1 y2 (nI sz) (bI tm) (gI sse) (gI srm) (fun zz => lN (K zz)) (fun zz => nI (P zz)) (fun zz => nI (T zz)) zs zsl1 zf1 zgb1 zgp1 zfo1 zsu1 zgr1 zsl2 zf2 zgb2 zgp2 zfo2 zsu2 zgr2 (fun zz => oI (Fa1 zz)) (fun zz => oI (Fa2 zz))) := hD
  refine gf_X5_124 hC hK hP 5 rfl rfl dX5_farOf_31 ?_
  refine lv_iload hx hb dX5_farOf_34 (lv_at hl 0 rfl) ?_
  refine callN_i (As := [.ref zf2, .int (nI ((T ((hkC x + t_6) % 4096)) - 1))]) (rest := []) [7] hC hK hN hP hD rfl (by decide) hS (c_X7_at_O l D cI cJ cB zf2 2000 ((T ((hkC x + t_6) % 4096)) - 1) Fa2 (by omega) (by omega)) q506 md_X7_at rfl hl.1 rfl (Nat.le_of_ble_eq_true rfl) dX5_farOf_36 ⟨Nat.le_of_ble_eq_true rfl, Nat.le_of_ble_eq_true rfl⟩ ⟨Nat.le_of_ble_eq_true rfl, Nat.le_of_ble_eq_true rfl⟩ (fun r_36 w H locs hpost hP hD hS => ?_)
  obtain ⟨rfl, rfl⟩ := hpost
  have hP : va_P D vwCl (kfW cI cJ cB ys yk yp yt y1 y2 (nI sz) (bI tm) (gI sse) (gI srm) (fun zz => lN (K zz)) (fun zz => nI (P zz)) (fun zz => nI (T zz)) zs zsl1 zf1 zgb1 zgp1 zfo1 zsu1 zgr1 zsl2 zf2 zgb2 zgp2 zfo2 zsu2 zgr2 (fun zz => oI (Fa1 zz)) (fun zz => oI (Fa2 zz))) H := hP
  have hD : va_D A (kfW cI cJ cB ys yk yp yt y1 y2 (nI sz) (bI tm) (gI sse) (gI srm) (fun zz => lN (K zz)) (fun zz => nI (P zz)) (fun zz => nI (T zz)) zs zsl1 zf1 zgb1 zgp1 zfo1 zsu1 zgr1 zsl2 zf2 zgb2 zgp2 zfo2 zsu2 zgr2 (fun zz => oI (Fa1 zz)) (fun zz => oI (Fa2 zz))) := hD
  rw [hQ]
  exact W.iret (v := oI (Fa2 ((T ((hkC x + t_6) % 4096)) - 1))) hx hb hr (fun t9 ht hW => ⟨⟨_, _, rfl, ⟨(T ((hkC x + t_6) % 4096) - 1), rfl, rfl, (by omega), e3⟩, by rw [ht]; exact hP, rfl⟩, hS.F ht⟩) hS.2.2 dX5_farOf_39

set_option maxHeartbeats 400000 in
set_option maxRecDepth 100000 in
theorem c_X5_farOf_f (l : Launch) (D : va_G) (cI cJ cB : ClassId) (ys yk yp yt y1 y2 sz : Nat) (tm : Bool) (sse srm : Option Nat) (K P T : Nat → Nat) (zs zf1 zf2 : Nat) (zsl1 zgb1 zgp1 zfo1 zsu1 zgr1 zsl2 zgb2 zgp2 zfo2 zsu2 zgr2 : Int32) (Fa1 Fa2 : Nat → Option Nat) (x : Nat) (z : Bool) (hk : x < 2 ^ 35) (hT : TI 4096 hkC K sz T) (hsz : sz ≤ 2000) (hal : ∀ i, i < sz → K i < 2 ^ 35) (hh : Has K sz x) (hz : z = false) : Met l yX5_farOf (Cond.code yX5_farOf cX5_farOf 5 (some .int) :: lw_all) (rmN 1) (va_Pc [.ref ys, .long (lN x), .int (bI z)] (pB D (tyz cI cJ cB) (kfW cI cJ cB ys yk yp yt y1 y2 (nI sz) (bI tm) (gI sse) (gI srm) (fun zz => lN (K zz)) (fun zz => nI (P zz)) (fun zz => nI (T zz)) zs zsl1 zf1 zgb1 zgp1 zfo1 zsu1 zgr1 zsl2 zf2 zgb2 zgp2 zfo2 zsu2 zgr2 (fun zz => oI (Fa1 zz)) (fun zz => oI (Fa2 zz))))) (va_Qi (fun (r : Int32) (w : va_W) => ∃ i : Nat, r = oI (Fa1 i) ∧ w = kfW cI cJ cB ys yk yp yt y1 y2 (nI sz) (bI tm) (gI sse) (gI srm) (fun zz => lN (K zz)) (fun zz => nI (P zz)) (fun zz => nI (T zz)) zs zsl1 zf1 zgb1 zgp1 zfo1 zsu1 zgr1 zsl2 zf2 zgb2 zgp2 zfo2 zsu2 zgr2 (fun zz => oI (Fa1 zz)) (fun zz => oI (Fa2 zz)) ∧ i < sz ∧ K i = x) (gB D (kfW cI cJ cB ys yk yp yt y1 y2 (nI sz) (bI tm) (gI sse) (gI srm) (fun zz => lN (K zz)) (fun zz => nI (P zz)) (fun zz => nI (T zz)) zs zsl1 zf1 zgb1 zgp1 zfo1 zsu1 zgr1 zsl2 zf2 zgb2 zgp2 zfo2 zsu2 zgr2 (fun zz => oI (Fa1 zz)) (fun zz => oI (Fa2 zz)))) (aW (kfW cI cJ cB ys yk yp yt y1 y2 (nI sz) (bI tm) (gI sse) (gI srm) (fun zz => lN (K zz)) (fun zz => nI (P zz)) (fun zz => nI (T zz)) zs zsl1 zf1 zgb1 zgp1 zfo1 zsu1 zgr1 zsl2 zf2 zgb2 zgp2 zfo2 zsu2 zgr2 (fun zz => oI (Fa1 zz)) (fun zz => oI (Fa2 zz))))) 0 0 (aW (kfW cI cJ cB ys yk yp yt y1 y2 (nI sz) (bI tm) (gI sse) (gI srm) (fun zz => lN (K zz)) (fun zz => nI (P zz)) (fun zz => nI (T zz)) zs zsl1 zf1 zgb1 zgp1 zfo1 zsu1 zgr1 zsl2 zf2 zgb2 zgp2 zfo2 zsu2 zgr2 (fun zz => oI (Fa1 zz)) (fun zz => oI (Fa2 zz)))) := by
  refine Met.ofW (cc := cX5_farOf) (maxL := 5) (ret := (some .int)) (by decide) rfl ?_
  intro p e s m args below meth c s₁ B hml hv
  obtain ⟨rfl, hK, hN, hP, hD0⟩ := hv
  have hx := B.exec; have hb := B.bytes; have hr := B.returns; have hlocks := B.notSynchronized
  have hts0 := atoms_spec (ws := Cond.code yX5_farOf cX5_farOf 5 (some .int) :: lw_all) B.pre
  have hC : CallFix p m c cX5_farOf 5 s _ lw_all RX5 := ⟨hx, hb, hml, findClass_of_methodNamed B.named, fun w h => hts0 w (List.mem_cons_of_mem _ h)⟩
  have hD : va_D (aW (kfW cI cJ cB ys yk yp yt y1 y2 (nI sz) (bI tm) (gI sse) (gI srm) (fun zz => lN (K zz)) (fun zz => nI (P zz)) (fun zz => nI (T zz)) zs zsl1 zf1 zgb1 zgp1 zfo1 zsu1 zgr1 zsl2 zf2 zgb2 zgp2 zfo2 zsu2 zgr2 (fun zz => oI (Fa1 zz)) (fun zz => oI (Fa2 zz)))) (kfW cI cJ cB ys yk yp yt y1 y2 (nI sz) (bI tm) (gI sse) (gI srm) (fun zz => lN (K zz)) (fun zz => nI (P zz)) (fun zz => nI (T zz)) zs zsl1 zf1 zgb1 zgp1 zfo1 zsu1 zgr1 zsl2 zf2 zgb2 zgp2 zfo2 zsu2 zgr2 (fun zz => oI (Fa1 zz)) (fun zz => oI (Fa2 zz))) := ⟨hD0.1, fun k q h => ⟨k, q.2, h⟩⟩
  generalize hAe : aW (kfW cI cJ cB ys yk yp yt y1 y2 (nI sz) (bI tm) (gI sse) (gI srm) (fun zz => lN (K zz)) (fun zz => nI (P zz)) (fun zz => nI (T zz)) zs zsl1 zf1 zgb1 zgp1 zfo1 zsu1 zgr1 zsl2 zf2 zgb2 zgp2 zfo2 zsu2 zgr2 (fun zz => oI (Fa1 zz)) (fun zz => oI (Fa2 zz))) = A at hD ⊢
  have hS : va_S A s.heap s.heap [] := va_S.rf
  have hl := lv_entry ([.ref ys, .long (lN x), .int (bI z)]) (n := 5) (Nat.le_of_ble_eq_true rfl)
  rw [lg_entry_eq]
  generalize (lg_sl ([.ref ys, .long (lN x), .int (bI z)]) ++ List.replicate (5 - (lg_sl ([.ref ys, .long (lN x), .int (bI z)])).length) Slot.unset).toArray = ls at hl ⊢
  have hl : lv_has ls 5 [(0, .ref ys), (1, .long (lN x)), (3, .int (bI z))] := hl
  generalize hav : ([.ref ys, .long (lN x), .int (bI z)] : List Value).toArray = args at hC ⊢
  refine W_gen (fun QQ hQ => ?_)
  show W p l e (rmN 1) s m args below meth c s.heap [] 0 0 QQ (F0 m 0 ls [])
  refine lv_aload_n hx hb dX5_farOf_0 rfl (lv_at hl 0 rfl) ?_
  refine gf_X5_19 hC hK hP 0 rfl rfl dX5_farOf_1 ?_
  refine lv_aload_n hx hb dX5_farOf_4 rfl (lv_at hl 0 rfl) ?_
  refine lv_lload_n hx hb dX5_farOf_5 rfl (lv_at hl 1 rfl) ?_
  refine callV_i (As := [.long (lN x)]) (rest := [.ref yt]) [0, 1, 2, 3] hC hK hN hP hD rfl (by decide) hS 0 (ci := 5) rfl rfl rfl (c_X5_slotOf l D cI cJ cB ys yk yp yt y1 y2 sz tm sse srm K P T x (by omega) (by omega) (by omega) (by omega)) q501 md_X5_slotOf rfl hl.1 rfl (Nat.le_of_ble_eq_true rfl) dX5_farOf_6 ⟨Nat.le_of_ble_eq_true rfl, Nat.le_of_ble_eq_true rfl⟩ ⟨Nat.le_of_ble_eq_true rfl, Nat.le_of_ble_eq_true rfl⟩ (fun r_6 w H locs hpost hP hD hS => ?_)
  obtain ⟨t_6, rfl, rfl, h2t, h2w, h2f⟩ := hpost
  have hP : va_P D vwCl (kfW cI cJ cB ys yk yp yt y1 y2 (nI sz) (bI tm) (gI sse) (gI srm) (fun zz => lN (K zz)) (fun zz => nI (P zz)) (fun zz => nI (T zz)) zs zsl1 zf1 zgb1 zgp1 zfo1 zsu1 zgr1 zsl2 zf2 zgb2 zgp2 zfo2 zsu2 zgr2 (fun zz => oI (Fa1 zz)) (fun zz => oI (Fa2 zz))) H := hP
  have hD : va_D A (kfW cI cJ cB ys yk yp yt y1 y2 (nI sz) (bI tm) (gI sse) (gI srm) (fun zz => lN (K zz)) (fun zz => nI (P zz)) (fun zz => nI (T zz)) zs zsl1 zf1 zgb1 zgp1 zfo1 zsu1 zgr1 zsl2 zf2 zgb2 zgp2 zfo2 zsu2 zgr2 (fun zz => oI (Fa1 zz)) (fun zz => oI (Fa2 zz))) := hD
  obtain ⟨e1, e2, e3⟩ := TC_has hT h2w h2f hh
  refine callN_i (As := [.ref yt, .int (nI ((hkC x + t_6) % 4096))]) (rest := []) [3] hC hK hN hP hD rfl (by decide) hS (c_X7_at_N l D cI cJ cB yt 4096 ((hkC x + t_6) % 4096) T (Nat.mod_lt _ (by decide)) (by omega)) q506 md_X7_at rfl hl.1 rfl (Nat.le_of_ble_eq_true rfl) dX5_farOf_9 ⟨Nat.le_of_ble_eq_true rfl, Nat.le_of_ble_eq_true rfl⟩ ⟨Nat.le_of_ble_eq_true rfl, Nat.le_of_ble_eq_true rfl⟩ (fun r_9 w H locs hpost hP hD hS => ?_)
  obtain ⟨rfl, rfl⟩ := hpost
  have hP : va_P D vwCl (kfW cI cJ cB ys yk yp yt y1 y2 (nI sz) (bI tm) (gI sse) (gI srm) (fun zz => lN (K zz)) (fun zz => nI (P zz)) (fun zz => nI (T zz)) zs zsl1 zf1 zgb1 zgp1 zfo1 zsu1 zgr1 zsl2 zf2 zgb2 zgp2 zfo2 zsu2 zgr2 (fun zz => oI (Fa1 zz)) (fun zz => oI (Fa2 zz))) H := hP
  have hD : va_D A (kfW cI cJ cB ys yk yp yt y1 y2 (nI sz) (bI tm) (gI sse) (gI srm) (fun zz => lN (K zz)) (fun zz => nI (P zz)) (fun zz => nI (T zz)) zs zsl1 zf1 zgb1 zgp1 zfo1 zsu1 zgr1 zsl2 zf2 zgb2 zgp2 zfo2 zsu2 zgr2 (fun zz => oI (Fa1 zz)) (fun zz => oI (Fa2 zz))) := hD
  refine lv_iconst (v := nI 1) hx hb dX5_farOf_12 (by decide) ?_
  refine n_isub hx hb dX5_farOf_13 (by omega) ?_
  refine lv_istore (lv' := [(4, .int (nI ((T ((hkC x + t_6) % 4096)) - 1))), (0, .ref ys), (1, .long (lN x)), (3, .int (bI z))]) hx hb dX5_farOf_14 hl (by decide) rfl (fun ls hl => ?_)
  refine lv_iload hx hb dX5_farOf_16 (lv_at hl 0 rfl) ?_
  refine n_if_ge (tgt := 26) hx hb dX5_farOf_18 (by decide) (by omega) ?_
  refine lv_aload_n hx hb dX5_farOf_26 rfl (lv_at hl 1 rfl) ?_
  refine lv_iload_n hx hb dX5_farOf_27 rfl (lv_at hl 3 rfl) ?_
  refine callV_q (As := [.int (bI z)]) (rest := []) [0] hC hK hN hP hD rfl (by decide) hS 0 (ci := 5) rfl rfl rfl (c_X5_distances_f l D cI cJ cB ys yk yp yt y1 y2 (nI sz) (bI tm) (gI sse) (gI srm) z hz) q607 md_X5_distances rfl hl.1 rfl (Nat.le_of_ble_eq_true rfl) dX5_farOf_28 ⟨Nat.le_of_ble_eq_true rfl, Nat.le_of_ble_eq_true rfl⟩ ⟨Nat.le_of_ble_eq_true rfl, Nat.le_of_ble_eq_true rfl⟩ (fun r_28 w H locs hpost hP hD hS => ?_)
  obtain ⟨rfl, rfl⟩ := hpost
  have hP : va_P D vwCl (kfW cI cJ cB ys yk yp yt y1 y2 (nI sz) (bI tm) (gI sse) (gI srm) (fun zz => lN (K zz)) (fun zz => nI (P zz)) (fun zz => nI (T zz)) zs zsl1 zf1 zgb1 zgp1 zfo1 zsu1 zgr1 zsl2 zf2 zgb2 zgp2 zfo2 zsu2 zgr2 (fun zz => oI (Fa1 zz)) (fun zz => oI (Fa2 zz))) H := hP
  have hD : va_D A (kfW cI cJ cB ys yk yp yt y1 y2 (nI sz) (bI tm) (gI sse) (gI srm) (fun zz => lN (K zz)) (fun zz => nI (P zz)) (fun zz => nI (T zz)) zs zsl1 zf1 zgb1 zgp1 zfo1 zsu1 zgr1 zsl2 zf2 zgb2 zgp2 zfo2 zsu2 zgr2 (fun zz => oI (Fa1 zz)) (fun zz => oI (Fa2 zz))) := hD
  refine gf_X5_124 hC hK hP 4 rfl rfl dX5_farOf_31 ?_
  refine lv_iload hx hb dX5_farOf_34 (lv_at hl 0 rfl) ?_
  refine callN_i (As := [.ref zf1, .int (nI ((T ((hkC x + t_6) % 4096)) - 1))]) (rest := []) [6] hC hK hN hP hD rfl (by decide) hS (c_X7_at_O l D cI cJ cB zf1 2000 ((T ((hkC x + t_6) % 4096)) - 1) Fa1 (by omega) (by omega)) q506 md_X7_at rfl hl.1 rfl (Nat.le_of_ble_eq_true rfl) dX5_farOf_36 ⟨Nat.le_of_ble_eq_true rfl, Nat.le_of_ble_eq_true rfl⟩ ⟨Nat.le_of_ble_eq_true rfl, Nat.le_of_ble_eq_true rfl⟩ (fun r_36 w H locs hpost hP hD hS => ?_)
  obtain ⟨rfl, rfl⟩ := hpost
  have hP : va_P D vwCl (kfW cI cJ cB ys yk yp yt y1 y2 (nI sz) (bI tm) (gI sse) (gI srm) (fun zz => lN (K zz)) (fun zz => nI (P zz)) (fun zz => nI (T zz)) zs zsl1 zf1 zgb1 zgp1 zfo1 zsu1 zgr1 zsl2 zf2 zgb2 zgp2 zfo2 zsu2 zgr2 (fun zz => oI (Fa1 zz)) (fun zz => oI (Fa2 zz))) H := hP
  have hD : va_D A (kfW cI cJ cB ys yk yp yt y1 y2 (nI sz) (bI tm) (gI sse) (gI srm) (fun zz => lN (K zz)) (fun zz => nI (P zz)) (fun zz => nI (T zz)) zs zsl1 zf1 zgb1 zgp1 zfo1 zsu1 zgr1 zsl2 zf2 zgb2 zgp2 zfo2 zsu2 zgr2 (fun zz => oI (Fa1 zz)) (fun zz => oI (Fa2 zz))) := hD
  rw [hQ]
  exact W.iret (v := oI (Fa1 ((T ((hkC x + t_6) % 4096)) - 1))) hx hb hr (fun t9 ht hW => ⟨⟨_, _, rfl, ⟨(T ((hkC x + t_6) % 4096) - 1), rfl, rfl, (by omega), e3⟩, by rw [ht]; exact hP, rfl⟩, hS.F ht⟩) hS.2.2 dX5_farOf_39

set_option maxHeartbeats 400000 in
set_option maxRecDepth 100000 in
theorem c_X5_firstFar_t (l : Launch) (D : va_G) (cI cJ cB : ClassId) (ys yk yp yt y1 y2 sz : Nat) (tm : Bool) (sse srm : Option Nat) (K P T : Nat → Nat) (zs zf1 zf2 : Nat) (zsl1 zgb1 zgp1 zfo1 zsu1 zgr1 zsl2 zgb2 zgp2 zfo2 zsu2 zgr2 : Int32) (Fa1 Fa2 : Nat → Option Nat) (w9 : Nat) (z : Bool) (hsz : sz ≤ 2000) (hal : ∀ i, i < sz → K i < 2 ^ 35) (hF : ∀ i d, Fa2 i = some d → d < 2000) (hw9 : w9 < 2000) (hex : ∃ i, i < sz ∧ Fa2 i = some w9) (hz : z = true) : Met l yX5_firstFar (Cond.code yX5_firstFar cX5_firstFar 9 (some .long) :: lw_all) (rmN 1) (va_Pc [.ref ys, .int (bI z), .int (nI w9)] (pB D (tyz cI cJ cB) (kfW cI cJ cB ys yk yp yt y1 y2 (nI sz) (bI tm) (gI sse) (gI srm) (fun zz => lN (K zz)) (fun zz => nI (P zz)) (fun zz => nI (T zz)) zs zsl1 zf1 zgb1 zgp1 zfo1 zsu1 zgr1 zsl2 zf2 zgb2 zgp2 zfo2 zsu2 zgr2 (fun zz => oI (Fa1 zz)) (fun zz => oI (Fa2 zz))))) (va_Ql (fun (r : Int64) (w : va_W) => ∃ i : Nat, r = lN (K i) ∧ w = kfW cI cJ cB ys yk yp yt y1 y2 (nI sz) (bI tm) (gI sse) (gI srm) (fun zz => lN (K zz)) (fun zz => nI (P zz)) (fun zz => nI (T zz)) zs zsl1 zf1 zgb1 zgp1 zfo1 zsu1 zgr1 zsl2 zf2 zgb2 zgp2 zfo2 zsu2 zgr2 (fun zz => oI (Fa1 zz)) (fun zz => oI (Fa2 zz)) ∧ i < sz ∧ Fa2 i = some w9 ∧ (∀ j, j < sz → Fa2 j = some w9 → K i ≤ K j)) (gB D (kfW cI cJ cB ys yk yp yt y1 y2 (nI sz) (bI tm) (gI sse) (gI srm) (fun zz => lN (K zz)) (fun zz => nI (P zz)) (fun zz => nI (T zz)) zs zsl1 zf1 zgb1 zgp1 zfo1 zsu1 zgr1 zsl2 zf2 zgb2 zgp2 zfo2 zsu2 zgr2 (fun zz => oI (Fa1 zz)) (fun zz => oI (Fa2 zz)))) (aW (kfW cI cJ cB ys yk yp yt y1 y2 (nI sz) (bI tm) (gI sse) (gI srm) (fun zz => lN (K zz)) (fun zz => nI (P zz)) (fun zz => nI (T zz)) zs zsl1 zf1 zgb1 zgp1 zfo1 zsu1 zgr1 zsl2 zf2 zgb2 zgp2 zfo2 zsu2 zgr2 (fun zz => oI (Fa1 zz)) (fun zz => oI (Fa2 zz))))) 0 0 (aW (kfW cI cJ cB ys yk yp yt y1 y2 (nI sz) (bI tm) (gI sse) (gI srm) (fun zz => lN (K zz)) (fun zz => nI (P zz)) (fun zz => nI (T zz)) zs zsl1 zf1 zgb1 zgp1 zfo1 zsu1 zgr1 zsl2 zf2 zgb2 zgp2 zfo2 zsu2 zgr2 (fun zz => oI (Fa1 zz)) (fun zz => oI (Fa2 zz)))) := by
  refine Met.ofW (cc := cX5_firstFar) (maxL := 9) (ret := (some .long)) (by decide) rfl ?_
  intro p e s m args below meth c s₁ B hml hv
  obtain ⟨rfl, hK, hN, hP, hD0⟩ := hv
  have hx := B.exec; have hb := B.bytes; have hr := B.returns; have hlocks := B.notSynchronized
  have hts0 := atoms_spec (ws := Cond.code yX5_firstFar cX5_firstFar 9 (some .long) :: lw_all) B.pre
  have hC : CallFix p m c cX5_firstFar 9 s _ lw_all RX5 := ⟨hx, hb, hml, findClass_of_methodNamed B.named, fun w h => hts0 w (List.mem_cons_of_mem _ h)⟩
  have hD : va_D (aW (kfW cI cJ cB ys yk yp yt y1 y2 (nI sz) (bI tm) (gI sse) (gI srm) (fun zz => lN (K zz)) (fun zz => nI (P zz)) (fun zz => nI (T zz)) zs zsl1 zf1 zgb1 zgp1 zfo1 zsu1 zgr1 zsl2 zf2 zgb2 zgp2 zfo2 zsu2 zgr2 (fun zz => oI (Fa1 zz)) (fun zz => oI (Fa2 zz)))) (kfW cI cJ cB ys yk yp yt y1 y2 (nI sz) (bI tm) (gI sse) (gI srm) (fun zz => lN (K zz)) (fun zz => nI (P zz)) (fun zz => nI (T zz)) zs zsl1 zf1 zgb1 zgp1 zfo1 zsu1 zgr1 zsl2 zf2 zgb2 zgp2 zfo2 zsu2 zgr2 (fun zz => oI (Fa1 zz)) (fun zz => oI (Fa2 zz))) := ⟨hD0.1, fun k q h => ⟨k, q.2, h⟩⟩
  generalize hAe : aW (kfW cI cJ cB ys yk yp yt y1 y2 (nI sz) (bI tm) (gI sse) (gI srm) (fun zz => lN (K zz)) (fun zz => nI (P zz)) (fun zz => nI (T zz)) zs zsl1 zf1 zgb1 zgp1 zfo1 zsu1 zgr1 zsl2 zf2 zgb2 zgp2 zfo2 zsu2 zgr2 (fun zz => oI (Fa1 zz)) (fun zz => oI (Fa2 zz))) = A at hD ⊢
  have hS : va_S A s.heap s.heap [] := va_S.rf
  have hl := lv_entry ([.ref ys, .int (bI z), .int (nI w9)]) (n := 9) (Nat.le_of_ble_eq_true rfl)
  rw [lg_entry_eq]
  generalize (lg_sl ([.ref ys, .int (bI z), .int (nI w9)]) ++ List.replicate (9 - (lg_sl ([.ref ys, .int (bI z), .int (nI w9)])).length) Slot.unset).toArray = ls at hl ⊢
  have hl : lv_has ls 9 [(0, .ref ys), (1, .int (bI z)), (2, .int (nI w9))] := hl
  generalize hav : ([.ref ys, .int (bI z), .int (nI w9)] : List Value).toArray = args at hC ⊢
  refine W_gen (fun QQ hQ => ?_)
  show W p l e (rmN 1) s m args below meth c s.heap [] 0 0 QQ (F0 m 0 ls [])
  refine lv_aload_n hx hb dX5_firstFar_0 rfl (lv_at hl 0 rfl) ?_
  refine lv_iload_n hx hb dX5_firstFar_1 rfl (lv_at hl 1 rfl) ?_
  refine callV_q (As := [.int (bI z)]) (rest := []) [0] hC hK hN hP hD rfl (by decide) hS 0 (ci := 5) rfl rfl rfl (c_X5_distances_t l D cI cJ cB ys yk yp yt y1 y2 (nI sz) (bI tm) (gI sse) (gI srm) z hz) q607 md_X5_distances rfl hl.1 rfl (Nat.le_of_ble_eq_true rfl) dX5_firstFar_2 ⟨Nat.le_of_ble_eq_true rfl, Nat.le_of_ble_eq_true rfl⟩ ⟨Nat.le_of_ble_eq_true rfl, Nat.le_of_ble_eq_true rfl⟩ (fun r_2 w H locs hpost hP hD hS => ?_)
  obtain ⟨rfl, rfl⟩ := hpost
  have hP : va_P D vwCl (kfW cI cJ cB ys yk yp yt y1 y2 (nI sz) (bI tm) (gI sse) (gI srm) (fun zz => lN (K zz)) (fun zz => nI (P zz)) (fun zz => nI (T zz)) zs zsl1 zf1 zgb1 zgp1 zfo1 zsu1 zgr1 zsl2 zf2 zgb2 zgp2 zfo2 zsu2 zgr2 (fun zz => oI (Fa1 zz)) (fun zz => oI (Fa2 zz))) H := hP
  have hD : va_D A (kfW cI cJ cB ys yk yp yt y1 y2 (nI sz) (bI tm) (gI sse) (gI srm) (fun zz => lN (K zz)) (fun zz => nI (P zz)) (fun zz => nI (T zz)) zs zsl1 zf1 zgb1 zgp1 zfo1 zsu1 zgr1 zsl2 zf2 zgb2 zgp2 zfo2 zsu2 zgr2 (fun zz => oI (Fa1 zz)) (fun zz => oI (Fa2 zz))) := hD
  refine gf_X5_124 hC hK hP 5 rfl rfl dX5_firstFar_5 ?_
  refine lv_astore_n (lv' := [(3, .ref zf2), (0, .ref ys), (1, .int (bI z)), (2, .int (nI w9))]) hx hb dX5_firstFar_8 rfl hl (by decide) rfl (fun ls hl => ?_)
  refine lv_ldc2 (v := (-1)) hx hb hC.2.2.2.1 (hC.2.2.2.2 _ q671) dX5_firstFar_9 ?_
  refine lv_lstore (lv' := [(4, .long (-1)), (3, .ref zf2), (0, .ref ys), (1, .int (bI z)), (2, .int (nI w9))]) hx hb dX5_firstFar_12 hl (by decide) rfl (fun ls hl => ?_)
  refine lv_iconst (v := nI 0) hx hb dX5_firstFar_14 (by decide) ?_
  refine lv_istore (lv' := [(6, .int (nI 0)), (4, .long (-1)), (3, .ref zf2), (0, .ref ys), (1, .int (bI z)), (2, .int (nI w9))]) hx hb dX5_firstFar_15 hl (by decide) rfl (fun ls hl => ?_)
  have L17 : ∀ (n : Nat) (i : Nat) (bs : Option Nat), (i ≤ sz) → (HB K Fa2 w9 bs i) → (sz - i) < n → ∀ (H : Heap) (locs : List Loc), va_P D vwCl (kfW cI cJ cB ys yk yp yt y1 y2 (nI sz) (bI tm) (gI sse) (gI srm) (fun zz => lN (K zz)) (fun zz => nI (P zz)) (fun zz => nI (T zz)) zs zsl1 zf1 zgb1 zgp1 zfo1 zsu1 zgr1 zsl2 zf2 zgb2 zgp2 zfo2 zsu2 zgr2 (fun zz => oI (Fa1 zz)) (fun zz => oI (Fa2 zz))) H → va_D A (kfW cI cJ cB ys yk yp yt y1 y2 (nI sz) (bI tm) (gI sse) (gI srm) (fun zz => lN (K zz)) (fun zz => nI (P zz)) (fun zz => nI (T zz)) zs zsl1 zf1 zgb1 zgp1 zfo1 zsu1 zgr1 zsl2 zf2 zgb2 zgp2 zfo2 zsu2 zgr2 (fun zz => oI (Fa1 zz)) (fun zz => oI (Fa2 zz))) → va_S A s.heap H locs → ∀ ls : Array Slot, lv_has ls 9 [(4, .long (lK K bs)), (6, .int (nI i)), (3, .ref zf2), (0, .ref ys), (1, .int (bI z)), (2, .int (nI w9))] → W p l e (rmN 1) s m args below meth c H locs 0 0 QQ (F0 m 17 ls []) := by
    intro n; induction n with
    | zero => intro i bs ii iB hm; exact absurd hm (Nat.not_lt_zero _)
    | succ n ih17 =>
      intro i bs ii iB hm17 H locs hP hD hS ls hl
      refine lv_iload hx hb dX5_firstFar_17 (lv_at hl 1 rfl) ?_
      refine lv_aload_n hx hb dX5_firstFar_19 rfl (lv_at hl 3 rfl) ?_
      refine gf_X5_22 hC hK hP 0 rfl rfl dX5_firstFar_20 ?_
      refine n_icmp_ge (a := i) (b := sz) (tgt := 72) hx hb dX5_firstFar_23 (by decide) (by omega) (by omega) (fun c23 => ?_) (fun c23 => ?_)
      · have _ : True := trivial
        have e23 : i = sz := by omega
        obtain ⟨b9, h1, h2, h3, h4⟩ := HB_some (K := K) (by rw [← e23]; exact iB) hex
        rw [h1] at hl
        refine lv_lload hx hb dX5_firstFar_72 (lv_at hl 0 rfl) ?_
        rw [hQ]
        exact W.lret (v := lN (K b9)) hx hb hr (fun t9 ht hW => ⟨⟨_, _, rfl, ⟨b9, rfl, rfl, h2, h3, h4⟩, by rw [ht]; exact hP, rfl⟩, hS.F ht⟩) hS.2.2 dX5_firstFar_74
      · have _ : True := trivial
        rcases hbs : bs with _ | b9
        · have _ : True := trivial
          rw [hbs] at hl
          refine lv_aload_n hx hb dX5_firstFar_26 rfl (lv_at hl 3 rfl) ?_
          refine gf_X5_9 hC hK hP 0 rfl rfl dX5_firstFar_27 ?_
          refine lv_iload hx hb dX5_firstFar_30 (lv_at hl 1 rfl) ?_
          refine callN_l (As := [.ref yk, .int (nI i)]) (rest := []) [1] hC hK hN hP hD rfl (by decide) hS (c_X7_at_L l D cI cJ cB yk 2000 i K (by omega) (by omega)) q515 md_X7_at_ rfl hl.1 rfl (Nat.le_of_ble_eq_true rfl) dX5_firstFar_32 ⟨Nat.le_of_ble_eq_true rfl, Nat.le_of_ble_eq_true rfl⟩ ⟨Nat.le_of_ble_eq_true rfl, Nat.le_of_ble_eq_true rfl⟩ (fun r_32 w H locs hpost hP hD hS => ?_)
          obtain ⟨rfl, rfl⟩ := hpost
          have hP : va_P D vwCl (kfW cI cJ cB ys yk yp yt y1 y2 (nI sz) (bI tm) (gI sse) (gI srm) (fun zz => lN (K zz)) (fun zz => nI (P zz)) (fun zz => nI (T zz)) zs zsl1 zf1 zgb1 zgp1 zfo1 zsu1 zgr1 zsl2 zf2 zgb2 zgp2 zfo2 zsu2 zgr2 (fun zz => oI (Fa1 zz)) (fun zz => oI (Fa2 zz))) H := hP
          have hD : va_D A (kfW cI cJ cB ys yk yp yt y1 y2 (nI sz) (bI tm) (gI sse) (gI srm) (fun zz => lN (K zz)) (fun zz => nI (P zz)) (fun zz => nI (T zz)) zs zsl1 zf1 zgb1 zgp1 zfo1 zsu1 zgr1 zsl2 zf2 zgb2 zgp2 zfo2 zsu2 zgr2 (fun zz => oI (Fa1 zz)) (fun zz => oI (Fa2 zz))) := hD
          refine lv_lstore (lv' := [(7, .long (lN (K i))), (4, .long (lK K none)), (6, .int (nI i)), (3, .ref zf2), (0, .ref ys), (1, .int (bI z)), (2, .int (nI w9))]) hx hb dX5_firstFar_35 hl (by decide) rfl (fun ls hl => ?_)
          refine lv_aload_n hx hb dX5_firstFar_37 rfl (lv_at hl 3 rfl) ?_
          refine lv_iload hx hb dX5_firstFar_38 (lv_at hl 2 rfl) ?_
          refine callN_i (As := [.ref zf2, .int (nI i)]) (rest := []) [7] hC hK hN hP hD rfl (by decide) hS (c_X7_at_O l D cI cJ cB zf2 2000 i Fa2 (by omega) (by omega)) q506 md_X7_at rfl hl.1 rfl (Nat.le_of_ble_eq_true rfl) dX5_firstFar_40 ⟨Nat.le_of_ble_eq_true rfl, Nat.le_of_ble_eq_true rfl⟩ ⟨Nat.le_of_ble_eq_true rfl, Nat.le_of_ble_eq_true rfl⟩ (fun r_40 w H locs hpost hP hD hS => ?_)
          obtain ⟨rfl, rfl⟩ := hpost
          have hP : va_P D vwCl (kfW cI cJ cB ys yk yp yt y1 y2 (nI sz) (bI tm) (gI sse) (gI srm) (fun zz => lN (K zz)) (fun zz => nI (P zz)) (fun zz => nI (T zz)) zs zsl1 zf1 zgb1 zgp1 zfo1 zsu1 zgr1 zsl2 zf2 zgb2 zgp2 zfo2 zsu2 zgr2 (fun zz => oI (Fa1 zz)) (fun zz => oI (Fa2 zz))) H := hP
          have hD : va_D A (kfW cI cJ cB ys yk yp yt y1 y2 (nI sz) (bI tm) (gI sse) (gI srm) (fun zz => lN (K zz)) (fun zz => nI (P zz)) (fun zz => nI (T zz)) zs zsl1 zf1 zgb1 zgp1 zfo1 zsu1 zgr1 zsl2 zf2 zgb2 zgp2 zfo2 zsu2 zgr2 (fun zz => oI (Fa1 zz)) (fun zz => oI (Fa2 zz))) := hD
          refine lv_iload_n hx hb dX5_firstFar_43 rfl (lv_at hl 6 rfl) ?_
          refine lv_icmp_ne (tgt := 66) hx hb dX5_firstFar_44 (by decide) (fun c44 => ?_) (fun c44 => ?_)
          · have _ : True := trivial
            refine lv_iinc (v := nI (i + 1)) (lv' := [(6, .int (nI (i + 1))), (7, .long (lN (K i))), (4, .long (lK K none)), (3, .ref zf2), (0, .ref ys), (1, .int (bI z)), (2, .int (nI w9))]) hx hb dX5_firstFar_66 hl (k := 2) rfl (nI_1 _) (by decide) rfl (fun ls hl => ?_)
            refine lv_goto (tgt := 17) hx hb dX5_firstFar_69 (by decide) ?_
            exact ih17 (i + 1) none (by omega) (by rw [hbs] at iB; exact HB_skip iB (fun h => c44 (congrArg oI h))) (by omega) _ _ hP hD hS _ (lv_sub hl [2, 0, 3, 4, 5, 6] rfl)
          · have _ : True := trivial
            have hfi : Fa2 i = some w9 := oI_eqn (fun d h => by have := hF i d h; omega) (by omega) c44
            refine lv_lload hx hb dX5_firstFar_47 (lv_at hl 1 rfl) ?_
            refine lv_lconst (v := lN 0) hx hb dX5_firstFar_49 rfl ?_
            refine n_lcmp hx hb dX5_firstFar_50 ?_
            refine topi (y := (-1)) lcm_n1 ?_
            refine lv_if_lt (tgt := 62) hx hb dX5_firstFar_51 (by decide) (fun _ => ?_) (fun h => absurd (by decide) h)
            refine lv_lload hx hb dX5_firstFar_62 (lv_at hl 0 rfl) ?_
            refine lv_lstore (lv' := [(4, .long (lN (K i))), (7, .long (lN (K i))), (6, .int (nI i)), (3, .ref zf2), (0, .ref ys), (1, .int (bI z)), (2, .int (nI w9))]) hx hb dX5_firstFar_64 hl (by decide) rfl (fun ls hl => ?_)
            refine lv_iinc (v := nI (i + 1)) (lv' := [(6, .int (nI (i + 1))), (4, .long (lN (K i))), (7, .long (lN (K i))), (3, .ref zf2), (0, .ref ys), (1, .int (bI z)), (2, .int (nI w9))]) hx hb dX5_firstFar_66 hl (k := 2) rfl (nI_1 _) (by decide) rfl (fun ls hl => ?_)
            refine lv_goto (tgt := 17) hx hb dX5_firstFar_69 (by decide) ?_
            exact ih17 (i + 1) (some i) (by omega) (by rw [hbs] at iB; exact HB_first iB hfi) (by omega) _ _ hP hD hS _ (lv_sub hl [1, 0, 3, 4, 5, 6] rfl)
        · have _ : True := trivial
          rw [hbs] at hl
          have hb9 : b9 < i := by rw [hbs] at iB; exact iB.1
          refine lv_aload_n hx hb dX5_firstFar_26 rfl (lv_at hl 3 rfl) ?_
          refine gf_X5_9 hC hK hP 0 rfl rfl dX5_firstFar_27 ?_
          refine lv_iload hx hb dX5_firstFar_30 (lv_at hl 1 rfl) ?_
          refine callN_l (As := [.ref yk, .int (nI i)]) (rest := []) [1] hC hK hN hP hD rfl (by decide) hS (c_X7_at_L l D cI cJ cB yk 2000 i K (by omega) (by omega)) q515 md_X7_at_ rfl hl.1 rfl (Nat.le_of_ble_eq_true rfl) dX5_firstFar_32 ⟨Nat.le_of_ble_eq_true rfl, Nat.le_of_ble_eq_true rfl⟩ ⟨Nat.le_of_ble_eq_true rfl, Nat.le_of_ble_eq_true rfl⟩ (fun r_32 w H locs hpost hP hD hS => ?_)
          obtain ⟨rfl, rfl⟩ := hpost
          have hP : va_P D vwCl (kfW cI cJ cB ys yk yp yt y1 y2 (nI sz) (bI tm) (gI sse) (gI srm) (fun zz => lN (K zz)) (fun zz => nI (P zz)) (fun zz => nI (T zz)) zs zsl1 zf1 zgb1 zgp1 zfo1 zsu1 zgr1 zsl2 zf2 zgb2 zgp2 zfo2 zsu2 zgr2 (fun zz => oI (Fa1 zz)) (fun zz => oI (Fa2 zz))) H := hP
          have hD : va_D A (kfW cI cJ cB ys yk yp yt y1 y2 (nI sz) (bI tm) (gI sse) (gI srm) (fun zz => lN (K zz)) (fun zz => nI (P zz)) (fun zz => nI (T zz)) zs zsl1 zf1 zgb1 zgp1 zfo1 zsu1 zgr1 zsl2 zf2 zgb2 zgp2 zfo2 zsu2 zgr2 (fun zz => oI (Fa1 zz)) (fun zz => oI (Fa2 zz))) := hD
          refine lv_lstore (lv' := [(7, .long (lN (K i))), (4, .long (lN (K b9))), (6, .int (nI i)), (3, .ref zf2), (0, .ref ys), (1, .int (bI z)), (2, .int (nI w9))]) hx hb dX5_firstFar_35 hl (by decide) rfl (fun ls hl => ?_)
          refine lv_aload_n hx hb dX5_firstFar_37 rfl (lv_at hl 3 rfl) ?_
          refine lv_iload hx hb dX5_firstFar_38 (lv_at hl 2 rfl) ?_
          refine callN_i (As := [.ref zf2, .int (nI i)]) (rest := []) [7] hC hK hN hP hD rfl (by decide) hS (c_X7_at_O l D cI cJ cB zf2 2000 i Fa2 (by omega) (by omega)) q506 md_X7_at rfl hl.1 rfl (Nat.le_of_ble_eq_true rfl) dX5_firstFar_40 ⟨Nat.le_of_ble_eq_true rfl, Nat.le_of_ble_eq_true rfl⟩ ⟨Nat.le_of_ble_eq_true rfl, Nat.le_of_ble_eq_true rfl⟩ (fun r_40 w H locs hpost hP hD hS => ?_)
          obtain ⟨rfl, rfl⟩ := hpost
          have hP : va_P D vwCl (kfW cI cJ cB ys yk yp yt y1 y2 (nI sz) (bI tm) (gI sse) (gI srm) (fun zz => lN (K zz)) (fun zz => nI (P zz)) (fun zz => nI (T zz)) zs zsl1 zf1 zgb1 zgp1 zfo1 zsu1 zgr1 zsl2 zf2 zgb2 zgp2 zfo2 zsu2 zgr2 (fun zz => oI (Fa1 zz)) (fun zz => oI (Fa2 zz))) H := hP
          have hD : va_D A (kfW cI cJ cB ys yk yp yt y1 y2 (nI sz) (bI tm) (gI sse) (gI srm) (fun zz => lN (K zz)) (fun zz => nI (P zz)) (fun zz => nI (T zz)) zs zsl1 zf1 zgb1 zgp1 zfo1 zsu1 zgr1 zsl2 zf2 zgb2 zgp2 zfo2 zsu2 zgr2 (fun zz => oI (Fa1 zz)) (fun zz => oI (Fa2 zz))) := hD
          refine lv_iload_n hx hb dX5_firstFar_43 rfl (lv_at hl 6 rfl) ?_
          refine lv_icmp_ne (tgt := 66) hx hb dX5_firstFar_44 (by decide) (fun c44 => ?_) (fun c44 => ?_)
          · have _ : True := trivial
            refine lv_iinc (v := nI (i + 1)) (lv' := [(6, .int (nI (i + 1))), (7, .long (lN (K i))), (4, .long (lN (K b9))), (3, .ref zf2), (0, .ref ys), (1, .int (bI z)), (2, .int (nI w9))]) hx hb dX5_firstFar_66 hl (k := 2) rfl (nI_1 _) (by decide) rfl (fun ls hl => ?_)
            refine lv_goto (tgt := 17) hx hb dX5_firstFar_69 (by decide) ?_
            exact ih17 (i + 1) (some b9) (by omega) (by rw [hbs] at iB; exact HB_skip iB (fun h => c44 (congrArg oI h))) (by omega) _ _ hP hD hS _ (lv_sub hl [2, 0, 3, 4, 5, 6] rfl)
          · have _ : True := trivial
            have hfi : Fa2 i = some w9 := oI_eqn (fun d h => by have := hF i d h; omega) (by omega) c44
            refine lv_lload hx hb dX5_firstFar_47 (lv_at hl 1 rfl) ?_
            refine lv_lconst (v := lN 0) hx hb dX5_firstFar_49 rfl ?_
            refine n_lcmp hx hb dX5_firstFar_50 ?_
            refine topi (y := nI (if K b9 = 0 then 0 else 1)) (lcm_0 (by have := hal b9 (by omega); omega)) ?_
            refine n_if_lt (tgt := 62) hx hb dX5_firstFar_51 (by decide) (by split <;> omega) ?_
            refine lv_lload hx hb dX5_firstFar_54 (lv_at hl 0 rfl) ?_
            refine lv_lload hx hb dX5_firstFar_56 (lv_at hl 1 rfl) ?_
            refine n_lcmp hx hb dX5_firstFar_58 ?_
            refine l_if_ge (a := K i) (b := K b9) (tgt := 66) hx hb dX5_firstFar_59 (by decide) (by have := hal i (by omega); omega) (by have := hal b9 (by omega); omega) (fun c59 => ?_) (fun c59 => ?_)
            · have _ : True := trivial
              refine lv_iinc (v := nI (i + 1)) (lv' := [(6, .int (nI (i + 1))), (7, .long (lN (K i))), (4, .long (lN (K b9))), (3, .ref zf2), (0, .ref ys), (1, .int (bI z)), (2, .int (nI w9))]) hx hb dX5_firstFar_66 hl (k := 2) rfl (nI_1 _) (by decide) rfl (fun ls hl => ?_)
              refine lv_goto (tgt := 17) hx hb dX5_firstFar_69 (by decide) ?_
              exact ih17 (i + 1) (some b9) (by omega) (by rw [hbs] at iB; exact HB_keep iB rfl (by omega)) (by omega) _ _ hP hD hS _ (lv_sub hl [2, 0, 3, 4, 5, 6] rfl)
            · have _ : True := trivial
              refine lv_lload hx hb dX5_firstFar_62 (lv_at hl 0 rfl) ?_
              refine lv_lstore (lv' := [(4, .long (lN (K i))), (7, .long (lN (K i))), (6, .int (nI i)), (3, .ref zf2), (0, .ref ys), (1, .int (bI z)), (2, .int (nI w9))]) hx hb dX5_firstFar_64 hl (by decide) rfl (fun ls hl => ?_)
              refine lv_iinc (v := nI (i + 1)) (lv' := [(6, .int (nI (i + 1))), (4, .long (lN (K i))), (7, .long (lN (K i))), (3, .ref zf2), (0, .ref ys), (1, .int (bI z)), (2, .int (nI w9))]) hx hb dX5_firstFar_66 hl (k := 2) rfl (nI_1 _) (by decide) rfl (fun ls hl => ?_)
              refine lv_goto (tgt := 17) hx hb dX5_firstFar_69 (by decide) ?_
              exact ih17 (i + 1) (some i) (by omega) (HB_less iB hfi hbs (by omega)) (by omega) _ _ hP hD hS _ (lv_sub hl [1, 0, 3, 4, 5, 6] rfl)
  exact L17 _ 0 none (by omega) (fun j h => absurd h (Nat.not_lt_zero j)) (Nat.lt_succ_self _) _ _ hP hD hS _ (lv_sub hl [1, 0, 2, 3, 4, 5] rfl)

set_option maxHeartbeats 400000 in
set_option maxRecDepth 100000 in
theorem c_X5_firstFar_f (l : Launch) (D : va_G) (cI cJ cB : ClassId) (ys yk yp yt y1 y2 sz : Nat) (tm : Bool) (sse srm : Option Nat) (K P T : Nat → Nat) (zs zf1 zf2 : Nat) (zsl1 zgb1 zgp1 zfo1 zsu1 zgr1 zsl2 zgb2 zgp2 zfo2 zsu2 zgr2 : Int32) (Fa1 Fa2 : Nat → Option Nat) (w9 : Nat) (z : Bool) (hsz : sz ≤ 2000) (hal : ∀ i, i < sz → K i < 2 ^ 35) (hF : ∀ i d, Fa1 i = some d → d < 2000) (hw9 : w9 < 2000) (hex : ∃ i, i < sz ∧ Fa1 i = some w9) (hz : z = false) : Met l yX5_firstFar (Cond.code yX5_firstFar cX5_firstFar 9 (some .long) :: lw_all) (rmN 1) (va_Pc [.ref ys, .int (bI z), .int (nI w9)] (pB D (tyz cI cJ cB) (kfW cI cJ cB ys yk yp yt y1 y2 (nI sz) (bI tm) (gI sse) (gI srm) (fun zz => lN (K zz)) (fun zz => nI (P zz)) (fun zz => nI (T zz)) zs zsl1 zf1 zgb1 zgp1 zfo1 zsu1 zgr1 zsl2 zf2 zgb2 zgp2 zfo2 zsu2 zgr2 (fun zz => oI (Fa1 zz)) (fun zz => oI (Fa2 zz))))) (va_Ql (fun (r : Int64) (w : va_W) => ∃ i : Nat, r = lN (K i) ∧ w = kfW cI cJ cB ys yk yp yt y1 y2 (nI sz) (bI tm) (gI sse) (gI srm) (fun zz => lN (K zz)) (fun zz => nI (P zz)) (fun zz => nI (T zz)) zs zsl1 zf1 zgb1 zgp1 zfo1 zsu1 zgr1 zsl2 zf2 zgb2 zgp2 zfo2 zsu2 zgr2 (fun zz => oI (Fa1 zz)) (fun zz => oI (Fa2 zz)) ∧ i < sz ∧ Fa1 i = some w9 ∧ (∀ j, j < sz → Fa1 j = some w9 → K i ≤ K j)) (gB D (kfW cI cJ cB ys yk yp yt y1 y2 (nI sz) (bI tm) (gI sse) (gI srm) (fun zz => lN (K zz)) (fun zz => nI (P zz)) (fun zz => nI (T zz)) zs zsl1 zf1 zgb1 zgp1 zfo1 zsu1 zgr1 zsl2 zf2 zgb2 zgp2 zfo2 zsu2 zgr2 (fun zz => oI (Fa1 zz)) (fun zz => oI (Fa2 zz)))) (aW (kfW cI cJ cB ys yk yp yt y1 y2 (nI sz) (bI tm) (gI sse) (gI srm) (fun zz => lN (K zz)) (fun zz => nI (P zz)) (fun zz => nI (T zz)) zs zsl1 zf1 zgb1 zgp1 zfo1 zsu1 zgr1 zsl2 zf2 zgb2 zgp2 zfo2 zsu2 zgr2 (fun zz => oI (Fa1 zz)) (fun zz => oI (Fa2 zz))))) 0 0 (aW (kfW cI cJ cB ys yk yp yt y1 y2 (nI sz) (bI tm) (gI sse) (gI srm) (fun zz => lN (K zz)) (fun zz => nI (P zz)) (fun zz => nI (T zz)) zs zsl1 zf1 zgb1 zgp1 zfo1 zsu1 zgr1 zsl2 zf2 zgb2 zgp2 zfo2 zsu2 zgr2 (fun zz => oI (Fa1 zz)) (fun zz => oI (Fa2 zz)))) := by
  refine Met.ofW (cc := cX5_firstFar) (maxL := 9) (ret := (some .long)) (by decide) rfl ?_
  intro p e s m args below meth c s₁ B hml hv
  obtain ⟨rfl, hK, hN, hP, hD0⟩ := hv
  have hx := B.exec; have hb := B.bytes; have hr := B.returns; have hlocks := B.notSynchronized
  have hts0 := atoms_spec (ws := Cond.code yX5_firstFar cX5_firstFar 9 (some .long) :: lw_all) B.pre
  have hC : CallFix p m c cX5_firstFar 9 s _ lw_all RX5 := ⟨hx, hb, hml, findClass_of_methodNamed B.named, fun w h => hts0 w (List.mem_cons_of_mem _ h)⟩
  have hD : va_D (aW (kfW cI cJ cB ys yk yp yt y1 y2 (nI sz) (bI tm) (gI sse) (gI srm) (fun zz => lN (K zz)) (fun zz => nI (P zz)) (fun zz => nI (T zz)) zs zsl1 zf1 zgb1 zgp1 zfo1 zsu1 zgr1 zsl2 zf2 zgb2 zgp2 zfo2 zsu2 zgr2 (fun zz => oI (Fa1 zz)) (fun zz => oI (Fa2 zz)))) (kfW cI cJ cB ys yk yp yt y1 y2 (nI sz) (bI tm) (gI sse) (gI srm) (fun zz => lN (K zz)) (fun zz => nI (P zz)) (fun zz => nI (T zz)) zs zsl1 zf1 zgb1 zgp1 zfo1 zsu1 zgr1 zsl2 zf2 zgb2 zgp2 zfo2 zsu2 zgr2 (fun zz => oI (Fa1 zz)) (fun zz => oI (Fa2 zz))) := ⟨hD0.1, fun k q h => ⟨k, q.2, h⟩⟩
  generalize hAe : aW (kfW cI cJ cB ys yk yp yt y1 y2 (nI sz) (bI tm) (gI sse) (gI srm) (fun zz => lN (K zz)) (fun zz => nI (P zz)) (fun zz => nI (T zz)) zs zsl1 zf1 zgb1 zgp1 zfo1 zsu1 zgr1 zsl2 zf2 zgb2 zgp2 zfo2 zsu2 zgr2 (fun zz => oI (Fa1 zz)) (fun zz => oI (Fa2 zz))) = A at hD ⊢
  have hS : va_S A s.heap s.heap [] := va_S.rf
  have hl := lv_entry ([.ref ys, .int (bI z), .int (nI w9)]) (n := 9) (Nat.le_of_ble_eq_true rfl)
  rw [lg_entry_eq]
  generalize (lg_sl ([.ref ys, .int (bI z), .int (nI w9)]) ++ List.replicate (9 - (lg_sl ([.ref ys, .int (bI z), .int (nI w9)])).length) Slot.unset).toArray = ls at hl ⊢
  have hl : lv_has ls 9 [(0, .ref ys), (1, .int (bI z)), (2, .int (nI w9))] := hl
  generalize hav : ([.ref ys, .int (bI z), .int (nI w9)] : List Value).toArray = args at hC ⊢
  refine W_gen (fun QQ hQ => ?_)
  show W p l e (rmN 1) s m args below meth c s.heap [] 0 0 QQ (F0 m 0 ls [])
  refine lv_aload_n hx hb dX5_firstFar_0 rfl (lv_at hl 0 rfl) ?_
  refine lv_iload_n hx hb dX5_firstFar_1 rfl (lv_at hl 1 rfl) ?_
  refine callV_q (As := [.int (bI z)]) (rest := []) [0] hC hK hN hP hD rfl (by decide) hS 0 (ci := 5) rfl rfl rfl (c_X5_distances_f l D cI cJ cB ys yk yp yt y1 y2 (nI sz) (bI tm) (gI sse) (gI srm) z hz) q607 md_X5_distances rfl hl.1 rfl (Nat.le_of_ble_eq_true rfl) dX5_firstFar_2 ⟨Nat.le_of_ble_eq_true rfl, Nat.le_of_ble_eq_true rfl⟩ ⟨Nat.le_of_ble_eq_true rfl, Nat.le_of_ble_eq_true rfl⟩ (fun r_2 w H locs hpost hP hD hS => ?_)
  obtain ⟨rfl, rfl⟩ := hpost
  have hP : va_P D vwCl (kfW cI cJ cB ys yk yp yt y1 y2 (nI sz) (bI tm) (gI sse) (gI srm) (fun zz => lN (K zz)) (fun zz => nI (P zz)) (fun zz => nI (T zz)) zs zsl1 zf1 zgb1 zgp1 zfo1 zsu1 zgr1 zsl2 zf2 zgb2 zgp2 zfo2 zsu2 zgr2 (fun zz => oI (Fa1 zz)) (fun zz => oI (Fa2 zz))) H := hP
  have hD : va_D A (kfW cI cJ cB ys yk yp yt y1 y2 (nI sz) (bI tm) (gI sse) (gI srm) (fun zz => lN (K zz)) (fun zz => nI (P zz)) (fun zz => nI (T zz)) zs zsl1 zf1 zgb1 zgp1 zfo1 zsu1 zgr1 zsl2 zf2 zgb2 zgp2 zfo2 zsu2 zgr2 (fun zz => oI (Fa1 zz)) (fun zz => oI (Fa2 zz))) := hD
  refine gf_X5_124 hC hK hP 4 rfl rfl dX5_firstFar_5 ?_
  refine lv_astore_n (lv' := [(3, .ref zf1), (0, .ref ys), (1, .int (bI z)), (2, .int (nI w9))]) hx hb dX5_firstFar_8 rfl hl (by decide) rfl (fun ls hl => ?_)
  refine lv_ldc2 (v := (-1)) hx hb hC.2.2.2.1 (hC.2.2.2.2 _ q671) dX5_firstFar_9 ?_
  refine lv_lstore (lv' := [(4, .long (-1)), (3, .ref zf1), (0, .ref ys), (1, .int (bI z)), (2, .int (nI w9))]) hx hb dX5_firstFar_12 hl (by decide) rfl (fun ls hl => ?_)
  refine lv_iconst (v := nI 0) hx hb dX5_firstFar_14 (by decide) ?_
  refine lv_istore (lv' := [(6, .int (nI 0)), (4, .long (-1)), (3, .ref zf1), (0, .ref ys), (1, .int (bI z)), (2, .int (nI w9))]) hx hb dX5_firstFar_15 hl (by decide) rfl (fun ls hl => ?_)
  have L17 : ∀ (n : Nat) (i : Nat) (bs : Option Nat), (i ≤ sz) → (HB K Fa1 w9 bs i) → (sz - i) < n → ∀ (H : Heap) (locs : List Loc), va_P D vwCl (kfW cI cJ cB ys yk yp yt y1 y2 (nI sz) (bI tm) (gI sse) (gI srm) (fun zz => lN (K zz)) (fun zz => nI (P zz)) (fun zz => nI (T zz)) zs zsl1 zf1 zgb1 zgp1 zfo1 zsu1 zgr1 zsl2 zf2 zgb2 zgp2 zfo2 zsu2 zgr2 (fun zz => oI (Fa1 zz)) (fun zz => oI (Fa2 zz))) H → va_D A (kfW cI cJ cB ys yk yp yt y1 y2 (nI sz) (bI tm) (gI sse) (gI srm) (fun zz => lN (K zz)) (fun zz => nI (P zz)) (fun zz => nI (T zz)) zs zsl1 zf1 zgb1 zgp1 zfo1 zsu1 zgr1 zsl2 zf2 zgb2 zgp2 zfo2 zsu2 zgr2 (fun zz => oI (Fa1 zz)) (fun zz => oI (Fa2 zz))) → va_S A s.heap H locs → ∀ ls : Array Slot, lv_has ls 9 [(4, .long (lK K bs)), (6, .int (nI i)), (3, .ref zf1), (0, .ref ys), (1, .int (bI z)), (2, .int (nI w9))] → W p l e (rmN 1) s m args below meth c H locs 0 0 QQ (F0 m 17 ls []) := by
    intro n; induction n with
    | zero => intro i bs ii iB hm; exact absurd hm (Nat.not_lt_zero _)
    | succ n ih17 =>
      intro i bs ii iB hm17 H locs hP hD hS ls hl
      refine lv_iload hx hb dX5_firstFar_17 (lv_at hl 1 rfl) ?_
      refine lv_aload_n hx hb dX5_firstFar_19 rfl (lv_at hl 3 rfl) ?_
      refine gf_X5_22 hC hK hP 0 rfl rfl dX5_firstFar_20 ?_
      refine n_icmp_ge (a := i) (b := sz) (tgt := 72) hx hb dX5_firstFar_23 (by decide) (by omega) (by omega) (fun c23 => ?_) (fun c23 => ?_)
      · have _ : True := trivial
        have e23 : i = sz := by omega
        obtain ⟨b9, h1, h2, h3, h4⟩ := HB_some (K := K) (by rw [← e23]; exact iB) hex
        rw [h1] at hl
        refine lv_lload hx hb dX5_firstFar_72 (lv_at hl 0 rfl) ?_
        rw [hQ]
        exact W.lret (v := lN (K b9)) hx hb hr (fun t9 ht hW => ⟨⟨_, _, rfl, ⟨b9, rfl, rfl, h2, h3, h4⟩, by rw [ht]; exact hP, rfl⟩, hS.F ht⟩) hS.2.2 dX5_firstFar_74
      · have _ : True := trivial
        rcases hbs : bs with _ | b9
        · have _ : True := trivial
          rw [hbs] at hl
          refine lv_aload_n hx hb dX5_firstFar_26 rfl (lv_at hl 3 rfl) ?_
          refine gf_X5_9 hC hK hP 0 rfl rfl dX5_firstFar_27 ?_
          refine lv_iload hx hb dX5_firstFar_30 (lv_at hl 1 rfl) ?_
          refine callN_l (As := [.ref yk, .int (nI i)]) (rest := []) [1] hC hK hN hP hD rfl (by decide) hS (c_X7_at_L l D cI cJ cB yk 2000 i K (by omega) (by omega)) q515 md_X7_at_ rfl hl.1 rfl (Nat.le_of_ble_eq_true rfl) dX5_firstFar_32 ⟨Nat.le_of_ble_eq_true rfl, Nat.le_of_ble_eq_true rfl⟩ ⟨Nat.le_of_ble_eq_true rfl, Nat.le_of_ble_eq_true rfl⟩ (fun r_32 w H locs hpost hP hD hS => ?_)
          obtain ⟨rfl, rfl⟩ := hpost
          have hP : va_P D vwCl (kfW cI cJ cB ys yk yp yt y1 y2 (nI sz) (bI tm) (gI sse) (gI srm) (fun zz => lN (K zz)) (fun zz => nI (P zz)) (fun zz => nI (T zz)) zs zsl1 zf1 zgb1 zgp1 zfo1 zsu1 zgr1 zsl2 zf2 zgb2 zgp2 zfo2 zsu2 zgr2 (fun zz => oI (Fa1 zz)) (fun zz => oI (Fa2 zz))) H := hP
          have hD : va_D A (kfW cI cJ cB ys yk yp yt y1 y2 (nI sz) (bI tm) (gI sse) (gI srm) (fun zz => lN (K zz)) (fun zz => nI (P zz)) (fun zz => nI (T zz)) zs zsl1 zf1 zgb1 zgp1 zfo1 zsu1 zgr1 zsl2 zf2 zgb2 zgp2 zfo2 zsu2 zgr2 (fun zz => oI (Fa1 zz)) (fun zz => oI (Fa2 zz))) := hD
          refine lv_lstore (lv' := [(7, .long (lN (K i))), (4, .long (lK K none)), (6, .int (nI i)), (3, .ref zf1), (0, .ref ys), (1, .int (bI z)), (2, .int (nI w9))]) hx hb dX5_firstFar_35 hl (by decide) rfl (fun ls hl => ?_)
          refine lv_aload_n hx hb dX5_firstFar_37 rfl (lv_at hl 3 rfl) ?_
          refine lv_iload hx hb dX5_firstFar_38 (lv_at hl 2 rfl) ?_
          refine callN_i (As := [.ref zf1, .int (nI i)]) (rest := []) [6] hC hK hN hP hD rfl (by decide) hS (c_X7_at_O l D cI cJ cB zf1 2000 i Fa1 (by omega) (by omega)) q506 md_X7_at rfl hl.1 rfl (Nat.le_of_ble_eq_true rfl) dX5_firstFar_40 ⟨Nat.le_of_ble_eq_true rfl, Nat.le_of_ble_eq_true rfl⟩ ⟨Nat.le_of_ble_eq_true rfl, Nat.le_of_ble_eq_true rfl⟩ (fun r_40 w H locs hpost hP hD hS => ?_)
          obtain ⟨rfl, rfl⟩ := hpost
          have hP : va_P D vwCl (kfW cI cJ cB ys yk yp yt y1 y2 (nI sz) (bI tm) (gI sse) (gI srm) (fun zz => lN (K zz)) (fun zz => nI (P zz)) (fun zz => nI (T zz)) zs zsl1 zf1 zgb1 zgp1 zfo1 zsu1 zgr1 zsl2 zf2 zgb2 zgp2 zfo2 zsu2 zgr2 (fun zz => oI (Fa1 zz)) (fun zz => oI (Fa2 zz))) H := hP
          have hD : va_D A (kfW cI cJ cB ys yk yp yt y1 y2 (nI sz) (bI tm) (gI sse) (gI srm) (fun zz => lN (K zz)) (fun zz => nI (P zz)) (fun zz => nI (T zz)) zs zsl1 zf1 zgb1 zgp1 zfo1 zsu1 zgr1 zsl2 zf2 zgb2 zgp2 zfo2 zsu2 zgr2 (fun zz => oI (Fa1 zz)) (fun zz => oI (Fa2 zz))) := hD
          refine lv_iload_n hx hb dX5_firstFar_43 rfl (lv_at hl 6 rfl) ?_
          refine lv_icmp_ne (tgt := 66) hx hb dX5_firstFar_44 (by decide) (fun c44 => ?_) (fun c44 => ?_)
          · have _ : True := trivial
            refine lv_iinc (v := nI (i + 1)) (lv' := [(6, .int (nI (i + 1))), (7, .long (lN (K i))), (4, .long (lK K none)), (3, .ref zf1), (0, .ref ys), (1, .int (bI z)), (2, .int (nI w9))]) hx hb dX5_firstFar_66 hl (k := 2) rfl (nI_1 _) (by decide) rfl (fun ls hl => ?_)
            refine lv_goto (tgt := 17) hx hb dX5_firstFar_69 (by decide) ?_
            exact ih17 (i + 1) none (by omega) (by rw [hbs] at iB; exact HB_skip iB (fun h => c44 (congrArg oI h))) (by omega) _ _ hP hD hS _ (lv_sub hl [2, 0, 3, 4, 5, 6] rfl)
          · have _ : True := trivial
            have hfi : Fa1 i = some w9 := oI_eqn (fun d h => by have := hF i d h; omega) (by omega) c44
            refine lv_lload hx hb dX5_firstFar_47 (lv_at hl 1 rfl) ?_
            refine lv_lconst (v := lN 0) hx hb dX5_firstFar_49 rfl ?_
            refine n_lcmp hx hb dX5_firstFar_50 ?_
            refine topi (y := (-1)) lcm_n1 ?_
            refine lv_if_lt (tgt := 62) hx hb dX5_firstFar_51 (by decide) (fun _ => ?_) (fun h => absurd (by decide) h)
            refine lv_lload hx hb dX5_firstFar_62 (lv_at hl 0 rfl) ?_
            refine lv_lstore (lv' := [(4, .long (lN (K i))), (7, .long (lN (K i))), (6, .int (nI i)), (3, .ref zf1), (0, .ref ys), (1, .int (bI z)), (2, .int (nI w9))]) hx hb dX5_firstFar_64 hl (by decide) rfl (fun ls hl => ?_)
            refine lv_iinc (v := nI (i + 1)) (lv' := [(6, .int (nI (i + 1))), (4, .long (lN (K i))), (7, .long (lN (K i))), (3, .ref zf1), (0, .ref ys), (1, .int (bI z)), (2, .int (nI w9))]) hx hb dX5_firstFar_66 hl (k := 2) rfl (nI_1 _) (by decide) rfl (fun ls hl => ?_)
            refine lv_goto (tgt := 17) hx hb dX5_firstFar_69 (by decide) ?_
            exact ih17 (i + 1) (some i) (by omega) (by rw [hbs] at iB; exact HB_first iB hfi) (by omega) _ _ hP hD hS _ (lv_sub hl [1, 0, 3, 4, 5, 6] rfl)
        · have _ : True := trivial
          rw [hbs] at hl
          have hb9 : b9 < i := by rw [hbs] at iB; exact iB.1
          refine lv_aload_n hx hb dX5_firstFar_26 rfl (lv_at hl 3 rfl) ?_
          refine gf_X5_9 hC hK hP 0 rfl rfl dX5_firstFar_27 ?_
          refine lv_iload hx hb dX5_firstFar_30 (lv_at hl 1 rfl) ?_
          refine callN_l (As := [.ref yk, .int (nI i)]) (rest := []) [1] hC hK hN hP hD rfl (by decide) hS (c_X7_at_L l D cI cJ cB yk 2000 i K (by omega) (by omega)) q515 md_X7_at_ rfl hl.1 rfl (Nat.le_of_ble_eq_true rfl) dX5_firstFar_32 ⟨Nat.le_of_ble_eq_true rfl, Nat.le_of_ble_eq_true rfl⟩ ⟨Nat.le_of_ble_eq_true rfl, Nat.le_of_ble_eq_true rfl⟩ (fun r_32 w H locs hpost hP hD hS => ?_)
          obtain ⟨rfl, rfl⟩ := hpost
          have hP : va_P D vwCl (kfW cI cJ cB ys yk yp yt y1 y2 (nI sz) (bI tm) (gI sse) (gI srm) (fun zz => lN (K zz)) (fun zz => nI (P zz)) (fun zz => nI (T zz)) zs zsl1 zf1 zgb1 zgp1 zfo1 zsu1 zgr1 zsl2 zf2 zgb2 zgp2 zfo2 zsu2 zgr2 (fun zz => oI (Fa1 zz)) (fun zz => oI (Fa2 zz))) H := hP
          have hD : va_D A (kfW cI cJ cB ys yk yp yt y1 y2 (nI sz) (bI tm) (gI sse) (gI srm) (fun zz => lN (K zz)) (fun zz => nI (P zz)) (fun zz => nI (T zz)) zs zsl1 zf1 zgb1 zgp1 zfo1 zsu1 zgr1 zsl2 zf2 zgb2 zgp2 zfo2 zsu2 zgr2 (fun zz => oI (Fa1 zz)) (fun zz => oI (Fa2 zz))) := hD
          refine lv_lstore (lv' := [(7, .long (lN (K i))), (4, .long (lN (K b9))), (6, .int (nI i)), (3, .ref zf1), (0, .ref ys), (1, .int (bI z)), (2, .int (nI w9))]) hx hb dX5_firstFar_35 hl (by decide) rfl (fun ls hl => ?_)
          refine lv_aload_n hx hb dX5_firstFar_37 rfl (lv_at hl 3 rfl) ?_
          refine lv_iload hx hb dX5_firstFar_38 (lv_at hl 2 rfl) ?_
          refine callN_i (As := [.ref zf1, .int (nI i)]) (rest := []) [6] hC hK hN hP hD rfl (by decide) hS (c_X7_at_O l D cI cJ cB zf1 2000 i Fa1 (by omega) (by omega)) q506 md_X7_at rfl hl.1 rfl (Nat.le_of_ble_eq_true rfl) dX5_firstFar_40 ⟨Nat.le_of_ble_eq_true rfl, Nat.le_of_ble_eq_true rfl⟩ ⟨Nat.le_of_ble_eq_true rfl, Nat.le_of_ble_eq_true rfl⟩ (fun r_40 w H locs hpost hP hD hS => ?_)
          obtain ⟨rfl, rfl⟩ := hpost
          have hP : va_P D vwCl (kfW cI cJ cB ys yk yp yt y1 y2 (nI sz) (bI tm) (gI sse) (gI srm) (fun zz => lN (K zz)) (fun zz => nI (P zz)) (fun zz => nI (T zz)) zs zsl1 zf1 zgb1 zgp1 zfo1 zsu1 zgr1 zsl2 zf2 zgb2 zgp2 zfo2 zsu2 zgr2 (fun zz => oI (Fa1 zz)) (fun zz => oI (Fa2 zz))) H := hP
          have hD : va_D A (kfW cI cJ cB ys yk yp yt y1 y2 (nI sz) (bI tm) (gI sse) (gI srm) (fun zz => lN (K zz)) (fun zz => nI (P zz)) (fun zz => nI (T zz)) zs zsl1 zf1 zgb1 zgp1 zfo1 zsu1 zgr1 zsl2 zf2 zgb2 zgp2 zfo2 zsu2 zgr2 (fun zz => oI (Fa1 zz)) (fun zz => oI (Fa2 zz))) := hD
          refine lv_iload_n hx hb dX5_firstFar_43 rfl (lv_at hl 6 rfl) ?_
          refine lv_icmp_ne (tgt := 66) hx hb dX5_firstFar_44 (by decide) (fun c44 => ?_) (fun c44 => ?_)
          · have _ : True := trivial
            refine lv_iinc (v := nI (i + 1)) (lv' := [(6, .int (nI (i + 1))), (7, .long (lN (K i))), (4, .long (lN (K b9))), (3, .ref zf1), (0, .ref ys), (1, .int (bI z)), (2, .int (nI w9))]) hx hb dX5_firstFar_66 hl (k := 2) rfl (nI_1 _) (by decide) rfl (fun ls hl => ?_)
            refine lv_goto (tgt := 17) hx hb dX5_firstFar_69 (by decide) ?_
            exact ih17 (i + 1) (some b9) (by omega) (by rw [hbs] at iB; exact HB_skip iB (fun h => c44 (congrArg oI h))) (by omega) _ _ hP hD hS _ (lv_sub hl [2, 0, 3, 4, 5, 6] rfl)
          · have _ : True := trivial
            have hfi : Fa1 i = some w9 := oI_eqn (fun d h => by have := hF i d h; omega) (by omega) c44
            refine lv_lload hx hb dX5_firstFar_47 (lv_at hl 1 rfl) ?_
            refine lv_lconst (v := lN 0) hx hb dX5_firstFar_49 rfl ?_
            refine n_lcmp hx hb dX5_firstFar_50 ?_
            refine topi (y := nI (if K b9 = 0 then 0 else 1)) (lcm_0 (by have := hal b9 (by omega); omega)) ?_
            refine n_if_lt (tgt := 62) hx hb dX5_firstFar_51 (by decide) (by split <;> omega) ?_
            refine lv_lload hx hb dX5_firstFar_54 (lv_at hl 0 rfl) ?_
            refine lv_lload hx hb dX5_firstFar_56 (lv_at hl 1 rfl) ?_
            refine n_lcmp hx hb dX5_firstFar_58 ?_
            refine l_if_ge (a := K i) (b := K b9) (tgt := 66) hx hb dX5_firstFar_59 (by decide) (by have := hal i (by omega); omega) (by have := hal b9 (by omega); omega) (fun c59 => ?_) (fun c59 => ?_)
            · have _ : True := trivial
              refine lv_iinc (v := nI (i + 1)) (lv' := [(6, .int (nI (i + 1))), (7, .long (lN (K i))), (4, .long (lN (K b9))), (3, .ref zf1), (0, .ref ys), (1, .int (bI z)), (2, .int (nI w9))]) hx hb dX5_firstFar_66 hl (k := 2) rfl (nI_1 _) (by decide) rfl (fun ls hl => ?_)
              refine lv_goto (tgt := 17) hx hb dX5_firstFar_69 (by decide) ?_
              exact ih17 (i + 1) (some b9) (by omega) (by rw [hbs] at iB; exact HB_keep iB rfl (by omega)) (by omega) _ _ hP hD hS _ (lv_sub hl [2, 0, 3, 4, 5, 6] rfl)
            · have _ : True := trivial
              refine lv_lload hx hb dX5_firstFar_62 (lv_at hl 0 rfl) ?_
              refine lv_lstore (lv' := [(4, .long (lN (K i))), (7, .long (lN (K i))), (6, .int (nI i)), (3, .ref zf1), (0, .ref ys), (1, .int (bI z)), (2, .int (nI w9))]) hx hb dX5_firstFar_64 hl (by decide) rfl (fun ls hl => ?_)
              refine lv_iinc (v := nI (i + 1)) (lv' := [(6, .int (nI (i + 1))), (4, .long (lN (K i))), (7, .long (lN (K i))), (3, .ref zf1), (0, .ref ys), (1, .int (bI z)), (2, .int (nI w9))]) hx hb dX5_firstFar_66 hl (k := 2) rfl (nI_1 _) (by decide) rfl (fun ls hl => ?_)
              refine lv_goto (tgt := 17) hx hb dX5_firstFar_69 (by decide) ?_
              exact ih17 (i + 1) (some i) (by omega) (HB_less iB hfi hbs (by omega)) (by omega) _ _ hP hD hS _ (lv_sub hl [1, 0, 3, 4, 5, 6] rfl)
  exact L17 _ 0 none (by omega) (fun j h => absurd h (Nat.not_lt_zero j)) (Nat.lt_succ_self _) _ _ hP hD hS _ (lv_sub hl [1, 0, 2, 3, 4, 5] rfl)

set_option maxHeartbeats 400000 in
set_option maxRecDepth 100000 in
theorem c_X1_stepFrom (l : Launch) (D : va_G) (cI cJ cB : ClassId) (zo zs zf zq zm zl fo su : Nat) (zb : Bool) (dgb dgp dgr : Option Nat) (Fa : Nat → Option Nat) (Qa Ma La : Nat → Nat) (ys yk yp yt y1 y2 sz : Nat) (tm : Bool) (sse srm : Option Nat) (K P T : Nat → Nat) (h hs hw hh hp se wd hd nb wl : Nat) (st sl : Int32) (gl aq lb : Option Nat) (sh bw bh ps : Nat → Nat) (g ap u b hq lv k0 : Nat) (hf : FrV wd hd nb wl sh bw bh) (hsp : SPC wd hd nb wl sh bw bh srm k0 K sz P T tm) (htm : tm = false) (hbn : b < nb) (hrb : srm ≠ some b) (hDs : DST (mvk wd hd nb wl sh bw bh srm false) (fun x => plc x g = ap) K sz Fa Qa fo su hq lv u) : Met l yX1_stepFrom (Cond.code yX1_stepFrom cX1_stepFrom 8 none :: lw_all) (rmN 3) (va_Pc [.ref zo, .ref h, .ref ys, .int (nI u), .int (nI b)] (pB D (tyz cI cJ cB) (dkbW cI cJ cB zo zs (bI zb) zf (gI dgb) (gI dgp) (nI fo) (nI su) (gI dgr) zq zm zl (fun zz => oI (Fa zz)) (fun zz => nI (Qa zz)) (fun zz => nI (Ma zz)) (fun zz => nI (La zz)) ys yk yp yt y1 y2 (nI sz) (bI tm) (gI sse) (gI srm) (fun zz => lN (K zz)) (fun zz => nI (P zz)) (fun zz => nI (T zz)) h hs hw hh hp (nI se) (nI wd) (nI hd) (nI wl) (nI nb) (nI (topv wd)) (nI (rcv wd hd)) (nI (btv wd hd)) (nI (lcv wd hd)) (gI gl) (gI aq) st sl (gI lb) (fun zz => nI (sh zz)) (fun zz => nI (bw zz)) (fun zz => nI (bh zz)) (fun zz => nI (ps zz))))) (va_Qv (fun (w : va_W) => ∃ F2 : Nat → Option Nat, ∃ Q2 : Nat → Nat, ∃ fo2 : Nat, ∃ su2 : Nat, w = dkbW cI cJ cB zo zs (bI zb) zf (gI dgb) (gI dgp) (nI fo2) (nI su2) (gI dgr) zq zm zl (fun zz => oI (F2 zz)) (fun zz => nI (Q2 zz)) (fun zz => nI (Ma zz)) (fun zz => nI (La zz)) ys yk yp yt y1 y2 (nI sz) (bI tm) (gI sse) (gI srm) (fun zz => lN (K zz)) (fun zz => nI (P zz)) (fun zz => nI (T zz)) h hs hw hh hp (nI se) (nI wd) (nI hd) (nI wl) (nI nb) (nI (topv wd)) (nI (rcv wd hd)) (nI (btv wd hd)) (nI (lcv wd hd)) (gI gl) (gI aq) st sl (gI lb) (fun zz => nI (sh zz)) (fun zz => nI (bw zz)) (fun zz => nI (bh zz)) (fun zz => nI (ps zz)) ∧ DST (mvk wd hd nb wl sh bw bh srm false) (fun x => plc x g = ap) K sz F2 Q2 fo2 su2 hq lv u ∧ (∀ j e, cF sz Fa j = some e → cF sz F2 j = some e) ∧ (∀ x, mvk1 wd hd nb wl sh bw bh srm false b (K u) x → ∀ j, j < sz → K j = x → ∃ e, cF sz F2 j = some e ∧ e ≤ lv + 1)) (gB D (dkbW cI cJ cB zo zs (bI zb) zf (gI dgb) (gI dgp) (nI fo) (nI su) (gI dgr) zq zm zl (fun zz => oI (Fa zz)) (fun zz => nI (Qa zz)) (fun zz => nI (Ma zz)) (fun zz => nI (La zz)) ys yk yp yt y1 y2 (nI sz) (bI tm) (gI sse) (gI srm) (fun zz => lN (K zz)) (fun zz => nI (P zz)) (fun zz => nI (T zz)) h hs hw hh hp (nI se) (nI wd) (nI hd) (nI wl) (nI nb) (nI (topv wd)) (nI (rcv wd hd)) (nI (btv wd hd)) (nI (lcv wd hd)) (gI gl) (gI aq) st sl (gI lb) (fun zz => nI (sh zz)) (fun zz => nI (bw zz)) (fun zz => nI (bh zz)) (fun zz => nI (ps zz)))) (aW (dkbW cI cJ cB zo zs (bI zb) zf (gI dgb) (gI dgp) (nI fo) (nI su) (gI dgr) zq zm zl (fun zz => oI (Fa zz)) (fun zz => nI (Qa zz)) (fun zz => nI (Ma zz)) (fun zz => nI (La zz)) ys yk yp yt y1 y2 (nI sz) (bI tm) (gI sse) (gI srm) (fun zz => lN (K zz)) (fun zz => nI (P zz)) (fun zz => nI (T zz)) h hs hw hh hp (nI se) (nI wd) (nI hd) (nI wl) (nI nb) (nI (topv wd)) (nI (rcv wd hd)) (nI (btv wd hd)) (nI (lcv wd hd)) (gI gl) (gI aq) st sl (gI lb) (fun zz => nI (sh zz)) (fun zz => nI (bw zz)) (fun zz => nI (bh zz)) (fun zz => nI (ps zz))))) 0 0 (aW (dkbW cI cJ cB zo zs (bI zb) zf (gI dgb) (gI dgp) (nI fo) (nI su) (gI dgr) zq zm zl (fun zz => oI (Fa zz)) (fun zz => nI (Qa zz)) (fun zz => nI (Ma zz)) (fun zz => nI (La zz)) ys yk yp yt y1 y2 (nI sz) (bI tm) (gI sse) (gI srm) (fun zz => lN (K zz)) (fun zz => nI (P zz)) (fun zz => nI (T zz)) h hs hw hh hp (nI se) (nI wd) (nI hd) (nI wl) (nI nb) (nI (topv wd)) (nI (rcv wd hd)) (nI (btv wd hd)) (nI (lcv wd hd)) (gI gl) (gI aq) st sl (gI lb) (fun zz => nI (sh zz)) (fun zz => nI (bw zz)) (fun zz => nI (bh zz)) (fun zz => nI (ps zz)))) := by
  refine Met.ofW (cc := cX1_stepFrom) (maxL := 8) (ret := none) (by decide) rfl ?_
  intro p e s m args below meth c s₁ B hml hv
  obtain ⟨rfl, hK, hN, hP, hD0⟩ := hv
  have hx := B.exec; have hb := B.bytes; have hr := B.returns; have hlocks := B.notSynchronized
  have hts0 := atoms_spec (ws := Cond.code yX1_stepFrom cX1_stepFrom 8 none :: lw_all) B.pre
  have hC : CallFix p m c cX1_stepFrom 8 s _ lw_all RX1 := ⟨hx, hb, hml, findClass_of_methodNamed B.named, fun w h => hts0 w (List.mem_cons_of_mem _ h)⟩
  have hD : va_D (aW (dkbW cI cJ cB zo zs (bI zb) zf (gI dgb) (gI dgp) (nI fo) (nI su) (gI dgr) zq zm zl (fun zz => oI (Fa zz)) (fun zz => nI (Qa zz)) (fun zz => nI (Ma zz)) (fun zz => nI (La zz)) ys yk yp yt y1 y2 (nI sz) (bI tm) (gI sse) (gI srm) (fun zz => lN (K zz)) (fun zz => nI (P zz)) (fun zz => nI (T zz)) h hs hw hh hp (nI se) (nI wd) (nI hd) (nI wl) (nI nb) (nI (topv wd)) (nI (rcv wd hd)) (nI (btv wd hd)) (nI (lcv wd hd)) (gI gl) (gI aq) st sl (gI lb) (fun zz => nI (sh zz)) (fun zz => nI (bw zz)) (fun zz => nI (bh zz)) (fun zz => nI (ps zz)))) (dkbW cI cJ cB zo zs (bI zb) zf (gI dgb) (gI dgp) (nI fo) (nI su) (gI dgr) zq zm zl (fun zz => oI (Fa zz)) (fun zz => nI (Qa zz)) (fun zz => nI (Ma zz)) (fun zz => nI (La zz)) ys yk yp yt y1 y2 (nI sz) (bI tm) (gI sse) (gI srm) (fun zz => lN (K zz)) (fun zz => nI (P zz)) (fun zz => nI (T zz)) h hs hw hh hp (nI se) (nI wd) (nI hd) (nI wl) (nI nb) (nI (topv wd)) (nI (rcv wd hd)) (nI (btv wd hd)) (nI (lcv wd hd)) (gI gl) (gI aq) st sl (gI lb) (fun zz => nI (sh zz)) (fun zz => nI (bw zz)) (fun zz => nI (bh zz)) (fun zz => nI (ps zz))) := ⟨hD0.1, fun k q h => ⟨k, q.2, h⟩⟩
  generalize hAe : aW (dkbW cI cJ cB zo zs (bI zb) zf (gI dgb) (gI dgp) (nI fo) (nI su) (gI dgr) zq zm zl (fun zz => oI (Fa zz)) (fun zz => nI (Qa zz)) (fun zz => nI (Ma zz)) (fun zz => nI (La zz)) ys yk yp yt y1 y2 (nI sz) (bI tm) (gI sse) (gI srm) (fun zz => lN (K zz)) (fun zz => nI (P zz)) (fun zz => nI (T zz)) h hs hw hh hp (nI se) (nI wd) (nI hd) (nI wl) (nI nb) (nI (topv wd)) (nI (rcv wd hd)) (nI (btv wd hd)) (nI (lcv wd hd)) (gI gl) (gI aq) st sl (gI lb) (fun zz => nI (sh zz)) (fun zz => nI (bw zz)) (fun zz => nI (bh zz)) (fun zz => nI (ps zz))) = A at hD ⊢
  have hS : va_S A s.heap s.heap [] := va_S.rf
  have hl := lv_entry ([.ref zo, .ref h, .ref ys, .int (nI u), .int (nI b)]) (n := 8) (Nat.le_of_ble_eq_true rfl)
  rw [lg_entry_eq]
  generalize (lg_sl ([.ref zo, .ref h, .ref ys, .int (nI u), .int (nI b)]) ++ List.replicate (8 - (lg_sl ([.ref zo, .ref h, .ref ys, .int (nI u), .int (nI b)])).length) Slot.unset).toArray = ls at hl ⊢
  have hl : lv_has ls 8 [(0, .ref zo), (1, .ref h), (2, .ref ys), (3, .int (nI u)), (4, .int (nI b))] := hl
  generalize hav : ([.ref zo, .ref h, .ref ys, .int (nI u), .int (nI b)] : List Value).toArray = args at hC ⊢
  refine W_gen (fun QQ hQ => ?_)
  show W p l e (rmN 3) s m args below meth c s.heap [] 0 0 QQ (F0 m 0 ls [])
  obtain ⟨s1, s2, s3, s4, -, s6⟩ := _root_.id hsp
  obtain ⟨s7, s8, s9⟩ := s6 htm
  have hn7 := hf.2.2.2.2.2.1
  obtain ⟨hun, hfu⟩ := DST_u hDs
  have hku := (s4 u hun).2
  have hv : ∀ i, i < sz → KV wd hd nb wl sh bw bh srm (K i) := fun i hi => (s4 i hi).2
  have hinj := s7.2.1
  refine lv_aload_n hx hb dX1_stepFrom_0 rfl (lv_at hl 0 rfl) ?_
  refine gf_X1_9 hC hK hP 0 rfl rfl dX1_stepFrom_1 ?_
  refine lv_iload_n hx hb dX1_stepFrom_4 rfl (lv_at hl 3 rfl) ?_
  refine callN_i (As := [.ref zf, .int (nI u)]) (rest := []) [1] hC hK hN hP hD rfl (by decide) hS (c_X7_at_O l D cI cJ cB zf 2000 u Fa (by omega) (by omega)) q584 md_X7_at rfl hl.1 rfl (Nat.le_of_ble_eq_true rfl) dX1_stepFrom_5 ⟨Nat.le_of_ble_eq_true rfl, Nat.le_of_ble_eq_true rfl⟩ ⟨Nat.le_of_ble_eq_true rfl, Nat.le_of_ble_eq_true rfl⟩ (fun r_5 w H locs hpost hP hD hS => ?_)
  obtain ⟨rfl, rfl⟩ := hpost
  have hP : va_P D vwCl (dkbW cI cJ cB zo zs (bI zb) zf (gI dgb) (gI dgp) (nI fo) (nI su) (gI dgr) zq zm zl (fun zz => oI (Fa zz)) (fun zz => nI (Qa zz)) (fun zz => nI (Ma zz)) (fun zz => nI (La zz)) ys yk yp yt y1 y2 (nI sz) (bI tm) (gI sse) (gI srm) (fun zz => lN (K zz)) (fun zz => nI (P zz)) (fun zz => nI (T zz)) h hs hw hh hp (nI se) (nI wd) (nI hd) (nI wl) (nI nb) (nI (topv wd)) (nI (rcv wd hd)) (nI (btv wd hd)) (nI (lcv wd hd)) (gI gl) (gI aq) st sl (gI lb) (fun zz => nI (sh zz)) (fun zz => nI (bw zz)) (fun zz => nI (bh zz)) (fun zz => nI (ps zz))) H := hP
  have hD : va_D A (dkbW cI cJ cB zo zs (bI zb) zf (gI dgb) (gI dgp) (nI fo) (nI su) (gI dgr) zq zm zl (fun zz => oI (Fa zz)) (fun zz => nI (Qa zz)) (fun zz => nI (Ma zz)) (fun zz => nI (La zz)) ys yk yp yt y1 y2 (nI sz) (bI tm) (gI sse) (gI srm) (fun zz => lN (K zz)) (fun zz => nI (P zz)) (fun zz => nI (T zz)) h hs hw hh hp (nI se) (nI wd) (nI hd) (nI wl) (nI nb) (nI (topv wd)) (nI (rcv wd hd)) (nI (btv wd hd)) (nI (lcv wd hd)) (gI gl) (gI aq) st sl (gI lb) (fun zz => nI (sh zz)) (fun zz => nI (bw zz)) (fun zz => nI (bh zz)) (fun zz => nI (ps zz))) := hD
  refine topi (y := nI lv) (by rw [hfu]; rfl) ?_
  refine lv_iconst (v := nI 1) hx hb dX1_stepFrom_8 (by decide) ?_
  refine n_iadd hx hb dX1_stepFrom_9  ?_
  refine lv_istore (lv' := [(5, .int (nI (lv + 1))), (0, .ref zo), (1, .ref h), (2, .ref ys), (3, .int (nI u)), (4, .int (nI b))]) hx hb dX1_stepFrom_10 hl (by decide) rfl (fun ls hl => ?_)
  refine lv_iconst (v := nI 0) hx hb dX1_stepFrom_12 (by decide) ?_
  refine lv_istore (lv' := [(6, .int (nI 0)), (5, .int (nI (lv + 1))), (0, .ref zo), (1, .ref h), (2, .ref ys), (3, .int (nI u)), (4, .int (nI b))]) hx hb dX1_stepFrom_13 hl (by decide) rfl (fun ls hl => ?_)
  have L15 : ∀ (n : Nat) (dd : Nat) (Fb : Nat → Option Nat) (Qb : Nat → Nat) (fb : Nat) (sb : Nat), (dd ≤ 4) → (DST (mvk wd hd nb wl sh bw bh srm false) (fun x => plc x g = ap) K sz Fb Qb fb sb hq lv u) → (∀ j e, cF sz Fa j = some e → cF sz Fb j = some e) → (∀ d, d < dd → ∀ q, mvb wd hd nb wl sh bw bh srm (K u) b d = some q → ∀ j, j < sz → K j = wth (K u) b q → ∃ e, cF sz Fb j = some e ∧ e ≤ lv + 1) → (4 - dd) < n → ∀ (H : Heap) (locs : List Loc), va_P D vwCl (dkbW cI cJ cB zo zs (bI zb) zf (gI dgb) (gI dgp) (nI fb) (nI sb) (gI dgr) zq zm zl (fun zz => oI (Fb zz)) (fun zz => nI (Qb zz)) (fun zz => nI (Ma zz)) (fun zz => nI (La zz)) ys yk yp yt y1 y2 (nI sz) (bI tm) (gI sse) (gI srm) (fun zz => lN (K zz)) (fun zz => nI (P zz)) (fun zz => nI (T zz)) h hs hw hh hp (nI se) (nI wd) (nI hd) (nI wl) (nI nb) (nI (topv wd)) (nI (rcv wd hd)) (nI (btv wd hd)) (nI (lcv wd hd)) (gI gl) (gI aq) st sl (gI lb) (fun zz => nI (sh zz)) (fun zz => nI (bw zz)) (fun zz => nI (bh zz)) (fun zz => nI (ps zz))) H → va_D A (dkbW cI cJ cB zo zs (bI zb) zf (gI dgb) (gI dgp) (nI fb) (nI sb) (gI dgr) zq zm zl (fun zz => oI (Fb zz)) (fun zz => nI (Qb zz)) (fun zz => nI (Ma zz)) (fun zz => nI (La zz)) ys yk yp yt y1 y2 (nI sz) (bI tm) (gI sse) (gI srm) (fun zz => lN (K zz)) (fun zz => nI (P zz)) (fun zz => nI (T zz)) h hs hw hh hp (nI se) (nI wd) (nI hd) (nI wl) (nI nb) (nI (topv wd)) (nI (rcv wd hd)) (nI (btv wd hd)) (nI (lcv wd hd)) (gI gl) (gI aq) st sl (gI lb) (fun zz => nI (sh zz)) (fun zz => nI (bw zz)) (fun zz => nI (bh zz)) (fun zz => nI (ps zz))) → va_S A s.heap H locs → ∀ ls : Array Slot, lv_has ls 8 [(6, .int (nI dd)), (5, .int (nI (lv + 1))), (0, .ref zo), (1, .ref h), (2, .ref ys), (3, .int (nI u)), (4, .int (nI b))] → W p l e (rmN 3) s m args below meth c H locs 0 0 QQ (F0 m 15 ls []) := by
    intro n; induction n with
    | zero => intro dd Fb Qb fb sb id4 iD ik id hm; exact absurd hm (Nat.not_lt_zero _)
    | succ n ih15 =>
      intro dd Fb Qb fb sb id4 iD ik id hm15 H locs hP hD hS ls hl
      refine lv_iload hx hb dX1_stepFrom_15 (lv_at hl 0 rfl) ?_
      refine lv_iconst (v := nI 4) hx hb dX1_stepFrom_17 (by decide) ?_
      refine n_icmp_ge (a := dd) (b := 4) (tgt := 52) hx hb dX1_stepFrom_18 (by decide) (by omega) (by omega) (fun c18 => ?_) (fun c18 => ?_)
      · have _ : True := trivial
        have e18 : dd = 4 := by omega
        rw [hQ]
        exact W.vret hx hb hr (fun t9 ht hW => ⟨⟨_, rfl, ⟨Fb, Qb, fb, sb, rfl, iD, ik, (fun x hx j hj hk => by obtain ⟨d, hd9, q, hq, rfl⟩ := mvk1_one hx; exact id d (by omega) q hq j hj hk)⟩, by rw [ht]; exact hP, rfl⟩, hS.F ht⟩) hS.2.2 dX1_stepFrom_52
      · have _ : True := trivial
        refine lv_aload_n hx hb dX1_stepFrom_21 rfl (lv_at hl 4 rfl) ?_
        refine lv_aload_n hx hb dX1_stepFrom_22 rfl (lv_at hl 3 rfl) ?_
        refine lv_iload_n hx hb dX1_stepFrom_23 rfl (lv_at hl 5 rfl) ?_
        refine lv_iload hx hb dX1_stepFrom_24 (lv_at hl 6 rfl) ?_
        refine lv_iload hx hb dX1_stepFrom_26 (lv_at hl 0 rfl) ?_
        refine callV_i (As := [.ref h, .int (nI u), .int (nI b), .int (nI dd)]) (rest := []) [6, 7, 8, 9, 10, 11, 12, 13, 14] hC hK hN hP hD rfl (by decide) hS 6 (ci := 5) rfl rfl rfl (c_X5_after l D cI cJ cB ys yk yp yt y1 y2 sz tm sse srm K P T h hs hw hh hp se wd hd nb wl st sl gl aq lb sh bw bh ps u b dd k0 hf hsp htm (by omega) (by omega) (by omega) (by omega)) q594 md_X5_after rfl hl.1 rfl (Nat.le_of_ble_eq_true rfl) dX1_stepFrom_28 ⟨Nat.le_of_ble_eq_true rfl, Nat.le_of_ble_eq_true rfl⟩ ⟨Nat.le_of_ble_eq_true rfl, Nat.le_of_ble_eq_true rfl⟩ (fun r_28 w H locs hpost hP hD hS => ?_)
        obtain ⟨r9_28, rfl, rfl, ha0, ha1, hab⟩ := hpost
        have hP : va_P D vwCl (dkbW cI cJ cB zo zs (bI zb) zf (gI dgb) (gI dgp) (nI fb) (nI sb) (gI dgr) zq zm zl (fun zz => oI (Fb zz)) (fun zz => nI (Qb zz)) (fun zz => nI (Ma zz)) (fun zz => nI (La zz)) ys yk yp yt y1 y2 (nI sz) (bI tm) (gI sse) (gI srm) (fun zz => lN (K zz)) (fun zz => nI (P zz)) (fun zz => nI (T zz)) h hs hw hh hp (nI se) (nI wd) (nI hd) (nI wl) (nI nb) (nI (topv wd)) (nI (rcv wd hd)) (nI (btv wd hd)) (nI (lcv wd hd)) (gI gl) (gI aq) st sl (gI lb) (fun zz => nI (sh zz)) (fun zz => nI (bw zz)) (fun zz => nI (bh zz)) (fun zz => nI (ps zz))) H := hP
        have hD : va_D A (dkbW cI cJ cB zo zs (bI zb) zf (gI dgb) (gI dgp) (nI fb) (nI sb) (gI dgr) zq zm zl (fun zz => oI (Fb zz)) (fun zz => nI (Qb zz)) (fun zz => nI (Ma zz)) (fun zz => nI (La zz)) ys yk yp yt y1 y2 (nI sz) (bI tm) (gI sse) (gI srm) (fun zz => lN (K zz)) (fun zz => nI (P zz)) (fun zz => nI (T zz)) h hs hw hh hp (nI se) (nI wd) (nI hd) (nI wl) (nI nb) (nI (topv wd)) (nI (rcv wd hd)) (nI (btv wd hd)) (nI (lcv wd hd)) (gI gl) (gI aq) st sl (gI lb) (fun zz => nI (sh zz)) (fun zz => nI (bw zz)) (fun zz => nI (bh zz)) (fun zz => nI (ps zz))) := hD
        refine lv_istore (lv' := [(7, .int (oI r9_28)), (6, .int (nI dd)), (5, .int (nI (lv + 1))), (0, .ref zo), (1, .ref h), (2, .ref ys), (3, .int (nI u)), (4, .int (nI b))]) hx hb dX1_stepFrom_31 hl (by decide) rfl (fun ls hl => ?_)
        refine lv_iload hx hb dX1_stepFrom_33 (lv_at hl 0 rfl) ?_
        refine o_if_lt (tgt := 46) hx hb dX1_stepFrom_35 (by decide) (fun d h => by have := hab d h; omega) (fun c35 => ?_) (fun d35 c35 => ?_)
        · have _ : True := trivial
          have hm9 : mvb wd hd nb wl sh bw bh srm (K u) b dd = none := by
            cases e : mvb wd hd nb wl sh bw bh srm (K u) b dd with
            | none => rfl
            | some q => obtain ⟨i9, h9, -⟩ := ha1 q e; rw [c35] at h9; cases h9
          refine lv_iinc (v := nI (dd + 1)) (lv' := [(6, .int (nI (dd + 1))), (7, .int (oI r9_28)), (5, .int (nI (lv + 1))), (0, .ref zo), (1, .ref h), (2, .ref ys), (3, .int (nI u)), (4, .int (nI b))]) hx hb dX1_stepFrom_46 hl (k := 1) rfl (nI_1 _) (by decide) rfl (fun ls hl => ?_)
          refine lv_goto (tgt := 15) hx hb dX1_stepFrom_49 (by decide) ?_
          exact ih15 (dd + 1) Fb Qb fb sb (by omega) iD ik (lt_s id (fun q hq => by rw [hm9] at hq; cases hq)) (by omega) _ _ hP hD hS _ (lv_sub hl [0, 2, 3, 4, 5, 6, 7] rfl)
        · have _ : True := trivial
          have hmq : ∃ q, mvb wd hd nb wl sh bw bh srm (K u) b dd = some q := by
            cases e : mvb wd hd nb wl sh bw bh srm (K u) b dd with
            | none => rw [ha0 e] at c35; cases c35
            | some q => exact ⟨q, rfl⟩
          obtain ⟨q9, hq9⟩ := hmq
          obtain ⟨i9, hi9, hto, hKto⟩ := ha1 q9 hq9
          rw [c35] at hi9
          cases hi9
          refine lv_aload_n hx hb dX1_stepFrom_38 rfl (lv_at hl 3 rfl) ?_
          refine lv_iload hx hb dX1_stepFrom_39 (lv_at hl 0 rfl) ?_
          refine topi (y := nI d35) (by rw [c35]; rfl) ?_
          refine lv_iload hx hb dX1_stepFrom_41 (lv_at hl 2 rfl) ?_
          refine callV_v (As := [.int (nI d35), .int (nI (lv + 1))]) (rest := []) [0, 1, 2, 3, 4, 5] hC hK hN hP hD rfl (by decide) hS 0 (ci := 1) rfl rfl rfl (c_X1_reach l D cI cJ cB zo zs zf zq zm zl fb sb zb dgb dgp dgr Fb Qb Ma La d35 (lv + 1) (by omega) (fun d h => by have := (DST_b iD h).2; omega) (fun h => by have := DST_m iD hto h; omega)) q580 md_X1_reach rfl hl.1 rfl (Nat.le_of_ble_eq_true rfl) dX1_stepFrom_43 ⟨Nat.le_of_ble_eq_true rfl, Nat.le_of_ble_eq_true rfl⟩ ⟨Nat.le_of_ble_eq_true rfl, Nat.le_of_ble_eq_true rfl⟩ (fun w H locs hpost hP hD hS => ?_)
          obtain ⟨F2_43, Q2_43, fo2_43, su2_43, rfl, hrc⟩ := hpost
          have hP : va_P D vwCl (dkbW cI cJ cB zo zs (bI zb) zf (gI dgb) (gI dgp) (nI fo2_43) (nI su2_43) (gI dgr) zq zm zl (fun zz => oI (F2_43 zz)) (fun zz => nI (Q2_43 zz)) (fun zz => nI (Ma zz)) (fun zz => nI (La zz)) ys yk yp yt y1 y2 (nI sz) (bI tm) (gI sse) (gI srm) (fun zz => lN (K zz)) (fun zz => nI (P zz)) (fun zz => nI (T zz)) h hs hw hh hp (nI se) (nI wd) (nI hd) (nI wl) (nI nb) (nI (topv wd)) (nI (rcv wd hd)) (nI (btv wd hd)) (nI (lcv wd hd)) (gI gl) (gI aq) st sl (gI lb) (fun zz => nI (sh zz)) (fun zz => nI (bw zz)) (fun zz => nI (bh zz)) (fun zz => nI (ps zz))) H := hP
          have hD : va_D A (dkbW cI cJ cB zo zs (bI zb) zf (gI dgb) (gI dgp) (nI fo2_43) (nI su2_43) (gI dgr) zq zm zl (fun zz => oI (F2_43 zz)) (fun zz => nI (Q2_43 zz)) (fun zz => nI (Ma zz)) (fun zz => nI (La zz)) ys yk yp yt y1 y2 (nI sz) (bI tm) (gI sse) (gI srm) (fun zz => lN (K zz)) (fun zz => nI (P zz)) (fun zz => nI (T zz)) h hs hw hh hp (nI se) (nI wd) (nI hd) (nI wl) (nI nb) (nI (topv wd)) (nI (rcv wd hd)) (nI (btv wd hd)) (nI (lcv wd hd)) (gI gl) (gI aq) st sl (gI lb) (fun zz => nI (sh zz)) (fun zz => nI (bw zz)) (fun zz => nI (bh zz)) (fun zz => nI (ps zz))) := hD
          obtain ⟨hD2, hn2, hk2⟩ := DST_r iD hto (by rw [hKto]; exact mvb_mvk hf hku hbn hrb (by omega) hq9) hrc
          refine lv_iinc (v := nI (dd + 1)) (lv' := [(6, .int (nI (dd + 1))), (7, .int (oI r9_28)), (5, .int (nI (lv + 1))), (0, .ref zo), (1, .ref h), (2, .ref ys), (3, .int (nI u)), (4, .int (nI b))]) hx hb dX1_stepFrom_46 hl (k := 1) rfl (nI_1 _) (by decide) rfl (fun ls hl => ?_)
          refine lv_goto (tgt := 15) hx hb dX1_stepFrom_49 (by decide) ?_
          exact ih15 (dd + 1) F2_43 Q2_43 fo2_43 su2_43 (by omega) hD2 (fun j e h => hk2 j e (ik j e h)) (lt_s (fun d hd9 q hq j hj hk => by obtain ⟨e, h1, h2⟩ := id d hd9 q hq j hj hk; exact ⟨e, hk2 j e h1, h2⟩) (fun q hq j hj hk => by rw [hq9] at hq; cases hq; rw [hinj j d35 hj hto (hk.trans hKto.symm)]; exact hn2)) (by omega) _ _ hP hD hS _ (lv_sub hl [0, 2, 3, 4, 5, 6, 7] rfl)
  exact L15 _ 0 Fa Qa fo su (by omega) hDs (fun j e h => h) (fun d h => absurd h (Nat.not_lt_zero d)) (Nat.lt_succ_self _) _ _ hP hD hS _ (lv_sub hl [0, 1, 2, 3, 4, 5, 6] rfl)
