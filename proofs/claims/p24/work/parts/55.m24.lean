abbrev kW (cI cJ cB : ClassId) (ys : Nat) (yk : Nat) (yp : Nat) (yt : Nat) (y1 : Nat) (y2 : Nat) (ysz : Int32) (ytm : Int32) (yse : Int32) (yrm : Int32) (yK : Nat → Int64) (yP : Nat → Int32) (yT : Nat → Int32) : va_W := [(ys, .inr (5, [.ref yk, .ref yp, .ref yt, .ref y1, .ref y2, .int ysz, .int ytm, .int yse, .int yrm])), (yk, .inl (cJ, 2000, .inr (.inl yK))), (yp, .inl (cI, 2000, .inl yP)), (yt, .inl (cI, 4096, .inl yT))]
abbrev kbW (cI cJ cB : ClassId) (ys : Nat) (yk : Nat) (yp : Nat) (yt : Nat) (y1 : Nat) (y2 : Nat) (ysz : Int32) (ytm : Int32) (yse : Int32) (yrm : Int32) (yK : Nat → Int64) (yP : Nat → Int32) (yT : Nat → Int32) (h : Nat) (hs : Nat) (hw : Nat) (hh : Nat) (hp : Nat) (bse : Int32) (bwi : Int32) (bhe : Int32) (bwa : Int32) (bco : Int32) (btr : Int32) (brc : Int32) (bbr : Int32) (blc : Int32) (bgb : Int32) (bgp : Int32) (bst : Int32) (bsl : Int32) (bla : Int32) (bsh : Nat → Int32) (bwd : Nat → Int32) (bhg : Nat → Int32) (bsp : Nat → Int32) : va_W := [(ys, .inr (5, [.ref yk, .ref yp, .ref yt, .ref y1, .ref y2, .int ysz, .int ytm, .int yse, .int yrm])), (yk, .inl (cJ, 2000, .inr (.inl yK))), (yp, .inl (cI, 2000, .inl yP)), (yt, .inl (cI, 4096, .inl yT)), (h, .inr (0, [.int bse, .int bwi, .int bhe, .int bwa, .int bco, .int btr, .int brc, .int bbr, .int blc, .ref hs, .ref hw, .ref hh, .ref hp, .int bgb, .int bgp, .int bst, .int bsl, .int bla])), (hs, .inl (cI, 7, .inl bsh)), (hw, .inl (cI, 7, .inl bwd)), (hh, .inl (cI, 7, .inl bhg)), (hp, .inl (cI, 7, .inl bsp))]
abbrev eW (cI cJ cB : ClassId) (ys : Nat) (yk : Nat) (yp : Nat) (yt : Nat) (y1 : Nat) (y2 : Nat) (ysz : Int32) (ytm : Int32) (yse : Int32) (yrm : Int32) (yK : Nat → Int64) (yP : Nat → Int32) (yT : Nat → Int32) (zs : Nat) (zsl1 : Int32) (zf1 : Nat) (zgb1 : Int32) (zgp1 : Int32) (zfo1 : Int32) (zsu1 : Int32) (zgr1 : Int32) (zsl2 : Int32) (zf2 : Nat) (zgb2 : Int32) (zgp2 : Int32) (zfo2 : Int32) (zsu2 : Int32) (zgr2 : Int32) (h : Nat) (hs : Nat) (hw : Nat) (hh : Nat) (hp : Nat) (bse : Int32) (bwi : Int32) (bhe : Int32) (bwa : Int32) (bco : Int32) (btr : Int32) (brc : Int32) (bbr : Int32) (blc : Int32) (bgb : Int32) (bgp : Int32) (bst : Int32) (bsl : Int32) (bla : Int32) (bsh : Nat → Int32) (bwd : Nat → Int32) (bhg : Nat → Int32) (bsp : Nat → Int32) : va_W := [(ys, .inr (5, [.ref yk, .ref yp, .ref yt, .ref y1, .ref y2, .int ysz, .int ytm, .int yse, .int yrm])), (yk, .inl (cJ, 2000, .inr (.inl yK))), (yp, .inl (cI, 2000, .inl yP)), (yt, .inl (cI, 4096, .inl yT)), (y1, .inr (1, [.int zsl1, .ref zs, .ref zf1, .int zgb1, .int zgp1, .int zfo1, .int zsu1, .int zgr1])), (y2, .inr (1, [.int zsl2, .ref zs, .ref zf2, .int zgb2, .int zgp2, .int zfo2, .int zsu2, .int zgr2])), (h, .inr (0, [.int bse, .int bwi, .int bhe, .int bwa, .int bco, .int btr, .int brc, .int bbr, .int blc, .ref hs, .ref hw, .ref hh, .ref hp, .int bgb, .int bgp, .int bst, .int bsl, .int bla])), (hs, .inl (cI, 7, .inl bsh)), (hw, .inl (cI, 7, .inl bwd)), (hh, .inl (cI, 7, .inl bhg)), (hp, .inl (cI, 7, .inl bsp))]
abbrev d1W (cI cJ cB : ClassId) (zo : Nat) (zs : Nat) (zsl : Int32) (zf : Nat) (zgb : Int32) (zgp : Int32) (zfo : Int32) (zsu : Int32) (zgr : Int32) : va_W := [(zo, .inr (1, [.int zsl, .ref zs, .ref zf, .int zgb, .int zgp, .int zfo, .int zsu, .int zgr]))]
set_option maxHeartbeats 400000 in
set_option maxRecDepth 100000 in
theorem c_X5_slotOf (l : Launch) (D : va_G) (cI cJ cB : ClassId) (ys yk yp yt y1 y2 sz : Nat) (tm : Bool) (sse srm : Option Nat) (K P T : Nat → Nat) (x : Nat) (hk : x < 2 ^ 35) (hT : TI 4096 hkC K sz T) (hsz : sz ≤ 2000) (hal : ∀ i, i < sz → K i < 2 ^ 35) : Met l yX5_slotOf (Cond.code yX5_slotOf cX5_slotOf 6 (some .int) :: lw_all) (rmN 0) (va_Pc [.ref ys, .long (lN x)] (pB D (tyz cI cJ cB) (kW cI cJ cB ys yk yp yt y1 y2 (nI sz) (bI tm) (gI sse) (gI srm) (fun zz => lN (K zz)) (fun zz => nI (P zz)) (fun zz => nI (T zz))))) (va_Qi (fun (r : Int32) (w : va_W) => ∃ t : Nat, r = nI ((hkC x + t) % 4096) ∧ w = kW cI cJ cB ys yk yp yt y1 y2 (nI sz) (bI tm) (gI sse) (gI srm) (fun zz => lN (K zz)) (fun zz => nI (P zz)) (fun zz => nI (T zz)) ∧ t < 4096 ∧ TW 4096 hkC K T x t ∧ (T ((hkC x + t) % 4096) = 0 ∨ 0 < T ((hkC x + t) % 4096) ∧ K (T ((hkC x + t) % 4096) - 1) = x)) (gB D (kW cI cJ cB ys yk yp yt y1 y2 (nI sz) (bI tm) (gI sse) (gI srm) (fun zz => lN (K zz)) (fun zz => nI (P zz)) (fun zz => nI (T zz)))) (aW (kW cI cJ cB ys yk yp yt y1 y2 (nI sz) (bI tm) (gI sse) (gI srm) (fun zz => lN (K zz)) (fun zz => nI (P zz)) (fun zz => nI (T zz))))) 0 0 (aW (kW cI cJ cB ys yk yp yt y1 y2 (nI sz) (bI tm) (gI sse) (gI srm) (fun zz => lN (K zz)) (fun zz => nI (P zz)) (fun zz => nI (T zz)))) := by
  refine Met.ofW (cc := cX5_slotOf) (maxL := 6) (ret := (some .int)) (by decide) rfl ?_
  intro p e s m args below meth c s₁ B hml hv
  obtain ⟨rfl, hK, hN, hP, hD0⟩ := hv
  have hx := B.exec; have hb := B.bytes; have hr := B.returns; have hlocks := B.notSynchronized
  have hts0 := atoms_spec (ws := Cond.code yX5_slotOf cX5_slotOf 6 (some .int) :: lw_all) B.pre
  have hC : CallFix p m c cX5_slotOf 6 s _ lw_all RX5 := ⟨hx, hb, hml, findClass_of_methodNamed B.named, fun w h => hts0 w (List.mem_cons_of_mem _ h)⟩
  have hD : va_D (aW (kW cI cJ cB ys yk yp yt y1 y2 (nI sz) (bI tm) (gI sse) (gI srm) (fun zz => lN (K zz)) (fun zz => nI (P zz)) (fun zz => nI (T zz)))) (kW cI cJ cB ys yk yp yt y1 y2 (nI sz) (bI tm) (gI sse) (gI srm) (fun zz => lN (K zz)) (fun zz => nI (P zz)) (fun zz => nI (T zz))) := ⟨hD0.1, fun k q h => ⟨k, q.2, h⟩⟩
  generalize hAe : aW (kW cI cJ cB ys yk yp yt y1 y2 (nI sz) (bI tm) (gI sse) (gI srm) (fun zz => lN (K zz)) (fun zz => nI (P zz)) (fun zz => nI (T zz))) = A at hD ⊢
  have hS : va_S A s.heap s.heap [] := va_S.rf
  have hl := lv_entry ([.ref ys, .long (lN x)]) (n := 6) (Nat.le_of_ble_eq_true rfl)
  rw [lg_entry_eq]
  generalize (lg_sl ([.ref ys, .long (lN x)]) ++ List.replicate (6 - (lg_sl ([.ref ys, .long (lN x)])).length) Slot.unset).toArray = ls at hl ⊢
  have hl : lv_has ls 6 [(0, .ref ys), (1, .long (lN x))] := hl
  generalize hav : ([.ref ys, .long (lN x)] : List Value).toArray = args at hC ⊢
  refine W_gen (fun QQ hQ => ?_)
  show W p l e (rmN 0) s m args below meth c s.heap [] 0 0 QQ (F0 m 0 ls [])
  refine lv_lload_n hx hb dX5_slotOf_0 rfl (lv_at hl 1 rfl) ?_
  refine lv_ldc2 (v := (-7046029254386353131)) hx hb hC.2.2.2.1 (hC.2.2.2.2 _ q505) dX5_slotOf_1 ?_
  refine lv_lmul hx hb dX5_slotOf_4 ?_
  refine topl (y := lN (x * 11400714819323198485 % 2 ^ 64)) (hC_m x) ?_
  refine lv_bipush (v := nI 52) hx hb dX5_slotOf_5 (by decide) ?_
  refine n_lushr hx hb dX5_slotOf_7 (Nat.mod_lt _ (by decide)) (by omega) ?_
  refine lv_l2i (v := nI ((x * 11400714819323198485 % 2 ^ 64) / 2 ^ 52)) hx hb dX5_slotOf_8 (lN_i _) ?_
  refine topi (y := nI ((hkC x + 0) % 4096)) (hC_0 x) ?_
  refine lv_istore_n (lv' := [(3, .int (nI ((hkC x + 0) % 4096))), (0, .ref ys), (1, .long (lN x))]) hx hb dX5_slotOf_9 rfl hl (by decide) rfl (fun ls hl => ?_)
  refine lv_iconst (v := nI 0) hx hb dX5_slotOf_10 (by decide) ?_
  refine lv_istore (lv' := [(4, .int (nI 0)), (3, .int (nI ((hkC x + 0) % 4096))), (0, .ref ys), (1, .long (lN x))]) hx hb dX5_slotOf_11 hl (by decide) rfl (fun ls hl => ?_)
  have L13 : ∀ (n : Nat) (t : Nat), (TW 4096 hkC K T x t) → (t < 4096) → (4096 - t) < n → ∀ (H : Heap) (locs : List Loc), va_P D vwCl (kW cI cJ cB ys yk yp yt y1 y2 (nI sz) (bI tm) (gI sse) (gI srm) (fun zz => lN (K zz)) (fun zz => nI (P zz)) (fun zz => nI (T zz))) H → va_D A (kW cI cJ cB ys yk yp yt y1 y2 (nI sz) (bI tm) (gI sse) (gI srm) (fun zz => lN (K zz)) (fun zz => nI (P zz)) (fun zz => nI (T zz))) → va_S A s.heap H locs → ∀ ls : Array Slot, lv_has ls 6 [(3, .int (nI ((hkC x + t) % 4096))), (4, .int (nI t)), (0, .ref ys), (1, .long (lN x))] → W p l e (rmN 0) s m args below meth c H locs 0 0 QQ (F0 m 13 ls []) := by
    intro n; induction n with
    | zero => intro t iw it hm; exact absurd hm (Nat.not_lt_zero _)
    | succ n ih13 =>
      intro t iw it hm13 H locs hP hD hS ls hl
      have hle := hT.2.1 ((hkC x + t) % 4096) (Nat.mod_lt _ (by decide))
      have hml9 : ((hkC x + t) % 4096) < 4096 := Nat.mod_lt _ (by decide)
      refine lv_iload hx hb dX5_slotOf_13 (lv_at hl 1 rfl) ?_
      refine lv_sipush (v := nI 4096) hx hb dX5_slotOf_15 (by decide) ?_
      refine n_icmp_ge (a := t) (b := 4096) (tgt := 91) hx hb dX5_slotOf_18 (by decide) (by omega) (by omega) (fun c18 => ?_) (fun c18 => ?_)
      · have _ : True := trivial
        exact absurd c18 (by omega)
      · have _ : True := trivial
        refine lv_iload_n hx hb dX5_slotOf_21 rfl (lv_at hl 0 rfl) ?_
        refine n_if_lt (tgt := 45) hx hb dX5_slotOf_22 (by decide) (by omega) ?_
        refine lv_iload_n hx hb dX5_slotOf_25 rfl (lv_at hl 0 rfl) ?_
        refine lv_aload_n hx hb dX5_slotOf_26 rfl (lv_at hl 2 rfl) ?_
        refine gf_X5_19 hC hK hP 0 rfl rfl dX5_slotOf_27 ?_
        refine va_alen hx hb hK hP 3 0 rfl rfl (v := nI 4096) rfl dX5_slotOf_30 ?_
        refine n_icmp_ge (a := ((hkC x + t) % 4096)) (b := 4096) (tgt := 45) hx hb dX5_slotOf_31 (by decide) (by omega) (by omega) (fun c31 => ?_) (fun c31 => ?_)
        · have _ : True := trivial
          exact absurd c31 (by omega)
        · have _ : True := trivial
          refine lv_aload_n hx hb dX5_slotOf_34 rfl (lv_at hl 2 rfl) ?_
          refine gf_X5_19 hC hK hP 0 rfl rfl dX5_slotOf_35 ?_
          refine lv_iload_n hx hb dX5_slotOf_38 rfl (lv_at hl 0 rfl) ?_
          refine n_iald hx hb hK hP 3 0 rfl rfl hml9 (by first | decide | omega) dX5_slotOf_39 ?_
          refine lv_iconst (v := nI 1) hx hb dX5_slotOf_40 (by decide) ?_
          refine lv_isub hx hb dX5_slotOf_41 ?_
          rcases Nat.eq_zero_or_pos (T ((hkC x + t) % 4096)) with hz | hz
          · have _ : True := trivial
            refine topi (y := (-1)) (by rw [hz]; rfl) ?_
            refine lv_goto (tgt := 46) hx hb dX5_slotOf_42 (by decide) ?_
            refine lv_istore (lv' := [(5, .int (-1)), (3, .int (nI ((hkC x + t) % 4096))), (4, .int (nI t)), (0, .ref ys), (1, .long (lN x))]) hx hb dX5_slotOf_46 hl (by decide) rfl (fun ls hl => ?_)
            refine lv_iload hx hb dX5_slotOf_48 (lv_at hl 0 rfl) ?_
            refine lv_if_lt (tgt := 75) hx hb dX5_slotOf_50 (by decide) (fun _ => ?_) (fun h => absurd (by decide) h)
            refine lv_iload_n hx hb dX5_slotOf_75 rfl (lv_at hl 1 rfl) ?_
            rw [hQ]
            exact W.iret (v := nI ((hkC x + t) % 4096)) hx hb hr (fun t9 ht hW => ⟨⟨_, _, rfl, ⟨t, rfl, rfl, it, iw, Or.inl hz⟩, by rw [ht]; exact hP, rfl⟩, hS.F ht⟩) hS.2.2 dX5_slotOf_76
          · have _ : True := trivial
            refine topi (y := nI (T ((hkC x + t) % 4096) - 1)) (pk_sub (by omega)) ?_
            refine lv_goto (tgt := 46) hx hb dX5_slotOf_42 (by decide) ?_
            refine lv_istore (lv' := [(5, .int (nI (T ((hkC x + t) % 4096) - 1))), (3, .int (nI ((hkC x + t) % 4096))), (4, .int (nI t)), (0, .ref ys), (1, .long (lN x))]) hx hb dX5_slotOf_46 hl (by decide) rfl (fun ls hl => ?_)
            refine lv_iload hx hb dX5_slotOf_48 (lv_at hl 0 rfl) ?_
            refine n_if_lt (tgt := 75) hx hb dX5_slotOf_50 (by decide) (by omega) ?_
            refine lv_iload hx hb dX5_slotOf_53 (lv_at hl 0 rfl) ?_
            refine lv_aload_n hx hb dX5_slotOf_55 rfl (lv_at hl 3 rfl) ?_
            refine gf_X5_9 hC hK hP 0 rfl rfl dX5_slotOf_56 ?_
            refine va_alen hx hb hK hP 1 1 rfl rfl (v := nI 2000) rfl dX5_slotOf_59 ?_
            refine n_icmp_ge (a := T ((hkC x + t) % 4096) - 1) (b := 2000) (tgt := 75) hx hb dX5_slotOf_60 (by decide) (by omega) (by omega) (fun c60 => ?_) (fun c60 => ?_)
            · have _ : True := trivial
              exact absurd c60 (by omega)
            · have _ : True := trivial
              refine lv_aload_n hx hb dX5_slotOf_63 rfl (lv_at hl 3 rfl) ?_
              refine gf_X5_9 hC hK hP 0 rfl rfl dX5_slotOf_64 ?_
              refine lv_iload hx hb dX5_slotOf_67 (lv_at hl 0 rfl) ?_
              refine n_lald hx hb hK hP 1 1 rfl rfl (by omega) (by first | decide | omega) dX5_slotOf_69 ?_
              refine lv_lload_n hx hb dX5_slotOf_70 rfl (lv_at hl 4 rfl) ?_
              refine n_lcmp hx hb dX5_slotOf_71 ?_
              refine l_if_ne (a := K (T ((hkC x + t) % 4096) - 1)) (b := x) (tgt := 77) hx hb dX5_slotOf_72 (by decide) (by have := hal (T ((hkC x + t) % 4096) - 1) (by omega); omega) (by omega) (fun c72 => ?_) (fun c72 => ?_)
              · have _ : True := trivial
                refine lv_iload_n hx hb dX5_slotOf_77 rfl (lv_at hl 1 rfl) ?_
                refine lv_iconst (v := nI 1) hx hb dX5_slotOf_78 (by decide) ?_
                refine n_iadd hx hb dX5_slotOf_79  ?_
                refine lv_sipush (v := nI 4095) hx hb dX5_slotOf_80 (by decide) ?_
                refine n_iand hx hb dX5_slotOf_83  ?_
                refine topi (y := nI ((hkC x + (t + 1)) % 4096)) (hC_s _ t) ?_
                refine lv_istore_n (lv' := [(3, .int (nI ((hkC x + (t + 1)) % 4096))), (5, .int (nI (T ((hkC x + t) % 4096) - 1))), (4, .int (nI t)), (0, .ref ys), (1, .long (lN x))]) hx hb dX5_slotOf_84 rfl hl (by decide) rfl (fun ls hl => ?_)
                refine lv_iinc (v := nI (t + 1)) (lv' := [(4, .int (nI (t + 1))), (3, .int (nI ((hkC x + (t + 1)) % 4096))), (5, .int (nI (T ((hkC x + t) % 4096) - 1))), (0, .ref ys), (1, .long (lN x))]) hx hb dX5_slotOf_85 hl (k := 2) rfl (nI_1 _) (by decide) rfl (fun ls hl => ?_)
                refine lv_goto (tgt := 13) hx hb dX5_slotOf_88 (by decide) ?_
                exact ih13 (t + 1) (TW_s iw (by omega) c72) (TW_lt hT (TW_s iw (by omega) c72) (by omega)) (by omega) _ _ hP hD hS _ (lv_sub hl [1, 0, 3, 4] rfl)
              · have _ : True := trivial
                refine lv_iload_n hx hb dX5_slotOf_75 rfl (lv_at hl 1 rfl) ?_
                rw [hQ]
                exact W.iret (v := nI ((hkC x + t) % 4096)) hx hb hr (fun t9 ht hW => ⟨⟨_, _, rfl, ⟨t, rfl, rfl, it, iw, Or.inr ⟨hz, c72⟩⟩, by rw [ht]; exact hP, rfl⟩, hS.F ht⟩) hS.2.2 dX5_slotOf_76
  exact L13 _ 0 TW_0 (by omega) (Nat.lt_succ_self _) _ _ hP hD hS _ (lv_sub hl [1, 0, 2, 3] rfl)

set_option maxHeartbeats 400000 in
set_option maxRecDepth 100000 in
theorem c_X5_add (l : Launch) (D : va_G) (cI cJ cB : ClassId) (ys yk yp yt y1 y2 sz : Nat) (tm : Bool) (sse srm : Option Nat) (K P T : Nat → Nat) (x : Nat) (hk : x < 2 ^ 35) (hT : TI 4096 hkC K sz T) (hsz : sz ≤ 2000) (hal : ∀ i, i < sz → K i < 2 ^ 35) : Met l yX5_add (Cond.code yX5_add cX5_add 4 none :: lw_all) (rmN 1) (va_Pc [.ref ys, .long (lN x)] (pB D (tyz cI cJ cB) (kW cI cJ cB ys yk yp yt y1 y2 (nI sz) (bI tm) (gI sse) (gI srm) (fun zz => lN (K zz)) (fun zz => nI (P zz)) (fun zz => nI (T zz))))) (va_Qv (fun (w : va_W) => ∃ K2 : Nat → Nat, ∃ n2 : Nat, ∃ T2 : Nat → Nat, ∃ tm2 : Bool, w = kW cI cJ cB ys yk yp yt y1 y2 (nI n2) (bI tm2) (gI sse) (gI srm) (fun zz => lN (K2 zz)) (fun zz => nI (P zz)) (fun zz => nI (T2 zz)) ∧ FDC K sz T tm x K2 n2 T2 tm2) (gB D (kW cI cJ cB ys yk yp yt y1 y2 (nI sz) (bI tm) (gI sse) (gI srm) (fun zz => lN (K zz)) (fun zz => nI (P zz)) (fun zz => nI (T zz)))) (aW (kW cI cJ cB ys yk yp yt y1 y2 (nI sz) (bI tm) (gI sse) (gI srm) (fun zz => lN (K zz)) (fun zz => nI (P zz)) (fun zz => nI (T zz))))) 0 0 (aW (kW cI cJ cB ys yk yp yt y1 y2 (nI sz) (bI tm) (gI sse) (gI srm) (fun zz => lN (K zz)) (fun zz => nI (P zz)) (fun zz => nI (T zz)))) := by
  refine Met.ofW (cc := cX5_add) (maxL := 4) (ret := none) (by decide) rfl ?_
  intro p e s m args below meth c s₁ B hml hv
  obtain ⟨rfl, hK, hN, hP, hD0⟩ := hv
  have hx := B.exec; have hb := B.bytes; have hr := B.returns; have hlocks := B.notSynchronized
  have hts0 := atoms_spec (ws := Cond.code yX5_add cX5_add 4 none :: lw_all) B.pre
  have hC : CallFix p m c cX5_add 4 s _ lw_all RX5 := ⟨hx, hb, hml, findClass_of_methodNamed B.named, fun w h => hts0 w (List.mem_cons_of_mem _ h)⟩
  have hD : va_D (aW (kW cI cJ cB ys yk yp yt y1 y2 (nI sz) (bI tm) (gI sse) (gI srm) (fun zz => lN (K zz)) (fun zz => nI (P zz)) (fun zz => nI (T zz)))) (kW cI cJ cB ys yk yp yt y1 y2 (nI sz) (bI tm) (gI sse) (gI srm) (fun zz => lN (K zz)) (fun zz => nI (P zz)) (fun zz => nI (T zz))) := ⟨hD0.1, fun k q h => ⟨k, q.2, h⟩⟩
  generalize hAe : aW (kW cI cJ cB ys yk yp yt y1 y2 (nI sz) (bI tm) (gI sse) (gI srm) (fun zz => lN (K zz)) (fun zz => nI (P zz)) (fun zz => nI (T zz))) = A at hD ⊢
  have hS : va_S A s.heap s.heap [] := va_S.rf
  have hl := lv_entry ([.ref ys, .long (lN x)]) (n := 4) (Nat.le_of_ble_eq_true rfl)
  rw [lg_entry_eq]
  generalize (lg_sl ([.ref ys, .long (lN x)]) ++ List.replicate (4 - (lg_sl ([.ref ys, .long (lN x)])).length) Slot.unset).toArray = ls at hl ⊢
  have hl : lv_has ls 4 [(0, .ref ys), (1, .long (lN x))] := hl
  generalize hav : ([.ref ys, .long (lN x)] : List Value).toArray = args at hC ⊢
  refine W_gen (fun QQ hQ => ?_)
  show W p l e (rmN 1) s m args below meth c s.heap [] 0 0 QQ (F0 m 0 ls [])
  refine lv_aload_n hx hb dX5_add_0 rfl (lv_at hl 0 rfl) ?_
  refine lv_lload_n hx hb dX5_add_1 rfl (lv_at hl 1 rfl) ?_
  refine callV_i (As := [.long (lN x)]) (rest := []) [0, 1, 2, 3] hC hK hN hP hD rfl (by decide) hS 0 (ci := 5) rfl rfl rfl (c_X5_slotOf l D cI cJ cB ys yk yp yt y1 y2 sz tm sse srm K P T x (by omega) (by omega) (by omega) (by omega)) q501 md_X5_slotOf rfl hl.1 rfl (Nat.le_of_ble_eq_true rfl) dX5_add_2 ⟨Nat.le_of_ble_eq_true rfl, Nat.le_of_ble_eq_true rfl⟩ ⟨Nat.le_of_ble_eq_true rfl, Nat.le_of_ble_eq_true rfl⟩ (fun r_2 w H locs hpost hP hD hS => ?_)
  obtain ⟨t_2, rfl, rfl, h2t, h2w, h2f⟩ := hpost
  have hP : va_P D vwCl (kW cI cJ cB ys yk yp yt y1 y2 (nI sz) (bI tm) (gI sse) (gI srm) (fun zz => lN (K zz)) (fun zz => nI (P zz)) (fun zz => nI (T zz))) H := hP
  have hD : va_D A (kW cI cJ cB ys yk yp yt y1 y2 (nI sz) (bI tm) (gI sse) (gI srm) (fun zz => lN (K zz)) (fun zz => nI (P zz)) (fun zz => nI (T zz))) := hD
  have hml9 : ((hkC x + t_2) % 4096) < 4096 := Nat.mod_lt _ (by decide)
  have hle9 := hT.2.1 ((hkC x + t_2) % 4096) hml9
  refine lv_istore_n (lv' := [(3, .int (nI ((hkC x + t_2) % 4096))), (0, .ref ys), (1, .long (lN x))]) hx hb dX5_add_5 rfl hl (by decide) rfl (fun ls hl => ?_)
  refine lv_aload_n hx hb dX5_add_6 rfl (lv_at hl 1 rfl) ?_
  refine gf_X5_19 hC hK hP 0 rfl rfl dX5_add_7 ?_
  refine lv_iload_n hx hb dX5_add_10 rfl (lv_at hl 0 rfl) ?_
  refine callN_i (As := [.ref yt, .int (nI ((hkC x + t_2) % 4096))]) (rest := []) [3] hC hK hN hP hD rfl (by decide) hS (c_X7_at_N l D cI cJ cB yt 4096 ((hkC x + t_2) % 4096) T hml9 (by omega)) q506 md_X7_at rfl hl.1 rfl (Nat.le_of_ble_eq_true rfl) dX5_add_11 ⟨Nat.le_of_ble_eq_true rfl, Nat.le_of_ble_eq_true rfl⟩ ⟨Nat.le_of_ble_eq_true rfl, Nat.le_of_ble_eq_true rfl⟩ (fun r_11 w H locs hpost hP hD hS => ?_)
  obtain ⟨rfl, rfl⟩ := hpost
  have hP : va_P D vwCl (kW cI cJ cB ys yk yp yt y1 y2 (nI sz) (bI tm) (gI sse) (gI srm) (fun zz => lN (K zz)) (fun zz => nI (P zz)) (fun zz => nI (T zz))) H := hP
  have hD : va_D A (kW cI cJ cB ys yk yp yt y1 y2 (nI sz) (bI tm) (gI sse) (gI srm) (fun zz => lN (K zz)) (fun zz => nI (P zz)) (fun zz => nI (T zz))) := hD
  refine n_if_eq (tgt := 18) hx hb dX5_add_14 (by decide) (by omega) (fun c14 => ?_) (fun c14 => ?_)
  · have _ : True := trivial
    have hfr := TW_free hT h2w c14
    refine lv_aload_n hx hb dX5_add_18 rfl (lv_at hl 1 rfl) ?_
    refine gf_X5_22 hC hK hP 0 rfl rfl dX5_add_19 ?_
    refine lv_sipush (v := nI 2000) hx hb dX5_add_22 (by decide) ?_
    refine n_icmp_lt (a := sz) (b := 2000) (tgt := 34) hx hb dX5_add_25 (by decide) (by omega) (by omega) (fun c25 => ?_) (fun c25 => ?_)
    · have _ : True := trivial
      refine lv_aload_n hx hb dX5_add_34 rfl (lv_at hl 1 rfl) ?_
      refine gf_X5_9 hC hK hP 0 rfl rfl dX5_add_35 ?_
      refine lv_aload_n hx hb dX5_add_38 rfl (lv_at hl 1 rfl) ?_
      refine gf_X5_22 hC hK hP 0 rfl rfl dX5_add_39 ?_
      refine lv_lload_n hx hb dX5_add_42 rfl (lv_at hl 2 rfl) ?_
      refine callN_v (As := [.ref yk, .int (nI sz), .long (lN x)]) (rest := []) [1] hC hK hN hP hD rfl (by decide) hS (c_X7_put_L l D cI cJ cB yk 2000 sz K x (by omega) (by omega)) q507 md_X7_put_ rfl hl.1 rfl (Nat.le_of_ble_eq_true rfl) dX5_add_43 ⟨Nat.le_of_ble_eq_true rfl, Nat.le_of_ble_eq_true rfl⟩ ⟨Nat.le_of_ble_eq_true rfl, Nat.le_of_ble_eq_true rfl⟩ (fun w H locs hpost hP hD hS => ?_)
      obtain rfl := hpost
      have hP : va_P D vwCl (kW cI cJ cB ys yk yp yt y1 y2 (nI sz) (bI tm) (gI sse) (gI srm) (fun zz => lN ((va_up K sz x) zz)) (fun zz => nI (P zz)) (fun zz => nI (T zz))) H := hP
      have hD : va_D A (kW cI cJ cB ys yk yp yt y1 y2 (nI sz) (bI tm) (gI sse) (gI srm) (fun zz => lN ((va_up K sz x) zz)) (fun zz => nI (P zz)) (fun zz => nI (T zz))) := hD
      refine lv_aload_n hx hb dX5_add_46 rfl (lv_at hl 1 rfl) ?_
      refine lv_dup hx hb dX5_add_47 rfl ?_
      refine gf_X5_22 hC hK hP 0 rfl rfl dX5_add_48 ?_
      refine lv_iconst (v := nI 1) hx hb dX5_add_51 (by decide) ?_
      refine n_iadd hx hb dX5_add_52  ?_
      refine pf_X5_22 hC hK hP hD hS 0 rfl (Nat.le_of_ble_eq_true rfl) (ws1 := kW cI cJ cB ys yk yp yt y1 y2 (nI (sz + 1)) (bI tm) (gI sse) (gI srm) (fun zz => lN ((va_up K sz x) zz)) (fun zz => nI (P zz)) (fun zz => nI (T zz))) rfl dX5_add_53 (fun H locs hP hD hS => ?_)
      refine lv_aload_n hx hb dX5_add_56 rfl (lv_at hl 1 rfl) ?_
      refine gf_X5_19 hC hK hP 0 rfl rfl dX5_add_57 ?_
      refine lv_iload_n hx hb dX5_add_60 rfl (lv_at hl 0 rfl) ?_
      refine lv_aload_n hx hb dX5_add_61 rfl (lv_at hl 1 rfl) ?_
      refine gf_X5_22 hC hK hP 0 rfl rfl dX5_add_62 ?_
      refine callN_v (As := [.ref yt, .int (nI ((hkC x + t_2) % 4096)), .int (nI (sz + 1))]) (rest := []) [3] hC hK hN hP hD rfl (by decide) hS (c_X7_put_N l D cI cJ cB yt 4096 ((hkC x + t_2) % 4096) T (sz + 1) hml9 (by omega)) q510 md_X7_put rfl hl.1 rfl (Nat.le_of_ble_eq_true rfl) dX5_add_65 ⟨Nat.le_of_ble_eq_true rfl, Nat.le_of_ble_eq_true rfl⟩ ⟨Nat.le_of_ble_eq_true rfl, Nat.le_of_ble_eq_true rfl⟩ (fun w H locs hpost hP hD hS => ?_)
      obtain rfl := hpost
      have hP : va_P D vwCl (kW cI cJ cB ys yk yp yt y1 y2 (nI (sz + 1)) (bI tm) (gI sse) (gI srm) (fun zz => lN ((va_up K sz x) zz)) (fun zz => nI (P zz)) (fun zz => nI ((va_up T ((hkC x + t_2) % 4096) (sz + 1)) zz))) H := hP
      have hD : va_D A (kW cI cJ cB ys yk yp yt y1 y2 (nI (sz + 1)) (bI tm) (gI sse) (gI srm) (fun zz => lN ((va_up K sz x) zz)) (fun zz => nI (P zz)) (fun zz => nI ((va_up T ((hkC x + t_2) % 4096) (sz + 1)) zz))) := hD
      rw [hQ]
      exact W.vret hx hb hr (fun t9 ht hW => ⟨⟨_, rfl, ⟨va_up K sz x, sz + 1, va_up T ((hkC x + t_2) % 4096) (sz + 1), tm, rfl, Or.inr ⟨by omega, rfl, rfl, rfl, TI_add hT h2w c14 h2t (by omega), hfr⟩⟩, by rw [ht]; exact hP, rfl⟩, hS.F ht⟩) hS.2.2 dX5_add_68
    · have _ : True := trivial
      refine lv_aload_n hx hb dX5_add_28 rfl (lv_at hl 1 rfl) ?_
      refine lv_iconst (v := nI 1) hx hb dX5_add_29 (by decide) ?_
      refine topi (y := bI true) rfl ?_
      refine pf_X5_26 hC hK hP hD hS 0 rfl (bnar _) (bfit _) (Nat.le_of_ble_eq_true rfl) (ws1 := kW cI cJ cB ys yk yp yt y1 y2 (nI sz) (bI true) (gI sse) (gI srm) (fun zz => lN (K zz)) (fun zz => nI (P zz)) (fun zz => nI (T zz))) rfl dX5_add_30 (fun H locs hP hD hS => ?_)
      rw [hQ]
      exact W.vret hx hb hr (fun t9 ht hW => ⟨⟨_, rfl, ⟨K, sz, T, true, rfl, Or.inl ⟨rfl, rfl, rfl, Or.inr ⟨rfl, by omega, hfr⟩⟩⟩, by rw [ht]; exact hP, rfl⟩, hS.F ht⟩) hS.2.2 dX5_add_33
  · have _ : True := trivial
    have hh : Has K sz x := ⟨T ((hkC x + t_2) % 4096) - 1, by omega, by rcases h2f with h | h; omega; exact h.2⟩
    rw [hQ]
    exact W.vret hx hb hr (fun t9 ht hW => ⟨⟨_, rfl, ⟨K, sz, T, tm, rfl, Or.inl ⟨rfl, rfl, rfl, Or.inl ⟨rfl, hh⟩⟩⟩, by rw [ht]; exact hP, rfl⟩, hS.F ht⟩) hS.2.2 dX5_add_17

set_option maxHeartbeats 400000 in
set_option maxRecDepth 100000 in
theorem c_X5_takenIn (l : Launch) (D : va_G) (cI cJ cB : ClassId) (ys yk yp yt y1 y2 sz : Nat) (tm : Bool) (sse srm : Option Nat) (K P T : Nat → Nat) (h hs hw hh hp se wd hd nb wl : Nat) (st sl : Int32) (gl aq lb : Option Nat) (sh bw bh ps : Nat → Nat) (k : Nat) (hn7 : nb ≤ 7) (hk : k < 2 ^ 35) (hrm : ∀ d, srm = some d → d < nb) : Met l yX5_takenIn (Cond.code yX5_takenIn cX5_takenIn 6 (some .int) :: lw_all) (rmN 1) (va_Pc [.ref ys, .ref h, .long (lN k)] (pB D (tyz cI cJ cB) (kbW cI cJ cB ys yk yp yt y1 y2 (nI sz) (bI tm) (gI sse) (gI srm) (fun zz => lN (K zz)) (fun zz => nI (P zz)) (fun zz => nI (T zz)) h hs hw hh hp (nI se) (nI wd) (nI hd) (nI wl) (nI nb) (nI (topv wd)) (nI (rcv wd hd)) (nI (btv wd hd)) (nI (lcv wd hd)) (gI gl) (gI aq) st sl (gI lb) (fun zz => nI (sh zz)) (fun zz => nI (bw zz)) (fun zz => nI (bh zz)) (fun zz => nI (ps zz))))) (va_Qi (fun (r : Int32) (w : va_W) => r = nI (tk wl sh k (exb srm none) nb) ∧ w = kbW cI cJ cB ys yk yp yt y1 y2 (nI sz) (bI tm) (gI sse) (gI srm) (fun zz => lN (K zz)) (fun zz => nI (P zz)) (fun zz => nI (T zz)) h hs hw hh hp (nI se) (nI wd) (nI hd) (nI wl) (nI nb) (nI (topv wd)) (nI (rcv wd hd)) (nI (btv wd hd)) (nI (lcv wd hd)) (gI gl) (gI aq) st sl (gI lb) (fun zz => nI (sh zz)) (fun zz => nI (bw zz)) (fun zz => nI (bh zz)) (fun zz => nI (ps zz))) (gB D (kbW cI cJ cB ys yk yp yt y1 y2 (nI sz) (bI tm) (gI sse) (gI srm) (fun zz => lN (K zz)) (fun zz => nI (P zz)) (fun zz => nI (T zz)) h hs hw hh hp (nI se) (nI wd) (nI hd) (nI wl) (nI nb) (nI (topv wd)) (nI (rcv wd hd)) (nI (btv wd hd)) (nI (lcv wd hd)) (gI gl) (gI aq) st sl (gI lb) (fun zz => nI (sh zz)) (fun zz => nI (bw zz)) (fun zz => nI (bh zz)) (fun zz => nI (ps zz)))) (aW (kbW cI cJ cB ys yk yp yt y1 y2 (nI sz) (bI tm) (gI sse) (gI srm) (fun zz => lN (K zz)) (fun zz => nI (P zz)) (fun zz => nI (T zz)) h hs hw hh hp (nI se) (nI wd) (nI hd) (nI wl) (nI nb) (nI (topv wd)) (nI (rcv wd hd)) (nI (btv wd hd)) (nI (lcv wd hd)) (gI gl) (gI aq) st sl (gI lb) (fun zz => nI (sh zz)) (fun zz => nI (bw zz)) (fun zz => nI (bh zz)) (fun zz => nI (ps zz))))) 0 0 (aW (kbW cI cJ cB ys yk yp yt y1 y2 (nI sz) (bI tm) (gI sse) (gI srm) (fun zz => lN (K zz)) (fun zz => nI (P zz)) (fun zz => nI (T zz)) h hs hw hh hp (nI se) (nI wd) (nI hd) (nI wl) (nI nb) (nI (topv wd)) (nI (rcv wd hd)) (nI (btv wd hd)) (nI (lcv wd hd)) (gI gl) (gI aq) st sl (gI lb) (fun zz => nI (sh zz)) (fun zz => nI (bw zz)) (fun zz => nI (bh zz)) (fun zz => nI (ps zz)))) := by
  refine Met.ofW (cc := cX5_takenIn) (maxL := 6) (ret := (some .int)) (by decide) rfl ?_
  intro p e s m args below meth c s₁ B hml hv
  obtain ⟨rfl, hK, hN, hP, hD0⟩ := hv
  have hx := B.exec; have hb := B.bytes; have hr := B.returns; have hlocks := B.notSynchronized
  have hts0 := atoms_spec (ws := Cond.code yX5_takenIn cX5_takenIn 6 (some .int) :: lw_all) B.pre
  have hC : CallFix p m c cX5_takenIn 6 s _ lw_all RX5 := ⟨hx, hb, hml, findClass_of_methodNamed B.named, fun w h => hts0 w (List.mem_cons_of_mem _ h)⟩
  have hD : va_D (aW (kbW cI cJ cB ys yk yp yt y1 y2 (nI sz) (bI tm) (gI sse) (gI srm) (fun zz => lN (K zz)) (fun zz => nI (P zz)) (fun zz => nI (T zz)) h hs hw hh hp (nI se) (nI wd) (nI hd) (nI wl) (nI nb) (nI (topv wd)) (nI (rcv wd hd)) (nI (btv wd hd)) (nI (lcv wd hd)) (gI gl) (gI aq) st sl (gI lb) (fun zz => nI (sh zz)) (fun zz => nI (bw zz)) (fun zz => nI (bh zz)) (fun zz => nI (ps zz)))) (kbW cI cJ cB ys yk yp yt y1 y2 (nI sz) (bI tm) (gI sse) (gI srm) (fun zz => lN (K zz)) (fun zz => nI (P zz)) (fun zz => nI (T zz)) h hs hw hh hp (nI se) (nI wd) (nI hd) (nI wl) (nI nb) (nI (topv wd)) (nI (rcv wd hd)) (nI (btv wd hd)) (nI (lcv wd hd)) (gI gl) (gI aq) st sl (gI lb) (fun zz => nI (sh zz)) (fun zz => nI (bw zz)) (fun zz => nI (bh zz)) (fun zz => nI (ps zz))) := ⟨hD0.1, fun k q h => ⟨k, q.2, h⟩⟩
  generalize hAe : aW (kbW cI cJ cB ys yk yp yt y1 y2 (nI sz) (bI tm) (gI sse) (gI srm) (fun zz => lN (K zz)) (fun zz => nI (P zz)) (fun zz => nI (T zz)) h hs hw hh hp (nI se) (nI wd) (nI hd) (nI wl) (nI nb) (nI (topv wd)) (nI (rcv wd hd)) (nI (btv wd hd)) (nI (lcv wd hd)) (gI gl) (gI aq) st sl (gI lb) (fun zz => nI (sh zz)) (fun zz => nI (bw zz)) (fun zz => nI (bh zz)) (fun zz => nI (ps zz))) = A at hD ⊢
  have hS : va_S A s.heap s.heap [] := va_S.rf
  have hl := lv_entry ([.ref ys, .ref h, .long (lN k)]) (n := 6) (Nat.le_of_ble_eq_true rfl)
  rw [lg_entry_eq]
  generalize (lg_sl ([.ref ys, .ref h, .long (lN k)]) ++ List.replicate (6 - (lg_sl ([.ref ys, .ref h, .long (lN k)])).length) Slot.unset).toArray = ls at hl ⊢
  have hl : lv_has ls 6 [(0, .ref ys), (1, .ref h), (2, .long (lN k))] := hl
  generalize hav : ([.ref ys, .ref h, .long (lN k)] : List Value).toArray = args at hC ⊢
  refine W_gen (fun QQ hQ => ?_)
  show W p l e (rmN 1) s m args below meth c s.heap [] 0 0 QQ (F0 m 0 ls [])
  refine lv_aload_n hx hb dX5_takenIn_0 rfl (lv_at hl 1 rfl) ?_
  refine gf_X5_108 hC hK hP 4 rfl rfl dX5_takenIn_1 ?_
  refine topi (y := nI (tk wl sh k (exb srm none) 0)) rfl ?_
  refine lv_istore (lv' := [(4, .int (nI (tk wl sh k (exb srm none) 0))), (0, .ref ys), (1, .ref h), (2, .long (lN k))]) hx hb dX5_takenIn_4 hl (by decide) rfl (fun ls hl => ?_)
  refine lv_iconst (v := nI 0) hx hb dX5_takenIn_6 (by decide) ?_
  refine lv_istore (lv' := [(5, .int (nI 0)), (4, .int (nI (tk wl sh k (exb srm none) 0))), (0, .ref ys), (1, .ref h), (2, .long (lN k))]) hx hb dX5_takenIn_7 hl (by decide) rfl (fun ls hl => ?_)
  have L9 : ∀ (n : Nat) (b : Nat), (b ≤ nb) → (nb - b) < n → ∀ (H : Heap) (locs : List Loc), va_P D vwCl (kbW cI cJ cB ys yk yp yt y1 y2 (nI sz) (bI tm) (gI sse) (gI srm) (fun zz => lN (K zz)) (fun zz => nI (P zz)) (fun zz => nI (T zz)) h hs hw hh hp (nI se) (nI wd) (nI hd) (nI wl) (nI nb) (nI (topv wd)) (nI (rcv wd hd)) (nI (btv wd hd)) (nI (lcv wd hd)) (gI gl) (gI aq) st sl (gI lb) (fun zz => nI (sh zz)) (fun zz => nI (bw zz)) (fun zz => nI (bh zz)) (fun zz => nI (ps zz))) H → va_D A (kbW cI cJ cB ys yk yp yt y1 y2 (nI sz) (bI tm) (gI sse) (gI srm) (fun zz => lN (K zz)) (fun zz => nI (P zz)) (fun zz => nI (T zz)) h hs hw hh hp (nI se) (nI wd) (nI hd) (nI wl) (nI nb) (nI (topv wd)) (nI (rcv wd hd)) (nI (btv wd hd)) (nI (lcv wd hd)) (gI gl) (gI aq) st sl (gI lb) (fun zz => nI (sh zz)) (fun zz => nI (bw zz)) (fun zz => nI (bh zz)) (fun zz => nI (ps zz))) → va_S A s.heap H locs → ∀ ls : Array Slot, lv_has ls 6 [(4, .int (nI (tk wl sh k (exb srm none) b))), (5, .int (nI b)), (0, .ref ys), (1, .ref h), (2, .long (lN k))] → W p l e (rmN 1) s m args below meth c H locs 0 0 QQ (F0 m 9 ls []) := by
    intro n; induction n with
    | zero => intro b ib hm; exact absurd hm (Nat.not_lt_zero _)
    | succ n ih9 =>
      intro b ib hm9 H locs hP hD hS ls hl
      refine lv_iload hx hb dX5_takenIn_9 (lv_at hl 1 rfl) ?_
      refine lv_aload_n hx hb dX5_takenIn_11 rfl (lv_at hl 3 rfl) ?_
      refine gf_X5_80 hC hK hP 4 rfl rfl dX5_takenIn_12 ?_
      refine n_icmp_ge (a := b) (b := nb) (tgt := 54) hx hb dX5_takenIn_15 (by decide) (by omega) (by omega) (fun c15 => ?_) (fun c15 => ?_)
      · have _ : True := trivial
        have e15 : b = nb := by omega
        refine lv_iload hx hb dX5_takenIn_54 (lv_at hl 0 rfl) ?_
        rw [hQ]
        exact W.iret (v := nI (tk wl sh k (exb srm none) b)) hx hb hr (fun t9 ht hW => ⟨⟨_, _, rfl, ⟨(by rw [e15]), rfl⟩, by rw [ht]; exact hP, rfl⟩, hS.F ht⟩) hS.2.2 dX5_takenIn_56
      · have _ : True := trivial
        refine lv_iload hx hb dX5_takenIn_18 (lv_at hl 1 rfl) ?_
        refine lv_aload_n hx hb dX5_takenIn_20 rfl (lv_at hl 2 rfl) ?_
        refine gf_X5_33 hC hK hP 0 rfl rfl dX5_takenIn_21 ?_
        refine g_icmp_eq (a := b) (x := srm) (tgt := 48) hx hb dX5_takenIn_24 (by decide) (by omega) (fun d h => by have := hrm d h; omega) (fun c24 => ?_) (fun c24 => ?_)
        · have _ : True := trivial
          have he : exb srm none b = true := by simp [exb, c24]
          rw [tk_sk he] at hl
          refine lv_iinc (v := nI (b + 1)) (lv' := [(5, .int (nI (b + 1))), (4, .int (nI (tk wl sh k (exb srm none) (b + 1)))), (0, .ref ys), (1, .ref h), (2, .long (lN k))]) hx hb dX5_takenIn_48 hl (k := 1) rfl (nI_1 _) (by decide) rfl (fun ls hl => ?_)
          refine lv_goto (tgt := 9) hx hb dX5_takenIn_51 (by decide) ?_
          exact ih9 (b + 1) (by omega) (by omega) _ _ hP hD hS _ (lv_sub hl [1, 0, 2, 3, 4] rfl)
        · have _ : True := trivial
          have he : exb srm none b = false := by simp [exb, c24]
          refine lv_iload hx hb dX5_takenIn_27 (lv_at hl 0 rfl) ?_
          refine lv_aload_n hx hb dX5_takenIn_29 rfl (lv_at hl 3 rfl) ?_
          refine gf_X5_83 hC hK hP 4 rfl rfl dX5_takenIn_30 ?_
          refine lv_iload hx hb dX5_takenIn_33 (lv_at hl 1 rfl) ?_
          refine callN_i (As := [.ref hs, .int (nI b)]) (rest := [.int (nI (tk wl sh k (exb srm none) b))]) [5] hC hK hN hP hD rfl (by decide) hS (c_X7_at_N l D cI cJ cB hs 7 b sh (by omega) (by omega)) q506 md_X7_at rfl hl.1 rfl (Nat.le_of_ble_eq_true rfl) dX5_takenIn_35 ⟨Nat.le_of_ble_eq_true rfl, Nat.le_of_ble_eq_true rfl⟩ ⟨Nat.le_of_ble_eq_true rfl, Nat.le_of_ble_eq_true rfl⟩ (fun r_35 w H locs hpost hP hD hS => ?_)
          obtain ⟨rfl, rfl⟩ := hpost
          have hP : va_P D vwCl (kbW cI cJ cB ys yk yp yt y1 y2 (nI sz) (bI tm) (gI sse) (gI srm) (fun zz => lN (K zz)) (fun zz => nI (P zz)) (fun zz => nI (T zz)) h hs hw hh hp (nI se) (nI wd) (nI hd) (nI wl) (nI nb) (nI (topv wd)) (nI (rcv wd hd)) (nI (btv wd hd)) (nI (lcv wd hd)) (gI gl) (gI aq) st sl (gI lb) (fun zz => nI (sh zz)) (fun zz => nI (bw zz)) (fun zz => nI (bh zz)) (fun zz => nI (ps zz))) H := hP
          have hD : va_D A (kbW cI cJ cB ys yk yp yt y1 y2 (nI sz) (bI tm) (gI sse) (gI srm) (fun zz => lN (K zz)) (fun zz => nI (P zz)) (fun zz => nI (T zz)) h hs hw hh hp (nI se) (nI wd) (nI hd) (nI wl) (nI nb) (nI (topv wd)) (nI (rcv wd hd)) (nI (btv wd hd)) (nI (lcv wd hd)) (gI gl) (gI aq) st sl (gI lb) (fun zz => nI (sh zz)) (fun zz => nI (bw zz)) (fun zz => nI (bh zz)) (fun zz => nI (ps zz))) := hD
          refine lv_lload_n hx hb dX5_takenIn_38 rfl (lv_at hl 4 rfl) ?_
          refine lv_iload hx hb dX5_takenIn_39 (lv_at hl 1 rfl) ?_
          refine callN_i (As := [.long (lN k), .int (nI b)]) (rest := [.int (nI (sh b)), .int (nI (tk wl sh k (exb srm none) b))]) [] hC hK hN hP hD rfl (by decide) hS (c_X7_placeIn l D cI cJ cB k b (by omega) (by omega)) q522 md_X7_placeIn rfl hl.1 rfl (Nat.le_of_ble_eq_true rfl) dX5_takenIn_41 ⟨Nat.le_of_ble_eq_true rfl, Nat.le_of_ble_eq_true rfl⟩ ⟨Nat.le_of_ble_eq_true rfl, Nat.le_of_ble_eq_true rfl⟩ (fun r_41 w H locs hpost hP hD hS => ?_)
          obtain ⟨rfl, rfl⟩ := hpost
          have hP : va_P D vwCl (kbW cI cJ cB ys yk yp yt y1 y2 (nI sz) (bI tm) (gI sse) (gI srm) (fun zz => lN (K zz)) (fun zz => nI (P zz)) (fun zz => nI (T zz)) h hs hw hh hp (nI se) (nI wd) (nI hd) (nI wl) (nI nb) (nI (topv wd)) (nI (rcv wd hd)) (nI (btv wd hd)) (nI (lcv wd hd)) (gI gl) (gI aq) st sl (gI lb) (fun zz => nI (sh zz)) (fun zz => nI (bw zz)) (fun zz => nI (bh zz)) (fun zz => nI (ps zz))) H := hP
          have hD : va_D A (kbW cI cJ cB ys yk yp yt y1 y2 (nI sz) (bI tm) (gI sse) (gI srm) (fun zz => lN (K zz)) (fun zz => nI (P zz)) (fun zz => nI (T zz)) h hs hw hh hp (nI se) (nI wd) (nI hd) (nI wl) (nI nb) (nI (topv wd)) (nI (rcv wd hd)) (nI (btv wd hd)) (nI (lcv wd hd)) (gI gl) (gI aq) st sl (gI lb) (fun zz => nI (sh zz)) (fun zz => nI (bw zz)) (fun zz => nI (bh zz)) (fun zz => nI (ps zz))) := hD
          refine n_ishl hx hb dX5_takenIn_44 (by have := plc_lt k b; omega) ?_
          refine n_ior hx hb dX5_takenIn_45  ?_
          refine topi (y := nI (tk wl sh k (exb srm none) (b + 1))) (tk_in he) ?_
          refine lv_istore (lv' := [(4, .int (nI (tk wl sh k (exb srm none) (b + 1)))), (5, .int (nI b)), (0, .ref ys), (1, .ref h), (2, .long (lN k))]) hx hb dX5_takenIn_46 hl (by decide) rfl (fun ls hl => ?_)
          refine lv_iinc (v := nI (b + 1)) (lv' := [(5, .int (nI (b + 1))), (4, .int (nI (tk wl sh k (exb srm none) (b + 1)))), (0, .ref ys), (1, .ref h), (2, .long (lN k))]) hx hb dX5_takenIn_48 hl (k := 1) rfl (nI_1 _) (by decide) rfl (fun ls hl => ?_)
          refine lv_goto (tgt := 9) hx hb dX5_takenIn_51 (by decide) ?_
          exact ih9 (b + 1) (by omega) (by omega) _ _ hP hD hS _ (lv_sub hl [1, 0, 2, 3, 4] rfl)
  exact L9 _ 0 (by omega) (Nat.lt_succ_self _) _ _ hP hD hS _ (lv_sub hl [1, 0, 2, 3, 4] rfl)

set_option maxHeartbeats 400000 in
set_option maxRecDepth 100000 in
theorem c_X5_expand (l : Launch) (D : va_G) (cI cJ cB : ClassId) (ys yk yp yt y1 y2 sz : Nat) (tm : Bool) (sse srm : Option Nat) (K P T : Nat → Nat) (h hs hw hh hp se wd hd nb wl : Nat) (st sl : Int32) (gl aq lb : Option Nat) (sh bw bh ps : Nat → Nat) (u k0 : Nat) (hf : FrV wd hd nb wl sh bw bh) (hrm : ∀ d, srm = some d → d < nb) (hE : EC (kst wd hd nb wl sh bw bh srm) (KV wd hd nb wl sh bw bh srm) k0 K sz T tm) (hu : u < sz) : Met l yX5_expand (Cond.code yX5_expand cX5_expand 11 none :: lw_all) (rmN 3) (va_Pc [.ref ys, .ref h, .int (nI u)] (pB D (tyz cI cJ cB) (kbW cI cJ cB ys yk yp yt y1 y2 (nI sz) (bI tm) (gI sse) (gI srm) (fun zz => lN (K zz)) (fun zz => nI (P zz)) (fun zz => nI (T zz)) h hs hw hh hp (nI se) (nI wd) (nI hd) (nI wl) (nI nb) (nI (topv wd)) (nI (rcv wd hd)) (nI (btv wd hd)) (nI (lcv wd hd)) (gI gl) (gI aq) st sl (gI lb) (fun zz => nI (sh zz)) (fun zz => nI (bw zz)) (fun zz => nI (bh zz)) (fun zz => nI (ps zz))))) (va_Qv (fun (w : va_W) => ∃ K2 : Nat → Nat, ∃ n2 : Nat, ∃ T2 : Nat → Nat, ∃ tm2 : Bool, ∃ P2 : Nat → Nat, w = kbW cI cJ cB ys yk yp yt y1 y2 (nI n2) (bI tm2) (gI sse) (gI srm) (fun zz => lN (K2 zz)) (fun zz => nI (P2 zz)) (fun zz => nI (T2 zz)) h hs hw hh hp (nI se) (nI wd) (nI hd) (nI wl) (nI nb) (nI (topv wd)) (nI (rcv wd hd)) (nI (btv wd hd)) (nI (lcv wd hd)) (gI gl) (gI aq) st sl (gI lb) (fun zz => nI (sh zz)) (fun zz => nI (bw zz)) (fun zz => nI (bh zz)) (fun zz => nI (ps zz)) ∧ EC (kst wd hd nb wl sh bw bh srm) (KV wd hd nb wl sh bw bh srm) k0 K2 n2 T2 tm2 ∧ sz ≤ n2 ∧ (∀ i, i < sz → K2 i = K i) ∧ (tm2 = false → tm = false ∧ ∀ x, kst wd hd nb wl sh bw bh srm (K u) x → Has K2 n2 x) ∧ P2 = va_up P u (pos wd hd nb wl sh bw bh srm (K u) nb)) (gB D (kbW cI cJ cB ys yk yp yt y1 y2 (nI sz) (bI tm) (gI sse) (gI srm) (fun zz => lN (K zz)) (fun zz => nI (P zz)) (fun zz => nI (T zz)) h hs hw hh hp (nI se) (nI wd) (nI hd) (nI wl) (nI nb) (nI (topv wd)) (nI (rcv wd hd)) (nI (btv wd hd)) (nI (lcv wd hd)) (gI gl) (gI aq) st sl (gI lb) (fun zz => nI (sh zz)) (fun zz => nI (bw zz)) (fun zz => nI (bh zz)) (fun zz => nI (ps zz)))) (aW (kbW cI cJ cB ys yk yp yt y1 y2 (nI sz) (bI tm) (gI sse) (gI srm) (fun zz => lN (K zz)) (fun zz => nI (P zz)) (fun zz => nI (T zz)) h hs hw hh hp (nI se) (nI wd) (nI hd) (nI wl) (nI nb) (nI (topv wd)) (nI (rcv wd hd)) (nI (btv wd hd)) (nI (lcv wd hd)) (gI gl) (gI aq) st sl (gI lb) (fun zz => nI (sh zz)) (fun zz => nI (bw zz)) (fun zz => nI (bh zz)) (fun zz => nI (ps zz))))) 0 0 (aW (kbW cI cJ cB ys yk yp yt y1 y2 (nI sz) (bI tm) (gI sse) (gI srm) (fun zz => lN (K zz)) (fun zz => nI (P zz)) (fun zz => nI (T zz)) h hs hw hh hp (nI se) (nI wd) (nI hd) (nI wl) (nI nb) (nI (topv wd)) (nI (rcv wd hd)) (nI (btv wd hd)) (nI (lcv wd hd)) (gI gl) (gI aq) st sl (gI lb) (fun zz => nI (sh zz)) (fun zz => nI (bw zz)) (fun zz => nI (bh zz)) (fun zz => nI (ps zz)))) := by
  refine Met.ofW (cc := cX5_expand) (maxL := 11) (ret := none) (by decide) rfl ?_
  intro p e s m args below meth c s₁ B hml hv
  obtain ⟨rfl, hK, hN, hP, hD0⟩ := hv
  have hx := B.exec; have hb := B.bytes; have hr := B.returns; have hlocks := B.notSynchronized
  have hts0 := atoms_spec (ws := Cond.code yX5_expand cX5_expand 11 none :: lw_all) B.pre
  have hC : CallFix p m c cX5_expand 11 s _ lw_all RX5 := ⟨hx, hb, hml, findClass_of_methodNamed B.named, fun w h => hts0 w (List.mem_cons_of_mem _ h)⟩
  have hD : va_D (aW (kbW cI cJ cB ys yk yp yt y1 y2 (nI sz) (bI tm) (gI sse) (gI srm) (fun zz => lN (K zz)) (fun zz => nI (P zz)) (fun zz => nI (T zz)) h hs hw hh hp (nI se) (nI wd) (nI hd) (nI wl) (nI nb) (nI (topv wd)) (nI (rcv wd hd)) (nI (btv wd hd)) (nI (lcv wd hd)) (gI gl) (gI aq) st sl (gI lb) (fun zz => nI (sh zz)) (fun zz => nI (bw zz)) (fun zz => nI (bh zz)) (fun zz => nI (ps zz)))) (kbW cI cJ cB ys yk yp yt y1 y2 (nI sz) (bI tm) (gI sse) (gI srm) (fun zz => lN (K zz)) (fun zz => nI (P zz)) (fun zz => nI (T zz)) h hs hw hh hp (nI se) (nI wd) (nI hd) (nI wl) (nI nb) (nI (topv wd)) (nI (rcv wd hd)) (nI (btv wd hd)) (nI (lcv wd hd)) (gI gl) (gI aq) st sl (gI lb) (fun zz => nI (sh zz)) (fun zz => nI (bw zz)) (fun zz => nI (bh zz)) (fun zz => nI (ps zz))) := ⟨hD0.1, fun k q h => ⟨k, q.2, h⟩⟩
  generalize hAe : aW (kbW cI cJ cB ys yk yp yt y1 y2 (nI sz) (bI tm) (gI sse) (gI srm) (fun zz => lN (K zz)) (fun zz => nI (P zz)) (fun zz => nI (T zz)) h hs hw hh hp (nI se) (nI wd) (nI hd) (nI wl) (nI nb) (nI (topv wd)) (nI (rcv wd hd)) (nI (btv wd hd)) (nI (lcv wd hd)) (gI gl) (gI aq) st sl (gI lb) (fun zz => nI (sh zz)) (fun zz => nI (bw zz)) (fun zz => nI (bh zz)) (fun zz => nI (ps zz))) = A at hD ⊢
  have hS : va_S A s.heap s.heap [] := va_S.rf
  have hl := lv_entry ([.ref ys, .ref h, .int (nI u)]) (n := 11) (Nat.le_of_ble_eq_true rfl)
  rw [lg_entry_eq]
  generalize (lg_sl ([.ref ys, .ref h, .int (nI u)]) ++ List.replicate (11 - (lg_sl ([.ref ys, .ref h, .int (nI u)])).length) Slot.unset).toArray = ls at hl ⊢
  have hl : lv_has ls 11 [(0, .ref ys), (1, .ref h), (2, .int (nI u))] := hl
  generalize hav : ([.ref ys, .ref h, .int (nI u)] : List Value).toArray = args at hC ⊢
  refine W_gen (fun QQ hQ => ?_)
  show W p l e (rmN 3) s m args below meth c s.heap [] 0 0 QQ (F0 m 0 ls [])
  obtain ⟨hw1, hw6, hd1, hd6, h24, hn7, hwl, hsh⟩ := _root_.id hf
  obtain ⟨ku, hku⟩ : ∃ x, x = K u := ⟨_, rfl⟩
  have hvk := (hE.2.2.2.2.1 u hu).2
  have hrk := (hE.2.2.2.2.1 u hu).1
  rw [← hku] at hvk hrk
  have hs2 := (EC_lt hE).1
  refine lv_aload_n hx hb dX5_expand_0 rfl (lv_at hl 0 rfl) ?_
  refine gf_X5_9 hC hK hP 0 rfl rfl dX5_expand_1 ?_
  refine lv_iload_n hx hb dX5_expand_4 rfl (lv_at hl 2 rfl) ?_
  refine callN_l (As := [.ref yk, .int (nI u)]) (rest := []) [1] hC hK hN hP hD rfl (by decide) hS (c_X7_at_L l D cI cJ cB yk 2000 u K (by omega) (by omega)) q515 md_X7_at_ rfl hl.1 rfl (Nat.le_of_ble_eq_true rfl) dX5_expand_5 ⟨Nat.le_of_ble_eq_true rfl, Nat.le_of_ble_eq_true rfl⟩ ⟨Nat.le_of_ble_eq_true rfl, Nat.le_of_ble_eq_true rfl⟩ (fun r_5 w H locs hpost hP hD hS => ?_)
  obtain ⟨rfl, rfl⟩ := hpost
  have hP : va_P D vwCl (kbW cI cJ cB ys yk yp yt y1 y2 (nI sz) (bI tm) (gI sse) (gI srm) (fun zz => lN (K zz)) (fun zz => nI (P zz)) (fun zz => nI (T zz)) h hs hw hh hp (nI se) (nI wd) (nI hd) (nI wl) (nI nb) (nI (topv wd)) (nI (rcv wd hd)) (nI (btv wd hd)) (nI (lcv wd hd)) (gI gl) (gI aq) st sl (gI lb) (fun zz => nI (sh zz)) (fun zz => nI (bw zz)) (fun zz => nI (bh zz)) (fun zz => nI (ps zz))) H := hP
  have hD : va_D A (kbW cI cJ cB ys yk yp yt y1 y2 (nI sz) (bI tm) (gI sse) (gI srm) (fun zz => lN (K zz)) (fun zz => nI (P zz)) (fun zz => nI (T zz)) h hs hw hh hp (nI se) (nI wd) (nI hd) (nI wl) (nI nb) (nI (topv wd)) (nI (rcv wd hd)) (nI (btv wd hd)) (nI (lcv wd hd)) (gI gl) (gI aq) st sl (gI lb) (fun zz => nI (sh zz)) (fun zz => nI (bw zz)) (fun zz => nI (bh zz)) (fun zz => nI (ps zz))) := hD
  refine topl (y := lN ku) (by rw [hku]) ?_
  refine lv_lstore_n (lv' := [(3, .long (lN ku)), (0, .ref ys), (1, .ref h), (2, .int (nI u))]) hx hb dX5_expand_8 rfl hl (by decide) rfl (fun ls hl => ?_)
  refine lv_aload_n hx hb dX5_expand_9 rfl (lv_at hl 1 rfl) ?_
  refine lv_aload_n hx hb dX5_expand_10 rfl (lv_at hl 2 rfl) ?_
  refine lv_lload_n hx hb dX5_expand_11 rfl (lv_at hl 0 rfl) ?_
  refine callV_i (As := [.ref h, .long (lN ku)]) (rest := []) [0, 1, 2, 3, 4, 5, 6, 7, 8] hC hK hN hP hD rfl (by decide) hS 0 (ci := 5) rfl rfl rfl (c_X5_takenIn l D cI cJ cB ys yk yp yt y1 y2 sz tm sse srm K P T h hs hw hh hp se wd hd nb wl st sl gl aq lb sh bw bh ps ku (by omega) hvk.1 (by omega)) q518 md_X5_takenIn rfl hl.1 rfl (Nat.le_of_ble_eq_true rfl) dX5_expand_12 ⟨Nat.le_of_ble_eq_true rfl, Nat.le_of_ble_eq_true rfl⟩ ⟨Nat.le_of_ble_eq_true rfl, Nat.le_of_ble_eq_true rfl⟩ (fun r_12 w H locs hpost hP hD hS => ?_)
  obtain ⟨rfl, rfl⟩ := hpost
  have hP : va_P D vwCl (kbW cI cJ cB ys yk yp yt y1 y2 (nI sz) (bI tm) (gI sse) (gI srm) (fun zz => lN (K zz)) (fun zz => nI (P zz)) (fun zz => nI (T zz)) h hs hw hh hp (nI se) (nI wd) (nI hd) (nI wl) (nI nb) (nI (topv wd)) (nI (rcv wd hd)) (nI (btv wd hd)) (nI (lcv wd hd)) (gI gl) (gI aq) st sl (gI lb) (fun zz => nI (sh zz)) (fun zz => nI (bw zz)) (fun zz => nI (bh zz)) (fun zz => nI (ps zz))) H := hP
  have hD : va_D A (kbW cI cJ cB ys yk yp yt y1 y2 (nI sz) (bI tm) (gI sse) (gI srm) (fun zz => lN (K zz)) (fun zz => nI (P zz)) (fun zz => nI (T zz)) h hs hw hh hp (nI se) (nI wd) (nI hd) (nI wl) (nI nb) (nI (topv wd)) (nI (rcv wd hd)) (nI (btv wd hd)) (nI (lcv wd hd)) (gI gl) (gI aq) st sl (gI lb) (fun zz => nI (sh zz)) (fun zz => nI (bw zz)) (fun zz => nI (bh zz)) (fun zz => nI (ps zz))) := hD
  refine lv_istore (lv' := [(5, .int (nI (tk wl sh ku (exb srm none) nb))), (3, .long (lN ku)), (0, .ref ys), (1, .ref h), (2, .int (nI u))]) hx hb dX5_expand_15 hl (by decide) rfl (fun ls hl => ?_)
  refine lv_iconst (v := nI 0) hx hb dX5_expand_17 (by decide) ?_
  refine topi (y := nI (pos wd hd nb wl sh bw bh srm ku 0)) rfl ?_
  refine lv_istore (lv' := [(6, .int (nI (pos wd hd nb wl sh bw bh srm ku 0))), (5, .int (nI (tk wl sh ku (exb srm none) nb))), (3, .long (lN ku)), (0, .ref ys), (1, .ref h), (2, .int (nI u))]) hx hb dX5_expand_18 hl (by decide) rfl (fun ls hl => ?_)
  refine lv_iconst (v := nI 0) hx hb dX5_expand_20 (by decide) ?_
  refine lv_istore (lv' := [(7, .int (nI 0)), (6, .int (nI (pos wd hd nb wl sh bw bh srm ku 0))), (5, .int (nI (tk wl sh ku (exb srm none) nb))), (3, .long (lN ku)), (0, .ref ys), (1, .ref h), (2, .int (nI u))]) hx hb dX5_expand_21 hl (by decide) rfl (fun ls hl => ?_)
  have L23 : ∀ (n : Nat) (b : Nat) (Ka : Nat → Nat) (na : Nat) (Ta : Nat → Nat) (ta : Bool), (b ≤ nb) → (EC (kst wd hd nb wl sh bw bh srm) (KV wd hd nb wl sh bw bh srm) k0 Ka na Ta ta) → (sz ≤ na) → (∀ i, i < sz → Ka i = K i) → (ta = false → tm = false ∧ ∀ i, i < b → ∀ x, bst wd hd nb wl sh bw bh srm i ku x → Has Ka na x) → (nb - b) < n → ∀ (H : Heap) (locs : List Loc), va_P D vwCl (kbW cI cJ cB ys yk yp yt y1 y2 (nI na) (bI ta) (gI sse) (gI srm) (fun zz => lN (Ka zz)) (fun zz => nI (P zz)) (fun zz => nI (Ta zz)) h hs hw hh hp (nI se) (nI wd) (nI hd) (nI wl) (nI nb) (nI (topv wd)) (nI (rcv wd hd)) (nI (btv wd hd)) (nI (lcv wd hd)) (gI gl) (gI aq) st sl (gI lb) (fun zz => nI (sh zz)) (fun zz => nI (bw zz)) (fun zz => nI (bh zz)) (fun zz => nI (ps zz))) H → va_D A (kbW cI cJ cB ys yk yp yt y1 y2 (nI na) (bI ta) (gI sse) (gI srm) (fun zz => lN (Ka zz)) (fun zz => nI (P zz)) (fun zz => nI (Ta zz)) h hs hw hh hp (nI se) (nI wd) (nI hd) (nI wl) (nI nb) (nI (topv wd)) (nI (rcv wd hd)) (nI (btv wd hd)) (nI (lcv wd hd)) (gI gl) (gI aq) st sl (gI lb) (fun zz => nI (sh zz)) (fun zz => nI (bw zz)) (fun zz => nI (bh zz)) (fun zz => nI (ps zz))) → va_S A s.heap H locs → ∀ ls : Array Slot, lv_has ls 11 [(6, .int (nI (pos wd hd nb wl sh bw bh srm ku b))), (7, .int (nI b)), (5, .int (nI (tk wl sh ku (exb srm none) nb))), (3, .long (lN ku)), (0, .ref ys), (1, .ref h), (2, .int (nI u))] → W p l e (rmN 3) s m args below meth c H locs 0 0 QQ (F0 m 23 ls []) := by
    intro n; induction n with
    | zero => intro b Ka na Ta ta ib iE in9 ik id hm; exact absurd hm (Nat.not_lt_zero _)
    | succ n ih23 =>
      intro b Ka na Ta ta ib iE in9 ik id hm23 H locs hP hD hS ls hl
      refine lv_iload hx hb dX5_expand_23 (lv_at hl 1 rfl) ?_
      refine lv_aload_n hx hb dX5_expand_25 rfl (lv_at hl 5 rfl) ?_
      refine gf_X5_80 hC hK hP 4 rfl rfl dX5_expand_26 ?_
      refine n_icmp_ge (a := b) (b := nb) (tgt := 139) hx hb dX5_expand_29 (by decide) (by omega) (by omega) (fun c29 => ?_) (fun c29 => ?_)
      · have _ : True := trivial
        have e29 : b = nb := by omega
        refine lv_aload_n hx hb dX5_expand_139 rfl (lv_at hl 4 rfl) ?_
        refine gf_X5_15 hC hK hP 0 rfl rfl dX5_expand_140 ?_
        refine lv_iload_n hx hb dX5_expand_143 rfl (lv_at hl 6 rfl) ?_
        refine lv_iload hx hb dX5_expand_144 (lv_at hl 0 rfl) ?_
        refine callN_v (As := [.ref yp, .int (nI u), .int (nI (pos wd hd nb wl sh bw bh srm ku b))]) (rest := []) [2] hC hK hN hP hD rfl (by decide) hS (c_X7_put_N l D cI cJ cB yp 2000 u P (pos wd hd nb wl sh bw bh srm ku b) (by omega) (by omega)) q510 md_X7_put rfl hl.1 rfl (Nat.le_of_ble_eq_true rfl) dX5_expand_146 ⟨Nat.le_of_ble_eq_true rfl, Nat.le_of_ble_eq_true rfl⟩ ⟨Nat.le_of_ble_eq_true rfl, Nat.le_of_ble_eq_true rfl⟩ (fun w H locs hpost hP hD hS => ?_)
        obtain rfl := hpost
        have hP : va_P D vwCl (kbW cI cJ cB ys yk yp yt y1 y2 (nI na) (bI ta) (gI sse) (gI srm) (fun zz => lN (Ka zz)) (fun zz => nI ((va_up P u (pos wd hd nb wl sh bw bh srm ku b)) zz)) (fun zz => nI (Ta zz)) h hs hw hh hp (nI se) (nI wd) (nI hd) (nI wl) (nI nb) (nI (topv wd)) (nI (rcv wd hd)) (nI (btv wd hd)) (nI (lcv wd hd)) (gI gl) (gI aq) st sl (gI lb) (fun zz => nI (sh zz)) (fun zz => nI (bw zz)) (fun zz => nI (bh zz)) (fun zz => nI (ps zz))) H := hP
        have hD : va_D A (kbW cI cJ cB ys yk yp yt y1 y2 (nI na) (bI ta) (gI sse) (gI srm) (fun zz => lN (Ka zz)) (fun zz => nI ((va_up P u (pos wd hd nb wl sh bw bh srm ku b)) zz)) (fun zz => nI (Ta zz)) h hs hw hh hp (nI se) (nI wd) (nI hd) (nI wl) (nI nb) (nI (topv wd)) (nI (rcv wd hd)) (nI (btv wd hd)) (nI (lcv wd hd)) (gI gl) (gI aq) st sl (gI lb) (fun zz => nI (sh zz)) (fun zz => nI (bw zz)) (fun zz => nI (bh zz)) (fun zz => nI (ps zz))) := hD
        rw [hQ]
        exact W.vret hx hb hr (fun t9 ht hW => ⟨⟨_, rfl, ⟨Ka, na, Ta, ta, va_up P u (pos wd hd nb wl sh bw bh srm ku b), rfl, iE, in9, ik, (fun h => ⟨(id h).1, fun x hx => by rw [← hku] at hx; obtain ⟨c, hc, h2⟩ := hx; exact (id h).2 c (by omega) x h2⟩), (by rw [← hku, e29])⟩, by rw [ht]; exact hP, rfl⟩, hS.F ht⟩) hS.2.2 dX5_expand_149
      · have _ : True := trivial
        refine lv_iload hx hb dX5_expand_32 (lv_at hl 1 rfl) ?_
        refine lv_aload_n hx hb dX5_expand_34 rfl (lv_at hl 4 rfl) ?_
        refine gf_X5_33 hC hK hP 0 rfl rfl dX5_expand_35 ?_
        refine g_icmp_ne (a := b) (x := srm) (tgt := 44) hx hb dX5_expand_38 (by decide) (by omega) (fun d h => by have := hrm d h; omega) (fun c38 => ?_) (fun c38 => ?_)
        · have _ : True := trivial
          have hsb := hsh b c29
          have hpl := (hvk.2.2 b c29 c38).1
          have hcl24 : sh b <<< plc ku b < 2 ^ 24 := Nat.lt_of_lt_of_le (cell_lt hw1 hsb hpl) (Nat.pow_le_pow_right (by decide) h24)
          have hot24 : (tk wl sh ku (exb srm (some b)) nb) < 2 ^ 24 := tk_lt hf hvk (fun _ h => exb_no h)
          refine lv_aload_n hx hb dX5_expand_44 rfl (lv_at hl 5 rfl) ?_
          refine gf_X5_83 hC hK hP 4 rfl rfl dX5_expand_45 ?_
          refine lv_iload hx hb dX5_expand_48 (lv_at hl 1 rfl) ?_
          refine callN_i (As := [.ref hs, .int (nI b)]) (rest := []) [5] hC hK hN hP hD rfl (by decide) hS (c_X7_at_N l D cI cJ cB hs 7 b sh (by omega) (by omega)) q506 md_X7_at rfl hl.1 rfl (Nat.le_of_ble_eq_true rfl) dX5_expand_50 ⟨Nat.le_of_ble_eq_true rfl, Nat.le_of_ble_eq_true rfl⟩ ⟨Nat.le_of_ble_eq_true rfl, Nat.le_of_ble_eq_true rfl⟩ (fun r_50 w H locs hpost hP hD hS => ?_)
          obtain ⟨rfl, rfl⟩ := hpost
          have hP : va_P D vwCl (kbW cI cJ cB ys yk yp yt y1 y2 (nI na) (bI ta) (gI sse) (gI srm) (fun zz => lN (Ka zz)) (fun zz => nI (P zz)) (fun zz => nI (Ta zz)) h hs hw hh hp (nI se) (nI wd) (nI hd) (nI wl) (nI nb) (nI (topv wd)) (nI (rcv wd hd)) (nI (btv wd hd)) (nI (lcv wd hd)) (gI gl) (gI aq) st sl (gI lb) (fun zz => nI (sh zz)) (fun zz => nI (bw zz)) (fun zz => nI (bh zz)) (fun zz => nI (ps zz))) H := hP
          have hD : va_D A (kbW cI cJ cB ys yk yp yt y1 y2 (nI na) (bI ta) (gI sse) (gI srm) (fun zz => lN (Ka zz)) (fun zz => nI (P zz)) (fun zz => nI (Ta zz)) h hs hw hh hp (nI se) (nI wd) (nI hd) (nI wl) (nI nb) (nI (topv wd)) (nI (rcv wd hd)) (nI (btv wd hd)) (nI (lcv wd hd)) (gI gl) (gI aq) st sl (gI lb) (fun zz => nI (sh zz)) (fun zz => nI (bw zz)) (fun zz => nI (bh zz)) (fun zz => nI (ps zz))) := hD
          refine lv_lload_n hx hb dX5_expand_53 rfl (lv_at hl 3 rfl) ?_
          refine lv_iload hx hb dX5_expand_54 (lv_at hl 1 rfl) ?_
          refine callN_i (As := [.long (lN ku), .int (nI b)]) (rest := [.int (nI (sh b))]) [] hC hK hN hP hD rfl (by decide) hS (c_X7_placeIn l D cI cJ cB ku b hvk.1 (by omega)) q522 md_X7_placeIn rfl hl.1 rfl (Nat.le_of_ble_eq_true rfl) dX5_expand_56 ⟨Nat.le_of_ble_eq_true rfl, Nat.le_of_ble_eq_true rfl⟩ ⟨Nat.le_of_ble_eq_true rfl, Nat.le_of_ble_eq_true rfl⟩ (fun r_56 w H locs hpost hP hD hS => ?_)
          obtain ⟨rfl, rfl⟩ := hpost
          have hP : va_P D vwCl (kbW cI cJ cB ys yk yp yt y1 y2 (nI na) (bI ta) (gI sse) (gI srm) (fun zz => lN (Ka zz)) (fun zz => nI (P zz)) (fun zz => nI (Ta zz)) h hs hw hh hp (nI se) (nI wd) (nI hd) (nI wl) (nI nb) (nI (topv wd)) (nI (rcv wd hd)) (nI (btv wd hd)) (nI (lcv wd hd)) (gI gl) (gI aq) st sl (gI lb) (fun zz => nI (sh zz)) (fun zz => nI (bw zz)) (fun zz => nI (bh zz)) (fun zz => nI (ps zz))) H := hP
          have hD : va_D A (kbW cI cJ cB ys yk yp yt y1 y2 (nI na) (bI ta) (gI sse) (gI srm) (fun zz => lN (Ka zz)) (fun zz => nI (P zz)) (fun zz => nI (Ta zz)) h hs hw hh hp (nI se) (nI wd) (nI hd) (nI wl) (nI nb) (nI (topv wd)) (nI (rcv wd hd)) (nI (btv wd hd)) (nI (lcv wd hd)) (gI gl) (gI aq) st sl (gI lb) (fun zz => nI (sh zz)) (fun zz => nI (bw zz)) (fun zz => nI (bh zz)) (fun zz => nI (ps zz))) := hD
          refine n_ishl hx hb dX5_expand_59 (by have := plc_lt ku b; omega) ?_
          refine lv_istore (lv' := [(8, .int (nI ((sh b) <<< (plc ku b)))), (6, .int (nI (pos wd hd nb wl sh bw bh srm ku b))), (7, .int (nI b)), (5, .int (nI (tk wl sh ku (exb srm none) nb))), (3, .long (lN ku)), (0, .ref ys), (1, .ref h), (2, .int (nI u))]) hx hb dX5_expand_60 hl (by decide) rfl (fun ls hl => ?_)
          refine lv_aload_n hx hb dX5_expand_62 rfl (lv_at hl 6 rfl) ?_
          refine lv_iload hx hb dX5_expand_63 (lv_at hl 0 rfl) ?_
          refine lv_iload hx hb dX5_expand_65 (lv_at hl 3 rfl) ?_
          refine lv_iload hx hb dX5_expand_67 (lv_at hl 0 rfl) ?_
          refine lv_iconst (v := (-1)) hx hb dX5_expand_69 (by decide) ?_
          refine lv_ixor hx hb dX5_expand_70 ?_
          refine n_iandn hx hb dX5_expand_71 ?_
          refine topi (y := nI (tk wl sh ku (exb srm (some b)) nb)) (by rw [tk_others hvk c29 c38]) ?_
          refine callV_i (As := [.int (nI ((sh b) <<< (plc ku b))), .int (nI (tk wl sh ku (exb srm (some b)) nb))]) (rest := []) [4, 5, 6, 7, 8] hC hK hN hP hD rfl (by decide) hS 4 (ci := 0) rfl rfl rfl (c_X0_directions l D cI cJ cB h hs hw hh hp se wd hd nb wl st sl gl aq lb sh bw bh ps ((sh b) <<< (plc ku b)) (tk wl sh ku (exb srm (some b)) nb) (sh b) (bw b) (bh b) (plc ku b) rfl (by omega) (by omega) (by omega) hsb hpl (by omega) (by omega)) q525 md_X0_directions rfl hl.1 rfl (Nat.le_of_ble_eq_true rfl) dX5_expand_72 ⟨Nat.le_of_ble_eq_true rfl, Nat.le_of_ble_eq_true rfl⟩ ⟨Nat.le_of_ble_eq_true rfl, Nat.le_of_ble_eq_true rfl⟩ (fun r_72 w H locs hpost hP hD hS => ?_)
          obtain ⟨rfl, rfl⟩ := hpost
          have hP : va_P D vwCl (kbW cI cJ cB ys yk yp yt y1 y2 (nI na) (bI ta) (gI sse) (gI srm) (fun zz => lN (Ka zz)) (fun zz => nI (P zz)) (fun zz => nI (Ta zz)) h hs hw hh hp (nI se) (nI wd) (nI hd) (nI wl) (nI nb) (nI (topv wd)) (nI (rcv wd hd)) (nI (btv wd hd)) (nI (lcv wd hd)) (gI gl) (gI aq) st sl (gI lb) (fun zz => nI (sh zz)) (fun zz => nI (bw zz)) (fun zz => nI (bh zz)) (fun zz => nI (ps zz))) H := hP
          have hD : va_D A (kbW cI cJ cB ys yk yp yt y1 y2 (nI na) (bI ta) (gI sse) (gI srm) (fun zz => lN (Ka zz)) (fun zz => nI (P zz)) (fun zz => nI (Ta zz)) h hs hw hh hp (nI se) (nI wd) (nI hd) (nI wl) (nI nb) (nI (topv wd)) (nI (rcv wd hd)) (nI (btv wd hd)) (nI (lcv wd hd)) (gI gl) (gI aq) st sl (gI lb) (fun zz => nI (sh zz)) (fun zz => nI (bw zz)) (fun zz => nI (bh zz)) (fun zz => nI (ps zz))) := hD
          refine topi (y := nI (dset (mvb wd hd nb wl sh bw bh srm ku b) 4)) rfl ?_
          refine lv_istore (lv' := [(9, .int (nI (dset (mvb wd hd nb wl sh bw bh srm ku b) 4))), (8, .int (nI ((sh b) <<< (plc ku b)))), (6, .int (nI (pos wd hd nb wl sh bw bh srm ku b))), (7, .int (nI b)), (5, .int (nI (tk wl sh ku (exb srm none) nb))), (3, .long (lN ku)), (0, .ref ys), (1, .ref h), (2, .int (nI u))]) hx hb dX5_expand_75 hl (by decide) rfl (fun ls hl => ?_)
          refine lv_iload hx hb dX5_expand_77 (lv_at hl 2 rfl) ?_
          refine lv_iload hx hb dX5_expand_79 (lv_at hl 0 rfl) ?_
          refine lv_iconst (v := nI 4) hx hb dX5_expand_81 (by decide) ?_
          refine lv_iload hx hb dX5_expand_82 (lv_at hl 3 rfl) ?_
          refine n_imul hx hb dX5_expand_84  ?_
          refine n_ishl hx hb dX5_expand_85 (by omega) ?_
          refine n_ior hx hb dX5_expand_86  ?_
          refine topi (y := nI (pos wd hd nb wl sh bw bh srm ku (b + 1))) (by rw [pos_s c38]) ?_
          refine lv_istore (lv' := [(6, .int (nI (pos wd hd nb wl sh bw bh srm ku (b + 1)))), (9, .int (nI (dset (mvb wd hd nb wl sh bw bh srm ku b) 4))), (8, .int (nI ((sh b) <<< (plc ku b)))), (7, .int (nI b)), (5, .int (nI (tk wl sh ku (exb srm none) nb))), (3, .long (lN ku)), (0, .ref ys), (1, .ref h), (2, .int (nI u))]) hx hb dX5_expand_87 hl (by decide) rfl (fun ls hl => ?_)
          refine lv_iconst (v := nI 0) hx hb dX5_expand_89 (by decide) ?_
          refine lv_istore (lv' := [(10, .int (nI 0)), (6, .int (nI (pos wd hd nb wl sh bw bh srm ku (b + 1)))), (9, .int (nI (dset (mvb wd hd nb wl sh bw bh srm ku b) 4))), (8, .int (nI ((sh b) <<< (plc ku b)))), (7, .int (nI b)), (5, .int (nI (tk wl sh ku (exb srm none) nb))), (3, .long (lN ku)), (0, .ref ys), (1, .ref h), (2, .int (nI u))]) hx hb dX5_expand_90 hl (by decide) rfl (fun ls hl => ?_)
          have L92 : ∀ (n : Nat) (dd : Nat) (Ka : Nat → Nat) (na : Nat) (Ta : Nat → Nat) (ta : Bool), (dd ≤ 4) → (EC (kst wd hd nb wl sh bw bh srm) (KV wd hd nb wl sh bw bh srm) k0 Ka na Ta ta) → (sz ≤ na) → (∀ i, i < sz → Ka i = K i) → (ta = false → tm = false ∧ ∀ i, i < b → ∀ x, bst wd hd nb wl sh bw bh srm i ku x → Has Ka na x) → (ta = false → ∀ i, i < dd → ∀ x, (mvb wd hd nb wl sh bw bh srm ku b) i = some x → Has Ka na (wth ku b x)) → (4 - dd) < n → ∀ (H : Heap) (locs : List Loc), va_P D vwCl (kbW cI cJ cB ys yk yp yt y1 y2 (nI na) (bI ta) (gI sse) (gI srm) (fun zz => lN (Ka zz)) (fun zz => nI (P zz)) (fun zz => nI (Ta zz)) h hs hw hh hp (nI se) (nI wd) (nI hd) (nI wl) (nI nb) (nI (topv wd)) (nI (rcv wd hd)) (nI (btv wd hd)) (nI (lcv wd hd)) (gI gl) (gI aq) st sl (gI lb) (fun zz => nI (sh zz)) (fun zz => nI (bw zz)) (fun zz => nI (bh zz)) (fun zz => nI (ps zz))) H → va_D A (kbW cI cJ cB ys yk yp yt y1 y2 (nI na) (bI ta) (gI sse) (gI srm) (fun zz => lN (Ka zz)) (fun zz => nI (P zz)) (fun zz => nI (Ta zz)) h hs hw hh hp (nI se) (nI wd) (nI hd) (nI wl) (nI nb) (nI (topv wd)) (nI (rcv wd hd)) (nI (btv wd hd)) (nI (lcv wd hd)) (gI gl) (gI aq) st sl (gI lb) (fun zz => nI (sh zz)) (fun zz => nI (bw zz)) (fun zz => nI (bh zz)) (fun zz => nI (ps zz))) → va_S A s.heap H locs → ∀ ls : Array Slot, lv_has ls 11 [(10, .int (nI dd)), (6, .int (nI (pos wd hd nb wl sh bw bh srm ku (b + 1)))), (9, .int (nI (dset (mvb wd hd nb wl sh bw bh srm ku b) 4))), (8, .int (nI ((sh b) <<< (plc ku b)))), (7, .int (nI b)), (5, .int (nI (tk wl sh ku (exb srm none) nb))), (3, .long (lN ku)), (0, .ref ys), (1, .ref h), (2, .int (nI u))] → W p l e (rmN 3) s m args below meth c H locs 0 0 QQ (F0 m 92 ls []) := by
            intro n; induction n with
            | zero => intro dd Ka na Ta ta id4 iE in9 ik id ie hm; exact absurd hm (Nat.not_lt_zero _)
            | succ n ih92 =>
              intro dd Ka na Ta ta id4 iE in9 ik id ie hm92 H locs hP hD hS ls hl
              refine lv_iload hx hb dX5_expand_92 (lv_at hl 0 rfl) ?_
              refine lv_iconst (v := nI 4) hx hb dX5_expand_94 (by decide) ?_
              refine n_icmp_ge (a := dd) (b := 4) (tgt := 133) hx hb dX5_expand_95 (by decide) (by omega) (by omega) (fun c95 => ?_) (fun c95 => ?_)
              · have _ : True := trivial
                refine lv_iinc (v := nI (b + 1)) (lv' := [(7, .int (nI (b + 1))), (10, .int (nI dd)), (6, .int (nI (pos wd hd nb wl sh bw bh srm ku (b + 1)))), (9, .int (nI (dset (mvb wd hd nb wl sh bw bh srm ku b) 4))), (8, .int (nI ((sh b) <<< (plc ku b)))), (5, .int (nI (tk wl sh ku (exb srm none) nb))), (3, .long (lN ku)), (0, .ref ys), (1, .ref h), (2, .int (nI u))]) hx hb dX5_expand_133 hl (k := 4) rfl (nI_1 _) (by decide) rfl (fun ls hl => ?_)
                refine lv_goto (tgt := 23) hx hb dX5_expand_136 (by decide) ?_
                exact ih23 (b + 1) Ka na Ta ta (by omega) iE in9 ik (fun h => ⟨(id h).1, lt_s (id h).2 (fun x hx => by obtain ⟨h1, d, h2, y, h3, h4⟩ := hx; rw [h4]; exact ie h d (by omega) y h3)⟩) (by omega) _ _ hP hD hS _ (lv_sub hl [2, 0, 5, 6, 7, 8, 9] rfl)
              · have _ : True := trivial
                refine lv_iload hx hb dX5_expand_98 (lv_at hl 2 rfl) ?_
                refine lv_iload hx hb dX5_expand_100 (lv_at hl 0 rfl) ?_
                refine n_ishr hx hb dX5_expand_102 (by have := dset_lt4 (mvb wd hd nb wl sh bw bh srm ku b); omega) (by omega) ?_
                refine lv_iconst (v := nI 1) hx hb dX5_expand_103 (by decide) ?_
                refine n_iand hx hb dX5_expand_104  ?_
                refine n_if_eq (tgt := 127) hx hb dX5_expand_105 (by decide) (by have := bit_and1 (x := dset (mvb wd hd nb wl sh bw bh srm ku b) 4) (i := dd); omega) (fun c105 => ?_) (fun c105 => ?_)
                · have _ : True := trivial
                  have hm9 := dset_no (m := (mvb wd hd nb wl sh bw bh srm ku b)) (by omega) c105
                  refine lv_iinc (v := nI (dd + 1)) (lv' := [(10, .int (nI (dd + 1))), (6, .int (nI (pos wd hd nb wl sh bw bh srm ku (b + 1)))), (9, .int (nI (dset (mvb wd hd nb wl sh bw bh srm ku b) 4))), (8, .int (nI ((sh b) <<< (plc ku b)))), (7, .int (nI b)), (5, .int (nI (tk wl sh ku (exb srm none) nb))), (3, .long (lN ku)), (0, .ref ys), (1, .ref h), (2, .int (nI u))]) hx hb dX5_expand_127 hl (k := 0) rfl (nI_1 _) (by decide) rfl (fun ls hl => ?_)
                  refine lv_goto (tgt := 92) hx hb dX5_expand_130 (by decide) ?_
                  exact ih92 (dd + 1) Ka na Ta ta (by omega) iE in9 ik id (fun h => lt_s (ie h) (fun x hx => by rw [hm9] at hx; cases hx)) (by omega) _ _ hP hD hS _ (lv_sub hl [0, 1, 2, 3, 4, 5, 6, 7, 8, 9] rfl)
                · have _ : True := trivial
                  obtain ⟨q9, hq9⟩ := dset_yes (m := (mvb wd hd nb wl sh bw bh srm ku b)) c105
                  have hst9 := (mvt_inv hq9).1
                  have hst := KV_step hf hvk c29 c38 hq9
                  refine lv_aload_n hx hb dX5_expand_108 rfl (lv_at hl 7 rfl) ?_
                  refine lv_lload_n hx hb dX5_expand_109 rfl (lv_at hl 6 rfl) ?_
                  refine lv_aload_n hx hb dX5_expand_110 rfl (lv_at hl 8 rfl) ?_
                  refine lv_iload hx hb dX5_expand_111 (lv_at hl 0 rfl) ?_
                  refine callV_i (As := [.int (nI dd)]) (rest := [.long (lN ku), .ref ys]) [4, 5, 6, 7, 8] hC hK hN hP hD rfl (by decide) hS 4 (ci := 0) rfl rfl rfl (c_X0_offset l D cI cJ cB h hs hw hh hp se wd hd nb wl st sl gl aq lb sh bw bh ps dd (by omega)) q526 md_X0_offset rfl hl.1 rfl (Nat.le_of_ble_eq_true rfl) dX5_expand_113 ⟨Nat.le_of_ble_eq_true rfl, Nat.le_of_ble_eq_true rfl⟩ ⟨Nat.le_of_ble_eq_true rfl, Nat.le_of_ble_eq_true rfl⟩ (fun r_113 w H locs hpost hP hD hS => ?_)
                  obtain ⟨rfl, rfl⟩ := hpost
                  have hP : va_P D vwCl (kbW cI cJ cB ys yk yp yt y1 y2 (nI na) (bI ta) (gI sse) (gI srm) (fun zz => lN (Ka zz)) (fun zz => nI (P zz)) (fun zz => nI (Ta zz)) h hs hw hh hp (nI se) (nI wd) (nI hd) (nI wl) (nI nb) (nI (topv wd)) (nI (rcv wd hd)) (nI (btv wd hd)) (nI (lcv wd hd)) (gI gl) (gI aq) st sl (gI lb) (fun zz => nI (sh zz)) (fun zz => nI (bw zz)) (fun zz => nI (bh zz)) (fun zz => nI (ps zz))) H := hP
                  have hD : va_D A (kbW cI cJ cB ys yk yp yt y1 y2 (nI na) (bI ta) (gI sse) (gI srm) (fun zz => lN (Ka zz)) (fun zz => nI (P zz)) (fun zz => nI (Ta zz)) h hs hw hh hp (nI se) (nI wd) (nI hd) (nI wl) (nI nb) (nI (topv wd)) (nI (rcv wd hd)) (nI (btv wd hd)) (nI (lcv wd hd)) (gI gl) (gI aq) st sl (gI lb) (fun zz => nI (sh zz)) (fun zz => nI (bw zz)) (fun zz => nI (bh zz)) (fun zz => nI (ps zz))) := hD
                  refine lv_i2l hx hb dX5_expand_116 rfl ?_
                  refine lv_iload hx hb dX5_expand_117 (lv_at hl 4 rfl) ?_
                  refine callN_i (As := [.int (nI b)]) (rest := [.long ((offs wd dd).toInt64), .long (lN ku), .ref ys]) [] hC hK hN hP hD rfl (by decide) hS (c_X7_keyShift l D cI cJ cB b (by omega)) q527 md_X7_keyShift rfl hl.1 rfl (Nat.le_of_ble_eq_true rfl) dX5_expand_119 ⟨Nat.le_of_ble_eq_true rfl, Nat.le_of_ble_eq_true rfl⟩ ⟨Nat.le_of_ble_eq_true rfl, Nat.le_of_ble_eq_true rfl⟩ (fun r_119 w H locs hpost hP hD hS => ?_)
                  obtain ⟨rfl, rfl⟩ := hpost
                  have hP : va_P D vwCl (kbW cI cJ cB ys yk yp yt y1 y2 (nI na) (bI ta) (gI sse) (gI srm) (fun zz => lN (Ka zz)) (fun zz => nI (P zz)) (fun zz => nI (Ta zz)) h hs hw hh hp (nI se) (nI wd) (nI hd) (nI wl) (nI nb) (nI (topv wd)) (nI (rcv wd hd)) (nI (btv wd hd)) (nI (lcv wd hd)) (gI gl) (gI aq) st sl (gI lb) (fun zz => nI (sh zz)) (fun zz => nI (bw zz)) (fun zz => nI (bh zz)) (fun zz => nI (ps zz))) H := hP
                  have hD : va_D A (kbW cI cJ cB ys yk yp yt y1 y2 (nI na) (bI ta) (gI sse) (gI srm) (fun zz => lN (Ka zz)) (fun zz => nI (P zz)) (fun zz => nI (Ta zz)) h hs hw hh hp (nI se) (nI wd) (nI hd) (nI wl) (nI nb) (nI (topv wd)) (nI (rcv wd hd)) (nI (btv wd hd)) (nI (lcv wd hd)) (gI gl) (gI aq) st sl (gI lb) (fun zz => nI (sh zz)) (fun zz => nI (bw zz)) (fun zz => nI (bh zz)) (fun zz => nI (ps zz))) := hD
                  refine lv_lshl hx hb dX5_expand_122 rfl ?_
                  refine lv_ladd hx hb dX5_expand_123 ?_
                  refine topl (y := lN (wth ku b q9)) (offs_key hw1 hw6 (by omega) hst9) ?_
                  refine callV_v (As := [.long (lN (wth ku b q9))]) (rest := []) [0, 1, 2, 3] hC hK hN hP hD rfl (by decide) hS 0 (ci := 5) rfl rfl rfl (c_X5_add l D cI cJ cB ys yk yp yt y1 y2 na ta sse srm Ka P Ta (wth ku b q9) hst.2.2.1 iE.1 iE.2.1 (fun i hi => (iE.2.2.2.2.1 i hi).2.1)) q497 md_X5_add rfl hl.1 rfl (Nat.le_of_ble_eq_true rfl) dX5_expand_124 ⟨Nat.le_of_ble_eq_true rfl, Nat.le_of_ble_eq_true rfl⟩ ⟨Nat.le_of_ble_eq_true rfl, Nat.le_of_ble_eq_true rfl⟩ (fun w H locs hpost hP hD hS => ?_)
                  obtain ⟨K2_124, n2_124, T2_124, tm2_124, rfl, hfd⟩ := hpost
                  have hP : va_P D vwCl (kbW cI cJ cB ys yk yp yt y1 y2 (nI n2_124) (bI tm2_124) (gI sse) (gI srm) (fun zz => lN (K2_124 zz)) (fun zz => nI (P zz)) (fun zz => nI (T2_124 zz)) h hs hw hh hp (nI se) (nI wd) (nI hd) (nI wl) (nI nb) (nI (topv wd)) (nI (rcv wd hd)) (nI (btv wd hd)) (nI (lcv wd hd)) (gI gl) (gI aq) st sl (gI lb) (fun zz => nI (sh zz)) (fun zz => nI (bw zz)) (fun zz => nI (bh zz)) (fun zz => nI (ps zz))) H := hP
                  have hD : va_D A (kbW cI cJ cB ys yk yp yt y1 y2 (nI n2_124) (bI tm2_124) (gI sse) (gI srm) (fun zz => lN (K2_124 zz)) (fun zz => nI (P zz)) (fun zz => nI (T2_124 zz)) h hs hw hh hp (nI se) (nI wd) (nI hd) (nI wl) (nI nb) (nI (topv wd)) (nI (rcv wd hd)) (nI (btv wd hd)) (nI (lcv wd hd)) (gI gl) (gI aq) st sl (gI lb) (fun zz => nI (sh zz)) (fun zz => nI (bw zz)) (fun zz => nI (bh zz)) (fun zz => nI (ps zz))) := hD
                  obtain ⟨hE2, hn2, hK2, hh2⟩ := EC_s iE (Rch_s hrk ⟨b, c29, c38, dd, by omega, q9, hq9, rfl⟩) hst.2.2 hfd
                  refine lv_iinc (v := nI (dd + 1)) (lv' := [(10, .int (nI (dd + 1))), (6, .int (nI (pos wd hd nb wl sh bw bh srm ku (b + 1)))), (9, .int (nI (dset (mvb wd hd nb wl sh bw bh srm ku b) 4))), (8, .int (nI ((sh b) <<< (plc ku b)))), (7, .int (nI b)), (5, .int (nI (tk wl sh ku (exb srm none) nb))), (3, .long (lN ku)), (0, .ref ys), (1, .ref h), (2, .int (nI u))]) hx hb dX5_expand_127 hl (k := 0) rfl (nI_1 _) (by decide) rfl (fun ls hl => ?_)
                  refine lv_goto (tgt := 92) hx hb dX5_expand_130 (by decide) ?_
                  exact ih92 (dd + 1) K2_124 n2_124 T2_124 tm2_124 (by omega) hE2 (by omega) (fun i hi => by rw [hK2 i (by omega)]; exact ik i hi) (fun h => ⟨(id (hh2 h).1).1, fun i hi x hx => Has_up ((id (hh2 h).1).2 i hi x hx) hn2 hK2⟩) (fun h => lt_s (fun i hi x hx => Has_up (ie (hh2 h).1 i hi x hx) hn2 hK2) (fun x hx => by rw [hq9] at hx; cases hx; exact (hh2 h).2)) (by omega) _ _ hP hD hS _ (lv_sub hl [0, 1, 2, 3, 4, 5, 6, 7, 8, 9] rfl)
          exact L92 _ 0 Ka na Ta ta (by omega) iE in9 ik id (fun _ i h => absurd h (Nat.not_lt_zero i)) (Nat.lt_succ_self _) _ _ hP hD hS _ (lv_sub hl [0, 1, 2, 3, 4, 5, 6, 7, 8, 9] rfl)
        · have _ : True := trivial
          rw [pos_r c38] at hl
          refine lv_goto (tgt := 133) hx hb dX5_expand_41 (by decide) ?_
          refine lv_iinc (v := nI (b + 1)) (lv' := [(7, .int (nI (b + 1))), (6, .int (nI (pos wd hd nb wl sh bw bh srm ku (b + 1)))), (5, .int (nI (tk wl sh ku (exb srm none) nb))), (3, .long (lN ku)), (0, .ref ys), (1, .ref h), (2, .int (nI u))]) hx hb dX5_expand_133 hl (k := 1) rfl (nI_1 _) (by decide) rfl (fun ls hl => ?_)
          refine lv_goto (tgt := 23) hx hb dX5_expand_136 (by decide) ?_
          exact ih23 (b + 1) Ka na Ta ta (by omega) iE in9 ik (fun h => ⟨(id h).1, lt_s (id h).2 (fun x hx => absurd c38 hx.1)⟩) (by omega) _ _ hP hD hS _ (lv_sub hl [1, 0, 2, 3, 4, 5, 6] rfl)
  exact L23 _ 0 K sz T tm (by omega) hE (by omega) (fun _ _ => rfl) (fun h => ⟨h, fun i hi => absurd hi (Nat.not_lt_zero i)⟩) (Nat.lt_succ_self _) _ _ hP hD hS _ (lv_sub hl [1, 0, 2, 3, 4, 5, 6] rfl)

set_option maxHeartbeats 400000 in
set_option maxRecDepth 100000 in
theorem c_X1_forget (l : Launch) (D : va_G) (cI cJ cB : ClassId) (zo zs zf : Nat) (zsl zgb zgp zfo zsu zgr : Int32)  : Met l yX1_forget (Cond.code yX1_forget cX1_forget 1 none :: lw_all) (rmN 0) (va_Pc [.ref zo] (pB D (tyz cI cJ cB) (d1W cI cJ cB zo zs zsl zf zgb zgp zfo zsu zgr))) (va_Qv (fun (w : va_W) => w = d1W cI cJ cB zo zs zsl zf (gI none) zgp zfo zsu zgr) (gB D (d1W cI cJ cB zo zs zsl zf zgb zgp zfo zsu zgr)) (aW (d1W cI cJ cB zo zs zsl zf zgb zgp zfo zsu zgr))) 0 0 (aW (d1W cI cJ cB zo zs zsl zf zgb zgp zfo zsu zgr)) := by
  refine Met.ofW (cc := cX1_forget) (maxL := 1) (ret := none) (by decide) rfl ?_
  intro p e s m args below meth c s₁ B hml hv
  obtain ⟨rfl, hK, hN, hP, hD0⟩ := hv
  have hx := B.exec; have hb := B.bytes; have hr := B.returns; have hlocks := B.notSynchronized
  have hts0 := atoms_spec (ws := Cond.code yX1_forget cX1_forget 1 none :: lw_all) B.pre
  have hC : CallFix p m c cX1_forget 1 s _ lw_all RX1 := ⟨hx, hb, hml, findClass_of_methodNamed B.named, fun w h => hts0 w (List.mem_cons_of_mem _ h)⟩
  have hD : va_D (aW (d1W cI cJ cB zo zs zsl zf zgb zgp zfo zsu zgr)) (d1W cI cJ cB zo zs zsl zf zgb zgp zfo zsu zgr) := ⟨hD0.1, fun k q h => ⟨k, q.2, h⟩⟩
  generalize hAe : aW (d1W cI cJ cB zo zs zsl zf zgb zgp zfo zsu zgr) = A at hD ⊢
  have hS : va_S A s.heap s.heap [] := va_S.rf
  have hl := lv_entry ([.ref zo]) (n := 1) (Nat.le_of_ble_eq_true rfl)
  rw [lg_entry_eq]
  generalize (lg_sl ([.ref zo]) ++ List.replicate (1 - (lg_sl ([.ref zo])).length) Slot.unset).toArray = ls at hl ⊢
  have hl : lv_has ls 1 [(0, .ref zo)] := hl
  generalize hav : ([.ref zo] : List Value).toArray = args at hC ⊢
  refine W_gen (fun QQ hQ => ?_)
  show W p l e (rmN 0) s m args below meth c s.heap [] 0 0 QQ (F0 m 0 ls [])
  refine lv_aload_n hx hb dX1_forget_0 rfl (lv_at hl 0 rfl) ?_
  refine lv_bipush (v := (-9)) hx hb dX1_forget_1 (by decide) ?_
  refine pf_X1_15 hC hK hP hD hS 0 rfl (Nat.le_of_ble_eq_true rfl) (ws1 := d1W cI cJ cB zo zs zsl zf (-9) zgp zfo zsu zgr) rfl dX1_forget_3 (fun H locs hP hD hS => ?_)
  rw [hQ]
  exact W.vret hx hb hr (fun t9 ht hW => ⟨⟨_, rfl, rfl, by rw [ht]; exact hP, rfl⟩, hS.F ht⟩) hS.2.2 dX1_forget_6

set_option maxHeartbeats 400000 in
set_option maxRecDepth 100000 in
theorem c_X5_explore (l : Launch) (D : va_G) (cI cJ cB : ClassId) (ys yk yp yt y1 y2 sz : Nat) (tm : Bool) (sse srm : Option Nat) (K P T : Nat → Nat) (zs zf1 zf2 : Nat) (zsl1 zgp1 zfo1 zsu1 zgr1 zsl2 zgp2 zfo2 zsu2 zgr2 : Int32) (gb1 gb2 : Option Nat) (h hs hw hh hp se wd hd nb wl : Nat) (st sl : Int32) (gl aq lb : Option Nat) (sh bw bh ps : Nat → Nat) (wo : Option Nat) (hf : FrV wd hd nb wl sh bw bh) (hps : ∀ b, b < nb → ps b < 32) (hwo : ∀ d, wo = some d → d < nb) (hrm7 : ∀ d, srm = some d → d < 2 ^ 20) (hse : se < 2 ^ 20) (hss : ∀ d, sse = some d → d < 2 ^ 20) (hk0 : KV wd hd nb wl sh bw bh wo (keyx ps wo nb)) (hcv : sse = some se → srm = wo → SPC wd hd nb wl sh bw bh wo (keyx ps wo nb) K sz P T tm) : Met l yX5_explore (Cond.code yX5_explore cX5_explore 4 none :: lw_all) (rmN 4) (va_Pc [.ref ys, .ref h, .int (gI wo)] (pB D (tyz cI cJ cB) (eW cI cJ cB ys yk yp yt y1 y2 (nI sz) (bI tm) (gI sse) (gI srm) (fun zz => lN (K zz)) (fun zz => nI (P zz)) (fun zz => nI (T zz)) zs zsl1 zf1 (gI gb1) zgp1 zfo1 zsu1 zgr1 zsl2 zf2 (gI gb2) zgp2 zfo2 zsu2 zgr2 h hs hw hh hp (nI se) (nI wd) (nI hd) (nI wl) (nI nb) (nI (topv wd)) (nI (rcv wd hd)) (nI (btv wd hd)) (nI (lcv wd hd)) (gI gl) (gI aq) st sl (gI lb) (fun zz => nI (sh zz)) (fun zz => nI (bw zz)) (fun zz => nI (bh zz)) (fun zz => nI (ps zz))))) (va_Qv (fun (w : va_W) => ∃ K2 : Nat → Nat, ∃ n2 : Nat, ∃ T2 : Nat → Nat, ∃ tm2 : Bool, ∃ P2 : Nat → Nat, ∃ g1 : Option Nat, ∃ g2 : Option Nat, w = eW cI cJ cB ys yk yp yt y1 y2 (nI n2) (bI tm2) (gI (some se)) (gI wo) (fun zz => lN (K2 zz)) (fun zz => nI (P2 zz)) (fun zz => nI (T2 zz)) zs zsl1 zf1 (gI g1) zgp1 zfo1 zsu1 zgr1 zsl2 zf2 (gI g2) zgp2 zfo2 zsu2 zgr2 h hs hw hh hp (nI se) (nI wd) (nI hd) (nI wl) (nI nb) (nI (topv wd)) (nI (rcv wd hd)) (nI (btv wd hd)) (nI (lcv wd hd)) (gI gl) (gI aq) st sl (gI lb) (fun zz => nI (sh zz)) (fun zz => nI (bw zz)) (fun zz => nI (bh zz)) (fun zz => nI (ps zz)) ∧ SPC wd hd nb wl sh bw bh wo (keyx ps wo nb) K2 n2 P2 T2 tm2 ∧ ((sse = some se ∧ srm = wo ∧ K2 = K ∧ n2 = sz ∧ P2 = P ∧ T2 = T ∧ tm2 = tm ∧ g1 = gb1 ∧ g2 = gb2) ∨ (g1 = none ∧ g2 = none))) (gB D (eW cI cJ cB ys yk yp yt y1 y2 (nI sz) (bI tm) (gI sse) (gI srm) (fun zz => lN (K zz)) (fun zz => nI (P zz)) (fun zz => nI (T zz)) zs zsl1 zf1 (gI gb1) zgp1 zfo1 zsu1 zgr1 zsl2 zf2 (gI gb2) zgp2 zfo2 zsu2 zgr2 h hs hw hh hp (nI se) (nI wd) (nI hd) (nI wl) (nI nb) (nI (topv wd)) (nI (rcv wd hd)) (nI (btv wd hd)) (nI (lcv wd hd)) (gI gl) (gI aq) st sl (gI lb) (fun zz => nI (sh zz)) (fun zz => nI (bw zz)) (fun zz => nI (bh zz)) (fun zz => nI (ps zz)))) (aW (eW cI cJ cB ys yk yp yt y1 y2 (nI sz) (bI tm) (gI sse) (gI srm) (fun zz => lN (K zz)) (fun zz => nI (P zz)) (fun zz => nI (T zz)) zs zsl1 zf1 (gI gb1) zgp1 zfo1 zsu1 zgr1 zsl2 zf2 (gI gb2) zgp2 zfo2 zsu2 zgr2 h hs hw hh hp (nI se) (nI wd) (nI hd) (nI wl) (nI nb) (nI (topv wd)) (nI (rcv wd hd)) (nI (btv wd hd)) (nI (lcv wd hd)) (gI gl) (gI aq) st sl (gI lb) (fun zz => nI (sh zz)) (fun zz => nI (bw zz)) (fun zz => nI (bh zz)) (fun zz => nI (ps zz))))) 0 0 (aW (eW cI cJ cB ys yk yp yt y1 y2 (nI sz) (bI tm) (gI sse) (gI srm) (fun zz => lN (K zz)) (fun zz => nI (P zz)) (fun zz => nI (T zz)) zs zsl1 zf1 (gI gb1) zgp1 zfo1 zsu1 zgr1 zsl2 zf2 (gI gb2) zgp2 zfo2 zsu2 zgr2 h hs hw hh hp (nI se) (nI wd) (nI hd) (nI wl) (nI nb) (nI (topv wd)) (nI (rcv wd hd)) (nI (btv wd hd)) (nI (lcv wd hd)) (gI gl) (gI aq) st sl (gI lb) (fun zz => nI (sh zz)) (fun zz => nI (bw zz)) (fun zz => nI (bh zz)) (fun zz => nI (ps zz)))) := by
  refine Met.ofW (cc := cX5_explore) (maxL := 4) (ret := none) (by decide) rfl ?_
  intro p e s m args below meth c s₁ B hml hv
  obtain ⟨rfl, hK, hN, hP, hD0⟩ := hv
  have hx := B.exec; have hb := B.bytes; have hr := B.returns; have hlocks := B.notSynchronized
  have hts0 := atoms_spec (ws := Cond.code yX5_explore cX5_explore 4 none :: lw_all) B.pre
  have hC : CallFix p m c cX5_explore 4 s _ lw_all RX5 := ⟨hx, hb, hml, findClass_of_methodNamed B.named, fun w h => hts0 w (List.mem_cons_of_mem _ h)⟩
  have hD : va_D (aW (eW cI cJ cB ys yk yp yt y1 y2 (nI sz) (bI tm) (gI sse) (gI srm) (fun zz => lN (K zz)) (fun zz => nI (P zz)) (fun zz => nI (T zz)) zs zsl1 zf1 (gI gb1) zgp1 zfo1 zsu1 zgr1 zsl2 zf2 (gI gb2) zgp2 zfo2 zsu2 zgr2 h hs hw hh hp (nI se) (nI wd) (nI hd) (nI wl) (nI nb) (nI (topv wd)) (nI (rcv wd hd)) (nI (btv wd hd)) (nI (lcv wd hd)) (gI gl) (gI aq) st sl (gI lb) (fun zz => nI (sh zz)) (fun zz => nI (bw zz)) (fun zz => nI (bh zz)) (fun zz => nI (ps zz)))) (eW cI cJ cB ys yk yp yt y1 y2 (nI sz) (bI tm) (gI sse) (gI srm) (fun zz => lN (K zz)) (fun zz => nI (P zz)) (fun zz => nI (T zz)) zs zsl1 zf1 (gI gb1) zgp1 zfo1 zsu1 zgr1 zsl2 zf2 (gI gb2) zgp2 zfo2 zsu2 zgr2 h hs hw hh hp (nI se) (nI wd) (nI hd) (nI wl) (nI nb) (nI (topv wd)) (nI (rcv wd hd)) (nI (btv wd hd)) (nI (lcv wd hd)) (gI gl) (gI aq) st sl (gI lb) (fun zz => nI (sh zz)) (fun zz => nI (bw zz)) (fun zz => nI (bh zz)) (fun zz => nI (ps zz))) := ⟨hD0.1, fun k q h => ⟨k, q.2, h⟩⟩
  generalize hAe : aW (eW cI cJ cB ys yk yp yt y1 y2 (nI sz) (bI tm) (gI sse) (gI srm) (fun zz => lN (K zz)) (fun zz => nI (P zz)) (fun zz => nI (T zz)) zs zsl1 zf1 (gI gb1) zgp1 zfo1 zsu1 zgr1 zsl2 zf2 (gI gb2) zgp2 zfo2 zsu2 zgr2 h hs hw hh hp (nI se) (nI wd) (nI hd) (nI wl) (nI nb) (nI (topv wd)) (nI (rcv wd hd)) (nI (btv wd hd)) (nI (lcv wd hd)) (gI gl) (gI aq) st sl (gI lb) (fun zz => nI (sh zz)) (fun zz => nI (bw zz)) (fun zz => nI (bh zz)) (fun zz => nI (ps zz))) = A at hD ⊢
  have hS : va_S A s.heap s.heap [] := va_S.rf
  have hl := lv_entry ([.ref ys, .ref h, .int (gI wo)]) (n := 4) (Nat.le_of_ble_eq_true rfl)
  rw [lg_entry_eq]
  generalize (lg_sl ([.ref ys, .ref h, .int (gI wo)]) ++ List.replicate (4 - (lg_sl ([.ref ys, .ref h, .int (gI wo)])).length) Slot.unset).toArray = ls at hl ⊢
  have hl : lv_has ls 4 [(0, .ref ys), (1, .ref h), (2, .int (gI wo))] := hl
  generalize hav : ([.ref ys, .ref h, .int (gI wo)] : List Value).toArray = args at hC ⊢
  refine W_gen (fun QQ hQ => ?_)
  show W p l e (rmN 4) s m args below meth c s.heap [] 0 0 QQ (F0 m 0 ls [])
  have L20 : ∀ (_ : True) , ∀ (H : Heap) (locs : List Loc), va_P D vwCl (eW cI cJ cB ys yk yp yt y1 y2 (nI sz) (bI tm) (gI sse) (gI srm) (fun zz => lN (K zz)) (fun zz => nI (P zz)) (fun zz => nI (T zz)) zs zsl1 zf1 (gI gb1) zgp1 zfo1 zsu1 zgr1 zsl2 zf2 (gI gb2) zgp2 zfo2 zsu2 zgr2 h hs hw hh hp (nI se) (nI wd) (nI hd) (nI wl) (nI nb) (nI (topv wd)) (nI (rcv wd hd)) (nI (btv wd hd)) (nI (lcv wd hd)) (gI gl) (gI aq) st sl (gI lb) (fun zz => nI (sh zz)) (fun zz => nI (bw zz)) (fun zz => nI (bh zz)) (fun zz => nI (ps zz))) H → va_D A (eW cI cJ cB ys yk yp yt y1 y2 (nI sz) (bI tm) (gI sse) (gI srm) (fun zz => lN (K zz)) (fun zz => nI (P zz)) (fun zz => nI (T zz)) zs zsl1 zf1 (gI gb1) zgp1 zfo1 zsu1 zgr1 zsl2 zf2 (gI gb2) zgp2 zfo2 zsu2 zgr2 h hs hw hh hp (nI se) (nI wd) (nI hd) (nI wl) (nI nb) (nI (topv wd)) (nI (rcv wd hd)) (nI (btv wd hd)) (nI (lcv wd hd)) (gI gl) (gI aq) st sl (gI lb) (fun zz => nI (sh zz)) (fun zz => nI (bw zz)) (fun zz => nI (bh zz)) (fun zz => nI (ps zz))) → va_S A s.heap H locs → ∀ ls : Array Slot, lv_has ls 4 [(0, .ref ys), (1, .ref h), (2, .int (gI wo))] → W p l e (rmN 4) s m args below meth c H locs 0 0 QQ (F0 m 20 ls []) := by
    intro _  H locs hP hD hS ls hl
    have hn7 := hf.2.2.2.2.2.1
    refine lv_aload_n hx hb dX5_explore_20 rfl (lv_at hl 0 rfl) ?_
    refine lv_aload_n hx hb dX5_explore_21 rfl (lv_at hl 1 rfl) ?_
    refine gf_X5_48 hC hK hP 6 rfl rfl dX5_explore_22 ?_
    refine pf_X5_30 hC hK hP hD hS 0 rfl (Nat.le_of_ble_eq_true rfl) (ws1 := eW cI cJ cB ys yk yp yt y1 y2 (nI sz) (bI tm) (nI se) (gI srm) (fun zz => lN (K zz)) (fun zz => nI (P zz)) (fun zz => nI (T zz)) zs zsl1 zf1 (gI gb1) zgp1 zfo1 zsu1 zgr1 zsl2 zf2 (gI gb2) zgp2 zfo2 zsu2 zgr2 h hs hw hh hp (nI se) (nI wd) (nI hd) (nI wl) (nI nb) (nI (topv wd)) (nI (rcv wd hd)) (nI (btv wd hd)) (nI (lcv wd hd)) (gI gl) (gI aq) st sl (gI lb) (fun zz => nI (sh zz)) (fun zz => nI (bw zz)) (fun zz => nI (bh zz)) (fun zz => nI (ps zz))) rfl dX5_explore_25 (fun H locs hP hD hS => ?_)
    refine lv_aload_n hx hb dX5_explore_28 rfl (lv_at hl 0 rfl) ?_
    refine lv_iload_n hx hb dX5_explore_29 rfl (lv_at hl 2 rfl) ?_
    refine pf_X5_33 hC hK hP hD hS 0 rfl (Nat.le_of_ble_eq_true rfl) (ws1 := eW cI cJ cB ys yk yp yt y1 y2 (nI sz) (bI tm) (nI se) (gI wo) (fun zz => lN (K zz)) (fun zz => nI (P zz)) (fun zz => nI (T zz)) zs zsl1 zf1 (gI gb1) zgp1 zfo1 zsu1 zgr1 zsl2 zf2 (gI gb2) zgp2 zfo2 zsu2 zgr2 h hs hw hh hp (nI se) (nI wd) (nI hd) (nI wl) (nI nb) (nI (topv wd)) (nI (rcv wd hd)) (nI (btv wd hd)) (nI (lcv wd hd)) (gI gl) (gI aq) st sl (gI lb) (fun zz => nI (sh zz)) (fun zz => nI (bw zz)) (fun zz => nI (bh zz)) (fun zz => nI (ps zz))) rfl dX5_explore_30 (fun H locs hP hD hS => ?_)
    refine lv_aload_n hx hb dX5_explore_33 rfl (lv_at hl 0 rfl) ?_
    refine lv_iconst (v := nI 0) hx hb dX5_explore_34 (by decide) ?_
    refine pf_X5_22 hC hK hP hD hS 0 rfl (Nat.le_of_ble_eq_true rfl) (ws1 := eW cI cJ cB ys yk yp yt y1 y2 (nI 0) (bI tm) (nI se) (gI wo) (fun zz => lN (K zz)) (fun zz => nI (P zz)) (fun zz => nI (T zz)) zs zsl1 zf1 (gI gb1) zgp1 zfo1 zsu1 zgr1 zsl2 zf2 (gI gb2) zgp2 zfo2 zsu2 zgr2 h hs hw hh hp (nI se) (nI wd) (nI hd) (nI wl) (nI nb) (nI (topv wd)) (nI (rcv wd hd)) (nI (btv wd hd)) (nI (lcv wd hd)) (gI gl) (gI aq) st sl (gI lb) (fun zz => nI (sh zz)) (fun zz => nI (bw zz)) (fun zz => nI (bh zz)) (fun zz => nI (ps zz))) rfl dX5_explore_35 (fun H locs hP hD hS => ?_)
    refine lv_aload_n hx hb dX5_explore_38 rfl (lv_at hl 0 rfl) ?_
    refine lv_iconst (v := nI 0) hx hb dX5_explore_39 (by decide) ?_
    refine topi (y := bI false) rfl ?_
    refine pf_X5_26 hC hK hP hD hS 0 rfl (bnar _) (bfit _) (Nat.le_of_ble_eq_true rfl) (ws1 := eW cI cJ cB ys yk yp yt y1 y2 (nI 0) (bI false) (nI se) (gI wo) (fun zz => lN (K zz)) (fun zz => nI (P zz)) (fun zz => nI (T zz)) zs zsl1 zf1 (gI gb1) zgp1 zfo1 zsu1 zgr1 zsl2 zf2 (gI gb2) zgp2 zfo2 zsu2 zgr2 h hs hw hh hp (nI se) (nI wd) (nI hd) (nI wl) (nI nb) (nI (topv wd)) (nI (rcv wd hd)) (nI (btv wd hd)) (nI (lcv wd hd)) (gI gl) (gI aq) st sl (gI lb) (fun zz => nI (sh zz)) (fun zz => nI (bw zz)) (fun zz => nI (bh zz)) (fun zz => nI (ps zz))) rfl dX5_explore_40 (fun H locs hP hD hS => ?_)
    refine lv_aload_n hx hb dX5_explore_43 rfl (lv_at hl 0 rfl) ?_
    refine gf_X5_19 hC hK hP 0 rfl rfl dX5_explore_44 ?_
    refine lv_iconst (v := nI 0) hx hb dX5_explore_47 (by decide) ?_
    refine callS_v (As := [.ref yt, .int (nI 0)]) (rest := []) [3] hC hK hN hP hD rfl (by decide) hS (c_J7_fill_N l D cI cJ cB yt 4096 T (by omega)) q485 md_J7_fill_53178 rfl hl.1 rfl (Nat.le_of_ble_eq_true rfl) dX5_explore_48 ⟨Nat.le_of_ble_eq_true rfl, Nat.le_of_ble_eq_true rfl⟩ ⟨Nat.le_of_ble_eq_true rfl, Nat.le_of_ble_eq_true rfl⟩ (fun w H locs hpost hP hD hS => ?_)
    obtain rfl := hpost
    have hP : va_P D vwCl (eW cI cJ cB ys yk yp yt y1 y2 (nI 0) (bI false) (nI se) (gI wo) (fun zz => lN (K zz)) (fun zz => nI (P zz)) (fun zz => nI ((fun _ => 0) zz)) zs zsl1 zf1 (gI gb1) zgp1 zfo1 zsu1 zgr1 zsl2 zf2 (gI gb2) zgp2 zfo2 zsu2 zgr2 h hs hw hh hp (nI se) (nI wd) (nI hd) (nI wl) (nI nb) (nI (topv wd)) (nI (rcv wd hd)) (nI (btv wd hd)) (nI (lcv wd hd)) (gI gl) (gI aq) st sl (gI lb) (fun zz => nI (sh zz)) (fun zz => nI (bw zz)) (fun zz => nI (bh zz)) (fun zz => nI (ps zz))) H := hP
    have hD : va_D A (eW cI cJ cB ys yk yp yt y1 y2 (nI 0) (bI false) (nI se) (gI wo) (fun zz => lN (K zz)) (fun zz => nI (P zz)) (fun zz => nI ((fun _ => 0) zz)) zs zsl1 zf1 (gI gb1) zgp1 zfo1 zsu1 zgr1 zsl2 zf2 (gI gb2) zgp2 zfo2 zsu2 zgr2 h hs hw hh hp (nI se) (nI wd) (nI hd) (nI wl) (nI nb) (nI (topv wd)) (nI (rcv wd hd)) (nI (btv wd hd)) (nI (lcv wd hd)) (gI gl) (gI aq) st sl (gI lb) (fun zz => nI (sh zz)) (fun zz => nI (bw zz)) (fun zz => nI (bh zz)) (fun zz => nI (ps zz))) := hD
    refine lv_aload_n hx hb dX5_explore_51 rfl (lv_at hl 0 rfl) ?_
    refine gf_X5_41 hC hK hP 0 rfl rfl dX5_explore_52 ?_
    refine callV_v (As := []) (rest := []) [4] hC hK hN hP hD rfl (by decide) hS 4 (ci := 1) rfl rfl rfl (c_X1_forget l D cI cJ cB y1 zs zf1 zsl1 (gI gb1) zgp1 zfo1 zsu1 zgr1 ) q486 md_X1_forget rfl hl.1 rfl (Nat.le_of_ble_eq_true rfl) dX5_explore_55 ⟨Nat.le_of_ble_eq_true rfl, Nat.le_of_ble_eq_true rfl⟩ ⟨Nat.le_of_ble_eq_true rfl, Nat.le_of_ble_eq_true rfl⟩ (fun w H locs hpost hP hD hS => ?_)
    obtain rfl := hpost
    have hP : va_P D vwCl (eW cI cJ cB ys yk yp yt y1 y2 (nI 0) (bI false) (nI se) (gI wo) (fun zz => lN (K zz)) (fun zz => nI (P zz)) (fun zz => nI ((fun _ => 0) zz)) zs zsl1 zf1 (gI none) zgp1 zfo1 zsu1 zgr1 zsl2 zf2 (gI gb2) zgp2 zfo2 zsu2 zgr2 h hs hw hh hp (nI se) (nI wd) (nI hd) (nI wl) (nI nb) (nI (topv wd)) (nI (rcv wd hd)) (nI (btv wd hd)) (nI (lcv wd hd)) (gI gl) (gI aq) st sl (gI lb) (fun zz => nI (sh zz)) (fun zz => nI (bw zz)) (fun zz => nI (bh zz)) (fun zz => nI (ps zz))) H := hP
    have hD : va_D A (eW cI cJ cB ys yk yp yt y1 y2 (nI 0) (bI false) (nI se) (gI wo) (fun zz => lN (K zz)) (fun zz => nI (P zz)) (fun zz => nI ((fun _ => 0) zz)) zs zsl1 zf1 (gI none) zgp1 zfo1 zsu1 zgr1 zsl2 zf2 (gI gb2) zgp2 zfo2 zsu2 zgr2 h hs hw hh hp (nI se) (nI wd) (nI hd) (nI wl) (nI nb) (nI (topv wd)) (nI (rcv wd hd)) (nI (btv wd hd)) (nI (lcv wd hd)) (gI gl) (gI aq) st sl (gI lb) (fun zz => nI (sh zz)) (fun zz => nI (bw zz)) (fun zz => nI (bh zz)) (fun zz => nI (ps zz))) := hD
    refine lv_aload_n hx hb dX5_explore_58 rfl (lv_at hl 0 rfl) ?_
    refine gf_X5_45 hC hK hP 0 rfl rfl dX5_explore_59 ?_
    refine callV_v (As := []) (rest := []) [5] hC hK hN hP hD rfl (by decide) hS 5 (ci := 1) rfl rfl rfl (c_X1_forget l D cI cJ cB y2 zs zf2 zsl2 (gI gb2) zgp2 zfo2 zsu2 zgr2 ) q486 md_X1_forget rfl hl.1 rfl (Nat.le_of_ble_eq_true rfl) dX5_explore_62 ⟨Nat.le_of_ble_eq_true rfl, Nat.le_of_ble_eq_true rfl⟩ ⟨Nat.le_of_ble_eq_true rfl, Nat.le_of_ble_eq_true rfl⟩ (fun w H locs hpost hP hD hS => ?_)
    obtain rfl := hpost
    have hP : va_P D vwCl (eW cI cJ cB ys yk yp yt y1 y2 (nI 0) (bI false) (nI se) (gI wo) (fun zz => lN (K zz)) (fun zz => nI (P zz)) (fun zz => nI ((fun _ => 0) zz)) zs zsl1 zf1 (gI none) zgp1 zfo1 zsu1 zgr1 zsl2 zf2 (gI none) zgp2 zfo2 zsu2 zgr2 h hs hw hh hp (nI se) (nI wd) (nI hd) (nI wl) (nI nb) (nI (topv wd)) (nI (rcv wd hd)) (nI (btv wd hd)) (nI (lcv wd hd)) (gI gl) (gI aq) st sl (gI lb) (fun zz => nI (sh zz)) (fun zz => nI (bw zz)) (fun zz => nI (bh zz)) (fun zz => nI (ps zz))) H := hP
    have hD : va_D A (eW cI cJ cB ys yk yp yt y1 y2 (nI 0) (bI false) (nI se) (gI wo) (fun zz => lN (K zz)) (fun zz => nI (P zz)) (fun zz => nI ((fun _ => 0) zz)) zs zsl1 zf1 (gI none) zgp1 zfo1 zsu1 zgr1 zsl2 zf2 (gI none) zgp2 zfo2 zsu2 zgr2 h hs hw hh hp (nI se) (nI wd) (nI hd) (nI wl) (nI nb) (nI (topv wd)) (nI (rcv wd hd)) (nI (btv wd hd)) (nI (lcv wd hd)) (gI gl) (gI aq) st sl (gI lb) (fun zz => nI (sh zz)) (fun zz => nI (bw zz)) (fun zz => nI (bh zz)) (fun zz => nI (ps zz))) := hD
    refine lv_aload_n hx hb dX5_explore_65 rfl (lv_at hl 0 rfl) ?_
    refine lv_aload_n hx hb dX5_explore_66 rfl (lv_at hl 1 rfl) ?_
    refine lv_aload_n hx hb dX5_explore_67 rfl (lv_at hl 0 rfl) ?_
    refine gf_X5_33 hC hK hP 0 rfl rfl dX5_explore_68 ?_
    refine callV_l (As := [.int (gI wo)]) (rest := [.ref ys]) [6, 7, 8, 9, 10] hC hK hN hP hD rfl (by decide) hS 6 (ci := 0) rfl rfl rfl (c_X0_key l D cI cJ cB h hs hw hh hp se wd hd nb wl st sl gl aq lb sh bw bh ps wo (by omega) hps (fun d h => by have := hwo d h; omega)) q490 md_X0_key rfl hl.1 rfl (Nat.le_of_ble_eq_true rfl) dX5_explore_71 ⟨Nat.le_of_ble_eq_true rfl, Nat.le_of_ble_eq_true rfl⟩ ⟨Nat.le_of_ble_eq_true rfl, Nat.le_of_ble_eq_true rfl⟩ (fun r_71 w H locs hpost hP hD hS => ?_)
    obtain ⟨rfl, rfl⟩ := hpost
    have hP : va_P D vwCl (eW cI cJ cB ys yk yp yt y1 y2 (nI 0) (bI false) (nI se) (gI wo) (fun zz => lN (K zz)) (fun zz => nI (P zz)) (fun zz => nI ((fun _ => 0) zz)) zs zsl1 zf1 (gI none) zgp1 zfo1 zsu1 zgr1 zsl2 zf2 (gI none) zgp2 zfo2 zsu2 zgr2 h hs hw hh hp (nI se) (nI wd) (nI hd) (nI wl) (nI nb) (nI (topv wd)) (nI (rcv wd hd)) (nI (btv wd hd)) (nI (lcv wd hd)) (gI gl) (gI aq) st sl (gI lb) (fun zz => nI (sh zz)) (fun zz => nI (bw zz)) (fun zz => nI (bh zz)) (fun zz => nI (ps zz))) H := hP
    have hD : va_D A (eW cI cJ cB ys yk yp yt y1 y2 (nI 0) (bI false) (nI se) (gI wo) (fun zz => lN (K zz)) (fun zz => nI (P zz)) (fun zz => nI ((fun _ => 0) zz)) zs zsl1 zf1 (gI none) zgp1 zfo1 zsu1 zgr1 zsl2 zf2 (gI none) zgp2 zfo2 zsu2 zgr2 h hs hw hh hp (nI se) (nI wd) (nI hd) (nI wl) (nI nb) (nI (topv wd)) (nI (rcv wd hd)) (nI (btv wd hd)) (nI (lcv wd hd)) (gI gl) (gI aq) st sl (gI lb) (fun zz => nI (sh zz)) (fun zz => nI (bw zz)) (fun zz => nI (bh zz)) (fun zz => nI (ps zz))) := hD
    refine callV_v (As := [.long (lN (keyx ps wo nb))]) (rest := []) [0, 1, 2, 3] hC hK hN hP hD rfl (by decide) hS 0 (ci := 5) rfl rfl rfl (c_X5_add l D cI cJ cB ys yk yp yt y1 y2 0 false (some se) wo K P (fun _ => 0) (keyx ps wo nb) hk0.1 (TI_0 (by decide) (fun j hj => rfl)) (by omega) (fun i hi => absurd hi (Nat.not_lt_zero i))) q497 md_X5_add rfl hl.1 rfl (Nat.le_of_ble_eq_true rfl) dX5_explore_74 ⟨Nat.le_of_ble_eq_true rfl, Nat.le_of_ble_eq_true rfl⟩ ⟨Nat.le_of_ble_eq_true rfl, Nat.le_of_ble_eq_true rfl⟩ (fun w H locs hpost hP hD hS => ?_)
    obtain ⟨K2_74, n2_74, T2_74, tm2_74, rfl, hfd⟩ := hpost
    have hP : va_P D vwCl (eW cI cJ cB ys yk yp yt y1 y2 (nI n2_74) (bI tm2_74) (nI se) (gI wo) (fun zz => lN (K2_74 zz)) (fun zz => nI (P zz)) (fun zz => nI (T2_74 zz)) zs zsl1 zf1 (gI none) zgp1 zfo1 zsu1 zgr1 zsl2 zf2 (gI none) zgp2 zfo2 zsu2 zgr2 h hs hw hh hp (nI se) (nI wd) (nI hd) (nI wl) (nI nb) (nI (topv wd)) (nI (rcv wd hd)) (nI (btv wd hd)) (nI (lcv wd hd)) (gI gl) (gI aq) st sl (gI lb) (fun zz => nI (sh zz)) (fun zz => nI (bw zz)) (fun zz => nI (bh zz)) (fun zz => nI (ps zz))) H := hP
    have hD : va_D A (eW cI cJ cB ys yk yp yt y1 y2 (nI n2_74) (bI tm2_74) (nI se) (gI wo) (fun zz => lN (K2_74 zz)) (fun zz => nI (P zz)) (fun zz => nI (T2_74 zz)) zs zsl1 zf1 (gI none) zgp1 zfo1 zsu1 zgr1 zsl2 zf2 (gI none) zgp2 zfo2 zsu2 zgr2 h hs hw hh hp (nI se) (nI wd) (nI hd) (nI wl) (nI nb) (nI (topv wd)) (nI (rcv wd hd)) (nI (btv wd hd)) (nI (lcv wd hd)) (gI gl) (gI aq) st sl (gI lb) (fun zz => nI (sh zz)) (fun zz => nI (bw zz)) (fun zz => nI (bh zz)) (fun zz => nI (ps zz))) := hD
    refine lv_iconst (v := nI 0) hx hb dX5_explore_77 (by decide) ?_
    refine lv_istore_n (lv' := [(3, .int (nI 0)), (0, .ref ys), (1, .ref h), (2, .int (gI wo))]) hx hb dX5_explore_78 rfl hl (by decide) rfl (fun ls hl => ?_)
    have L79 : ∀ (n : Nat) (u : Nat) (Ka : Nat → Nat) (na : Nat) (Ta : Nat → Nat) (ta : Bool) (Pa : Nat → Nat), (EC (kst wd hd nb wl sh bw bh wo) (KV wd hd nb wl sh bw bh wo) (keyx ps wo nb) Ka na Ta ta) → (u ≤ na) → (ta = false → (∀ i, i < u → ∀ x, (kst wd hd nb wl sh bw bh wo) (Ka i) x → Has Ka na x) ∧ ∀ i, i < u → Pa i = pos wd hd nb wl sh bw bh wo (Ka i) nb) → (2000 - u) < n → ∀ (H : Heap) (locs : List Loc), va_P D vwCl (eW cI cJ cB ys yk yp yt y1 y2 (nI na) (bI ta) (nI se) (gI wo) (fun zz => lN (Ka zz)) (fun zz => nI (Pa zz)) (fun zz => nI (Ta zz)) zs zsl1 zf1 (gI none) zgp1 zfo1 zsu1 zgr1 zsl2 zf2 (gI none) zgp2 zfo2 zsu2 zgr2 h hs hw hh hp (nI se) (nI wd) (nI hd) (nI wl) (nI nb) (nI (topv wd)) (nI (rcv wd hd)) (nI (btv wd hd)) (nI (lcv wd hd)) (gI gl) (gI aq) st sl (gI lb) (fun zz => nI (sh zz)) (fun zz => nI (bw zz)) (fun zz => nI (bh zz)) (fun zz => nI (ps zz))) H → va_D A (eW cI cJ cB ys yk yp yt y1 y2 (nI na) (bI ta) (nI se) (gI wo) (fun zz => lN (Ka zz)) (fun zz => nI (Pa zz)) (fun zz => nI (Ta zz)) zs zsl1 zf1 (gI none) zgp1 zfo1 zsu1 zgr1 zsl2 zf2 (gI none) zgp2 zfo2 zsu2 zgr2 h hs hw hh hp (nI se) (nI wd) (nI hd) (nI wl) (nI nb) (nI (topv wd)) (nI (rcv wd hd)) (nI (btv wd hd)) (nI (lcv wd hd)) (gI gl) (gI aq) st sl (gI lb) (fun zz => nI (sh zz)) (fun zz => nI (bw zz)) (fun zz => nI (bh zz)) (fun zz => nI (ps zz))) → va_S A s.heap H locs → ∀ ls : Array Slot, lv_has ls 4 [(3, .int (nI u)), (0, .ref ys), (1, .ref h), (2, .int (gI wo))] → W p l e (rmN 4) s m args below meth c H locs 0 0 QQ (F0 m 79 ls []) := by
      intro n; induction n with
      | zero => intro u Ka na Ta ta Pa iE iu ic hm; exact absurd hm (Nat.not_lt_zero _)
      | succ n ih79 =>
        intro u Ka na Ta ta Pa iE iu ic hm79 H locs hP hD hS ls hl
        refine lv_iload_n hx hb dX5_explore_79 rfl (lv_at hl 0 rfl) ?_
        refine lv_aload_n hx hb dX5_explore_80 rfl (lv_at hl 1 rfl) ?_
        refine gf_X5_22 hC hK hP 0 rfl rfl dX5_explore_81 ?_
        refine n_icmp_ge (a := u) (b := na) (tgt := 113) hx hb dX5_explore_84 (by decide) (by have := (EC_lt iE).1; omega) (by have := (EC_lt iE).1; omega) (fun c84 => ?_) (fun c84 => ?_)
        · have _ : True := trivial
          rw [hQ]
          exact W.vret hx hb hr (fun t9 ht hW => ⟨⟨_, rfl, ⟨Ka, na, Ta, ta, Pa, none, none, rfl, EC_SPC iE (fun h => by have hi9 := ic h; rw [show u = na by omega] at hi9; exact hi9), Or.inr ⟨rfl, rfl⟩⟩, by rw [ht]; exact hP, rfl⟩, hS.F ht⟩) hS.2.2 dX5_explore_113
        · have _ : True := trivial
          refine lv_iload_n hx hb dX5_explore_87 rfl (lv_at hl 0 rfl) ?_
          refine lv_sipush (v := nI 2000) hx hb dX5_explore_88 (by decide) ?_
          refine n_icmp_ge (a := u) (b := 2000) (tgt := 113) hx hb dX5_explore_91 (by decide) (by have := (EC_lt iE).1; omega) (by omega) (fun c91 => ?_) (fun c91 => ?_)
          · have _ : True := trivial
            exact absurd c91 (by have := (EC_lt iE).1; omega)
          · have _ : True := trivial
            refine lv_aload_n hx hb dX5_explore_94 rfl (lv_at hl 1 rfl) ?_
            refine gf_X5_26 hC hK hP 0 rfl rfl dX5_explore_95 ?_
            refine b_if_ne (tgt := 113) hx hb dX5_explore_98 (by decide) (fun c98 => ?_) (fun c98 => ?_)
            · have _ : True := trivial
              rw [hQ]
              exact W.vret hx hb hr (fun t9 ht hW => ⟨⟨_, rfl, ⟨Ka, na, Ta, ta, Pa, none, none, rfl, EC_SPC iE (fun h => by rw [c98] at h; cases h), Or.inr ⟨rfl, rfl⟩⟩, by rw [ht]; exact hP, rfl⟩, hS.F ht⟩) hS.2.2 dX5_explore_113
            · have _ : True := trivial
              refine lv_aload_n hx hb dX5_explore_101 rfl (lv_at hl 1 rfl) ?_
              refine lv_aload_n hx hb dX5_explore_102 rfl (lv_at hl 2 rfl) ?_
              refine lv_iload_n hx hb dX5_explore_103 rfl (lv_at hl 0 rfl) ?_
              refine callV_v (As := [.ref h, .int (nI u)]) (rest := []) [0, 1, 2, 3, 6, 7, 8, 9, 10] hC hK hN hP hD rfl (by decide) hS 0 (ci := 5) rfl rfl rfl (c_X5_expand l D cI cJ cB ys yk yp yt y1 y2 na ta (some se) wo Ka Pa Ta h hs hw hh hp se wd hd nb wl st sl gl aq lb sh bw bh ps u (keyx ps wo nb) hf hwo iE (by omega)) q511 md_X5_expand rfl hl.1 rfl (Nat.le_of_ble_eq_true rfl) dX5_explore_104 ⟨Nat.le_of_ble_eq_true rfl, Nat.le_of_ble_eq_true rfl⟩ ⟨Nat.le_of_ble_eq_true rfl, Nat.le_of_ble_eq_true rfl⟩ (fun w H locs hpost hP hD hS => ?_)
              obtain ⟨K2_104, n2_104, T2_104, tm2_104, P2_104, rfl, h104_e, h104_n, h104_k, h104_c, h104_p⟩ := hpost
              have hP : va_P D vwCl (eW cI cJ cB ys yk yp yt y1 y2 (nI n2_104) (bI tm2_104) (nI se) (gI wo) (fun zz => lN (K2_104 zz)) (fun zz => nI (P2_104 zz)) (fun zz => nI (T2_104 zz)) zs zsl1 zf1 (gI none) zgp1 zfo1 zsu1 zgr1 zsl2 zf2 (gI none) zgp2 zfo2 zsu2 zgr2 h hs hw hh hp (nI se) (nI wd) (nI hd) (nI wl) (nI nb) (nI (topv wd)) (nI (rcv wd hd)) (nI (btv wd hd)) (nI (lcv wd hd)) (gI gl) (gI aq) st sl (gI lb) (fun zz => nI (sh zz)) (fun zz => nI (bw zz)) (fun zz => nI (bh zz)) (fun zz => nI (ps zz))) H := hP
              have hD : va_D A (eW cI cJ cB ys yk yp yt y1 y2 (nI n2_104) (bI tm2_104) (nI se) (gI wo) (fun zz => lN (K2_104 zz)) (fun zz => nI (P2_104 zz)) (fun zz => nI (T2_104 zz)) zs zsl1 zf1 (gI none) zgp1 zfo1 zsu1 zgr1 zsl2 zf2 (gI none) zgp2 zfo2 zsu2 zgr2 h hs hw hh hp (nI se) (nI wd) (nI hd) (nI wl) (nI nb) (nI (topv wd)) (nI (rcv wd hd)) (nI (btv wd hd)) (nI (lcv wd hd)) (gI gl) (gI aq) st sl (gI lb) (fun zz => nI (sh zz)) (fun zz => nI (bw zz)) (fun zz => nI (bh zz)) (fun zz => nI (ps zz))) := hD
              refine lv_iinc (v := nI (u + 1)) (lv' := [(3, .int (nI (u + 1))), (0, .ref ys), (1, .ref h), (2, .int (gI wo))]) hx hb dX5_explore_107 hl (k := 0) rfl (nI_1 _) (by decide) rfl (fun ls hl => ?_)
              refine lv_goto (tgt := 79) hx hb dX5_explore_110 (by decide) ?_
              exact ih79 (u + 1) K2_104 n2_104 T2_104 tm2_104 P2_104 h104_e (by have := h104_n; omega) (fun h => ⟨lt_s (fun i hi x hx => by rw [h104_k i (by omega)] at hx; exact Has_up ((ic (h104_c h).1).1 i hi x hx) h104_n h104_k) (fun x hx => by rw [h104_k u (by omega)] at hx; exact (h104_c h).2 x hx), lt_s (fun i hi => by rw [h104_p, up_ne Pa (by omega), h104_k i (by omega)]; exact (ic (h104_c h).1).2 i hi) (by rw [h104_p, up_eq, h104_k u (by omega)])⟩) (by omega) _ _ hP hD hS _ (lv_sub hl [0, 1, 2, 3] rfl)
    exact L79 _ 0 K2_74 n2_74 T2_74 tm2_74 P (EC_0 hk0 hfd) (by omega) (fun _ => ⟨fun i h => absurd h (Nat.not_lt_zero i), fun i h => absurd h (Nat.not_lt_zero i)⟩) (Nat.lt_succ_self _) _ _ hP hD hS _ (lv_sub hl [0, 1, 2, 3] rfl)
  refine lv_aload_n hx hb dX5_explore_0 rfl (lv_at hl 0 rfl) ?_
  refine gf_X5_30 hC hK hP 0 rfl rfl dX5_explore_1 ?_
  refine lv_aload_n hx hb dX5_explore_4 rfl (lv_at hl 1 rfl) ?_
  refine gf_X5_48 hC hK hP 6 rfl rfl dX5_explore_5 ?_
  refine g_icmp_ne2 (a := se) (x := sse) (tgt := 20) hx hb dX5_explore_8 (by decide) (by omega) (fun d h => by have := hss d h; omega) (fun c8 => ?_) (fun c8 => ?_)
  · have _ : True := trivial
    exact L20 trivial   _ _ hP hD hS _ (lv_sub hl [0, 1, 2] rfl)
  · have _ : True := trivial
    refine lv_aload_n hx hb dX5_explore_11 rfl (lv_at hl 0 rfl) ?_
    refine gf_X5_33 hC hK hP 0 rfl rfl dX5_explore_12 ?_
    refine lv_iload_n hx hb dX5_explore_15 rfl (lv_at hl 2 rfl) ?_
    refine lv_icmp_ne (tgt := 20) hx hb dX5_explore_16 (by decide) (fun c16 => ?_) (fun c16 => ?_)
    · have _ : True := trivial
      exact L20 trivial   _ _ hP hD hS _ (lv_sub hl [0, 1, 2] rfl)
    · have _ : True := trivial
      have e16 := gI_inj (fun d h => by have := hrm7 d h; omega) (fun d h => by have := hwo d h; have := hf.2.2.2.2.2.1; omega) c16
      rw [hQ]
      exact W.vret hx hb hr (fun t9 ht hW => ⟨⟨_, rfl, ⟨K, sz, T, tm, P, gb1, gb2, (by rw [e16, show sse = some se from c8]), hcv c8 e16, Or.inl ⟨c8, e16, rfl, rfl, rfl, rfl, rfl, rfl, rfl⟩⟩, by rw [ht]; exact hP, rfl⟩, hS.F ht⟩) hS.2.2 dX5_explore_19
