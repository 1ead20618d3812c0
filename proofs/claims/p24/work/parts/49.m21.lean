abbrev rW (cI cJ cB : ClassId) (ro : Nat) (rfa : Nat) (rqa : Nat) (rF : Nat → Int32) (rQ : Nat → Int32) (h : Nat) (hs : Nat) (hw : Nat) (hh : Nat) (hp : Nat) (bse : Int32) (bwi : Int32) (bhe : Int32) (bwa : Int32) (bco : Int32) (btr : Int32) (brc : Int32) (bbr : Int32) (blc : Int32) (bgb : Int32) (bgp : Int32) (bst : Int32) (bsl : Int32) (bla : Int32) (bsh : Nat → Int32) (bwd : Nat → Int32) (bhg : Nat → Int32) (bsp : Nat → Int32) : va_W := [(ro, .inr (3, [.ref rfa, .ref rqa])), (rfa, .inl (cI, 24, .inl rF)), (rqa, .inl (cI, 24, .inl rQ)), (h, .inr (0, [.int bse, .int bwi, .int bhe, .int bwa, .int bco, .int btr, .int brc, .int bbr, .int blc, .ref hs, .ref hw, .ref hh, .ref hp, .int bgb, .int bgp, .int bst, .int bsl, .int bla])), (hs, .inl (cI, 7, .inl bsh)), (hw, .inl (cI, 7, .inl bwd)), (hh, .inl (cI, 7, .inl bhg)), (hp, .inl (cI, 7, .inl bsp))]

set_option maxHeartbeats 400000 in
set_option maxRecDepth 100000 in
theorem c_X3_spread (l : Launch) (D : va_G) (cI cJ cB : ClassId) (ro rfa rqa : Nat) (rF : Nat → Option Nat) (rQ : Nat → Nat) (h hs hw hh hp se wd hd nb wl : Nat) (st sl : Int32) (gl aq lb : Option Nat) (sh bw bh ps : Nat → Nat) (b : Nat) (htv : TV wd hd nb wl sh bw bh ps gl aq lb) (hbn : b < nb) : Met l yX3_spread (Cond.code yX3_spread cX3_spread 12 (some .int) :: lw_all) (rmN 3) (va_Pc [.ref ro, .ref h, .int (nI b)] (pB D (tyz cI cJ cB) (rW cI cJ cB ro rfa rqa (fun zz => oI (rF zz)) (fun zz => nI (rQ zz)) h hs hw hh hp (nI se) (nI wd) (nI hd) (nI wl) (nI nb) (nI (topv wd)) (nI (rcv wd hd)) (nI (btv wd hd)) (nI (lcv wd hd)) (gI gl) (gI aq) st sl (gI lb) (fun zz => nI (sh zz)) (fun zz => nI (bw zz)) (fun zz => nI (bh zz)) (fun zz => nI (ps zz))))) (va_Qi (fun (r : Int32) (w : va_W) => ∃ F2 : Nat → Option Nat, ∃ Q2 : Nat → Nat, r = nI (cntF F2 24) ∧ w = rW cI cJ cB ro rfa rqa (fun zz => oI (F2 zz)) (fun zz => nI (Q2 zz)) h hs hw hh hp (nI se) (nI wd) (nI hd) (nI wl) (nI nb) (nI (topv wd)) (nI (rcv wd hd)) (nI (btv wd hd)) (nI (lcv wd hd)) (gI gl) (gI aq) st sl (gI lb) (fun zz => nI (sh zz)) (fun zz => nI (bw zz)) (fun zz => nI (bh zz)) (fun zz => nI (ps zz)) ∧ LD (fstep wd hd (bw b) (bh b) (sh b) (tk wl sh (pkey ps nb) (exb none (some b)) nb)) (fun x => x = plc (pkey ps nb) b) F2 ∧ (∀ x d, F2 x = some d → PlV wd hd (bw b) (bh b) x ∧ x < wd * hd ∧ d < 24)) (gB D (rW cI cJ cB ro rfa rqa (fun zz => oI (rF zz)) (fun zz => nI (rQ zz)) h hs hw hh hp (nI se) (nI wd) (nI hd) (nI wl) (nI nb) (nI (topv wd)) (nI (rcv wd hd)) (nI (btv wd hd)) (nI (lcv wd hd)) (gI gl) (gI aq) st sl (gI lb) (fun zz => nI (sh zz)) (fun zz => nI (bw zz)) (fun zz => nI (bh zz)) (fun zz => nI (ps zz)))) (aW (rW cI cJ cB ro rfa rqa (fun zz => oI (rF zz)) (fun zz => nI (rQ zz)) h hs hw hh hp (nI se) (nI wd) (nI hd) (nI wl) (nI nb) (nI (topv wd)) (nI (rcv wd hd)) (nI (btv wd hd)) (nI (lcv wd hd)) (gI gl) (gI aq) st sl (gI lb) (fun zz => nI (sh zz)) (fun zz => nI (bw zz)) (fun zz => nI (bh zz)) (fun zz => nI (ps zz))))) 0 0 (aW (rW cI cJ cB ro rfa rqa (fun zz => oI (rF zz)) (fun zz => nI (rQ zz)) h hs hw hh hp (nI se) (nI wd) (nI hd) (nI wl) (nI nb) (nI (topv wd)) (nI (rcv wd hd)) (nI (btv wd hd)) (nI (lcv wd hd)) (gI gl) (gI aq) st sl (gI lb) (fun zz => nI (sh zz)) (fun zz => nI (bw zz)) (fun zz => nI (bh zz)) (fun zz => nI (ps zz)))) := by
  refine Met.ofW (cc := cX3_spread) (maxL := 12) (ret := (some .int)) (by decide) rfl ?_
  intro p e s m args below meth c s₁ B hml hv
  obtain ⟨rfl, hK, hN, hP, hD0⟩ := hv
  have hx := B.exec; have hb := B.bytes; have hr := B.returns; have hlocks := B.notSynchronized
  have hts0 := atoms_spec (ws := Cond.code yX3_spread cX3_spread 12 (some .int) :: lw_all) B.pre
  have hC : CallFix p m c cX3_spread 12 s _ lw_all RX3 := ⟨hx, hb, hml, findClass_of_methodNamed B.named, fun w h => hts0 w (List.mem_cons_of_mem _ h)⟩
  have hD : va_D (aW (rW cI cJ cB ro rfa rqa (fun zz => oI (rF zz)) (fun zz => nI (rQ zz)) h hs hw hh hp (nI se) (nI wd) (nI hd) (nI wl) (nI nb) (nI (topv wd)) (nI (rcv wd hd)) (nI (btv wd hd)) (nI (lcv wd hd)) (gI gl) (gI aq) st sl (gI lb) (fun zz => nI (sh zz)) (fun zz => nI (bw zz)) (fun zz => nI (bh zz)) (fun zz => nI (ps zz)))) (rW cI cJ cB ro rfa rqa (fun zz => oI (rF zz)) (fun zz => nI (rQ zz)) h hs hw hh hp (nI se) (nI wd) (nI hd) (nI wl) (nI nb) (nI (topv wd)) (nI (rcv wd hd)) (nI (btv wd hd)) (nI (lcv wd hd)) (gI gl) (gI aq) st sl (gI lb) (fun zz => nI (sh zz)) (fun zz => nI (bw zz)) (fun zz => nI (bh zz)) (fun zz => nI (ps zz))) := ⟨hD0.1, fun k q h => ⟨k, q.2, h⟩⟩
  generalize hAe : aW (rW cI cJ cB ro rfa rqa (fun zz => oI (rF zz)) (fun zz => nI (rQ zz)) h hs hw hh hp (nI se) (nI wd) (nI hd) (nI wl) (nI nb) (nI (topv wd)) (nI (rcv wd hd)) (nI (btv wd hd)) (nI (lcv wd hd)) (gI gl) (gI aq) st sl (gI lb) (fun zz => nI (sh zz)) (fun zz => nI (bw zz)) (fun zz => nI (bh zz)) (fun zz => nI (ps zz))) = A at hD ⊢
  have hS : va_S A s.heap s.heap [] := va_S.rf
  have hl := lv_entry ([.ref ro, .ref h, .int (nI b)]) (n := 12) (Nat.le_of_ble_eq_true rfl)
  rw [lg_entry_eq]
  generalize (lg_sl ([.ref ro, .ref h, .int (nI b)]) ++ List.replicate (12 - (lg_sl ([.ref ro, .ref h, .int (nI b)])).length) Slot.unset).toArray = ls at hl ⊢
  have hl : lv_has ls 12 [(0, .ref ro), (1, .ref h), (2, .int (nI b))] := hl
  generalize hav : ([.ref ro, .ref h, .int (nI b)] : List Value).toArray = args at hC ⊢
  refine W_gen (fun QQ hQ => ?_)
  show W p l e (rmN 3) s m args below meth c s.heap [] 0 0 QQ (F0 m 0 ls [])
  obtain ⟨hf, hps, hk1, hga, hlb⟩ := id htv
  have hn7 := hf.2.2.2.2.2.1
  have h24 := hf.2.2.2.2.1
  have hsb := hf.2.2.2.2.2.2.2 b hbn
  obtain ⟨hpl, hpe⟩ := KV_pl hn7 hps hk1 hbn
  have hpb := hps b hbn
  have hcl24 : sh b <<< ps b < 2 ^ 24 := Nat.lt_of_lt_of_le (cell_lt hf.1 hsb hpl) (Nat.pow_le_pow_right (by decide) h24)
  have hot24 : (tk wl sh (pkey ps nb) (exb none (some b)) nb) < 2 ^ 24 := tk_lt hf hk1 (fun _ h => exb_no h)
  have hoth := tkp_others hn7 hps hk1 hbn
  have hp24 := fr_lt hf.1 h24 hsb.2.2.1 hpl
  refine lv_aload_n hx hb dX3_spread_0 rfl (lv_at hl 1 rfl) ?_
  refine gf_X3_18 hC hK hP 3 rfl rfl dX3_spread_1 ?_
  refine lv_iload_n hx hb dX3_spread_4 rfl (lv_at hl 2 rfl) ?_
  refine callN_i (As := [.ref hs, .int (nI b)]) (rest := []) [4] hC hK hN hP hD rfl (by decide) hS (c_X7_at_N l D cI cJ cB hs 7 b sh (by omega) (by omega)) q443 md_X7_at rfl hl.1 rfl (Nat.le_of_ble_eq_true rfl) dX3_spread_5 ⟨Nat.le_of_ble_eq_true rfl, Nat.le_of_ble_eq_true rfl⟩ ⟨Nat.le_of_ble_eq_true rfl, Nat.le_of_ble_eq_true rfl⟩ (fun r_5 w H locs hpost hP hD hS => ?_)
  obtain ⟨rfl, rfl⟩ := hpost
  have hP : va_P D vwCl (rW cI cJ cB ro rfa rqa (fun zz => oI (rF zz)) (fun zz => nI (rQ zz)) h hs hw hh hp (nI se) (nI wd) (nI hd) (nI wl) (nI nb) (nI (topv wd)) (nI (rcv wd hd)) (nI (btv wd hd)) (nI (lcv wd hd)) (gI gl) (gI aq) st sl (gI lb) (fun zz => nI (sh zz)) (fun zz => nI (bw zz)) (fun zz => nI (bh zz)) (fun zz => nI (ps zz))) H := hP
  have hD : va_D A (rW cI cJ cB ro rfa rqa (fun zz => oI (rF zz)) (fun zz => nI (rQ zz)) h hs hw hh hp (nI se) (nI wd) (nI hd) (nI wl) (nI nb) (nI (topv wd)) (nI (rcv wd hd)) (nI (btv wd hd)) (nI (lcv wd hd)) (gI gl) (gI aq) st sl (gI lb) (fun zz => nI (sh zz)) (fun zz => nI (bw zz)) (fun zz => nI (bh zz)) (fun zz => nI (ps zz))) := hD
  refine lv_istore_n (lv' := [(3, .int (nI (sh b))), (0, .ref ro), (1, .ref h), (2, .int (nI b))]) hx hb dX3_spread_8 rfl hl (by decide) rfl (fun ls hl => ?_)
  refine lv_aload_n hx hb dX3_spread_9 rfl (lv_at hl 2 rfl) ?_
  refine callV_i (As := []) (rest := []) [3, 4, 5, 6, 7] hC hK hN hP hD rfl (by decide) hS 3 (ci := 0) rfl rfl rfl (c_X0_taken l D cI cJ cB h hs hw hh hp se wd hd nb wl st sl gl aq lb sh bw bh ps (by omega) hps) q444 md_X0_taken rfl hl.1 rfl (Nat.le_of_ble_eq_true rfl) dX3_spread_10 ⟨Nat.le_of_ble_eq_true rfl, Nat.le_of_ble_eq_true rfl⟩ ⟨Nat.le_of_ble_eq_true rfl, Nat.le_of_ble_eq_true rfl⟩ (fun r_10 w H locs hpost hP hD hS => ?_)
  obtain ⟨rfl, rfl⟩ := hpost
  have hP : va_P D vwCl (rW cI cJ cB ro rfa rqa (fun zz => oI (rF zz)) (fun zz => nI (rQ zz)) h hs hw hh hp (nI se) (nI wd) (nI hd) (nI wl) (nI nb) (nI (topv wd)) (nI (rcv wd hd)) (nI (btv wd hd)) (nI (lcv wd hd)) (gI gl) (gI aq) st sl (gI lb) (fun zz => nI (sh zz)) (fun zz => nI (bw zz)) (fun zz => nI (bh zz)) (fun zz => nI (ps zz))) H := hP
  have hD : va_D A (rW cI cJ cB ro rfa rqa (fun zz => oI (rF zz)) (fun zz => nI (rQ zz)) h hs hw hh hp (nI se) (nI wd) (nI hd) (nI wl) (nI nb) (nI (topv wd)) (nI (rcv wd hd)) (nI (btv wd hd)) (nI (lcv wd hd)) (gI gl) (gI aq) st sl (gI lb) (fun zz => nI (sh zz)) (fun zz => nI (bw zz)) (fun zz => nI (bh zz)) (fun zz => nI (ps zz))) := hD
  refine lv_aload_n hx hb dX3_spread_13 rfl (lv_at hl 2 rfl) ?_
  refine lv_iload_n hx hb dX3_spread_14 rfl (lv_at hl 3 rfl) ?_
  refine callV_i (As := [.int (nI b)]) (rest := [.int (nI (tkp wl sh ps nb))]) [3, 4, 5, 6, 7] hC hK hN hP hD rfl (by decide) hS 3 (ci := 0) rfl rfl rfl (c_X0_cellsOf l D cI cJ cB h hs hw hh hp se wd hd nb wl st sl gl aq lb sh bw bh ps b (by omega) hpb) q445 md_X0_cellsOf rfl hl.1 rfl (Nat.le_of_ble_eq_true rfl) dX3_spread_15 ⟨Nat.le_of_ble_eq_true rfl, Nat.le_of_ble_eq_true rfl⟩ ⟨Nat.le_of_ble_eq_true rfl, Nat.le_of_ble_eq_true rfl⟩ (fun r_15 w H locs hpost hP hD hS => ?_)
  obtain ⟨rfl, rfl⟩ := hpost
  have hP : va_P D vwCl (rW cI cJ cB ro rfa rqa (fun zz => oI (rF zz)) (fun zz => nI (rQ zz)) h hs hw hh hp (nI se) (nI wd) (nI hd) (nI wl) (nI nb) (nI (topv wd)) (nI (rcv wd hd)) (nI (btv wd hd)) (nI (lcv wd hd)) (gI gl) (gI aq) st sl (gI lb) (fun zz => nI (sh zz)) (fun zz => nI (bw zz)) (fun zz => nI (bh zz)) (fun zz => nI (ps zz))) H := hP
  have hD : va_D A (rW cI cJ cB ro rfa rqa (fun zz => oI (rF zz)) (fun zz => nI (rQ zz)) h hs hw hh hp (nI se) (nI wd) (nI hd) (nI wl) (nI nb) (nI (topv wd)) (nI (rcv wd hd)) (nI (btv wd hd)) (nI (lcv wd hd)) (gI gl) (gI aq) st sl (gI lb) (fun zz => nI (sh zz)) (fun zz => nI (bw zz)) (fun zz => nI (bh zz)) (fun zz => nI (ps zz))) := hD
  refine lv_iconst (v := (-1)) hx hb dX3_spread_18 (by decide) ?_
  refine lv_ixor hx hb dX3_spread_19 ?_
  refine n_iandn hx hb dX3_spread_20 ?_
  refine topi (y := nI (tk wl sh (pkey ps nb) (exb none (some b)) nb)) (by rw [hoth]) ?_
  refine lv_istore (lv' := [(4, .int (nI (tk wl sh (pkey ps nb) (exb none (some b)) nb))), (3, .int (nI (sh b))), (0, .ref ro), (1, .ref h), (2, .int (nI b))]) hx hb dX3_spread_21 hl (by decide) rfl (fun ls hl => ?_)
  refine lv_aload_n hx hb dX3_spread_23 rfl (lv_at hl 3 rfl) ?_
  refine gf_X3_35 hC hK hP 3 rfl rfl dX3_spread_24 ?_
  refine lv_iload_n hx hb dX3_spread_27 rfl (lv_at hl 4 rfl) ?_
  refine callN_i (As := [.ref hp, .int (nI b)]) (rest := []) [7] hC hK hN hP hD rfl (by decide) hS (c_X7_at_N l D cI cJ cB hp 7 b ps (by omega) (by omega)) q443 md_X7_at rfl hl.1 rfl (Nat.le_of_ble_eq_true rfl) dX3_spread_28 ⟨Nat.le_of_ble_eq_true rfl, Nat.le_of_ble_eq_true rfl⟩ ⟨Nat.le_of_ble_eq_true rfl, Nat.le_of_ble_eq_true rfl⟩ (fun r_28 w H locs hpost hP hD hS => ?_)
  obtain ⟨rfl, rfl⟩ := hpost
  have hP : va_P D vwCl (rW cI cJ cB ro rfa rqa (fun zz => oI (rF zz)) (fun zz => nI (rQ zz)) h hs hw hh hp (nI se) (nI wd) (nI hd) (nI wl) (nI nb) (nI (topv wd)) (nI (rcv wd hd)) (nI (btv wd hd)) (nI (lcv wd hd)) (gI gl) (gI aq) st sl (gI lb) (fun zz => nI (sh zz)) (fun zz => nI (bw zz)) (fun zz => nI (bh zz)) (fun zz => nI (ps zz))) H := hP
  have hD : va_D A (rW cI cJ cB ro rfa rqa (fun zz => oI (rF zz)) (fun zz => nI (rQ zz)) h hs hw hh hp (nI se) (nI wd) (nI hd) (nI wl) (nI nb) (nI (topv wd)) (nI (rcv wd hd)) (nI (btv wd hd)) (nI (lcv wd hd)) (gI gl) (gI aq) st sl (gI lb) (fun zz => nI (sh zz)) (fun zz => nI (bw zz)) (fun zz => nI (bh zz)) (fun zz => nI (ps zz))) := hD
  refine lv_istore (lv' := [(5, .int (nI (ps b))), (4, .int (nI (tk wl sh (pkey ps nb) (exb none (some b)) nb))), (3, .int (nI (sh b))), (0, .ref ro), (1, .ref h), (2, .int (nI b))]) hx hb dX3_spread_31 hl (by decide) rfl (fun ls hl => ?_)
  refine lv_aload_n hx hb dX3_spread_33 rfl (lv_at hl 3 rfl) ?_
  refine gf_X3_9 hC hK hP 0 rfl rfl dX3_spread_34 ?_
  refine lv_iconst (v := (-1)) hx hb dX3_spread_37 (by decide) ?_
  refine callS_v (As := [.ref rfa, .int (-1)]) (rest := []) [1] hC hK hN hP hD rfl (by decide) hS (c_J7_fill_O l D cI cJ cB rfa 24 rF (by omega)) q446 md_J7_fill_53178 rfl hl.1 rfl (Nat.le_of_ble_eq_true rfl) dX3_spread_38 ⟨Nat.le_of_ble_eq_true rfl, Nat.le_of_ble_eq_true rfl⟩ ⟨Nat.le_of_ble_eq_true rfl, Nat.le_of_ble_eq_true rfl⟩ (fun w H locs hpost hP hD hS => ?_)
  obtain rfl := hpost
  have hP : va_P D vwCl (rW cI cJ cB ro rfa rqa (fun zz => oI (noneF zz)) (fun zz => nI (rQ zz)) h hs hw hh hp (nI se) (nI wd) (nI hd) (nI wl) (nI nb) (nI (topv wd)) (nI (rcv wd hd)) (nI (btv wd hd)) (nI (lcv wd hd)) (gI gl) (gI aq) st sl (gI lb) (fun zz => nI (sh zz)) (fun zz => nI (bw zz)) (fun zz => nI (bh zz)) (fun zz => nI (ps zz))) H := hP
  have hD : va_D A (rW cI cJ cB ro rfa rqa (fun zz => oI (noneF zz)) (fun zz => nI (rQ zz)) h hs hw hh hp (nI se) (nI wd) (nI hd) (nI wl) (nI nb) (nI (topv wd)) (nI (rcv wd hd)) (nI (btv wd hd)) (nI (lcv wd hd)) (gI gl) (gI aq) st sl (gI lb) (fun zz => nI (sh zz)) (fun zz => nI (bw zz)) (fun zz => nI (bh zz)) (fun zz => nI (ps zz))) := hD
  refine lv_aload_n hx hb dX3_spread_41 rfl (lv_at hl 3 rfl) ?_
  refine gf_X3_9 hC hK hP 0 rfl rfl dX3_spread_42 ?_
  refine lv_iload hx hb dX3_spread_45 (lv_at hl 0 rfl) ?_
  refine lv_iconst (v := nI 0) hx hb dX3_spread_47 (by decide) ?_
  refine callN_v (As := [.ref rfa, .int (nI (ps b)), .int (nI 0)]) (rest := []) [1] hC hK hN hP hD rfl (by decide) hS (c_X7_put_O l D cI cJ cB rfa 24 (ps b) noneF (some 0) (by omega) (by omega)) q449 md_X7_put rfl hl.1 rfl (Nat.le_of_ble_eq_true rfl) dX3_spread_48 ⟨Nat.le_of_ble_eq_true rfl, Nat.le_of_ble_eq_true rfl⟩ ⟨Nat.le_of_ble_eq_true rfl, Nat.le_of_ble_eq_true rfl⟩ (fun w H locs hpost hP hD hS => ?_)
  obtain rfl := hpost
  have hP : va_P D vwCl (rW cI cJ cB ro rfa rqa (fun zz => oI ((va_up noneF (ps b) (some 0)) zz)) (fun zz => nI (rQ zz)) h hs hw hh hp (nI se) (nI wd) (nI hd) (nI wl) (nI nb) (nI (topv wd)) (nI (rcv wd hd)) (nI (btv wd hd)) (nI (lcv wd hd)) (gI gl) (gI aq) st sl (gI lb) (fun zz => nI (sh zz)) (fun zz => nI (bw zz)) (fun zz => nI (bh zz)) (fun zz => nI (ps zz))) H := hP
  have hD : va_D A (rW cI cJ cB ro rfa rqa (fun zz => oI ((va_up noneF (ps b) (some 0)) zz)) (fun zz => nI (rQ zz)) h hs hw hh hp (nI se) (nI wd) (nI hd) (nI wl) (nI nb) (nI (topv wd)) (nI (rcv wd hd)) (nI (btv wd hd)) (nI (lcv wd hd)) (gI gl) (gI aq) st sl (gI lb) (fun zz => nI (sh zz)) (fun zz => nI (bw zz)) (fun zz => nI (bh zz)) (fun zz => nI (ps zz))) := hD
  refine lv_aload_n hx hb dX3_spread_51 rfl (lv_at hl 3 rfl) ?_
  refine gf_X3_15 hC hK hP 0 rfl rfl dX3_spread_52 ?_
  refine lv_iconst (v := nI 0) hx hb dX3_spread_55 (by decide) ?_
  refine lv_iload hx hb dX3_spread_56 (lv_at hl 0 rfl) ?_
  refine callN_v (As := [.ref rqa, .int (nI 0), .int (nI (ps b))]) (rest := []) [2] hC hK hN hP hD rfl (by decide) hS (c_X7_put_N l D cI cJ cB rqa 24 0 rQ (ps b) (by omega) (by omega)) q449 md_X7_put rfl hl.1 rfl (Nat.le_of_ble_eq_true rfl) dX3_spread_58 ⟨Nat.le_of_ble_eq_true rfl, Nat.le_of_ble_eq_true rfl⟩ ⟨Nat.le_of_ble_eq_true rfl, Nat.le_of_ble_eq_true rfl⟩ (fun w H locs hpost hP hD hS => ?_)
  obtain rfl := hpost
  have hP : va_P D vwCl (rW cI cJ cB ro rfa rqa (fun zz => oI ((va_up noneF (ps b) (some 0)) zz)) (fun zz => nI ((va_up rQ 0 (ps b)) zz)) h hs hw hh hp (nI se) (nI wd) (nI hd) (nI wl) (nI nb) (nI (topv wd)) (nI (rcv wd hd)) (nI (btv wd hd)) (nI (lcv wd hd)) (gI gl) (gI aq) st sl (gI lb) (fun zz => nI (sh zz)) (fun zz => nI (bw zz)) (fun zz => nI (bh zz)) (fun zz => nI (ps zz))) H := hP
  have hD : va_D A (rW cI cJ cB ro rfa rqa (fun zz => oI ((va_up noneF (ps b) (some 0)) zz)) (fun zz => nI ((va_up rQ 0 (ps b)) zz)) h hs hw hh hp (nI se) (nI wd) (nI hd) (nI wl) (nI nb) (nI (topv wd)) (nI (rcv wd hd)) (nI (btv wd hd)) (nI (lcv wd hd)) (gI gl) (gI aq) st sl (gI lb) (fun zz => nI (sh zz)) (fun zz => nI (bw zz)) (fun zz => nI (bh zz)) (fun zz => nI (ps zz))) := hD
  refine lv_iconst (v := nI 1) hx hb dX3_spread_61 (by decide) ?_
  refine lv_istore (lv' := [(6, .int (nI 1)), (5, .int (nI (ps b))), (4, .int (nI (tk wl sh (pkey ps nb) (exb none (some b)) nb))), (3, .int (nI (sh b))), (0, .ref ro), (1, .ref h), (2, .int (nI b))]) hx hb dX3_spread_62 hl (by decide) rfl (fun ls hl => ?_)
  refine lv_iconst (v := nI 0) hx hb dX3_spread_64 (by decide) ?_
  refine lv_istore (lv' := [(7, .int (nI 0)), (6, .int (nI 1)), (5, .int (nI (ps b))), (4, .int (nI (tk wl sh (pkey ps nb) (exb none (some b)) nb))), (3, .int (nI (sh b))), (0, .ref ro), (1, .ref h), (2, .int (nI b))]) hx hb dX3_spread_65 hl (by decide) rfl (fun ls hl => ?_)
  have L67 : ∀ (n : Nat) (u : Nat) (mm : Nat) (F : Nat → Option Nat) (Qq : Nat → Nat), (BI (fstep wd hd (bw b) (bh b) (sh b) (tk wl sh (pkey ps nb) (exb none (some b)) nb)) (fun x => x = ps b) F Qq mm u) → (∀ x d, F x = some d → PlV wd hd (bw b) (bh b) x ∧ x < 24) → (mm ≤ 24) → (cntF F 24 + 1 = mm) → (24 - u) < n → ∀ (H : Heap) (locs : List Loc), va_P D vwCl (rW cI cJ cB ro rfa rqa (fun zz => oI (F zz)) (fun zz => nI (Qq zz)) h hs hw hh hp (nI se) (nI wd) (nI hd) (nI wl) (nI nb) (nI (topv wd)) (nI (rcv wd hd)) (nI (btv wd hd)) (nI (lcv wd hd)) (gI gl) (gI aq) st sl (gI lb) (fun zz => nI (sh zz)) (fun zz => nI (bw zz)) (fun zz => nI (bh zz)) (fun zz => nI (ps zz))) H → va_D A (rW cI cJ cB ro rfa rqa (fun zz => oI (F zz)) (fun zz => nI (Qq zz)) h hs hw hh hp (nI se) (nI wd) (nI hd) (nI wl) (nI nb) (nI (topv wd)) (nI (rcv wd hd)) (nI (btv wd hd)) (nI (lcv wd hd)) (gI gl) (gI aq) st sl (gI lb) (fun zz => nI (sh zz)) (fun zz => nI (bw zz)) (fun zz => nI (bh zz)) (fun zz => nI (ps zz))) → va_S A s.heap H locs → ∀ ls : Array Slot, lv_has ls 12 [(6, .int (nI mm)), (7, .int (nI u)), (5, .int (nI (ps b))), (4, .int (nI (tk wl sh (pkey ps nb) (exb none (some b)) nb))), (3, .int (nI (sh b))), (0, .ref ro), (1, .ref h), (2, .int (nI b))] → W p l e (rmN 3) s m args below meth c H locs 0 0 QQ (F0 m 67 ls []) := by
    intro n; induction n with
    | zero => intro u mm F Qq iB iF im ic hm; exact absurd hm (Nat.not_lt_zero _)
    | succ n ih67 =>
      intro u mm F Qq iB iF im ic hm67 H locs hP hD hS ls hl
      refine lv_iload hx hb dX3_spread_67 (lv_at hl 1 rfl) ?_
      refine lv_iload hx hb dX3_spread_69 (lv_at hl 0 rfl) ?_
      refine n_icmp_ge (a := u) (b := mm) (tgt := 192) hx hb dX3_spread_71 (by decide) (by have := iB.1; omega) (by omega) (fun c71 => ?_) (fun c71 => ?_)
      · have _ : True := trivial
        refine lv_iload hx hb dX3_spread_192 (lv_at hl 0 rfl) ?_
        refine lv_iconst (v := nI 1) hx hb dX3_spread_194 (by decide) ?_
        refine n_isub hx hb dX3_spread_195 (by omega) ?_
        refine topi (y := nI (cntF F 24)) (by rw [show mm - 1 = cntF F 24 by omega]) ?_
        rw [hQ]
        exact W.iret (v := nI (cntF F 24)) hx hb hr (fun t9 ht hW => ⟨⟨_, _, rfl, ⟨F, Qq, rfl, rfl, (by rw [hpe]; rw [show u = mm by have := iB.1; omega] at iB; exact BI_done iB), (fun x d h => ⟨(iF x d h).1, PlV_lt hf.1 hsb.2.2.1 (iF x d h).1, BI_bound iB (fun x d h => (iF x d h).2) h⟩)⟩, by rw [ht]; exact hP, rfl⟩, hS.F ht⟩) hS.2.2 dX3_spread_196
      · have _ : True := trivial
        refine lv_iload hx hb dX3_spread_74 (lv_at hl 1 rfl) ?_
        refine lv_bipush (v := nI 24) hx hb dX3_spread_76 (by decide) ?_
        refine n_icmp_ge (a := u) (b := 24) (tgt := 192) hx hb dX3_spread_78 (by decide) (by omega) (by omega) (fun c78 => ?_) (fun c78 => ?_)
        · have _ : True := trivial
          exact absurd c78 (by omega)
        · have _ : True := trivial
          obtain ⟨lv, hlv⟩ := iB.2.1 u (by omega)
          obtain ⟨qu, hqu⟩ : ∃ x, x = Qq u := ⟨_, rfl⟩
          have hqp : PlV wd hd (bw b) (bh b) qu := by rw [hqu]; exact (iF _ _ hlv).1
          have hq32 : qu < 24 := by rw [hqu]; exact (iF _ _ hlv).2
          refine lv_aload_n hx hb dX3_spread_81 rfl (lv_at hl 5 rfl) ?_
          refine gf_X3_15 hC hK hP 0 rfl rfl dX3_spread_82 ?_
          refine lv_iload hx hb dX3_spread_85 (lv_at hl 1 rfl) ?_
          refine callN_i (As := [.ref rqa, .int (nI u)]) (rest := []) [2] hC hK hN hP hD rfl (by decide) hS (c_X7_at_N l D cI cJ cB rqa 24 u Qq (by omega) (by omega)) q443 md_X7_at rfl hl.1 rfl (Nat.le_of_ble_eq_true rfl) dX3_spread_87 ⟨Nat.le_of_ble_eq_true rfl, Nat.le_of_ble_eq_true rfl⟩ ⟨Nat.le_of_ble_eq_true rfl, Nat.le_of_ble_eq_true rfl⟩ (fun r_87 w H locs hpost hP hD hS => ?_)
          obtain ⟨rfl, rfl⟩ := hpost
          have hP : va_P D vwCl (rW cI cJ cB ro rfa rqa (fun zz => oI (F zz)) (fun zz => nI (Qq zz)) h hs hw hh hp (nI se) (nI wd) (nI hd) (nI wl) (nI nb) (nI (topv wd)) (nI (rcv wd hd)) (nI (btv wd hd)) (nI (lcv wd hd)) (gI gl) (gI aq) st sl (gI lb) (fun zz => nI (sh zz)) (fun zz => nI (bw zz)) (fun zz => nI (bh zz)) (fun zz => nI (ps zz))) H := hP
          have hD : va_D A (rW cI cJ cB ro rfa rqa (fun zz => oI (F zz)) (fun zz => nI (Qq zz)) h hs hw hh hp (nI se) (nI wd) (nI hd) (nI wl) (nI nb) (nI (topv wd)) (nI (rcv wd hd)) (nI (btv wd hd)) (nI (lcv wd hd)) (gI gl) (gI aq) st sl (gI lb) (fun zz => nI (sh zz)) (fun zz => nI (bw zz)) (fun zz => nI (bh zz)) (fun zz => nI (ps zz))) := hD
          refine topi (y := nI qu) (by rw [hqu]) ?_
          refine lv_istore (lv' := [(8, .int (nI qu)), (6, .int (nI mm)), (7, .int (nI u)), (5, .int (nI (ps b))), (4, .int (nI (tk wl sh (pkey ps nb) (exb none (some b)) nb))), (3, .int (nI (sh b))), (0, .ref ro), (1, .ref h), (2, .int (nI b))]) hx hb dX3_spread_90 hl (by decide) rfl (fun ls hl => ?_)
          refine lv_aload_n hx hb dX3_spread_92 rfl (lv_at hl 7 rfl) ?_
          refine lv_iload_n hx hb dX3_spread_93 rfl (lv_at hl 5 rfl) ?_
          refine lv_iload hx hb dX3_spread_94 (lv_at hl 0 rfl) ?_
          refine n_ishl hx hb dX3_spread_96 (by have := (iF _ _ hlv).2; omega) ?_
          refine lv_iload hx hb dX3_spread_97 (lv_at hl 4 rfl) ?_
          refine callV_i (As := [.int (nI ((sh b) <<< qu)), .int (nI (tk wl sh (pkey ps nb) (exb none (some b)) nb))]) (rest := []) [3, 4, 5, 6, 7] hC hK hN hP hD rfl (by decide) hS 3 (ci := 0) rfl rfl rfl (c_X0_directions l D cI cJ cB h hs hw hh hp se wd hd nb wl st sl gl aq lb sh bw bh ps ((sh b) <<< qu) (tk wl sh (pkey ps nb) (exb none (some b)) nb) (sh b) (bw b) (bh b) qu rfl hf.1 hf.2.1 hf.2.2.1 hsb hqp (by have h1 := cell_lt hf.1 hsb hqp; have h2 : 2 ^ (wd * hd) ≤ 2 ^ 24 := Nat.pow_le_pow_right (by decide) h24; omega) (by omega)) q450 md_X0_directions rfl hl.1 rfl (Nat.le_of_ble_eq_true rfl) dX3_spread_99 ⟨Nat.le_of_ble_eq_true rfl, Nat.le_of_ble_eq_true rfl⟩ ⟨Nat.le_of_ble_eq_true rfl, Nat.le_of_ble_eq_true rfl⟩ (fun r_99 w H locs hpost hP hD hS => ?_)
          obtain ⟨rfl, rfl⟩ := hpost
          have hP : va_P D vwCl (rW cI cJ cB ro rfa rqa (fun zz => oI (F zz)) (fun zz => nI (Qq zz)) h hs hw hh hp (nI se) (nI wd) (nI hd) (nI wl) (nI nb) (nI (topv wd)) (nI (rcv wd hd)) (nI (btv wd hd)) (nI (lcv wd hd)) (gI gl) (gI aq) st sl (gI lb) (fun zz => nI (sh zz)) (fun zz => nI (bw zz)) (fun zz => nI (bh zz)) (fun zz => nI (ps zz))) H := hP
          have hD : va_D A (rW cI cJ cB ro rfa rqa (fun zz => oI (F zz)) (fun zz => nI (Qq zz)) h hs hw hh hp (nI se) (nI wd) (nI hd) (nI wl) (nI nb) (nI (topv wd)) (nI (rcv wd hd)) (nI (btv wd hd)) (nI (lcv wd hd)) (gI gl) (gI aq) st sl (gI lb) (fun zz => nI (sh zz)) (fun zz => nI (bw zz)) (fun zz => nI (bh zz)) (fun zz => nI (ps zz))) := hD
          refine lv_istore (lv' := [(9, .int (nI (dset (fun d => mvt wd hd (bw b) (bh b) (sh b) (tk wl sh (pkey ps nb) (exb none (some b)) nb) qu d) 4))), (8, .int (nI qu)), (6, .int (nI mm)), (7, .int (nI u)), (5, .int (nI (ps b))), (4, .int (nI (tk wl sh (pkey ps nb) (exb none (some b)) nb))), (3, .int (nI (sh b))), (0, .ref ro), (1, .ref h), (2, .int (nI b))]) hx hb dX3_spread_102 hl (by decide) rfl (fun ls hl => ?_)
          refine lv_iconst (v := nI 0) hx hb dX3_spread_104 (by decide) ?_
          refine lv_istore (lv' := [(10, .int (nI 0)), (9, .int (nI (dset (fun d => mvt wd hd (bw b) (bh b) (sh b) (tk wl sh (pkey ps nb) (exb none (some b)) nb) qu d) 4))), (8, .int (nI qu)), (6, .int (nI mm)), (7, .int (nI u)), (5, .int (nI (ps b))), (4, .int (nI (tk wl sh (pkey ps nb) (exb none (some b)) nb))), (3, .int (nI (sh b))), (0, .ref ro), (1, .ref h), (2, .int (nI b))]) hx hb dX3_spread_105 hl (by decide) rfl (fun ls hl => ?_)
          have L107 : ∀ (n : Nat) (dd : Nat) (mm : Nat) (F : Nat → Option Nat) (Qq : Nat → Nat), (dd ≤ 4) → (BI (fstep wd hd (bw b) (bh b) (sh b) (tk wl sh (pkey ps nb) (exb none (some b)) nb)) (fun x => x = ps b) F Qq mm u) → (u < mm) → (∀ x d, F x = some d → PlV wd hd (bw b) (bh b) x ∧ x < 24) → (mm ≤ 24) → (cntF F 24 + 1 = mm) → (F (Qq u) = some lv) → (Qq u = qu) → (∀ i, i < dd → ∀ x, mvt wd hd (bw b) (bh b) (sh b) (tk wl sh (pkey ps nb) (exb none (some b)) nb) qu i = some x → ∃ e, F x = some e ∧ e ≤ lv + 1) → (4 - dd) < n → ∀ (H : Heap) (locs : List Loc), va_P D vwCl (rW cI cJ cB ro rfa rqa (fun zz => oI (F zz)) (fun zz => nI (Qq zz)) h hs hw hh hp (nI se) (nI wd) (nI hd) (nI wl) (nI nb) (nI (topv wd)) (nI (rcv wd hd)) (nI (btv wd hd)) (nI (lcv wd hd)) (gI gl) (gI aq) st sl (gI lb) (fun zz => nI (sh zz)) (fun zz => nI (bw zz)) (fun zz => nI (bh zz)) (fun zz => nI (ps zz))) H → va_D A (rW cI cJ cB ro rfa rqa (fun zz => oI (F zz)) (fun zz => nI (Qq zz)) h hs hw hh hp (nI se) (nI wd) (nI hd) (nI wl) (nI nb) (nI (topv wd)) (nI (rcv wd hd)) (nI (btv wd hd)) (nI (lcv wd hd)) (gI gl) (gI aq) st sl (gI lb) (fun zz => nI (sh zz)) (fun zz => nI (bw zz)) (fun zz => nI (bh zz)) (fun zz => nI (ps zz))) → va_S A s.heap H locs → ∀ ls : Array Slot, lv_has ls 12 [(6, .int (nI mm)), (10, .int (nI dd)), (9, .int (nI (dset (fun d => mvt wd hd (bw b) (bh b) (sh b) (tk wl sh (pkey ps nb) (exb none (some b)) nb) qu d) 4))), (8, .int (nI qu)), (7, .int (nI u)), (5, .int (nI (ps b))), (4, .int (nI (tk wl sh (pkey ps nb) (exb none (some b)) nb))), (3, .int (nI (sh b))), (0, .ref ro), (1, .ref h), (2, .int (nI b))] → W p l e (rmN 3) s m args below meth c H locs 0 0 QQ (F0 m 107 ls []) := by
            intro n; induction n with
            | zero => intro dd mm F Qq id4 iB iu iF im ic il iq idn hm; exact absurd hm (Nat.not_lt_zero _)
            | succ n ih107 =>
              intro dd mm F Qq id4 iB iu iF im ic il iq idn hm107 H locs hP hD hS ls hl
              refine lv_iload hx hb dX3_spread_107 (lv_at hl 1 rfl) ?_
              refine lv_iconst (v := nI 4) hx hb dX3_spread_109 (by decide) ?_
              refine n_icmp_ge (a := dd) (b := 4) (tgt := 186) hx hb dX3_spread_110 (by decide) (by omega) (by omega) (fun c110 => ?_) (fun c110 => ?_)
              · have _ : True := trivial
                have e110 : dd = 4 := by omega
                refine lv_iinc (v := nI (u + 1)) (lv' := [(7, .int (nI (u + 1))), (6, .int (nI mm)), (10, .int (nI dd)), (9, .int (nI (dset (fun d => mvt wd hd (bw b) (bh b) (sh b) (tk wl sh (pkey ps nb) (exb none (some b)) nb) qu d) 4))), (8, .int (nI qu)), (5, .int (nI (ps b))), (4, .int (nI (tk wl sh (pkey ps nb) (exb none (some b)) nb))), (3, .int (nI (sh b))), (0, .ref ro), (1, .ref h), (2, .int (nI b))]) hx hb dX3_spread_186 hl (k := 4) rfl (nI_1 _) (by decide) rfl (fun ls hl => ?_)
                refine lv_goto (tgt := 67) hx hb dX3_spread_189 (by decide) ?_
                exact ih67 (u + 1) mm F Qq (BI_next iB iu (fun x d h1 h2 => by rw [il] at h1; cases h1; obtain ⟨i, hi, h3⟩ := h2; rw [iq] at h3; exact idn i (by omega) x h3)) iF (by omega) ic (by omega) _ _ hP hD hS _ (lv_sub hl [1, 0, 5, 6, 7, 8, 9, 10] rfl)
              · have _ : True := trivial
                refine lv_iload hx hb dX3_spread_113 (lv_at hl 3 rfl) ?_
                refine lv_aload_n hx hb dX3_spread_115 rfl (lv_at hl 9 rfl) ?_
                refine lv_iload hx hb dX3_spread_116 (lv_at hl 1 rfl) ?_
                refine callV_i (As := [.int (nI dd)]) (rest := [.int (nI qu)]) [3, 4, 5, 6, 7] hC hK hN hP hD rfl (by decide) hS 3 (ci := 0) rfl rfl rfl (c_X0_offset l D cI cJ cB h hs hw hh hp se wd hd nb wl st sl gl aq lb sh bw bh ps dd (by omega)) q451 md_X0_offset rfl hl.1 rfl (Nat.le_of_ble_eq_true rfl) dX3_spread_118 ⟨Nat.le_of_ble_eq_true rfl, Nat.le_of_ble_eq_true rfl⟩ ⟨Nat.le_of_ble_eq_true rfl, Nat.le_of_ble_eq_true rfl⟩ (fun r_118 w H locs hpost hP hD hS => ?_)
                obtain ⟨rfl, rfl⟩ := hpost
                have hP : va_P D vwCl (rW cI cJ cB ro rfa rqa (fun zz => oI (F zz)) (fun zz => nI (Qq zz)) h hs hw hh hp (nI se) (nI wd) (nI hd) (nI wl) (nI nb) (nI (topv wd)) (nI (rcv wd hd)) (nI (btv wd hd)) (nI (lcv wd hd)) (gI gl) (gI aq) st sl (gI lb) (fun zz => nI (sh zz)) (fun zz => nI (bw zz)) (fun zz => nI (bh zz)) (fun zz => nI (ps zz))) H := hP
                have hD : va_D A (rW cI cJ cB ro rfa rqa (fun zz => oI (F zz)) (fun zz => nI (Qq zz)) h hs hw hh hp (nI se) (nI wd) (nI hd) (nI wl) (nI nb) (nI (topv wd)) (nI (rcv wd hd)) (nI (btv wd hd)) (nI (lcv wd hd)) (gI gl) (gI aq) st sl (gI lb) (fun zz => nI (sh zz)) (fun zz => nI (bw zz)) (fun zz => nI (bh zz)) (fun zz => nI (ps zz))) := hD
                refine lv_iadd hx hb dX3_spread_121 ?_
                refine lv_istore (lv' := [(11, .int ((nI qu) + (offs wd dd))), (6, .int (nI mm)), (10, .int (nI dd)), (9, .int (nI (dset (fun d => mvt wd hd (bw b) (bh b) (sh b) (tk wl sh (pkey ps nb) (exb none (some b)) nb) qu d) 4))), (8, .int (nI qu)), (7, .int (nI u)), (5, .int (nI (ps b))), (4, .int (nI (tk wl sh (pkey ps nb) (exb none (some b)) nb))), (3, .int (nI (sh b))), (0, .ref ro), (1, .ref h), (2, .int (nI b))]) hx hb dX3_spread_122 hl (by decide) rfl (fun ls hl => ?_)
                refine lv_iload hx hb dX3_spread_124 (lv_at hl 3 rfl) ?_
                refine lv_iload hx hb dX3_spread_126 (lv_at hl 2 rfl) ?_
                refine n_ishr hx hb dX3_spread_128 (by have := dset_lt4 (fun d => mvt wd hd (bw b) (bh b) (sh b) (tk wl sh (pkey ps nb) (exb none (some b)) nb) qu d); omega) (by omega) ?_
                refine lv_iconst (v := nI 1) hx hb dX3_spread_129 (by decide) ?_
                refine n_iand hx hb dX3_spread_130  ?_
                refine n_if_eq (tgt := 180) hx hb dX3_spread_131 (by decide) (by have := bit_and1 (x := dset (fun d => mvt wd hd (bw b) (bh b) (sh b) (tk wl sh (pkey ps nb) (exb none (some b)) nb) qu d) 4) (i := dd); omega) (fun c131 => ?_) (fun c131 => ?_)
                · have _ : True := trivial
                  have hm9 := dset_no (m := (fun d => mvt wd hd (bw b) (bh b) (sh b) (tk wl sh (pkey ps nb) (exb none (some b)) nb) qu d)) (by omega) c131
                  refine lv_iinc (v := nI (dd + 1)) (lv' := [(10, .int (nI (dd + 1))), (11, .int ((nI qu) + (offs wd dd))), (6, .int (nI mm)), (9, .int (nI (dset (fun d => mvt wd hd (bw b) (bh b) (sh b) (tk wl sh (pkey ps nb) (exb none (some b)) nb) qu d) 4))), (8, .int (nI qu)), (7, .int (nI u)), (5, .int (nI (ps b))), (4, .int (nI (tk wl sh (pkey ps nb) (exb none (some b)) nb))), (3, .int (nI (sh b))), (0, .ref ro), (1, .ref h), (2, .int (nI b))]) hx hb dX3_spread_180 hl (k := 2) rfl (nI_1 _) (by decide) rfl (fun ls hl => ?_)
                  refine lv_goto (tgt := 107) hx hb dX3_spread_183 (by decide) ?_
                  exact ih107 (dd + 1) mm F Qq (by omega) iB iu iF (by omega) ic il iq (dn_a idn hm9) (by omega) _ _ hP hD hS _ (lv_sub hl [2, 0, 3, 4, 5, 6, 7, 8, 9, 10, 11] rfl)
                · have _ : True := trivial
                  obtain ⟨q9, hq9⟩ := dset_yes (m := (fun d => mvt wd hd (bw b) (bh b) (sh b) (tk wl sh (pkey ps nb) (exb none (some b)) nb) qu d)) c131
                  have hst9 := (mvt_inv hq9).1
                  have hpq := stp_pl hf.1 hsb.1 hqp hst9
                  have hq24 := fr_lt hf.1 h24 hsb.2.2.1 hpq
                  rw [offs_add hf.1 hst9] at hl
                  refine lv_aload_n hx hb dX3_spread_134 rfl (lv_at hl 9 rfl) ?_
                  refine gf_X3_9 hC hK hP 0 rfl rfl dX3_spread_135 ?_
                  refine lv_iload hx hb dX3_spread_138 (lv_at hl 0 rfl) ?_
                  refine callN_i (As := [.ref rfa, .int (nI q9)]) (rest := []) [1] hC hK hN hP hD rfl (by decide) hS (c_X7_at_O l D cI cJ cB rfa 24 q9 F (by omega) (by omega)) q443 md_X7_at rfl hl.1 rfl (Nat.le_of_ble_eq_true rfl) dX3_spread_140 ⟨Nat.le_of_ble_eq_true rfl, Nat.le_of_ble_eq_true rfl⟩ ⟨Nat.le_of_ble_eq_true rfl, Nat.le_of_ble_eq_true rfl⟩ (fun r_140 w H locs hpost hP hD hS => ?_)
                  obtain ⟨rfl, rfl⟩ := hpost
                  have hP : va_P D vwCl (rW cI cJ cB ro rfa rqa (fun zz => oI (F zz)) (fun zz => nI (Qq zz)) h hs hw hh hp (nI se) (nI wd) (nI hd) (nI wl) (nI nb) (nI (topv wd)) (nI (rcv wd hd)) (nI (btv wd hd)) (nI (lcv wd hd)) (gI gl) (gI aq) st sl (gI lb) (fun zz => nI (sh zz)) (fun zz => nI (bw zz)) (fun zz => nI (bh zz)) (fun zz => nI (ps zz))) H := hP
                  have hD : va_D A (rW cI cJ cB ro rfa rqa (fun zz => oI (F zz)) (fun zz => nI (Qq zz)) h hs hw hh hp (nI se) (nI wd) (nI hd) (nI wl) (nI nb) (nI (topv wd)) (nI (rcv wd hd)) (nI (btv wd hd)) (nI (lcv wd hd)) (gI gl) (gI aq) st sl (gI lb) (fun zz => nI (sh zz)) (fun zz => nI (bw zz)) (fun zz => nI (bh zz)) (fun zz => nI (ps zz))) := hD
                  refine o_if_ge (tgt := 180) hx hb dX3_spread_143 (by decide) (fun d h => by have := BI_bound iB (fun x d h => (iF x d h).2) h; omega) (fun d143 c143 => ?_) (fun c143 => ?_)
                  · have _ : True := trivial
                    refine lv_iinc (v := nI (dd + 1)) (lv' := [(10, .int (nI (dd + 1))), (11, .int (nI q9)), (6, .int (nI mm)), (9, .int (nI (dset (fun d => mvt wd hd (bw b) (bh b) (sh b) (tk wl sh (pkey ps nb) (exb none (some b)) nb) qu d) 4))), (8, .int (nI qu)), (7, .int (nI u)), (5, .int (nI (ps b))), (4, .int (nI (tk wl sh (pkey ps nb) (exb none (some b)) nb))), (3, .int (nI (sh b))), (0, .ref ro), (1, .ref h), (2, .int (nI b))]) hx hb dX3_spread_180 hl (k := 2) rfl (nI_1 _) (by decide) rfl (fun ls hl => ?_)
                    refine lv_goto (tgt := 107) hx hb dX3_spread_183 (by decide) ?_
                    exact ih107 (dd + 1) mm F Qq (by omega) iB iu iF (by omega) ic il iq (dn_b idn (stp_is hst9) c143 (BI_old iB iu il c143)) (by omega) _ _ hP hD hS _ (lv_sub hl [2, 0, 3, 4, 5, 6, 7, 8, 9, 10, 11] rfl)
                  · have _ : True := trivial
                    have hroom := BI_room iB (fun x d h => (iF x d h).2) c143 hq24
                    refine lv_aload_n hx hb dX3_spread_146 rfl (lv_at hl 9 rfl) ?_
                    refine gf_X3_9 hC hK hP 0 rfl rfl dX3_spread_147 ?_
                    refine lv_iload hx hb dX3_spread_150 (lv_at hl 0 rfl) ?_
                    refine lv_aload_n hx hb dX3_spread_152 rfl (lv_at hl 9 rfl) ?_
                    refine gf_X3_9 hC hK hP 0 rfl rfl dX3_spread_153 ?_
                    refine lv_iload hx hb dX3_spread_156 (lv_at hl 4 rfl) ?_
                    refine callN_i (As := [.ref rfa, .int (nI qu)]) (rest := [.int (nI q9), .ref rfa]) [1] hC hK hN hP hD rfl (by decide) hS (c_X7_at_O l D cI cJ cB rfa 24 qu F (by omega) (by omega)) q443 md_X7_at rfl hl.1 rfl (Nat.le_of_ble_eq_true rfl) dX3_spread_158 ⟨Nat.le_of_ble_eq_true rfl, Nat.le_of_ble_eq_true rfl⟩ ⟨Nat.le_of_ble_eq_true rfl, Nat.le_of_ble_eq_true rfl⟩ (fun r_158 w H locs hpost hP hD hS => ?_)
                    obtain ⟨rfl, rfl⟩ := hpost
                    have hP : va_P D vwCl (rW cI cJ cB ro rfa rqa (fun zz => oI (F zz)) (fun zz => nI (Qq zz)) h hs hw hh hp (nI se) (nI wd) (nI hd) (nI wl) (nI nb) (nI (topv wd)) (nI (rcv wd hd)) (nI (btv wd hd)) (nI (lcv wd hd)) (gI gl) (gI aq) st sl (gI lb) (fun zz => nI (sh zz)) (fun zz => nI (bw zz)) (fun zz => nI (bh zz)) (fun zz => nI (ps zz))) H := hP
                    have hD : va_D A (rW cI cJ cB ro rfa rqa (fun zz => oI (F zz)) (fun zz => nI (Qq zz)) h hs hw hh hp (nI se) (nI wd) (nI hd) (nI wl) (nI nb) (nI (topv wd)) (nI (rcv wd hd)) (nI (btv wd hd)) (nI (lcv wd hd)) (gI gl) (gI aq) st sl (gI lb) (fun zz => nI (sh zz)) (fun zz => nI (bw zz)) (fun zz => nI (bh zz)) (fun zz => nI (ps zz))) := hD
                    refine topi (y := nI lv) (by rw [← iq, il]; rfl) ?_
                    refine lv_iconst (v := nI 1) hx hb dX3_spread_161 (by decide) ?_
                    refine n_iadd hx hb dX3_spread_162  ?_
                    refine callN_v (As := [.ref rfa, .int (nI q9), .int (nI (lv + 1))]) (rest := []) [1] hC hK hN hP hD rfl (by decide) hS (c_X7_put_O l D cI cJ cB rfa 24 q9 F (some (lv + 1)) (by omega) (by omega)) q449 md_X7_put rfl hl.1 rfl (Nat.le_of_ble_eq_true rfl) dX3_spread_163 ⟨Nat.le_of_ble_eq_true rfl, Nat.le_of_ble_eq_true rfl⟩ ⟨Nat.le_of_ble_eq_true rfl, Nat.le_of_ble_eq_true rfl⟩ (fun w H locs hpost hP hD hS => ?_)
                    obtain rfl := hpost
                    have hP : va_P D vwCl (rW cI cJ cB ro rfa rqa (fun zz => oI ((va_up F q9 (some (lv + 1))) zz)) (fun zz => nI (Qq zz)) h hs hw hh hp (nI se) (nI wd) (nI hd) (nI wl) (nI nb) (nI (topv wd)) (nI (rcv wd hd)) (nI (btv wd hd)) (nI (lcv wd hd)) (gI gl) (gI aq) st sl (gI lb) (fun zz => nI (sh zz)) (fun zz => nI (bw zz)) (fun zz => nI (bh zz)) (fun zz => nI (ps zz))) H := hP
                    have hD : va_D A (rW cI cJ cB ro rfa rqa (fun zz => oI ((va_up F q9 (some (lv + 1))) zz)) (fun zz => nI (Qq zz)) h hs hw hh hp (nI se) (nI wd) (nI hd) (nI wl) (nI nb) (nI (topv wd)) (nI (rcv wd hd)) (nI (btv wd hd)) (nI (lcv wd hd)) (gI gl) (gI aq) st sl (gI lb) (fun zz => nI (sh zz)) (fun zz => nI (bw zz)) (fun zz => nI (bh zz)) (fun zz => nI (ps zz))) := hD
                    refine lv_aload_n hx hb dX3_spread_166 rfl (lv_at hl 9 rfl) ?_
                    refine gf_X3_15 hC hK hP 0 rfl rfl dX3_spread_167 ?_
                    refine lv_iload hx hb dX3_spread_170 (lv_at hl 1 rfl) ?_
                    refine lv_iload hx hb dX3_spread_172 (lv_at hl 0 rfl) ?_
                    refine callN_v (As := [.ref rqa, .int (nI mm), .int (nI q9)]) (rest := []) [2] hC hK hN hP hD rfl (by decide) hS (c_X7_put_N l D cI cJ cB rqa 24 mm Qq q9 (by omega) (by omega)) q449 md_X7_put rfl hl.1 rfl (Nat.le_of_ble_eq_true rfl) dX3_spread_174 ⟨Nat.le_of_ble_eq_true rfl, Nat.le_of_ble_eq_true rfl⟩ ⟨Nat.le_of_ble_eq_true rfl, Nat.le_of_ble_eq_true rfl⟩ (fun w H locs hpost hP hD hS => ?_)
                    obtain rfl := hpost
                    have hP : va_P D vwCl (rW cI cJ cB ro rfa rqa (fun zz => oI ((va_up F q9 (some (lv + 1))) zz)) (fun zz => nI ((va_up Qq mm q9) zz)) h hs hw hh hp (nI se) (nI wd) (nI hd) (nI wl) (nI nb) (nI (topv wd)) (nI (rcv wd hd)) (nI (btv wd hd)) (nI (lcv wd hd)) (gI gl) (gI aq) st sl (gI lb) (fun zz => nI (sh zz)) (fun zz => nI (bw zz)) (fun zz => nI (bh zz)) (fun zz => nI (ps zz))) H := hP
                    have hD : va_D A (rW cI cJ cB ro rfa rqa (fun zz => oI ((va_up F q9 (some (lv + 1))) zz)) (fun zz => nI ((va_up Qq mm q9) zz)) h hs hw hh hp (nI se) (nI wd) (nI hd) (nI wl) (nI nb) (nI (topv wd)) (nI (rcv wd hd)) (nI (btv wd hd)) (nI (lcv wd hd)) (gI gl) (gI aq) st sl (gI lb) (fun zz => nI (sh zz)) (fun zz => nI (bw zz)) (fun zz => nI (bh zz)) (fun zz => nI (ps zz))) := hD
                    refine lv_iinc (v := nI (mm + 1)) (lv' := [(6, .int (nI (mm + 1))), (11, .int (nI q9)), (10, .int (nI dd)), (9, .int (nI (dset (fun d => mvt wd hd (bw b) (bh b) (sh b) (tk wl sh (pkey ps nb) (exb none (some b)) nb) qu d) 4))), (8, .int (nI qu)), (7, .int (nI u)), (5, .int (nI (ps b))), (4, .int (nI (tk wl sh (pkey ps nb) (exb none (some b)) nb))), (3, .int (nI (sh b))), (0, .ref ro), (1, .ref h), (2, .int (nI b))]) hx hb dX3_spread_177 hl (k := 1) rfl (nI_1 _) (by decide) rfl (fun ls hl => ?_)
                    refine lv_iinc (v := nI (dd + 1)) (lv' := [(10, .int (nI (dd + 1))), (6, .int (nI (mm + 1))), (11, .int (nI q9)), (9, .int (nI (dset (fun d => mvt wd hd (bw b) (bh b) (sh b) (tk wl sh (pkey ps nb) (exb none (some b)) nb) qu d) 4))), (8, .int (nI qu)), (7, .int (nI u)), (5, .int (nI (ps b))), (4, .int (nI (tk wl sh (pkey ps nb) (exb none (some b)) nb))), (3, .int (nI (sh b))), (0, .ref ro), (1, .ref h), (2, .int (nI b))]) hx hb dX3_spread_180 hl (k := 2) rfl (nI_1 _) (by decide) rfl (fun ls hl => ?_)
                    refine lv_goto (tgt := 107) hx hb dX3_spread_183 (by decide) ?_
                    exact ih107 (dd + 1) (mm + 1) (va_up F q9 (some (lv + 1))) (va_up Qq mm q9) (by omega) (BI_push iB iu il ⟨dd, by omega, by rw [iq]; exact hq9⟩ c143) (by omega) (fun x d h => if e9 : x = q9 then (by subst e9; exact ⟨hpq, hq24⟩) else (by rw [up_ne F e9] at h; exact iF x d h)) (by omega) (by rw [cntF_up c143, if_pos hq24]; omega) (by rw [up_ne Qq (by omega), up_ne F (fun e9 => by rw [e9, c143] at il; cases il)]; exact il) (by rw [up_ne Qq (by omega)]; exact iq) (dn_d idn (stp_is hst9) c143) (by omega) _ _ hP hD hS _ (lv_sub hl [1, 0, 3, 4, 5, 6, 7, 8, 9, 10, 11] rfl)
          exact L107 _ 0 mm F Qq (by omega) iB (by omega) iF (by omega) ic hlv hqu.symm (fun i h => absurd h (Nat.not_lt_zero i)) (Nat.lt_succ_self _) _ _ hP hD hS _ (lv_sub hl [3, 0, 1, 2, 4, 5, 6, 7, 8, 9, 10] rfl)
  exact L67 _ 0 1 (va_up noneF (ps b) (some 0)) (va_up rQ 0 (ps b)) (BI_one (fun x hx9 => up_ne noneF hx9) (up_eq noneF _ _) (up_eq _ _ _)) (fun x d h9 => if e9 : x = ps b then (by subst e9; exact ⟨hpl, fr_lt hf.1 h24 hsb.2.2.1 hpl⟩) else (by rw [up_ne noneF e9] at h9; cases h9)) (by omega) (by rw [cntF_0 (fun i d h => by by_cases e9 : i = ps b; (rw [e9, up_eq] at h; cases h; rfl); (rw [up_ne noneF e9] at h; cases h))]) (Nat.lt_succ_self _) _ _ hP hD hS _ (lv_sub hl [1, 0, 2, 3, 4, 5, 6, 7] rfl)
