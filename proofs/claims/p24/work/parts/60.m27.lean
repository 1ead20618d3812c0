set_option maxHeartbeats 400000 in
set_option maxRecDepth 100000 in
theorem c_X1_slideFrom (l : Launch) (D : va_G) (cI cJ cB : ClassId) (zo zs zf zq zm zl fo su : Nat) (zb : Bool) (dgb dgp dgr : Option Nat) (Fa : Nat → Option Nat) (Qa Ma La : Nat → Nat) (ys yk yp yt y1 y2 sz : Nat) (tm : Bool) (sse srm : Option Nat) (K P T : Nat → Nat) (h hs hw hh hp se wd hd nb wl : Nat) (st sl : Int32) (gl aq lb : Option Nat) (sh bw bh ps : Nat → Nat) (g ap u b hq lv k0 : Nat) (bd9 : Nat) (hf : FrV wd hd nb wl sh bw bh) (hsp : SPC wd hd nb wl sh bw bh srm k0 K sz P T tm) (htm : tm = false) (hbn : b < nb) (hrb : srm ≠ some b) (hDs : DST (mvk wd hd nb wl sh bw bh srm true) (fun x => plc x g = ap) K sz Fa Qa fo su hq lv u) (hbd : bd9 ≤ lv + 1) (hMK : MKI wd hd nb wl sh bw bh srm K sz Fa Ma bd9) : Met l yX1_slideFrom (Cond.code yX1_slideFrom cX1_slideFrom 12 none :: lw_all) (rmN 3) (va_Pc [.ref zo, .ref h, .ref ys, .int (nI u), .int (nI b)] (pB D (tyz cI cJ cB) (dkbW cI cJ cB zo zs (bI zb) zf (gI dgb) (gI dgp) (nI fo) (nI su) (gI dgr) zq zm zl (fun zz => oI (Fa zz)) (fun zz => nI (Qa zz)) (fun zz => nI (Ma zz)) (fun zz => nI (La zz)) ys yk yp yt y1 y2 (nI sz) (bI tm) (gI sse) (gI srm) (fun zz => lN (K zz)) (fun zz => nI (P zz)) (fun zz => nI (T zz)) h hs hw hh hp (nI se) (nI wd) (nI hd) (nI wl) (nI nb) (nI (topv wd)) (nI (rcv wd hd)) (nI (btv wd hd)) (nI (lcv wd hd)) (gI gl) (gI aq) st sl (gI lb) (fun zz => nI (sh zz)) (fun zz => nI (bw zz)) (fun zz => nI (bh zz)) (fun zz => nI (ps zz))))) (va_Qv (fun (w : va_W) => ∃ F2 : Nat → Option Nat, ∃ Q2 : Nat → Nat, ∃ fo2 : Nat, ∃ su2 : Nat, ∃ M2 : Nat → Nat, ∃ L2 : Nat → Nat, w = dkbW cI cJ cB zo zs (bI zb) zf (gI dgb) (gI dgp) (nI fo2) (nI su2) (gI dgr) zq zm zl (fun zz => oI (F2 zz)) (fun zz => nI (Q2 zz)) (fun zz => nI (M2 zz)) (fun zz => nI (L2 zz)) ys yk yp yt y1 y2 (nI sz) (bI tm) (gI sse) (gI srm) (fun zz => lN (K zz)) (fun zz => nI (P zz)) (fun zz => nI (T zz)) h hs hw hh hp (nI se) (nI wd) (nI hd) (nI wl) (nI nb) (nI (topv wd)) (nI (rcv wd hd)) (nI (btv wd hd)) (nI (lcv wd hd)) (gI gl) (gI aq) st sl (gI lb) (fun zz => nI (sh zz)) (fun zz => nI (bw zz)) (fun zz => nI (bh zz)) (fun zz => nI (ps zz)) ∧ DST (mvk wd hd nb wl sh bw bh srm true) (fun x => plc x g = ap) K sz F2 Q2 fo2 su2 hq lv u ∧ (∀ j e, cF sz Fa j = some e → cF sz F2 j = some e) ∧ (∀ x, mvk1 wd hd nb wl sh bw bh srm true b (K u) x → ∀ j, j < sz → K j = x → ∃ e, cF sz F2 j = some e ∧ e ≤ lv + 1) ∧ MKI wd hd nb wl sh bw bh srm K sz F2 M2 (lv + 1)) (gB D (dkbW cI cJ cB zo zs (bI zb) zf (gI dgb) (gI dgp) (nI fo) (nI su) (gI dgr) zq zm zl (fun zz => oI (Fa zz)) (fun zz => nI (Qa zz)) (fun zz => nI (Ma zz)) (fun zz => nI (La zz)) ys yk yp yt y1 y2 (nI sz) (bI tm) (gI sse) (gI srm) (fun zz => lN (K zz)) (fun zz => nI (P zz)) (fun zz => nI (T zz)) h hs hw hh hp (nI se) (nI wd) (nI hd) (nI wl) (nI nb) (nI (topv wd)) (nI (rcv wd hd)) (nI (btv wd hd)) (nI (lcv wd hd)) (gI gl) (gI aq) st sl (gI lb) (fun zz => nI (sh zz)) (fun zz => nI (bw zz)) (fun zz => nI (bh zz)) (fun zz => nI (ps zz)))) (aW (dkbW cI cJ cB zo zs (bI zb) zf (gI dgb) (gI dgp) (nI fo) (nI su) (gI dgr) zq zm zl (fun zz => oI (Fa zz)) (fun zz => nI (Qa zz)) (fun zz => nI (Ma zz)) (fun zz => nI (La zz)) ys yk yp yt y1 y2 (nI sz) (bI tm) (gI sse) (gI srm) (fun zz => lN (K zz)) (fun zz => nI (P zz)) (fun zz => nI (T zz)) h hs hw hh hp (nI se) (nI wd) (nI hd) (nI wl) (nI nb) (nI (topv wd)) (nI (rcv wd hd)) (nI (btv wd hd)) (nI (lcv wd hd)) (gI gl) (gI aq) st sl (gI lb) (fun zz => nI (sh zz)) (fun zz => nI (bw zz)) (fun zz => nI (bh zz)) (fun zz => nI (ps zz))))) 0 0 (aW (dkbW cI cJ cB zo zs (bI zb) zf (gI dgb) (gI dgp) (nI fo) (nI su) (gI dgr) zq zm zl (fun zz => oI (Fa zz)) (fun zz => nI (Qa zz)) (fun zz => nI (Ma zz)) (fun zz => nI (La zz)) ys yk yp yt y1 y2 (nI sz) (bI tm) (gI sse) (gI srm) (fun zz => lN (K zz)) (fun zz => nI (P zz)) (fun zz => nI (T zz)) h hs hw hh hp (nI se) (nI wd) (nI hd) (nI wl) (nI nb) (nI (topv wd)) (nI (rcv wd hd)) (nI (btv wd hd)) (nI (lcv wd hd)) (gI gl) (gI aq) st sl (gI lb) (fun zz => nI (sh zz)) (fun zz => nI (bw zz)) (fun zz => nI (bh zz)) (fun zz => nI (ps zz)))) := by
  refine Met.ofW (cc := cX1_slideFrom) (maxL := 12) (ret := none) (by decide) rfl ?_
  intro p e s m args below meth c s₁ B hml hv
  obtain ⟨rfl, hK, hN, hP, hD0⟩ := hv
  have hx := B.exec; have hb := B.bytes; have hr := B.returns; have hlocks := B.notSynchronized
  have hts0 := atoms_spec (ws := Cond.code yX1_slideFrom cX1_slideFrom 12 none :: lw_all) B.pre
  have hC : CallFix p m c cX1_slideFrom 12 s _ lw_all RX1 := ⟨hx, hb, hml, findClass_of_methodNamed B.named, fun w h => hts0 w (List.mem_cons_of_mem _ h)⟩
  have hD : va_D (aW (dkbW cI cJ cB zo zs (bI zb) zf (gI dgb) (gI dgp) (nI fo) (nI su) (gI dgr) zq zm zl (fun zz => oI (Fa zz)) (fun zz => nI (Qa zz)) (fun zz => nI (Ma zz)) (fun zz => nI (La zz)) ys yk yp yt y1 y2 (nI sz) (bI tm) (gI sse) (gI srm) (fun zz => lN (K zz)) (fun zz => nI (P zz)) (fun zz => nI (T zz)) h hs hw hh hp (nI se) (nI wd) (nI hd) (nI wl) (nI nb) (nI (topv wd)) (nI (rcv wd hd)) (nI (btv wd hd)) (nI (lcv wd hd)) (gI gl) (gI aq) st sl (gI lb) (fun zz => nI (sh zz)) (fun zz => nI (bw zz)) (fun zz => nI (bh zz)) (fun zz => nI (ps zz)))) (dkbW cI cJ cB zo zs (bI zb) zf (gI dgb) (gI dgp) (nI fo) (nI su) (gI dgr) zq zm zl (fun zz => oI (Fa zz)) (fun zz => nI (Qa zz)) (fun zz => nI (Ma zz)) (fun zz => nI (La zz)) ys yk yp yt y1 y2 (nI sz) (bI tm) (gI sse) (gI srm) (fun zz => lN (K zz)) (fun zz => nI (P zz)) (fun zz => nI (T zz)) h hs hw hh hp (nI se) (nI wd) (nI hd) (nI wl) (nI nb) (nI (topv wd)) (nI (rcv wd hd)) (nI (btv wd hd)) (nI (lcv wd hd)) (gI gl) (gI aq) st sl (gI lb) (fun zz => nI (sh zz)) (fun zz => nI (bw zz)) (fun zz => nI (bh zz)) (fun zz => nI (ps zz))) := ⟨hD0.1, fun k q h => ⟨k, q.2, h⟩⟩
  generalize hAe : aW (dkbW cI cJ cB zo zs (bI zb) zf (gI dgb) (gI dgp) (nI fo) (nI su) (gI dgr) zq zm zl (fun zz => oI (Fa zz)) (fun zz => nI (Qa zz)) (fun zz => nI (Ma zz)) (fun zz => nI (La zz)) ys yk yp yt y1 y2 (nI sz) (bI tm) (gI sse) (gI srm) (fun zz => lN (K zz)) (fun zz => nI (P zz)) (fun zz => nI (T zz)) h hs hw hh hp (nI se) (nI wd) (nI hd) (nI wl) (nI nb) (nI (topv wd)) (nI (rcv wd hd)) (nI (btv wd hd)) (nI (lcv wd hd)) (gI gl) (gI aq) st sl (gI lb) (fun zz => nI (sh zz)) (fun zz => nI (bw zz)) (fun zz => nI (bh zz)) (fun zz => nI (ps zz))) = A at hD ⊢
  have hS : va_S A s.heap s.heap [] := va_S.rf
  have hl := lv_entry ([.ref zo, .ref h, .ref ys, .int (nI u), .int (nI b)]) (n := 12) (Nat.le_of_ble_eq_true rfl)
  rw [lg_entry_eq]
  generalize (lg_sl ([.ref zo, .ref h, .ref ys, .int (nI u), .int (nI b)]) ++ List.replicate (12 - (lg_sl ([.ref zo, .ref h, .ref ys, .int (nI u), .int (nI b)])).length) Slot.unset).toArray = ls at hl ⊢
  have hl : lv_has ls 12 [(0, .ref zo), (1, .ref h), (2, .ref ys), (3, .int (nI u)), (4, .int (nI b))] := hl
  generalize hav : ([.ref zo, .ref h, .ref ys, .int (nI u), .int (nI b)] : List Value).toArray = args at hC ⊢
  refine W_gen (fun QQ hQ => ?_)
  show W p l e (rmN 3) s m args below meth c s.heap [] 0 0 QQ (F0 m 0 ls [])
  obtain ⟨s1, s2, s3, s4, -, s6⟩ := _root_.id hsp
  obtain ⟨s7, s8, s9⟩ := s6 htm
  have hn7 := hf.2.2.2.2.2.1
  obtain ⟨hun, hfu⟩ := DST_u hDs
  have hku := (s4 u hun).2
  have hv : ∀ i, i < sz → KV wd hd nb wl sh bw bh srm (K i) := fun i hi => (s4 i hi).2
  have hinj := s7.2.1
  have hus : u < 2000 := by omega
  have hmu7 := hMK.2 u
  refine lv_iconst (v := nI 1) hx hb dX1_slideFrom_0 (by decide) ?_
  refine lv_iload hx hb dX1_slideFrom_1 (lv_at hl 4 rfl) ?_
  refine n_ishl hx hb dX1_slideFrom_3 (by omega) ?_
  refine lv_istore (lv' := [(5, .int (nI (1 <<< b))), (0, .ref zo), (1, .ref h), (2, .ref ys), (3, .int (nI u)), (4, .int (nI b))]) hx hb dX1_slideFrom_4 hl (by decide) rfl (fun ls hl => ?_)
  refine lv_aload_n hx hb dX1_slideFrom_6 rfl (lv_at hl 1 rfl) ?_
  refine gf_X1_35 hC hK hP 0 rfl rfl dX1_slideFrom_7 ?_
  refine gf_X1_78 hC hK hP 2 rfl rfl dX1_slideFrom_10 ?_
  refine lv_iload_n hx hb dX1_slideFrom_13 rfl (lv_at hl 4 rfl) ?_
  refine callN_i (As := [.ref zm, .int (nI u)]) (rest := []) [4] hC hK hN hP hD rfl (by decide) hS (c_X7_at_N l D cI cJ cB zm 2000 u Ma (by omega) (by omega)) q584 md_X7_at rfl hl.1 rfl (Nat.le_of_ble_eq_true rfl) dX1_slideFrom_14 ⟨Nat.le_of_ble_eq_true rfl, Nat.le_of_ble_eq_true rfl⟩ ⟨Nat.le_of_ble_eq_true rfl, Nat.le_of_ble_eq_true rfl⟩ (fun r_14 w H locs hpost hP hD hS => ?_)
  obtain ⟨rfl, rfl⟩ := hpost
  have hP : va_P D vwCl (dkbW cI cJ cB zo zs (bI zb) zf (gI dgb) (gI dgp) (nI fo) (nI su) (gI dgr) zq zm zl (fun zz => oI (Fa zz)) (fun zz => nI (Qa zz)) (fun zz => nI (Ma zz)) (fun zz => nI (La zz)) ys yk yp yt y1 y2 (nI sz) (bI tm) (gI sse) (gI srm) (fun zz => lN (K zz)) (fun zz => nI (P zz)) (fun zz => nI (T zz)) h hs hw hh hp (nI se) (nI wd) (nI hd) (nI wl) (nI nb) (nI (topv wd)) (nI (rcv wd hd)) (nI (btv wd hd)) (nI (lcv wd hd)) (gI gl) (gI aq) st sl (gI lb) (fun zz => nI (sh zz)) (fun zz => nI (bw zz)) (fun zz => nI (bh zz)) (fun zz => nI (ps zz))) H := hP
  have hD : va_D A (dkbW cI cJ cB zo zs (bI zb) zf (gI dgb) (gI dgp) (nI fo) (nI su) (gI dgr) zq zm zl (fun zz => oI (Fa zz)) (fun zz => nI (Qa zz)) (fun zz => nI (Ma zz)) (fun zz => nI (La zz)) ys yk yp yt y1 y2 (nI sz) (bI tm) (gI sse) (gI srm) (fun zz => lN (K zz)) (fun zz => nI (P zz)) (fun zz => nI (T zz)) h hs hw hh hp (nI se) (nI wd) (nI hd) (nI wl) (nI nb) (nI (topv wd)) (nI (rcv wd hd)) (nI (btv wd hd)) (nI (lcv wd hd)) (gI gl) (gI aq) st sl (gI lb) (fun zz => nI (sh zz)) (fun zz => nI (bw zz)) (fun zz => nI (bh zz)) (fun zz => nI (ps zz))) := hD
  refine lv_iload hx hb dX1_slideFrom_17 (lv_at hl 0 rfl) ?_
  refine n_iand hx hb dX1_slideFrom_19  ?_
  refine n_if_eq (tgt := 24) hx hb dX1_slideFrom_20 (by decide) (Nat.lt_of_le_of_lt Nat.and_le_left (by omega)) (fun c20 => ?_) (fun c20 => ?_)
  · have _ : True := trivial
    have h0 := mbit_no c20
    refine lv_aload_n hx hb dX1_slideFrom_24 rfl (lv_at hl 1 rfl) ?_
    refine gf_X1_9 hC hK hP 0 rfl rfl dX1_slideFrom_25 ?_
    refine lv_iload_n hx hb dX1_slideFrom_28 rfl (lv_at hl 4 rfl) ?_
    refine callN_i (As := [.ref zf, .int (nI u)]) (rest := []) [1] hC hK hN hP hD rfl (by decide) hS (c_X7_at_O l D cI cJ cB zf 2000 u Fa (by omega) (by omega)) q584 md_X7_at rfl hl.1 rfl (Nat.le_of_ble_eq_true rfl) dX1_slideFrom_29 ⟨Nat.le_of_ble_eq_true rfl, Nat.le_of_ble_eq_true rfl⟩ ⟨Nat.le_of_ble_eq_true rfl, Nat.le_of_ble_eq_true rfl⟩ (fun r_29 w H locs hpost hP hD hS => ?_)
    obtain ⟨rfl, rfl⟩ := hpost
    have hP : va_P D vwCl (dkbW cI cJ cB zo zs (bI zb) zf (gI dgb) (gI dgp) (nI fo) (nI su) (gI dgr) zq zm zl (fun zz => oI (Fa zz)) (fun zz => nI (Qa zz)) (fun zz => nI (Ma zz)) (fun zz => nI (La zz)) ys yk yp yt y1 y2 (nI sz) (bI tm) (gI sse) (gI srm) (fun zz => lN (K zz)) (fun zz => nI (P zz)) (fun zz => nI (T zz)) h hs hw hh hp (nI se) (nI wd) (nI hd) (nI wl) (nI nb) (nI (topv wd)) (nI (rcv wd hd)) (nI (btv wd hd)) (nI (lcv wd hd)) (gI gl) (gI aq) st sl (gI lb) (fun zz => nI (sh zz)) (fun zz => nI (bw zz)) (fun zz => nI (bh zz)) (fun zz => nI (ps zz))) H := hP
    have hD : va_D A (dkbW cI cJ cB zo zs (bI zb) zf (gI dgb) (gI dgp) (nI fo) (nI su) (gI dgr) zq zm zl (fun zz => oI (Fa zz)) (fun zz => nI (Qa zz)) (fun zz => nI (Ma zz)) (fun zz => nI (La zz)) ys yk yp yt y1 y2 (nI sz) (bI tm) (gI sse) (gI srm) (fun zz => lN (K zz)) (fun zz => nI (P zz)) (fun zz => nI (T zz)) h hs hw hh hp (nI se) (nI wd) (nI hd) (nI wl) (nI nb) (nI (topv wd)) (nI (rcv wd hd)) (nI (btv wd hd)) (nI (lcv wd hd)) (gI gl) (gI aq) st sl (gI lb) (fun zz => nI (sh zz)) (fun zz => nI (bw zz)) (fun zz => nI (bh zz)) (fun zz => nI (ps zz))) := hD
    refine topi (y := nI lv) (by rw [hfu]; rfl) ?_
    refine lv_iconst (v := nI 1) hx hb dX1_slideFrom_32 (by decide) ?_
    refine n_iadd hx hb dX1_slideFrom_33  ?_
    refine lv_istore (lv' := [(6, .int (nI (lv + 1))), (5, .int (nI (1 <<< b))), (0, .ref zo), (1, .ref h), (2, .ref ys), (3, .int (nI u)), (4, .int (nI b))]) hx hb dX1_slideFrom_34 hl (by decide) rfl (fun ls hl => ?_)
    refine lv_aload_n hx hb dX1_slideFrom_36 rfl (lv_at hl 2 rfl) ?_
    refine gf_X1_35 hC hK hP 0 rfl rfl dX1_slideFrom_37 ?_
    refine gf_X1_78 hC hK hP 2 rfl rfl dX1_slideFrom_40 ?_
    refine lv_iload_n hx hb dX1_slideFrom_43 rfl (lv_at hl 5 rfl) ?_
    refine lv_aload_n hx hb dX1_slideFrom_44 rfl (lv_at hl 2 rfl) ?_
    refine gf_X1_35 hC hK hP 0 rfl rfl dX1_slideFrom_45 ?_
    refine gf_X1_78 hC hK hP 2 rfl rfl dX1_slideFrom_48 ?_
    refine lv_iload_n hx hb dX1_slideFrom_51 rfl (lv_at hl 5 rfl) ?_
    refine callN_i (As := [.ref zm, .int (nI u)]) (rest := [.int (nI u), .ref zm]) [4] hC hK hN hP hD rfl (by decide) hS (c_X7_at_N l D cI cJ cB zm 2000 u Ma (by omega) (by omega)) q584 md_X7_at rfl hl.1 rfl (Nat.le_of_ble_eq_true rfl) dX1_slideFrom_52 ⟨Nat.le_of_ble_eq_true rfl, Nat.le_of_ble_eq_true rfl⟩ ⟨Nat.le_of_ble_eq_true rfl, Nat.le_of_ble_eq_true rfl⟩ (fun r_52 w H locs hpost hP hD hS => ?_)
    obtain ⟨rfl, rfl⟩ := hpost
    have hP : va_P D vwCl (dkbW cI cJ cB zo zs (bI zb) zf (gI dgb) (gI dgp) (nI fo) (nI su) (gI dgr) zq zm zl (fun zz => oI (Fa zz)) (fun zz => nI (Qa zz)) (fun zz => nI (Ma zz)) (fun zz => nI (La zz)) ys yk yp yt y1 y2 (nI sz) (bI tm) (gI sse) (gI srm) (fun zz => lN (K zz)) (fun zz => nI (P zz)) (fun zz => nI (T zz)) h hs hw hh hp (nI se) (nI wd) (nI hd) (nI wl) (nI nb) (nI (topv wd)) (nI (rcv wd hd)) (nI (btv wd hd)) (nI (lcv wd hd)) (gI gl) (gI aq) st sl (gI lb) (fun zz => nI (sh zz)) (fun zz => nI (bw zz)) (fun zz => nI (bh zz)) (fun zz => nI (ps zz))) H := hP
    have hD : va_D A (dkbW cI cJ cB zo zs (bI zb) zf (gI dgb) (gI dgp) (nI fo) (nI su) (gI dgr) zq zm zl (fun zz => oI (Fa zz)) (fun zz => nI (Qa zz)) (fun zz => nI (Ma zz)) (fun zz => nI (La zz)) ys yk yp yt y1 y2 (nI sz) (bI tm) (gI sse) (gI srm) (fun zz => lN (K zz)) (fun zz => nI (P zz)) (fun zz => nI (T zz)) h hs hw hh hp (nI se) (nI wd) (nI hd) (nI wl) (nI nb) (nI (topv wd)) (nI (rcv wd hd)) (nI (btv wd hd)) (nI (lcv wd hd)) (gI gl) (gI aq) st sl (gI lb) (fun zz => nI (sh zz)) (fun zz => nI (bw zz)) (fun zz => nI (bh zz)) (fun zz => nI (ps zz))) := hD
    refine lv_iload hx hb dX1_slideFrom_55 (lv_at hl 1 rfl) ?_
    refine n_ior hx hb dX1_slideFrom_57  ?_
    refine callN_v (As := [.ref zm, .int (nI u), .int (nI ((Ma u) ||| (1 <<< b)))]) (rest := []) [4] hC hK hN hP hD rfl (by decide) hS (c_X7_put_N l D cI cJ cB zm 2000 u Ma ((Ma u) ||| (1 <<< b)) (by omega) (by omega)) q585 md_X7_put rfl hl.1 rfl (Nat.le_of_ble_eq_true rfl) dX1_slideFrom_58 ⟨Nat.le_of_ble_eq_true rfl, Nat.le_of_ble_eq_true rfl⟩ ⟨Nat.le_of_ble_eq_true rfl, Nat.le_of_ble_eq_true rfl⟩ (fun w H locs hpost hP hD hS => ?_)
    obtain rfl := hpost
    have hP : va_P D vwCl (dkbW cI cJ cB zo zs (bI zb) zf (gI dgb) (gI dgp) (nI fo) (nI su) (gI dgr) zq zm zl (fun zz => oI (Fa zz)) (fun zz => nI (Qa zz)) (fun zz => nI ((va_up Ma u ((Ma u) ||| (1 <<< b))) zz)) (fun zz => nI (La zz)) ys yk yp yt y1 y2 (nI sz) (bI tm) (gI sse) (gI srm) (fun zz => lN (K zz)) (fun zz => nI (P zz)) (fun zz => nI (T zz)) h hs hw hh hp (nI se) (nI wd) (nI hd) (nI wl) (nI nb) (nI (topv wd)) (nI (rcv wd hd)) (nI (btv wd hd)) (nI (lcv wd hd)) (gI gl) (gI aq) st sl (gI lb) (fun zz => nI (sh zz)) (fun zz => nI (bw zz)) (fun zz => nI (bh zz)) (fun zz => nI (ps zz))) H := hP
    have hD : va_D A (dkbW cI cJ cB zo zs (bI zb) zf (gI dgb) (gI dgp) (nI fo) (nI su) (gI dgr) zq zm zl (fun zz => oI (Fa zz)) (fun zz => nI (Qa zz)) (fun zz => nI ((va_up Ma u ((Ma u) ||| (1 <<< b))) zz)) (fun zz => nI (La zz)) ys yk yp yt y1 y2 (nI sz) (bI tm) (gI sse) (gI srm) (fun zz => lN (K zz)) (fun zz => nI (P zz)) (fun zz => nI (T zz)) h hs hw hh hp (nI se) (nI wd) (nI hd) (nI wl) (nI nb) (nI (topv wd)) (nI (rcv wd hd)) (nI (btv wd hd)) (nI (lcv wd hd)) (gI gl) (gI aq) st sl (gI lb) (fun zz => nI (sh zz)) (fun zz => nI (bw zz)) (fun zz => nI (bh zz)) (fun zz => nI (ps zz))) := hD
    refine lv_aload_n hx hb dX1_slideFrom_61 rfl (lv_at hl 2 rfl) ?_
    refine gf_X1_35 hC hK hP 0 rfl rfl dX1_slideFrom_62 ?_
    refine gf_X1_107 hC hK hP 2 rfl rfl dX1_slideFrom_65 ?_
    refine lv_iconst (v := nI 0) hx hb dX1_slideFrom_68 (by decide) ?_
    refine lv_iload_n hx hb dX1_slideFrom_69 rfl (lv_at hl 5 rfl) ?_
    refine callN_v (As := [.ref zl, .int (nI 0), .int (nI u)]) (rest := []) [5] hC hK hN hP hD rfl (by decide) hS (c_X7_put_N l D cI cJ cB zl 24 0 La u (by omega) (by omega)) q585 md_X7_put rfl hl.1 rfl (Nat.le_of_ble_eq_true rfl) dX1_slideFrom_70 ⟨Nat.le_of_ble_eq_true rfl, Nat.le_of_ble_eq_true rfl⟩ ⟨Nat.le_of_ble_eq_true rfl, Nat.le_of_ble_eq_true rfl⟩ (fun w H locs hpost hP hD hS => ?_)
    obtain rfl := hpost
    have hP : va_P D vwCl (dkbW cI cJ cB zo zs (bI zb) zf (gI dgb) (gI dgp) (nI fo) (nI su) (gI dgr) zq zm zl (fun zz => oI (Fa zz)) (fun zz => nI (Qa zz)) (fun zz => nI ((va_up Ma u ((Ma u) ||| (1 <<< b))) zz)) (fun zz => nI ((va_up La 0 u) zz)) ys yk yp yt y1 y2 (nI sz) (bI tm) (gI sse) (gI srm) (fun zz => lN (K zz)) (fun zz => nI (P zz)) (fun zz => nI (T zz)) h hs hw hh hp (nI se) (nI wd) (nI hd) (nI wl) (nI nb) (nI (topv wd)) (nI (rcv wd hd)) (nI (btv wd hd)) (nI (lcv wd hd)) (gI gl) (gI aq) st sl (gI lb) (fun zz => nI (sh zz)) (fun zz => nI (bw zz)) (fun zz => nI (bh zz)) (fun zz => nI (ps zz))) H := hP
    have hD : va_D A (dkbW cI cJ cB zo zs (bI zb) zf (gI dgb) (gI dgp) (nI fo) (nI su) (gI dgr) zq zm zl (fun zz => oI (Fa zz)) (fun zz => nI (Qa zz)) (fun zz => nI ((va_up Ma u ((Ma u) ||| (1 <<< b))) zz)) (fun zz => nI ((va_up La 0 u) zz)) ys yk yp yt y1 y2 (nI sz) (bI tm) (gI sse) (gI srm) (fun zz => lN (K zz)) (fun zz => nI (P zz)) (fun zz => nI (T zz)) h hs hw hh hp (nI se) (nI wd) (nI hd) (nI wl) (nI nb) (nI (topv wd)) (nI (rcv wd hd)) (nI (btv wd hd)) (nI (lcv wd hd)) (gI gl) (gI aq) st sl (gI lb) (fun zz => nI (sh zz)) (fun zz => nI (bw zz)) (fun zz => nI (bh zz)) (fun zz => nI (ps zz))) := hD
    refine lv_iconst (v := nI 1) hx hb dX1_slideFrom_73 (by decide) ?_
    refine lv_istore (lv' := [(7, .int (nI 1)), (6, .int (nI (lv + 1))), (5, .int (nI (1 <<< b))), (0, .ref zo), (1, .ref h), (2, .ref ys), (3, .int (nI u)), (4, .int (nI b))]) hx hb dX1_slideFrom_74 hl (by decide) rfl (fun ls hl => ?_)
    refine lv_iconst (v := nI 0) hx hb dX1_slideFrom_76 (by decide) ?_
    refine lv_istore (lv' := [(8, .int (nI 0)), (7, .int (nI 1)), (6, .int (nI (lv + 1))), (5, .int (nI (1 <<< b))), (0, .ref zo), (1, .ref h), (2, .ref ys), (3, .int (nI u)), (4, .int (nI b))]) hx hb dX1_slideFrom_77 hl (by decide) rfl (fun ls hl => ?_)
    have L79 : ∀ (n : Nat) (i : Nat) (len : Nat) (Fb : Nat → Option Nat) (Qb : Nat → Nat) (fb : Nat) (sb : Nat) (Mb : Nat → Nat) (Lb : Nat → Nat), (DST (mvk wd hd nb wl sh bw bh srm true) (fun x => plc x g = ap) K sz Fb Qb fb sb hq lv u) → (LNI wd hd nb wl sh bw bh srm b K sz Fa Fb Ma Mb Lb len lv u) → (CLO wd hd nb wl sh bw bh srm b K sz Mb Lb i) → (len ≤ 24) → ((Mb u).testBit b = true) → (i ≤ len) → (24 - i) < n → ∀ (H : Heap) (locs : List Loc), va_P D vwCl (dkbW cI cJ cB zo zs (bI zb) zf (gI dgb) (gI dgp) (nI fb) (nI sb) (gI dgr) zq zm zl (fun zz => oI (Fb zz)) (fun zz => nI (Qb zz)) (fun zz => nI (Mb zz)) (fun zz => nI (Lb zz)) ys yk yp yt y1 y2 (nI sz) (bI tm) (gI sse) (gI srm) (fun zz => lN (K zz)) (fun zz => nI (P zz)) (fun zz => nI (T zz)) h hs hw hh hp (nI se) (nI wd) (nI hd) (nI wl) (nI nb) (nI (topv wd)) (nI (rcv wd hd)) (nI (btv wd hd)) (nI (lcv wd hd)) (gI gl) (gI aq) st sl (gI lb) (fun zz => nI (sh zz)) (fun zz => nI (bw zz)) (fun zz => nI (bh zz)) (fun zz => nI (ps zz))) H → va_D A (dkbW cI cJ cB zo zs (bI zb) zf (gI dgb) (gI dgp) (nI fb) (nI sb) (gI dgr) zq zm zl (fun zz => oI (Fb zz)) (fun zz => nI (Qb zz)) (fun zz => nI (Mb zz)) (fun zz => nI (Lb zz)) ys yk yp yt y1 y2 (nI sz) (bI tm) (gI sse) (gI srm) (fun zz => lN (K zz)) (fun zz => nI (P zz)) (fun zz => nI (T zz)) h hs hw hh hp (nI se) (nI wd) (nI hd) (nI wl) (nI nb) (nI (topv wd)) (nI (rcv wd hd)) (nI (btv wd hd)) (nI (lcv wd hd)) (gI gl) (gI aq) st sl (gI lb) (fun zz => nI (sh zz)) (fun zz => nI (bw zz)) (fun zz => nI (bh zz)) (fun zz => nI (ps zz))) → va_S A s.heap H locs → ∀ ls : Array Slot, lv_has ls 12 [(7, .int (nI len)), (8, .int (nI i)), (6, .int (nI (lv + 1))), (5, .int (nI (1 <<< b))), (0, .ref zo), (1, .ref h), (2, .ref ys), (3, .int (nI u)), (4, .int (nI b))] → W p l e (rmN 3) s m args below meth c H locs 0 0 QQ (F0 m 79 ls []) := by
      intro n; induction n with
      | zero => intro i len Fb Qb fb sb Mb Lb iD iL iC il iu ii hm; exact absurd hm (Nat.not_lt_zero _)
      | succ n ih79 =>
        intro i len Fb Qb fb sb Mb Lb iD iL iC il iu ii hm79 H locs hP hD hS ls hl
        refine lv_iload hx hb dX1_slideFrom_79 (lv_at hl 1 rfl) ?_
        refine lv_iload hx hb dX1_slideFrom_81 (lv_at hl 0 rfl) ?_
        refine n_icmp_ge (a := i) (b := len) (tgt := 216) hx hb dX1_slideFrom_83 (by decide) (by omega) (by omega) (fun c83 => ?_) (fun c83 => ?_)
        · have _ : True := trivial
          have e83 : i = len := by omega
          rw [e83] at iC
          obtain ⟨hm2, hn2⟩ := LNI_end hf hv s8 hinj hun hbn hbd hMK h0 iL iC
          rw [hQ]
          exact W.vret hx hb hr (fun t9 ht hW => ⟨⟨_, rfl, ⟨Fb, Qb, fb, sb, Mb, Lb, rfl, iD, iL.2.2.2.2.2.2.2, (fun x hx j hj hk => by rw [← hk] at hx; exact hn2 j hj (mvk1_Rb hf hku hbn hrb hx)), hm2⟩, by rw [ht]; exact hP, rfl⟩, hS.F ht⟩) hS.2.2 dX1_slideFrom_216
        · have _ : True := trivial
          refine lv_iload hx hb dX1_slideFrom_86 (lv_at hl 1 rfl) ?_
          refine lv_bipush (v := nI 24) hx hb dX1_slideFrom_88 (by decide) ?_
          refine n_icmp_ge (a := i) (b := 24) (tgt := 216) hx hb dX1_slideFrom_90 (by decide) (by omega) (by omega) (fun c90 => ?_) (fun c90 => ?_)
          · have _ : True := trivial
            exact absurd c90 (by omega)
          · have _ : True := trivial
            obtain ⟨fm, hfm⟩ : ∃ x, x = Lb i := ⟨_, rfl⟩
            obtain ⟨hfl, hfc, hfb, -⟩ := iL.2.1 i (by omega)
            rw [← hfm] at hfl hfc hfb
            have hkf := hv fm hfl
            refine lv_aload_n hx hb dX1_slideFrom_93 rfl (lv_at hl 4 rfl) ?_
            refine gf_X1_35 hC hK hP 0 rfl rfl dX1_slideFrom_94 ?_
            refine gf_X1_107 hC hK hP 2 rfl rfl dX1_slideFrom_97 ?_
            refine lv_iload hx hb dX1_slideFrom_100 (lv_at hl 1 rfl) ?_
            refine callN_i (As := [.ref zl, .int (nI i)]) (rest := []) [5] hC hK hN hP hD rfl (by decide) hS (c_X7_at_N l D cI cJ cB zl 24 i Lb (by omega) (by omega)) q584 md_X7_at rfl hl.1 rfl (Nat.le_of_ble_eq_true rfl) dX1_slideFrom_102 ⟨Nat.le_of_ble_eq_true rfl, Nat.le_of_ble_eq_true rfl⟩ ⟨Nat.le_of_ble_eq_true rfl, Nat.le_of_ble_eq_true rfl⟩ (fun r_102 w H locs hpost hP hD hS => ?_)
            obtain ⟨rfl, rfl⟩ := hpost
            have hP : va_P D vwCl (dkbW cI cJ cB zo zs (bI zb) zf (gI dgb) (gI dgp) (nI fb) (nI sb) (gI dgr) zq zm zl (fun zz => oI (Fb zz)) (fun zz => nI (Qb zz)) (fun zz => nI (Mb zz)) (fun zz => nI (Lb zz)) ys yk yp yt y1 y2 (nI sz) (bI tm) (gI sse) (gI srm) (fun zz => lN (K zz)) (fun zz => nI (P zz)) (fun zz => nI (T zz)) h hs hw hh hp (nI se) (nI wd) (nI hd) (nI wl) (nI nb) (nI (topv wd)) (nI (rcv wd hd)) (nI (btv wd hd)) (nI (lcv wd hd)) (gI gl) (gI aq) st sl (gI lb) (fun zz => nI (sh zz)) (fun zz => nI (bw zz)) (fun zz => nI (bh zz)) (fun zz => nI (ps zz))) H := hP
            have hD : va_D A (dkbW cI cJ cB zo zs (bI zb) zf (gI dgb) (gI dgp) (nI fb) (nI sb) (gI dgr) zq zm zl (fun zz => oI (Fb zz)) (fun zz => nI (Qb zz)) (fun zz => nI (Mb zz)) (fun zz => nI (Lb zz)) ys yk yp yt y1 y2 (nI sz) (bI tm) (gI sse) (gI srm) (fun zz => lN (K zz)) (fun zz => nI (P zz)) (fun zz => nI (T zz)) h hs hw hh hp (nI se) (nI wd) (nI hd) (nI wl) (nI nb) (nI (topv wd)) (nI (rcv wd hd)) (nI (btv wd hd)) (nI (lcv wd hd)) (gI gl) (gI aq) st sl (gI lb) (fun zz => nI (sh zz)) (fun zz => nI (bw zz)) (fun zz => nI (bh zz)) (fun zz => nI (ps zz))) := hD
            refine topi (y := nI fm) (by rw [hfm]) ?_
            refine lv_istore (lv' := [(9, .int (nI fm)), (7, .int (nI len)), (8, .int (nI i)), (6, .int (nI (lv + 1))), (5, .int (nI (1 <<< b))), (0, .ref zo), (1, .ref h), (2, .ref ys), (3, .int (nI u)), (4, .int (nI b))]) hx hb dX1_slideFrom_105 hl (by decide) rfl (fun ls hl => ?_)
            refine lv_iconst (v := nI 0) hx hb dX1_slideFrom_107 (by decide) ?_
            refine lv_istore (lv' := [(10, .int (nI 0)), (9, .int (nI fm)), (7, .int (nI len)), (8, .int (nI i)), (6, .int (nI (lv + 1))), (5, .int (nI (1 <<< b))), (0, .ref zo), (1, .ref h), (2, .ref ys), (3, .int (nI u)), (4, .int (nI b))]) hx hb dX1_slideFrom_108 hl (by decide) rfl (fun ls hl => ?_)
            have L110 : ∀ (n : Nat) (dd : Nat) (len : Nat) (Fb : Nat → Option Nat) (Qb : Nat → Nat) (fb : Nat) (sb : Nat) (Mb : Nat → Nat) (Lb : Nat → Nat), (DST (mvk wd hd nb wl sh bw bh srm true) (fun x => plc x g = ap) K sz Fb Qb fb sb hq lv u) → (LNI wd hd nb wl sh bw bh srm b K sz Fa Fb Ma Mb Lb len lv u) → (CLO wd hd nb wl sh bw bh srm b K sz Mb Lb i) → (len ≤ 24) → ((Mb u).testBit b = true) → (i < len) → (Lb i = fm) → (dd ≤ 4) → (∀ d, d < dd → ∀ q, mvb wd hd nb wl sh bw bh srm (K fm) b d = some q → ∀ j, j < sz → K j = wth (K fm) b q → (Mb j).testBit b = true) → (4 - dd) < n → ∀ (H : Heap) (locs : List Loc), va_P D vwCl (dkbW cI cJ cB zo zs (bI zb) zf (gI dgb) (gI dgp) (nI fb) (nI sb) (gI dgr) zq zm zl (fun zz => oI (Fb zz)) (fun zz => nI (Qb zz)) (fun zz => nI (Mb zz)) (fun zz => nI (Lb zz)) ys yk yp yt y1 y2 (nI sz) (bI tm) (gI sse) (gI srm) (fun zz => lN (K zz)) (fun zz => nI (P zz)) (fun zz => nI (T zz)) h hs hw hh hp (nI se) (nI wd) (nI hd) (nI wl) (nI nb) (nI (topv wd)) (nI (rcv wd hd)) (nI (btv wd hd)) (nI (lcv wd hd)) (gI gl) (gI aq) st sl (gI lb) (fun zz => nI (sh zz)) (fun zz => nI (bw zz)) (fun zz => nI (bh zz)) (fun zz => nI (ps zz))) H → va_D A (dkbW cI cJ cB zo zs (bI zb) zf (gI dgb) (gI dgp) (nI fb) (nI sb) (gI dgr) zq zm zl (fun zz => oI (Fb zz)) (fun zz => nI (Qb zz)) (fun zz => nI (Mb zz)) (fun zz => nI (Lb zz)) ys yk yp yt y1 y2 (nI sz) (bI tm) (gI sse) (gI srm) (fun zz => lN (K zz)) (fun zz => nI (P zz)) (fun zz => nI (T zz)) h hs hw hh hp (nI se) (nI wd) (nI hd) (nI wl) (nI nb) (nI (topv wd)) (nI (rcv wd hd)) (nI (btv wd hd)) (nI (lcv wd hd)) (gI gl) (gI aq) st sl (gI lb) (fun zz => nI (sh zz)) (fun zz => nI (bw zz)) (fun zz => nI (bh zz)) (fun zz => nI (ps zz))) → va_S A s.heap H locs → ∀ ls : Array Slot, lv_has ls 12 [(7, .int (nI len)), (10, .int (nI dd)), (9, .int (nI fm)), (8, .int (nI i)), (6, .int (nI (lv + 1))), (5, .int (nI (1 <<< b))), (0, .ref zo), (1, .ref h), (2, .ref ys), (3, .int (nI u)), (4, .int (nI b))] → W p l e (rmN 3) s m args below meth c H locs 0 0 QQ (F0 m 110 ls []) := by
              intro n; induction n with
              | zero => intro dd len Fb Qb fb sb Mb Lb iD iL iC il iu ii im id4 ie hm; exact absurd hm (Nat.not_lt_zero _)
              | succ n ih110 =>
                intro dd len Fb Qb fb sb Mb Lb iD iL iC il iu ii im id4 ie hm110 H locs hP hD hS ls hl
                refine lv_iload hx hb dX1_slideFrom_110 (lv_at hl 1 rfl) ?_
                refine lv_iconst (v := nI 4) hx hb dX1_slideFrom_112 (by decide) ?_
                refine n_icmp_ge (a := dd) (b := 4) (tgt := 210) hx hb dX1_slideFrom_113 (by decide) (by omega) (by omega) (fun c113 => ?_) (fun c113 => ?_)
                · have _ : True := trivial
                  have e113 : dd = 4 := by omega
                  refine lv_iinc (v := nI (i + 1)) (lv' := [(8, .int (nI (i + 1))), (7, .int (nI len)), (10, .int (nI dd)), (9, .int (nI fm)), (6, .int (nI (lv + 1))), (5, .int (nI (1 <<< b))), (0, .ref zo), (1, .ref h), (2, .ref ys), (3, .int (nI u)), (4, .int (nI b))]) hx hb dX1_slideFrom_210 hl (k := 3) rfl (nI_1 _) (by decide) rfl (fun ls hl => ?_)
                  refine lv_goto (tgt := 79) hx hb dX1_slideFrom_213 (by decide) ?_
                  exact ih79 (i + 1) len Fb Qb fb sb Mb Lb iD iL (CLO_s iC im (fun d hd4 => ie d (by omega))) (by omega) iu (by omega) (by omega) _ _ hP hD hS _ (lv_sub hl [1, 0, 4, 5, 6, 7, 8, 9, 10] rfl)
                · have _ : True := trivial
                  refine lv_aload_n hx hb dX1_slideFrom_116 rfl (lv_at hl 8 rfl) ?_
                  refine lv_aload_n hx hb dX1_slideFrom_117 rfl (lv_at hl 7 rfl) ?_
                  refine lv_iload hx hb dX1_slideFrom_118 (lv_at hl 2 rfl) ?_
                  refine lv_iload hx hb dX1_slideFrom_120 (lv_at hl 10 rfl) ?_
                  refine lv_iload hx hb dX1_slideFrom_122 (lv_at hl 1 rfl) ?_
                  refine callV_i (As := [.ref h, .int (nI fm), .int (nI b), .int (nI dd)]) (rest := []) [6, 7, 8, 9, 10, 11, 12, 13, 14] hC hK hN hP hD rfl (by decide) hS 6 (ci := 5) rfl rfl rfl (c_X5_after l D cI cJ cB ys yk yp yt y1 y2 sz tm sse srm K P T h hs hw hh hp se wd hd nb wl st sl gl aq lb sh bw bh ps fm b dd k0 hf hsp htm (by omega) (by omega) (by omega) (by omega)) q594 md_X5_after rfl hl.1 rfl (Nat.le_of_ble_eq_true rfl) dX1_slideFrom_124 ⟨Nat.le_of_ble_eq_true rfl, Nat.le_of_ble_eq_true rfl⟩ ⟨Nat.le_of_ble_eq_true rfl, Nat.le_of_ble_eq_true rfl⟩ (fun r_124 w H locs hpost hP hD hS => ?_)
                  obtain ⟨r9_124, rfl, rfl, ha0, ha1, hab⟩ := hpost
                  have hP : va_P D vwCl (dkbW cI cJ cB zo zs (bI zb) zf (gI dgb) (gI dgp) (nI fb) (nI sb) (gI dgr) zq zm zl (fun zz => oI (Fb zz)) (fun zz => nI (Qb zz)) (fun zz => nI (Mb zz)) (fun zz => nI (Lb zz)) ys yk yp yt y1 y2 (nI sz) (bI tm) (gI sse) (gI srm) (fun zz => lN (K zz)) (fun zz => nI (P zz)) (fun zz => nI (T zz)) h hs hw hh hp (nI se) (nI wd) (nI hd) (nI wl) (nI nb) (nI (topv wd)) (nI (rcv wd hd)) (nI (btv wd hd)) (nI (lcv wd hd)) (gI gl) (gI aq) st sl (gI lb) (fun zz => nI (sh zz)) (fun zz => nI (bw zz)) (fun zz => nI (bh zz)) (fun zz => nI (ps zz))) H := hP
                  have hD : va_D A (dkbW cI cJ cB zo zs (bI zb) zf (gI dgb) (gI dgp) (nI fb) (nI sb) (gI dgr) zq zm zl (fun zz => oI (Fb zz)) (fun zz => nI (Qb zz)) (fun zz => nI (Mb zz)) (fun zz => nI (Lb zz)) ys yk yp yt y1 y2 (nI sz) (bI tm) (gI sse) (gI srm) (fun zz => lN (K zz)) (fun zz => nI (P zz)) (fun zz => nI (T zz)) h hs hw hh hp (nI se) (nI wd) (nI hd) (nI wl) (nI nb) (nI (topv wd)) (nI (rcv wd hd)) (nI (btv wd hd)) (nI (lcv wd hd)) (gI gl) (gI aq) st sl (gI lb) (fun zz => nI (sh zz)) (fun zz => nI (bw zz)) (fun zz => nI (bh zz)) (fun zz => nI (ps zz))) := hD
                  refine lv_istore (lv' := [(11, .int (oI r9_124)), (7, .int (nI len)), (10, .int (nI dd)), (9, .int (nI fm)), (8, .int (nI i)), (6, .int (nI (lv + 1))), (5, .int (nI (1 <<< b))), (0, .ref zo), (1, .ref h), (2, .ref ys), (3, .int (nI u)), (4, .int (nI b))]) hx hb dX1_slideFrom_127 hl (by decide) rfl (fun ls hl => ?_)
                  refine lv_iload hx hb dX1_slideFrom_129 (lv_at hl 0 rfl) ?_
                  refine o_if_lt (tgt := 204) hx hb dX1_slideFrom_131 (by decide) (fun d h => by have := hab d h; omega) (fun c131 => ?_) (fun d131 c131 => ?_)
                  · have _ : True := trivial
                    have hm9 : mvb wd hd nb wl sh bw bh srm (K fm) b dd = none := by
                      cases e : mvb wd hd nb wl sh bw bh srm (K fm) b dd with
                      | none => rfl
                      | some q => obtain ⟨i9, h9, -⟩ := ha1 q e; rw [c131] at h9; cases h9
                    refine lv_iinc (v := nI (dd + 1)) (lv' := [(10, .int (nI (dd + 1))), (11, .int (oI r9_124)), (7, .int (nI len)), (9, .int (nI fm)), (8, .int (nI i)), (6, .int (nI (lv + 1))), (5, .int (nI (1 <<< b))), (0, .ref zo), (1, .ref h), (2, .ref ys), (3, .int (nI u)), (4, .int (nI b))]) hx hb dX1_slideFrom_204 hl (k := 2) rfl (nI_1 _) (by decide) rfl (fun ls hl => ?_)
                    refine lv_goto (tgt := 110) hx hb dX1_slideFrom_207 (by decide) ?_
                    exact ih110 (dd + 1) len Fb Qb fb sb Mb Lb iD iL iC il iu ii im (by omega) (lt_s ie (fun q hq => by rw [hm9] at hq; cases hq)) (by omega) _ _ hP hD hS _ (lv_sub hl [2, 0, 3, 4, 5, 6, 7, 8, 9, 10, 11] rfl)
                  · have _ : True := trivial
                    have hmq : ∃ q, mvb wd hd nb wl sh bw bh srm (K fm) b dd = some q := by
                      cases e : mvb wd hd nb wl sh bw bh srm (K fm) b dd with
                      | none => rw [ha0 e] at c131; cases c131
                      | some q => exact ⟨q, rfl⟩
                    obtain ⟨q9, hq9⟩ := hmq
                    obtain ⟨i9, hi9, hto, hKto⟩ := ha1 q9 hq9
                    rw [c131] at hi9
                    cases hi9
                    have hcto : Rch (bst wd hd nb wl sh bw bh srm b) (K u) (K d131) := Rch_s hfc ⟨hrb, dd, by omega, q9, hq9, hKto⟩
                    have hmt7 := iL.2.2.2.2.2.2.1 d131
                    refine lv_aload_n hx hb dX1_slideFrom_134 rfl (lv_at hl 7 rfl) ?_
                    refine gf_X1_35 hC hK hP 0 rfl rfl dX1_slideFrom_135 ?_
                    refine gf_X1_78 hC hK hP 2 rfl rfl dX1_slideFrom_138 ?_
                    refine lv_iload hx hb dX1_slideFrom_141 (lv_at hl 0 rfl) ?_
                    refine topi (y := nI d131) (by rw [c131]; rfl) ?_
                    refine callN_i (As := [.ref zm, .int (nI d131)]) (rest := []) [4] hC hK hN hP hD rfl (by decide) hS (c_X7_at_N l D cI cJ cB zm 2000 d131 Mb (by omega) (by omega)) q584 md_X7_at rfl hl.1 rfl (Nat.le_of_ble_eq_true rfl) dX1_slideFrom_143 ⟨Nat.le_of_ble_eq_true rfl, Nat.le_of_ble_eq_true rfl⟩ ⟨Nat.le_of_ble_eq_true rfl, Nat.le_of_ble_eq_true rfl⟩ (fun r_143 w H locs hpost hP hD hS => ?_)
                    obtain ⟨rfl, rfl⟩ := hpost
                    have hP : va_P D vwCl (dkbW cI cJ cB zo zs (bI zb) zf (gI dgb) (gI dgp) (nI fb) (nI sb) (gI dgr) zq zm zl (fun zz => oI (Fb zz)) (fun zz => nI (Qb zz)) (fun zz => nI (Mb zz)) (fun zz => nI (Lb zz)) ys yk yp yt y1 y2 (nI sz) (bI tm) (gI sse) (gI srm) (fun zz => lN (K zz)) (fun zz => nI (P zz)) (fun zz => nI (T zz)) h hs hw hh hp (nI se) (nI wd) (nI hd) (nI wl) (nI nb) (nI (topv wd)) (nI (rcv wd hd)) (nI (btv wd hd)) (nI (lcv wd hd)) (gI gl) (gI aq) st sl (gI lb) (fun zz => nI (sh zz)) (fun zz => nI (bw zz)) (fun zz => nI (bh zz)) (fun zz => nI (ps zz))) H := hP
                    have hD : va_D A (dkbW cI cJ cB zo zs (bI zb) zf (gI dgb) (gI dgp) (nI fb) (nI sb) (gI dgr) zq zm zl (fun zz => oI (Fb zz)) (fun zz => nI (Qb zz)) (fun zz => nI (Mb zz)) (fun zz => nI (Lb zz)) ys yk yp yt y1 y2 (nI sz) (bI tm) (gI sse) (gI srm) (fun zz => lN (K zz)) (fun zz => nI (P zz)) (fun zz => nI (T zz)) h hs hw hh hp (nI se) (nI wd) (nI hd) (nI wl) (nI nb) (nI (topv wd)) (nI (rcv wd hd)) (nI (btv wd hd)) (nI (lcv wd hd)) (gI gl) (gI aq) st sl (gI lb) (fun zz => nI (sh zz)) (fun zz => nI (bw zz)) (fun zz => nI (bh zz)) (fun zz => nI (ps zz))) := hD
                    refine lv_iload hx hb dX1_slideFrom_146 (lv_at hl 6 rfl) ?_
                    refine n_iand hx hb dX1_slideFrom_148  ?_
                    refine n_if_ne (tgt := 204) hx hb dX1_slideFrom_149 (by decide) (Nat.lt_of_le_of_lt Nat.and_le_left (by omega)) (fun c149 => ?_) (fun c149 => ?_)
                    · have _ : True := trivial
                      have hmt := mbit_yes c149
                      refine lv_iinc (v := nI (dd + 1)) (lv' := [(10, .int (nI (dd + 1))), (11, .int (oI r9_124)), (7, .int (nI len)), (9, .int (nI fm)), (8, .int (nI i)), (6, .int (nI (lv + 1))), (5, .int (nI (1 <<< b))), (0, .ref zo), (1, .ref h), (2, .ref ys), (3, .int (nI u)), (4, .int (nI b))]) hx hb dX1_slideFrom_204 hl (k := 2) rfl (nI_1 _) (by decide) rfl (fun ls hl => ?_)
                      refine lv_goto (tgt := 110) hx hb dX1_slideFrom_207 (by decide) ?_
                      exact ih110 (dd + 1) len Fb Qb fb sb Mb Lb iD iL iC il iu ii im (by omega) (lt_s ie (fun q hq j hj hk => by rw [hq9] at hq; cases hq; rw [hinj j d131 hj hto (hk.trans hKto.symm)]; exact hmt)) (by omega) _ _ hP hD hS _ (lv_sub hl [2, 0, 3, 4, 5, 6, 7, 8, 9, 10, 11] rfl)
                    · have _ : True := trivial
                      have hmt := mbit_no c149
                      have hroom := LNI_room hf hku hbn hrb hinj iL hto hcto hmt
                      refine lv_aload_n hx hb dX1_slideFrom_152 rfl (lv_at hl 7 rfl) ?_
                      refine gf_X1_35 hC hK hP 0 rfl rfl dX1_slideFrom_153 ?_
                      refine gf_X1_78 hC hK hP 2 rfl rfl dX1_slideFrom_156 ?_
                      refine lv_iload hx hb dX1_slideFrom_159 (lv_at hl 0 rfl) ?_
                      refine topi (y := nI d131) (by rw [c131]; rfl) ?_
                      refine lv_aload_n hx hb dX1_slideFrom_161 rfl (lv_at hl 7 rfl) ?_
                      refine gf_X1_35 hC hK hP 0 rfl rfl dX1_slideFrom_162 ?_
                      refine gf_X1_78 hC hK hP 2 rfl rfl dX1_slideFrom_165 ?_
                      refine lv_iload hx hb dX1_slideFrom_168 (lv_at hl 0 rfl) ?_
                      refine topi (y := nI d131) (by rw [c131]; rfl) ?_
                      refine callN_i (As := [.ref zm, .int (nI d131)]) (rest := [.int (nI d131), .ref zm]) [4] hC hK hN hP hD rfl (by decide) hS (c_X7_at_N l D cI cJ cB zm 2000 d131 Mb (by omega) (by omega)) q584 md_X7_at rfl hl.1 rfl (Nat.le_of_ble_eq_true rfl) dX1_slideFrom_170 ⟨Nat.le_of_ble_eq_true rfl, Nat.le_of_ble_eq_true rfl⟩ ⟨Nat.le_of_ble_eq_true rfl, Nat.le_of_ble_eq_true rfl⟩ (fun r_170 w H locs hpost hP hD hS => ?_)
                      obtain ⟨rfl, rfl⟩ := hpost
                      have hP : va_P D vwCl (dkbW cI cJ cB zo zs (bI zb) zf (gI dgb) (gI dgp) (nI fb) (nI sb) (gI dgr) zq zm zl (fun zz => oI (Fb zz)) (fun zz => nI (Qb zz)) (fun zz => nI (Mb zz)) (fun zz => nI (Lb zz)) ys yk yp yt y1 y2 (nI sz) (bI tm) (gI sse) (gI srm) (fun zz => lN (K zz)) (fun zz => nI (P zz)) (fun zz => nI (T zz)) h hs hw hh hp (nI se) (nI wd) (nI hd) (nI wl) (nI nb) (nI (topv wd)) (nI (rcv wd hd)) (nI (btv wd hd)) (nI (lcv wd hd)) (gI gl) (gI aq) st sl (gI lb) (fun zz => nI (sh zz)) (fun zz => nI (bw zz)) (fun zz => nI (bh zz)) (fun zz => nI (ps zz))) H := hP
                      have hD : va_D A (dkbW cI cJ cB zo zs (bI zb) zf (gI dgb) (gI dgp) (nI fb) (nI sb) (gI dgr) zq zm zl (fun zz => oI (Fb zz)) (fun zz => nI (Qb zz)) (fun zz => nI (Mb zz)) (fun zz => nI (Lb zz)) ys yk yp yt y1 y2 (nI sz) (bI tm) (gI sse) (gI srm) (fun zz => lN (K zz)) (fun zz => nI (P zz)) (fun zz => nI (T zz)) h hs hw hh hp (nI se) (nI wd) (nI hd) (nI wl) (nI nb) (nI (topv wd)) (nI (rcv wd hd)) (nI (btv wd hd)) (nI (lcv wd hd)) (gI gl) (gI aq) st sl (gI lb) (fun zz => nI (sh zz)) (fun zz => nI (bw zz)) (fun zz => nI (bh zz)) (fun zz => nI (ps zz))) := hD
                      refine lv_iload hx hb dX1_slideFrom_173 (lv_at hl 6 rfl) ?_
                      refine n_ior hx hb dX1_slideFrom_175  ?_
                      refine callN_v (As := [.ref zm, .int (nI d131), .int (nI ((Mb d131) ||| (1 <<< b)))]) (rest := []) [4] hC hK hN hP hD rfl (by decide) hS (c_X7_put_N l D cI cJ cB zm 2000 d131 Mb ((Mb d131) ||| (1 <<< b)) (by omega) (by omega)) q585 md_X7_put rfl hl.1 rfl (Nat.le_of_ble_eq_true rfl) dX1_slideFrom_176 ⟨Nat.le_of_ble_eq_true rfl, Nat.le_of_ble_eq_true rfl⟩ ⟨Nat.le_of_ble_eq_true rfl, Nat.le_of_ble_eq_true rfl⟩ (fun w H locs hpost hP hD hS => ?_)
                      obtain rfl := hpost
                      have hP : va_P D vwCl (dkbW cI cJ cB zo zs (bI zb) zf (gI dgb) (gI dgp) (nI fb) (nI sb) (gI dgr) zq zm zl (fun zz => oI (Fb zz)) (fun zz => nI (Qb zz)) (fun zz => nI ((va_up Mb d131 ((Mb d131) ||| (1 <<< b))) zz)) (fun zz => nI (Lb zz)) ys yk yp yt y1 y2 (nI sz) (bI tm) (gI sse) (gI srm) (fun zz => lN (K zz)) (fun zz => nI (P zz)) (fun zz => nI (T zz)) h hs hw hh hp (nI se) (nI wd) (nI hd) (nI wl) (nI nb) (nI (topv wd)) (nI (rcv wd hd)) (nI (btv wd hd)) (nI (lcv wd hd)) (gI gl) (gI aq) st sl (gI lb) (fun zz => nI (sh zz)) (fun zz => nI (bw zz)) (fun zz => nI (bh zz)) (fun zz => nI (ps zz))) H := hP
                      have hD : va_D A (dkbW cI cJ cB zo zs (bI zb) zf (gI dgb) (gI dgp) (nI fb) (nI sb) (gI dgr) zq zm zl (fun zz => oI (Fb zz)) (fun zz => nI (Qb zz)) (fun zz => nI ((va_up Mb d131 ((Mb d131) ||| (1 <<< b))) zz)) (fun zz => nI (Lb zz)) ys yk yp yt y1 y2 (nI sz) (bI tm) (gI sse) (gI srm) (fun zz => lN (K zz)) (fun zz => nI (P zz)) (fun zz => nI (T zz)) h hs hw hh hp (nI se) (nI wd) (nI hd) (nI wl) (nI nb) (nI (topv wd)) (nI (rcv wd hd)) (nI (btv wd hd)) (nI (lcv wd hd)) (gI gl) (gI aq) st sl (gI lb) (fun zz => nI (sh zz)) (fun zz => nI (bw zz)) (fun zz => nI (bh zz)) (fun zz => nI (ps zz))) := hD
                      refine lv_aload_n hx hb dX1_slideFrom_179 rfl (lv_at hl 7 rfl) ?_
                      refine gf_X1_35 hC hK hP 0 rfl rfl dX1_slideFrom_180 ?_
                      refine gf_X1_107 hC hK hP 2 rfl rfl dX1_slideFrom_183 ?_
                      refine lv_iload hx hb dX1_slideFrom_186 (lv_at hl 1 rfl) ?_
                      refine lv_iload hx hb dX1_slideFrom_188 (lv_at hl 0 rfl) ?_
                      refine topi (y := nI d131) (by rw [c131]; rfl) ?_
                      refine callN_v (As := [.ref zl, .int (nI len), .int (nI d131)]) (rest := []) [5] hC hK hN hP hD rfl (by decide) hS (c_X7_put_N l D cI cJ cB zl 24 len Lb d131 hroom (by omega)) q585 md_X7_put rfl hl.1 rfl (Nat.le_of_ble_eq_true rfl) dX1_slideFrom_190 ⟨Nat.le_of_ble_eq_true rfl, Nat.le_of_ble_eq_true rfl⟩ ⟨Nat.le_of_ble_eq_true rfl, Nat.le_of_ble_eq_true rfl⟩ (fun w H locs hpost hP hD hS => ?_)
                      obtain rfl := hpost
                      have hP : va_P D vwCl (dkbW cI cJ cB zo zs (bI zb) zf (gI dgb) (gI dgp) (nI fb) (nI sb) (gI dgr) zq zm zl (fun zz => oI (Fb zz)) (fun zz => nI (Qb zz)) (fun zz => nI ((va_up Mb d131 ((Mb d131) ||| (1 <<< b))) zz)) (fun zz => nI ((va_up Lb len d131) zz)) ys yk yp yt y1 y2 (nI sz) (bI tm) (gI sse) (gI srm) (fun zz => lN (K zz)) (fun zz => nI (P zz)) (fun zz => nI (T zz)) h hs hw hh hp (nI se) (nI wd) (nI hd) (nI wl) (nI nb) (nI (topv wd)) (nI (rcv wd hd)) (nI (btv wd hd)) (nI (lcv wd hd)) (gI gl) (gI aq) st sl (gI lb) (fun zz => nI (sh zz)) (fun zz => nI (bw zz)) (fun zz => nI (bh zz)) (fun zz => nI (ps zz))) H := hP
                      have hD : va_D A (dkbW cI cJ cB zo zs (bI zb) zf (gI dgb) (gI dgp) (nI fb) (nI sb) (gI dgr) zq zm zl (fun zz => oI (Fb zz)) (fun zz => nI (Qb zz)) (fun zz => nI ((va_up Mb d131 ((Mb d131) ||| (1 <<< b))) zz)) (fun zz => nI ((va_up Lb len d131) zz)) ys yk yp yt y1 y2 (nI sz) (bI tm) (gI sse) (gI srm) (fun zz => lN (K zz)) (fun zz => nI (P zz)) (fun zz => nI (T zz)) h hs hw hh hp (nI se) (nI wd) (nI hd) (nI wl) (nI nb) (nI (topv wd)) (nI (rcv wd hd)) (nI (btv wd hd)) (nI (lcv wd hd)) (gI gl) (gI aq) st sl (gI lb) (fun zz => nI (sh zz)) (fun zz => nI (bw zz)) (fun zz => nI (bh zz)) (fun zz => nI (ps zz))) := hD
                      refine lv_iinc (v := nI (len + 1)) (lv' := [(7, .int (nI (len + 1))), (11, .int (oI r9_124)), (10, .int (nI dd)), (9, .int (nI fm)), (8, .int (nI i)), (6, .int (nI (lv + 1))), (5, .int (nI (1 <<< b))), (0, .ref zo), (1, .ref h), (2, .ref ys), (3, .int (nI u)), (4, .int (nI b))]) hx hb dX1_slideFrom_193 hl (k := 1) rfl (nI_1 _) (by decide) rfl (fun ls hl => ?_)
                      refine lv_aload_n hx hb dX1_slideFrom_196 rfl (lv_at hl 7 rfl) ?_
                      refine lv_iload hx hb dX1_slideFrom_197 (lv_at hl 1 rfl) ?_
                      refine topi (y := nI d131) (by rw [c131]; rfl) ?_
                      refine lv_iload hx hb dX1_slideFrom_199 (lv_at hl 5 rfl) ?_
                      refine callV_v (As := [.int (nI d131), .int (nI (lv + 1))]) (rest := []) [0, 1, 2, 3, 4, 5] hC hK hN hP hD rfl (by decide) hS 0 (ci := 1) rfl rfl rfl (c_X1_reach l D cI cJ cB zo zs zf zq zm zl fb sb zb dgb dgp dgr Fb Qb (va_up Mb d131 ((Mb d131) ||| (1 <<< b))) (va_up Lb len d131) d131 (lv + 1) (by omega) (fun d h => by have := (DST_b iD h).2; omega) (fun h => by have := DST_m iD hto h; omega)) q580 md_X1_reach rfl hl.1 rfl (Nat.le_of_ble_eq_true rfl) dX1_slideFrom_201 ⟨Nat.le_of_ble_eq_true rfl, Nat.le_of_ble_eq_true rfl⟩ ⟨Nat.le_of_ble_eq_true rfl, Nat.le_of_ble_eq_true rfl⟩ (fun w H locs hpost hP hD hS => ?_)
                      obtain ⟨F2_201, Q2_201, fo2_201, su2_201, rfl, hrc⟩ := hpost
                      have hP : va_P D vwCl (dkbW cI cJ cB zo zs (bI zb) zf (gI dgb) (gI dgp) (nI fo2_201) (nI su2_201) (gI dgr) zq zm zl (fun zz => oI (F2_201 zz)) (fun zz => nI (Q2_201 zz)) (fun zz => nI ((va_up Mb d131 ((Mb d131) ||| (1 <<< b))) zz)) (fun zz => nI ((va_up Lb len d131) zz)) ys yk yp yt y1 y2 (nI sz) (bI tm) (gI sse) (gI srm) (fun zz => lN (K zz)) (fun zz => nI (P zz)) (fun zz => nI (T zz)) h hs hw hh hp (nI se) (nI wd) (nI hd) (nI wl) (nI nb) (nI (topv wd)) (nI (rcv wd hd)) (nI (btv wd hd)) (nI (lcv wd hd)) (gI gl) (gI aq) st sl (gI lb) (fun zz => nI (sh zz)) (fun zz => nI (bw zz)) (fun zz => nI (bh zz)) (fun zz => nI (ps zz))) H := hP
                      have hD : va_D A (dkbW cI cJ cB zo zs (bI zb) zf (gI dgb) (gI dgp) (nI fo2_201) (nI su2_201) (gI dgr) zq zm zl (fun zz => oI (F2_201 zz)) (fun zz => nI (Q2_201 zz)) (fun zz => nI ((va_up Mb d131 ((Mb d131) ||| (1 <<< b))) zz)) (fun zz => nI ((va_up Lb len d131) zz)) ys yk yp yt y1 y2 (nI sz) (bI tm) (gI sse) (gI srm) (fun zz => lN (K zz)) (fun zz => nI (P zz)) (fun zz => nI (T zz)) h hs hw hh hp (nI se) (nI wd) (nI hd) (nI wl) (nI nb) (nI (topv wd)) (nI (rcv wd hd)) (nI (btv wd hd)) (nI (lcv wd hd)) (gI gl) (gI aq) st sl (gI lb) (fun zz => nI (sh zz)) (fun zz => nI (bw zz)) (fun zz => nI (bh zz)) (fun zz => nI (ps zz))) := hD
                      obtain ⟨hD2, hn2, hk2⟩ := DST_r iD hto (show mvk wd hd nb wl sh bw bh srm true (K u) (K d131) from ⟨b, hbn, hrb, Rb_mvk1 hf hku hbn hcto (fun e => hmt (by rw [hinj d131 u hto hun e]; exact iu))⟩) hrc
                      have hub : (va_up Mb d131 (Mb d131 ||| 1 <<< b) u).testBit b = true := by by_cases e : u = d131; (rw [e, up_eq]; exact or_bit.mpr (Or.inr rfl)); (rw [up_ne Mb e]; exact iu)
                      refine lv_iinc (v := nI (dd + 1)) (lv' := [(10, .int (nI (dd + 1))), (7, .int (nI (len + 1))), (11, .int (oI r9_124)), (9, .int (nI fm)), (8, .int (nI i)), (6, .int (nI (lv + 1))), (5, .int (nI (1 <<< b))), (0, .ref zo), (1, .ref h), (2, .ref ys), (3, .int (nI u)), (4, .int (nI b))]) hx hb dX1_slideFrom_204 hl (k := 2) rfl (nI_1 _) (by decide) rfl (fun ls hl => ?_)
                      refine lv_goto (tgt := 110) hx hb dX1_slideFrom_207 (by decide) ?_
                      exact ih110 (dd + 1) (len + 1) F2_201 Q2_201 fo2_201 su2_201 (va_up Mb d131 ((Mb d131) ||| (1 <<< b))) (va_up Lb len d131) hD2 (LNI_push iL (by omega) hto hcto hmt hn2 hk2) (CLO_push iC (by omega)) (by omega) hub (by omega) (by rw [up_ne Lb (by omega)]; exact im) (by omega) (lt_s (fun d hd9 q hq j hj hk => by by_cases e : j = d131; (rw [e, up_eq]; exact or_bit.mpr (Or.inr rfl)); (rw [up_ne Mb e]; exact ie d hd9 q hq j hj hk)) (fun q hq j hj hk => by rw [hq9] at hq; cases hq; rw [hinj j d131 hj hto (hk.trans hKto.symm), up_eq]; exact or_bit.mpr (Or.inr rfl))) (by omega) _ _ hP hD hS _ (lv_sub hl [1, 0, 3, 4, 5, 6, 7, 8, 9, 10, 11] rfl)
            exact L110 _ 0 len Fb Qb fb sb Mb Lb iD iL iC (by omega) iu (by omega) hfm.symm (by omega) (fun d h => absurd h (Nat.not_lt_zero d)) (Nat.lt_succ_self _) _ _ hP hD hS _ (lv_sub hl [2, 0, 1, 3, 4, 5, 6, 7, 8, 9, 10] rfl)
    exact L79 _ 0 1 Fa Qa fo su (va_up Ma u ((Ma u) ||| (1 <<< b))) (va_up La 0 u) hDs (LNI_0 (by omega) hun hMK.2 (by rw [cF_lt hun]; exact hfu)) (fun p h => absurd h (Nat.not_lt_zero p)) (by omega) (by rw [up_eq]; exact or_bit.mpr (Or.inr rfl)) (by omega) (Nat.lt_succ_self _) _ _ hP hD hS _ (lv_sub hl [1, 0, 2, 3, 4, 5, 6, 7, 8] rfl)
  · have _ : True := trivial
    have h0 := mbit_yes c20
    rw [hQ]
    exact W.vret hx hb hr (fun t9 ht hW => ⟨⟨_, rfl, ⟨Fa, Qa, fo, su, Ma, La, rfl, hDs, (fun j e h => h), (fun x hx j hj hk => by rw [← hk] at hx; obtain ⟨-, e, h1, h2⟩ := hMK.1 u hun b hbn h0 j hj (mvk1_Rb hf hku hbn hrb hx); exact ⟨e, h1, by omega⟩), (MKI_le hMK hbd (fun j e h => h))⟩, by rw [ht]; exact hP, rfl⟩, hS.F ht⟩) hS.2.2 dX1_slideFrom_23
