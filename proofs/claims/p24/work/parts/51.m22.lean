abbrev aWc (cI cJ cB : ClassId) (ra : Nat) (rb : Nat) (rf : Nat → Int32) (rg : Nat → Int32) : va_W := [(ra, .inl (cI, 7, .inl rf)), (rb, .inl (cI, 7, .inl rg))]
abbrev b2W (cI cJ cB : ClassId) (h : Nat) (hs : Nat) (hw : Nat) (hh : Nat) (hp : Nat) (bse : Int32) (bwi : Int32) (bhe : Int32) (bwa : Int32) (bco : Int32) (btr : Int32) (brc : Int32) (bbr : Int32) (blc : Int32) (bgb : Int32) (bgp : Int32) (bst : Int32) (bsl : Int32) (bla : Int32) (bsh : Nat → Int32) (bwd : Nat → Int32) (bhg : Nat → Int32) (bsp : Nat → Int32) (h2 : Nat) (hs2 : Nat) (hw2 : Nat) (hh2 : Nat) (hp2 : Nat) (bse2 : Int32) (bwi2 : Int32) (bhe2 : Int32) (bwa2 : Int32) (bco2 : Int32) (btr2 : Int32) (brc2 : Int32) (bbr2 : Int32) (blc2 : Int32) (bgb2 : Int32) (bgp2 : Int32) (bst2 : Int32) (bsl2 : Int32) (bla2 : Int32) (bsh2 : Nat → Int32) (bwd2 : Nat → Int32) (bhg2 : Nat → Int32) (bsp2 : Nat → Int32) : va_W := [(h, .inr (0, [.int bse, .int bwi, .int bhe, .int bwa, .int bco, .int btr, .int brc, .int bbr, .int blc, .ref hs, .ref hw, .ref hh, .ref hp, .int bgb, .int bgp, .int bst, .int bsl, .int bla])), (hs, .inl (cI, 7, .inl bsh)), (hw, .inl (cI, 7, .inl bwd)), (hh, .inl (cI, 7, .inl bhg)), (hp, .inl (cI, 7, .inl bsp)), (h2, .inr (0, [.int bse2, .int bwi2, .int bhe2, .int bwa2, .int bco2, .int btr2, .int brc2, .int bbr2, .int blc2, .ref hs2, .ref hw2, .ref hh2, .ref hp2, .int bgb2, .int bgp2, .int bst2, .int bsl2, .int bla2])), (hs2, .inl (cI, 7, .inl bsh2)), (hw2, .inl (cI, 7, .inl bwd2)), (hh2, .inl (cI, 7, .inl bhg2)), (hp2, .inl (cI, 7, .inl bsp2))]
abbrev hoW (cI cJ cB : ClassId) (ho hka : Nat) (hfi hsz : Int32) (xb : Nat → Nat → Nat) : va_W := [(ho, .inr (2, [.ref hka, .int hfi, .int hsz])), (hka, .inl (cB, 10, .inr (.inr (.inr (.inr (fun k => some (xb k 0)))))))]
abbrev hbW (cI cJ cB : ClassId) (ho : Nat) (hka : Nat) (hfi : Int32) (hsz : Int32) (xb : Nat → Nat → Nat) (Dd : Nat → BT) (h : Nat) (hs : Nat) (hw : Nat) (hh : Nat) (hp : Nat) (bse : Int32) (bwi : Int32) (bhe : Int32) (bwa : Int32) (bco : Int32) (btr : Int32) (brc : Int32) (bbr : Int32) (blc : Int32) (bgb : Int32) (bgp : Int32) (bst : Int32) (bsl : Int32) (bla : Int32) (bsh : Nat → Int32) (bwd : Nat → Int32) (bhg : Nat → Int32) (bsp : Nat → Int32) : va_W := bW cI cJ cB h hs hw hh hp bse bwi bhe bwa bco btr brc bbr blc bgb bgp bst bsl bla bsh bwd bhg bsp ++ hiW cI cJ cB ho hka hfi hsz xb Dd
abbrev bhW (cI cJ cB : ClassId) (h : Nat) (hs : Nat) (hw : Nat) (hh : Nat) (hp : Nat) (bse : Int32) (bwi : Int32) (bhe : Int32) (bwa : Int32) (bco : Int32) (btr : Int32) (brc : Int32) (bbr : Int32) (blc : Int32) (bgb : Int32) (bgp : Int32) (bst : Int32) (bsl : Int32) (bla : Int32) (bsh : Nat → Int32) (bwd : Nat → Int32) (bhg : Nat → Int32) (bsp : Nat → Int32) (HW : va_W) : va_W := bW cI cJ cB h hs hw hh hp bse bwi bhe bwa bco btr brc bbr blc bgb bgp bst bsl bla bsh bwd bhg bsp ++ HW
abbrev ixk (i : Nat) : List Nat := [7 + 5 * i, 8 + 5 * i, 9 + 5 * i, 10 + 5 * i, 11 + 5 * i, 0, 1, 2, 3, 4]
abbrev ixj (i : Nat) : List Nat := [0, 1, 2, 3, 4, 7 + 5 * i, 8 + 5 * i, 9 + 5 * i, 10 + 5 * i, 11 + 5 * i]
theorem ixk_n (i : Nat) (hi : i < 10) : (ixk i).Nodup := by rcases (by omega : i = 0 ∨ i = 1 ∨ i = 2 ∨ i = 3 ∨ i = 4 ∨ i = 5 ∨ i = 6 ∨ i = 7 ∨ i = 8 ∨ i = 9) with rfl | rfl | rfl | rfl | rfl | rfl | rfl | rfl | rfl | rfl <;> decide
theorem ixj_n (i : Nat) (hi : i < 10) : (ixj i).Nodup := by rcases (by omega : i = 0 ∨ i = 1 ∨ i = 2 ∨ i = 3 ∨ i = 4 ∨ i = 5 ∨ i = 6 ∨ i = 7 ∨ i = 8 ∨ i = 9) with rfl | rfl | rfl | rfl | rfl | rfl | rfl | rfl | rfl | rfl <;> decide
set_option maxRecDepth 100000 in
theorem hb_pick (cI cJ cB : ClassId) (ho : Nat) (hka : Nat) (hfi : Int32) (hsz : Int32) (xb : Nat → Nat → Nat) (Dd : Nat → BT) (h : Nat) (hs : Nat) (hw : Nat) (hh : Nat) (hp : Nat) (bse : Int32) (bwi : Int32) (bhe : Int32) (bwa : Int32) (bco : Int32) (btr : Int32) (brc : Int32) (bbr : Int32) (blc : Int32) (bgb : Int32) (bgp : Int32) (bst : Int32) (bsl : Int32) (bla : Int32) (bsh : Nat → Int32) (bwd : Nat → Int32) (bhg : Nat → Int32) (bsp : Nat → Int32) (i : Nat) (hi : i < 10) : (ixk i).map (fun k => (hbW cI cJ cB ho hka hfi hsz xb Dd h hs hw hh hp bse bwi bhe bwa bco btr brc bbr blc bgb bgp bst bsl bla bsh bwd bhg bsp)[k]?) = (bTW cI cJ cB (xb i) (Dd i) ++ bW cI cJ cB h hs hw hh hp bse bwi bhe bwa bco btr brc bbr blc bgb bgp bst bsl bla bsh bwd bhg bsp).map some := by rcases (by omega : i = 0 ∨ i = 1 ∨ i = 2 ∨ i = 3 ∨ i = 4 ∨ i = 5 ∨ i = 6 ∨ i = 7 ∨ i = 8 ∨ i = 9) with rfl | rfl | rfl | rfl | rfl | rfl | rfl | rfl | rfl | rfl <;> rfl
set_option maxRecDepth 100000 in
theorem hb_pick2 (cI cJ cB : ClassId) (ho : Nat) (hka : Nat) (hfi : Int32) (hsz : Int32) (xb : Nat → Nat → Nat) (Dd : Nat → BT) (h : Nat) (hs : Nat) (hw : Nat) (hh : Nat) (hp : Nat) (bse : Int32) (bwi : Int32) (bhe : Int32) (bwa : Int32) (bco : Int32) (btr : Int32) (brc : Int32) (bbr : Int32) (blc : Int32) (bgb : Int32) (bgp : Int32) (bst : Int32) (bsl : Int32) (bla : Int32) (bsh : Nat → Int32) (bwd : Nat → Int32) (bhg : Nat → Int32) (bsp : Nat → Int32) (i : Nat) (hi : i < 10) : (ixj i).map (fun k => (hbW cI cJ cB ho hka hfi hsz xb Dd h hs hw hh hp bse bwi bhe bwa bco btr brc bbr blc bgb bgp bst bsl bla bsh bwd bhg bsp)[k]?) = (bW cI cJ cB h hs hw hh hp bse bwi bhe bwa bco btr brc bbr blc bgb bgp bst bsl bla bsh bwd bhg bsp ++ bTW cI cJ cB (xb i) (Dd i)).map some := by rcases (by omega : i = 0 ∨ i = 1 ∨ i = 2 ∨ i = 3 ∨ i = 4 ∨ i = 5 ∨ i = 6 ∨ i = 7 ∨ i = 8 ∨ i = 9) with rfl | rfl | rfl | rfl | rfl | rfl | rfl | rfl | rfl | rfl <;> rfl
set_option maxRecDepth 100000 in
theorem hb_put (cI cJ cB : ClassId) (ho : Nat) (hka : Nat) (hfi : Int32) (hsz : Int32) (xb : Nat → Nat → Nat) (Dd : Nat → BT) (h : Nat) (hs : Nat) (hw : Nat) (hh : Nat) (hp : Nat) (bse : Int32) (bwi : Int32) (bhe : Int32) (bwa : Int32) (bco : Int32) (btr : Int32) (brc : Int32) (bbr : Int32) (blc : Int32) (bgb : Int32) (bgp : Int32) (bst : Int32) (bsl : Int32) (bla : Int32) (bsh : Nat → Int32) (bwd : Nat → Int32) (bhg : Nat → Int32) (bsp : Nat → Int32) (i : Nat) (hi : i < 10) (se wd hd nb wl : Nat) (st sl : Int32) (gl aq lb : Option Nat) (sh bw bh ps : Nat → Nat) : wput (hbW cI cJ cB ho hka hfi hsz xb Dd h hs hw hh hp bse bwi bhe bwa bco btr brc bbr blc bgb bgp bst bsl bla bsh bwd bhg bsp) (ixk i) (b2W cI cJ cB (xb i 0) (xb i 1) (xb i 2) (xb i 3) (xb i 4) (nI se) (nI wd) (nI hd) (nI wl) (nI nb) (nI (topv wd)) (nI (rcv wd hd)) (nI (btv wd hd)) (nI (lcv wd hd)) (gI gl) (gI aq) st sl (gI lb) (fun zz => nI (sh zz)) (fun zz => nI (bw zz)) (fun zz => nI (bh zz)) (fun zz => nI (ps zz)) h hs hw hh hp (nI se) (nI wd) (nI hd) (nI wl) (nI nb) (nI (topv wd)) (nI (rcv wd hd)) (nI (btv wd hd)) (nI (lcv wd hd)) (gI gl) (gI aq) st sl (gI lb) (fun zz => nI (sh zz)) (fun zz => nI (bw zz)) (fun zz => nI (bh zz)) (fun zz => nI (ps zz))) = hbW cI cJ cB ho hka hfi hsz xb (va_up Dd i (tup se wd hd nb wl st sl gl aq lb sh bw bh ps)) h hs hw hh hp (nI se) (nI wd) (nI hd) (nI wl) (nI nb) (nI (topv wd)) (nI (rcv wd hd)) (nI (btv wd hd)) (nI (lcv wd hd)) (gI gl) (gI aq) st sl (gI lb) (fun zz => nI (sh zz)) (fun zz => nI (bw zz)) (fun zz => nI (bh zz)) (fun zz => nI (ps zz)) := by rcases (by omega : i = 0 ∨ i = 1 ∨ i = 2 ∨ i = 3 ∨ i = 4 ∨ i = 5 ∨ i = 6 ∨ i = 7 ∨ i = 8 ∨ i = 9) with rfl | rfl | rfl | rfl | rfl | rfl | rfl | rfl | rfl | rfl <;> rfl
set_option maxRecDepth 100000 in
theorem hb_put2 (cI cJ cB : ClassId) (ho : Nat) (hka : Nat) (hfi : Int32) (hsz : Int32) (xb : Nat → Nat → Nat) (Dd : Nat → BT) (h : Nat) (hs : Nat) (hw : Nat) (hh : Nat) (hp : Nat) (bse : Int32) (bwi : Int32) (bhe : Int32) (bwa : Int32) (bco : Int32) (btr : Int32) (brc : Int32) (bbr : Int32) (blc : Int32) (bgb : Int32) (bgp : Int32) (bst : Int32) (bsl : Int32) (bla : Int32) (bsh : Nat → Int32) (bwd : Nat → Int32) (bhg : Nat → Int32) (bsp : Nat → Int32) (i : Nat) (hi : i < 10) : wput (hbW cI cJ cB ho hka hfi hsz xb Dd h hs hw hh hp bse bwi bhe bwa bco btr brc bbr blc bgb bgp bst bsl bla bsh bwd bhg bsp) (ixj i) (b2W cI cJ cB h hs hw hh hp (nI (tse (Dd i))) (nI (twd (Dd i))) (nI (thd (Dd i))) (nI (twl (Dd i))) (nI (tnb (Dd i))) (nI (topv (twd (Dd i)))) (nI (rcv (twd (Dd i)) (thd (Dd i)))) (nI (btv (twd (Dd i)) (thd (Dd i)))) (nI (lcv (twd (Dd i)) (thd (Dd i)))) (gI (tgl (Dd i))) (gI (taq (Dd i))) (tst (Dd i)) (tsl (Dd i)) (gI (tlb (Dd i))) (fun zz => nI ((tsh (Dd i)) zz)) (fun zz => nI ((tbw (Dd i)) zz)) (fun zz => nI ((tbh (Dd i)) zz)) (fun zz => nI ((tps (Dd i)) zz)) (xb i 0) (xb i 1) (xb i 2) (xb i 3) (xb i 4) (nI (tse (Dd i))) (nI (twd (Dd i))) (nI (thd (Dd i))) (nI (twl (Dd i))) (nI (tnb (Dd i))) (nI (topv (twd (Dd i)))) (nI (rcv (twd (Dd i)) (thd (Dd i)))) (nI (btv (twd (Dd i)) (thd (Dd i)))) (nI (lcv (twd (Dd i)) (thd (Dd i)))) (gI (tgl (Dd i))) (gI (taq (Dd i))) (tst (Dd i)) (tsl (Dd i)) (gI (tlb (Dd i))) (fun zz => nI ((tsh (Dd i)) zz)) (fun zz => nI ((tbw (Dd i)) zz)) (fun zz => nI ((tbh (Dd i)) zz)) (fun zz => nI ((tps (Dd i)) zz))) = hbW cI cJ cB ho hka hfi hsz xb Dd h hs hw hh hp (nI (tse (Dd i))) (nI (twd (Dd i))) (nI (thd (Dd i))) (nI (twl (Dd i))) (nI (tnb (Dd i))) (nI (topv (twd (Dd i)))) (nI (rcv (twd (Dd i)) (thd (Dd i)))) (nI (btv (twd (Dd i)) (thd (Dd i)))) (nI (lcv (twd (Dd i)) (thd (Dd i)))) (gI (tgl (Dd i))) (gI (taq (Dd i))) (tst (Dd i)) (tsl (Dd i)) (gI (tlb (Dd i))) (fun zz => nI ((tsh (Dd i)) zz)) (fun zz => nI ((tbw (Dd i)) zz)) (fun zz => nI ((tbh (Dd i)) zz)) (fun zz => nI ((tps (Dd i)) zz)) := by rcases (by omega : i = 0 ∨ i = 1 ∨ i = 2 ∨ i = 3 ∨ i = 4 ∨ i = 5 ∨ i = 6 ∨ i = 7 ∨ i = 8 ∨ i = 9) with rfl | rfl | rfl | rfl | rfl | rfl | rfl | rfl | rfl | rfl <;> rfl
set_option maxHeartbeats 400000 in
set_option maxRecDepth 100000 in
theorem c_X7_copyRow (l : Launch) (D : va_G) (cI cJ cB : ClassId) (ra rb : Nat) (rf rg : Nat → Nat)  : Met l yX7_copyRow (Cond.code yX7_copyRow cX7_copyRow 2 none :: lw_all) (rmN 1) (va_Pc [.ref ra, .ref rb] (pB D (tyz cI cJ cB) (aWc cI cJ cB ra rb (fun zz => nI (rf zz)) (fun zz => nI (rg zz))))) (va_Qv (fun (w : va_W) => w = aWc cI cJ cB ra rb (fun zz => nI (rf zz)) (fun zz => nI (rf zz))) (gB D (aWc cI cJ cB ra rb (fun zz => nI (rf zz)) (fun zz => nI (rg zz)))) (aW (aWc cI cJ cB ra rb (fun zz => nI (rf zz)) (fun zz => nI (rg zz))))) 0 0 (aW (aWc cI cJ cB ra rb (fun zz => nI (rf zz)) (fun zz => nI (rg zz)))) := by
  refine Met.ofW (cc := cX7_copyRow) (maxL := 2) (ret := none) (by decide) rfl ?_
  intro p e s m args below meth c s₁ B hml hv
  obtain ⟨rfl, hK, hN, hP, hD0⟩ := hv
  have hx := B.exec; have hb := B.bytes; have hr := B.returns; have hlocks := B.notSynchronized
  have hts0 := atoms_spec (ws := Cond.code yX7_copyRow cX7_copyRow 2 none :: lw_all) B.pre
  have hC : CallFix p m c cX7_copyRow 2 s _ lw_all RX7 := ⟨hx, hb, hml, findClass_of_methodNamed B.named, fun w h => hts0 w (List.mem_cons_of_mem _ h)⟩
  have hD : va_D (aW (aWc cI cJ cB ra rb (fun zz => nI (rf zz)) (fun zz => nI (rg zz)))) (aWc cI cJ cB ra rb (fun zz => nI (rf zz)) (fun zz => nI (rg zz))) := ⟨hD0.1, fun k q h => ⟨k, q.2, h⟩⟩
  generalize hAe : aW (aWc cI cJ cB ra rb (fun zz => nI (rf zz)) (fun zz => nI (rg zz))) = A at hD ⊢
  have hS : va_S A s.heap s.heap [] := va_S.rf
  have hl := lv_entry ([.ref ra, .ref rb]) (n := 2) (Nat.le_of_ble_eq_true rfl)
  rw [lg_entry_eq]
  generalize (lg_sl ([.ref ra, .ref rb]) ++ List.replicate (2 - (lg_sl ([.ref ra, .ref rb])).length) Slot.unset).toArray = ls at hl ⊢
  have hl : lv_has ls 2 [(0, .ref ra), (1, .ref rb)] := hl
  generalize hav : ([.ref ra, .ref rb] : List Value).toArray = args at hC ⊢
  refine W_gen (fun QQ hQ => ?_)
  show W p l e (rmN 1) s m args below meth c s.heap [] 0 0 QQ (F0 m 0 ls [])
  refine lv_aload_n hx hb dX7_copyRow_0 rfl (lv_at hl 0 rfl) ?_
  refine lv_iconst (v := nI 0) hx hb dX7_copyRow_1 (by decide) ?_
  refine lv_aload_n hx hb dX7_copyRow_2 rfl (lv_at hl 1 rfl) ?_
  refine lv_iconst (v := nI 0) hx hb dX7_copyRow_3 (by decide) ?_
  refine lv_aload_n hx hb dX7_copyRow_4 rfl (lv_at hl 0 rfl) ?_
  refine va_alen hx hb hK hP 0 0 rfl rfl (v := nI 7) rfl dX7_copyRow_5 ?_
  refine lv_aload_n hx hb dX7_copyRow_6 rfl (lv_at hl 1 rfl) ?_
  refine va_alen hx hb hK hP 1 0 rfl rfl (v := nI 7) rfl dX7_copyRow_7 ?_
  refine va_mmin hx hb (hml.trans hl.1.symm) hC.2.2.2.1 (hC.2.2.2.2 _ q384) (hC.2.2.2.2 _ q363) (hC.2.2.2.2 _ q9) (hC.2.2.2.2 _ q364) (Nat.le_of_ble_eq_true rfl) (Nat.le_of_ble_eq_true rfl) (Nat.le_of_ble_eq_true rfl) (Nat.le_of_ble_eq_true rfl) dX7_copyRow_8 ?_
  refine topi (y := nI (min 7 7)) (mm_min (by omega) (by omega)) ?_
  refine topi (y := nI 7) rfl ?_
  refine n_copy7 hC hl.1 hK hP hD hS 0 1 rfl rfl rfl q385 (ws1 := aWc cI cJ cB ra rb (fun zz => nI (rf zz)) (fun zz => nI (rf zz))) rfl (Nat.le_of_ble_eq_true rfl) (Nat.le_of_ble_eq_true rfl) dX7_copyRow_11 (fun H locs hP hD hS => ?_)
  rw [hQ]
  exact W.vret hx hb hr (fun t9 ht hW => ⟨⟨_, rfl, rfl, by rw [ht]; exact hP, rfl⟩, hS.F ht⟩) hS.2.2 dX7_copyRow_14

set_option maxHeartbeats 400000 in
set_option maxRecDepth 100000 in
theorem c_X0_copy (l : Launch) (D : va_G) (cI cJ cB : ClassId) (h hs hw hh hp : Nat) (bse bwi bhe bwa bco btr brc bbr blc bgb bgp bst bsl bla : Int32) (bsh bwd bhg bsp : Nat → Nat) (h2 hs2 hw2 hh2 hp2 se wd hd nb wl : Nat) (st sl : Int32) (gl aq lb : Option Nat) (sh bw bh ps : Nat → Nat)  : Met l yX0_copy (Cond.code yX0_copy cX0_copy 2 none :: lw_all) (rmN 2) (va_Pc [.ref h, .ref h2] (pB D (tyz cI cJ cB) (b2W cI cJ cB h hs hw hh hp bse bwi bhe bwa bco btr brc bbr blc bgb bgp bst bsl bla (fun zz => nI (bsh zz)) (fun zz => nI (bwd zz)) (fun zz => nI (bhg zz)) (fun zz => nI (bsp zz)) h2 hs2 hw2 hh2 hp2 (nI se) (nI wd) (nI hd) (nI wl) (nI nb) (nI (topv wd)) (nI (rcv wd hd)) (nI (btv wd hd)) (nI (lcv wd hd)) (gI gl) (gI aq) st sl (gI lb) (fun zz => nI (sh zz)) (fun zz => nI (bw zz)) (fun zz => nI (bh zz)) (fun zz => nI (ps zz))))) (va_Qv (fun (w : va_W) => w = b2W cI cJ cB h hs hw hh hp (nI se) (nI wd) (nI hd) (nI wl) (nI nb) (nI (topv wd)) (nI (rcv wd hd)) (nI (btv wd hd)) (nI (lcv wd hd)) (gI gl) (gI aq) st sl (gI lb) (fun zz => nI (sh zz)) (fun zz => nI (bw zz)) (fun zz => nI (bh zz)) (fun zz => nI (ps zz)) h2 hs2 hw2 hh2 hp2 (nI se) (nI wd) (nI hd) (nI wl) (nI nb) (nI (topv wd)) (nI (rcv wd hd)) (nI (btv wd hd)) (nI (lcv wd hd)) (gI gl) (gI aq) st sl (gI lb) (fun zz => nI (sh zz)) (fun zz => nI (bw zz)) (fun zz => nI (bh zz)) (fun zz => nI (ps zz))) (gB D (b2W cI cJ cB h hs hw hh hp bse bwi bhe bwa bco btr brc bbr blc bgb bgp bst bsl bla (fun zz => nI (bsh zz)) (fun zz => nI (bwd zz)) (fun zz => nI (bhg zz)) (fun zz => nI (bsp zz)) h2 hs2 hw2 hh2 hp2 (nI se) (nI wd) (nI hd) (nI wl) (nI nb) (nI (topv wd)) (nI (rcv wd hd)) (nI (btv wd hd)) (nI (lcv wd hd)) (gI gl) (gI aq) st sl (gI lb) (fun zz => nI (sh zz)) (fun zz => nI (bw zz)) (fun zz => nI (bh zz)) (fun zz => nI (ps zz)))) (aW (b2W cI cJ cB h hs hw hh hp bse bwi bhe bwa bco btr brc bbr blc bgb bgp bst bsl bla (fun zz => nI (bsh zz)) (fun zz => nI (bwd zz)) (fun zz => nI (bhg zz)) (fun zz => nI (bsp zz)) h2 hs2 hw2 hh2 hp2 (nI se) (nI wd) (nI hd) (nI wl) (nI nb) (nI (topv wd)) (nI (rcv wd hd)) (nI (btv wd hd)) (nI (lcv wd hd)) (gI gl) (gI aq) st sl (gI lb) (fun zz => nI (sh zz)) (fun zz => nI (bw zz)) (fun zz => nI (bh zz)) (fun zz => nI (ps zz))))) 0 0 (aW (b2W cI cJ cB h hs hw hh hp bse bwi bhe bwa bco btr brc bbr blc bgb bgp bst bsl bla (fun zz => nI (bsh zz)) (fun zz => nI (bwd zz)) (fun zz => nI (bhg zz)) (fun zz => nI (bsp zz)) h2 hs2 hw2 hh2 hp2 (nI se) (nI wd) (nI hd) (nI wl) (nI nb) (nI (topv wd)) (nI (rcv wd hd)) (nI (btv wd hd)) (nI (lcv wd hd)) (gI gl) (gI aq) st sl (gI lb) (fun zz => nI (sh zz)) (fun zz => nI (bw zz)) (fun zz => nI (bh zz)) (fun zz => nI (ps zz)))) := by
  refine Met.ofW (cc := cX0_copy) (maxL := 2) (ret := none) (by decide) rfl ?_
  intro p e s m args below meth c s₁ B hml hv
  obtain ⟨rfl, hK, hN, hP, hD0⟩ := hv
  have hx := B.exec; have hb := B.bytes; have hr := B.returns; have hlocks := B.notSynchronized
  have hts0 := atoms_spec (ws := Cond.code yX0_copy cX0_copy 2 none :: lw_all) B.pre
  have hC : CallFix p m c cX0_copy 2 s _ lw_all RX0 := ⟨hx, hb, hml, findClass_of_methodNamed B.named, fun w h => hts0 w (List.mem_cons_of_mem _ h)⟩
  have hD : va_D (aW (b2W cI cJ cB h hs hw hh hp bse bwi bhe bwa bco btr brc bbr blc bgb bgp bst bsl bla (fun zz => nI (bsh zz)) (fun zz => nI (bwd zz)) (fun zz => nI (bhg zz)) (fun zz => nI (bsp zz)) h2 hs2 hw2 hh2 hp2 (nI se) (nI wd) (nI hd) (nI wl) (nI nb) (nI (topv wd)) (nI (rcv wd hd)) (nI (btv wd hd)) (nI (lcv wd hd)) (gI gl) (gI aq) st sl (gI lb) (fun zz => nI (sh zz)) (fun zz => nI (bw zz)) (fun zz => nI (bh zz)) (fun zz => nI (ps zz)))) (b2W cI cJ cB h hs hw hh hp bse bwi bhe bwa bco btr brc bbr blc bgb bgp bst bsl bla (fun zz => nI (bsh zz)) (fun zz => nI (bwd zz)) (fun zz => nI (bhg zz)) (fun zz => nI (bsp zz)) h2 hs2 hw2 hh2 hp2 (nI se) (nI wd) (nI hd) (nI wl) (nI nb) (nI (topv wd)) (nI (rcv wd hd)) (nI (btv wd hd)) (nI (lcv wd hd)) (gI gl) (gI aq) st sl (gI lb) (fun zz => nI (sh zz)) (fun zz => nI (bw zz)) (fun zz => nI (bh zz)) (fun zz => nI (ps zz))) := ⟨hD0.1, fun k q h => ⟨k, q.2, h⟩⟩
  generalize hAe : aW (b2W cI cJ cB h hs hw hh hp bse bwi bhe bwa bco btr brc bbr blc bgb bgp bst bsl bla (fun zz => nI (bsh zz)) (fun zz => nI (bwd zz)) (fun zz => nI (bhg zz)) (fun zz => nI (bsp zz)) h2 hs2 hw2 hh2 hp2 (nI se) (nI wd) (nI hd) (nI wl) (nI nb) (nI (topv wd)) (nI (rcv wd hd)) (nI (btv wd hd)) (nI (lcv wd hd)) (gI gl) (gI aq) st sl (gI lb) (fun zz => nI (sh zz)) (fun zz => nI (bw zz)) (fun zz => nI (bh zz)) (fun zz => nI (ps zz))) = A at hD ⊢
  have hS : va_S A s.heap s.heap [] := va_S.rf
  have hl := lv_entry ([.ref h, .ref h2]) (n := 2) (Nat.le_of_ble_eq_true rfl)
  rw [lg_entry_eq]
  generalize (lg_sl ([.ref h, .ref h2]) ++ List.replicate (2 - (lg_sl ([.ref h, .ref h2])).length) Slot.unset).toArray = ls at hl ⊢
  have hl : lv_has ls 2 [(0, .ref h), (1, .ref h2)] := hl
  generalize hav : ([.ref h, .ref h2] : List Value).toArray = args at hC ⊢
  refine W_gen (fun QQ hQ => ?_)
  show W p l e (rmN 2) s m args below meth c s.heap [] 0 0 QQ (F0 m 0 ls [])
  refine lv_aload_n hx hb dX0_copy_0 rfl (lv_at hl 0 rfl) ?_
  refine lv_aload_n hx hb dX0_copy_1 rfl (lv_at hl 1 rfl) ?_
  refine gf_X0_9 hC hK hP 5 rfl rfl dX0_copy_2 ?_
  refine pf_X0_9 hC hK hP hD hS 0 rfl (Nat.le_of_ble_eq_true rfl) (ws1 := b2W cI cJ cB h hs hw hh hp (nI se) bwi bhe bwa bco btr brc bbr blc bgb bgp bst bsl bla (fun zz => nI (bsh zz)) (fun zz => nI (bwd zz)) (fun zz => nI (bhg zz)) (fun zz => nI (bsp zz)) h2 hs2 hw2 hh2 hp2 (nI se) (nI wd) (nI hd) (nI wl) (nI nb) (nI (topv wd)) (nI (rcv wd hd)) (nI (btv wd hd)) (nI (lcv wd hd)) (gI gl) (gI aq) st sl (gI lb) (fun zz => nI (sh zz)) (fun zz => nI (bw zz)) (fun zz => nI (bh zz)) (fun zz => nI (ps zz))) rfl dX0_copy_5 (fun H locs hP hD hS => ?_)
  refine lv_aload_n hx hb dX0_copy_8 rfl (lv_at hl 0 rfl) ?_
  refine lv_aload_n hx hb dX0_copy_9 rfl (lv_at hl 1 rfl) ?_
  refine gf_X0_32 hC hK hP 5 rfl rfl dX0_copy_10 ?_
  refine pf_X0_32 hC hK hP hD hS 0 rfl (Nat.le_of_ble_eq_true rfl) (ws1 := b2W cI cJ cB h hs hw hh hp (nI se) (nI wd) bhe bwa bco btr brc bbr blc bgb bgp bst bsl bla (fun zz => nI (bsh zz)) (fun zz => nI (bwd zz)) (fun zz => nI (bhg zz)) (fun zz => nI (bsp zz)) h2 hs2 hw2 hh2 hp2 (nI se) (nI wd) (nI hd) (nI wl) (nI nb) (nI (topv wd)) (nI (rcv wd hd)) (nI (btv wd hd)) (nI (lcv wd hd)) (gI gl) (gI aq) st sl (gI lb) (fun zz => nI (sh zz)) (fun zz => nI (bw zz)) (fun zz => nI (bh zz)) (fun zz => nI (ps zz))) rfl dX0_copy_13 (fun H locs hP hD hS => ?_)
  refine lv_aload_n hx hb dX0_copy_16 rfl (lv_at hl 0 rfl) ?_
  refine lv_aload_n hx hb dX0_copy_17 rfl (lv_at hl 1 rfl) ?_
  refine gf_X0_35 hC hK hP 5 rfl rfl dX0_copy_18 ?_
  refine pf_X0_35 hC hK hP hD hS 0 rfl (Nat.le_of_ble_eq_true rfl) (ws1 := b2W cI cJ cB h hs hw hh hp (nI se) (nI wd) (nI hd) bwa bco btr brc bbr blc bgb bgp bst bsl bla (fun zz => nI (bsh zz)) (fun zz => nI (bwd zz)) (fun zz => nI (bhg zz)) (fun zz => nI (bsp zz)) h2 hs2 hw2 hh2 hp2 (nI se) (nI wd) (nI hd) (nI wl) (nI nb) (nI (topv wd)) (nI (rcv wd hd)) (nI (btv wd hd)) (nI (lcv wd hd)) (gI gl) (gI aq) st sl (gI lb) (fun zz => nI (sh zz)) (fun zz => nI (bw zz)) (fun zz => nI (bh zz)) (fun zz => nI (ps zz))) rfl dX0_copy_21 (fun H locs hP hD hS => ?_)
  refine lv_aload_n hx hb dX0_copy_24 rfl (lv_at hl 0 rfl) ?_
  refine lv_aload_n hx hb dX0_copy_25 rfl (lv_at hl 1 rfl) ?_
  refine gf_X0_38 hC hK hP 5 rfl rfl dX0_copy_26 ?_
  refine pf_X0_38 hC hK hP hD hS 0 rfl (Nat.le_of_ble_eq_true rfl) (ws1 := b2W cI cJ cB h hs hw hh hp (nI se) (nI wd) (nI hd) (nI wl) bco btr brc bbr blc bgb bgp bst bsl bla (fun zz => nI (bsh zz)) (fun zz => nI (bwd zz)) (fun zz => nI (bhg zz)) (fun zz => nI (bsp zz)) h2 hs2 hw2 hh2 hp2 (nI se) (nI wd) (nI hd) (nI wl) (nI nb) (nI (topv wd)) (nI (rcv wd hd)) (nI (btv wd hd)) (nI (lcv wd hd)) (gI gl) (gI aq) st sl (gI lb) (fun zz => nI (sh zz)) (fun zz => nI (bw zz)) (fun zz => nI (bh zz)) (fun zz => nI (ps zz))) rfl dX0_copy_29 (fun H locs hP hD hS => ?_)
  refine lv_aload_n hx hb dX0_copy_32 rfl (lv_at hl 0 rfl) ?_
  refine lv_aload_n hx hb dX0_copy_33 rfl (lv_at hl 1 rfl) ?_
  refine gf_X0_41 hC hK hP 5 rfl rfl dX0_copy_34 ?_
  refine pf_X0_41 hC hK hP hD hS 0 rfl (Nat.le_of_ble_eq_true rfl) (ws1 := b2W cI cJ cB h hs hw hh hp (nI se) (nI wd) (nI hd) (nI wl) (nI nb) btr brc bbr blc bgb bgp bst bsl bla (fun zz => nI (bsh zz)) (fun zz => nI (bwd zz)) (fun zz => nI (bhg zz)) (fun zz => nI (bsp zz)) h2 hs2 hw2 hh2 hp2 (nI se) (nI wd) (nI hd) (nI wl) (nI nb) (nI (topv wd)) (nI (rcv wd hd)) (nI (btv wd hd)) (nI (lcv wd hd)) (gI gl) (gI aq) st sl (gI lb) (fun zz => nI (sh zz)) (fun zz => nI (bw zz)) (fun zz => nI (bh zz)) (fun zz => nI (ps zz))) rfl dX0_copy_37 (fun H locs hP hD hS => ?_)
  refine lv_aload_n hx hb dX0_copy_40 rfl (lv_at hl 0 rfl) ?_
  refine lv_aload_n hx hb dX0_copy_41 rfl (lv_at hl 1 rfl) ?_
  refine gf_X0_44 hC hK hP 5 rfl rfl dX0_copy_42 ?_
  refine pf_X0_44 hC hK hP hD hS 0 rfl (Nat.le_of_ble_eq_true rfl) (ws1 := b2W cI cJ cB h hs hw hh hp (nI se) (nI wd) (nI hd) (nI wl) (nI nb) (nI (topv wd)) brc bbr blc bgb bgp bst bsl bla (fun zz => nI (bsh zz)) (fun zz => nI (bwd zz)) (fun zz => nI (bhg zz)) (fun zz => nI (bsp zz)) h2 hs2 hw2 hh2 hp2 (nI se) (nI wd) (nI hd) (nI wl) (nI nb) (nI (topv wd)) (nI (rcv wd hd)) (nI (btv wd hd)) (nI (lcv wd hd)) (gI gl) (gI aq) st sl (gI lb) (fun zz => nI (sh zz)) (fun zz => nI (bw zz)) (fun zz => nI (bh zz)) (fun zz => nI (ps zz))) rfl dX0_copy_45 (fun H locs hP hD hS => ?_)
  refine lv_aload_n hx hb dX0_copy_48 rfl (lv_at hl 0 rfl) ?_
  refine lv_aload_n hx hb dX0_copy_49 rfl (lv_at hl 1 rfl) ?_
  refine gf_X0_47 hC hK hP 5 rfl rfl dX0_copy_50 ?_
  refine pf_X0_47 hC hK hP hD hS 0 rfl (Nat.le_of_ble_eq_true rfl) (ws1 := b2W cI cJ cB h hs hw hh hp (nI se) (nI wd) (nI hd) (nI wl) (nI nb) (nI (topv wd)) (nI (rcv wd hd)) bbr blc bgb bgp bst bsl bla (fun zz => nI (bsh zz)) (fun zz => nI (bwd zz)) (fun zz => nI (bhg zz)) (fun zz => nI (bsp zz)) h2 hs2 hw2 hh2 hp2 (nI se) (nI wd) (nI hd) (nI wl) (nI nb) (nI (topv wd)) (nI (rcv wd hd)) (nI (btv wd hd)) (nI (lcv wd hd)) (gI gl) (gI aq) st sl (gI lb) (fun zz => nI (sh zz)) (fun zz => nI (bw zz)) (fun zz => nI (bh zz)) (fun zz => nI (ps zz))) rfl dX0_copy_53 (fun H locs hP hD hS => ?_)
  refine lv_aload_n hx hb dX0_copy_56 rfl (lv_at hl 0 rfl) ?_
  refine lv_aload_n hx hb dX0_copy_57 rfl (lv_at hl 1 rfl) ?_
  refine gf_X0_50 hC hK hP 5 rfl rfl dX0_copy_58 ?_
  refine pf_X0_50 hC hK hP hD hS 0 rfl (Nat.le_of_ble_eq_true rfl) (ws1 := b2W cI cJ cB h hs hw hh hp (nI se) (nI wd) (nI hd) (nI wl) (nI nb) (nI (topv wd)) (nI (rcv wd hd)) (nI (btv wd hd)) blc bgb bgp bst bsl bla (fun zz => nI (bsh zz)) (fun zz => nI (bwd zz)) (fun zz => nI (bhg zz)) (fun zz => nI (bsp zz)) h2 hs2 hw2 hh2 hp2 (nI se) (nI wd) (nI hd) (nI wl) (nI nb) (nI (topv wd)) (nI (rcv wd hd)) (nI (btv wd hd)) (nI (lcv wd hd)) (gI gl) (gI aq) st sl (gI lb) (fun zz => nI (sh zz)) (fun zz => nI (bw zz)) (fun zz => nI (bh zz)) (fun zz => nI (ps zz))) rfl dX0_copy_61 (fun H locs hP hD hS => ?_)
  refine lv_aload_n hx hb dX0_copy_64 rfl (lv_at hl 0 rfl) ?_
  refine lv_aload_n hx hb dX0_copy_65 rfl (lv_at hl 1 rfl) ?_
  refine gf_X0_53 hC hK hP 5 rfl rfl dX0_copy_66 ?_
  refine pf_X0_53 hC hK hP hD hS 0 rfl (Nat.le_of_ble_eq_true rfl) (ws1 := b2W cI cJ cB h hs hw hh hp (nI se) (nI wd) (nI hd) (nI wl) (nI nb) (nI (topv wd)) (nI (rcv wd hd)) (nI (btv wd hd)) (nI (lcv wd hd)) bgb bgp bst bsl bla (fun zz => nI (bsh zz)) (fun zz => nI (bwd zz)) (fun zz => nI (bhg zz)) (fun zz => nI (bsp zz)) h2 hs2 hw2 hh2 hp2 (nI se) (nI wd) (nI hd) (nI wl) (nI nb) (nI (topv wd)) (nI (rcv wd hd)) (nI (btv wd hd)) (nI (lcv wd hd)) (gI gl) (gI aq) st sl (gI lb) (fun zz => nI (sh zz)) (fun zz => nI (bw zz)) (fun zz => nI (bh zz)) (fun zz => nI (ps zz))) rfl dX0_copy_69 (fun H locs hP hD hS => ?_)
  refine lv_aload_n hx hb dX0_copy_72 rfl (lv_at hl 1 rfl) ?_
  refine gf_X0_15 hC hK hP 5 rfl rfl dX0_copy_73 ?_
  refine lv_aload_n hx hb dX0_copy_76 rfl (lv_at hl 0 rfl) ?_
  refine gf_X0_15 hC hK hP 0 rfl rfl dX0_copy_77 ?_
  refine callN_v (As := [.ref hs2, .ref hs]) (rest := []) [6, 1] hC hK hN hP hD rfl (by decide) hS (c_X7_copyRow l D cI cJ cB hs2 hs sh bsh ) q381 md_X7_copyRow rfl hl.1 rfl (Nat.le_of_ble_eq_true rfl) dX0_copy_80 ⟨Nat.le_of_ble_eq_true rfl, Nat.le_of_ble_eq_true rfl⟩ ⟨Nat.le_of_ble_eq_true rfl, Nat.le_of_ble_eq_true rfl⟩ (fun w H locs hpost hP hD hS => ?_)
  obtain rfl := hpost
  have hP : va_P D vwCl (b2W cI cJ cB h hs hw hh hp (nI se) (nI wd) (nI hd) (nI wl) (nI nb) (nI (topv wd)) (nI (rcv wd hd)) (nI (btv wd hd)) (nI (lcv wd hd)) bgb bgp bst bsl bla (fun zz => nI (sh zz)) (fun zz => nI (bwd zz)) (fun zz => nI (bhg zz)) (fun zz => nI (bsp zz)) h2 hs2 hw2 hh2 hp2 (nI se) (nI wd) (nI hd) (nI wl) (nI nb) (nI (topv wd)) (nI (rcv wd hd)) (nI (btv wd hd)) (nI (lcv wd hd)) (gI gl) (gI aq) st sl (gI lb) (fun zz => nI (sh zz)) (fun zz => nI (bw zz)) (fun zz => nI (bh zz)) (fun zz => nI (ps zz))) H := hP
  have hD : va_D A (b2W cI cJ cB h hs hw hh hp (nI se) (nI wd) (nI hd) (nI wl) (nI nb) (nI (topv wd)) (nI (rcv wd hd)) (nI (btv wd hd)) (nI (lcv wd hd)) bgb bgp bst bsl bla (fun zz => nI (sh zz)) (fun zz => nI (bwd zz)) (fun zz => nI (bhg zz)) (fun zz => nI (bsp zz)) h2 hs2 hw2 hh2 hp2 (nI se) (nI wd) (nI hd) (nI wl) (nI nb) (nI (topv wd)) (nI (rcv wd hd)) (nI (btv wd hd)) (nI (lcv wd hd)) (gI gl) (gI aq) st sl (gI lb) (fun zz => nI (sh zz)) (fun zz => nI (bw zz)) (fun zz => nI (bh zz)) (fun zz => nI (ps zz))) := hD
  refine lv_aload_n hx hb dX0_copy_83 rfl (lv_at hl 1 rfl) ?_
  refine gf_X0_19 hC hK hP 5 rfl rfl dX0_copy_84 ?_
  refine lv_aload_n hx hb dX0_copy_87 rfl (lv_at hl 0 rfl) ?_
  refine gf_X0_19 hC hK hP 0 rfl rfl dX0_copy_88 ?_
  refine callN_v (As := [.ref hw2, .ref hw]) (rest := []) [7, 2] hC hK hN hP hD rfl (by decide) hS (c_X7_copyRow l D cI cJ cB hw2 hw bw bwd ) q381 md_X7_copyRow rfl hl.1 rfl (Nat.le_of_ble_eq_true rfl) dX0_copy_91 ⟨Nat.le_of_ble_eq_true rfl, Nat.le_of_ble_eq_true rfl⟩ ⟨Nat.le_of_ble_eq_true rfl, Nat.le_of_ble_eq_true rfl⟩ (fun w H locs hpost hP hD hS => ?_)
  obtain rfl := hpost
  have hP : va_P D vwCl (b2W cI cJ cB h hs hw hh hp (nI se) (nI wd) (nI hd) (nI wl) (nI nb) (nI (topv wd)) (nI (rcv wd hd)) (nI (btv wd hd)) (nI (lcv wd hd)) bgb bgp bst bsl bla (fun zz => nI (sh zz)) (fun zz => nI (bw zz)) (fun zz => nI (bhg zz)) (fun zz => nI (bsp zz)) h2 hs2 hw2 hh2 hp2 (nI se) (nI wd) (nI hd) (nI wl) (nI nb) (nI (topv wd)) (nI (rcv wd hd)) (nI (btv wd hd)) (nI (lcv wd hd)) (gI gl) (gI aq) st sl (gI lb) (fun zz => nI (sh zz)) (fun zz => nI (bw zz)) (fun zz => nI (bh zz)) (fun zz => nI (ps zz))) H := hP
  have hD : va_D A (b2W cI cJ cB h hs hw hh hp (nI se) (nI wd) (nI hd) (nI wl) (nI nb) (nI (topv wd)) (nI (rcv wd hd)) (nI (btv wd hd)) (nI (lcv wd hd)) bgb bgp bst bsl bla (fun zz => nI (sh zz)) (fun zz => nI (bw zz)) (fun zz => nI (bhg zz)) (fun zz => nI (bsp zz)) h2 hs2 hw2 hh2 hp2 (nI se) (nI wd) (nI hd) (nI wl) (nI nb) (nI (topv wd)) (nI (rcv wd hd)) (nI (btv wd hd)) (nI (lcv wd hd)) (gI gl) (gI aq) st sl (gI lb) (fun zz => nI (sh zz)) (fun zz => nI (bw zz)) (fun zz => nI (bh zz)) (fun zz => nI (ps zz))) := hD
  refine lv_aload_n hx hb dX0_copy_94 rfl (lv_at hl 1 rfl) ?_
  refine gf_X0_22 hC hK hP 5 rfl rfl dX0_copy_95 ?_
  refine lv_aload_n hx hb dX0_copy_98 rfl (lv_at hl 0 rfl) ?_
  refine gf_X0_22 hC hK hP 0 rfl rfl dX0_copy_99 ?_
  refine callN_v (As := [.ref hh2, .ref hh]) (rest := []) [8, 3] hC hK hN hP hD rfl (by decide) hS (c_X7_copyRow l D cI cJ cB hh2 hh bh bhg ) q381 md_X7_copyRow rfl hl.1 rfl (Nat.le_of_ble_eq_true rfl) dX0_copy_102 ⟨Nat.le_of_ble_eq_true rfl, Nat.le_of_ble_eq_true rfl⟩ ⟨Nat.le_of_ble_eq_true rfl, Nat.le_of_ble_eq_true rfl⟩ (fun w H locs hpost hP hD hS => ?_)
  obtain rfl := hpost
  have hP : va_P D vwCl (b2W cI cJ cB h hs hw hh hp (nI se) (nI wd) (nI hd) (nI wl) (nI nb) (nI (topv wd)) (nI (rcv wd hd)) (nI (btv wd hd)) (nI (lcv wd hd)) bgb bgp bst bsl bla (fun zz => nI (sh zz)) (fun zz => nI (bw zz)) (fun zz => nI (bh zz)) (fun zz => nI (bsp zz)) h2 hs2 hw2 hh2 hp2 (nI se) (nI wd) (nI hd) (nI wl) (nI nb) (nI (topv wd)) (nI (rcv wd hd)) (nI (btv wd hd)) (nI (lcv wd hd)) (gI gl) (gI aq) st sl (gI lb) (fun zz => nI (sh zz)) (fun zz => nI (bw zz)) (fun zz => nI (bh zz)) (fun zz => nI (ps zz))) H := hP
  have hD : va_D A (b2W cI cJ cB h hs hw hh hp (nI se) (nI wd) (nI hd) (nI wl) (nI nb) (nI (topv wd)) (nI (rcv wd hd)) (nI (btv wd hd)) (nI (lcv wd hd)) bgb bgp bst bsl bla (fun zz => nI (sh zz)) (fun zz => nI (bw zz)) (fun zz => nI (bh zz)) (fun zz => nI (bsp zz)) h2 hs2 hw2 hh2 hp2 (nI se) (nI wd) (nI hd) (nI wl) (nI nb) (nI (topv wd)) (nI (rcv wd hd)) (nI (btv wd hd)) (nI (lcv wd hd)) (gI gl) (gI aq) st sl (gI lb) (fun zz => nI (sh zz)) (fun zz => nI (bw zz)) (fun zz => nI (bh zz)) (fun zz => nI (ps zz))) := hD
  refine lv_aload_n hx hb dX0_copy_105 rfl (lv_at hl 1 rfl) ?_
  refine gf_X0_25 hC hK hP 5 rfl rfl dX0_copy_106 ?_
  refine lv_aload_n hx hb dX0_copy_109 rfl (lv_at hl 0 rfl) ?_
  refine gf_X0_25 hC hK hP 0 rfl rfl dX0_copy_110 ?_
  refine callN_v (As := [.ref hp2, .ref hp]) (rest := []) [9, 4] hC hK hN hP hD rfl (by decide) hS (c_X7_copyRow l D cI cJ cB hp2 hp ps bsp ) q381 md_X7_copyRow rfl hl.1 rfl (Nat.le_of_ble_eq_true rfl) dX0_copy_113 ⟨Nat.le_of_ble_eq_true rfl, Nat.le_of_ble_eq_true rfl⟩ ⟨Nat.le_of_ble_eq_true rfl, Nat.le_of_ble_eq_true rfl⟩ (fun w H locs hpost hP hD hS => ?_)
  obtain rfl := hpost
  have hP : va_P D vwCl (b2W cI cJ cB h hs hw hh hp (nI se) (nI wd) (nI hd) (nI wl) (nI nb) (nI (topv wd)) (nI (rcv wd hd)) (nI (btv wd hd)) (nI (lcv wd hd)) bgb bgp bst bsl bla (fun zz => nI (sh zz)) (fun zz => nI (bw zz)) (fun zz => nI (bh zz)) (fun zz => nI (ps zz)) h2 hs2 hw2 hh2 hp2 (nI se) (nI wd) (nI hd) (nI wl) (nI nb) (nI (topv wd)) (nI (rcv wd hd)) (nI (btv wd hd)) (nI (lcv wd hd)) (gI gl) (gI aq) st sl (gI lb) (fun zz => nI (sh zz)) (fun zz => nI (bw zz)) (fun zz => nI (bh zz)) (fun zz => nI (ps zz))) H := hP
  have hD : va_D A (b2W cI cJ cB h hs hw hh hp (nI se) (nI wd) (nI hd) (nI wl) (nI nb) (nI (topv wd)) (nI (rcv wd hd)) (nI (btv wd hd)) (nI (lcv wd hd)) bgb bgp bst bsl bla (fun zz => nI (sh zz)) (fun zz => nI (bw zz)) (fun zz => nI (bh zz)) (fun zz => nI (ps zz)) h2 hs2 hw2 hh2 hp2 (nI se) (nI wd) (nI hd) (nI wl) (nI nb) (nI (topv wd)) (nI (rcv wd hd)) (nI (btv wd hd)) (nI (lcv wd hd)) (gI gl) (gI aq) st sl (gI lb) (fun zz => nI (sh zz)) (fun zz => nI (bw zz)) (fun zz => nI (bh zz)) (fun zz => nI (ps zz))) := hD
  refine lv_aload_n hx hb dX0_copy_116 rfl (lv_at hl 0 rfl) ?_
  refine lv_aload_n hx hb dX0_copy_117 rfl (lv_at hl 1 rfl) ?_
  refine gf_X0_60 hC hK hP 5 rfl rfl dX0_copy_118 ?_
  refine pf_X0_60 hC hK hP hD hS 0 rfl (Nat.le_of_ble_eq_true rfl) (ws1 := b2W cI cJ cB h hs hw hh hp (nI se) (nI wd) (nI hd) (nI wl) (nI nb) (nI (topv wd)) (nI (rcv wd hd)) (nI (btv wd hd)) (nI (lcv wd hd)) (gI gl) bgp bst bsl bla (fun zz => nI (sh zz)) (fun zz => nI (bw zz)) (fun zz => nI (bh zz)) (fun zz => nI (ps zz)) h2 hs2 hw2 hh2 hp2 (nI se) (nI wd) (nI hd) (nI wl) (nI nb) (nI (topv wd)) (nI (rcv wd hd)) (nI (btv wd hd)) (nI (lcv wd hd)) (gI gl) (gI aq) st sl (gI lb) (fun zz => nI (sh zz)) (fun zz => nI (bw zz)) (fun zz => nI (bh zz)) (fun zz => nI (ps zz))) rfl dX0_copy_121 (fun H locs hP hD hS => ?_)
  refine lv_aload_n hx hb dX0_copy_124 rfl (lv_at hl 0 rfl) ?_
  refine lv_aload_n hx hb dX0_copy_125 rfl (lv_at hl 1 rfl) ?_
  refine gf_X0_63 hC hK hP 5 rfl rfl dX0_copy_126 ?_
  refine pf_X0_63 hC hK hP hD hS 0 rfl (Nat.le_of_ble_eq_true rfl) (ws1 := b2W cI cJ cB h hs hw hh hp (nI se) (nI wd) (nI hd) (nI wl) (nI nb) (nI (topv wd)) (nI (rcv wd hd)) (nI (btv wd hd)) (nI (lcv wd hd)) (gI gl) (gI aq) bst bsl bla (fun zz => nI (sh zz)) (fun zz => nI (bw zz)) (fun zz => nI (bh zz)) (fun zz => nI (ps zz)) h2 hs2 hw2 hh2 hp2 (nI se) (nI wd) (nI hd) (nI wl) (nI nb) (nI (topv wd)) (nI (rcv wd hd)) (nI (btv wd hd)) (nI (lcv wd hd)) (gI gl) (gI aq) st sl (gI lb) (fun zz => nI (sh zz)) (fun zz => nI (bw zz)) (fun zz => nI (bh zz)) (fun zz => nI (ps zz))) rfl dX0_copy_129 (fun H locs hP hD hS => ?_)
  refine lv_aload_n hx hb dX0_copy_132 rfl (lv_at hl 0 rfl) ?_
  refine lv_aload_n hx hb dX0_copy_133 rfl (lv_at hl 1 rfl) ?_
  refine gf_X0_66 hC hK hP 5 rfl rfl dX0_copy_134 ?_
  refine pf_X0_66 hC hK hP hD hS 0 rfl (Nat.le_of_ble_eq_true rfl) (ws1 := b2W cI cJ cB h hs hw hh hp (nI se) (nI wd) (nI hd) (nI wl) (nI nb) (nI (topv wd)) (nI (rcv wd hd)) (nI (btv wd hd)) (nI (lcv wd hd)) (gI gl) (gI aq) st bsl bla (fun zz => nI (sh zz)) (fun zz => nI (bw zz)) (fun zz => nI (bh zz)) (fun zz => nI (ps zz)) h2 hs2 hw2 hh2 hp2 (nI se) (nI wd) (nI hd) (nI wl) (nI nb) (nI (topv wd)) (nI (rcv wd hd)) (nI (btv wd hd)) (nI (lcv wd hd)) (gI gl) (gI aq) st sl (gI lb) (fun zz => nI (sh zz)) (fun zz => nI (bw zz)) (fun zz => nI (bh zz)) (fun zz => nI (ps zz))) rfl dX0_copy_137 (fun H locs hP hD hS => ?_)
  refine lv_aload_n hx hb dX0_copy_140 rfl (lv_at hl 0 rfl) ?_
  refine lv_aload_n hx hb dX0_copy_141 rfl (lv_at hl 1 rfl) ?_
  refine gf_X0_69 hC hK hP 5 rfl rfl dX0_copy_142 ?_
  refine pf_X0_69 hC hK hP hD hS 0 rfl (Nat.le_of_ble_eq_true rfl) (ws1 := b2W cI cJ cB h hs hw hh hp (nI se) (nI wd) (nI hd) (nI wl) (nI nb) (nI (topv wd)) (nI (rcv wd hd)) (nI (btv wd hd)) (nI (lcv wd hd)) (gI gl) (gI aq) st sl bla (fun zz => nI (sh zz)) (fun zz => nI (bw zz)) (fun zz => nI (bh zz)) (fun zz => nI (ps zz)) h2 hs2 hw2 hh2 hp2 (nI se) (nI wd) (nI hd) (nI wl) (nI nb) (nI (topv wd)) (nI (rcv wd hd)) (nI (btv wd hd)) (nI (lcv wd hd)) (gI gl) (gI aq) st sl (gI lb) (fun zz => nI (sh zz)) (fun zz => nI (bw zz)) (fun zz => nI (bh zz)) (fun zz => nI (ps zz))) rfl dX0_copy_145 (fun H locs hP hD hS => ?_)
  refine lv_aload_n hx hb dX0_copy_148 rfl (lv_at hl 0 rfl) ?_
  refine lv_aload_n hx hb dX0_copy_149 rfl (lv_at hl 1 rfl) ?_
  refine gf_X0_72 hC hK hP 5 rfl rfl dX0_copy_150 ?_
  refine pf_X0_72 hC hK hP hD hS 0 rfl (Nat.le_of_ble_eq_true rfl) (ws1 := b2W cI cJ cB h hs hw hh hp (nI se) (nI wd) (nI hd) (nI wl) (nI nb) (nI (topv wd)) (nI (rcv wd hd)) (nI (btv wd hd)) (nI (lcv wd hd)) (gI gl) (gI aq) st sl (gI lb) (fun zz => nI (sh zz)) (fun zz => nI (bw zz)) (fun zz => nI (bh zz)) (fun zz => nI (ps zz)) h2 hs2 hw2 hh2 hp2 (nI se) (nI wd) (nI hd) (nI wl) (nI nb) (nI (topv wd)) (nI (rcv wd hd)) (nI (btv wd hd)) (nI (lcv wd hd)) (gI gl) (gI aq) st sl (gI lb) (fun zz => nI (sh zz)) (fun zz => nI (bw zz)) (fun zz => nI (bh zz)) (fun zz => nI (ps zz))) rfl dX0_copy_153 (fun H locs hP hD hS => ?_)
  rw [hQ]
  exact W.vret hx hb hr (fun t9 ht hW => ⟨⟨_, rfl, rfl, by rw [ht]; exact hP, rfl⟩, hS.F ht⟩) hS.2.2 dX0_copy_156

set_option maxHeartbeats 400000 in
set_option maxRecDepth 100000 in
theorem c_X2_boardAt (l : Launch) (D : va_G) (cI cJ cB : ClassId) (ho hka hfi hsz : Nat) (xb : Nat → Nat → Nat) (i : Nat) (hf9 : hfi < 10) (hi9 : i ≤ 10) : Met l yX2_boardAt (Cond.code yX2_boardAt cX2_boardAt 3 (some (.object "SlidingBlocks$Board")) :: lw_all) (rmN 0) (va_Pc [.ref ho, .int (nI i)] (pB D (tyz cI cJ cB) (hoW cI cJ cB ho hka (nI hfi) (nI hsz) xb))) (va_Qq (fun (r : Option Nat) (w : va_W) => r = some (xb ((hfi + i) % 10) 0) ∧ w = hoW cI cJ cB ho hka (nI hfi) (nI hsz) xb) (gB D (hoW cI cJ cB ho hka (nI hfi) (nI hsz) xb)) (aW (hoW cI cJ cB ho hka (nI hfi) (nI hsz) xb))) 0 0 (aW (hoW cI cJ cB ho hka (nI hfi) (nI hsz) xb)) := by
  refine Met.ofW (cc := cX2_boardAt) (maxL := 3) (ret := (some (.object "SlidingBlocks$Board"))) (by decide) rfl ?_
  intro p e s m args below meth c s₁ B hml hv
  obtain ⟨rfl, hK, hN, hP, hD0⟩ := hv
  have hx := B.exec; have hb := B.bytes; have hr := B.returns; have hlocks := B.notSynchronized
  have hts0 := atoms_spec (ws := Cond.code yX2_boardAt cX2_boardAt 3 (some (.object "SlidingBlocks$Board")) :: lw_all) B.pre
  have hC : CallFix p m c cX2_boardAt 3 s _ lw_all RX2 := ⟨hx, hb, hml, findClass_of_methodNamed B.named, fun w h => hts0 w (List.mem_cons_of_mem _ h)⟩
  have hD : va_D (aW (hoW cI cJ cB ho hka (nI hfi) (nI hsz) xb)) (hoW cI cJ cB ho hka (nI hfi) (nI hsz) xb) := ⟨hD0.1, fun k q h => ⟨k, q.2, h⟩⟩
  generalize hAe : aW (hoW cI cJ cB ho hka (nI hfi) (nI hsz) xb) = A at hD ⊢
  have hS : va_S A s.heap s.heap [] := va_S.rf
  have hl := lv_entry ([.ref ho, .int (nI i)]) (n := 3) (Nat.le_of_ble_eq_true rfl)
  rw [lg_entry_eq]
  generalize (lg_sl ([.ref ho, .int (nI i)]) ++ List.replicate (3 - (lg_sl ([.ref ho, .int (nI i)])).length) Slot.unset).toArray = ls at hl ⊢
  have hl : lv_has ls 3 [(0, .ref ho), (1, .int (nI i))] := hl
  generalize hav : ([.ref ho, .int (nI i)] : List Value).toArray = args at hC ⊢
  refine W_gen (fun QQ hQ => ?_)
  show W p l e (rmN 0) s m args below meth c s.heap [] 0 0 QQ (F0 m 0 ls [])
  refine lv_aload_n hx hb dX2_boardAt_0 rfl (lv_at hl 0 rfl) ?_
  refine gf_X2_17 hC hK hP 0 rfl rfl dX2_boardAt_1 ?_
  refine lv_iload_n hx hb dX2_boardAt_4 rfl (lv_at hl 1 rfl) ?_
  refine n_iadd hx hb dX2_boardAt_5  ?_
  refine lv_bipush (v := nI 10) hx hb dX2_boardAt_6 (by decide) ?_
  refine n_irem hx hb dX2_boardAt_8 (by omega) (by omega) (by omega) ?_
  refine lv_istore_n (lv' := [(2, .int (nI ((hfi + i) % 10))), (0, .ref ho), (1, .int (nI i))]) hx hb dX2_boardAt_9 rfl hl (by decide) rfl (fun ls hl => ?_)
  refine lv_iload_n hx hb dX2_boardAt_10 rfl (lv_at hl 0 rfl) ?_
  refine n_if_lt (tgt := 32) hx hb dX2_boardAt_11 (by decide) (by omega) ?_
  refine lv_iload_n hx hb dX2_boardAt_14 rfl (lv_at hl 0 rfl) ?_
  refine lv_aload_n hx hb dX2_boardAt_15 rfl (lv_at hl 1 rfl) ?_
  refine gf_X2_11 hC hK hP 0 rfl rfl dX2_boardAt_16 ?_
  refine va_alen hx hb hK hP 1 2 rfl rfl (v := nI 10) rfl dX2_boardAt_19 ?_
  refine n_icmp_ge (a := (hfi + i) % 10) (b := 10) (tgt := 32) hx hb dX2_boardAt_20 (by decide) (by omega) (by omega) (fun c20 => ?_) (fun c20 => ?_)
  · have _ : True := trivial
    exact absurd c20 (by omega)
  · have _ : True := trivial
    refine lv_aload_n hx hb dX2_boardAt_23 rfl (lv_at hl 1 rfl) ?_
    refine gf_X2_11 hC hK hP 0 rfl rfl dX2_boardAt_24 ?_
    refine lv_iload_n hx hb dX2_boardAt_27 rfl (lv_at hl 0 rfl) ?_
    refine n_aald hx hb hK hP 1 2 rfl rfl (by omega) (by first | decide | omega) dX2_boardAt_28 ?_
    refine lv_goto (tgt := 33) hx hb dX2_boardAt_29 (by decide) ?_
    rw [hQ]
    exact W.aret (v := .ref (xb ((hfi + i) % 10) 0)) hx hb hr (Or.inl ⟨_, rfl⟩) (Or.inr ⟨_, rfl⟩) (fun t9 ht hW => ⟨⟨_, _, rfl, ⟨rfl, rfl⟩, by rw [ht]; exact hP, rfl⟩, hS.F ht⟩) hS.2.2 dX2_boardAt_33

set_option maxHeartbeats 400000 in
set_option maxRecDepth 100000 in
theorem c_X2_keep0 (l : Launch) (D : va_G) (cI cJ cB : ClassId) (ho hka hfi hsz : Nat) (xb : Nat → Nat → Nat) (Dd : Nat → BT) (h hs hw hh hp se wd hd nb wl : Nat) (st sl : Int32) (gl aq lb : Option Nat) (sh bw bh ps : Nat → Nat) (hf9 : hfi < 10) (hs9 : hsz ≤ 10) : Met l yX2_keep (Cond.code yX2_keep cX2_keep 3 none :: lw_all) (rmN 3) (va_Pc [.ref ho, .ref h] (pB D (tyz cI cJ cB) (hbW cI cJ cB ho hka (nI hfi) (nI hsz) xb Dd h hs hw hh hp (nI se) (nI wd) (nI hd) (nI wl) (nI nb) (nI (topv wd)) (nI (rcv wd hd)) (nI (btv wd hd)) (nI (lcv wd hd)) (gI gl) (gI aq) st sl (gI lb) (fun zz => nI (sh zz)) (fun zz => nI (bw zz)) (fun zz => nI (bh zz)) (fun zz => nI (ps zz))))) (va_Qv (fun (w : va_W) => ∃ hfi2 : Nat, ∃ hsz2 : Nat, ∃ Dd2 : Nat → BT, w = hbW cI cJ cB ho hka (nI hfi2) (nI hsz2) xb Dd2 h hs hw hh hp (nI se) (nI wd) (nI hd) (nI wl) (nI nb) (nI (topv wd)) (nI (rcv wd hd)) (nI (btv wd hd)) (nI (lcv wd hd)) (gI gl) (gI aq) st sl (gI lb) (fun zz => nI (sh zz)) (fun zz => nI (bw zz)) (fun zz => nI (bh zz)) (fun zz => nI (ps zz)) ∧ (hfi2 < 10 ∧ hsz2 = hcnt hsz ∧ ∀ j, j < hcnt hsz → Dd2 ((hfi2 + j) % 10) = hpu (fun j => Dd ((hfi + j) % 10)) hsz (tup se wd hd nb wl st sl gl aq lb sh bw bh ps) j)) (gB D (hbW cI cJ cB ho hka (nI hfi) (nI hsz) xb Dd h hs hw hh hp (nI se) (nI wd) (nI hd) (nI wl) (nI nb) (nI (topv wd)) (nI (rcv wd hd)) (nI (btv wd hd)) (nI (lcv wd hd)) (gI gl) (gI aq) st sl (gI lb) (fun zz => nI (sh zz)) (fun zz => nI (bw zz)) (fun zz => nI (bh zz)) (fun zz => nI (ps zz)))) (aW (hbW cI cJ cB ho hka (nI hfi) (nI hsz) xb Dd h hs hw hh hp (nI se) (nI wd) (nI hd) (nI wl) (nI nb) (nI (topv wd)) (nI (rcv wd hd)) (nI (btv wd hd)) (nI (lcv wd hd)) (gI gl) (gI aq) st sl (gI lb) (fun zz => nI (sh zz)) (fun zz => nI (bw zz)) (fun zz => nI (bh zz)) (fun zz => nI (ps zz))))) 0 0 (aW (hbW cI cJ cB ho hka (nI hfi) (nI hsz) xb Dd h hs hw hh hp (nI se) (nI wd) (nI hd) (nI wl) (nI nb) (nI (topv wd)) (nI (rcv wd hd)) (nI (btv wd hd)) (nI (lcv wd hd)) (gI gl) (gI aq) st sl (gI lb) (fun zz => nI (sh zz)) (fun zz => nI (bw zz)) (fun zz => nI (bh zz)) (fun zz => nI (ps zz)))) := by
  refine Met.ofW (cc := cX2_keep) (maxL := 3) (ret := none) (by decide) rfl ?_
  intro p e s m args below meth c s₁ B hml hv
  obtain ⟨rfl, hK, hN, hP, hD0⟩ := hv
  have hx := B.exec; have hb := B.bytes; have hr := B.returns; have hlocks := B.notSynchronized
  have hts0 := atoms_spec (ws := Cond.code yX2_keep cX2_keep 3 none :: lw_all) B.pre
  have hC : CallFix p m c cX2_keep 3 s _ lw_all RX2 := ⟨hx, hb, hml, findClass_of_methodNamed B.named, fun w h => hts0 w (List.mem_cons_of_mem _ h)⟩
  have hD : va_D (aW (hbW cI cJ cB ho hka (nI hfi) (nI hsz) xb Dd h hs hw hh hp (nI se) (nI wd) (nI hd) (nI wl) (nI nb) (nI (topv wd)) (nI (rcv wd hd)) (nI (btv wd hd)) (nI (lcv wd hd)) (gI gl) (gI aq) st sl (gI lb) (fun zz => nI (sh zz)) (fun zz => nI (bw zz)) (fun zz => nI (bh zz)) (fun zz => nI (ps zz)))) (hbW cI cJ cB ho hka (nI hfi) (nI hsz) xb Dd h hs hw hh hp (nI se) (nI wd) (nI hd) (nI wl) (nI nb) (nI (topv wd)) (nI (rcv wd hd)) (nI (btv wd hd)) (nI (lcv wd hd)) (gI gl) (gI aq) st sl (gI lb) (fun zz => nI (sh zz)) (fun zz => nI (bw zz)) (fun zz => nI (bh zz)) (fun zz => nI (ps zz))) := ⟨hD0.1, fun k q h => ⟨k, q.2, h⟩⟩
  generalize hAe : aW (hbW cI cJ cB ho hka (nI hfi) (nI hsz) xb Dd h hs hw hh hp (nI se) (nI wd) (nI hd) (nI wl) (nI nb) (nI (topv wd)) (nI (rcv wd hd)) (nI (btv wd hd)) (nI (lcv wd hd)) (gI gl) (gI aq) st sl (gI lb) (fun zz => nI (sh zz)) (fun zz => nI (bw zz)) (fun zz => nI (bh zz)) (fun zz => nI (ps zz))) = A at hD ⊢
  have hS : va_S A s.heap s.heap [] := va_S.rf
  have hl := lv_entry ([.ref ho, .ref h]) (n := 3) (Nat.le_of_ble_eq_true rfl)
  rw [lg_entry_eq]
  generalize (lg_sl ([.ref ho, .ref h]) ++ List.replicate (3 - (lg_sl ([.ref ho, .ref h])).length) Slot.unset).toArray = ls at hl ⊢
  have hl : lv_has ls 3 [(0, .ref ho), (1, .ref h)] := hl
  generalize hav : ([.ref ho, .ref h] : List Value).toArray = args at hC ⊢
  refine W_gen (fun QQ hQ => ?_)
  show W p l e (rmN 3) s m args below meth c s.heap [] 0 0 QQ (F0 m 0 ls [])
  have L32 : ∀ (f1 : Nat) (s1 : Nat), ((hsz < 10 ∧ f1 = hfi ∧ s1 = hsz) ∨ (hsz = 10 ∧ f1 = (hfi + 1) % 10 ∧ s1 = 9)) → ∀ (H : Heap) (locs : List Loc), va_P D vwCl (hbW cI cJ cB ho hka (nI f1) (nI s1) xb Dd h hs hw hh hp (nI se) (nI wd) (nI hd) (nI wl) (nI nb) (nI (topv wd)) (nI (rcv wd hd)) (nI (btv wd hd)) (nI (lcv wd hd)) (gI gl) (gI aq) st sl (gI lb) (fun zz => nI (sh zz)) (fun zz => nI (bw zz)) (fun zz => nI (bh zz)) (fun zz => nI (ps zz))) H → va_D A (hbW cI cJ cB ho hka (nI f1) (nI s1) xb Dd h hs hw hh hp (nI se) (nI wd) (nI hd) (nI wl) (nI nb) (nI (topv wd)) (nI (rcv wd hd)) (nI (btv wd hd)) (nI (lcv wd hd)) (gI gl) (gI aq) st sl (gI lb) (fun zz => nI (sh zz)) (fun zz => nI (bw zz)) (fun zz => nI (bh zz)) (fun zz => nI (ps zz))) → va_S A s.heap H locs → ∀ ls : Array Slot, lv_has ls 3 [(0, .ref ho), (1, .ref h)] → W p l e (rmN 3) s m args below meth c H locs 0 0 QQ (F0 m 32 ls []) := by
    intro f1 s1 i1 H locs hP hD hS ls hl
    have hf1 : f1 < 10 ∧ s1 ≤ 9 := by omega
    refine lv_aload_n hx hb dX2_keep_32 rfl (lv_at hl 0 rfl) ?_
    refine lv_aload_n hx hb dX2_keep_33 rfl (lv_at hl 0 rfl) ?_
    refine gf_X2_21 hC hK hP 5 rfl rfl dX2_keep_34 ?_
    refine callV_q (As := [.int (nI s1)]) (rest := []) [5, 6] hC hK hN hP hD rfl (by decide) hS 5 (ci := 2) rfl rfl rfl (c_X2_boardAt l D cI cJ cB ho hka f1 s1 xb s1 (by omega) (by omega)) q373 md_X2_boardAt rfl hl.1 rfl (Nat.le_of_ble_eq_true rfl) dX2_keep_37 ⟨Nat.le_of_ble_eq_true rfl, Nat.le_of_ble_eq_true rfl⟩ ⟨Nat.le_of_ble_eq_true rfl, Nat.le_of_ble_eq_true rfl⟩ (fun r_37 w H locs hpost hP hD hS => ?_)
    obtain ⟨rfl, rfl⟩ := hpost
    have hP : va_P D vwCl (hbW cI cJ cB ho hka (nI f1) (nI s1) xb Dd h hs hw hh hp (nI se) (nI wd) (nI hd) (nI wl) (nI nb) (nI (topv wd)) (nI (rcv wd hd)) (nI (btv wd hd)) (nI (lcv wd hd)) (gI gl) (gI aq) st sl (gI lb) (fun zz => nI (sh zz)) (fun zz => nI (bw zz)) (fun zz => nI (bh zz)) (fun zz => nI (ps zz))) H := hP
    have hD : va_D A (hbW cI cJ cB ho hka (nI f1) (nI s1) xb Dd h hs hw hh hp (nI se) (nI wd) (nI hd) (nI wl) (nI nb) (nI (topv wd)) (nI (rcv wd hd)) (nI (btv wd hd)) (nI (lcv wd hd)) (gI gl) (gI aq) st sl (gI lb) (fun zz => nI (sh zz)) (fun zz => nI (bw zz)) (fun zz => nI (bh zz)) (fun zz => nI (ps zz))) := hD
    refine lv_astore_n (lv' := [(2, .ref (xb ((f1 + s1) % 10) 0)), (0, .ref ho), (1, .ref h)]) hx hb dX2_keep_40 rfl hl (by decide) rfl (fun ls hl => ?_)
    refine lv_aload_n hx hb dX2_keep_41 rfl (lv_at hl 0 rfl) ?_
    refine lv_ifnull hx hb dX2_keep_42 ?_
    refine lv_aload_n hx hb dX2_keep_45 rfl (lv_at hl 0 rfl) ?_
    refine lv_aload_n hx hb dX2_keep_46 rfl (lv_at hl 2 rfl) ?_
    have hI9 : ((f1 + s1) % 10) < 10 := Nat.mod_lt _ (by decide)
    have hpk9 := hb_pick cI cJ cB ho hka (nI f1) (nI s1) xb Dd h hs hw hh hp (nI se) (nI wd) (nI hd) (nI wl) (nI nb) (nI (topv wd)) (nI (rcv wd hd)) (nI (btv wd hd)) (nI (lcv wd hd)) (gI gl) (gI aq) st sl (gI lb) (fun zz => nI (sh zz)) (fun zz => nI (bw zz)) (fun zz => nI (bh zz)) (fun zz => nI (ps zz)) ((f1 + s1) % 10) hI9
    refine callV_v (As := [.ref h]) (rest := []) (ixk ((f1 + s1) % 10)) hC hK hN hP hD hpk9 (ixk_n _ hI9) hS (7 + 5 * ((f1 + s1) % 10)) (ci := 0) rfl (List.cons.inj hpk9).1 rfl (c_X0_copy l D cI cJ cB (xb ((f1 + s1) % 10) 0) (xb ((f1 + s1) % 10) 1) (xb ((f1 + s1) % 10) 2) (xb ((f1 + s1) % 10) 3) (xb ((f1 + s1) % 10) 4) (nI (tse (Dd ((f1 + s1) % 10)))) (nI (twd (Dd ((f1 + s1) % 10)))) (nI (thd (Dd ((f1 + s1) % 10)))) (nI (twl (Dd ((f1 + s1) % 10)))) (nI (tnb (Dd ((f1 + s1) % 10)))) (nI (topv (twd (Dd ((f1 + s1) % 10))))) (nI (rcv (twd (Dd ((f1 + s1) % 10))) (thd (Dd ((f1 + s1) % 10))))) (nI (btv (twd (Dd ((f1 + s1) % 10))) (thd (Dd ((f1 + s1) % 10))))) (nI (lcv (twd (Dd ((f1 + s1) % 10))) (thd (Dd ((f1 + s1) % 10))))) (gI (tgl (Dd ((f1 + s1) % 10)))) (gI (taq (Dd ((f1 + s1) % 10)))) (tst (Dd ((f1 + s1) % 10))) (tsl (Dd ((f1 + s1) % 10))) (gI (tlb (Dd ((f1 + s1) % 10)))) (tsh (Dd ((f1 + s1) % 10))) (tbw (Dd ((f1 + s1) % 10))) (tbh (Dd ((f1 + s1) % 10))) (tps (Dd ((f1 + s1) % 10))) h hs hw hh hp se wd hd nb wl st sl gl aq lb sh bw bh ps) q377 md_X0_copy rfl hl.1 rfl (Nat.le_of_ble_eq_true rfl) dX2_keep_47 ⟨Nat.le_of_ble_eq_true rfl, Nat.le_of_ble_eq_true rfl⟩ ⟨Nat.le_of_ble_eq_true rfl, Nat.le_of_ble_eq_true rfl⟩ (fun w H locs hpost hP hD hS => ?_)
    obtain rfl := hpost
    rw [hb_put (hi := hI9)] at hP hD
    have hP : va_P D vwCl (hbW cI cJ cB ho hka (nI f1) (nI s1) xb (va_up Dd ((f1 + s1) % 10) (tup se wd hd nb wl st sl gl aq lb sh bw bh ps)) h hs hw hh hp (nI se) (nI wd) (nI hd) (nI wl) (nI nb) (nI (topv wd)) (nI (rcv wd hd)) (nI (btv wd hd)) (nI (lcv wd hd)) (gI gl) (gI aq) st sl (gI lb) (fun zz => nI (sh zz)) (fun zz => nI (bw zz)) (fun zz => nI (bh zz)) (fun zz => nI (ps zz))) H := hP
    have hD : va_D A (hbW cI cJ cB ho hka (nI f1) (nI s1) xb (va_up Dd ((f1 + s1) % 10) (tup se wd hd nb wl st sl gl aq lb sh bw bh ps)) h hs hw hh hp (nI se) (nI wd) (nI hd) (nI wl) (nI nb) (nI (topv wd)) (nI (rcv wd hd)) (nI (btv wd hd)) (nI (lcv wd hd)) (gI gl) (gI aq) st sl (gI lb) (fun zz => nI (sh zz)) (fun zz => nI (bw zz)) (fun zz => nI (bh zz)) (fun zz => nI (ps zz))) := hD
    refine lv_aload_n hx hb dX2_keep_50 rfl (lv_at hl 1 rfl) ?_
    refine lv_dup hx hb dX2_keep_51 rfl ?_
    refine gf_X2_21 hC hK hP 5 rfl rfl dX2_keep_52 ?_
    refine lv_iconst (v := nI 1) hx hb dX2_keep_55 (by decide) ?_
    refine n_iadd hx hb dX2_keep_56  ?_
    refine pf_X2_21 hC hK hP hD hS 5 rfl (Nat.le_of_ble_eq_true rfl) (ws1 := hbW cI cJ cB ho hka (nI f1) (nI (s1 + 1)) xb (va_up Dd ((f1 + s1) % 10) (tup se wd hd nb wl st sl gl aq lb sh bw bh ps)) h hs hw hh hp (nI se) (nI wd) (nI hd) (nI wl) (nI nb) (nI (topv wd)) (nI (rcv wd hd)) (nI (btv wd hd)) (nI (lcv wd hd)) (gI gl) (gI aq) st sl (gI lb) (fun zz => nI (sh zz)) (fun zz => nI (bw zz)) (fun zz => nI (bh zz)) (fun zz => nI (ps zz))) rfl dX2_keep_57 (fun H locs hP hD hS => ?_)
    have hrk := ring_keep (Dd := Dd) (v := (tup se wd hd nb wl st sl gl aq lb sh bw bh ps)) hf9 hs9 i1
    rw [hQ]
    exact W.vret hx hb hr (fun t9 ht hW => ⟨⟨_, rfl, ⟨f1, (s1 + 1), va_up Dd ((f1 + s1) % 10) (tup se wd hd nb wl st sl gl aq lb sh bw bh ps), rfl, hrk⟩, by rw [ht]; exact hP, rfl⟩, hS.F ht⟩) hS.2.2 dX2_keep_60
  refine lv_aload_n hx hb dX2_keep_0 rfl (lv_at hl 0 rfl) ?_
  refine gf_X2_21 hC hK hP 5 rfl rfl dX2_keep_1 ?_
  refine lv_bipush (v := nI 10) hx hb dX2_keep_4 (by decide) ?_
  refine n_icmp_lt (a := hsz) (b := 10) (tgt := 32) hx hb dX2_keep_6 (by decide) (by omega) (by omega) (fun c6 => ?_) (fun c6 => ?_)
  · have _ : True := trivial
    exact L32 hfi hsz (Or.inl ⟨by omega, rfl, rfl⟩)  _ _ hP hD hS _ (lv_sub hl [0, 1] rfl)
  · have _ : True := trivial
    refine lv_aload_n hx hb dX2_keep_9 rfl (lv_at hl 0 rfl) ?_
    refine lv_aload_n hx hb dX2_keep_10 rfl (lv_at hl 0 rfl) ?_
    refine gf_X2_17 hC hK hP 5 rfl rfl dX2_keep_11 ?_
    refine lv_iconst (v := nI 1) hx hb dX2_keep_14 (by decide) ?_
    refine n_iadd hx hb dX2_keep_15  ?_
    refine lv_bipush (v := nI 10) hx hb dX2_keep_16 (by decide) ?_
    refine n_irem hx hb dX2_keep_18 (by omega) (by omega) (by omega) ?_
    refine pf_X2_17 hC hK hP hD hS 5 rfl (Nat.le_of_ble_eq_true rfl) (ws1 := hbW cI cJ cB ho hka (nI ((hfi + 1) % 10)) (nI hsz) xb Dd h hs hw hh hp (nI se) (nI wd) (nI hd) (nI wl) (nI nb) (nI (topv wd)) (nI (rcv wd hd)) (nI (btv wd hd)) (nI (lcv wd hd)) (gI gl) (gI aq) st sl (gI lb) (fun zz => nI (sh zz)) (fun zz => nI (bw zz)) (fun zz => nI (bh zz)) (fun zz => nI (ps zz))) rfl dX2_keep_19 (fun H locs hP hD hS => ?_)
    refine lv_aload_n hx hb dX2_keep_22 rfl (lv_at hl 0 rfl) ?_
    refine lv_dup hx hb dX2_keep_23 rfl ?_
    refine gf_X2_21 hC hK hP 5 rfl rfl dX2_keep_24 ?_
    refine lv_iconst (v := nI 1) hx hb dX2_keep_27 (by decide) ?_
    refine n_isub hx hb dX2_keep_28 (by omega) ?_
    refine pf_X2_21 hC hK hP hD hS 5 rfl (Nat.le_of_ble_eq_true rfl) (ws1 := hbW cI cJ cB ho hka (nI ((hfi + 1) % 10)) (nI (hsz - 1)) xb Dd h hs hw hh hp (nI se) (nI wd) (nI hd) (nI wl) (nI nb) (nI (topv wd)) (nI (rcv wd hd)) (nI (btv wd hd)) (nI (lcv wd hd)) (gI gl) (gI aq) st sl (gI lb) (fun zz => nI (sh zz)) (fun zz => nI (bw zz)) (fun zz => nI (bh zz)) (fun zz => nI (ps zz))) rfl dX2_keep_29 (fun H locs hP hD hS => ?_)
    exact L32 ((hfi + 1) % 10) (hsz - 1) (Or.inr ⟨by omega, rfl, by omega⟩)  _ _ hP hD hS _ (lv_sub hl [0, 1] rfl)

set_option maxHeartbeats 400000 in
set_option maxRecDepth 100000 in
theorem c_X2_restore0 (l : Launch) (D : va_G) (cI cJ cB : ClassId) (ho hka hfi hsz : Nat) (xb : Nat → Nat → Nat) (Dd : Nat → BT) (h hs hw hh hp se wd hd nb wl : Nat) (st sl : Int32) (gl aq lb : Option Nat) (sh bw bh ps : Nat → Nat) (hf9 : hfi < 10) (hs9 : hsz ≤ 10) : Met l yX2_restore (Cond.code yX2_restore cX2_restore 3 (some .int) :: lw_all) (rmN 3) (va_Pc [.ref ho, .ref h] (pB D (tyz cI cJ cB) (hbW cI cJ cB ho hka (nI hfi) (nI hsz) xb Dd h hs hw hh hp (nI se) (nI wd) (nI hd) (nI wl) (nI nb) (nI (topv wd)) (nI (rcv wd hd)) (nI (btv wd hd)) (nI (lcv wd hd)) (gI gl) (gI aq) st sl (gI lb) (fun zz => nI (sh zz)) (fun zz => nI (bw zz)) (fun zz => nI (bh zz)) (fun zz => nI (ps zz))))) (va_Qi (fun (r : Int32) (w : va_W) => ∃ t2 : BT, r = (if hsz = 0 then -9 else nI (hsz - 1)) ∧ w = hbW cI cJ cB ho hka (nI hfi) (nI (hsz - 1)) xb Dd h hs hw hh hp (nI (tse t2)) (nI (twd t2)) (nI (thd t2)) (nI (twl t2)) (nI (tnb t2)) (nI (topv (twd t2))) (nI (rcv (twd t2) (thd t2))) (nI (btv (twd t2) (thd t2))) (nI (lcv (twd t2) (thd t2))) (gI (tgl t2)) (gI (taq t2)) (tst t2) (tsl t2) (gI (tlb t2)) (fun zz => nI ((tsh t2) zz)) (fun zz => nI ((tbw t2) zz)) (fun zz => nI ((tbh t2) zz)) (fun zz => nI ((tps t2) zz)) ∧ (hsz = 0 → t2 = (tup se wd hd nb wl st sl gl aq lb sh bw bh ps)) ∧ (hsz ≠ 0 → t2 = Dd ((hfi + (hsz - 1)) % 10))) (gB D (hbW cI cJ cB ho hka (nI hfi) (nI hsz) xb Dd h hs hw hh hp (nI se) (nI wd) (nI hd) (nI wl) (nI nb) (nI (topv wd)) (nI (rcv wd hd)) (nI (btv wd hd)) (nI (lcv wd hd)) (gI gl) (gI aq) st sl (gI lb) (fun zz => nI (sh zz)) (fun zz => nI (bw zz)) (fun zz => nI (bh zz)) (fun zz => nI (ps zz)))) (aW (hbW cI cJ cB ho hka (nI hfi) (nI hsz) xb Dd h hs hw hh hp (nI se) (nI wd) (nI hd) (nI wl) (nI nb) (nI (topv wd)) (nI (rcv wd hd)) (nI (btv wd hd)) (nI (lcv wd hd)) (gI gl) (gI aq) st sl (gI lb) (fun zz => nI (sh zz)) (fun zz => nI (bw zz)) (fun zz => nI (bh zz)) (fun zz => nI (ps zz))))) 0 0 (aW (hbW cI cJ cB ho hka (nI hfi) (nI hsz) xb Dd h hs hw hh hp (nI se) (nI wd) (nI hd) (nI wl) (nI nb) (nI (topv wd)) (nI (rcv wd hd)) (nI (btv wd hd)) (nI (lcv wd hd)) (gI gl) (gI aq) st sl (gI lb) (fun zz => nI (sh zz)) (fun zz => nI (bw zz)) (fun zz => nI (bh zz)) (fun zz => nI (ps zz)))) := by
  refine Met.ofW (cc := cX2_restore) (maxL := 3) (ret := (some .int)) (by decide) rfl ?_
  intro p e s m args below meth c s₁ B hml hv
  obtain ⟨rfl, hK, hN, hP, hD0⟩ := hv
  have hx := B.exec; have hb := B.bytes; have hr := B.returns; have hlocks := B.notSynchronized
  have hts0 := atoms_spec (ws := Cond.code yX2_restore cX2_restore 3 (some .int) :: lw_all) B.pre
  have hC : CallFix p m c cX2_restore 3 s _ lw_all RX2 := ⟨hx, hb, hml, findClass_of_methodNamed B.named, fun w h => hts0 w (List.mem_cons_of_mem _ h)⟩
  have hD : va_D (aW (hbW cI cJ cB ho hka (nI hfi) (nI hsz) xb Dd h hs hw hh hp (nI se) (nI wd) (nI hd) (nI wl) (nI nb) (nI (topv wd)) (nI (rcv wd hd)) (nI (btv wd hd)) (nI (lcv wd hd)) (gI gl) (gI aq) st sl (gI lb) (fun zz => nI (sh zz)) (fun zz => nI (bw zz)) (fun zz => nI (bh zz)) (fun zz => nI (ps zz)))) (hbW cI cJ cB ho hka (nI hfi) (nI hsz) xb Dd h hs hw hh hp (nI se) (nI wd) (nI hd) (nI wl) (nI nb) (nI (topv wd)) (nI (rcv wd hd)) (nI (btv wd hd)) (nI (lcv wd hd)) (gI gl) (gI aq) st sl (gI lb) (fun zz => nI (sh zz)) (fun zz => nI (bw zz)) (fun zz => nI (bh zz)) (fun zz => nI (ps zz))) := ⟨hD0.1, fun k q h => ⟨k, q.2, h⟩⟩
  generalize hAe : aW (hbW cI cJ cB ho hka (nI hfi) (nI hsz) xb Dd h hs hw hh hp (nI se) (nI wd) (nI hd) (nI wl) (nI nb) (nI (topv wd)) (nI (rcv wd hd)) (nI (btv wd hd)) (nI (lcv wd hd)) (gI gl) (gI aq) st sl (gI lb) (fun zz => nI (sh zz)) (fun zz => nI (bw zz)) (fun zz => nI (bh zz)) (fun zz => nI (ps zz))) = A at hD ⊢
  have hS : va_S A s.heap s.heap [] := va_S.rf
  have hl := lv_entry ([.ref ho, .ref h]) (n := 3) (Nat.le_of_ble_eq_true rfl)
  rw [lg_entry_eq]
  generalize (lg_sl ([.ref ho, .ref h]) ++ List.replicate (3 - (lg_sl ([.ref ho, .ref h])).length) Slot.unset).toArray = ls at hl ⊢
  have hl : lv_has ls 3 [(0, .ref ho), (1, .ref h)] := hl
  generalize hav : ([.ref ho, .ref h] : List Value).toArray = args at hC ⊢
  refine W_gen (fun QQ hQ => ?_)
  show W p l e (rmN 3) s m args below meth c s.heap [] 0 0 QQ (F0 m 0 ls [])
  refine lv_aload_n hx hb dX2_restore_0 rfl (lv_at hl 0 rfl) ?_
  refine gf_X2_21 hC hK hP 5 rfl rfl dX2_restore_1 ?_
  refine lv_iconst (v := nI 1) hx hb dX2_restore_4 (by decide) ?_
  refine n_icmp_ge (a := hsz) (b := 1) (tgt := 11) hx hb dX2_restore_5 (by decide) (by omega) (by omega) (fun c5 => ?_) (fun c5 => ?_)
  · have _ : True := trivial
    refine lv_aload_n hx hb dX2_restore_11 rfl (lv_at hl 0 rfl) ?_
    refine lv_aload_n hx hb dX2_restore_12 rfl (lv_at hl 0 rfl) ?_
    refine gf_X2_21 hC hK hP 5 rfl rfl dX2_restore_13 ?_
    refine lv_iconst (v := nI 1) hx hb dX2_restore_16 (by decide) ?_
    refine n_isub hx hb dX2_restore_17 (by omega) ?_
    refine callV_q (As := [.int (nI (hsz - 1))]) (rest := []) [5, 6] hC hK hN hP hD rfl (by decide) hS 5 (ci := 2) rfl rfl rfl (c_X2_boardAt l D cI cJ cB ho hka hfi hsz xb (hsz - 1) (by omega) (by omega)) q373 md_X2_boardAt rfl hl.1 rfl (Nat.le_of_ble_eq_true rfl) dX2_restore_18 ⟨Nat.le_of_ble_eq_true rfl, Nat.le_of_ble_eq_true rfl⟩ ⟨Nat.le_of_ble_eq_true rfl, Nat.le_of_ble_eq_true rfl⟩ (fun r_18 w H locs hpost hP hD hS => ?_)
    obtain ⟨rfl, rfl⟩ := hpost
    have hP : va_P D vwCl (hbW cI cJ cB ho hka (nI hfi) (nI hsz) xb Dd h hs hw hh hp (nI se) (nI wd) (nI hd) (nI wl) (nI nb) (nI (topv wd)) (nI (rcv wd hd)) (nI (btv wd hd)) (nI (lcv wd hd)) (gI gl) (gI aq) st sl (gI lb) (fun zz => nI (sh zz)) (fun zz => nI (bw zz)) (fun zz => nI (bh zz)) (fun zz => nI (ps zz))) H := hP
    have hD : va_D A (hbW cI cJ cB ho hka (nI hfi) (nI hsz) xb Dd h hs hw hh hp (nI se) (nI wd) (nI hd) (nI wl) (nI nb) (nI (topv wd)) (nI (rcv wd hd)) (nI (btv wd hd)) (nI (lcv wd hd)) (gI gl) (gI aq) st sl (gI lb) (fun zz => nI (sh zz)) (fun zz => nI (bw zz)) (fun zz => nI (bh zz)) (fun zz => nI (ps zz))) := hD
    refine lv_astore_n (lv' := [(2, .ref (xb ((hfi + (hsz - 1)) % 10) 0)), (0, .ref ho), (1, .ref h)]) hx hb dX2_restore_21 rfl hl (by decide) rfl (fun ls hl => ?_)
    refine lv_aload_n hx hb dX2_restore_22 rfl (lv_at hl 0 rfl) ?_
    refine lv_ifnonnull (tgt := 29) hx hb dX2_restore_23 (by decide) ?_
    refine lv_aload_n hx hb dX2_restore_29 rfl (lv_at hl 2 rfl) ?_
    refine lv_aload_n hx hb dX2_restore_30 rfl (lv_at hl 0 rfl) ?_
    have hI9 : ((hfi + (hsz - 1)) % 10) < 10 := Nat.mod_lt _ (by decide)
    have hpk9 := hb_pick2 cI cJ cB ho hka (nI hfi) (nI hsz) xb Dd h hs hw hh hp (nI se) (nI wd) (nI hd) (nI wl) (nI nb) (nI (topv wd)) (nI (rcv wd hd)) (nI (btv wd hd)) (nI (lcv wd hd)) (gI gl) (gI aq) st sl (gI lb) (fun zz => nI (sh zz)) (fun zz => nI (bw zz)) (fun zz => nI (bh zz)) (fun zz => nI (ps zz)) ((hfi + (hsz - 1)) % 10) hI9
    refine callV_v (As := [.ref (xb ((hfi + (hsz - 1)) % 10) 0)]) (rest := []) (ixj ((hfi + (hsz - 1)) % 10)) hC hK hN hP hD hpk9 (ixj_n _ hI9) hS 0 (ci := 0) rfl (List.cons.inj hpk9).1 rfl (c_X0_copy l D cI cJ cB h hs hw hh hp (nI se) (nI wd) (nI hd) (nI wl) (nI nb) (nI (topv wd)) (nI (rcv wd hd)) (nI (btv wd hd)) (nI (lcv wd hd)) (gI gl) (gI aq) st sl (gI lb) sh bw bh ps (xb ((hfi + (hsz - 1)) % 10) 0) (xb ((hfi + (hsz - 1)) % 10) 1) (xb ((hfi + (hsz - 1)) % 10) 2) (xb ((hfi + (hsz - 1)) % 10) 3) (xb ((hfi + (hsz - 1)) % 10) 4) (tse (Dd ((hfi + (hsz - 1)) % 10))) (twd (Dd ((hfi + (hsz - 1)) % 10))) (thd (Dd ((hfi + (hsz - 1)) % 10))) (tnb (Dd ((hfi + (hsz - 1)) % 10))) (twl (Dd ((hfi + (hsz - 1)) % 10))) (tst (Dd ((hfi + (hsz - 1)) % 10))) (tsl (Dd ((hfi + (hsz - 1)) % 10))) (tgl (Dd ((hfi + (hsz - 1)) % 10))) (taq (Dd ((hfi + (hsz - 1)) % 10))) (tlb (Dd ((hfi + (hsz - 1)) % 10))) (tsh (Dd ((hfi + (hsz - 1)) % 10))) (tbw (Dd ((hfi + (hsz - 1)) % 10))) (tbh (Dd ((hfi + (hsz - 1)) % 10))) (tps (Dd ((hfi + (hsz - 1)) % 10)))) q377 md_X0_copy rfl hl.1 rfl (Nat.le_of_ble_eq_true rfl) dX2_restore_31 ⟨Nat.le_of_ble_eq_true rfl, Nat.le_of_ble_eq_true rfl⟩ ⟨Nat.le_of_ble_eq_true rfl, Nat.le_of_ble_eq_true rfl⟩ (fun w H locs hpost hP hD hS => ?_)
    obtain rfl := hpost
    rw [hb_put2 (hi := hI9)] at hP hD
    have hP : va_P D vwCl (hbW cI cJ cB ho hka (nI hfi) (nI hsz) xb Dd h hs hw hh hp (nI (tse (Dd ((hfi + (hsz - 1)) % 10)))) (nI (twd (Dd ((hfi + (hsz - 1)) % 10)))) (nI (thd (Dd ((hfi + (hsz - 1)) % 10)))) (nI (twl (Dd ((hfi + (hsz - 1)) % 10)))) (nI (tnb (Dd ((hfi + (hsz - 1)) % 10)))) (nI (topv (twd (Dd ((hfi + (hsz - 1)) % 10))))) (nI (rcv (twd (Dd ((hfi + (hsz - 1)) % 10))) (thd (Dd ((hfi + (hsz - 1)) % 10))))) (nI (btv (twd (Dd ((hfi + (hsz - 1)) % 10))) (thd (Dd ((hfi + (hsz - 1)) % 10))))) (nI (lcv (twd (Dd ((hfi + (hsz - 1)) % 10))) (thd (Dd ((hfi + (hsz - 1)) % 10))))) (gI (tgl (Dd ((hfi + (hsz - 1)) % 10)))) (gI (taq (Dd ((hfi + (hsz - 1)) % 10)))) (tst (Dd ((hfi + (hsz - 1)) % 10))) (tsl (Dd ((hfi + (hsz - 1)) % 10))) (gI (tlb (Dd ((hfi + (hsz - 1)) % 10)))) (fun zz => nI ((tsh (Dd ((hfi + (hsz - 1)) % 10))) zz)) (fun zz => nI ((tbw (Dd ((hfi + (hsz - 1)) % 10))) zz)) (fun zz => nI ((tbh (Dd ((hfi + (hsz - 1)) % 10))) zz)) (fun zz => nI ((tps (Dd ((hfi + (hsz - 1)) % 10))) zz))) H := hP
    have hD : va_D A (hbW cI cJ cB ho hka (nI hfi) (nI hsz) xb Dd h hs hw hh hp (nI (tse (Dd ((hfi + (hsz - 1)) % 10)))) (nI (twd (Dd ((hfi + (hsz - 1)) % 10)))) (nI (thd (Dd ((hfi + (hsz - 1)) % 10)))) (nI (twl (Dd ((hfi + (hsz - 1)) % 10)))) (nI (tnb (Dd ((hfi + (hsz - 1)) % 10)))) (nI (topv (twd (Dd ((hfi + (hsz - 1)) % 10))))) (nI (rcv (twd (Dd ((hfi + (hsz - 1)) % 10))) (thd (Dd ((hfi + (hsz - 1)) % 10))))) (nI (btv (twd (Dd ((hfi + (hsz - 1)) % 10))) (thd (Dd ((hfi + (hsz - 1)) % 10))))) (nI (lcv (twd (Dd ((hfi + (hsz - 1)) % 10))) (thd (Dd ((hfi + (hsz - 1)) % 10))))) (gI (tgl (Dd ((hfi + (hsz - 1)) % 10)))) (gI (taq (Dd ((hfi + (hsz - 1)) % 10)))) (tst (Dd ((hfi + (hsz - 1)) % 10))) (tsl (Dd ((hfi + (hsz - 1)) % 10))) (gI (tlb (Dd ((hfi + (hsz - 1)) % 10)))) (fun zz => nI ((tsh (Dd ((hfi + (hsz - 1)) % 10))) zz)) (fun zz => nI ((tbw (Dd ((hfi + (hsz - 1)) % 10))) zz)) (fun zz => nI ((tbh (Dd ((hfi + (hsz - 1)) % 10))) zz)) (fun zz => nI ((tps (Dd ((hfi + (hsz - 1)) % 10))) zz))) := hD
    refine lv_aload_n hx hb dX2_restore_34 rfl (lv_at hl 1 rfl) ?_
    refine lv_dup hx hb dX2_restore_35 rfl ?_
    refine gf_X2_21 hC hK hP 5 rfl rfl dX2_restore_36 ?_
    refine lv_iconst (v := nI 1) hx hb dX2_restore_39 (by decide) ?_
    refine n_isub hx hb dX2_restore_40 (by omega) ?_
    refine pf_X2_21 hC hK hP hD hS 5 rfl (Nat.le_of_ble_eq_true rfl) (ws1 := hbW cI cJ cB ho hka (nI hfi) (nI (hsz - 1)) xb Dd h hs hw hh hp (nI (tse (Dd ((hfi + (hsz - 1)) % 10)))) (nI (twd (Dd ((hfi + (hsz - 1)) % 10)))) (nI (thd (Dd ((hfi + (hsz - 1)) % 10)))) (nI (twl (Dd ((hfi + (hsz - 1)) % 10)))) (nI (tnb (Dd ((hfi + (hsz - 1)) % 10)))) (nI (topv (twd (Dd ((hfi + (hsz - 1)) % 10))))) (nI (rcv (twd (Dd ((hfi + (hsz - 1)) % 10))) (thd (Dd ((hfi + (hsz - 1)) % 10))))) (nI (btv (twd (Dd ((hfi + (hsz - 1)) % 10))) (thd (Dd ((hfi + (hsz - 1)) % 10))))) (nI (lcv (twd (Dd ((hfi + (hsz - 1)) % 10))) (thd (Dd ((hfi + (hsz - 1)) % 10))))) (gI (tgl (Dd ((hfi + (hsz - 1)) % 10)))) (gI (taq (Dd ((hfi + (hsz - 1)) % 10)))) (tst (Dd ((hfi + (hsz - 1)) % 10))) (tsl (Dd ((hfi + (hsz - 1)) % 10))) (gI (tlb (Dd ((hfi + (hsz - 1)) % 10)))) (fun zz => nI ((tsh (Dd ((hfi + (hsz - 1)) % 10))) zz)) (fun zz => nI ((tbw (Dd ((hfi + (hsz - 1)) % 10))) zz)) (fun zz => nI ((tbh (Dd ((hfi + (hsz - 1)) % 10))) zz)) (fun zz => nI ((tps (Dd ((hfi + (hsz - 1)) % 10))) zz))) rfl dX2_restore_41 (fun H locs hP hD hS => ?_)
    refine lv_aload_n hx hb dX2_restore_44 rfl (lv_at hl 1 rfl) ?_
    refine gf_X2_21 hC hK hP 5 rfl rfl dX2_restore_45 ?_
    rw [hQ]
    exact W.iret (v := nI (hsz - 1)) hx hb hr (fun t9 ht hW => ⟨⟨_, _, rfl, ⟨(Dd ((hfi + (hsz - 1)) % 10)), (by rw [if_neg (by omega)]), rfl, (fun h => by omega), (fun _ => rfl)⟩, by rw [ht]; exact hP, rfl⟩, hS.F ht⟩) hS.2.2 dX2_restore_48
  · have _ : True := trivial
    have e5 : hsz = 0 := by omega
    refine lv_bipush (v := (-9)) hx hb dX2_restore_8 (by decide) ?_
    rw [hQ]
    exact W.iret (v := (-9)) hx hb hr (fun t9 ht hW => ⟨⟨_, _, rfl, ⟨(tup se wd hd nb wl st sl gl aq lb sh bw bh ps), (by rw [if_pos e5]), (by rw [e5]), (fun _ => rfl), (fun h => absurd e5 h)⟩, by rw [ht]; exact hP, rfl⟩, hS.F ht⟩) hS.2.2 dX2_restore_10

theorem c_X2_keep (l : Launch) (D : va_G) (cI cJ cB : ClassId) (ho hsz : Nat) (hg : Nat → BT) (HW : va_W) (h hs hw hh hp se wd hd nb wl : Nat) (st sl : Int32) (gl aq lb : Option Nat) (sh bw bh ps : Nat → Nat) (hHW : HWp cI cJ cB ho hsz hg HW) : Met l yX2_keep (Cond.code yX2_keep cX2_keep 3 none :: lw_all) (rmN 3) (va_Pc [.ref ho, .ref h] (pB D (tyz cI cJ cB) (bhW cI cJ cB h hs hw hh hp (nI se) (nI wd) (nI hd) (nI wl) (nI nb) (nI (topv wd)) (nI (rcv wd hd)) (nI (btv wd hd)) (nI (lcv wd hd)) (gI gl) (gI aq) st sl (gI lb) (fun zz => nI (sh zz)) (fun zz => nI (bw zz)) (fun zz => nI (bh zz)) (fun zz => nI (ps zz)) HW))) (va_Qv (fun (w : va_W) => ∃ HW2 : va_W, w = bhW cI cJ cB h hs hw hh hp (nI se) (nI wd) (nI hd) (nI wl) (nI nb) (nI (topv wd)) (nI (rcv wd hd)) (nI (btv wd hd)) (nI (lcv wd hd)) (gI gl) (gI aq) st sl (gI lb) (fun zz => nI (sh zz)) (fun zz => nI (bw zz)) (fun zz => nI (bh zz)) (fun zz => nI (ps zz)) HW2 ∧ HWp cI cJ cB ho (hcnt hsz) (hpu hg hsz (tup se wd hd nb wl st sl gl aq lb sh bw bh ps)) HW2 ∧ adr HW2 = adr HW) (gB D (bhW cI cJ cB h hs hw hh hp (nI se) (nI wd) (nI hd) (nI wl) (nI nb) (nI (topv wd)) (nI (rcv wd hd)) (nI (btv wd hd)) (nI (lcv wd hd)) (gI gl) (gI aq) st sl (gI lb) (fun zz => nI (sh zz)) (fun zz => nI (bw zz)) (fun zz => nI (bh zz)) (fun zz => nI (ps zz)) HW)) (aW (bhW cI cJ cB h hs hw hh hp (nI se) (nI wd) (nI hd) (nI wl) (nI nb) (nI (topv wd)) (nI (rcv wd hd)) (nI (btv wd hd)) (nI (lcv wd hd)) (gI gl) (gI aq) st sl (gI lb) (fun zz => nI (sh zz)) (fun zz => nI (bw zz)) (fun zz => nI (bh zz)) (fun zz => nI (ps zz)) HW))) 0 0 (aW (bhW cI cJ cB h hs hw hh hp (nI se) (nI wd) (nI hd) (nI wl) (nI nb) (nI (topv wd)) (nI (rcv wd hd)) (nI (btv wd hd)) (nI (lcv wd hd)) (gI gl) (gI aq) st sl (gI lb) (fun zz => nI (sh zz)) (fun zz => nI (bw zz)) (fun zz => nI (bh zz)) (fun zz => nI (ps zz)) HW)) := by
  obtain ⟨hka, hfi, xb, Dd, rfl, h1, h2, h3⟩ := hHW
  refine Met.imp (c_X2_keep0 l D cI cJ cB ho hka hfi hsz xb Dd h hs hw hh hp se wd hd nb wl st sl gl aq lb sh bw bh ps h1 h2) (fun _ _ q => q) (fun a s o t _ q => ?_) (fun _ q => q)
  obtain ⟨⟨u, e1, ⟨hfi2, hsz2, Dd2, rfl, k1, k2, k3⟩, e2⟩, hF⟩ := q
  subst k2
  refine ⟨⟨_, e1, ⟨hiW cI cJ cB ho hka (nI hfi2) (nI (hcnt hsz)) xb Dd2, rfl, ⟨hka, hfi2, xb, Dd2, rfl, k1, ?_, fun j hj => ?_⟩, rfl⟩, e2⟩, hF⟩
  · unfold hcnt; split <;> omega
  · rw [k3 j hj]; exact hpu_c h2 h3 j hj

theorem c_X2_restore (l : Launch) (D : va_G) (cI cJ cB : ClassId) (ho hsz : Nat) (hg : Nat → BT) (HW : va_W) (h hs hw hh hp se wd hd nb wl : Nat) (st sl : Int32) (gl aq lb : Option Nat) (sh bw bh ps : Nat → Nat) (hHW : HWp cI cJ cB ho hsz hg HW) : Met l yX2_restore (Cond.code yX2_restore cX2_restore 3 (some .int) :: lw_all) (rmN 3) (va_Pc [.ref ho, .ref h] (pB D (tyz cI cJ cB) (bhW cI cJ cB h hs hw hh hp (nI se) (nI wd) (nI hd) (nI wl) (nI nb) (nI (topv wd)) (nI (rcv wd hd)) (nI (btv wd hd)) (nI (lcv wd hd)) (gI gl) (gI aq) st sl (gI lb) (fun zz => nI (sh zz)) (fun zz => nI (bw zz)) (fun zz => nI (bh zz)) (fun zz => nI (ps zz)) HW))) (va_Qi (fun (r : Int32) (w : va_W) => ∃ t2 : BT, ∃ HW2 : va_W, r = (if hsz = 0 then -9 else nI (hsz - 1)) ∧ w = bhW cI cJ cB h hs hw hh hp (nI (tse t2)) (nI (twd t2)) (nI (thd t2)) (nI (twl t2)) (nI (tnb t2)) (nI (topv (twd t2))) (nI (rcv (twd t2) (thd t2))) (nI (btv (twd t2) (thd t2))) (nI (lcv (twd t2) (thd t2))) (gI (tgl t2)) (gI (taq t2)) (tst t2) (tsl t2) (gI (tlb t2)) (fun zz => nI ((tsh t2) zz)) (fun zz => nI ((tbw t2) zz)) (fun zz => nI ((tbh t2) zz)) (fun zz => nI ((tps t2) zz)) HW2 ∧ HWp cI cJ cB ho (hsz - 1) hg HW2 ∧ adr HW2 = adr HW ∧ (hsz = 0 → t2 = (tup se wd hd nb wl st sl gl aq lb sh bw bh ps)) ∧ (hsz ≠ 0 → t2 = hg (hsz - 1))) (gB D (bhW cI cJ cB h hs hw hh hp (nI se) (nI wd) (nI hd) (nI wl) (nI nb) (nI (topv wd)) (nI (rcv wd hd)) (nI (btv wd hd)) (nI (lcv wd hd)) (gI gl) (gI aq) st sl (gI lb) (fun zz => nI (sh zz)) (fun zz => nI (bw zz)) (fun zz => nI (bh zz)) (fun zz => nI (ps zz)) HW)) (aW (bhW cI cJ cB h hs hw hh hp (nI se) (nI wd) (nI hd) (nI wl) (nI nb) (nI (topv wd)) (nI (rcv wd hd)) (nI (btv wd hd)) (nI (lcv wd hd)) (gI gl) (gI aq) st sl (gI lb) (fun zz => nI (sh zz)) (fun zz => nI (bw zz)) (fun zz => nI (bh zz)) (fun zz => nI (ps zz)) HW))) 0 0 (aW (bhW cI cJ cB h hs hw hh hp (nI se) (nI wd) (nI hd) (nI wl) (nI nb) (nI (topv wd)) (nI (rcv wd hd)) (nI (btv wd hd)) (nI (lcv wd hd)) (gI gl) (gI aq) st sl (gI lb) (fun zz => nI (sh zz)) (fun zz => nI (bw zz)) (fun zz => nI (bh zz)) (fun zz => nI (ps zz)) HW)) := by
  obtain ⟨hka, hfi, xb, Dd, rfl, h1, h2, h3⟩ := hHW
  refine Met.imp (c_X2_restore0 l D cI cJ cB ho hka hfi hsz xb Dd h hs hw hh hp se wd hd nb wl st sl gl aq lb sh bw bh ps h1 h2) (fun _ _ q => q) (fun a s o t _ q => ?_) (fun _ q => q)
  obtain ⟨⟨r, u, e1, ⟨t2, rfl, rfl, k1, k2⟩, e2⟩, hF⟩ := q
  exact ⟨⟨_, _, e1, ⟨t2, hiW cI cJ cB ho hka (nI hfi) (nI (hsz - 1)) xb Dd, rfl, rfl, ⟨hka, hfi, xb, Dd, rfl, h1, by omega, fun j hj => h3 j (by omega)⟩, rfl, k1, fun q => by rw [k2 q, h3 _ (by omega)]⟩, e2⟩, hF⟩
