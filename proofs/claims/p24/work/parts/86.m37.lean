/-! ===== the public methods of the class over the pieces of the law's world (written by lgen.py) ===== -/
set_option maxHeartbeats 4000000 in
set_option maxRecDepth 100000 in
theorem x_type (l : Launch) (D : va_G) {cI cJ cB : ClassId} {xo rd ln vo h h2 ho ro ys yw zs hsz : Nat} {tx : Nat → Nat} {t : BT} {s1 s2 : SPT} {hg : Nat → BT} {wm ws : va_W} (x : Int32) (hln : ln ≤ 40) (h0 : PCS cI cJ cB xo rd ln tx t s1 s2 hsz hg vo h h2 ho ro ys yw zs wm ws) : STi l D cI cJ cB yX7_type cX7_type 2 1 xo 7 [.int x] ws (fun r w9 => ∃ tx2 ln2, PCS cI cJ cB xo rd ln2 tx2 t s1 s2 hsz hg vo h h2 ho ro ys yw zs wm w9 ∧ r = (match tOf x with | some _ => (if ln = 40 then -3 else nI (ln + 1)) | none => -1) ∧ tx2 = (match tOf x with | some q => (if ln = 40 then tx else va_up tx ln q) | none => tx) ∧ ln2 = (match tOf x with | some _ => (if ln = 40 then ln else ln + 1) | none => ln)) := by
  obtain ⟨t9, wt, wb, wd9, wr, wsp, wu, wk, HW, hpm, hT, hB, hB9, hR, hSp, hU, hK, hH⟩ := h0
  obtain ⟨vsa, vca, vla, all0, k0, vw0, ro0, row0, cl0, lt0, rfl⟩ := hT
  have hM := c_X7_type l D cI cJ cB xo h h2 ho ro ys yw (nI rd) vo vsa vca vla ln all0 k0 vw0 ro0 row0 tx cl0 lt0 x hln
  refine ⟨_, (wb ++ (wd9 ++ (wr ++ (wsp ++ (wu ++ (wk ++ (wm ++ HW))))))), _, [.ref vo, .ref h, .ref h2, .ref ho, .ref ro, .ref ys, .ref yw, .int (nI rd)], ?_, ?_, hM, ?_⟩
  · exact hpm.trans (pmT (pX xo vo h h2 ho ro ys yw (nI rd)) (pT cI vo vsa vca vla ln all0 k0 vw0 ro0 row0 tx cl0 lt0) wb wd9 wr wsp wu wk wm HW)
  · exact List.mem_cons_self
  · intro r w1 hpost
    obtain ⟨tx2, ln2, hr9, rfl, hf9⟩ := hpost
    exact ⟨tx2, ln2, ⟨t9, pT cI vo vsa vca vla ln2 all0 k0 vw0 ro0 row0 tx2 cl0 lt0, wb, wd9, wr, wsp, wu, wk, HW, (pmT (pX xo vo h h2 ho ro ys yw (nI rd)) (pT cI vo vsa vca vla ln2 all0 k0 vw0 ro0 row0 tx2 cl0 lt0) wb wd9 wr wsp wu wk wm HW).symm, ⟨vsa, vca, vla, all0, k0, vw0, ro0, row0, cl0, lt0, rfl⟩, hB, hB9, hR, hSp, hU, hK, hH⟩, hr9, hf9.1, hf9.2⟩
set_option maxHeartbeats 4000000 in
set_option maxRecDepth 100000 in
theorem x_clear (l : Launch) (D : va_G) {cI cJ cB : ClassId} {xo rd ln vo h h2 ho ro ys yw zs hsz : Nat} {tx : Nat → Nat} {t : BT} {s1 s2 : SPT} {hg : Nat → BT} {wm ws : va_W} (h0 : PCS cI cJ cB xo rd ln tx t s1 s2 hsz hg vo h h2 ho ro ys yw zs wm ws) : STi l D cI cJ cB yX7_clear cX7_clear 2 0 xo 7 [] ws (fun r w9 => PCS cI cJ cB xo rd 0 tx t s1 s2 hsz hg vo h h2 ho ro ys yw zs wm w9 ∧ r = nI ln) := by
  obtain ⟨t9, wt, wb, wd9, wr, wsp, wu, wk, HW, hpm, hT, hB, hB9, hR, hSp, hU, hK, hH⟩ := h0
  obtain ⟨vsa, vca, vla, all0, k0, vw0, ro0, row0, cl0, lt0, rfl⟩ := hT
  have hM := c_X7_clear l D cI cJ cB xo h h2 ho ro ys yw (nI rd) vo vsa vca vla ln all0 k0 vw0 ro0 row0 tx cl0 lt0  
  refine ⟨_, (wb ++ (wd9 ++ (wr ++ (wsp ++ (wu ++ (wk ++ (wm ++ HW))))))), _, [.ref vo, .ref h, .ref h2, .ref ho, .ref ro, .ref ys, .ref yw, .int (nI rd)], ?_, ?_, hM, ?_⟩
  · exact hpm.trans (pmT (pX xo vo h h2 ho ro ys yw (nI rd)) (pT cI vo vsa vca vla ln all0 k0 vw0 ro0 row0 tx cl0 lt0) wb wd9 wr wsp wu wk wm HW)
  · exact List.mem_cons_self
  · intro r w1 hpost
    obtain ⟨hr9, rfl⟩ := hpost
    exact ⟨⟨t9, pT cI vo vsa vca vla 0 all0 k0 vw0 ro0 row0 tx cl0 lt0, wb, wd9, wr, wsp, wu, wk, HW, (pmT (pX xo vo h h2 ho ro ys yw (nI rd)) (pT cI vo vsa vca vla 0 all0 k0 vw0 ro0 row0 tx cl0 lt0) wb wd9 wr wsp wu wk wm HW).symm, ⟨vsa, vca, vla, all0, k0, vw0, ro0, row0, cl0, lt0, rfl⟩, hB, hB9, hR, hSp, hU, hK, hH⟩, hr9⟩
set_option maxHeartbeats 4000000 in
set_option maxRecDepth 100000 in
theorem x_frame (l : Launch) (D : va_G) {cI cJ cB : ClassId} {xo rd ln vo h h2 ho ro ys yw zs hsz : Nat} {tx : Nat → Nat} {t : BT} {s1 s2 : SPT} {hg : Nat → BT} {wm ws : va_W} (x : Int32) (htv : TVt t) (h0 : PCS cI cJ cB xo rd ln tx t s1 s2 hsz hg vo h h2 ho ro ys yw zs wm ws) : STi l D cI cJ cB yX7_frame cX7_frame 2 3 xo 7 [.int x] ws (fun r w9 => PCS cI cJ cB xo rd ln tx t s1 s2 hsz hg vo h h2 ho ro ys yw zs wm w9 ∧ r = f_framex (twd t) (thd t) (tnb t) (twl t) (tst t) (tsl t) (tgl t) (taq t) (tsh t) (tps t) x) := by
  obtain ⟨se, wd, hd, nb, wl, st, sl, gl, aq, lb, sh, bw, bh, ps⟩ := t
  obtain ⟨t9, wt, wb, wd9, wr, wsp, wu, wk, HW, hpm, hT, hB, hB9, hR, hSp, hU, hK, hH⟩ := h0
  obtain ⟨hs, hw, hh, hp, rfl⟩ := hB
  have hM := c_X7_frame l D cI cJ cB xo vo h2 ho ro ys yw (nI rd) h hs hw hh hp se wd hd nb wl st sl gl aq lb sh bw bh ps x htv
  refine ⟨_, (wt ++ (wd9 ++ (wr ++ (wsp ++ (wu ++ (wk ++ (wm ++ HW))))))), _, [.ref vo, .ref h, .ref h2, .ref ho, .ref ro, .ref ys, .ref yw, .int (nI rd)], ?_, ?_, hM, ?_⟩
  · exact hpm.trans (pmB (pX xo vo h h2 ho ro ys yw (nI rd)) wt (pBd cI cJ cB h hs hw hh hp (tup se wd hd nb wl st sl gl aq lb sh bw bh ps)) wd9 wr wsp wu wk wm HW)
  · exact List.mem_cons_self
  · intro r w1 hpost
    obtain ⟨hr9, rfl⟩ := hpost
    exact ⟨⟨t9, wt, pBd cI cJ cB h hs hw hh hp (tup se wd hd nb wl st sl gl aq lb sh bw bh ps), wd9, wr, wsp, wu, wk, HW, (pmB (pX xo vo h h2 ho ro ys yw (nI rd)) wt (pBd cI cJ cB h hs hw hh hp (tup se wd hd nb wl st sl gl aq lb sh bw bh ps)) wd9 wr wsp wu wk wm HW).symm, hT, ⟨hs, hw, hh, hp, rfl⟩, hB9, hR, hSp, hU, hK, hH⟩, hr9⟩
set_option maxHeartbeats 4000000 in
set_option maxRecDepth 100000 in
theorem x_cell (l : Launch) (D : va_G) {cI cJ cB : ClassId} {xo rd ln vo h h2 ho ro ys yw zs hsz : Nat} {tx : Nat → Nat} {t : BT} {s1 s2 : SPT} {hg : Nat → BT} {wm ws : va_W} (x : Int32) (htv : TVt t) (h0 : PCS cI cJ cB xo rd ln tx t s1 s2 hsz hg vo h h2 ho ro ys yw zs wm ws) : STi l D cI cJ cB yX7_cell cX7_cell 4 2 xo 7 [.int x] ws (fun r w9 => PCS cI cJ cB xo rd ln tx t s1 s2 hsz hg vo h h2 ho ro ys yw zs wm w9 ∧ r = f_cellx (twd t) (thd t) (tnb t) (twl t) (tsh t) (tps t) x) := by
  obtain ⟨se, wd, hd, nb, wl, st, sl, gl, aq, lb, sh, bw, bh, ps⟩ := t
  obtain ⟨t9, wt, wb, wd9, wr, wsp, wu, wk, HW, hpm, hT, hB, hB9, hR, hSp, hU, hK, hH⟩ := h0
  obtain ⟨hs, hw, hh, hp, rfl⟩ := hB
  have hM := c_X7_cell l D cI cJ cB xo vo h2 ho ro ys yw (nI rd) h hs hw hh hp se wd hd nb wl st sl gl aq lb sh bw bh ps x htv
  refine ⟨_, (wt ++ (wd9 ++ (wr ++ (wsp ++ (wu ++ (wk ++ (wm ++ HW))))))), _, [.ref vo, .ref h, .ref h2, .ref ho, .ref ro, .ref ys, .ref yw, .int (nI rd)], ?_, ?_, hM, ?_⟩
  · exact hpm.trans (pmB (pX xo vo h h2 ho ro ys yw (nI rd)) wt (pBd cI cJ cB h hs hw hh hp (tup se wd hd nb wl st sl gl aq lb sh bw bh ps)) wd9 wr wsp wu wk wm HW)
  · exact List.mem_cons_self
  · intro r w1 hpost
    obtain ⟨hr9, rfl⟩ := hpost
    exact ⟨⟨t9, wt, pBd cI cJ cB h hs hw hh hp (tup se wd hd nb wl st sl gl aq lb sh bw bh ps), wd9, wr, wsp, wu, wk, HW, (pmB (pX xo vo h h2 ho ro ys yw (nI rd)) wt (pBd cI cJ cB h hs hw hh hp (tup se wd hd nb wl st sl gl aq lb sh bw bh ps)) wd9 wr wsp wu wk wm HW).symm, hT, ⟨hs, hw, hh, hp, rfl⟩, hB9, hR, hSp, hU, hK, hH⟩, hr9⟩
set_option maxHeartbeats 4000000 in
set_option maxRecDepth 100000 in
theorem x_block (l : Launch) (D : va_G) {cI cJ cB : ClassId} {xo rd ln vo h h2 ho ro ys yw zs hsz : Nat} {tx : Nat → Nat} {t : BT} {s1 s2 : SPT} {hg : Nat → BT} {wm ws : va_W} (x : Int32) (y : Int32) (htv : TVt t) (h0 : PCS cI cJ cB xo rd ln tx t s1 s2 hsz hg vo h h2 ho ro ys yw zs wm ws) : STi l D cI cJ cB yX7_block cX7_block 3 4 xo 7 [.int x, .int y] ws (fun r w9 => PCS cI cJ cB xo rd ln tx t s1 s2 hsz hg vo h h2 ho ro ys yw zs wm w9 ∧ r = f_blkx (twd t) (thd t) (tnb t) (twl t) (tsh t) (tbw t) (tbh t) (tps t) x y) := by
  obtain ⟨se, wd, hd, nb, wl, st, sl, gl, aq, lb, sh, bw, bh, ps⟩ := t
  obtain ⟨t9, wt, wb, wd9, wr, wsp, wu, wk, HW, hpm, hT, hB, hB9, hR, hSp, hU, hK, hH⟩ := h0
  obtain ⟨hs, hw, hh, hp, rfl⟩ := hB
  obtain ⟨rfa, rqa, rF, rQ, rfl⟩ := hR
  have hM := c_X7_block l D cI cJ cB xo vo h2 ho ys yw (nI rd) ro rfa rqa rF rQ h hs hw hh hp se wd hd nb wl st sl gl aq lb sh bw bh ps x y htv
  refine ⟨_, (wt ++ (wd9 ++ (wsp ++ (wu ++ (wk ++ (wm ++ HW)))))), _, [.ref vo, .ref h, .ref h2, .ref ho, .ref ro, .ref ys, .ref yw, .int (nI rd)], ?_, ?_, hM, ?_⟩
  · exact hpm.trans (pmR (pX xo vo h h2 ho ro ys yw (nI rd)) wt (pBd cI cJ cB h hs hw hh hp (tup se wd hd nb wl st sl gl aq lb sh bw bh ps)) wd9 (pR cI ro rfa rqa rF rQ) wsp wu wk wm HW)
  · exact List.mem_cons_self
  · intro r w1 hpost
    obtain ⟨F2, Q2, hr9, rfl⟩ := hpost
    exact ⟨⟨t9, wt, pBd cI cJ cB h hs hw hh hp (tup se wd hd nb wl st sl gl aq lb sh bw bh ps), wd9, pR cI ro rfa rqa F2 Q2, wsp, wu, wk, HW, (pmR (pX xo vo h h2 ho ro ys yw (nI rd)) wt (pBd cI cJ cB h hs hw hh hp (tup se wd hd nb wl st sl gl aq lb sh bw bh ps)) wd9 (pR cI ro rfa rqa F2 Q2) wsp wu wk wm HW).symm, hT, ⟨hs, hw, hh, hp, rfl⟩, hB9, ⟨rfa, rqa, F2, Q2, rfl⟩, hSp, hU, hK, hH⟩, hr9⟩
set_option maxHeartbeats 4000000 in
set_option maxRecDepth 100000 in
theorem x_states (l : Launch) (D : va_G) {cI cJ cB : ClassId} {xo rd ln vo h h2 ho ro ys yw zs hsz : Nat} {tx : Nat → Nat} {t : BT} {s1 s2 : SPT} {hg : Nat → BT} {wm ws : va_W} (htv : TVt t) (hse : tse t < 2 ^ 20) (hbd : bdS s1) (hcv : CVF (frt t) none (keyx (tps t) none (tnb t)) (tse t) s1) (h0 : PCS cI cJ cB xo rd ln tx t s1 s2 hsz hg vo h h2 ho ro ys yw zs wm ws) : STi l D cI cJ cB yX7_states cX7_states 1 5 xo 7 [] ws (fun r w9 => ∃ s3 : SPT, PCS cI cJ cB xo rd ln tx t s3 s2 hsz hg vo h h2 ho ro ys yw zs wm w9 ∧ r = f_states (kst (twd t) (thd t) (tnb t) (twl t) (tsh t) (tbw t) (tbh t) none) (pkey (tps t) (tnb t)) ∧ (s3 = s1 ∨ SVF (frt t) none (keyx (tps t) none (tnb t)) (tse t) s3) ∧ bdS s3) := by
  obtain ⟨se, wd, hd, nb, wl, st, sl, gl, aq, lb, sh, bw, bh, ps⟩ := t
  obtain ⟨sse, srm, K, sz, P, T, tm, gb1, gp1, Fa1, su1, gr1, gb2, gp2, Fa2, su2, gr2⟩ := s1
  obtain ⟨t9, wt, wb, wd9, wr, wsp, wu, wk, HW, hpm, hT, hB, hB9, hR, hSp, hU, hK, hH⟩ := h0
  obtain ⟨hs, hw, hh, hp, rfl⟩ := hB
  obtain ⟨yk, yp, yt, y1, y2, zf1, zf2, fo1, fo2, rfl⟩ := hSp
  obtain ⟨zq, zm, zl, Qa, Ma, La, rfl⟩ := hK
  have hM := c_X7_states l D cI cJ cB xo vo h2 ho ro yw (nI rd) ys yk yp yt y1 y2 sz tm sse srm K P T zs zf1 zf2 zq zm zl fo1 su1 fo2 su2 gb1 gp1 gr1 gb2 gp2 gr2 Fa1 Fa2 Qa Ma La h hs hw hh hp se wd hd nb wl st sl gl aq lb sh bw bh ps htv hse hbd hcv
  refine ⟨_, (wt ++ (wd9 ++ (wr ++ (wu ++ (wm ++ HW))))), _, [.ref vo, .ref h, .ref h2, .ref ho, .ref ro, .ref ys, .ref yw, .int (nI rd)], ?_, ?_, hM, ?_⟩
  · exact hpm.trans (pmG (pX xo vo h h2 ho ro ys yw (nI rd)) wt (pBd cI cJ cB h hs hw hh hp (tup se wd hd nb wl st sl gl aq lb sh bw bh ps)) wd9 wr (pS cI cJ ys yk yp yt y1 y2 zs zf1 zf2 sz tm sse srm K P T gb1 gp1 fo1 su1 gr1 gb2 gp2 fo2 su2 gr2 Fa1 Fa2) wu (pK cI zs zq zm zl Qa Ma La) wm HW)
  · exact List.mem_cons_self
  · intro r w1 hpost
    obtain ⟨K7, n7, P7, T7, tm7, sse7, srm7, gbA, gpA, FA, foA, suA, grA, gbB, gpB, FB, foB, suB, grB, Q7, M7, L7x, hr9, rfl, hf9⟩ := hpost
    exact ⟨(sse7, srm7, K7, n7, P7, T7, tm7, gbA, gpA, FA, suA, grA, gbB, gpB, FB, suB, grB), ⟨t9, wt, pBd cI cJ cB h hs hw hh hp (tup se wd hd nb wl st sl gl aq lb sh bw bh ps), wd9, wr, pS cI cJ ys yk yp yt y1 y2 zs zf1 zf2 n7 tm7 sse7 srm7 K7 P7 T7 gbA gpA foA suA grA gbB gpB foB suB grB FA FB, wu, pK cI zs zq zm zl Q7 M7 L7x, HW, (pmG (pX xo vo h h2 ho ro ys yw (nI rd)) wt (pBd cI cJ cB h hs hw hh hp (tup se wd hd nb wl st sl gl aq lb sh bw bh ps)) wd9 wr (pS cI cJ ys yk yp yt y1 y2 zs zf1 zf2 n7 tm7 sse7 srm7 K7 P7 T7 gbA gpA foA suA grA gbB gpB foB suB grB FA FB) wu (pK cI zs zq zm zl Q7 M7 L7x) wm HW).symm, hT, ⟨hs, hw, hh, hp, rfl⟩, hB9, hR, ⟨yk, yp, yt, y1, y2, zf1, zf2, foA, foB, rfl⟩, hU, ⟨zq, zm, zl, Q7, M7, L7x, rfl⟩, hH⟩, hr9, hf9.1, hf9.2⟩
set_option maxHeartbeats 4000000 in
set_option maxRecDepth 100000 in
theorem x_solved (l : Launch) (D : va_G) {cI cJ cB : ClassId} {xo rd ln vo h h2 ho ro ys yw zs hsz : Nat} {tx : Nat → Nat} {t : BT} {s1 s2 : SPT} {hg : Nat → BT} {wm ws : va_W} (htv : TVt t) (hse : tse t < 2 ^ 20) (hbd : bdS s1) (hcv : CVF (frt t) none (keyx (tps t) none (tnb t)) (tse t) s1) (h0 : PCS cI cJ cB xo rd ln tx t s1 s2 hsz hg vo h h2 ho ro ys yw zs wm ws) : STi l D cI cJ cB yX7_solved cX7_solved 1 5 xo 7 [] ws (fun r w9 => ∃ s3 : SPT, PCS cI cJ cB xo rd ln tx t s3 s2 hsz hg vo h h2 ho ro ys yw zs wm w9 ∧ r = f_solved (kst (twd t) (thd t) (tnb t) (twl t) (tsh t) (tbw t) (tbh t) none) (tgl t) (taq t) (pkey (tps t) (tnb t)) ∧ (s3 = s1 ∨ SVF (frt t) none (keyx (tps t) none (tnb t)) (tse t) s3) ∧ bdS s3) := by
  obtain ⟨se, wd, hd, nb, wl, st, sl, gl, aq, lb, sh, bw, bh, ps⟩ := t
  obtain ⟨sse, srm, K, sz, P, T, tm, gb1, gp1, Fa1, su1, gr1, gb2, gp2, Fa2, su2, gr2⟩ := s1
  obtain ⟨t9, wt, wb, wd9, wr, wsp, wu, wk, HW, hpm, hT, hB, hB9, hR, hSp, hU, hK, hH⟩ := h0
  obtain ⟨hs, hw, hh, hp, rfl⟩ := hB
  obtain ⟨yk, yp, yt, y1, y2, zf1, zf2, fo1, fo2, rfl⟩ := hSp
  obtain ⟨zq, zm, zl, Qa, Ma, La, rfl⟩ := hK
  have hM := c_X7_solved l D cI cJ cB xo vo h2 ho ro yw (nI rd) ys yk yp yt y1 y2 sz tm sse srm K P T zs zf1 zf2 zq zm zl fo1 su1 fo2 su2 gb1 gp1 gr1 gb2 gp2 gr2 Fa1 Fa2 Qa Ma La h hs hw hh hp se wd hd nb wl st sl gl aq lb sh bw bh ps htv hse hbd hcv
  refine ⟨_, (wt ++ (wd9 ++ (wr ++ (wu ++ (wm ++ HW))))), _, [.ref vo, .ref h, .ref h2, .ref ho, .ref ro, .ref ys, .ref yw, .int (nI rd)], ?_, ?_, hM, ?_⟩
  · exact hpm.trans (pmG (pX xo vo h h2 ho ro ys yw (nI rd)) wt (pBd cI cJ cB h hs hw hh hp (tup se wd hd nb wl st sl gl aq lb sh bw bh ps)) wd9 wr (pS cI cJ ys yk yp yt y1 y2 zs zf1 zf2 sz tm sse srm K P T gb1 gp1 fo1 su1 gr1 gb2 gp2 fo2 su2 gr2 Fa1 Fa2) wu (pK cI zs zq zm zl Qa Ma La) wm HW)
  · exact List.mem_cons_self
  · intro r w1 hpost
    obtain ⟨K7, n7, P7, T7, tm7, sse7, srm7, gbA, gpA, FA, foA, suA, grA, gbB, gpB, FB, foB, suB, grB, Q7, M7, L7x, hr9, rfl, hf9⟩ := hpost
    exact ⟨(sse7, srm7, K7, n7, P7, T7, tm7, gbA, gpA, FA, suA, grA, gbB, gpB, FB, suB, grB), ⟨t9, wt, pBd cI cJ cB h hs hw hh hp (tup se wd hd nb wl st sl gl aq lb sh bw bh ps), wd9, wr, pS cI cJ ys yk yp yt y1 y2 zs zf1 zf2 n7 tm7 sse7 srm7 K7 P7 T7 gbA gpA foA suA grA gbB gpB foB suB grB FA FB, wu, pK cI zs zq zm zl Q7 M7 L7x, HW, (pmG (pX xo vo h h2 ho ro ys yw (nI rd)) wt (pBd cI cJ cB h hs hw hh hp (tup se wd hd nb wl st sl gl aq lb sh bw bh ps)) wd9 wr (pS cI cJ ys yk yp yt y1 y2 zs zf1 zf2 n7 tm7 sse7 srm7 K7 P7 T7 gbA gpA foA suA grA gbB gpB foB suB grB FA FB) wu (pK cI zs zq zm zl Q7 M7 L7x) wm HW).symm, hT, ⟨hs, hw, hh, hp, rfl⟩, hB9, hR, ⟨yk, yp, yt, y1, y2, zf1, zf2, foA, foB, rfl⟩, hU, ⟨zq, zm, zl, Q7, M7, L7x, rfl⟩, hH⟩, hr9, hf9.1, hf9.2⟩
set_option maxHeartbeats 4000000 in
set_option maxRecDepth 100000 in
theorem x_places (l : Launch) (D : va_G) {cI cJ cB : ClassId} {xo rd ln vo h h2 ho ro ys yw zs hsz : Nat} {tx : Nat → Nat} {t : BT} {s1 s2 : SPT} {hg : Nat → BT} {wm ws : va_W} (x : Int32) (htv : TVt t) (hse : tse t < 2 ^ 20) (hbd : bdS s1) (hcv : CVF (frt t) none (keyx (tps t) none (tnb t)) (tse t) s1) (h0 : PCS cI cJ cB xo rd ln tx t s1 s2 hsz hg vo h h2 ho ro ys yw zs wm ws) : STi l D cI cJ cB yX7_places cX7_places 2 5 xo 7 [.int x] ws (fun r w9 => ∃ s3 : SPT, PCS cI cJ cB xo rd ln tx t s3 s2 hsz hg vo h h2 ho ro ys yw zs wm w9 ∧ r = f_placesx (twd t) (thd t) (tnb t) (twl t) (tsh t) (tbw t) (tbh t) (tps t) x ∧ (s3 = s1 ∨ SVF (frt t) none (keyx (tps t) none (tnb t)) (tse t) s3) ∧ bdS s3) := by
  obtain ⟨se, wd, hd, nb, wl, st, sl, gl, aq, lb, sh, bw, bh, ps⟩ := t
  obtain ⟨sse, srm, K, sz, P, T, tm, gb1, gp1, Fa1, su1, gr1, gb2, gp2, Fa2, su2, gr2⟩ := s1
  obtain ⟨t9, wt, wb, wd9, wr, wsp, wu, wk, HW, hpm, hT, hB, hB9, hR, hSp, hU, hK, hH⟩ := h0
  obtain ⟨hs, hw, hh, hp, rfl⟩ := hB
  obtain ⟨yk, yp, yt, y1, y2, zf1, zf2, fo1, fo2, rfl⟩ := hSp
  obtain ⟨zq, zm, zl, Qa, Ma, La, rfl⟩ := hK
  have hM := c_X7_places l D cI cJ cB xo vo h2 ho ro yw (nI rd) ys yk yp yt y1 y2 sz tm sse srm K P T zs zf1 zf2 zq zm zl fo1 su1 fo2 su2 gb1 gp1 gr1 gb2 gp2 gr2 Fa1 Fa2 Qa Ma La h hs hw hh hp se wd hd nb wl st sl gl aq lb sh bw bh ps x htv hse hbd hcv
  refine ⟨_, (wt ++ (wd9 ++ (wr ++ (wu ++ (wm ++ HW))))), _, [.ref vo, .ref h, .ref h2, .ref ho, .ref ro, .ref ys, .ref yw, .int (nI rd)], ?_, ?_, hM, ?_⟩
  · exact hpm.trans (pmG (pX xo vo h h2 ho ro ys yw (nI rd)) wt (pBd cI cJ cB h hs hw hh hp (tup se wd hd nb wl st sl gl aq lb sh bw bh ps)) wd9 wr (pS cI cJ ys yk yp yt y1 y2 zs zf1 zf2 sz tm sse srm K P T gb1 gp1 fo1 su1 gr1 gb2 gp2 fo2 su2 gr2 Fa1 Fa2) wu (pK cI zs zq zm zl Qa Ma La) wm HW)
  · exact List.mem_cons_self
  · intro r w1 hpost
    obtain ⟨K7, n7, P7, T7, tm7, sse7, srm7, gbA, gpA, FA, foA, suA, grA, gbB, gpB, FB, foB, suB, grB, Q7, M7, L7x, hr9, rfl, hf9⟩ := hpost
    exact ⟨(sse7, srm7, K7, n7, P7, T7, tm7, gbA, gpA, FA, suA, grA, gbB, gpB, FB, suB, grB), ⟨t9, wt, pBd cI cJ cB h hs hw hh hp (tup se wd hd nb wl st sl gl aq lb sh bw bh ps), wd9, wr, pS cI cJ ys yk yp yt y1 y2 zs zf1 zf2 n7 tm7 sse7 srm7 K7 P7 T7 gbA gpA foA suA grA gbB gpB foB suB grB FA FB, wu, pK cI zs zq zm zl Q7 M7 L7x, HW, (pmG (pX xo vo h h2 ho ro ys yw (nI rd)) wt (pBd cI cJ cB h hs hw hh hp (tup se wd hd nb wl st sl gl aq lb sh bw bh ps)) wd9 wr (pS cI cJ ys yk yp yt y1 y2 zs zf1 zf2 n7 tm7 sse7 srm7 K7 P7 T7 gbA gpA foA suA grA gbB gpB foB suB grB FA FB) wu (pK cI zs zq zm zl Q7 M7 L7x) wm HW).symm, hT, ⟨hs, hw, hh, hp, rfl⟩, hB9, hR, ⟨yk, yp, yt, y1, y2, zf1, zf2, foA, foB, rfl⟩, hU, ⟨zq, zm, zl, Q7, M7, L7x, rfl⟩, hH⟩, hr9, hf9.1, hf9.2⟩
set_option maxHeartbeats 4000000 in
set_option maxRecDepth 100000 in
theorem x_distance (l : Launch) (D : va_G) {cI cJ cB : ClassId} {xo rd ln vo h h2 ho ro ys yw zs hsz : Nat} {tx : Nat → Nat} {t : BT} {s1 s2 : SPT} {hg : Nat → BT} {wm ws : va_W} (z : Bool) (htv : TVt t) (hse : tse t < 2 ^ 20) (hbd : bdS s1) (hcv : CVF (frt t) none (keyx (tps t) none (tnb t)) (tse t) s1) (h0 : PCS cI cJ cB xo rd ln tx t s1 s2 hsz hg vo h h2 ho ro ys yw zs wm ws) : STi l D cI cJ cB yX7_distance cX7_distance 3 6 xo 7 [.int (bI z)] ws (fun r w9 => ∃ s3 : SPT, PCS cI cJ cB xo rd ln tx t s3 s2 hsz hg vo h h2 ho ro ys yw zs wm w9 ∧ r = f_dist (kst (twd t) (thd t) (tnb t) (twl t) (tsh t) (tbw t) (tbh t) none) (mvk (twd t) (thd t) (tnb t) (twl t) (tsh t) (tbw t) (tbh t) none z) (tgl t) (taq t) (pkey (tps t) (tnb t)) ∧ (s3 = s1 ∨ SVF (frt t) none (keyx (tps t) none (tnb t)) (tse t) s3) ∧ bdS s3) := by
  obtain ⟨se, wd, hd, nb, wl, st, sl, gl, aq, lb, sh, bw, bh, ps⟩ := t
  obtain ⟨sse, srm, K, sz, P, T, tm, gb1, gp1, Fa1, su1, gr1, gb2, gp2, Fa2, su2, gr2⟩ := s1
  obtain ⟨t9, wt, wb, wd9, wr, wsp, wu, wk, HW, hpm, hT, hB, hB9, hR, hSp, hU, hK, hH⟩ := h0
  obtain ⟨hs, hw, hh, hp, rfl⟩ := hB
  obtain ⟨yk, yp, yt, y1, y2, zf1, zf2, fo1, fo2, rfl⟩ := hSp
  obtain ⟨zq, zm, zl, Qa, Ma, La, rfl⟩ := hK
  have hM := c_X7_distance l D cI cJ cB xo vo h2 ho ro yw (nI rd) ys yk yp yt y1 y2 sz tm sse srm K P T zs zf1 zf2 zq zm zl fo1 su1 fo2 su2 gb1 gp1 gr1 gb2 gp2 gr2 Fa1 Fa2 Qa Ma La h hs hw hh hp se wd hd nb wl st sl gl aq lb sh bw bh ps z htv hse hbd hcv
  refine ⟨_, (wt ++ (wd9 ++ (wr ++ (wu ++ (wm ++ HW))))), _, [.ref vo, .ref h, .ref h2, .ref ho, .ref ro, .ref ys, .ref yw, .int (nI rd)], ?_, ?_, hM, ?_⟩
  · exact hpm.trans (pmG (pX xo vo h h2 ho ro ys yw (nI rd)) wt (pBd cI cJ cB h hs hw hh hp (tup se wd hd nb wl st sl gl aq lb sh bw bh ps)) wd9 wr (pS cI cJ ys yk yp yt y1 y2 zs zf1 zf2 sz tm sse srm K P T gb1 gp1 fo1 su1 gr1 gb2 gp2 fo2 su2 gr2 Fa1 Fa2) wu (pK cI zs zq zm zl Qa Ma La) wm HW)
  · exact List.mem_cons_self
  · intro r w1 hpost
    obtain ⟨K7, n7, P7, T7, tm7, sse7, srm7, gbA, gpA, FA, foA, suA, grA, gbB, gpB, FB, foB, suB, grB, Q7, M7, L7x, hr9, rfl, hf9⟩ := hpost
    exact ⟨(sse7, srm7, K7, n7, P7, T7, tm7, gbA, gpA, FA, suA, grA, gbB, gpB, FB, suB, grB), ⟨t9, wt, pBd cI cJ cB h hs hw hh hp (tup se wd hd nb wl st sl gl aq lb sh bw bh ps), wd9, wr, pS cI cJ ys yk yp yt y1 y2 zs zf1 zf2 n7 tm7 sse7 srm7 K7 P7 T7 gbA gpA foA suA grA gbB gpB foB suB grB FA FB, wu, pK cI zs zq zm zl Q7 M7 L7x, HW, (pmG (pX xo vo h h2 ho ro ys yw (nI rd)) wt (pBd cI cJ cB h hs hw hh hp (tup se wd hd nb wl st sl gl aq lb sh bw bh ps)) wd9 wr (pS cI cJ ys yk yp yt y1 y2 zs zf1 zf2 n7 tm7 sse7 srm7 K7 P7 T7 gbA gpA foA suA grA gbB gpB foB suB grB FA FB) wu (pK cI zs zq zm zl Q7 M7 L7x) wm HW).symm, hT, ⟨hs, hw, hh, hp, rfl⟩, hB9, hR, ⟨yk, yp, yt, y1, y2, zf1, zf2, foA, foB, rfl⟩, hU, ⟨zq, zm, zl, Q7, M7, L7x, rfl⟩, hH⟩, hr9, hf9.1, hf9.2⟩
set_option maxHeartbeats 4000000 in
set_option maxRecDepth 100000 in
theorem x_worst (l : Launch) (D : va_G) {cI cJ cB : ClassId} {xo rd ln vo h h2 ho ro ys yw zs hsz : Nat} {tx : Nat → Nat} {t : BT} {s1 s2 : SPT} {hg : Nat → BT} {wm ws : va_W} (z : Bool) (htv : TVt t) (hse : tse t < 2 ^ 20) (hbd : bdS s1) (hcv : CVF (frt t) none (keyx (tps t) none (tnb t)) (tse t) s1) (h0 : PCS cI cJ cB xo rd ln tx t s1 s2 hsz hg vo h h2 ho ro ys yw zs wm ws) : STi l D cI cJ cB yX7_worst cX7_worst 2 6 xo 7 [.int (bI z)] ws (fun r w9 => ∃ s3 : SPT, PCS cI cJ cB xo rd ln tx t s3 s2 hsz hg vo h h2 ho ro ys yw zs wm w9 ∧ r = f_worst (kst (twd t) (thd t) (tnb t) (twl t) (tsh t) (tbw t) (tbh t) none) (mvk (twd t) (thd t) (tnb t) (twl t) (tsh t) (tbw t) (tbh t) none z) (tgl t) (taq t) (pkey (tps t) (tnb t)) ∧ (s3 = s1 ∨ SVF (frt t) none (keyx (tps t) none (tnb t)) (tse t) s3) ∧ bdS s3) := by
  obtain ⟨se, wd, hd, nb, wl, st, sl, gl, aq, lb, sh, bw, bh, ps⟩ := t
  obtain ⟨sse, srm, K, sz, P, T, tm, gb1, gp1, Fa1, su1, gr1, gb2, gp2, Fa2, su2, gr2⟩ := s1
  obtain ⟨t9, wt, wb, wd9, wr, wsp, wu, wk, HW, hpm, hT, hB, hB9, hR, hSp, hU, hK, hH⟩ := h0
  obtain ⟨hs, hw, hh, hp, rfl⟩ := hB
  obtain ⟨yk, yp, yt, y1, y2, zf1, zf2, fo1, fo2, rfl⟩ := hSp
  obtain ⟨zq, zm, zl, Qa, Ma, La, rfl⟩ := hK
  have hM := c_X7_worst l D cI cJ cB xo vo h2 ho ro yw (nI rd) ys yk yp yt y1 y2 sz tm sse srm K P T zs zf1 zf2 zq zm zl fo1 su1 fo2 su2 gb1 gp1 gr1 gb2 gp2 gr2 Fa1 Fa2 Qa Ma La h hs hw hh hp se wd hd nb wl st sl gl aq lb sh bw bh ps z htv hse hbd hcv
  refine ⟨_, (wt ++ (wd9 ++ (wr ++ (wu ++ (wm ++ HW))))), _, [.ref vo, .ref h, .ref h2, .ref ho, .ref ro, .ref ys, .ref yw, .int (nI rd)], ?_, ?_, hM, ?_⟩
  · exact hpm.trans (pmG (pX xo vo h h2 ho ro ys yw (nI rd)) wt (pBd cI cJ cB h hs hw hh hp (tup se wd hd nb wl st sl gl aq lb sh bw bh ps)) wd9 wr (pS cI cJ ys yk yp yt y1 y2 zs zf1 zf2 sz tm sse srm K P T gb1 gp1 fo1 su1 gr1 gb2 gp2 fo2 su2 gr2 Fa1 Fa2) wu (pK cI zs zq zm zl Qa Ma La) wm HW)
  · exact List.mem_cons_self
  · intro r w1 hpost
    obtain ⟨K7, n7, P7, T7, tm7, sse7, srm7, gbA, gpA, FA, foA, suA, grA, gbB, gpB, FB, foB, suB, grB, Q7, M7, L7x, hr9, rfl, hf9⟩ := hpost
    exact ⟨(sse7, srm7, K7, n7, P7, T7, tm7, gbA, gpA, FA, suA, grA, gbB, gpB, FB, suB, grB), ⟨t9, wt, pBd cI cJ cB h hs hw hh hp (tup se wd hd nb wl st sl gl aq lb sh bw bh ps), wd9, wr, pS cI cJ ys yk yp yt y1 y2 zs zf1 zf2 n7 tm7 sse7 srm7 K7 P7 T7 gbA gpA foA suA grA gbB gpB foB suB grB FA FB, wu, pK cI zs zq zm zl Q7 M7 L7x, HW, (pmG (pX xo vo h h2 ho ro ys yw (nI rd)) wt (pBd cI cJ cB h hs hw hh hp (tup se wd hd nb wl st sl gl aq lb sh bw bh ps)) wd9 wr (pS cI cJ ys yk yp yt y1 y2 zs zf1 zf2 n7 tm7 sse7 srm7 K7 P7 T7 gbA gpA foA suA grA gbB gpB foB suB grB FA FB) wu (pK cI zs zq zm zl Q7 M7 L7x) wm HW).symm, hT, ⟨hs, hw, hh, hp, rfl⟩, hB9, hR, ⟨yk, yp, yt, y1, y2, zf1, zf2, foA, foB, rfl⟩, hU, ⟨zq, zm, zl, Q7, M7, L7x, rfl⟩, hH⟩, hr9, hf9.1, hf9.2⟩
set_option maxHeartbeats 4000000 in
set_option maxRecDepth 100000 in
theorem x_mean (l : Launch) (D : va_G) {cI cJ cB : ClassId} {xo rd ln vo h h2 ho ro ys yw zs hsz : Nat} {tx : Nat → Nat} {t : BT} {s1 s2 : SPT} {hg : Nat → BT} {wm ws : va_W} (z : Bool) (htv : TVt t) (hse : tse t < 2 ^ 20) (hbd : bdS s1) (hcv : CVF (frt t) none (keyx (tps t) none (tnb t)) (tse t) s1) (h0 : PCS cI cJ cB xo rd ln tx t s1 s2 hsz hg vo h h2 ho ro ys yw zs wm ws) : STf l D cI cJ cB yX7_mean cX7_mean 2 6 xo 7 [.int (bI z)] ws (fun r w9 => ∃ s3 : SPT, PCS cI cJ cB xo rd ln tx t s3 s2 hsz hg vo h h2 ho ro ys yw zs wm w9 ∧ r = f_mean (kst (twd t) (thd t) (tnb t) (twl t) (tsh t) (tbw t) (tbh t) none) (mvk (twd t) (thd t) (tnb t) (twl t) (tsh t) (tbw t) (tbh t) none z) (tgl t) (taq t) (pkey (tps t) (tnb t)) ∧ (s3 = s1 ∨ SVF (frt t) none (keyx (tps t) none (tnb t)) (tse t) s3) ∧ bdS s3) := by
  obtain ⟨se, wd, hd, nb, wl, st, sl, gl, aq, lb, sh, bw, bh, ps⟩ := t
  obtain ⟨sse, srm, K, sz, P, T, tm, gb1, gp1, Fa1, su1, gr1, gb2, gp2, Fa2, su2, gr2⟩ := s1
  obtain ⟨t9, wt, wb, wd9, wr, wsp, wu, wk, HW, hpm, hT, hB, hB9, hR, hSp, hU, hK, hH⟩ := h0
  obtain ⟨hs, hw, hh, hp, rfl⟩ := hB
  obtain ⟨yk, yp, yt, y1, y2, zf1, zf2, fo1, fo2, rfl⟩ := hSp
  obtain ⟨zq, zm, zl, Qa, Ma, La, rfl⟩ := hK
  have hM := c_X7_mean l D cI cJ cB xo vo h2 ho ro yw (nI rd) ys yk yp yt y1 y2 sz tm sse srm K P T zs zf1 zf2 zq zm zl fo1 su1 fo2 su2 gb1 gp1 gr1 gb2 gp2 gr2 Fa1 Fa2 Qa Ma La h hs hw hh hp se wd hd nb wl st sl gl aq lb sh bw bh ps z htv hse hbd hcv
  refine ⟨_, (wt ++ (wd9 ++ (wr ++ (wu ++ (wm ++ HW))))), _, [.ref vo, .ref h, .ref h2, .ref ho, .ref ro, .ref ys, .ref yw, .int (nI rd)], ?_, ?_, hM, ?_⟩
  · exact hpm.trans (pmG (pX xo vo h h2 ho ro ys yw (nI rd)) wt (pBd cI cJ cB h hs hw hh hp (tup se wd hd nb wl st sl gl aq lb sh bw bh ps)) wd9 wr (pS cI cJ ys yk yp yt y1 y2 zs zf1 zf2 sz tm sse srm K P T gb1 gp1 fo1 su1 gr1 gb2 gp2 fo2 su2 gr2 Fa1 Fa2) wu (pK cI zs zq zm zl Qa Ma La) wm HW)
  · exact List.mem_cons_self
  · intro r w1 hpost
    obtain ⟨K7, n7, P7, T7, tm7, sse7, srm7, gbA, gpA, FA, foA, suA, grA, gbB, gpB, FB, foB, suB, grB, Q7, M7, L7x, hr9, rfl, hf9⟩ := hpost
    exact ⟨(sse7, srm7, K7, n7, P7, T7, tm7, gbA, gpA, FA, suA, grA, gbB, gpB, FB, suB, grB), ⟨t9, wt, pBd cI cJ cB h hs hw hh hp (tup se wd hd nb wl st sl gl aq lb sh bw bh ps), wd9, wr, pS cI cJ ys yk yp yt y1 y2 zs zf1 zf2 n7 tm7 sse7 srm7 K7 P7 T7 gbA gpA foA suA grA gbB gpB foB suB grB FA FB, wu, pK cI zs zq zm zl Q7 M7 L7x, HW, (pmG (pX xo vo h h2 ho ro ys yw (nI rd)) wt (pBd cI cJ cB h hs hw hh hp (tup se wd hd nb wl st sl gl aq lb sh bw bh ps)) wd9 wr (pS cI cJ ys yk yp yt y1 y2 zs zf1 zf2 n7 tm7 sse7 srm7 K7 P7 T7 gbA gpA foA suA grA gbB gpB foB suB grB FA FB) wu (pK cI zs zq zm zl Q7 M7 L7x) wm HW).symm, hT, ⟨hs, hw, hh, hp, rfl⟩, hB9, hR, ⟨yk, yp, yt, y1, y2, zf1, zf2, foA, foB, rfl⟩, hU, ⟨zq, zm, zl, Q7, M7, L7x, rfl⟩, hH⟩, hr9, hf9.1, hf9.2⟩
set_option maxHeartbeats 4000000 in
set_option maxRecDepth 100000 in
theorem x_hint (l : Launch) (D : va_G) {cI cJ cB : ClassId} {xo rd ln vo h h2 ho ro ys yw zs hsz : Nat} {tx : Nat → Nat} {t : BT} {s1 s2 : SPT} {hg : Nat → BT} {wm ws : va_W} (z : Bool) (htv : TVt t) (hse : tse t < 2 ^ 20) (hbd : bdS s1) (hcv : CVF (frt t) none (keyx (tps t) none (tnb t)) (tse t) s1) (h0 : PCS cI cJ cB xo rd ln tx t s1 s2 hsz hg vo h h2 ho ro ys yw zs wm ws) : STi l D cI cJ cB yX7_hint cX7_hint 6 6 xo 7 [.int (bI z)] ws (fun r w9 => ∃ s3 : SPT, PCS cI cJ cB xo rd ln tx t s3 s2 hsz hg vo h h2 ho ro ys yw zs wm w9 ∧ r = cHint (f_hintx (twd t) (thd t) (tnb t) (twl t) (tsh t) (tbw t) (tbh t) (tps t) (tgl t) (taq t) z) ∧ (s3 = s1 ∨ SVF (frt t) none (keyx (tps t) none (tnb t)) (tse t) s3) ∧ bdS s3) := by
  obtain ⟨se, wd, hd, nb, wl, st, sl, gl, aq, lb, sh, bw, bh, ps⟩ := t
  obtain ⟨sse, srm, K, sz, P, T, tm, gb1, gp1, Fa1, su1, gr1, gb2, gp2, Fa2, su2, gr2⟩ := s1
  obtain ⟨t9, wt, wb, wd9, wr, wsp, wu, wk, HW, hpm, hT, hB, hB9, hR, hSp, hU, hK, hH⟩ := h0
  obtain ⟨hs, hw, hh, hp, rfl⟩ := hB
  obtain ⟨yk, yp, yt, y1, y2, zf1, zf2, fo1, fo2, rfl⟩ := hSp
  obtain ⟨zq, zm, zl, Qa, Ma, La, rfl⟩ := hK
  obtain ⟨rfa, rqa, rF, rQ, rfl⟩ := hR
  have hM := c_X7_hint l D cI cJ cB xo vo h2 ho yw (nI rd) ro rfa rqa rF rQ ys yk yp yt y1 y2 sz tm sse srm K P T zs zf1 zf2 zq zm zl fo1 su1 fo2 su2 gb1 gp1 gr1 gb2 gp2 gr2 Fa1 Fa2 Qa Ma La h hs hw hh hp se wd hd nb wl st sl gl aq lb sh bw bh ps z htv hse hbd hcv
  refine ⟨_, (wt ++ (wd9 ++ (wu ++ (wm ++ HW)))), _, [.ref vo, .ref h, .ref h2, .ref ho, .ref ro, .ref ys, .ref yw, .int (nI rd)], ?_, ?_, hM, ?_⟩
  · exact hpm.trans (pmI (pX xo vo h h2 ho ro ys yw (nI rd)) wt (pBd cI cJ cB h hs hw hh hp (tup se wd hd nb wl st sl gl aq lb sh bw bh ps)) wd9 (pR cI ro rfa rqa rF rQ) (pS cI cJ ys yk yp yt y1 y2 zs zf1 zf2 sz tm sse srm K P T gb1 gp1 fo1 su1 gr1 gb2 gp2 fo2 su2 gr2 Fa1 Fa2) wu (pK cI zs zq zm zl Qa Ma La) wm HW)
  · exact List.mem_cons_self
  · intro r w1 hpost
    obtain ⟨K7, n7, P7, T7, tm7, sse7, srm7, gbA, gpA, FA, foA, suA, grA, gbB, gpB, FB, foB, suB, grB, Q7, M7, L7x, F2, Q2, rfl, hf9⟩ := hpost
    exact ⟨(sse7, srm7, K7, n7, P7, T7, tm7, gbA, gpA, FA, suA, grA, gbB, gpB, FB, suB, grB), ⟨t9, wt, pBd cI cJ cB h hs hw hh hp (tup se wd hd nb wl st sl gl aq lb sh bw bh ps), wd9, pR cI ro rfa rqa F2 Q2, pS cI cJ ys yk yp yt y1 y2 zs zf1 zf2 n7 tm7 sse7 srm7 K7 P7 T7 gbA gpA foA suA grA gbB gpB foB suB grB FA FB, wu, pK cI zs zq zm zl Q7 M7 L7x, HW, (pmI (pX xo vo h h2 ho ro ys yw (nI rd)) wt (pBd cI cJ cB h hs hw hh hp (tup se wd hd nb wl st sl gl aq lb sh bw bh ps)) wd9 (pR cI ro rfa rqa F2 Q2) (pS cI cJ ys yk yp yt y1 y2 zs zf1 zf2 n7 tm7 sse7 srm7 K7 P7 T7 gbA gpA foA suA grA gbB gpB foB suB grB FA FB) wu (pK cI zs zq zm zl Q7 M7 L7x) wm HW).symm, hT, ⟨hs, hw, hh, hp, rfl⟩, hB9, ⟨rfa, rqa, F2, Q2, rfl⟩, ⟨yk, yp, yt, y1, y2, zf1, zf2, foA, foB, rfl⟩, hU, ⟨zq, zm, zl, Q7, M7, L7x, rfl⟩, hH⟩, hf9.1.1, hf9.2.1, hf9.2.2⟩
set_option maxHeartbeats 4000000 in
set_option maxRecDepth 100000 in
theorem x_fingerprint (l : Launch) (D : va_G) {cI cJ cB : ClassId} {xo rd ln vo h h2 ho ro ys yw zs hsz : Nat} {tx : Nat → Nat} {t : BT} {s1 s2 : SPT} {hg : Nat → BT} {wm ws : va_W} (htv : TVt t) (hse : tse t < 2 ^ 20) (hbd : bdS s1) (hcv : CVF (frt t) none (keyx (tps t) none (tnb t)) (tse t) s1) (h0 : PCS cI cJ cB xo rd ln tx t s1 s2 hsz hg vo h h2 ho ro ys yw zs wm ws) : STl l D cI cJ cB yX7_fingerprint cX7_fingerprint 5 7 xo 7 [] ws (fun r w9 => ∃ s3 : SPT, PCS cI cJ cB xo rd ln tx t s3 s2 hsz hg vo h h2 ho ro ys yw zs wm w9 ∧ r = f_fp (twd t) (thd t) (tnb t) (twl t) (tst t) (tsl t) (tgl t) (taq t) (tsh t) (tbw t) (tbh t) (tps t) ∧ (s3 = s1 ∨ SVF (frt t) none (keyx (tps t) none (tnb t)) (tse t) s3) ∧ bdS s3) := by
  obtain ⟨se, wd, hd, nb, wl, st, sl, gl, aq, lb, sh, bw, bh, ps⟩ := t
  obtain ⟨sse, srm, K, sz, P, T, tm, gb1, gp1, Fa1, su1, gr1, gb2, gp2, Fa2, su2, gr2⟩ := s1
  obtain ⟨t9, wt, wb, wd9, wr, wsp, wu, wk, HW, hpm, hT, hB, hB9, hR, hSp, hU, hK, hH⟩ := h0
  obtain ⟨hs, hw, hh, hp, rfl⟩ := hB
  obtain ⟨yk, yp, yt, y1, y2, zf1, zf2, fo1, fo2, rfl⟩ := hSp
  obtain ⟨zq, zm, zl, Qa, Ma, La, rfl⟩ := hK
  obtain ⟨rfa, rqa, rF, rQ, rfl⟩ := hR
  have hM := c_X7_fingerprint l D cI cJ cB xo vo h2 ho yw (nI rd) ro rfa rqa rF rQ ys yk yp yt y1 y2 sz tm sse srm K P T zs zf1 zf2 zq zm zl fo1 su1 fo2 su2 gb1 gp1 gr1 gb2 gp2 gr2 Fa1 Fa2 Qa Ma La h hs hw hh hp se wd hd nb wl st sl gl aq lb sh bw bh ps htv hse hbd hcv
  refine ⟨_, (wt ++ (wd9 ++ (wu ++ (wm ++ HW)))), _, [.ref vo, .ref h, .ref h2, .ref ho, .ref ro, .ref ys, .ref yw, .int (nI rd)], ?_, ?_, hM, ?_⟩
  · exact hpm.trans (pmI (pX xo vo h h2 ho ro ys yw (nI rd)) wt (pBd cI cJ cB h hs hw hh hp (tup se wd hd nb wl st sl gl aq lb sh bw bh ps)) wd9 (pR cI ro rfa rqa rF rQ) (pS cI cJ ys yk yp yt y1 y2 zs zf1 zf2 sz tm sse srm K P T gb1 gp1 fo1 su1 gr1 gb2 gp2 fo2 su2 gr2 Fa1 Fa2) wu (pK cI zs zq zm zl Qa Ma La) wm HW)
  · exact List.mem_cons_self
  · intro r w1 hpost
    obtain ⟨K7, n7, P7, T7, tm7, sse7, srm7, gbA, gpA, FA, foA, suA, grA, gbB, gpB, FB, foB, suB, grB, Q7, M7, L7x, F2, Q2, hr9, rfl, hf9⟩ := hpost
    exact ⟨(sse7, srm7, K7, n7, P7, T7, tm7, gbA, gpA, FA, suA, grA, gbB, gpB, FB, suB, grB), ⟨t9, wt, pBd cI cJ cB h hs hw hh hp (tup se wd hd nb wl st sl gl aq lb sh bw bh ps), wd9, pR cI ro rfa rqa F2 Q2, pS cI cJ ys yk yp yt y1 y2 zs zf1 zf2 n7 tm7 sse7 srm7 K7 P7 T7 gbA gpA foA suA grA gbB gpB foB suB grB FA FB, wu, pK cI zs zq zm zl Q7 M7 L7x, HW, (pmI (pX xo vo h h2 ho ro ys yw (nI rd)) wt (pBd cI cJ cB h hs hw hh hp (tup se wd hd nb wl st sl gl aq lb sh bw bh ps)) wd9 (pR cI ro rfa rqa F2 Q2) (pS cI cJ ys yk yp yt y1 y2 zs zf1 zf2 n7 tm7 sse7 srm7 K7 P7 T7 gbA gpA foA suA grA gbB gpB foB suB grB FA FB) wu (pK cI zs zq zm zl Q7 M7 L7x) wm HW).symm, hT, ⟨hs, hw, hh, hp, rfl⟩, hB9, ⟨rfa, rqa, F2, Q2, rfl⟩, ⟨yk, yp, yt, y1, y2, zf1, zf2, foA, foB, rfl⟩, hU, ⟨zq, zm, zl, Q7, M7, L7x, rfl⟩, hH⟩, hr9, hf9.1, hf9.2⟩
set_option maxHeartbeats 4000000 in
set_option maxRecDepth 100000 in
theorem x_without (l : Launch) (D : va_G) {cI cJ cB : ClassId} {xo rd ln vo h h2 ho ro ys yw zs hsz : Nat} {tx : Nat → Nat} {t : BT} {s1 s2 : SPT} {hg : Nat → BT} {wm ws : va_W} (x : Int32) (z : Bool) (htv : TVt t) (hse : tse t < 2 ^ 20) (hbd : bdS s2) (hcv : ∀ b, b < tnb t → CVF (frt t) (some b) (keyx (tps t) (some b) (tnb t)) (tse t) s2) (h0 : PCS cI cJ cB xo rd ln tx t s1 s2 hsz hg vo h h2 ho ro ys yw zs wm ws) : STi l D cI cJ cB yX7_without cX7_without 4 6 xo 7 [.int x, .int (bI z)] ws (fun r w9 => ∃ s3 : SPT, PCS cI cJ cB xo rd ln tx t s1 s3 hsz hg vo h h2 ho ro ys yw zs wm w9 ∧ r = f_without (twd t) (thd t) (tnb t) (twl t) (tsh t) (tbw t) (tbh t) (tps t) (tgl t) (taq t) x z ∧ (s3 = s2 ∨ ∃ b, b < tnb t ∧ SVF (frt t) (some b) (keyx (tps t) (some b) (tnb t)) (tse t) s3) ∧ bdS s3) := by
  obtain ⟨se, wd, hd, nb, wl, st, sl, gl, aq, lb, sh, bw, bh, ps⟩ := t
  obtain ⟨sse, srm, K, sz, P, T, tm, gb1, gp1, Fa1, su1, gr1, gb2, gp2, Fa2, su2, gr2⟩ := s2
  obtain ⟨t9, wt, wb, wd9, wr, wsp, wu, wk, HW, hpm, hT, hB, hB9, hR, hSp, hU, hK, hH⟩ := h0
  obtain ⟨hs, hw, hh, hp, rfl⟩ := hB
  obtain ⟨yk, yp, yt, y1, y2, zf1, zf2, fo1, fo2, rfl⟩ := hU
  obtain ⟨zq, zm, zl, Qa, Ma, La, rfl⟩ := hK
  have hM := c_X7_without l D cI cJ cB xo vo h2 ho ro ys (nI rd) yw yk yp yt y1 y2 sz tm sse srm K P T zs zf1 zf2 zq zm zl fo1 su1 fo2 su2 gb1 gp1 gr1 gb2 gp2 gr2 Fa1 Fa2 Qa Ma La h hs hw hh hp se wd hd nb wl st sl gl aq lb sh bw bh ps x z htv hse hbd hcv
  refine ⟨_, (wt ++ (wd9 ++ (wr ++ (wsp ++ (wm ++ HW))))), _, [.ref vo, .ref h, .ref h2, .ref ho, .ref ro, .ref ys, .ref yw, .int (nI rd)], ?_, ?_, hM, ?_⟩
  · exact hpm.trans (pmU (pX xo vo h h2 ho ro ys yw (nI rd)) wt (pBd cI cJ cB h hs hw hh hp (tup se wd hd nb wl st sl gl aq lb sh bw bh ps)) wd9 wr wsp (pS cI cJ yw yk yp yt y1 y2 zs zf1 zf2 sz tm sse srm K P T gb1 gp1 fo1 su1 gr1 gb2 gp2 fo2 su2 gr2 Fa1 Fa2) (pK cI zs zq zm zl Qa Ma La) wm HW)
  · exact List.mem_cons_self
  · intro r w1 hpost
    obtain ⟨K7, n7, P7, T7, tm7, sse7, srm7, gbA, gpA, FA, foA, suA, grA, gbB, gpB, FB, foB, suB, grB, Q7, M7, L7x, hr9, rfl, hf9⟩ := hpost
    exact ⟨(sse7, srm7, K7, n7, P7, T7, tm7, gbA, gpA, FA, suA, grA, gbB, gpB, FB, suB, grB), ⟨t9, wt, pBd cI cJ cB h hs hw hh hp (tup se wd hd nb wl st sl gl aq lb sh bw bh ps), wd9, wr, wsp, pS cI cJ yw yk yp yt y1 y2 zs zf1 zf2 n7 tm7 sse7 srm7 K7 P7 T7 gbA gpA foA suA grA gbB gpB foB suB grB FA FB, pK cI zs zq zm zl Q7 M7 L7x, HW, (pmU (pX xo vo h h2 ho ro ys yw (nI rd)) wt (pBd cI cJ cB h hs hw hh hp (tup se wd hd nb wl st sl gl aq lb sh bw bh ps)) wd9 wr wsp (pS cI cJ yw yk yp yt y1 y2 zs zf1 zf2 n7 tm7 sse7 srm7 K7 P7 T7 gbA gpA foA suA grA gbB gpB foB suB grB FA FB) (pK cI zs zq zm zl Q7 M7 L7x) wm HW).symm, hT, ⟨hs, hw, hh, hp, rfl⟩, hB9, hR, hSp, ⟨yk, yp, yt, y1, y2, zf1, zf2, foA, foB, rfl⟩, ⟨zq, zm, zl, Q7, M7, L7x, rfl⟩, hH⟩, hr9, hf9.1, hf9.2⟩
set_option maxHeartbeats 4000000 in
set_option maxRecDepth 100000 in
theorem x_step (l : Launch) (D : va_G) {cI cJ cB : ClassId} {xo rd ln vo h h2 ho ro ys yw zs hsz : Nat} {tx : Nat → Nat} {t : BT} {s1 s2 : SPT} {hg : Nat → BT} {wm ws : va_W} (x : Int32) (y : Int32) (htv : TVt t) (h0 : PCS cI cJ cB xo rd ln tx t s1 s2 hsz hg vo h h2 ho ro ys yw zs wm ws) : STi l D cI cJ cB yX7_step cX7_step 4 4 xo 7 [.int x, .int y] ws (fun r w9 => ∃ st2 sl2 lb2 ps2 sz2 hg2, PCS cI cJ cB xo rd ln tx (tup (tse t) (twd t) (thd t) (tnb t) (twl t) st2 sl2 (tgl t) (taq t) lb2 (tsh t) (tbw t) (tbh t) ps2) s1 s2 sz2 hg2 vo h h2 ho ro ys yw zs wm w9 ∧ r = f_stepr (twd t) (thd t) (tnb t) (twl t) (tsh t) (tbw t) (tbh t) (tps t) x y ∧ MVD (f_stepm (twd t) (thd t) (tnb t) (twl t) (tsh t) (tbw t) (tbh t) (tps t) x y) (tst t) (tsl t) (tlb t) (tps t) st2 sl2 lb2 ps2 ∧ ((f_stepm (twd t) (thd t) (tnb t) (twl t) (tsh t) (tbw t) (tbh t) (tps t) x y).isSome = true → sz2 = hcnt hsz ∧ hg2 = hpu hg hsz t) ∧ ((f_stepm (twd t) (thd t) (tnb t) (twl t) (tsh t) (tbw t) (tbh t) (tps t) x y).isSome = false → sz2 = hsz ∧ hg2 = hg)) := by
  obtain ⟨se, wd, hd, nb, wl, st, sl, gl, aq, lb, sh, bw, bh, ps⟩ := t
  obtain ⟨t9, wt, wb, wd9, wr, wsp, wu, wk, HW, hpm, hT, hB, hB9, hR, hSp, hU, hK, hH⟩ := h0
  obtain ⟨hs, hw, hh, hp, rfl⟩ := hB
  have hM := c_X7_step l D cI cJ cB xo vo h2 ho ro ys yw (nI rd) h hs hw hh hp se wd hd nb wl st sl gl aq lb sh bw bh ps hsz hg HW x y htv hH
  refine ⟨_, (wt ++ (wd9 ++ (wr ++ (wsp ++ (wu ++ (wk ++ wm)))))), _, [.ref vo, .ref h, .ref h2, .ref ho, .ref ro, .ref ys, .ref yw, .int (nI rd)], ?_, ?_, hM, ?_⟩
  · exact hpm.trans (pmH (pX xo vo h h2 ho ro ys yw (nI rd)) wt (pBd cI cJ cB h hs hw hh hp (tup se wd hd nb wl st sl gl aq lb sh bw bh ps)) wd9 wr wsp wu wk wm HW)
  · exact List.mem_cons_self
  · intro r w1 hpost
    obtain ⟨st2, sl2, lb2, ps2, sz2, hg2, HW2, hr9, rfl, hf9⟩ := hpost
    have hf9w := hf9.2.1
    exact ⟨st2, sl2, lb2, ps2, sz2, hg2, ⟨t9, wt, pBd cI cJ cB h hs hw hh hp (tup se wd hd nb wl st2 sl2 gl aq lb2 sh bw bh ps2), wd9, wr, wsp, wu, wk, HW2, (pmH (pX xo vo h h2 ho ro ys yw (nI rd)) wt (pBd cI cJ cB h hs hw hh hp (tup se wd hd nb wl st2 sl2 gl aq lb2 sh bw bh ps2)) wd9 wr wsp wu wk wm HW2).symm, hT, ⟨hs, hw, hh, hp, rfl⟩, hB9, hR, hSp, hU, hK, hf9w⟩, hr9, hf9.1, hf9.2.2.2.1, hf9.2.2.2.2⟩
set_option maxHeartbeats 4000000 in
set_option maxRecDepth 100000 in
theorem x_slide (l : Launch) (D : va_G) {cI cJ cB : ClassId} {xo rd ln vo h h2 ho ro ys yw zs hsz : Nat} {tx : Nat → Nat} {t : BT} {s1 s2 : SPT} {hg : Nat → BT} {wm ws : va_W} (x : Int32) (y : Int32) (htv : TVt t) (h0 : PCS cI cJ cB xo rd ln tx t s1 s2 hsz hg vo h h2 ho ro ys yw zs wm ws) : STi l D cI cJ cB yX7_slide cX7_slide 4 4 xo 7 [.int x, .int y] ws (fun r w9 => ∃ st2 sl2 lb2 ps2 sz2 hg2, PCS cI cJ cB xo rd ln tx (tup (tse t) (twd t) (thd t) (tnb t) (twl t) st2 sl2 (tgl t) (taq t) lb2 (tsh t) (tbw t) (tbh t) ps2) s1 s2 sz2 hg2 vo h h2 ho ro ys yw zs wm w9 ∧ r = f_slider (twd t) (thd t) (tnb t) (twl t) (tsh t) (tbw t) (tbh t) (tps t) x y ∧ MVD (f_slidem (twd t) (thd t) (tnb t) (twl t) (tsh t) (tbw t) (tbh t) (tps t) x y) (tst t) (tsl t) (tlb t) (tps t) st2 sl2 lb2 ps2 ∧ ((f_slidem (twd t) (thd t) (tnb t) (twl t) (tsh t) (tbw t) (tbh t) (tps t) x y).isSome = true → sz2 = hcnt hsz ∧ hg2 = hpu hg hsz t) ∧ ((f_slidem (twd t) (thd t) (tnb t) (twl t) (tsh t) (tbw t) (tbh t) (tps t) x y).isSome = false → sz2 = hsz ∧ hg2 = hg)) := by
  obtain ⟨se, wd, hd, nb, wl, st, sl, gl, aq, lb, sh, bw, bh, ps⟩ := t
  obtain ⟨t9, wt, wb, wd9, wr, wsp, wu, wk, HW, hpm, hT, hB, hB9, hR, hSp, hU, hK, hH⟩ := h0
  obtain ⟨hs, hw, hh, hp, rfl⟩ := hB
  obtain ⟨rfa, rqa, rF, rQ, rfl⟩ := hR
  have hM := c_X7_slide l D cI cJ cB xo vo h2 ho ys yw (nI rd) ro rfa rqa rF rQ h hs hw hh hp se wd hd nb wl st sl gl aq lb sh bw bh ps hsz hg HW x y htv hH
  refine ⟨_, (wt ++ (wd9 ++ (wsp ++ (wu ++ (wk ++ wm))))), _, [.ref vo, .ref h, .ref h2, .ref ho, .ref ro, .ref ys, .ref yw, .int (nI rd)], ?_, ?_, hM, ?_⟩
  · exact hpm.trans (pmL (pX xo vo h h2 ho ro ys yw (nI rd)) wt (pBd cI cJ cB h hs hw hh hp (tup se wd hd nb wl st sl gl aq lb sh bw bh ps)) wd9 (pR cI ro rfa rqa rF rQ) wsp wu wk wm HW)
  · exact List.mem_cons_self
  · intro r w1 hpost
    obtain ⟨F2, Q2, st2, sl2, lb2, ps2, sz2, hg2, HW2, hr9, rfl, hf9⟩ := hpost
    have hf9w := hf9.2.1
    exact ⟨st2, sl2, lb2, ps2, sz2, hg2, ⟨t9, wt, pBd cI cJ cB h hs hw hh hp (tup se wd hd nb wl st2 sl2 gl aq lb2 sh bw bh ps2), wd9, pR cI ro rfa rqa F2 Q2, wsp, wu, wk, HW2, (pmL (pX xo vo h h2 ho ro ys yw (nI rd)) wt (pBd cI cJ cB h hs hw hh hp (tup se wd hd nb wl st2 sl2 gl aq lb2 sh bw bh ps2)) wd9 (pR cI ro rfa rqa F2 Q2) wsp wu wk wm HW2).symm, hT, ⟨hs, hw, hh, hp, rfl⟩, hB9, ⟨rfa, rqa, F2, Q2, rfl⟩, hSp, hU, hK, hf9w⟩, hr9, hf9.1, hf9.2.2.2.1, hf9.2.2.2.2⟩
set_option maxHeartbeats 4000000 in
set_option maxRecDepth 100000 in
theorem x_goal (l : Launch) (D : va_G) {cI cJ cB : ClassId} {xo rd ln vo h h2 ho ro ys yw zs hsz : Nat} {tx : Nat → Nat} {t : BT} {s1 s2 : SPT} {hg : Nat → BT} {wm ws : va_W} (x : Int32) (y : Int32) (htv : TVt t) (h0 : PCS cI cJ cB xo rd ln tx t s1 s2 hsz hg vo h h2 ho ro ys yw zs wm ws) : STi l D cI cJ cB yX7_goal cX7_goal 3 4 xo 7 [.int x, .int y] ws (fun r w9 => ∃ gl2 aq2 sz2 hg2, PCS cI cJ cB xo rd ln tx (tup (tse t) (twd t) (thd t) (tnb t) (twl t) (tst t) (tsl t) gl2 aq2 (tlb t) (tsh t) (tbw t) (tbh t) (tps t)) s1 s2 sz2 hg2 vo h h2 ho ro ys yw zs wm w9 ∧ r = f_goalr (twd t) (thd t) (tnb t) (tbw t) (tbh t) (tps t) x y ∧ GLD (f_goalm (twd t) (thd t) (tnb t) (tbw t) (tbh t) x y) (tgl t) (taq t) gl2 aq2 ∧ ((f_goalm (twd t) (thd t) (tnb t) (tbw t) (tbh t) x y).isSome = true → sz2 = hcnt hsz ∧ hg2 = hpu hg hsz t) ∧ ((f_goalm (twd t) (thd t) (tnb t) (tbw t) (tbh t) x y).isSome = false → sz2 = hsz ∧ hg2 = hg)) := by
  obtain ⟨se, wd, hd, nb, wl, st, sl, gl, aq, lb, sh, bw, bh, ps⟩ := t
  obtain ⟨t9, wt, wb, wd9, wr, wsp, wu, wk, HW, hpm, hT, hB, hB9, hR, hSp, hU, hK, hH⟩ := h0
  obtain ⟨hs, hw, hh, hp, rfl⟩ := hB
  have hM := c_X7_goal l D cI cJ cB xo vo h2 ho ro ys yw (nI rd) h hs hw hh hp se wd hd nb wl st sl gl aq lb sh bw bh ps hsz hg HW x y htv hH
  refine ⟨_, (wt ++ (wd9 ++ (wr ++ (wsp ++ (wu ++ (wk ++ wm)))))), _, [.ref vo, .ref h, .ref h2, .ref ho, .ref ro, .ref ys, .ref yw, .int (nI rd)], ?_, ?_, hM, ?_⟩
  · exact hpm.trans (pmH (pX xo vo h h2 ho ro ys yw (nI rd)) wt (pBd cI cJ cB h hs hw hh hp (tup se wd hd nb wl st sl gl aq lb sh bw bh ps)) wd9 wr wsp wu wk wm HW)
  · exact List.mem_cons_self
  · intro r w1 hpost
    obtain ⟨gl2, aq2, sz2, hg2, HW2, hr9, rfl, hf9⟩ := hpost
    have hf9w := hf9.2.1
    exact ⟨gl2, aq2, sz2, hg2, ⟨t9, wt, pBd cI cJ cB h hs hw hh hp (tup se wd hd nb wl st sl gl2 aq2 lb sh bw bh ps), wd9, wr, wsp, wu, wk, HW2, (pmH (pX xo vo h h2 ho ro ys yw (nI rd)) wt (pBd cI cJ cB h hs hw hh hp (tup se wd hd nb wl st sl gl2 aq2 lb sh bw bh ps)) wd9 wr wsp wu wk wm HW2).symm, hT, ⟨hs, hw, hh, hp, rfl⟩, hB9, hR, hSp, hU, hK, hf9w⟩, hr9, hf9.1, hf9.2.2.2.1, hf9.2.2.2.2⟩
set_option maxHeartbeats 4000000 in
set_option maxRecDepth 100000 in
theorem x_follow (l : Launch) (D : va_G) {cI cJ cB : ClassId} {xo rd ln vo h h2 ho ro ys yw zs hsz : Nat} {tx : Nat → Nat} {t : BT} {s1 s2 : SPT} {hg : Nat → BT} {wm ws : va_W} (z : Bool) (htv : TVt t) (hse : tse t < 2 ^ 20) (hbd : bdS s1) (hcv : CVF (frt t) none (keyx (tps t) none (tnb t)) (tse t) s1) (h0 : PCS cI cJ cB xo rd ln tx t s1 s2 hsz hg vo h h2 ho ro ys yw zs wm ws) : STi l D cI cJ cB yX7_follow cX7_follow 5 7 xo 7 [.int (bI z)] ws (fun r w9 => ∃ (s3 : SPT) (st2 sl2 : Int32) (lb2 : Option Nat) (ps2 : Nat → Nat) (sz2 : Nat) (hg2 : Nat → BT), PCS cI cJ cB xo rd ln tx (tup (tse t) (twd t) (thd t) (tnb t) (twl t) st2 sl2 (tgl t) (taq t) lb2 (tsh t) (tbw t) (tbh t) ps2) s3 s2 sz2 hg2 vo h h2 ho ro ys yw zs wm w9 ∧ r = f_folr (twd t) (thd t) (tnb t) (twl t) (tsh t) (tbw t) (tbh t) (tps t) (tgl t) (taq t) z ∧ MVD (f_folm (twd t) (thd t) (tnb t) (twl t) (tsh t) (tbw t) (tbh t) (tps t) (tgl t) (taq t) z) (tst t) (tsl t) (tlb t) (tps t) st2 sl2 lb2 ps2 ∧ (((f_folm (twd t) (thd t) (tnb t) (twl t) (tsh t) (tbw t) (tbh t) (tps t) (tgl t) (taq t) z).isSome = true → sz2 = hcnt hsz ∧ hg2 = hpu hg hsz t) ∧ ((f_folm (twd t) (thd t) (tnb t) (twl t) (tsh t) (tbw t) (tbh t) (tps t) (tgl t) (taq t) z).isSome = false → sz2 = hsz ∧ hg2 = hg)) ∧ (s3 = s1 ∨ SVF (frt t) none (keyx (tps t) none (tnb t)) (tse t) s3) ∧ bdS s3) := by
  obtain ⟨se, wd, hd, nb, wl, st, sl, gl, aq, lb, sh, bw, bh, ps⟩ := t
  obtain ⟨sse, srm, K, sz, P, T, tm, gb1, gp1, Fa1, su1, gr1, gb2, gp2, Fa2, su2, gr2⟩ := s1
  obtain ⟨t9, wt, wb, wd9, wr, wsp, wu, wk, HW, hpm, hT, hB, hB9, hR, hSp, hU, hK, hH⟩ := h0
  obtain ⟨hs, hw, hh, hp, rfl⟩ := hB
  obtain ⟨yk, yp, yt, y1, y2, zf1, zf2, fo1, fo2, rfl⟩ := hSp
  obtain ⟨zq, zm, zl, Qa, Ma, La, rfl⟩ := hK
  obtain ⟨rfa, rqa, rF, rQ, rfl⟩ := hR
  have hM := c_X7_follow l D cI cJ cB xo vo h2 ho yw (nI rd) ro rfa rqa rF rQ ys yk yp yt y1 y2 sz tm sse srm K P T zs zf1 zf2 zq zm zl fo1 su1 fo2 su2 gb1 gp1 gr1 gb2 gp2 gr2 Fa1 Fa2 Qa Ma La h hs hw hh hp se wd hd nb wl st sl gl aq lb sh bw bh ps z hsz hg HW htv hse hbd hcv hH
  refine ⟨_, (wt ++ (wd9 ++ (wu ++ wm))), _, [.ref vo, .ref h, .ref h2, .ref ho, .ref ro, .ref ys, .ref yw, .int (nI rd)], ?_, ?_, hM, ?_⟩
  · exact hpm.trans (pmF (pX xo vo h h2 ho ro ys yw (nI rd)) wt (pBd cI cJ cB h hs hw hh hp (tup se wd hd nb wl st sl gl aq lb sh bw bh ps)) wd9 (pR cI ro rfa rqa rF rQ) (pS cI cJ ys yk yp yt y1 y2 zs zf1 zf2 sz tm sse srm K P T gb1 gp1 fo1 su1 gr1 gb2 gp2 fo2 su2 gr2 Fa1 Fa2) wu (pK cI zs zq zm zl Qa Ma La) wm HW)
  · exact List.mem_cons_self
  · intro r w1 hpost
    obtain ⟨K7, n7, P7, T7, tm7, sse7, srm7, gbA, gpA, FA, foA, suA, grA, gbB, gpB, FB, foB, suB, grB, Q7, M7, L7x, F2, Q2, st2, sl2, lb2, ps2, sz2, hg2, HW2, hr9, rfl, hf9⟩ := hpost
    have hf9w := hf9.2.1.1
    exact ⟨(sse7, srm7, K7, n7, P7, T7, tm7, gbA, gpA, FA, suA, grA, gbB, gpB, FB, suB, grB), st2, sl2, lb2, ps2, sz2, hg2, ⟨t9, wt, pBd cI cJ cB h hs hw hh hp (tup se wd hd nb wl st2 sl2 gl aq lb2 sh bw bh ps2), wd9, pR cI ro rfa rqa F2 Q2, pS cI cJ ys yk yp yt y1 y2 zs zf1 zf2 n7 tm7 sse7 srm7 K7 P7 T7 gbA gpA foA suA grA gbB gpB foB suB grB FA FB, wu, pK cI zs zq zm zl Q7 M7 L7x, HW2, (pmF (pX xo vo h h2 ho ro ys yw (nI rd)) wt (pBd cI cJ cB h hs hw hh hp (tup se wd hd nb wl st2 sl2 gl aq lb2 sh bw bh ps2)) wd9 (pR cI ro rfa rqa F2 Q2) (pS cI cJ ys yk yp yt y1 y2 zs zf1 zf2 n7 tm7 sse7 srm7 K7 P7 T7 gbA gpA foA suA grA gbB gpB foB suB grB FA FB) wu (pK cI zs zq zm zl Q7 M7 L7x) wm HW2).symm, hT, ⟨hs, hw, hh, hp, rfl⟩, hB9, ⟨rfa, rqa, F2, Q2, rfl⟩, ⟨yk, yp, yt, y1, y2, zf1, zf2, foA, foB, rfl⟩, hU, ⟨zq, zm, zl, Q7, M7, L7x, rfl⟩, hf9w⟩, hr9, hf9.1, ⟨hf9.2.1.2.2.1, hf9.2.1.2.2.2⟩, hf9.2.2.1, hf9.2.2.2⟩
set_option maxHeartbeats 4000000 in
set_option maxRecDepth 100000 in
theorem x_hardest (l : Launch) (D : va_G) {cI cJ cB : ClassId} {xo rd ln vo h h2 ho ro ys yw zs hsz : Nat} {tx : Nat → Nat} {t : BT} {s1 s2 : SPT} {hg : Nat → BT} {wm ws : va_W} (z : Bool) (htv : TVt t) (hse : tse t < 2 ^ 20) (hbd : bdS s1) (hcv : CVF (frt t) none (keyx (tps t) none (tnb t)) (tse t) s1) (h0 : PCS cI cJ cB xo rd ln tx t s1 s2 hsz hg vo h h2 ho ro ys yw zs wm ws) : STi l D cI cJ cB yX7_hardest cX7_hardest 3 6 xo 7 [.int (bI z)] ws (fun r w9 => ∃ (s3 : SPT) (st2 sl2 : Int32) (lb2 : Option Nat) (ps2 : Nat → Nat) (sz2 : Nat) (hg2 : Nat → BT), PCS cI cJ cB xo rd ln tx (tup (tse t) (twd t) (thd t) (tnb t) (twl t) st2 sl2 (tgl t) (taq t) lb2 (tsh t) (tbw t) (tbh t) ps2) s3 s2 sz2 hg2 vo h h2 ho ro ys yw zs wm w9 ∧ r = f_hardr (twd t) (thd t) (tnb t) (twl t) (tsh t) (tbw t) (tbh t) (tps t) (tgl t) (taq t) z ∧ HRD (tnb t) (f_hardx (twd t) (thd t) (tnb t) (twl t) (tsh t) (tbw t) (tbh t) (tps t) (tgl t) (taq t) z) (tst t) (tsl t) (tlb t) (tps t) st2 sl2 lb2 ps2 ∧ (((f_hardx (twd t) (thd t) (tnb t) (twl t) (tsh t) (tbw t) (tbh t) (tps t) (tgl t) (taq t) z).isSome = true → sz2 = hcnt hsz ∧ hg2 = hpu hg hsz t) ∧ ((f_hardx (twd t) (thd t) (tnb t) (twl t) (tsh t) (tbw t) (tbh t) (tps t) (tgl t) (taq t) z).isSome = false → sz2 = hsz ∧ hg2 = hg)) ∧ (s3 = s1 ∨ SVF (frt t) none (keyx (tps t) none (tnb t)) (tse t) s3) ∧ bdS s3) := by
  obtain ⟨se, wd, hd, nb, wl, st, sl, gl, aq, lb, sh, bw, bh, ps⟩ := t
  obtain ⟨sse, srm, K, sz, P, T, tm, gb1, gp1, Fa1, su1, gr1, gb2, gp2, Fa2, su2, gr2⟩ := s1
  obtain ⟨t9, wt, wb, wd9, wr, wsp, wu, wk, HW, hpm, hT, hB, hB9, hR, hSp, hU, hK, hH⟩ := h0
  obtain ⟨hs, hw, hh, hp, rfl⟩ := hB
  obtain ⟨yk, yp, yt, y1, y2, zf1, zf2, fo1, fo2, rfl⟩ := hSp
  obtain ⟨zq, zm, zl, Qa, Ma, La, rfl⟩ := hK
  have hM := c_X7_hardest l D cI cJ cB xo vo h2 ho ro yw (nI rd) ys yk yp yt y1 y2 sz tm sse srm K P T zs zf1 zf2 zq zm zl fo1 su1 fo2 su2 gb1 gp1 gr1 gb2 gp2 gr2 Fa1 Fa2 Qa Ma La h hs hw hh hp se wd hd nb wl st sl gl aq lb sh bw bh ps z hsz hg HW htv hse hbd hcv hH
  refine ⟨_, (wt ++ (wd9 ++ (wr ++ (wu ++ wm)))), _, [.ref vo, .ref h, .ref h2, .ref ho, .ref ro, .ref ys, .ref yw, .int (nI rd)], ?_, ?_, hM, ?_⟩
  · exact hpm.trans (pmD (pX xo vo h h2 ho ro ys yw (nI rd)) wt (pBd cI cJ cB h hs hw hh hp (tup se wd hd nb wl st sl gl aq lb sh bw bh ps)) wd9 wr (pS cI cJ ys yk yp yt y1 y2 zs zf1 zf2 sz tm sse srm K P T gb1 gp1 fo1 su1 gr1 gb2 gp2 fo2 su2 gr2 Fa1 Fa2) wu (pK cI zs zq zm zl Qa Ma La) wm HW)
  · exact List.mem_cons_self
  · intro r w1 hpost
    obtain ⟨K7, n7, P7, T7, tm7, sse7, srm7, gbA, gpA, FA, foA, suA, grA, gbB, gpB, FB, foB, suB, grB, Q7, M7, L7x, st2, sl2, lb2, ps2, sz2, hg2, HW2, hr9, rfl, hf9⟩ := hpost
    have hf9w := hf9.2.1.1
    exact ⟨(sse7, srm7, K7, n7, P7, T7, tm7, gbA, gpA, FA, suA, grA, gbB, gpB, FB, suB, grB), st2, sl2, lb2, ps2, sz2, hg2, ⟨t9, wt, pBd cI cJ cB h hs hw hh hp (tup se wd hd nb wl st2 sl2 gl aq lb2 sh bw bh ps2), wd9, wr, pS cI cJ ys yk yp yt y1 y2 zs zf1 zf2 n7 tm7 sse7 srm7 K7 P7 T7 gbA gpA foA suA grA gbB gpB foB suB grB FA FB, wu, pK cI zs zq zm zl Q7 M7 L7x, HW2, (pmD (pX xo vo h h2 ho ro ys yw (nI rd)) wt (pBd cI cJ cB h hs hw hh hp (tup se wd hd nb wl st2 sl2 gl aq lb2 sh bw bh ps2)) wd9 wr (pS cI cJ ys yk yp yt y1 y2 zs zf1 zf2 n7 tm7 sse7 srm7 K7 P7 T7 gbA gpA foA suA grA gbB gpB foB suB grB FA FB) wu (pK cI zs zq zm zl Q7 M7 L7x) wm HW2).symm, hT, ⟨hs, hw, hh, hp, rfl⟩, hB9, hR, ⟨yk, yp, yt, y1, y2, zf1, zf2, foA, foB, rfl⟩, hU, ⟨zq, zm, zl, Q7, M7, L7x, rfl⟩, hf9w⟩, hr9, hf9.1, ⟨hf9.2.1.2.2.1, hf9.2.1.2.2.2⟩, hf9.2.2.1, hf9.2.2.2⟩
set_option maxHeartbeats 4000000 in
set_option maxRecDepth 100000 in
theorem x_undo (l : Launch) (D : va_G) {cI cJ cB : ClassId} {xo rd ln vo h h2 ho ro ys yw zs hsz : Nat} {tx : Nat → Nat} {t : BT} {s1 s2 : SPT} {hg : Nat → BT} {wm ws : va_W} (h0 : PCS cI cJ cB xo rd ln tx t s1 s2 hsz hg vo h h2 ho ro ys yw zs wm ws) : STi l D cI cJ cB yX7_undo cX7_undo 1 4 xo 7 [] ws (fun r w9 => ∃ t2 : BT, PCS cI cJ cB xo rd ln tx t2 s1 s2 (hsz - 1) hg vo h h2 ho ro ys yw zs wm w9 ∧ r = (if hsz = 0 then -9 else nI (hsz - 1)) ∧ (hsz = 0 → t2 = t) ∧ (hsz ≠ 0 → t2 = hg (hsz - 1))) := by
  obtain ⟨se, wd, hd, nb, wl, st, sl, gl, aq, lb, sh, bw, bh, ps⟩ := t
  obtain ⟨t9, wt, wb, wd9, wr, wsp, wu, wk, HW, hpm, hT, hB, hB9, hR, hSp, hU, hK, hH⟩ := h0
  obtain ⟨hs, hw, hh, hp, rfl⟩ := hB
  have hM := c_X7_undo l D cI cJ cB xo vo h2 ho ro ys yw (nI rd) h hs hw hh hp se wd hd nb wl st sl gl aq lb sh bw bh ps hsz hg HW hH
  refine ⟨_, (wt ++ (wd9 ++ (wr ++ (wsp ++ (wu ++ (wk ++ wm)))))), _, [.ref vo, .ref h, .ref h2, .ref ho, .ref ro, .ref ys, .ref yw, .int (nI rd)], ?_, ?_, hM, ?_⟩
  · exact hpm.trans (pmH (pX xo vo h h2 ho ro ys yw (nI rd)) wt (pBd cI cJ cB h hs hw hh hp (tup se wd hd nb wl st sl gl aq lb sh bw bh ps)) wd9 wr wsp wu wk wm HW)
  · exact List.mem_cons_self
  · intro r w1 hpost
    obtain ⟨t2, HW2, hr9, rfl, hf9⟩ := hpost
    have hf9w := hf9.1
    exact ⟨t2, ⟨t9, wt, pBd cI cJ cB h hs hw hh hp t2, wd9, wr, wsp, wu, wk, HW2, (pmH (pX xo vo h h2 ho ro ys yw (nI rd)) wt (pBd cI cJ cB h hs hw hh hp t2) wd9 wr wsp wu wk wm HW2).symm, hT, ⟨hs, hw, hh, hp, rfl⟩, hB9, hR, hSp, hU, hK, hf9w⟩, hr9, hf9.2.2.1, hf9.2.2.2⟩
set_option maxHeartbeats 4000000 in
set_option maxRecDepth 100000 in
theorem x_read (l : Launch) (D : va_G) {cI cJ cB : ClassId} {xo rd ln vo h h2 ho ro ys yw zs hsz : Nat} {tx : Nat → Nat} {t : BT} {s1 s2 : SPT} {hg : Nat → BT} {wm ws : va_W} (hln : ln ≤ 40) (htx : ∀ i, tx i < 2 ^ 20) (h0 : PCS cI cJ cB xo rd ln tx t s1 s2 hsz hg vo h h2 ho ro ys yw zs wm ws) : STi l D cI cJ cB yX7_read cX7_read 2 5 xo 7 [] ws (fun r w9 => ∃ (t2 : BT) (rd7 ln7 sz2 : Nat) (hg2 : Nat → BT), PCS cI cJ cB xo rd7 ln7 tx t2 s1 s2 sz2 hg2 vo h h2 ho ro ys yw zs wm w9 ∧ (((∃ e, RDW tx ln e ∧ e < 2 ^ 20 ∧ r = -100 - nI e) ∧ t2 = t ∧ rd7 = rd ∧ ln7 = ln ∧ sz2 = hsz ∧ hg2 = hg) ∨ (∃ cl, RDR tx ln (twd t2) (thd t2) cl (tnb t2) ∧ r = nI (tnb t2) ∧ twl t2 = bset cl 1 (twd t2 * thd t2) ∧ SHP (twd t2) (thd t2) (fun b => bset cl (2 + b) (twd t2 * thd t2)) (tnb t2) (tsh t2) (tbw t2) (tbh t2) (tps t2) ∧ (tst t2 = 0 ∧ tsl t2 = 0 ∧ tgl t2 = none ∧ taq t2 = none ∧ tlb t2 = none) ∧ tse t2 = rd + 1 ∧ rd7 = rd + 1 ∧ ln7 = 0 ∧ sz2 = hcnt hsz ∧ hg2 = hpu hg hsz t))) := by
  obtain ⟨se, wd, hd, nb, wl, st, sl, gl, aq, lb, sh, bw, bh, ps⟩ := t
  obtain ⟨t9, wt, wb, wd9, wr, wsp, wu, wk, HW, hpm, hT, hB, hB9, hR, hSp, hU, hK, hH⟩ := h0
  obtain ⟨vsa, vca, vla, all0, k0, vw0, ro0, row0, cl0, lt0, rfl⟩ := hT
  obtain ⟨hs, hw, hh, hp, rfl⟩ := hB
  obtain ⟨hs2, hw2, hh2, hp2, rfl⟩ := hB9
  obtain ⟨se9, wd9, hd9, nb9, wl9, st9, sl9, gl9, aq9, lb9, sh9, bw9, bh9, ps9⟩ := t9
  have hM := c_X7_read l D cI cJ cB xo ho ro ys yw rd vo vsa vca vla ln all0 k0 vw0 ro0 row0 tx cl0 lt0 h hs hw hh hp se wd hd nb wl st sl gl aq lb sh bw bh ps h2 hs2 hw2 hh2 hp2 se9 wd9 hd9 nb9 wl9 st9 sl9 gl9 aq9 lb9 sh9 bw9 bh9 ps9 hsz hg HW hln htx hH
  refine ⟨_, (wr ++ (wsp ++ (wu ++ (wk ++ wm)))), _, [.ref vo, .ref h, .ref h2, .ref ho, .ref ro, .ref ys, .ref yw, .int (nI rd)], ?_, ?_, hM, ?_⟩
  · exact hpm.trans (pmA (pX xo vo h h2 ho ro ys yw (nI rd)) (pT cI vo vsa vca vla ln all0 k0 vw0 ro0 row0 tx cl0 lt0) (pBd cI cJ cB h hs hw hh hp (tup se wd hd nb wl st sl gl aq lb sh bw bh ps)) (pBd cI cJ cB h2 hs2 hw2 hh2 hp2 (tup se9 wd9 hd9 nb9 wl9 st9 sl9 gl9 aq9 lb9 sh9 bw9 bh9 ps9)) wr wsp wu wk wm HW)
  · exact List.mem_cons_self
  · intro r w1 hpost
    obtain ⟨all2, k2, vw2, ro2, row2, cl2, lt9, se7, wd7, hd7, nb7, wl7, st7, sl7, gl7, aq7, lb7, sh7, bw7, bh7, ps7, se8, wd8, hd8, nb8, wl8, st8, sl8, gl8, aq8, lb8, sh8, bw8, bh8, ps8, rd7, ln7, sz2, hg2, HW2, rfl, hf9⟩ := hpost
    have hf9w := hf9.2.1
    exact ⟨tup se7 wd7 hd7 nb7 wl7 st7 sl7 gl7 aq7 lb7 sh7 bw7 bh7 ps7, rd7, ln7, sz2, hg2, ⟨(tup se8 wd8 hd8 nb8 wl8 st8 sl8 gl8 aq8 lb8 sh8 bw8 bh8 ps8), pT cI vo vsa vca vla ln7 all2 k2 vw2 ro2 row2 tx cl2 lt9, pBd cI cJ cB h hs hw hh hp (tup se7 wd7 hd7 nb7 wl7 st7 sl7 gl7 aq7 lb7 sh7 bw7 bh7 ps7), pBd cI cJ cB h2 hs2 hw2 hh2 hp2 (tup se8 wd8 hd8 nb8 wl8 st8 sl8 gl8 aq8 lb8 sh8 bw8 bh8 ps8), wr, wsp, wu, wk, HW2, (pmA (pX xo vo h h2 ho ro ys yw (nI rd7)) (pT cI vo vsa vca vla ln7 all2 k2 vw2 ro2 row2 tx cl2 lt9) (pBd cI cJ cB h hs hw hh hp (tup se7 wd7 hd7 nb7 wl7 st7 sl7 gl7 aq7 lb7 sh7 bw7 bh7 ps7)) (pBd cI cJ cB h2 hs2 hw2 hh2 hp2 (tup se8 wd8 hd8 nb8 wl8 st8 sl8 gl8 aq8 lb8 sh8 bw8 bh8 ps8)) wr wsp wu wk wm HW2).symm, ⟨vsa, vca, vla, all2, k2, vw2, ro2, row2, cl2, lt9, rfl⟩, ⟨hs, hw, hh, hp, rfl⟩, ⟨hs2, hw2, hh2, hp2, rfl⟩, hR, hSp, hU, hK, hf9w⟩, hf9.1.imp (fun h9 => ⟨h9.1, by obtain ⟨-, ⟨rfl, rfl, rfl, rfl, rfl, rfl, rfl, rfl, rfl, rfl, rfl, rfl, rfl, rfl⟩, -⟩ := h9; rfl, h9.2.2⟩) id⟩
