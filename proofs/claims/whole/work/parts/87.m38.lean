/-! ===== the public methods of the Model over the pieces of the law's world (written by lgen.py) ===== -/
set_option maxHeartbeats 4000000 in
set_option maxRecDepth 100000 in
theorem m_type (l : Launch) (D : va_G) {cI cJ cB : ClassId} {xo o rd ln vo h h2 ho ro ys yw zs hsz : Nat} {tx : Nat → Nat} {t : BT} {s1 s2 : SPT} {hg : Nat → BT} {wm ws : va_W} {mpa : Nat → Int32} {wd hd nb wl : Nat} {st sl : Int32} {gl aq lb : Option Nat} {sh bw bh ps : Nat → Nat} {ln9 sz9 : Nat} {tx9 : Nat → Nat} (x : Int32) (hty : ln ≤ 40) (h0 : PCS cI cJ cB xo rd ln9 tx9 t s1 s2 sz9 hg vo h h2 ho ro ys yw zs wm ws) (hm : PMo cI cJ cB o ln tx hsz mpa (vF wd hd nb wl st sl gl aq lb sh bw bh ps) wm) : STi l D cI cJ cB yX8_type cX8_type 2 1 o 8 [.int x] ws (fun r w9 => ∃ wm2, PCS cI cJ cB xo rd ln9 tx9 t s1 s2 sz9 hg vo h h2 ho ro ys yw zs wm2 w9 ∧ ∃ tx2 ln2, PMo cI cJ cB o ln2 tx2 hsz mpa (vF wd hd nb wl st sl gl aq lb sh bw bh ps) wm2 ∧ r = (match tOf x with | some _ => (if ln = 40 then -3 else nI (ln + 1)) | none => -1) ∧ tx2 = (match tOf x with | some q => (if ln = 40 then tx else va_up tx ln q) | none => tx) ∧ ln2 = (match tOf x with | some _ => (if ln = 40 then ln else ln + 1) | none => ln)) := by
  obtain ⟨t9, wt, wb, wd9, wr, wsp, wu, wk, HW, hpm, hT, hB, hB9, hR, hSp, hU, hK, hH⟩ := h0
  obtain ⟨kv, kp, kx, kl, kh, ki, kf, kq, ka, kt, kd, kn, mwi, mhi, mwa, mle, mam, mli, mgo, mtm, mlt, mha, mfi, mqu, mta, mln, mal, mfa, mdi, rfl⟩ := hm
  have hM := c_X8_type l D cI cJ cB o kv kp kx kl kh ki kf kq ka kt kd kn hsz ln mwi mhi mwa mle mam mli mgo mtm mpa tx mlt mha mfi mqu mta mln mal mfa mdi wd hd nb wl st sl gl aq lb sh bw bh ps x hty
  refine ⟨_, ((pX xo vo h h2 ho ro ys yw (nI rd)) ++ (wt ++ (wb ++ (wd9 ++ (wr ++ (wsp ++ (wu ++ (wk ++ HW)))))))), _, [.ref kv, .ref kp, .int (nI hsz), .ref kx, .int (nI ln), .int (nI mwi), .int (nI mhi), .int (nI mwa), .int (nI mle), .ref kl, .ref kh, .ref ki, .int (gI mgo), .ref kf, .ref kq, .ref ka, .ref kt, .ref kd, .ref kn, .int (nI mam), .int (bI mtm), .int (nI mli)], ?_, ?_, hM, ?_⟩
  · exact hpm.trans (pmM _ _ _ _ _ _ _ _ _ _)
  · exact List.mem_cons_self
  · intro r w1 hpost
    obtain ⟨tx2, ty2, hr9, rfl, hf9⟩ := hpost
    exact ⟨_, ⟨t9, wt, wb, wd9, wr, wsp, wu, wk, HW, (pmM _ _ _ _ _ _ _ _ _ _).symm, hT, hB, hB9, hR, hSp, hU, hK, hH⟩, tx2, ty2, ⟨kv, kp, kx, kl, kh, ki, kf, kq, ka, kt, kd, kn, mwi, mhi, mwa, mle, mam, mli, mgo, mtm, mlt, mha, mfi, mqu, mta, mln, mal, mfa, mdi, rfl⟩, hr9, hf9.1, hf9.2⟩
set_option maxHeartbeats 4000000 in
set_option maxRecDepth 100000 in
theorem m_clear (l : Launch) (D : va_G) {cI cJ cB : ClassId} {xo o rd ln vo h h2 ho ro ys yw zs hsz : Nat} {tx : Nat → Nat} {t : BT} {s1 s2 : SPT} {hg : Nat → BT} {wm ws : va_W} {mpa : Nat → Int32} {wd hd nb wl : Nat} {st sl : Int32} {gl aq lb : Option Nat} {sh bw bh ps : Nat → Nat} {ln9 sz9 : Nat} {tx9 : Nat → Nat} (h0 : PCS cI cJ cB xo rd ln9 tx9 t s1 s2 sz9 hg vo h h2 ho ro ys yw zs wm ws) (hm : PMo cI cJ cB o ln tx hsz mpa (vF wd hd nb wl st sl gl aq lb sh bw bh ps) wm) : STi l D cI cJ cB yX8_clear cX8_clear 2 0 o 8 [] ws (fun r w9 => ∃ wm2, PCS cI cJ cB xo rd ln9 tx9 t s1 s2 sz9 hg vo h h2 ho ro ys yw zs wm2 w9 ∧ PMo cI cJ cB o 0 tx hsz mpa (vF wd hd nb wl st sl gl aq lb sh bw bh ps) wm2 ∧ r = nI ln) := by
  obtain ⟨t9, wt, wb, wd9, wr, wsp, wu, wk, HW, hpm, hT, hB, hB9, hR, hSp, hU, hK, hH⟩ := h0
  obtain ⟨kv, kp, kx, kl, kh, ki, kf, kq, ka, kt, kd, kn, mwi, mhi, mwa, mle, mam, mli, mgo, mtm, mlt, mha, mfi, mqu, mta, mln, mal, mfa, mdi, rfl⟩ := hm
  have hM := c_X8_clear l D cI cJ cB o kv kp kx kl kh ki kf kq ka kt kd kn hsz ln mwi mhi mwa mle mam mli mgo mtm mpa tx mlt mha mfi mqu mta mln mal mfa mdi wd hd nb wl st sl gl aq lb sh bw bh ps 
  refine ⟨_, ((pX xo vo h h2 ho ro ys yw (nI rd)) ++ (wt ++ (wb ++ (wd9 ++ (wr ++ (wsp ++ (wu ++ (wk ++ HW)))))))), _, [.ref kv, .ref kp, .int (nI hsz), .ref kx, .int (nI ln), .int (nI mwi), .int (nI mhi), .int (nI mwa), .int (nI mle), .ref kl, .ref kh, .ref ki, .int (gI mgo), .ref kf, .ref kq, .ref ka, .ref kt, .ref kd, .ref kn, .int (nI mam), .int (bI mtm), .int (nI mli)], ?_, ?_, hM, ?_⟩
  · exact hpm.trans (pmM _ _ _ _ _ _ _ _ _ _)
  · exact List.mem_cons_self
  · intro r w1 hpost
    obtain ⟨hr9, rfl⟩ := hpost
    exact ⟨_, ⟨t9, wt, wb, wd9, wr, wsp, wu, wk, HW, (pmM _ _ _ _ _ _ _ _ _ _).symm, hT, hB, hB9, hR, hSp, hU, hK, hH⟩, ⟨kv, kp, kx, kl, kh, ki, kf, kq, ka, kt, kd, kn, mwi, mhi, mwa, mle, mam, mli, mgo, mtm, mlt, mha, mfi, mqu, mta, mln, mal, mfa, mdi, rfl⟩, hr9⟩
set_option maxHeartbeats 4000000 in
set_option maxRecDepth 100000 in
theorem m_frame (l : Launch) (D : va_G) {cI cJ cB : ClassId} {xo o rd ln vo h h2 ho ro ys yw zs hsz : Nat} {tx : Nat → Nat} {t : BT} {s1 s2 : SPT} {hg : Nat → BT} {wm ws : va_W} {mpa : Nat → Int32} {wd hd nb wl : Nat} {st sl : Int32} {gl aq lb : Option Nat} {sh bw bh ps : Nat → Nat} {ln9 sz9 : Nat} {tx9 : Nat → Nat} (x : Int32) (htv : TV wd hd nb wl sh bw bh ps gl aq lb) (h0 : PCS cI cJ cB xo rd ln9 tx9 t s1 s2 sz9 hg vo h h2 ho ro ys yw zs wm ws) (hm : PMo cI cJ cB o ln tx hsz mpa (vF wd hd nb wl st sl gl aq lb sh bw bh ps) wm) : STi l D cI cJ cB yX8_frame cX8_frame 2 3 o 8 [.int x] ws (fun r w9 => ∃ wm2, PCS cI cJ cB xo rd ln9 tx9 t s1 s2 sz9 hg vo h h2 ho ro ys yw zs wm2 w9 ∧ PMo cI cJ cB o ln tx hsz mpa (vF wd hd nb wl st sl gl aq lb sh bw bh ps) wm2 ∧ r = f_framex wd hd nb wl st sl gl aq sh ps x) := by
  obtain ⟨t9, wt, wb, wd9, wr, wsp, wu, wk, HW, hpm, hT, hB, hB9, hR, hSp, hU, hK, hH⟩ := h0
  obtain ⟨kv, kp, kx, kl, kh, ki, kf, kq, ka, kt, kd, kn, mwi, mhi, mwa, mle, mam, mli, mgo, mtm, mlt, mha, mfi, mqu, mta, mln, mal, mfa, mdi, rfl⟩ := hm
  have hM := c_X8_frame l D cI cJ cB o kv kp kx kl kh ki kf kq ka kt kd kn hsz ln mwi mhi mwa mle mam mli mgo mtm mpa tx mlt mha mfi mqu mta mln mal mfa mdi wd hd nb wl st sl gl aq lb sh bw bh ps x htv
  refine ⟨_, ((pX xo vo h h2 ho ro ys yw (nI rd)) ++ (wt ++ (wb ++ (wd9 ++ (wr ++ (wsp ++ (wu ++ (wk ++ HW)))))))), _, [.ref kv, .ref kp, .int (nI hsz), .ref kx, .int (nI ln), .int (nI mwi), .int (nI mhi), .int (nI mwa), .int (nI mle), .ref kl, .ref kh, .ref ki, .int (gI mgo), .ref kf, .ref kq, .ref ka, .ref kt, .ref kd, .ref kn, .int (nI mam), .int (bI mtm), .int (nI mli)], ?_, ?_, hM, ?_⟩
  · exact hpm.trans (pmM _ _ _ _ _ _ _ _ _ _)
  · exact List.mem_cons_self
  · intro r w1 hpost
    obtain ⟨go2, hr9, rfl⟩ := hpost
    exact ⟨_, ⟨t9, wt, wb, wd9, wr, wsp, wu, wk, HW, (pmM _ _ _ _ _ _ _ _ _ _).symm, hT, hB, hB9, hR, hSp, hU, hK, hH⟩, ⟨kv, kp, kx, kl, kh, ki, kf, kq, ka, kt, kd, kn, mwi, mhi, mwa, mle, mam, mli, go2, mtm, mlt, mha, mfi, mqu, mta, mln, mal, mfa, mdi, rfl⟩, hr9⟩
set_option maxHeartbeats 4000000 in
set_option maxRecDepth 100000 in
theorem m_cell (l : Launch) (D : va_G) {cI cJ cB : ClassId} {xo o rd ln vo h h2 ho ro ys yw zs hsz : Nat} {tx : Nat → Nat} {t : BT} {s1 s2 : SPT} {hg : Nat → BT} {wm ws : va_W} {mpa : Nat → Int32} {wd hd nb wl : Nat} {st sl : Int32} {gl aq lb : Option Nat} {sh bw bh ps : Nat → Nat} {ln9 sz9 : Nat} {tx9 : Nat → Nat} (x : Int32) (htv : TV wd hd nb wl sh bw bh ps gl aq lb) (h0 : PCS cI cJ cB xo rd ln9 tx9 t s1 s2 sz9 hg vo h h2 ho ro ys yw zs wm ws) (hm : PMo cI cJ cB o ln tx hsz mpa (vF wd hd nb wl st sl gl aq lb sh bw bh ps) wm) : STi l D cI cJ cB yX8_cell cX8_cell 2 1 o 8 [.int x] ws (fun r w9 => ∃ wm2, PCS cI cJ cB xo rd ln9 tx9 t s1 s2 sz9 hg vo h h2 ho ro ys yw zs wm2 w9 ∧ PMo cI cJ cB o ln tx hsz mpa (vF wd hd nb wl st sl gl aq lb sh bw bh ps) wm2 ∧ r = f_cellx wd hd nb wl sh ps x) := by
  obtain ⟨t9, wt, wb, wd9, wr, wsp, wu, wk, HW, hpm, hT, hB, hB9, hR, hSp, hU, hK, hH⟩ := h0
  obtain ⟨kv, kp, kx, kl, kh, ki, kf, kq, ka, kt, kd, kn, mwi, mhi, mwa, mle, mam, mli, mgo, mtm, mlt, mha, mfi, mqu, mta, mln, mal, mfa, mdi, rfl⟩ := hm
  have hM := c_X8_cell l D cI cJ cB o kv kp kx kl kh ki kf kq ka kt kd kn hsz ln mwi mhi mwa mle mam mli mgo mtm mpa tx mlt mha mfi mqu mta mln mal mfa mdi wd hd nb wl st sl gl aq lb sh bw bh ps x htv
  refine ⟨_, ((pX xo vo h h2 ho ro ys yw (nI rd)) ++ (wt ++ (wb ++ (wd9 ++ (wr ++ (wsp ++ (wu ++ (wk ++ HW)))))))), _, [.ref kv, .ref kp, .int (nI hsz), .ref kx, .int (nI ln), .int (nI mwi), .int (nI mhi), .int (nI mwa), .int (nI mle), .ref kl, .ref kh, .ref ki, .int (gI mgo), .ref kf, .ref kq, .ref ka, .ref kt, .ref kd, .ref kn, .int (nI mam), .int (bI mtm), .int (nI mli)], ?_, ?_, hM, ?_⟩
  · exact hpm.trans (pmM _ _ _ _ _ _ _ _ _ _)
  · exact List.mem_cons_self
  · intro r w1 hpost
    obtain ⟨hr9, rfl⟩ := hpost
    exact ⟨_, ⟨t9, wt, wb, wd9, wr, wsp, wu, wk, HW, (pmM _ _ _ _ _ _ _ _ _ _).symm, hT, hB, hB9, hR, hSp, hU, hK, hH⟩, ⟨kv, kp, kx, kl, kh, ki, kf, kq, ka, kt, kd, kn, mwi, mhi, mwa, mle, mam, mli, mgo, mtm, mlt, mha, mfi, mqu, mta, mln, mal, mfa, mdi, rfl⟩, hr9⟩
set_option maxHeartbeats 4000000 in
set_option maxRecDepth 100000 in
theorem m_block (l : Launch) (D : va_G) {cI cJ cB : ClassId} {xo o rd ln vo h h2 ho ro ys yw zs hsz : Nat} {tx : Nat → Nat} {t : BT} {s1 s2 : SPT} {hg : Nat → BT} {wm ws : va_W} {mpa : Nat → Int32} {wd hd nb wl : Nat} {st sl : Int32} {gl aq lb : Option Nat} {sh bw bh ps : Nat → Nat} {ln9 sz9 : Nat} {tx9 : Nat → Nat} (x : Int32) (y : Int32) (htv : TV wd hd nb wl sh bw bh ps gl aq lb) (h0 : PCS cI cJ cB xo rd ln9 tx9 t s1 s2 sz9 hg vo h h2 ho ro ys yw zs wm ws) (hm : PMo cI cJ cB o ln tx hsz mpa (vF wd hd nb wl st sl gl aq lb sh bw bh ps) wm) : STi l D cI cJ cB yX8_block cX8_block 3 4 o 8 [.int x, .int y] ws (fun r w9 => ∃ wm2, PCS cI cJ cB xo rd ln9 tx9 t s1 s2 sz9 hg vo h h2 ho ro ys yw zs wm2 w9 ∧ PMo cI cJ cB o ln tx hsz mpa (vF wd hd nb wl st sl gl aq lb sh bw bh ps) wm2 ∧ r = f_blkx wd hd nb wl sh bw bh ps x y) := by
  obtain ⟨t9, wt, wb, wd9, wr, wsp, wu, wk, HW, hpm, hT, hB, hB9, hR, hSp, hU, hK, hH⟩ := h0
  obtain ⟨kv, kp, kx, kl, kh, ki, kf, kq, ka, kt, kd, kn, mwi, mhi, mwa, mle, mam, mli, mgo, mtm, mlt, mha, mfi, mqu, mta, mln, mal, mfa, mdi, rfl⟩ := hm
  have hM := c_X8_block l D cI cJ cB o kv kp kx kl kh ki kf kq ka kt kd kn hsz ln mwi mhi mwa mle mam mli mgo mtm mpa tx mlt mha mfi mqu mta mln mal mfa mdi wd hd nb wl st sl gl aq lb sh bw bh ps x y htv
  refine ⟨_, ((pX xo vo h h2 ho ro ys yw (nI rd)) ++ (wt ++ (wb ++ (wd9 ++ (wr ++ (wsp ++ (wu ++ (wk ++ HW)))))))), _, [.ref kv, .ref kp, .int (nI hsz), .ref kx, .int (nI ln), .int (nI mwi), .int (nI mhi), .int (nI mwa), .int (nI mle), .ref kl, .ref kh, .ref ki, .int (gI mgo), .ref kf, .ref kq, .ref ka, .ref kt, .ref kd, .ref kn, .int (nI mam), .int (bI mtm), .int (nI mli)], ?_, ?_, hM, ?_⟩
  · exact hpm.trans (pmM _ _ _ _ _ _ _ _ _ _)
  · exact List.mem_cons_self
  · intro r w1 hpost
    obtain ⟨go2, fa2, qa2, hr9, rfl⟩ := hpost
    exact ⟨_, ⟨t9, wt, wb, wd9, wr, wsp, wu, wk, HW, (pmM _ _ _ _ _ _ _ _ _ _).symm, hT, hB, hB9, hR, hSp, hU, hK, hH⟩, ⟨kv, kp, kx, kl, kh, ki, kf, kq, ka, kt, kd, kn, mwi, mhi, mwa, mle, mam, mli, go2, mtm, mlt, mha, mfi, qa2, mta, mln, mal, fa2, mdi, rfl⟩, hr9⟩
set_option maxHeartbeats 4000000 in
set_option maxRecDepth 100000 in
theorem m_states (l : Launch) (D : va_G) {cI cJ cB : ClassId} {xo o rd ln vo h h2 ho ro ys yw zs hsz : Nat} {tx : Nat → Nat} {t : BT} {s1 s2 : SPT} {hg : Nat → BT} {wm ws : va_W} {mpa : Nat → Int32} {wd hd nb wl : Nat} {st sl : Int32} {gl aq lb : Option Nat} {sh bw bh ps : Nat → Nat} {ln9 sz9 : Nat} {tx9 : Nat → Nat} (htv : TV wd hd nb wl sh bw bh ps gl aq lb) (h0 : PCS cI cJ cB xo rd ln9 tx9 t s1 s2 sz9 hg vo h h2 ho ro ys yw zs wm ws) (hm : PMo cI cJ cB o ln tx hsz mpa (vF wd hd nb wl st sl gl aq lb sh bw bh ps) wm) : STi l D cI cJ cB yX8_states cX8_states 1 4 o 8 [] ws (fun r w9 => ∃ wm2, PCS cI cJ cB xo rd ln9 tx9 t s1 s2 sz9 hg vo h h2 ho ro ys yw zs wm2 w9 ∧ PMo cI cJ cB o ln tx hsz mpa (vF wd hd nb wl st sl gl aq lb sh bw bh ps) wm2 ∧ r = f_states (kst wd hd nb wl sh bw bh none) (pkey ps nb)) := by
  obtain ⟨t9, wt, wb, wd9, wr, wsp, wu, wk, HW, hpm, hT, hB, hB9, hR, hSp, hU, hK, hH⟩ := h0
  obtain ⟨kv, kp, kx, kl, kh, ki, kf, kq, ka, kt, kd, kn, mwi, mhi, mwa, mle, mam, mli, mgo, mtm, mlt, mha, mfi, mqu, mta, mln, mal, mfa, mdi, rfl⟩ := hm
  have hM := c_X8_states l D cI cJ cB o kv kp kx kl kh ki kf kq ka kt kd kn hsz ln mwi mhi mwa mle mam mli mgo mtm mpa tx mlt mha mfi mqu mta mln mal mfa mdi wd hd nb wl st sl gl aq lb sh bw bh ps htv
  refine ⟨_, ((pX xo vo h h2 ho ro ys yw (nI rd)) ++ (wt ++ (wb ++ (wd9 ++ (wr ++ (wsp ++ (wu ++ (wk ++ HW)))))))), _, [.ref kv, .ref kp, .int (nI hsz), .ref kx, .int (nI ln), .int (nI mwi), .int (nI mhi), .int (nI mwa), .int (nI mle), .ref kl, .ref kh, .ref ki, .int (gI mgo), .ref kf, .ref kq, .ref ka, .ref kt, .ref kd, .ref kn, .int (nI mam), .int (bI mtm), .int (nI mli)], ?_, ?_, hM, ?_⟩
  · exact hpm.trans (pmM _ _ _ _ _ _ _ _ _ _)
  · exact List.mem_cons_self
  · intro r w1 hpost
    obtain ⟨go2, K2, n2, T2, tm2, F2, L2, l2, fa2, qa2, hr9, rfl⟩ := hpost
    exact ⟨_, ⟨t9, wt, wb, wd9, wr, wsp, wu, wk, HW, (pmM _ _ _ _ _ _ _ _ _ _).symm, hT, hB, hB9, hR, hSp, hU, hK, hH⟩, ⟨kv, kp, kx, kl, kh, ki, kf, kq, ka, kt, kd, kn, mwi, mhi, mwa, mle, n2, l2, go2, tm2, mlt, mha, mfi, qa2, T2, L2, K2, fa2, F2, rfl⟩, hr9⟩
set_option maxHeartbeats 4000000 in
set_option maxRecDepth 100000 in
theorem m_solved (l : Launch) (D : va_G) {cI cJ cB : ClassId} {xo o rd ln vo h h2 ho ro ys yw zs hsz : Nat} {tx : Nat → Nat} {t : BT} {s1 s2 : SPT} {hg : Nat → BT} {wm ws : va_W} {mpa : Nat → Int32} {wd hd nb wl : Nat} {st sl : Int32} {gl aq lb : Option Nat} {sh bw bh ps : Nat → Nat} {ln9 sz9 : Nat} {tx9 : Nat → Nat} (htv : TV wd hd nb wl sh bw bh ps gl aq lb) (h0 : PCS cI cJ cB xo rd ln9 tx9 t s1 s2 sz9 hg vo h h2 ho ro ys yw zs wm ws) (hm : PMo cI cJ cB o ln tx hsz mpa (vF wd hd nb wl st sl gl aq lb sh bw bh ps) wm) : STi l D cI cJ cB yX8_solved cX8_solved 3 3 o 8 [] ws (fun r w9 => ∃ wm2, PCS cI cJ cB xo rd ln9 tx9 t s1 s2 sz9 hg vo h h2 ho ro ys yw zs wm2 w9 ∧ PMo cI cJ cB o ln tx hsz mpa (vF wd hd nb wl st sl gl aq lb sh bw bh ps) wm2 ∧ r = f_solved (kst wd hd nb wl sh bw bh none) gl aq (pkey ps nb)) := by
  obtain ⟨t9, wt, wb, wd9, wr, wsp, wu, wk, HW, hpm, hT, hB, hB9, hR, hSp, hU, hK, hH⟩ := h0
  obtain ⟨kv, kp, kx, kl, kh, ki, kf, kq, ka, kt, kd, kn, mwi, mhi, mwa, mle, mam, mli, mgo, mtm, mlt, mha, mfi, mqu, mta, mln, mal, mfa, mdi, rfl⟩ := hm
  have hM := c_X8_solved l D cI cJ cB o kv kp kx kl kh ki kf kq ka kt kd kn hsz ln mwi mhi mwa mle mam mli mgo mtm mpa tx mlt mha mfi mqu mta mln mal mfa mdi wd hd nb wl st sl gl aq lb sh bw bh ps htv
  refine ⟨_, ((pX xo vo h h2 ho ro ys yw (nI rd)) ++ (wt ++ (wb ++ (wd9 ++ (wr ++ (wsp ++ (wu ++ (wk ++ HW)))))))), _, [.ref kv, .ref kp, .int (nI hsz), .ref kx, .int (nI ln), .int (nI mwi), .int (nI mhi), .int (nI mwa), .int (nI mle), .ref kl, .ref kh, .ref ki, .int (gI mgo), .ref kf, .ref kq, .ref ka, .ref kt, .ref kd, .ref kn, .int (nI mam), .int (bI mtm), .int (nI mli)], ?_, ?_, hM, ?_⟩
  · exact hpm.trans (pmM _ _ _ _ _ _ _ _ _ _)
  · exact List.mem_cons_self
  · intro r w1 hpost
    obtain ⟨go2, K2, n2, T2, tm2, F2, L2, l2, fa2, qa2, hr9, rfl⟩ := hpost
    exact ⟨_, ⟨t9, wt, wb, wd9, wr, wsp, wu, wk, HW, (pmM _ _ _ _ _ _ _ _ _ _).symm, hT, hB, hB9, hR, hSp, hU, hK, hH⟩, ⟨kv, kp, kx, kl, kh, ki, kf, kq, ka, kt, kd, kn, mwi, mhi, mwa, mle, n2, l2, go2, tm2, mlt, mha, mfi, qa2, T2, L2, K2, fa2, F2, rfl⟩, hr9⟩
set_option maxHeartbeats 4000000 in
set_option maxRecDepth 100000 in
theorem m_distance (l : Launch) (D : va_G) {cI cJ cB : ClassId} {xo o rd ln vo h h2 ho ro ys yw zs hsz : Nat} {tx : Nat → Nat} {t : BT} {s1 s2 : SPT} {hg : Nat → BT} {wm ws : va_W} {mpa : Nat → Int32} {wd hd nb wl : Nat} {st sl : Int32} {gl aq lb : Option Nat} {sh bw bh ps : Nat → Nat} {ln9 sz9 : Nat} {tx9 : Nat → Nat} (z : Bool) (htv : TV wd hd nb wl sh bw bh ps gl aq lb) (h0 : PCS cI cJ cB xo rd ln9 tx9 t s1 s2 sz9 hg vo h h2 ho ro ys yw zs wm ws) (hm : PMo cI cJ cB o ln tx hsz mpa (vF wd hd nb wl st sl gl aq lb sh bw bh ps) wm) : STi l D cI cJ cB yX8_distance cX8_distance 2 6 o 8 [.int (bI z)] ws (fun r w9 => ∃ wm2, PCS cI cJ cB xo rd ln9 tx9 t s1 s2 sz9 hg vo h h2 ho ro ys yw zs wm2 w9 ∧ PMo cI cJ cB o ln tx hsz mpa (vF wd hd nb wl st sl gl aq lb sh bw bh ps) wm2 ∧ r = f_dist (kst wd hd nb wl sh bw bh none) (mvk wd hd nb wl sh bw bh none z) gl aq (pkey ps nb)) := by
  obtain ⟨t9, wt, wb, wd9, wr, wsp, wu, wk, HW, hpm, hT, hB, hB9, hR, hSp, hU, hK, hH⟩ := h0
  obtain ⟨kv, kp, kx, kl, kh, ki, kf, kq, ka, kt, kd, kn, mwi, mhi, mwa, mle, mam, mli, mgo, mtm, mlt, mha, mfi, mqu, mta, mln, mal, mfa, mdi, rfl⟩ := hm
  have hM := c_X8_distance l D cI cJ cB o kv kp kx kl kh ki kf kq ka kt kd kn hsz ln mwi mhi mwa mle mam mli mgo mtm mpa tx mlt mha mfi mqu mta mln mal mfa mdi wd hd nb wl st sl gl aq lb sh bw bh ps z htv
  refine ⟨_, ((pX xo vo h h2 ho ro ys yw (nI rd)) ++ (wt ++ (wb ++ (wd9 ++ (wr ++ (wsp ++ (wu ++ (wk ++ HW)))))))), _, [.ref kv, .ref kp, .int (nI hsz), .ref kx, .int (nI ln), .int (nI mwi), .int (nI mhi), .int (nI mwa), .int (nI mle), .ref kl, .ref kh, .ref ki, .int (gI mgo), .ref kf, .ref kq, .ref ka, .ref kt, .ref kd, .ref kn, .int (nI mam), .int (bI mtm), .int (nI mli)], ?_, ?_, hM, ?_⟩
  · exact hpm.trans (pmM _ _ _ _ _ _ _ _ _ _)
  · exact List.mem_cons_self
  · intro r w1 hpost
    obtain ⟨go2, K2, n2, T2, tm2, F2, L2, l2, fa2, qa2, hr9, rfl⟩ := hpost
    exact ⟨_, ⟨t9, wt, wb, wd9, wr, wsp, wu, wk, HW, (pmM _ _ _ _ _ _ _ _ _ _).symm, hT, hB, hB9, hR, hSp, hU, hK, hH⟩, ⟨kv, kp, kx, kl, kh, ki, kf, kq, ka, kt, kd, kn, mwi, mhi, mwa, mle, n2, l2, go2, tm2, mlt, mha, mfi, qa2, T2, L2, K2, fa2, F2, rfl⟩, hr9⟩
set_option maxHeartbeats 4000000 in
set_option maxRecDepth 100000 in
theorem m_hint (l : Launch) (D : va_G) {cI cJ cB : ClassId} {xo o rd ln vo h h2 ho ro ys yw zs hsz : Nat} {tx : Nat → Nat} {t : BT} {s1 s2 : SPT} {hg : Nat → BT} {wm ws : va_W} {mpa : Nat → Int32} {wd hd nb wl : Nat} {st sl : Int32} {gl aq lb : Option Nat} {sh bw bh ps : Nat → Nat} {ln9 sz9 : Nat} {tx9 : Nat → Nat} (z : Bool) (htv : TV wd hd nb wl sh bw bh ps gl aq lb) (h0 : PCS cI cJ cB xo rd ln9 tx9 t s1 s2 sz9 hg vo h h2 ho ro ys yw zs wm ws) (hm : PMo cI cJ cB o ln tx hsz mpa (vF wd hd nb wl st sl gl aq lb sh bw bh ps) wm) : STi l D cI cJ cB yX8_hint cX8_hint 2 6 o 8 [.int (bI z)] ws (fun r w9 => ∃ wm2, PCS cI cJ cB xo rd ln9 tx9 t s1 s2 sz9 hg vo h h2 ho ro ys yw zs wm2 w9 ∧ PMo cI cJ cB o ln tx hsz mpa (vF wd hd nb wl st sl gl aq lb sh bw bh ps) wm2 ∧ r = cHint (f_hintx wd hd nb wl sh bw bh ps gl aq z)) := by
  obtain ⟨t9, wt, wb, wd9, wr, wsp, wu, wk, HW, hpm, hT, hB, hB9, hR, hSp, hU, hK, hH⟩ := h0
  obtain ⟨kv, kp, kx, kl, kh, ki, kf, kq, ka, kt, kd, kn, mwi, mhi, mwa, mle, mam, mli, mgo, mtm, mlt, mha, mfi, mqu, mta, mln, mal, mfa, mdi, rfl⟩ := hm
  have hM := c_X8_hint l D cI cJ cB o kv kp kx kl kh ki kf kq ka kt kd kn hsz ln mwi mhi mwa mle mam mli mgo mtm mpa tx mlt mha mfi mqu mta mln mal mfa mdi wd hd nb wl st sl gl aq lb sh bw bh ps z htv
  refine ⟨_, ((pX xo vo h h2 ho ro ys yw (nI rd)) ++ (wt ++ (wb ++ (wd9 ++ (wr ++ (wsp ++ (wu ++ (wk ++ HW)))))))), _, [.ref kv, .ref kp, .int (nI hsz), .ref kx, .int (nI ln), .int (nI mwi), .int (nI mhi), .int (nI mwa), .int (nI mle), .ref kl, .ref kh, .ref ki, .int (gI mgo), .ref kf, .ref kq, .ref ka, .ref kt, .ref kd, .ref kn, .int (nI mam), .int (bI mtm), .int (nI mli)], ?_, ?_, hM, ?_⟩
  · exact hpm.trans (pmM _ _ _ _ _ _ _ _ _ _)
  · exact List.mem_cons_self
  · intro r w1 hpost
    obtain ⟨go2, K2, n2, T2, tm2, F2, L2, l2, fa2, qa2, hr9, rfl⟩ := hpost
    exact ⟨_, ⟨t9, wt, wb, wd9, wr, wsp, wu, wk, HW, (pmM _ _ _ _ _ _ _ _ _ _).symm, hT, hB, hB9, hR, hSp, hU, hK, hH⟩, ⟨kv, kp, kx, kl, kh, ki, kf, kq, ka, kt, kd, kn, mwi, mhi, mwa, mle, n2, l2, go2, tm2, mlt, mha, mfi, qa2, T2, L2, K2, fa2, F2, rfl⟩, hr9⟩
set_option maxHeartbeats 4000000 in
set_option maxRecDepth 100000 in
theorem m_worst (l : Launch) (D : va_G) {cI cJ cB : ClassId} {xo o rd ln vo h h2 ho ro ys yw zs hsz : Nat} {tx : Nat → Nat} {t : BT} {s1 s2 : SPT} {hg : Nat → BT} {wm ws : va_W} {mpa : Nat → Int32} {wd hd nb wl : Nat} {st sl : Int32} {gl aq lb : Option Nat} {sh bw bh ps : Nat → Nat} {ln9 sz9 : Nat} {tx9 : Nat → Nat} (z : Bool) (htv : TV wd hd nb wl sh bw bh ps gl aq lb) (h0 : PCS cI cJ cB xo rd ln9 tx9 t s1 s2 sz9 hg vo h h2 ho ro ys yw zs wm ws) (hm : PMo cI cJ cB o ln tx hsz mpa (vF wd hd nb wl st sl gl aq lb sh bw bh ps) wm) : STi l D cI cJ cB yX8_worst cX8_worst 3 5 o 8 [.int (bI z)] ws (fun r w9 => ∃ wm2, PCS cI cJ cB xo rd ln9 tx9 t s1 s2 sz9 hg vo h h2 ho ro ys yw zs wm2 w9 ∧ PMo cI cJ cB o ln tx hsz mpa (vF wd hd nb wl st sl gl aq lb sh bw bh ps) wm2 ∧ r = f_worst (kst wd hd nb wl sh bw bh none) (mvk wd hd nb wl sh bw bh none z) gl aq (pkey ps nb)) := by
  obtain ⟨t9, wt, wb, wd9, wr, wsp, wu, wk, HW, hpm, hT, hB, hB9, hR, hSp, hU, hK, hH⟩ := h0
  obtain ⟨kv, kp, kx, kl, kh, ki, kf, kq, ka, kt, kd, kn, mwi, mhi, mwa, mle, mam, mli, mgo, mtm, mlt, mha, mfi, mqu, mta, mln, mal, mfa, mdi, rfl⟩ := hm
  have hM := c_X8_worst l D cI cJ cB o kv kp kx kl kh ki kf kq ka kt kd kn hsz ln mwi mhi mwa mle mam mli mgo mtm mpa tx mlt mha mfi mqu mta mln mal mfa mdi wd hd nb wl st sl gl aq lb sh bw bh ps z htv
  refine ⟨_, ((pX xo vo h h2 ho ro ys yw (nI rd)) ++ (wt ++ (wb ++ (wd9 ++ (wr ++ (wsp ++ (wu ++ (wk ++ HW)))))))), _, [.ref kv, .ref kp, .int (nI hsz), .ref kx, .int (nI ln), .int (nI mwi), .int (nI mhi), .int (nI mwa), .int (nI mle), .ref kl, .ref kh, .ref ki, .int (gI mgo), .ref kf, .ref kq, .ref ka, .ref kt, .ref kd, .ref kn, .int (nI mam), .int (bI mtm), .int (nI mli)], ?_, ?_, hM, ?_⟩
  · exact hpm.trans (pmM _ _ _ _ _ _ _ _ _ _)
  · exact List.mem_cons_self
  · intro r w1 hpost
    obtain ⟨go2, K2, n2, T2, tm2, F2, L2, l2, fa2, qa2, hr9, rfl⟩ := hpost
    exact ⟨_, ⟨t9, wt, wb, wd9, wr, wsp, wu, wk, HW, (pmM _ _ _ _ _ _ _ _ _ _).symm, hT, hB, hB9, hR, hSp, hU, hK, hH⟩, ⟨kv, kp, kx, kl, kh, ki, kf, kq, ka, kt, kd, kn, mwi, mhi, mwa, mle, n2, l2, go2, tm2, mlt, mha, mfi, qa2, T2, L2, K2, fa2, F2, rfl⟩, hr9⟩
set_option maxHeartbeats 4000000 in
set_option maxRecDepth 100000 in
theorem m_mean (l : Launch) (D : va_G) {cI cJ cB : ClassId} {xo o rd ln vo h h2 ho ro ys yw zs hsz : Nat} {tx : Nat → Nat} {t : BT} {s1 s2 : SPT} {hg : Nat → BT} {wm ws : va_W} {mpa : Nat → Int32} {wd hd nb wl : Nat} {st sl : Int32} {gl aq lb : Option Nat} {sh bw bh ps : Nat → Nat} {ln9 sz9 : Nat} {tx9 : Nat → Nat} (z : Bool) (htv : TV wd hd nb wl sh bw bh ps gl aq lb) (h0 : PCS cI cJ cB xo rd ln9 tx9 t s1 s2 sz9 hg vo h h2 ho ro ys yw zs wm ws) (hm : PMo cI cJ cB o ln tx hsz mpa (vF wd hd nb wl st sl gl aq lb sh bw bh ps) wm) : STf l D cI cJ cB yX8_mean cX8_mean 4 5 o 8 [.int (bI z)] ws (fun r w9 => ∃ wm2, PCS cI cJ cB xo rd ln9 tx9 t s1 s2 sz9 hg vo h h2 ho ro ys yw zs wm2 w9 ∧ PMo cI cJ cB o ln tx hsz mpa (vF wd hd nb wl st sl gl aq lb sh bw bh ps) wm2 ∧ r = f_mean (kst wd hd nb wl sh bw bh none) (mvk wd hd nb wl sh bw bh none z) gl aq (pkey ps nb)) := by
  obtain ⟨t9, wt, wb, wd9, wr, wsp, wu, wk, HW, hpm, hT, hB, hB9, hR, hSp, hU, hK, hH⟩ := h0
  obtain ⟨kv, kp, kx, kl, kh, ki, kf, kq, ka, kt, kd, kn, mwi, mhi, mwa, mle, mam, mli, mgo, mtm, mlt, mha, mfi, mqu, mta, mln, mal, mfa, mdi, rfl⟩ := hm
  have hM := c_X8_mean l D cI cJ cB o kv kp kx kl kh ki kf kq ka kt kd kn hsz ln mwi mhi mwa mle mam mli mgo mtm mpa tx mlt mha mfi mqu mta mln mal mfa mdi wd hd nb wl st sl gl aq lb sh bw bh ps z htv
  refine ⟨_, ((pX xo vo h h2 ho ro ys yw (nI rd)) ++ (wt ++ (wb ++ (wd9 ++ (wr ++ (wsp ++ (wu ++ (wk ++ HW)))))))), _, [.ref kv, .ref kp, .int (nI hsz), .ref kx, .int (nI ln), .int (nI mwi), .int (nI mhi), .int (nI mwa), .int (nI mle), .ref kl, .ref kh, .ref ki, .int (gI mgo), .ref kf, .ref kq, .ref ka, .ref kt, .ref kd, .ref kn, .int (nI mam), .int (bI mtm), .int (nI mli)], ?_, ?_, hM, ?_⟩
  · exact hpm.trans (pmM _ _ _ _ _ _ _ _ _ _)
  · exact List.mem_cons_self
  · intro r w1 hpost
    obtain ⟨go2, K2, n2, T2, tm2, F2, L2, l2, fa2, qa2, hr9, rfl⟩ := hpost
    exact ⟨_, ⟨t9, wt, wb, wd9, wr, wsp, wu, wk, HW, (pmM _ _ _ _ _ _ _ _ _ _).symm, hT, hB, hB9, hR, hSp, hU, hK, hH⟩, ⟨kv, kp, kx, kl, kh, ki, kf, kq, ka, kt, kd, kn, mwi, mhi, mwa, mle, n2, l2, go2, tm2, mlt, mha, mfi, qa2, T2, L2, K2, fa2, F2, rfl⟩, hr9⟩
set_option maxHeartbeats 4000000 in
set_option maxRecDepth 100000 in
theorem m_places (l : Launch) (D : va_G) {cI cJ cB : ClassId} {xo o rd ln vo h h2 ho ro ys yw zs hsz : Nat} {tx : Nat → Nat} {t : BT} {s1 s2 : SPT} {hg : Nat → BT} {wm ws : va_W} {mpa : Nat → Int32} {wd hd nb wl : Nat} {st sl : Int32} {gl aq lb : Option Nat} {sh bw bh ps : Nat → Nat} {ln9 sz9 : Nat} {tx9 : Nat → Nat} (x : Int32) (htv : TV wd hd nb wl sh bw bh ps gl aq lb) (h0 : PCS cI cJ cB xo rd ln9 tx9 t s1 s2 sz9 hg vo h h2 ho ro ys yw zs wm ws) (hm : PMo cI cJ cB o ln tx hsz mpa (vF wd hd nb wl st sl gl aq lb sh bw bh ps) wm) : STi l D cI cJ cB yX8_places_ cX8_places_ 4 3 o 8 [.int x] ws (fun r w9 => ∃ wm2, PCS cI cJ cB xo rd ln9 tx9 t s1 s2 sz9 hg vo h h2 ho ro ys yw zs wm2 w9 ∧ PMo cI cJ cB o ln tx hsz mpa (vF wd hd nb wl st sl gl aq lb sh bw bh ps) wm2 ∧ r = f_placesx wd hd nb wl sh bw bh ps x) := by
  obtain ⟨t9, wt, wb, wd9, wr, wsp, wu, wk, HW, hpm, hT, hB, hB9, hR, hSp, hU, hK, hH⟩ := h0
  obtain ⟨kv, kp, kx, kl, kh, ki, kf, kq, ka, kt, kd, kn, mwi, mhi, mwa, mle, mam, mli, mgo, mtm, mlt, mha, mfi, mqu, mta, mln, mal, mfa, mdi, rfl⟩ := hm
  have hM := c_X8_places_ l D cI cJ cB o kv kp kx kl kh ki kf kq ka kt kd kn hsz ln mwi mhi mwa mle mam mli mgo mtm mpa tx mlt mha mfi mqu mta mln mal mfa mdi wd hd nb wl st sl gl aq lb sh bw bh ps x htv
  refine ⟨_, ((pX xo vo h h2 ho ro ys yw (nI rd)) ++ (wt ++ (wb ++ (wd9 ++ (wr ++ (wsp ++ (wu ++ (wk ++ HW)))))))), _, [.ref kv, .ref kp, .int (nI hsz), .ref kx, .int (nI ln), .int (nI mwi), .int (nI mhi), .int (nI mwa), .int (nI mle), .ref kl, .ref kh, .ref ki, .int (gI mgo), .ref kf, .ref kq, .ref ka, .ref kt, .ref kd, .ref kn, .int (nI mam), .int (bI mtm), .int (nI mli)], ?_, ?_, hM, ?_⟩
  · exact hpm.trans (pmM _ _ _ _ _ _ _ _ _ _)
  · exact List.mem_cons_self
  · intro r w1 hpost
    obtain ⟨go2, K2, n2, T2, tm2, F2, L2, l2, fa2, qa2, hr9, rfl⟩ := hpost
    exact ⟨_, ⟨t9, wt, wb, wd9, wr, wsp, wu, wk, HW, (pmM _ _ _ _ _ _ _ _ _ _).symm, hT, hB, hB9, hR, hSp, hU, hK, hH⟩, ⟨kv, kp, kx, kl, kh, ki, kf, kq, ka, kt, kd, kn, mwi, mhi, mwa, mle, n2, l2, go2, tm2, mlt, mha, mfi, qa2, T2, L2, K2, fa2, F2, rfl⟩, hr9⟩
set_option maxHeartbeats 4000000 in
set_option maxRecDepth 100000 in
theorem m_without (l : Launch) (D : va_G) {cI cJ cB : ClassId} {xo o rd ln vo h h2 ho ro ys yw zs hsz : Nat} {tx : Nat → Nat} {t : BT} {s1 s2 : SPT} {hg : Nat → BT} {wm ws : va_W} {mpa : Nat → Int32} {wd hd nb wl : Nat} {st sl : Int32} {gl aq lb : Option Nat} {sh bw bh ps : Nat → Nat} {ln9 sz9 : Nat} {tx9 : Nat → Nat} (x : Int32) (z : Bool) (htv : TV wd hd nb wl sh bw bh ps gl aq lb) (h0 : PCS cI cJ cB xo rd ln9 tx9 t s1 s2 sz9 hg vo h h2 ho ro ys yw zs wm ws) (hm : PMo cI cJ cB o ln tx hsz mpa (vF wd hd nb wl st sl gl aq lb sh bw bh ps) wm) : STi l D cI cJ cB yX8_without cX8_without 4 5 o 8 [.int x, .int (bI z)] ws (fun r w9 => ∃ wm2, PCS cI cJ cB xo rd ln9 tx9 t s1 s2 sz9 hg vo h h2 ho ro ys yw zs wm2 w9 ∧ PMo cI cJ cB o ln tx hsz mpa (vF wd hd nb wl st sl gl aq lb sh bw bh ps) wm2 ∧ r = f_without wd hd nb wl sh bw bh ps gl aq x z) := by
  obtain ⟨t9, wt, wb, wd9, wr, wsp, wu, wk, HW, hpm, hT, hB, hB9, hR, hSp, hU, hK, hH⟩ := h0
  obtain ⟨kv, kp, kx, kl, kh, ki, kf, kq, ka, kt, kd, kn, mwi, mhi, mwa, mle, mam, mli, mgo, mtm, mlt, mha, mfi, mqu, mta, mln, mal, mfa, mdi, rfl⟩ := hm
  have hM := c_X8_without l D cI cJ cB o kv kp kx kl kh ki kf kq ka kt kd kn hsz ln mwi mhi mwa mle mam mli mgo mtm mpa tx mlt mha mfi mqu mta mln mal mfa mdi wd hd nb wl st sl gl aq lb sh bw bh ps x z htv
  refine ⟨_, ((pX xo vo h h2 ho ro ys yw (nI rd)) ++ (wt ++ (wb ++ (wd9 ++ (wr ++ (wsp ++ (wu ++ (wk ++ HW)))))))), _, [.ref kv, .ref kp, .int (nI hsz), .ref kx, .int (nI ln), .int (nI mwi), .int (nI mhi), .int (nI mwa), .int (nI mle), .ref kl, .ref kh, .ref ki, .int (gI mgo), .ref kf, .ref kq, .ref ka, .ref kt, .ref kd, .ref kn, .int (nI mam), .int (bI mtm), .int (nI mli)], ?_, ?_, hM, ?_⟩
  · exact hpm.trans (pmM _ _ _ _ _ _ _ _ _ _)
  · exact List.mem_cons_self
  · intro r w1 hpost
    obtain ⟨go2, K2, n2, T2, tm2, F2, L2, l2, fa2, qa2, hr9, rfl⟩ := hpost
    exact ⟨_, ⟨t9, wt, wb, wd9, wr, wsp, wu, wk, HW, (pmM _ _ _ _ _ _ _ _ _ _).symm, hT, hB, hB9, hR, hSp, hU, hK, hH⟩, ⟨kv, kp, kx, kl, kh, ki, kf, kq, ka, kt, kd, kn, mwi, mhi, mwa, mle, n2, l2, go2, tm2, mlt, mha, mfi, qa2, T2, L2, K2, fa2, F2, rfl⟩, hr9⟩
set_option maxHeartbeats 4000000 in
set_option maxRecDepth 100000 in
theorem m_fingerprint (l : Launch) (D : va_G) {cI cJ cB : ClassId} {xo o rd ln vo h h2 ho ro ys yw zs hsz : Nat} {tx : Nat → Nat} {t : BT} {s1 s2 : SPT} {hg : Nat → BT} {wm ws : va_W} {mpa : Nat → Int32} {wd hd nb wl : Nat} {st sl : Int32} {gl aq lb : Option Nat} {sh bw bh ps : Nat → Nat} {ln9 sz9 : Nat} {tx9 : Nat → Nat} (htv : TV wd hd nb wl sh bw bh ps gl aq lb) (h0 : PCS cI cJ cB xo rd ln9 tx9 t s1 s2 sz9 hg vo h h2 ho ro ys yw zs wm ws) (hm : PMo cI cJ cB o ln tx hsz mpa (vF wd hd nb wl st sl gl aq lb sh bw bh ps) wm) : STl l D cI cJ cB yX8_fingerprint cX8_fingerprint 5 6 o 8 [] ws (fun r w9 => ∃ wm2, PCS cI cJ cB xo rd ln9 tx9 t s1 s2 sz9 hg vo h h2 ho ro ys yw zs wm2 w9 ∧ PMo cI cJ cB o ln tx hsz mpa (vF wd hd nb wl st sl gl aq lb sh bw bh ps) wm2 ∧ r = f_fp wd hd nb wl st sl gl aq sh bw bh ps) := by
  obtain ⟨t9, wt, wb, wd9, wr, wsp, wu, wk, HW, hpm, hT, hB, hB9, hR, hSp, hU, hK, hH⟩ := h0
  obtain ⟨kv, kp, kx, kl, kh, ki, kf, kq, ka, kt, kd, kn, mwi, mhi, mwa, mle, mam, mli, mgo, mtm, mlt, mha, mfi, mqu, mta, mln, mal, mfa, mdi, rfl⟩ := hm
  have hM := c_X8_fingerprint l D cI cJ cB o kv kp kx kl kh ki kf kq ka kt kd kn hsz ln mwi mhi mwa mle mam mli mgo mtm mpa tx mlt mha mfi mqu mta mln mal mfa mdi wd hd nb wl st sl gl aq lb sh bw bh ps htv
  refine ⟨_, ((pX xo vo h h2 ho ro ys yw (nI rd)) ++ (wt ++ (wb ++ (wd9 ++ (wr ++ (wsp ++ (wu ++ (wk ++ HW)))))))), _, [.ref kv, .ref kp, .int (nI hsz), .ref kx, .int (nI ln), .int (nI mwi), .int (nI mhi), .int (nI mwa), .int (nI mle), .ref kl, .ref kh, .ref ki, .int (gI mgo), .ref kf, .ref kq, .ref ka, .ref kt, .ref kd, .ref kn, .int (nI mam), .int (bI mtm), .int (nI mli)], ?_, ?_, hM, ?_⟩
  · exact hpm.trans (pmM _ _ _ _ _ _ _ _ _ _)
  · exact List.mem_cons_self
  · intro r w1 hpost
    obtain ⟨go2, K2, n2, T2, tm2, F2, L2, l2, fa2, qa2, hr9, rfl⟩ := hpost
    exact ⟨_, ⟨t9, wt, wb, wd9, wr, wsp, wu, wk, HW, (pmM _ _ _ _ _ _ _ _ _ _).symm, hT, hB, hB9, hR, hSp, hU, hK, hH⟩, ⟨kv, kp, kx, kl, kh, ki, kf, kq, ka, kt, kd, kn, mwi, mhi, mwa, mle, n2, l2, go2, tm2, mlt, mha, mfi, qa2, T2, L2, K2, fa2, F2, rfl⟩, hr9⟩
set_option maxHeartbeats 4000000 in
set_option maxRecDepth 100000 in
theorem m_step (l : Launch) (D : va_G) {cI cJ cB : ClassId} {xo o rd ln vo h h2 ho ro ys yw zs hsz : Nat} {tx : Nat → Nat} {t : BT} {s1 s2 : SPT} {hg : Nat → BT} {wm ws : va_W} {mpa : Nat → Int32} {wd hd nb wl : Nat} {st sl : Int32} {gl aq lb : Option Nat} {sh bw bh ps : Nat → Nat} {ln9 sz9 : Nat} {tx9 : Nat → Nat} {hh : Nat → Nat → Int32} (x : Int32) (y : Int32) (htv : TV wd hd nb wl sh bw bh ps gl aq lb) (hph : PH mpa hsz hh) (h0 : PCS cI cJ cB xo rd ln9 tx9 t s1 s2 sz9 hg vo h h2 ho ro ys yw zs wm ws) (hm : PMo cI cJ cB o ln tx hsz mpa (vF wd hd nb wl st sl gl aq lb sh bw bh ps) wm) : STi l D cI cJ cB yX8_step cX8_step 4 3 o 8 [.int x, .int y] ws (fun r w9 => ∃ wm2, PCS cI cJ cB xo rd ln9 tx9 t s1 s2 sz9 hg vo h h2 ho ro ys yw zs wm2 w9 ∧ ∃ st2 sl2 lb2 ps2 pa2 pm2 h2, PMo cI cJ cB o ln tx pm2 pa2 (vF wd hd nb wl st2 sl2 gl aq lb2 sh bw bh ps2) wm2 ∧ r = f_stepr wd hd nb wl sh bw bh ps x y ∧ MVD (f_stepm wd hd nb wl sh bw bh ps x y) st sl lb ps st2 sl2 lb2 ps2 ∧ HIS (f_stepm wd hd nb wl sh bw bh ps x y).isSome (vF wd hd nb wl st sl gl aq lb sh bw bh ps) hsz hh pa2 pm2 h2) := by
  obtain ⟨t9, wt, wb, wd9, wr, wsp, wu, wk, HW, hpm, hT, hB, hB9, hR, hSp, hU, hK, hH⟩ := h0
  obtain ⟨kv, kp, kx, kl, kh, ki, kf, kq, ka, kt, kd, kn, mwi, mhi, mwa, mle, mam, mli, mgo, mtm, mlt, mha, mfi, mqu, mta, mln, mal, mfa, mdi, rfl⟩ := hm
  have hM := c_X8_step l D cI cJ cB o kv kp kx kl kh ki kf kq ka kt kd kn hsz ln mwi mhi mwa mle mam mli mgo mtm mpa tx mlt mha mfi mqu mta mln mal mfa mdi wd hd nb wl st sl gl aq lb sh bw bh ps hh x y htv hph
  refine ⟨_, ((pX xo vo h h2 ho ro ys yw (nI rd)) ++ (wt ++ (wb ++ (wd9 ++ (wr ++ (wsp ++ (wu ++ (wk ++ HW)))))))), _, [.ref kv, .ref kp, .int (nI hsz), .ref kx, .int (nI ln), .int (nI mwi), .int (nI mhi), .int (nI mwa), .int (nI mle), .ref kl, .ref kh, .ref ki, .int (gI mgo), .ref kf, .ref kq, .ref ka, .ref kt, .ref kd, .ref kn, .int (nI mam), .int (bI mtm), .int (nI mli)], ?_, ?_, hM, ?_⟩
  · exact hpm.trans (pmM _ _ _ _ _ _ _ _ _ _)
  · exact List.mem_cons_self
  · intro r w1 hpost
    obtain ⟨go2, fa2, qa2, st2, sl2, lb2, ps2, pa2, pm2, h2, hr9, rfl, hf9⟩ := hpost
    exact ⟨_, ⟨t9, wt, wb, wd9, wr, wsp, wu, wk, HW, (pmM _ _ _ _ _ _ _ _ _ _).symm, hT, hB, hB9, hR, hSp, hU, hK, hH⟩, st2, sl2, lb2, ps2, pa2, pm2, h2, ⟨kv, kp, kx, kl, kh, ki, kf, kq, ka, kt, kd, kn, mwi, mhi, mwa, mle, mam, mli, go2, mtm, mlt, mha, mfi, qa2, mta, mln, mal, fa2, mdi, rfl⟩, hr9, hf9.1, hf9.2⟩
set_option maxHeartbeats 4000000 in
set_option maxRecDepth 100000 in
theorem m_slide (l : Launch) (D : va_G) {cI cJ cB : ClassId} {xo o rd ln vo h h2 ho ro ys yw zs hsz : Nat} {tx : Nat → Nat} {t : BT} {s1 s2 : SPT} {hg : Nat → BT} {wm ws : va_W} {mpa : Nat → Int32} {wd hd nb wl : Nat} {st sl : Int32} {gl aq lb : Option Nat} {sh bw bh ps : Nat → Nat} {ln9 sz9 : Nat} {tx9 : Nat → Nat} {hh : Nat → Nat → Int32} (x : Int32) (y : Int32) (htv : TV wd hd nb wl sh bw bh ps gl aq lb) (hph : PH mpa hsz hh) (h0 : PCS cI cJ cB xo rd ln9 tx9 t s1 s2 sz9 hg vo h h2 ho ro ys yw zs wm ws) (hm : PMo cI cJ cB o ln tx hsz mpa (vF wd hd nb wl st sl gl aq lb sh bw bh ps) wm) : STi l D cI cJ cB yX8_slide cX8_slide 3 3 o 8 [.int x, .int y] ws (fun r w9 => ∃ wm2, PCS cI cJ cB xo rd ln9 tx9 t s1 s2 sz9 hg vo h h2 ho ro ys yw zs wm2 w9 ∧ ∃ st2 sl2 lb2 ps2 pa2 pm2 h2, PMo cI cJ cB o ln tx pm2 pa2 (vF wd hd nb wl st2 sl2 gl aq lb2 sh bw bh ps2) wm2 ∧ r = f_slider wd hd nb wl sh bw bh ps x y ∧ MVD (f_slidem wd hd nb wl sh bw bh ps x y) st sl lb ps st2 sl2 lb2 ps2 ∧ HIS (f_slidem wd hd nb wl sh bw bh ps x y).isSome (vF wd hd nb wl st sl gl aq lb sh bw bh ps) hsz hh pa2 pm2 h2) := by
  obtain ⟨t9, wt, wb, wd9, wr, wsp, wu, wk, HW, hpm, hT, hB, hB9, hR, hSp, hU, hK, hH⟩ := h0
  obtain ⟨kv, kp, kx, kl, kh, ki, kf, kq, ka, kt, kd, kn, mwi, mhi, mwa, mle, mam, mli, mgo, mtm, mlt, mha, mfi, mqu, mta, mln, mal, mfa, mdi, rfl⟩ := hm
  have hM := c_X8_slide l D cI cJ cB o kv kp kx kl kh ki kf kq ka kt kd kn hsz ln mwi mhi mwa mle mam mli mgo mtm mpa tx mlt mha mfi mqu mta mln mal mfa mdi wd hd nb wl st sl gl aq lb sh bw bh ps hh x y htv hph
  refine ⟨_, ((pX xo vo h h2 ho ro ys yw (nI rd)) ++ (wt ++ (wb ++ (wd9 ++ (wr ++ (wsp ++ (wu ++ (wk ++ HW)))))))), _, [.ref kv, .ref kp, .int (nI hsz), .ref kx, .int (nI ln), .int (nI mwi), .int (nI mhi), .int (nI mwa), .int (nI mle), .ref kl, .ref kh, .ref ki, .int (gI mgo), .ref kf, .ref kq, .ref ka, .ref kt, .ref kd, .ref kn, .int (nI mam), .int (bI mtm), .int (nI mli)], ?_, ?_, hM, ?_⟩
  · exact hpm.trans (pmM _ _ _ _ _ _ _ _ _ _)
  · exact List.mem_cons_self
  · intro r w1 hpost
    obtain ⟨go2, fa2, qa2, st2, sl2, lb2, ps2, pa2, pm2, h2, hr9, rfl, hf9⟩ := hpost
    exact ⟨_, ⟨t9, wt, wb, wd9, wr, wsp, wu, wk, HW, (pmM _ _ _ _ _ _ _ _ _ _).symm, hT, hB, hB9, hR, hSp, hU, hK, hH⟩, st2, sl2, lb2, ps2, pa2, pm2, h2, ⟨kv, kp, kx, kl, kh, ki, kf, kq, ka, kt, kd, kn, mwi, mhi, mwa, mle, mam, mli, go2, mtm, mlt, mha, mfi, qa2, mta, mln, mal, fa2, mdi, rfl⟩, hr9, hf9.1, hf9.2⟩
set_option maxHeartbeats 4000000 in
set_option maxRecDepth 100000 in
theorem m_follow (l : Launch) (D : va_G) {cI cJ cB : ClassId} {xo o rd ln vo h h2 ho ro ys yw zs hsz : Nat} {tx : Nat → Nat} {t : BT} {s1 s2 : SPT} {hg : Nat → BT} {wm ws : va_W} {mpa : Nat → Int32} {wd hd nb wl : Nat} {st sl : Int32} {gl aq lb : Option Nat} {sh bw bh ps : Nat → Nat} {ln9 sz9 : Nat} {tx9 : Nat → Nat} {hh : Nat → Nat → Int32} (z : Bool) (htv : TV wd hd nb wl sh bw bh ps gl aq lb) (hph : PH mpa hsz hh) (h0 : PCS cI cJ cB xo rd ln9 tx9 t s1 s2 sz9 hg vo h h2 ho ro ys yw zs wm ws) (hm : PMo cI cJ cB o ln tx hsz mpa (vF wd hd nb wl st sl gl aq lb sh bw bh ps) wm) : STi l D cI cJ cB yX8_follow cX8_follow 4 6 o 8 [.int (bI z)] ws (fun r w9 => ∃ wm2, PCS cI cJ cB xo rd ln9 tx9 t s1 s2 sz9 hg vo h h2 ho ro ys yw zs wm2 w9 ∧ ∃ st2 sl2 lb2 ps2 pa2 pm2 h2, PMo cI cJ cB o ln tx pm2 pa2 (vF wd hd nb wl st2 sl2 gl aq lb2 sh bw bh ps2) wm2 ∧ r = f_folr wd hd nb wl sh bw bh ps gl aq z ∧ MVD (f_folm wd hd nb wl sh bw bh ps gl aq z) st sl lb ps st2 sl2 lb2 ps2 ∧ HIS (f_folm wd hd nb wl sh bw bh ps gl aq z).isSome (vF wd hd nb wl st sl gl aq lb sh bw bh ps) hsz hh pa2 pm2 h2) := by
  obtain ⟨t9, wt, wb, wd9, wr, wsp, wu, wk, HW, hpm, hT, hB, hB9, hR, hSp, hU, hK, hH⟩ := h0
  obtain ⟨kv, kp, kx, kl, kh, ki, kf, kq, ka, kt, kd, kn, mwi, mhi, mwa, mle, mam, mli, mgo, mtm, mlt, mha, mfi, mqu, mta, mln, mal, mfa, mdi, rfl⟩ := hm
  have hM := c_X8_follow l D cI cJ cB o kv kp kx kl kh ki kf kq ka kt kd kn hsz ln mwi mhi mwa mle mam mli mgo mtm mpa tx mlt mha mfi mqu mta mln mal mfa mdi wd hd nb wl st sl gl aq lb sh bw bh ps hh z htv hph
  refine ⟨_, ((pX xo vo h h2 ho ro ys yw (nI rd)) ++ (wt ++ (wb ++ (wd9 ++ (wr ++ (wsp ++ (wu ++ (wk ++ HW)))))))), _, [.ref kv, .ref kp, .int (nI hsz), .ref kx, .int (nI ln), .int (nI mwi), .int (nI mhi), .int (nI mwa), .int (nI mle), .ref kl, .ref kh, .ref ki, .int (gI mgo), .ref kf, .ref kq, .ref ka, .ref kt, .ref kd, .ref kn, .int (nI mam), .int (bI mtm), .int (nI mli)], ?_, ?_, hM, ?_⟩
  · exact hpm.trans (pmM _ _ _ _ _ _ _ _ _ _)
  · exact List.mem_cons_self
  · intro r w1 hpost
    obtain ⟨go2, K2, n2, T2, tm2, F2, L2, l2, fa2, qa2, st2, sl2, lb2, ps2, pa2, pm2, h2, hr9, rfl, hf9⟩ := hpost
    exact ⟨_, ⟨t9, wt, wb, wd9, wr, wsp, wu, wk, HW, (pmM _ _ _ _ _ _ _ _ _ _).symm, hT, hB, hB9, hR, hSp, hU, hK, hH⟩, st2, sl2, lb2, ps2, pa2, pm2, h2, ⟨kv, kp, kx, kl, kh, ki, kf, kq, ka, kt, kd, kn, mwi, mhi, mwa, mle, n2, l2, go2, tm2, mlt, mha, mfi, qa2, T2, L2, K2, fa2, F2, rfl⟩, hr9, hf9.1, hf9.2⟩
set_option maxHeartbeats 4000000 in
set_option maxRecDepth 100000 in
theorem m_hardest (l : Launch) (D : va_G) {cI cJ cB : ClassId} {xo o rd ln vo h h2 ho ro ys yw zs hsz : Nat} {tx : Nat → Nat} {t : BT} {s1 s2 : SPT} {hg : Nat → BT} {wm ws : va_W} {mpa : Nat → Int32} {wd hd nb wl : Nat} {st sl : Int32} {gl aq lb : Option Nat} {sh bw bh ps : Nat → Nat} {ln9 sz9 : Nat} {tx9 : Nat → Nat} {hh : Nat → Nat → Int32} (z : Bool) (htv : TV wd hd nb wl sh bw bh ps gl aq lb) (hph : PH mpa hsz hh) (h0 : PCS cI cJ cB xo rd ln9 tx9 t s1 s2 sz9 hg vo h h2 ho ro ys yw zs wm ws) (hm : PMo cI cJ cB o ln tx hsz mpa (vF wd hd nb wl st sl gl aq lb sh bw bh ps) wm) : STi l D cI cJ cB yX8_hardest cX8_hardest 5 5 o 8 [.int (bI z)] ws (fun r w9 => ∃ wm2, PCS cI cJ cB xo rd ln9 tx9 t s1 s2 sz9 hg vo h h2 ho ro ys yw zs wm2 w9 ∧ ∃ st2 sl2 lb2 ps2 pa2 pm2 h2, PMo cI cJ cB o ln tx pm2 pa2 (vF wd hd nb wl st2 sl2 gl aq lb2 sh bw bh ps2) wm2 ∧ r = f_hardr wd hd nb wl sh bw bh ps gl aq z ∧ HRD nb (f_hardx wd hd nb wl sh bw bh ps gl aq z) st sl lb ps st2 sl2 lb2 ps2 ∧ HIS (f_hardx wd hd nb wl sh bw bh ps gl aq z).isSome (vF wd hd nb wl st sl gl aq lb sh bw bh ps) hsz hh pa2 pm2 h2) := by
  obtain ⟨t9, wt, wb, wd9, wr, wsp, wu, wk, HW, hpm, hT, hB, hB9, hR, hSp, hU, hK, hH⟩ := h0
  obtain ⟨kv, kp, kx, kl, kh, ki, kf, kq, ka, kt, kd, kn, mwi, mhi, mwa, mle, mam, mli, mgo, mtm, mlt, mha, mfi, mqu, mta, mln, mal, mfa, mdi, rfl⟩ := hm
  have hM := c_X8_hardest l D cI cJ cB o kv kp kx kl kh ki kf kq ka kt kd kn hsz ln mwi mhi mwa mle mam mli mgo mtm mpa tx mlt mha mfi mqu mta mln mal mfa mdi wd hd nb wl st sl gl aq lb sh bw bh ps hh z htv hph
  refine ⟨_, ((pX xo vo h h2 ho ro ys yw (nI rd)) ++ (wt ++ (wb ++ (wd9 ++ (wr ++ (wsp ++ (wu ++ (wk ++ HW)))))))), _, [.ref kv, .ref kp, .int (nI hsz), .ref kx, .int (nI ln), .int (nI mwi), .int (nI mhi), .int (nI mwa), .int (nI mle), .ref kl, .ref kh, .ref ki, .int (gI mgo), .ref kf, .ref kq, .ref ka, .ref kt, .ref kd, .ref kn, .int (nI mam), .int (bI mtm), .int (nI mli)], ?_, ?_, hM, ?_⟩
  · exact hpm.trans (pmM _ _ _ _ _ _ _ _ _ _)
  · exact List.mem_cons_self
  · intro r w1 hpost
    obtain ⟨go2, K2, n2, T2, tm2, F2, L2, l2, fa2, qa2, st2, sl2, lb2, ps2, pa2, pm2, h2, hr9, rfl, hf9⟩ := hpost
    exact ⟨_, ⟨t9, wt, wb, wd9, wr, wsp, wu, wk, HW, (pmM _ _ _ _ _ _ _ _ _ _).symm, hT, hB, hB9, hR, hSp, hU, hK, hH⟩, st2, sl2, lb2, ps2, pa2, pm2, h2, ⟨kv, kp, kx, kl, kh, ki, kf, kq, ka, kt, kd, kn, mwi, mhi, mwa, mle, n2, l2, go2, tm2, mlt, mha, mfi, qa2, T2, L2, K2, fa2, F2, rfl⟩, hr9, hf9.1, hf9.2⟩
set_option maxHeartbeats 4000000 in
set_option maxRecDepth 100000 in
theorem m_goal (l : Launch) (D : va_G) {cI cJ cB : ClassId} {xo o rd ln vo h h2 ho ro ys yw zs hsz : Nat} {tx : Nat → Nat} {t : BT} {s1 s2 : SPT} {hg : Nat → BT} {wm ws : va_W} {mpa : Nat → Int32} {wd hd nb wl : Nat} {st sl : Int32} {gl aq lb : Option Nat} {sh bw bh ps : Nat → Nat} {ln9 sz9 : Nat} {tx9 : Nat → Nat} {hh : Nat → Nat → Int32} (x : Int32) (y : Int32) (htv : TV wd hd nb wl sh bw bh ps gl aq lb) (hph : PH mpa hsz hh) (h0 : PCS cI cJ cB xo rd ln9 tx9 t s1 s2 sz9 hg vo h h2 ho ro ys yw zs wm ws) (hm : PMo cI cJ cB o ln tx hsz mpa (vF wd hd nb wl st sl gl aq lb sh bw bh ps) wm) : STi l D cI cJ cB yX8_goal cX8_goal 3 2 o 8 [.int x, .int y] ws (fun r w9 => ∃ wm2, PCS cI cJ cB xo rd ln9 tx9 t s1 s2 sz9 hg vo h h2 ho ro ys yw zs wm2 w9 ∧ ∃ gl2 aq2 pa2 pm2 h2, PMo cI cJ cB o ln tx pm2 pa2 (vF wd hd nb wl st sl gl2 aq2 lb sh bw bh ps) wm2 ∧ r = f_goalr wd hd nb bw bh ps x y ∧ GLD (f_goalm wd hd nb bw bh x y) gl aq gl2 aq2 ∧ HIS (f_goalm wd hd nb bw bh x y).isSome (vF wd hd nb wl st sl gl aq lb sh bw bh ps) hsz hh pa2 pm2 h2) := by
  obtain ⟨t9, wt, wb, wd9, wr, wsp, wu, wk, HW, hpm, hT, hB, hB9, hR, hSp, hU, hK, hH⟩ := h0
  obtain ⟨kv, kp, kx, kl, kh, ki, kf, kq, ka, kt, kd, kn, mwi, mhi, mwa, mle, mam, mli, mgo, mtm, mlt, mha, mfi, mqu, mta, mln, mal, mfa, mdi, rfl⟩ := hm
  have hM := c_X8_goal l D cI cJ cB o kv kp kx kl kh ki kf kq ka kt kd kn hsz ln mwi mhi mwa mle mam mli mgo mtm mpa tx mlt mha mfi mqu mta mln mal mfa mdi wd hd nb wl st sl gl aq lb sh bw bh ps hh x y htv hph
  refine ⟨_, ((pX xo vo h h2 ho ro ys yw (nI rd)) ++ (wt ++ (wb ++ (wd9 ++ (wr ++ (wsp ++ (wu ++ (wk ++ HW)))))))), _, [.ref kv, .ref kp, .int (nI hsz), .ref kx, .int (nI ln), .int (nI mwi), .int (nI mhi), .int (nI mwa), .int (nI mle), .ref kl, .ref kh, .ref ki, .int (gI mgo), .ref kf, .ref kq, .ref ka, .ref kt, .ref kd, .ref kn, .int (nI mam), .int (bI mtm), .int (nI mli)], ?_, ?_, hM, ?_⟩
  · exact hpm.trans (pmM _ _ _ _ _ _ _ _ _ _)
  · exact List.mem_cons_self
  · intro r w1 hpost
    obtain ⟨gl2, aq2, pa2, pm2, h2, hr9, rfl, hf9⟩ := hpost
    exact ⟨_, ⟨t9, wt, wb, wd9, wr, wsp, wu, wk, HW, (pmM _ _ _ _ _ _ _ _ _ _).symm, hT, hB, hB9, hR, hSp, hU, hK, hH⟩, gl2, aq2, pa2, pm2, h2, ⟨kv, kp, kx, kl, kh, ki, kf, kq, ka, kt, kd, kn, mwi, mhi, mwa, mle, mam, mli, mgo, mtm, mlt, mha, mfi, mqu, mta, mln, mal, mfa, mdi, rfl⟩, hr9, hf9.1, hf9.2⟩
set_option maxHeartbeats 4000000 in
set_option maxRecDepth 100000 in
theorem m_undo (l : Launch) (D : va_G) {cI cJ cB : ClassId} {xo o rd ln vo h h2 ho ro ys yw zs hsz : Nat} {tx : Nat → Nat} {t : BT} {s1 s2 : SPT} {hg : Nat → BT} {wm ws : va_W} {mpa : Nat → Int32} {ln9 sz9 : Nat} {tx9 : Nat → Nat} {hh : Nat → Nat → Int32} {mvr : Nat → Int32} (hph : PH mpa hsz hh) (h0 : PCS cI cJ cB xo rd ln9 tx9 t s1 s2 sz9 hg vo h h2 ho ro ys yw zs wm ws) (hm : PMo cI cJ cB o ln tx hsz mpa mvr wm) : STi l D cI cJ cB yX8_undo cX8_undo 2 0 o 8 [] ws (fun r w9 => ∃ wm2, PCS cI cJ cB xo rd ln9 tx9 t s1 s2 sz9 hg vo h h2 ho ro ys yw zs wm2 w9 ∧ ∃ v2, PMo cI cJ cB o ln tx (hsz - 1) mpa v2 wm2 ∧ r = (if hsz = 0 then -9 else nI (hsz - 1)) ∧ (hsz = 0 → v2 = mvr) ∧ (hsz ≠ 0 → ∀ j, j < 44 → v2 j = hh (hsz - 1) j)) := by
  obtain ⟨t9, wt, wb, wd9, wr, wsp, wu, wk, HW, hpm, hT, hB, hB9, hR, hSp, hU, hK, hH⟩ := h0
  obtain ⟨kv, kp, kx, kl, kh, ki, kf, kq, ka, kt, kd, kn, mwi, mhi, mwa, mle, mam, mli, mgo, mtm, mlt, mha, mfi, mqu, mta, mln, mal, mfa, mdi, rfl⟩ := hm
  have hM := c_X8_undo l D cI cJ cB o kv kp kx kl kh ki kf kq ka kt kd kn hsz ln mwi mhi mwa mle mam mli mgo mtm mpa tx mlt mha mfi mqu mta mln mal mfa mdi mvr hh hph
  refine ⟨_, ((pX xo vo h h2 ho ro ys yw (nI rd)) ++ (wt ++ (wb ++ (wd9 ++ (wr ++ (wsp ++ (wu ++ (wk ++ HW)))))))), _, [.ref kv, .ref kp, .int (nI hsz), .ref kx, .int (nI ln), .int (nI mwi), .int (nI mhi), .int (nI mwa), .int (nI mle), .ref kl, .ref kh, .ref ki, .int (gI mgo), .ref kf, .ref kq, .ref ka, .ref kt, .ref kd, .ref kn, .int (nI mam), .int (bI mtm), .int (nI mli)], ?_, ?_, hM, ?_⟩
  · exact hpm.trans (pmM _ _ _ _ _ _ _ _ _ _)
  · exact List.mem_cons_self
  · intro r w1 hpost
    obtain ⟨v2, hr9, rfl, hf9⟩ := hpost
    exact ⟨_, ⟨t9, wt, wb, wd9, wr, wsp, wu, wk, HW, (pmM _ _ _ _ _ _ _ _ _ _).symm, hT, hB, hB9, hR, hSp, hU, hK, hH⟩, v2, ⟨kv, kp, kx, kl, kh, ki, kf, kq, ka, kt, kd, kn, mwi, mhi, mwa, mle, mam, mli, mgo, mtm, mlt, mha, mfi, mqu, mta, mln, mal, mfa, mdi, rfl⟩, hr9, hf9.1, hf9.2⟩
set_option maxHeartbeats 4000000 in
set_option maxRecDepth 100000 in
theorem m_read (l : Launch) (D : va_G) {cI cJ cB : ClassId} {xo o rd ln vo h h2 ho ro ys yw zs hsz : Nat} {tx : Nat → Nat} {t : BT} {s1 s2 : SPT} {hg : Nat → BT} {wm ws : va_W} {mpa : Nat → Int32} {wd hd nb wl : Nat} {st sl : Int32} {gl aq lb : Option Nat} {sh bw bh ps : Nat → Nat} {ln9 sz9 : Nat} {tx9 : Nat → Nat} {hh : Nat → Nat → Int32} (hty : ln ≤ 40) (htx : ∀ i, tx i < 2 ^ 20) (hph : PH mpa hsz hh) (h0 : PCS cI cJ cB xo rd ln9 tx9 t s1 s2 sz9 hg vo h h2 ho ro ys yw zs wm ws) (hm : PMo cI cJ cB o ln tx hsz mpa (vF wd hd nb wl st sl gl aq lb sh bw bh ps) wm) : STi l D cI cJ cB yX8_read cX8_read 3 3 o 8 [] ws (fun r w9 => ∃ wm2, PCS cI cJ cB xo rd ln9 tx9 t s1 s2 sz9 hg vo h h2 ho ro ys yw zs wm2 w9 ∧ ∃ (wd2 hd2 nb2 wl2 : Nat) (st2 sl2 : Int32) (gl2 aq2 lb2 : Option Nat) (sh2 bw2 bh2 ps2 : Nat → Nat) (pa2 : Nat → Int32) (pm2 ty2 : Nat), PMo cI cJ cB o ty2 tx pm2 pa2 (vF wd2 hd2 nb2 wl2 st2 sl2 gl2 aq2 lb2 sh2 bw2 bh2 ps2) wm2 ∧ (((∃ e, RDW tx ln e ∧ e < 2 ^ 20 ∧ r = -100 - nI e) ∧ (wd2 = wd ∧ hd2 = hd ∧ nb2 = nb ∧ wl2 = wl ∧ st2 = st ∧ sl2 = sl ∧ gl2 = gl ∧ aq2 = aq ∧ lb2 = lb ∧ sh2 = sh ∧ bw2 = bw ∧ bh2 = bh ∧ ps2 = ps) ∧ pa2 = mpa ∧ pm2 = hsz ∧ ty2 = ln) ∨ (∃ cl, RDR tx ln wd2 hd2 cl nb2 ∧ r = nI nb2 ∧ wl2 = bset cl 1 (wd2 * hd2) ∧ SHP wd2 hd2 (fun b => bset cl (2 + b) (wd2 * hd2)) nb2 sh2 bw2 bh2 ps2 ∧ (st2 = 0 ∧ sl2 = 0 ∧ gl2 = none ∧ aq2 = none ∧ lb2 = none) ∧ PH pa2 (hcnt hsz) (hpush hh hsz (vF wd hd nb wl st sl gl aq lb sh bw bh ps)) ∧ pm2 = hcnt hsz ∧ ty2 = 0))) := by
  obtain ⟨t9, wt, wb, wd9, wr, wsp, wu, wk, HW, hpm, hT, hB, hB9, hR, hSp, hU, hK, hH⟩ := h0
  obtain ⟨kv, kp, kx, kl, kh, ki, kf, kq, ka, kt, kd, kn, mwi, mhi, mwa, mle, mam, mli, mgo, mtm, mlt, mha, mfi, mqu, mta, mln, mal, mfa, mdi, rfl⟩ := hm
  have hM := c_X8_read l D cI cJ cB o kv kp kx kl kh ki kf kq ka kt kd kn hsz ln mwi mhi mwa mle mam mli mgo mtm mpa tx mlt mha mfi mqu mta mln mal mfa mdi wd hd nb wl st sl gl aq lb sh bw bh ps hh hty htx hph
  refine ⟨_, ((pX xo vo h h2 ho ro ys yw (nI rd)) ++ (wt ++ (wb ++ (wd9 ++ (wr ++ (wsp ++ (wu ++ (wk ++ HW)))))))), _, [.ref kv, .ref kp, .int (nI hsz), .ref kx, .int (nI ln), .int (nI mwi), .int (nI mhi), .int (nI mwa), .int (nI mle), .ref kl, .ref kh, .ref ki, .int (gI mgo), .ref kf, .ref kq, .ref ka, .ref kt, .ref kd, .ref kn, .int (nI mam), .int (bI mtm), .int (nI mli)], ?_, ?_, hM, ?_⟩
  · exact hpm.trans (pmM _ _ _ _ _ _ _ _ _ _)
  · exact List.mem_cons_self
  · intro r w1 hpost
    obtain ⟨wi2, hi2, wa2, le2, lt9, ha2, fi2, wd2, hd2, nb2, wl2, st2, sl2, gl2, aq2, lb2, sh2, bw2, bh2, ps2, pa2, pm2, ty2, rfl, hf9⟩ := hpost
    exact ⟨_, ⟨t9, wt, wb, wd9, wr, wsp, wu, wk, HW, (pmM _ _ _ _ _ _ _ _ _ _).symm, hT, hB, hB9, hR, hSp, hU, hK, hH⟩, wd2, hd2, nb2, wl2, st2, sl2, gl2, aq2, lb2, sh2, bw2, bh2, ps2, pa2, pm2, ty2, ⟨kv, kp, kx, kl, kh, ki, kf, kq, ka, kt, kd, kn, wi2, hi2, wa2, le2, mam, mli, mgo, mtm, lt9, ha2, fi2, mqu, mta, mln, mal, mfa, mdi, rfl⟩, hf9⟩
