/-! ===== p24: the object as one predicate (written by ygen.py) ===== -/
section PJs
variable {rd : Nat} {t t2 b : BT} {s1 s2 s3 : SPT} {L L2 : List BT}
def PJ (rd : Nat) (t : BT) (s1 s2 : SPT) (L : List BT) : Prop := (rd ≤ 1 ∧ tse t = rd) ∧ bdS s1 ∧ bdS s2 ∧ ∃ G : GT, BOK rd G t ∧ SOK rd G s1 ∧ WOK rd G s2 ∧ ∀ b, b ∈ L → BOK rd G b ∧ tse b = rd
theorem PJ.tv (h : PJ rd t s1 s2 L) : TVt t := by
  obtain ⟨-, -, -, G, hb, -⟩ := h
  exact hb.2.2.1
theorem PJ.se (h : PJ rd t s1 s2 L) : tse t < 2 ^ 20 := by
  obtain ⟨⟨h1, h2⟩, -⟩ := h
  omega
theorem PJ.b1 (h : PJ rd t s1 s2 L) : bdS s1 := h.2.1
theorem PJ.b2 (h : PJ rd t s1 s2 L) : bdS s2 := h.2.2.1
theorem PJ.cv (h : PJ rd t s1 s2 L) : CVF (frt t) none (keyx (tps t) none (tnb t)) (tse t) s1 := by
  obtain ⟨-, -, -, G, hb, hs, -⟩ := h
  exact hs.use hb
theorem PJ.cw (h : PJ rd t s1 s2 L) : ∀ b, b < tnb t → CVF (frt t) (some b) (keyx (tps t) (some b) (tnb t)) (tse t) s2 := by
  obtain ⟨-, -, -, G, hb, -, hw, -⟩ := h
  exact hw.use hb
theorem PJ.space (h : PJ rd t s1 s2 L) (hs : s3 = s1 ∨ SVF (frt t) none (keyx (tps t) none (tnb t)) (tse t) s3) (hb3 : bdS s3) : PJ rd t s3 s2 L := by
  obtain ⟨a1, -, a3, G, hb, hk, hr⟩ := h
  exact ⟨a1, hb3, a3, G, hb, hk.post hb hs, hr⟩
theorem PJ.trial (h : PJ rd t s1 s2 L) (hs : s3 = s2 ∨ ∃ b, b < tnb t ∧ SVF (frt t) (some b) (keyx (tps t) (some b) (tnb t)) (tse t) s3) (hb3 : bdS s3) : PJ rd t s1 s3 L := by
  obtain ⟨a1, a2, -, G, hb, hk, hw, hr⟩ := h
  exact ⟨a1, a2, hb3, G, hb, hk, hw.post hb hs, hr⟩
theorem PJ.push (h : PJ rd t s1 s2 L) (h1 : tse t2 = tse t) (h2 : frt t2 = frt t) (h3 : TVt t2) (h4 : Rch (kstF (frt t) none) (kyt t) (kyt t2)) : PJ rd t2 s1 s2 (t :: L) := by
  obtain ⟨a1, a2, a3, G, hb, hk, hw, hr⟩ := h
  refine ⟨⟨a1.1, h1.trans a1.2⟩, a2, a3, G, hb.upd h1 h2 h3 h4, hk, hw, fun b hm => ?_⟩
  rcases List.mem_cons.mp hm with e | hm
  · rw [e]; exact ⟨hb, a1.2⟩
  · exact hr b hm
theorem PJ.pop (h : PJ rd t s1 s2 (b :: L)) : PJ rd b s1 s2 L := by
  obtain ⟨a1, a2, a3, G, hb, hk, hw, hr⟩ := h
  exact ⟨⟨a1.1, (hr b List.mem_cons_self).2⟩, a2, a3, G, (hr b List.mem_cons_self).1, hk, hw, fun c hm => hr c (List.mem_cons_of_mem _ hm)⟩
theorem PJ.nil (h : PJ rd t s1 s2 L) : PJ rd t s1 s2 [] := by
  obtain ⟨a1, a2, a3, G, hb, hk, hw, hr⟩ := h
  exact ⟨a1, a2, a3, G, hb, hk, hw, fun c hm => by cases hm⟩
def HL (sz : Nat) (hg : Nat → BT) (L : List BT) : Prop := sz ≤ 10 ∧ L.length ≤ sz ∧ ∀ (i : Nat) (b : BT), L[i]? = some b → hg (sz - 1 - i) = b
theorem HL.push {sz : Nat} {hg : Nat → BT} (h : HL sz hg L) (hL : L.length ≤ 9) : HL (hcnt sz) (hpu hg sz t) (t :: L) := by
  obtain ⟨h1, h2, h3⟩ := h
  unfold hcnt hpu
  by_cases e : sz = 10
  · subst e
    simp only [if_pos]
    refine ⟨by omega, by rw [List.length_cons]; omega, fun i b hb => ?_⟩
    cases i with
    | zero => cases hb; rfl
    | succ j =>
      have hb : L[j]? = some b := hb
      have hj : j < L.length := (List.getElem?_eq_some_iff.mp hb).1
      show (if 10 - 1 - (j + 1) < 9 then hg (10 - 1 - (j + 1) + 1) else t) = b
      rw [if_pos (by omega), show 10 - 1 - (j + 1) + 1 = 10 - 1 - j by omega]
      exact h3 j b hb
  · simp only [if_neg e]
    refine ⟨by omega, by rw [List.length_cons]; omega, fun i b hb => ?_⟩
    cases i with
    | zero =>
      cases hb
      show (if sz + 1 - 1 - 0 < sz then hg (sz + 1 - 1 - 0) else t) = t
      rw [if_neg (by omega)]
    | succ j =>
      have hb : L[j]? = some b := hb
      have hj : j < L.length := (List.getElem?_eq_some_iff.mp hb).1
      show (if sz + 1 - 1 - (j + 1) < sz then hg (sz + 1 - 1 - (j + 1)) else t) = b
      rw [if_pos (by omega), show sz + 1 - 1 - (j + 1) = sz - 1 - j by omega]
      exact h3 j b hb
theorem HL.pop {sz : Nat} {hg : Nat → BT} (h : HL sz hg (b :: L)) : sz ≠ 0 ∧ hg (sz - 1) = b ∧ HL (sz - 1) hg L := by
  obtain ⟨h1, h2, h3⟩ := h
  rw [List.length_cons] at h2
  refine ⟨by omega, h3 0 b rfl, by omega, by omega, fun i c hc => ?_⟩
  have := h3 (i + 1) c hc
  rw [show sz - 1 - (i + 1) = sz - 1 - 1 - i by omega] at this
  exact this
theorem HL.nil {sz : Nat} {hg : Nat → BT} (h : HL sz hg L) : HL sz hg [] := ⟨h.1, Nat.zero_le _, fun i b hb => by cases hb⟩
end PJs
def PK (cI cJ cB : ClassId) (xo ln : Nat) (tx : Nat → Nat) (t : BT) (L : List BT) (ws : va_W) : Prop := ∃ (rd : Nat) (s1 s2 : SPT) (vo h h2 ho ro ys yw zs sz : Nat) (hg : Nat → BT), PCS cI cJ cB xo rd ln tx t s1 s2 sz hg vo h h2 ho ro ys yw zs [] ws ∧ PJ rd t s1 s2 L ∧ HL sz hg L
theorem PK.tv {cI cJ cB : ClassId} {xo ln : Nat} {tx : Nat → Nat} {t : BT} {L : List BT} {ws : va_W} (h : PK cI cJ cB xo ln tx t L ws) : TVt t := by
  obtain ⟨rd, s1, s2, vo, h, h2, ho, ro, ys, yw, zs, sz, hg, h0, hj, hl⟩ := h
  exact hj.tv
theorem PK.nil {cI cJ cB : ClassId} {xo ln : Nat} {tx : Nat → Nat} {t : BT} {L : List BT} {ws : va_W} (h : PK cI cJ cB xo ln tx t L ws) : PK cI cJ cB xo ln tx t [] ws := by
  obtain ⟨rd, s1, s2, vo, h, h2, ho, ro, ys, yw, zs, sz, hg, h0, hj, hl⟩ := h
  exact ⟨rd, s1, s2, vo, h, h2, ho, ro, ys, yw, zs, sz, hg, h0, hj.nil, hl.nil⟩
abbrev mvT (t : BT) (b q k : Nat) (z : Bool) : BT := tup (tse t) (twd t) (thd t) (tnb t) (twl t) (tst t + nI k) (mvsl (tsl t) z (tlb t) b) (tgl t) (taq t) (some b) (tsh t) (tbw t) (tbh t) (va_up (tps t) b q)
abbrev glT (t : BT) (b q : Nat) : BT := tup (tse t) (twd t) (thd t) (tnb t) (twl t) (tst t) (tsl t) (some b) (some q) (tlb t) (tsh t) (tbw t) (tbh t) (tps t)
abbrev hdT (t : BT) (ps2 : Nat → Nat) : BT := tup (tse t) (twd t) (thd t) (tnb t) (twl t) (nI 0) (nI 0) (tgl t) (taq t) none (tsh t) (tbw t) (tbh t) ps2
theorem STi.mono {l : Launch} {D : va_G} {cI cJ cB : ClassId} {y : MethodName} {cy : ByteArray} {nY d b ci : Nat} {As : List Value} {ws : va_W} {Q Q2 : Int32 → va_W → Prop} (h : STi l D cI cJ cB y cy nY d b ci As ws Q) (hq : ∀ r w, Q r w → Q2 r w) : STi l D cI cJ cB y cy nY d b ci As ws Q2 := by
  obtain ⟨wc, wr, post, fs, h1, h2, h3, h4⟩ := h
  exact ⟨wc, wr, post, fs, h1, h2, h3, fun r w1 hp => hq _ _ (h4 r w1 hp)⟩
theorem STi.fr {l : Launch} {D : va_G} {cI cJ cB : ClassId} {y : MethodName} {cy : ByteArray} {nY d b ci : Nat} {As : List Value} {pre ws : va_W} {Q : Int32 → va_W → Prop} (h : STi l D cI cJ cB y cy nY d b ci As ws Q) : STi l D cI cJ cB y cy nY d b ci As (pre ++ ws) (fun r w => ∃ w1, Q r w1 ∧ w.Perm (pre ++ w1)) := by
  obtain ⟨wc, wr, post, fs, h1, h2, h3, h4⟩ := h
  refine ⟨wc, wr ++ pre, post, fs, (h1.append_left pre).trans (perm_cnt fun i x => by simp only [List.count_append]; omega), h2, h3, fun r w1 hp => ⟨w1 ++ wr, h4 r w1 hp, perm_cnt fun i x => by simp only [List.count_append]; omega⟩⟩
theorem STl.mono {l : Launch} {D : va_G} {cI cJ cB : ClassId} {y : MethodName} {cy : ByteArray} {nY d b ci : Nat} {As : List Value} {ws : va_W} {Q Q2 : Int64 → va_W → Prop} (h : STl l D cI cJ cB y cy nY d b ci As ws Q) (hq : ∀ r w, Q r w → Q2 r w) : STl l D cI cJ cB y cy nY d b ci As ws Q2 := by
  obtain ⟨wc, wr, post, fs, h1, h2, h3, h4⟩ := h
  exact ⟨wc, wr, post, fs, h1, h2, h3, fun r w1 hp => hq _ _ (h4 r w1 hp)⟩
theorem STl.fr {l : Launch} {D : va_G} {cI cJ cB : ClassId} {y : MethodName} {cy : ByteArray} {nY d b ci : Nat} {As : List Value} {pre ws : va_W} {Q : Int64 → va_W → Prop} (h : STl l D cI cJ cB y cy nY d b ci As ws Q) : STl l D cI cJ cB y cy nY d b ci As (pre ++ ws) (fun r w => ∃ w1, Q r w1 ∧ w.Perm (pre ++ w1)) := by
  obtain ⟨wc, wr, post, fs, h1, h2, h3, h4⟩ := h
  refine ⟨wc, wr ++ pre, post, fs, (h1.append_left pre).trans (perm_cnt fun i x => by simp only [List.count_append]; omega), h2, h3, fun r w1 hp => ⟨w1 ++ wr, h4 r w1 hp, perm_cnt fun i x => by simp only [List.count_append]; omega⟩⟩
theorem STf.mono {l : Launch} {D : va_G} {cI cJ cB : ClassId} {y : MethodName} {cy : ByteArray} {nY d b ci : Nat} {As : List Value} {ws : va_W} {Q Q2 : UInt32 → va_W → Prop} (h : STf l D cI cJ cB y cy nY d b ci As ws Q) (hq : ∀ r w, Q r w → Q2 r w) : STf l D cI cJ cB y cy nY d b ci As ws Q2 := by
  obtain ⟨wc, wr, post, fs, h1, h2, h3, h4⟩ := h
  exact ⟨wc, wr, post, fs, h1, h2, h3, fun r w1 hp => hq _ _ (h4 r w1 hp)⟩
theorem STf.fr {l : Launch} {D : va_G} {cI cJ cB : ClassId} {y : MethodName} {cy : ByteArray} {nY d b ci : Nat} {As : List Value} {pre ws : va_W} {Q : UInt32 → va_W → Prop} (h : STf l D cI cJ cB y cy nY d b ci As ws Q) : STf l D cI cJ cB y cy nY d b ci As (pre ++ ws) (fun r w => ∃ w1, Q r w1 ∧ w.Perm (pre ++ w1)) := by
  obtain ⟨wc, wr, post, fs, h1, h2, h3, h4⟩ := h
  refine ⟨wc, wr ++ pre, post, fs, (h1.append_left pre).trans (perm_cnt fun i x => by simp only [List.count_append]; omega), h2, h3, fun r w1 hp => ⟨w1 ++ wr, h4 r w1 hp, perm_cnt fun i x => by simp only [List.count_append]; omega⟩⟩
theorem y_type_no (l : Launch) (D : va_G) {cI cJ cB : ClassId} {xo ln : Nat} {tx : Nat → Nat} {t : BT} {L : List BT} {ws : va_W} (x : Int32) (hln : ln ≤ 40) (hx : tOf x = none) (h : PK cI cJ cB xo ln tx t L ws) : STi l D cI cJ cB yX7_type cX7_type 2 1 xo 7 [.int x] ws (fun r w9 => PK cI cJ cB xo ln tx t L w9 ∧ r = -1) := by
  obtain ⟨rd, s1, s2, vo, h, h2, ho, ro, ys, yw, zs, sz, hg, h0, hj, hl⟩ := h
  refine (x_type l D x hln h0).mono (fun r w9 hq => ?_)
  obtain ⟨tx2, ln2, g0, hr, e1, e2⟩ := hq
  simp only [hx] at hr e1 e2
  subst e1 e2
  exact ⟨⟨rd, s1, s2, vo, h, h2, ho, ro, ys, yw, zs, sz, hg, g0, hj, hl⟩, hr⟩
theorem y_type_go (l : Launch) (D : va_G) {cI cJ cB : ClassId} {xo ln : Nat} {tx : Nat → Nat} {t : BT} {L : List BT} {ws : va_W} (x : Int32) {q : Nat} (hln : ln < 40) (hx : tOf x = some q) (h : PK cI cJ cB xo ln tx t L ws) : STi l D cI cJ cB yX7_type cX7_type 2 1 xo 7 [.int x] ws (fun r w9 => PK cI cJ cB xo (ln + 1) (va_up tx ln q) t L w9 ∧ r = nI (ln + 1)) := by
  obtain ⟨rd, s1, s2, vo, h, h2, ho, ro, ys, yw, zs, sz, hg, h0, hj, hl⟩ := h
  refine (x_type l D x (Nat.le_of_lt hln) h0).mono (fun r w9 hq => ?_)
  obtain ⟨tx2, ln2, g0, hr, e1, e2⟩ := hq
  simp only [hx, if_neg (show ¬ ln = 40 by omega)] at hr e1 e2
  subst e1 e2
  exact ⟨⟨rd, s1, s2, vo, h, h2, ho, ro, ys, yw, zs, sz, hg, g0, hj, hl⟩, hr⟩
theorem y_clear (l : Launch) (D : va_G) {cI cJ cB : ClassId} {xo ln : Nat} {tx : Nat → Nat} {t : BT} {L : List BT} {ws : va_W} (h : PK cI cJ cB xo ln tx t L ws) : STi l D cI cJ cB yX7_clear cX7_clear 2 0 xo 7 [] ws (fun r w9 => PK cI cJ cB xo 0 tx t L w9 ∧ r = nI ln) := by
  obtain ⟨rd, s1, s2, vo, h, h2, ho, ro, ys, yw, zs, sz, hg, h0, hj, hl⟩ := h
  refine (x_clear l D h0).mono (fun r w9 hq => ?_)
  obtain ⟨g0, hr⟩ := hq
  exact ⟨⟨rd, s1, s2, vo, h, h2, ho, ro, ys, yw, zs, sz, hg, g0, hj, hl⟩, hr⟩
theorem y_frame (l : Launch) (D : va_G) {cI cJ cB : ClassId} {xo ln : Nat} {tx : Nat → Nat} {t : BT} {L : List BT} {ws : va_W} (x : Int32) (h : PK cI cJ cB xo ln tx t L ws) : STi l D cI cJ cB yX7_frame cX7_frame 2 3 xo 7 [.int x] ws (fun r w9 => PK cI cJ cB xo ln tx t L w9 ∧ r = f_framex (twd t) (thd t) (tnb t) (twl t) (tst t) (tsl t) (tgl t) (taq t) (tsh t) (tps t) x) := by
  obtain ⟨rd, s1, s2, vo, h, h2, ho, ro, ys, yw, zs, sz, hg, h0, hj, hl⟩ := h
  refine (x_frame l D x hj.tv h0).mono (fun r w9 hq => ?_)
  obtain ⟨g0, hr⟩ := hq
  exact ⟨⟨rd, s1, s2, vo, h, h2, ho, ro, ys, yw, zs, sz, hg, g0, hj, hl⟩, hr⟩
theorem y_cell (l : Launch) (D : va_G) {cI cJ cB : ClassId} {xo ln : Nat} {tx : Nat → Nat} {t : BT} {L : List BT} {ws : va_W} (x : Int32) (h : PK cI cJ cB xo ln tx t L ws) : STi l D cI cJ cB yX7_cell cX7_cell 4 2 xo 7 [.int x] ws (fun r w9 => PK cI cJ cB xo ln tx t L w9 ∧ r = f_cellx (twd t) (thd t) (tnb t) (twl t) (tsh t) (tps t) x) := by
  obtain ⟨rd, s1, s2, vo, h, h2, ho, ro, ys, yw, zs, sz, hg, h0, hj, hl⟩ := h
  refine (x_cell l D x hj.tv h0).mono (fun r w9 hq => ?_)
  obtain ⟨g0, hr⟩ := hq
  exact ⟨⟨rd, s1, s2, vo, h, h2, ho, ro, ys, yw, zs, sz, hg, g0, hj, hl⟩, hr⟩
theorem y_block (l : Launch) (D : va_G) {cI cJ cB : ClassId} {xo ln : Nat} {tx : Nat → Nat} {t : BT} {L : List BT} {ws : va_W} (x : Int32) (y : Int32) (h : PK cI cJ cB xo ln tx t L ws) : STi l D cI cJ cB yX7_block cX7_block 3 4 xo 7 [.int x, .int y] ws (fun r w9 => PK cI cJ cB xo ln tx t L w9 ∧ r = f_blkx (twd t) (thd t) (tnb t) (twl t) (tsh t) (tbw t) (tbh t) (tps t) x y) := by
  obtain ⟨rd, s1, s2, vo, h, h2, ho, ro, ys, yw, zs, sz, hg, h0, hj, hl⟩ := h
  refine (x_block l D x y hj.tv h0).mono (fun r w9 hq => ?_)
  obtain ⟨g0, hr⟩ := hq
  exact ⟨⟨rd, s1, s2, vo, h, h2, ho, ro, ys, yw, zs, sz, hg, g0, hj, hl⟩, hr⟩
theorem y_states (l : Launch) (D : va_G) {cI cJ cB : ClassId} {xo ln : Nat} {tx : Nat → Nat} {t : BT} {L : List BT} {ws : va_W} (h : PK cI cJ cB xo ln tx t L ws) : STi l D cI cJ cB yX7_states cX7_states 1 5 xo 7 [] ws (fun r w9 => PK cI cJ cB xo ln tx t L w9 ∧ r = f_states (kst (twd t) (thd t) (tnb t) (twl t) (tsh t) (tbw t) (tbh t) none) (pkey (tps t) (tnb t))) := by
  obtain ⟨rd, s1, s2, vo, h, h2, ho, ro, ys, yw, zs, sz, hg, h0, hj, hl⟩ := h
  refine (x_states l D  hj.tv hj.se hj.b1 hj.cv h0).mono (fun r w9 hq => ?_)
  obtain ⟨s3, g0, hr, hs, hb3⟩ := hq
  exact ⟨⟨rd, s3, s2, vo, h, h2, ho, ro, ys, yw, zs, sz, hg, g0, hj.space hs hb3, hl⟩, hr⟩
theorem y_solved (l : Launch) (D : va_G) {cI cJ cB : ClassId} {xo ln : Nat} {tx : Nat → Nat} {t : BT} {L : List BT} {ws : va_W} (h : PK cI cJ cB xo ln tx t L ws) : STi l D cI cJ cB yX7_solved cX7_solved 1 5 xo 7 [] ws (fun r w9 => PK cI cJ cB xo ln tx t L w9 ∧ r = f_solved (kst (twd t) (thd t) (tnb t) (twl t) (tsh t) (tbw t) (tbh t) none) (tgl t) (taq t) (pkey (tps t) (tnb t))) := by
  obtain ⟨rd, s1, s2, vo, h, h2, ho, ro, ys, yw, zs, sz, hg, h0, hj, hl⟩ := h
  refine (x_solved l D  hj.tv hj.se hj.b1 hj.cv h0).mono (fun r w9 hq => ?_)
  obtain ⟨s3, g0, hr, hs, hb3⟩ := hq
  exact ⟨⟨rd, s3, s2, vo, h, h2, ho, ro, ys, yw, zs, sz, hg, g0, hj.space hs hb3, hl⟩, hr⟩
theorem y_places (l : Launch) (D : va_G) {cI cJ cB : ClassId} {xo ln : Nat} {tx : Nat → Nat} {t : BT} {L : List BT} {ws : va_W} (x : Int32) (h : PK cI cJ cB xo ln tx t L ws) : STi l D cI cJ cB yX7_places cX7_places 2 5 xo 7 [.int x] ws (fun r w9 => PK cI cJ cB xo ln tx t L w9 ∧ r = f_placesx (twd t) (thd t) (tnb t) (twl t) (tsh t) (tbw t) (tbh t) (tps t) x) := by
  obtain ⟨rd, s1, s2, vo, h, h2, ho, ro, ys, yw, zs, sz, hg, h0, hj, hl⟩ := h
  refine (x_places l D x hj.tv hj.se hj.b1 hj.cv h0).mono (fun r w9 hq => ?_)
  obtain ⟨s3, g0, hr, hs, hb3⟩ := hq
  exact ⟨⟨rd, s3, s2, vo, h, h2, ho, ro, ys, yw, zs, sz, hg, g0, hj.space hs hb3, hl⟩, hr⟩
theorem y_distance (l : Launch) (D : va_G) {cI cJ cB : ClassId} {xo ln : Nat} {tx : Nat → Nat} {t : BT} {L : List BT} {ws : va_W} (z : Bool) (h : PK cI cJ cB xo ln tx t L ws) : STi l D cI cJ cB yX7_distance cX7_distance 3 6 xo 7 [.int (bI z)] ws (fun r w9 => PK cI cJ cB xo ln tx t L w9 ∧ r = f_dist (kst (twd t) (thd t) (tnb t) (twl t) (tsh t) (tbw t) (tbh t) none) (mvk (twd t) (thd t) (tnb t) (twl t) (tsh t) (tbw t) (tbh t) none z) (tgl t) (taq t) (pkey (tps t) (tnb t))) := by
  obtain ⟨rd, s1, s2, vo, h, h2, ho, ro, ys, yw, zs, sz, hg, h0, hj, hl⟩ := h
  refine (x_distance l D z hj.tv hj.se hj.b1 hj.cv h0).mono (fun r w9 hq => ?_)
  obtain ⟨s3, g0, hr, hs, hb3⟩ := hq
  exact ⟨⟨rd, s3, s2, vo, h, h2, ho, ro, ys, yw, zs, sz, hg, g0, hj.space hs hb3, hl⟩, hr⟩
theorem y_worst (l : Launch) (D : va_G) {cI cJ cB : ClassId} {xo ln : Nat} {tx : Nat → Nat} {t : BT} {L : List BT} {ws : va_W} (z : Bool) (h : PK cI cJ cB xo ln tx t L ws) : STi l D cI cJ cB yX7_worst cX7_worst 2 6 xo 7 [.int (bI z)] ws (fun r w9 => PK cI cJ cB xo ln tx t L w9 ∧ r = f_worst (kst (twd t) (thd t) (tnb t) (twl t) (tsh t) (tbw t) (tbh t) none) (mvk (twd t) (thd t) (tnb t) (twl t) (tsh t) (tbw t) (tbh t) none z) (tgl t) (taq t) (pkey (tps t) (tnb t))) := by
  obtain ⟨rd, s1, s2, vo, h, h2, ho, ro, ys, yw, zs, sz, hg, h0, hj, hl⟩ := h
  refine (x_worst l D z hj.tv hj.se hj.b1 hj.cv h0).mono (fun r w9 hq => ?_)
  obtain ⟨s3, g0, hr, hs, hb3⟩ := hq
  exact ⟨⟨rd, s3, s2, vo, h, h2, ho, ro, ys, yw, zs, sz, hg, g0, hj.space hs hb3, hl⟩, hr⟩
theorem y_mean (l : Launch) (D : va_G) {cI cJ cB : ClassId} {xo ln : Nat} {tx : Nat → Nat} {t : BT} {L : List BT} {ws : va_W} (z : Bool) (h : PK cI cJ cB xo ln tx t L ws) : STf l D cI cJ cB yX7_mean cX7_mean 2 6 xo 7 [.int (bI z)] ws (fun r w9 => PK cI cJ cB xo ln tx t L w9 ∧ r = f_mean (kst (twd t) (thd t) (tnb t) (twl t) (tsh t) (tbw t) (tbh t) none) (mvk (twd t) (thd t) (tnb t) (twl t) (tsh t) (tbw t) (tbh t) none z) (tgl t) (taq t) (pkey (tps t) (tnb t))) := by
  obtain ⟨rd, s1, s2, vo, h, h2, ho, ro, ys, yw, zs, sz, hg, h0, hj, hl⟩ := h
  refine (x_mean l D z hj.tv hj.se hj.b1 hj.cv h0).mono (fun r w9 hq => ?_)
  obtain ⟨s3, g0, hr, hs, hb3⟩ := hq
  exact ⟨⟨rd, s3, s2, vo, h, h2, ho, ro, ys, yw, zs, sz, hg, g0, hj.space hs hb3, hl⟩, hr⟩
theorem y_hint (l : Launch) (D : va_G) {cI cJ cB : ClassId} {xo ln : Nat} {tx : Nat → Nat} {t : BT} {L : List BT} {ws : va_W} (z : Bool) (h : PK cI cJ cB xo ln tx t L ws) : STi l D cI cJ cB yX7_hint cX7_hint 6 6 xo 7 [.int (bI z)] ws (fun r w9 => PK cI cJ cB xo ln tx t L w9 ∧ r = cHint (f_hintx (twd t) (thd t) (tnb t) (twl t) (tsh t) (tbw t) (tbh t) (tps t) (tgl t) (taq t) z)) := by
  obtain ⟨rd, s1, s2, vo, h, h2, ho, ro, ys, yw, zs, sz, hg, h0, hj, hl⟩ := h
  refine (x_hint l D z hj.tv hj.se hj.b1 hj.cv h0).mono (fun r w9 hq => ?_)
  obtain ⟨s3, g0, hr, hs, hb3⟩ := hq
  exact ⟨⟨rd, s3, s2, vo, h, h2, ho, ro, ys, yw, zs, sz, hg, g0, hj.space hs hb3, hl⟩, hr⟩
theorem y_fingerprint (l : Launch) (D : va_G) {cI cJ cB : ClassId} {xo ln : Nat} {tx : Nat → Nat} {t : BT} {L : List BT} {ws : va_W} (h : PK cI cJ cB xo ln tx t L ws) : STl l D cI cJ cB yX7_fingerprint cX7_fingerprint 5 7 xo 7 [] ws (fun r w9 => PK cI cJ cB xo ln tx t L w9 ∧ r = f_fp (twd t) (thd t) (tnb t) (twl t) (tst t) (tsl t) (tgl t) (taq t) (tsh t) (tbw t) (tbh t) (tps t)) := by
  obtain ⟨rd, s1, s2, vo, h, h2, ho, ro, ys, yw, zs, sz, hg, h0, hj, hl⟩ := h
  refine (x_fingerprint l D  hj.tv hj.se hj.b1 hj.cv h0).mono (fun r w9 hq => ?_)
  obtain ⟨s3, g0, hr, hs, hb3⟩ := hq
  exact ⟨⟨rd, s3, s2, vo, h, h2, ho, ro, ys, yw, zs, sz, hg, g0, hj.space hs hb3, hl⟩, hr⟩
theorem y_without (l : Launch) (D : va_G) {cI cJ cB : ClassId} {xo ln : Nat} {tx : Nat → Nat} {t : BT} {L : List BT} {ws : va_W} (x : Int32) (z : Bool) (h : PK cI cJ cB xo ln tx t L ws) : STi l D cI cJ cB yX7_without cX7_without 4 6 xo 7 [.int x, .int (bI z)] ws (fun r w9 => PK cI cJ cB xo ln tx t L w9 ∧ r = f_without (twd t) (thd t) (tnb t) (twl t) (tsh t) (tbw t) (tbh t) (tps t) (tgl t) (taq t) x z) := by
  obtain ⟨rd, s1, s2, vo, h, h2, ho, ro, ys, yw, zs, sz, hg, h0, hj, hl⟩ := h
  refine (x_without l D x z hj.tv hj.se hj.b2 hj.cw h0).mono (fun r w9 hq => ?_)
  obtain ⟨s3, g0, hr, hs, hb3⟩ := hq
  exact ⟨⟨rd, s1, s3, vo, h, h2, ho, ro, ys, yw, zs, sz, hg, g0, hj.trial hs hb3, hl⟩, hr⟩
theorem y_step_no (l : Launch) (D : va_G) {cI cJ cB : ClassId} {xo ln : Nat} {tx : Nat → Nat} {t : BT} {L : List BT} {ws : va_W} (x : Int32) (y : Int32) (hm : f_stepm (twd t) (thd t) (tnb t) (twl t) (tsh t) (tbw t) (tbh t) (tps t) x y = none) (h : PK cI cJ cB xo ln tx t L ws) : STi l D cI cJ cB yX7_step cX7_step 4 4 xo 7 [.int x, .int y] ws (fun r w9 => PK cI cJ cB xo ln tx t L w9 ∧ r = f_stepr (twd t) (thd t) (tnb t) (twl t) (tsh t) (tbw t) (tbh t) (tps t) x y) := by
  obtain ⟨rd, s1, s2, vo, h, h2, ho, ro, ys, yw, zs, sz, hg, h0, hj, hl⟩ := h
  refine (x_step l D x y hj.tv h0).mono (fun r w9 hq => ?_)
  obtain ⟨st2, sl2, lb2, ps2, sz2, hg2, g0, hr, hmv, ha1, ha2⟩ := hq
  rw [hm] at hmv ha2
  obtain ⟨rfl, rfl, rfl, rfl⟩ := hmv
  obtain ⟨rfl, rfl⟩ := ha2 rfl
  exact ⟨⟨rd, s1, s2, vo, h, h2, ho, ro, ys, yw, zs, _, _, g0, hj, hl⟩, hr⟩
theorem y_step_go (l : Launch) (D : va_G) {cI cJ cB : ClassId} {xo ln : Nat} {tx : Nat → Nat} {t : BT} {L : List BT} {ws : va_W} (x : Int32) (y : Int32) {b q k : Nat} {z : Bool} (hL : L.length ≤ 9) (hm : f_stepm (twd t) (thd t) (tnb t) (twl t) (tsh t) (tbw t) (tbh t) (tps t) x y = some (b, q, k, z)) (h : PK cI cJ cB xo ln tx t L ws) : STi l D cI cJ cB yX7_step cX7_step 4 4 xo 7 [.int x, .int y] ws (fun r w9 => PK cI cJ cB xo ln tx (mvT t b q k z) (t :: L) w9 ∧ r = f_stepr (twd t) (thd t) (tnb t) (twl t) (tsh t) (tbw t) (tbh t) (tps t) x y) := by
  obtain ⟨rd, s1, s2, vo, h, h2, ho, ro, ys, yw, zs, sz, hg, h0, hj, hl⟩ := h
  refine (x_step l D x y hj.tv h0).mono (fun r w9 hq => ?_)
  obtain ⟨st2, sl2, lb2, ps2, sz2, hg2, g0, hr, hmv, ha1, ha2⟩ := hq
  have hok : MVok (twd t) (thd t) (tnb t) (twl t) (tsh t) (tbw t) (tbh t) (tps t) (some (b, q, k, z)) := by rw [← hm]; exact (stepm_ok hj.tv)
  rw [hm] at hmv ha1
  have htv2 := MVD_TV hj.tv hok hmv
  obtain ⟨rfl, rfl, rfl, rfl⟩ := hmv
  obtain ⟨rfl, rfl⟩ := ha1 rfl
  exact ⟨⟨rd, s1, s2, vo, h, h2, ho, ro, ys, yw, zs, hcnt sz, hpu hg sz t, g0, hj.push (t2 := mvT t b q k z) rfl rfl htv2.1 htv2.2, hl.push hL⟩, hr⟩
theorem y_slide_no (l : Launch) (D : va_G) {cI cJ cB : ClassId} {xo ln : Nat} {tx : Nat → Nat} {t : BT} {L : List BT} {ws : va_W} (x : Int32) (y : Int32) (hm : f_slidem (twd t) (thd t) (tnb t) (twl t) (tsh t) (tbw t) (tbh t) (tps t) x y = none) (h : PK cI cJ cB xo ln tx t L ws) : STi l D cI cJ cB yX7_slide cX7_slide 4 4 xo 7 [.int x, .int y] ws (fun r w9 => PK cI cJ cB xo ln tx t L w9 ∧ r = f_slider (twd t) (thd t) (tnb t) (twl t) (tsh t) (tbw t) (tbh t) (tps t) x y) := by
  obtain ⟨rd, s1, s2, vo, h, h2, ho, ro, ys, yw, zs, sz, hg, h0, hj, hl⟩ := h
  refine (x_slide l D x y hj.tv h0).mono (fun r w9 hq => ?_)
  obtain ⟨st2, sl2, lb2, ps2, sz2, hg2, g0, hr, hmv, ha1, ha2⟩ := hq
  rw [hm] at hmv ha2
  obtain ⟨rfl, rfl, rfl, rfl⟩ := hmv
  obtain ⟨rfl, rfl⟩ := ha2 rfl
  exact ⟨⟨rd, s1, s2, vo, h, h2, ho, ro, ys, yw, zs, _, _, g0, hj, hl⟩, hr⟩
theorem y_slide_go (l : Launch) (D : va_G) {cI cJ cB : ClassId} {xo ln : Nat} {tx : Nat → Nat} {t : BT} {L : List BT} {ws : va_W} (x : Int32) (y : Int32) {b q k : Nat} {z : Bool} (hL : L.length ≤ 9) (hm : f_slidem (twd t) (thd t) (tnb t) (twl t) (tsh t) (tbw t) (tbh t) (tps t) x y = some (b, q, k, z)) (h : PK cI cJ cB xo ln tx t L ws) : STi l D cI cJ cB yX7_slide cX7_slide 4 4 xo 7 [.int x, .int y] ws (fun r w9 => PK cI cJ cB xo ln tx (mvT t b q k z) (t :: L) w9 ∧ r = f_slider (twd t) (thd t) (tnb t) (twl t) (tsh t) (tbw t) (tbh t) (tps t) x y) := by
  obtain ⟨rd, s1, s2, vo, h, h2, ho, ro, ys, yw, zs, sz, hg, h0, hj, hl⟩ := h
  refine (x_slide l D x y hj.tv h0).mono (fun r w9 hq => ?_)
  obtain ⟨st2, sl2, lb2, ps2, sz2, hg2, g0, hr, hmv, ha1, ha2⟩ := hq
  have hok : MVok (twd t) (thd t) (tnb t) (twl t) (tsh t) (tbw t) (tbh t) (tps t) (some (b, q, k, z)) := by rw [← hm]; exact slidem_ok
  rw [hm] at hmv ha1
  have htv2 := MVD_TV hj.tv hok hmv
  obtain ⟨rfl, rfl, rfl, rfl⟩ := hmv
  obtain ⟨rfl, rfl⟩ := ha1 rfl
  exact ⟨⟨rd, s1, s2, vo, h, h2, ho, ro, ys, yw, zs, hcnt sz, hpu hg sz t, g0, hj.push (t2 := mvT t b q k z) rfl rfl htv2.1 htv2.2, hl.push hL⟩, hr⟩
theorem y_goal_no (l : Launch) (D : va_G) {cI cJ cB : ClassId} {xo ln : Nat} {tx : Nat → Nat} {t : BT} {L : List BT} {ws : va_W} (x : Int32) (y : Int32) (hm : f_goalm (twd t) (thd t) (tnb t) (tbw t) (tbh t) x y = none) (h : PK cI cJ cB xo ln tx t L ws) : STi l D cI cJ cB yX7_goal cX7_goal 3 4 xo 7 [.int x, .int y] ws (fun r w9 => PK cI cJ cB xo ln tx t L w9 ∧ r = f_goalr (twd t) (thd t) (tnb t) (tbw t) (tbh t) (tps t) x y) := by
  obtain ⟨rd, s1, s2, vo, h, h2, ho, ro, ys, yw, zs, sz, hg, h0, hj, hl⟩ := h
  refine (x_goal l D x y hj.tv h0).mono (fun r w9 hq => ?_)
  obtain ⟨gl2, aq2, sz2, hg2, g0, hr, hmv, ha1, ha2⟩ := hq
  rw [hm] at hmv ha2
  obtain ⟨rfl, rfl⟩ := hmv
  obtain ⟨rfl, rfl⟩ := ha2 rfl
  exact ⟨⟨rd, s1, s2, vo, h, h2, ho, ro, ys, yw, zs, _, _, g0, hj, hl⟩, hr⟩
theorem y_goal_go (l : Launch) (D : va_G) {cI cJ cB : ClassId} {xo ln : Nat} {tx : Nat → Nat} {t : BT} {L : List BT} {ws : va_W} (x : Int32) (y : Int32) {b q : Nat} (hL : L.length ≤ 9) (hm : f_goalm (twd t) (thd t) (tnb t) (tbw t) (tbh t) x y = some (b, q)) (h : PK cI cJ cB xo ln tx t L ws) : STi l D cI cJ cB yX7_goal cX7_goal 3 4 xo 7 [.int x, .int y] ws (fun r w9 => PK cI cJ cB xo ln tx (glT t b q) (t :: L) w9 ∧ r = f_goalr (twd t) (thd t) (tnb t) (tbw t) (tbh t) (tps t) x y) := by
  obtain ⟨rd, s1, s2, vo, h, h2, ho, ro, ys, yw, zs, sz, hg, h0, hj, hl⟩ := h
  refine (x_goal l D x y hj.tv h0).mono (fun r w9 hq => ?_)
  obtain ⟨gl2, aq2, sz2, hg2, g0, hr, hmv, ha1, ha2⟩ := hq
  have htv2 := GLD_ok hj.tv hmv
  rw [hm] at hmv ha1
  obtain ⟨rfl, rfl⟩ := hmv
  obtain ⟨rfl, rfl⟩ := ha1 rfl
  exact ⟨⟨rd, s1, s2, vo, h, h2, ho, ro, ys, yw, zs, hcnt sz, hpu hg sz t, g0, hj.push (t2 := glT t b q) rfl rfl htv2 Rch_0, hl.push hL⟩, hr⟩
theorem y_follow_no (l : Launch) (D : va_G) {cI cJ cB : ClassId} {xo ln : Nat} {tx : Nat → Nat} {t : BT} {L : List BT} {ws : va_W} (z : Bool) (hm : f_folm (twd t) (thd t) (tnb t) (twl t) (tsh t) (tbw t) (tbh t) (tps t) (tgl t) (taq t) z = none) (h : PK cI cJ cB xo ln tx t L ws) : STi l D cI cJ cB yX7_follow cX7_follow 5 7 xo 7 [.int (bI z)] ws (fun r w9 => PK cI cJ cB xo ln tx t L w9 ∧ r = f_folr (twd t) (thd t) (tnb t) (twl t) (tsh t) (tbw t) (tbh t) (tps t) (tgl t) (taq t) z) := by
  obtain ⟨rd, s1, s2, vo, h, h2, ho, ro, ys, yw, zs, sz, hg, h0, hj, hl⟩ := h
  refine (x_follow l D z hj.tv hj.se hj.b1 hj.cv h0).mono (fun r w9 hq => ?_)
  obtain ⟨s3, st2, sl2, lb2, ps2, sz2, hg2, g0, hr, hmv, ⟨ha1, ha2⟩, hs3, hb3⟩ := hq
  have hj := hj.space hs3 hb3
  rw [hm] at hmv ha2
  obtain ⟨rfl, rfl, rfl, rfl⟩ := hmv
  obtain ⟨rfl, rfl⟩ := ha2 rfl
  exact ⟨⟨rd, s3, s2, vo, h, h2, ho, ro, ys, yw, zs, _, _, g0, hj, hl⟩, hr⟩
theorem y_follow_go (l : Launch) (D : va_G) {cI cJ cB : ClassId} {xo ln : Nat} {tx : Nat → Nat} {t : BT} {L : List BT} {ws : va_W} (z : Bool) {b q k : Nat} {z2 : Bool} (hL : L.length ≤ 9) (hm : f_folm (twd t) (thd t) (tnb t) (twl t) (tsh t) (tbw t) (tbh t) (tps t) (tgl t) (taq t) z = some (b, q, k, z2)) (h : PK cI cJ cB xo ln tx t L ws) : STi l D cI cJ cB yX7_follow cX7_follow 5 7 xo 7 [.int (bI z)] ws (fun r w9 => PK cI cJ cB xo ln tx (mvT t b q k z2) (t :: L) w9 ∧ r = f_folr (twd t) (thd t) (tnb t) (twl t) (tsh t) (tbw t) (tbh t) (tps t) (tgl t) (taq t) z) := by
  obtain ⟨rd, s1, s2, vo, h, h2, ho, ro, ys, yw, zs, sz, hg, h0, hj, hl⟩ := h
  refine (x_follow l D z hj.tv hj.se hj.b1 hj.cv h0).mono (fun r w9 hq => ?_)
  obtain ⟨s3, st2, sl2, lb2, ps2, sz2, hg2, g0, hr, hmv, ⟨ha1, ha2⟩, hs3, hb3⟩ := hq
  have hj := hj.space hs3 hb3
  have hok : MVok (twd t) (thd t) (tnb t) (twl t) (tsh t) (tbw t) (tbh t) (tps t) (some (b, q, k, z2)) := by rw [← hm]; exact folm_ok
  rw [hm] at hmv ha1
  have htv2 := MVD_TV hj.tv hok hmv
  obtain ⟨rfl, rfl, rfl, rfl⟩ := hmv
  obtain ⟨rfl, rfl⟩ := ha1 rfl
  exact ⟨⟨rd, s3, s2, vo, h, h2, ho, ro, ys, yw, zs, hcnt sz, hpu hg sz t, g0, hj.push (t2 := mvT t b q k z2) rfl rfl htv2.1 htv2.2, hl.push hL⟩, hr⟩
theorem y_hardest_no (l : Launch) (D : va_G) {cI cJ cB : ClassId} {xo ln : Nat} {tx : Nat → Nat} {t : BT} {L : List BT} {ws : va_W} (z : Bool) (hm : f_hardx (twd t) (thd t) (tnb t) (twl t) (tsh t) (tbw t) (tbh t) (tps t) (tgl t) (taq t) z = none) (h : PK cI cJ cB xo ln tx t L ws) : STi l D cI cJ cB yX7_hardest cX7_hardest 3 6 xo 7 [.int (bI z)] ws (fun r w9 => PK cI cJ cB xo ln tx t L w9 ∧ r = f_hardr (twd t) (thd t) (tnb t) (twl t) (tsh t) (tbw t) (tbh t) (tps t) (tgl t) (taq t) z) := by
  obtain ⟨rd, s1, s2, vo, h, h2, ho, ro, ys, yw, zs, sz, hg, h0, hj, hl⟩ := h
  refine (x_hardest l D z hj.tv hj.se hj.b1 hj.cv h0).mono (fun r w9 hq => ?_)
  obtain ⟨s3, st2, sl2, lb2, ps2, sz2, hg2, g0, hr, hmv, ⟨ha1, ha2⟩, hs3, hb3⟩ := hq
  have hj := hj.space hs3 hb3
  rw [hm] at hmv ha2
  obtain ⟨rfl, rfl, rfl, rfl⟩ := hmv
  obtain ⟨rfl, rfl⟩ := ha2 rfl
  exact ⟨⟨rd, s3, s2, vo, h, h2, ho, ro, ys, yw, zs, _, _, g0, hj, hl⟩, hr⟩
theorem y_hardest_go (l : Launch) (D : va_G) {cI cJ cB : ClassId} {xo ln : Nat} {tx : Nat → Nat} {t : BT} {L : List BT} {ws : va_W} (z : Bool) {x : Nat} (hL : L.length ≤ 9) (hm : f_hardx (twd t) (thd t) (tnb t) (twl t) (tsh t) (tbw t) (tbh t) (tps t) (tgl t) (taq t) z = some x) (h : PK cI cJ cB xo ln tx t L ws) : STi l D cI cJ cB yX7_hardest cX7_hardest 3 6 xo 7 [.int (bI z)] ws (fun r w9 => (∃ ps2 : Nat → Nat, PK cI cJ cB xo ln tx (hdT t ps2) (t :: L) w9 ∧ pkey ps2 (tnb t) = x) ∧ r = f_hardr (twd t) (thd t) (tnb t) (twl t) (tsh t) (tbw t) (tbh t) (tps t) (tgl t) (taq t) z) := by
  obtain ⟨rd, s1, s2, vo, h, h2, ho, ro, ys, yw, zs, sz, hg, h0, hj, hl⟩ := h
  refine (x_hardest l D z hj.tv hj.se hj.b1 hj.cv h0).mono (fun r w9 hq => ?_)
  obtain ⟨s3, st2, sl2, lb2, ps2, sz2, hg2, g0, hr, hmv, ⟨ha1, ha2⟩, hs3, hb3⟩ := hq
  have hj := hj.space hs3 hb3
  have htv2 := HRD_TV hj.tv hmv
  have hR := hardx_R hj.tv hm
  rw [hm] at hmv ha1
  obtain ⟨rfl, rfl, rfl, hps⟩ := hmv
  obtain ⟨rfl, rfl⟩ := ha1 rfl
  refine ⟨⟨ps2, ⟨rd, s3, s2, vo, h, h2, ho, ro, ys, yw, zs, hcnt sz, hpu hg sz t, g0, hj.push (t2 := hdT t ps2) rfl rfl htv2.1 htv2.2, hl.push hL⟩, ?_⟩, hr⟩
  have hT := hj.tv
  have hV := Rch_V hT.1 hT.2.2.1 hR
  have hn7 := hT.1.2.2.2.2.2.1
  have hps2 : ∀ b, b < tnb t → ps2 b < 32 := fun b hb => by rw [hps b hb]; exact plc_lt x b
  refine key_ext (pkey_lt hps2) hV.1 (fun b hb => ?_)
  by_cases hbn : b < tnb t
  · rw [plc_pkey hn7 hps2 b hbn, hps b hbn]
  · rw [pkey_hi hn7 hps2 b (by omega) hb, hV.2.1 b hb (Or.inl (by omega))]
theorem y_undo (l : Launch) (D : va_G) {cI cJ cB : ClassId} {xo ln : Nat} {tx : Nat → Nat} {t b9 : BT} {L : List BT} {ws : va_W} (h : PK cI cJ cB xo ln tx t (b9 :: L) ws) : STi l D cI cJ cB yX7_undo cX7_undo 1 4 xo 7 [] ws (fun r w9 => PK cI cJ cB xo ln tx b9 L w9 ∧ ∃ j, j < 10 ∧ r = nI j) := by
  obtain ⟨rd, s1, s2, vo, h, h2, ho, ro, ys, yw, zs, sz, hg, h0, hj, hl⟩ := h
  refine (x_undo l D h0).mono (fun r w9 hq => ?_)
  obtain ⟨t2, g0, hr, -, u2⟩ := hq
  obtain ⟨hz, hb, hl2⟩ := hl.pop
  rw [if_neg hz] at hr
  have hu := (u2 hz).trans hb
  subst hu
  exact ⟨⟨rd, s1, s2, vo, h, h2, ho, ro, ys, yw, zs, sz - 1, hg, g0, hj.pop, hl2⟩, sz - 1, by have := hl.1; omega, hr⟩
theorem y_read (l : Launch) (D : va_G) {cI cJ cB : ClassId} {xo ln : Nat} {tx : Nat → Nat} {t : BT} {L : List BT} {ws : va_W} (hln : ln ≤ 40) (htx : ∀ i, tx i < 2 ^ 20) (hse : tse t = 0) {wi hi m : Nat} {cl : Nat → Nat} (hrd : RDR tx ln wi hi cl m) (h : PK cI cJ cB xo ln tx t L ws) : STi l D cI cJ cB yX7_read cX7_read 2 5 xo 7 [] ws (fun r w9 => (∃ t2 : BT, PK cI cJ cB xo 0 tx t2 [] w9 ∧ twd t2 = wi ∧ thd t2 = hi ∧ tnb t2 = m ∧ tgl t2 = none ∧ tlb t2 = none) ∧ r = nI m) := by
  obtain ⟨rd, s1, s2, vo, h, h2, ho, ro, ys, yw, zs, sz, hg, h0, hj, hl⟩ := h
  obtain ⟨⟨q1, q4⟩, q2, q3, G, hb, hk, hw, -⟩ := hj
  refine (x_read l D hln htx h0).mono (fun r w9 hq => ?_)
  obtain ⟨t2, rd7, ln7, sz2, hg2, g0, hx⟩ := hq
  rcases hx with ⟨⟨e, he, -, hr⟩, -⟩ | ⟨cl2, hrd2, hr, hwl, hsp, ⟨b1, b2, b3, b4, b5⟩, hse, rfl, rfl, rfl, rfl⟩
  · exact (RDW_RDR he hrd).elim
  · obtain ⟨se7, wd7, hd7, nb7, wl7, st7, sl7, gl7, aq7, lb7, sh7, bw7, bh7, ps7⟩ := t2
    dsimp only [tse, twd, thd, tnb, twl, tst, tsl, tgl, taq, tlb, tsh, tbw, tbh, tps] at hrd2 hr hwl hsp b1 b2 b3 b4 b5 hse
    obtain ⟨rfl, rfl, rfl, rfl⟩ := RDR_u hrd hrd2
    subst hwl b1 b2 b3 b4 b5 hse
    have htv := RDR_TV hrd2 rfl hsp
    exact ⟨⟨_, ⟨rd + 1, s1, s2, vo, h, h2, ho, ro, ys, yw, zs, hcnt sz, hpu hg sz t, g0, ⟨⟨by omega, rfl⟩, q2, q3, gup G (rd + 1) (_, _), BOK.new rfl htv, hk.next, hw.next, fun c hm => by cases hm⟩, (hl.nil.push (t := t) (Nat.zero_le _)).nil⟩, rfl, rfl, rfl, rfl, rfl⟩, hr⟩
