/-! ===== p24: boards with a goal that can be reached ===== -/
def ES (t : BT) (g ap n : Nat) (F : Bool → Nat → Option Nat) : Prop := TVt t ∧ tgl t = some g ∧ taq t = some ap ∧ g < tnb t ∧ ap < 24 ∧ CC (twd t) (thd t) (tnb t) (twl t) (tsh t) (tbw t) (tbh t) g ap n F (kyt t)
abbrev kstT (t : BT) : Nat → Nat → Prop := kst (twd t) (thd t) (tnb t) (twl t) (tsh t) (tbw t) (tbh t) none
abbrev mvkT (t : BT) (z : Bool) : Nat → Nat → Prop := mvk (twd t) (thd t) (tnb t) (twl t) (tsh t) (tbw t) (tbh t) none z
noncomputable abbrev hixT (t : BT) (z : Bool) : Int32 ⊕ Option (Nat × Nat) := f_hintx (twd t) (thd t) (tnb t) (twl t) (tsh t) (tbw t) (tbh t) (tps t) (tgl t) (taq t) z
noncomputable abbrev folT (t : BT) (z : Bool) : Option (Nat × Nat × Nat × Bool) := f_folm (twd t) (thd t) (tnb t) (twl t) (tsh t) (tbw t) (tbh t) (tps t) (tgl t) (taq t) z
noncomputable abbrev forT (t : BT) (z : Bool) : Int32 := f_folr (twd t) (thd t) (tnb t) (twl t) (tsh t) (tbw t) (tbh t) (tps t) (tgl t) (taq t) z
noncomputable abbrev hdxT (t : BT) (z : Bool) : Option Nat := f_hardx (twd t) (thd t) (tnb t) (twl t) (tsh t) (tbw t) (tbh t) (tps t) (tgl t) (taq t) z
noncomputable abbrev hdrT (t : BT) (z : Bool) : Int32 := f_hardr (twd t) (thd t) (tnb t) (twl t) (tsh t) (tbw t) (tbh t) (tps t) (tgl t) (taq t) z
theorem goal_3 {t : BT} (hT : TVt t) {g ap : Nat} (hg : tgl t = some g) (ha : taq t = some ap) : g < tnb t ∧ ap < 24 ∧ (BIG (kstT t) (kyt t) ∨ (∃ n, CN (twd t) (thd t) (tnb t) (twl t) (tsh t) (tbw t) (tbh t) g ap n (kyt t)) ∨ ∃ n F, ES t g ap n F) := by
  have h9 : g < tnb t ∧ ap < 24 := by
    rcases hT.2.2.2.1 with ⟨h1, -⟩ | ⟨g', ap', h1, h2, h3, h4⟩
    · rw [hg] at h1; cases h1
    · rw [hg] at h1; rw [ha] at h2
      cases h1; cases h2
      exact ⟨h3, h4⟩
  refine ⟨h9.1, h9.2, ?_⟩
  rcases cc_or hT.1 hT.2.2.1 g ap with h | h | ⟨n, F, h⟩
  · exact Or.inl h
  · exact Or.inr (Or.inl h)
  · exact Or.inr (Or.inr ⟨n, F, hT, hg, ha, h9.1, h9.2, h⟩)
section E1
variable {t : BT} {g ap n : Nat} {F : Bool → Nat → Option Nat} {z : Bool}
/-! too many -/
theorem fm_bad {r : Int32} (h : hixT t z = .inl r) : folT t z = none ∧ forT t z = -2 := by
  have h : f_hintx (twd t) (thd t) (tnb t) (twl t) (tsh t) (tbw t) (tbh t) (tps t) (tgl t) (taq t) z = .inl r := h
  constructor
  · unfold folT f_folm
    rw [h]
  · unfold forT f_folr
    rw [h]
theorem bg_hint (hg : tgl t = some g) (ha : taq t = some ap) (h : BIG (kstT t) (kyt t)) : hixT t z = .inl (-3) := by
  unfold hixT f_hintx
  rw [hg, ha]
  exact big_hint h
theorem cn_hix (hg : tgl t = some g) (ha : taq t = some ap) (h : CN (twd t) (thd t) (tnb t) (twl t) (tsh t) (tbw t) (tbh t) g ap n (kyt t)) : hixT t z = .inl (-9) := by
  unfold hixT f_hintx
  rw [hg, ha]
  exact cn_hint h
theorem cn_hdx (hg : tgl t = some g) (ha : taq t = some ap) (h : CN (twd t) (thd t) (tnb t) (twl t) (tsh t) (tbw t) (tbh t) g ap n (kyt t)) : hdxT t z = none := by
  unfold hdxT f_hardx
  rw [hg, ha]
  exact cn_hard h
/-! some -/
theorem ES.dist (h : ES t g ap n F) {d : Nat} (hd9 : F z (kyt t) = some d) : f_dist (kstT t) (mvkT t z) (tgl t) (taq t) (pkey (tps t) (tnb t)) = nI d := by
  obtain ⟨-, hg, ha, -, -, hC⟩ := h
  rw [hg, ha]
  exact hC.dist hd9
theorem ES.states (h : ES t g ap n F) : f_states (kstT t) (pkey (tps t) (tnb t)) = nI n := h.2.2.2.2.2.states
theorem ES.solved (h : ES t g ap n F) : ∃ c, 1 ≤ c ∧ c ≤ n ∧ f_solved (kstT t) (tgl t) (taq t) (pkey (tps t) (tnb t)) = nI c := by
  obtain ⟨-, hg, ha, -, -, hC⟩ := h
  rw [hg, ha]
  exact hC.solved
theorem ES.worst (h : ES t g ap n F) {w : Nat} (hw : ismax (F z) w) : f_worst (kstT t) (mvkT t z) (tgl t) (taq t) (pkey (tps t) (tnb t)) = nI w := by
  obtain ⟨-, hg, ha, -, -, hC⟩ := h
  rw [hg, ha]
  exact hC.worst hw
theorem ES.mean (h : ES t g ap n F) {w : Nat} (hw : ismax (F z) w) : ∃ mn, f_mean (kstT t) (mvkT t z) (tgl t) (taq t) (pkey (tps t) (tnb t)) = mn ∧ FP.fcmp mn (FP.i2f (nI w)) ≠ some .gt ∧ FP.fcmp mn FP.fconst0 ≠ some .lt := by
  obtain ⟨-, hg, ha, -, -, hC⟩ := h
  obtain ⟨s, h1, h2⟩ := hC.mean hw
  rw [hg, ha]
  refine ⟨_, h2, ?_⟩
  obtain ⟨x, hx⟩ := hw.1
  have h3 := hC.lt hx
  have h4 := fm_mean hC.2.2.1 hC.2.2.2.1 (by have := hC.2.2.2.1; omega) h1
  exact ⟨h4.1, h4.2.1⟩
theorem ES.hint0 (h : ES t g ap n F) (hd9 : F z (kyt t) = some 0) : cHint (hixT t z) = -9 := by
  obtain ⟨-, hg, ha, -, -, hC⟩ := h
  unfold hixT f_hintx
  rw [hg, ha, hC.hint0 hd9]
  rfl
theorem ES.move (h : ES t g ap n F) {b q k d : Nat} {z2 : Bool} (hb : b < tnb t) (hq : flT t b q = some d) : ES (mvT t b q k z2) g ap n F ∧ kyt (mvT t b q k z2) = wth (kyt t) b q := by
  obtain ⟨hT, hg, ha, hgn, hap, hC⟩ := h
  obtain ⟨h1, h2, -, h4⟩ := TV_move hT hb hq
  exact ⟨⟨h1, hg, ha, hgn, hap, hC.mv h2⟩, h4⟩
theorem ES.hint (h : ES t g ap n F) {e : Nat} (hd9 : F z (kyt t) = some (e + 1)) : ∃ b q k, b < tnb t ∧ q < 24 ∧ q ≠ tps t b ∧ cHint (hixT t z) = nI (100 * b + q) ∧ folT t z = some (b, q, k, z) ∧ forT t z = nI e ∧ ES (mvT t b q k z) g ap n F ∧ F z (kyt (mvT t b q k z)) = some e ∧ (z = false → k = 1) := by
  obtain ⟨hT, hg, ha, hgn, hap, hC⟩ := id h
  obtain ⟨b, q, hb, hq, hne, hh, hF, hR, hm⟩ := hC.hint hd9
  have hx : f_hintx (twd t) (thd t) (tnb t) (twl t) (tsh t) (tbw t) (tbh t) (tps t) (tgl t) (taq t) z = .inr (some (b, q)) := by
    unfold f_hintx
    rw [hg, ha]
    exact hh
  obtain ⟨d, hd⟩ := isMv_some hm
  obtain ⟨h1, h2⟩ := h.move (k := (flT t b q).getD 0) (z2 := z) hb hd
  refine ⟨b, q, (flT t b q).getD 0, hb, hq, by rw [← TV_pl hT hb]; exact hne, ?_, ?_, ?_, h1, by rw [h2]; exact hF, fun hz => ?_⟩
  · show cHint (f_hintx (twd t) (thd t) (tnb t) (twl t) (tsh t) (tbw t) (tbh t) (tps t) (tgl t) (taq t) z) = _
    rw [hx]
    rfl
  · show f_folm (twd t) (thd t) (tnb t) (twl t) (tsh t) (tbw t) (tbh t) (tps t) (tgl t) (taq t) z = _
    unfold f_folm
    rw [hx]
  · show f_folr (twd t) (thd t) (tnb t) (twl t) (tsh t) (tbw t) (tbh t) (tps t) (tgl t) (taq t) z = _
    unfold f_folr
    rw [hx]
    show f_dist (kstT t) (mvkT t z) (tgl t) (taq t) (pkey (tps t) (tnb t)) - nI 1 = nI e
    rw [h.dist hd9, pk_sub (by omega)]
    rfl
  · subst hz
    have h3 := isMv_f1 hm
    show (flo (twd t) (thd t) (tnb t) (twl t) (tsh t) (tbw t) (tbh t) none (pkey (tps t) (tnb t)) b q).getD 0 = 1
    rw [h3]
    rfl
theorem ES.places (h : ES t g ap n F) : ∃ m, m < 2 ^ 24 ∧ m.testBit ap = true ∧ f_placesx (twd t) (thd t) (tnb t) (twl t) (tsh t) (tbw t) (tbh t) (tps t) (nI g) = nI m := by
  obtain ⟨hT, -, -, hgn, -, hC⟩ := h
  obtain ⟨m, h1, h2, h3⟩ := hC.places hgn
  exact ⟨m, h1, h2, (plx hgn (TV_n hT)).trans h3⟩
theorem ES.hard (h : ES t g ap n F) {w : Nat} (hw : ismax (F z) w) : ∃ x, hdxT t z = some x ∧ hdrT t z = nI w ∧ F z x = some w ∧ Rch (kstT t) (kyt t) x := by
  obtain ⟨hT, hg, ha, hgn, hap, hC⟩ := id h
  obtain ⟨x, h1, h2⟩ := hC.hard hw
  have h3 : f_hardx (twd t) (thd t) (tnb t) (twl t) (tsh t) (tbw t) (tbh t) (tps t) (tgl t) (taq t) z = some x := by
    unfold f_hardx
    rw [hg, ha]
    exact h2
  refine ⟨x, h3, ?_, h1, hC.R h1⟩
  show f_hardr (twd t) (thd t) (tnb t) (twl t) (tsh t) (tbw t) (tbh t) (tps t) (tgl t) (taq t) z = _
  unfold f_hardr
  rw [h3]
  exact h.worst hw
theorem ES.hd (h : ES t g ap n F) {x : Nat} {ps2 : Nat → Nat} (hT2 : TVt (hdT t ps2)) (hR : Rch (kstT t) (kyt t) x) (hp : pkey ps2 (tnb t) = x) : ES (hdT t ps2) g ap n F := by
  obtain ⟨hT, hg, ha, hgn, hap, hC⟩ := id h
  refine ⟨hT2, hg, ha, hgn, hap, ?_⟩
  show CC (twd t) (thd t) (tnb t) (twl t) (tsh t) (tbw t) (tbh t) g ap n F (pkey ps2 (tnb t))
  rw [hp]
  exact hC.mv hR
theorem ES.without (h : ES t g ap n F) {b d : Nat} (hb : b < tnb t) (hd9 : F z (kyt t) = some d) : (b = g ∧ f_without (twd t) (thd t) (tnb t) (twl t) (tsh t) (tbw t) (tbh t) (tps t) (tgl t) (taq t) (nI b) z = -2) ∨ (b ≠ g ∧ f_without (twd t) (thd t) (tnb t) (twl t) (tsh t) (tbw t) (tbh t) (tps t) (tgl t) (taq t) (nI b) z = -3) ∨ (b ≠ g ∧ ∃ e, e ≤ d ∧ f_without (twd t) (thd t) (tnb t) (twl t) (tsh t) (tbw t) (tbh t) (tps t) (tgl t) (taq t) (nI b) z = nI e) := by
  obtain ⟨hT, hg, ha, hgn, hap, hC⟩ := id h
  rw [wox hb (TV_n hT), hg, ha]
  by_cases e : b = g
  · exact Or.inl ⟨e, if_pos (by rw [e])⟩
  · rw [if_neg (fun h9 => e (Option.some.inj h9).symm)]
    rcases hC.without hb hgn e hd9 with h1 | ⟨r, h1, h2⟩
    · exact Or.inr (Or.inl ⟨e, h1⟩)
    · exact Or.inr (Or.inr ⟨e, r, h1, h2⟩)
theorem ES.at (h : ES t g ap n F) : bI (f_sol (tgl t) (taq t) (tps t)) = if F z (kyt t) = some 0 then nI 1 else nI 0 := by
  obtain ⟨hT, hg, ha, hgn, hap, hC⟩ := id h
  have h1 := hC.sol (z := z)
  have h2 : plc (kyt t) g = tps t g := TV_pl hT hgn
  rw [h2] at h1
  rw [hg, ha]
  show bI (decide (some ap = some (tps t g))) = _
  by_cases e : F z (kyt t) = some 0
  · rw [if_pos e, h1.mp e, decide_eq_true rfl]
    rfl
  · rw [if_neg e, decide_eq_false (fun h9 => e (h1.mpr (Option.some.inj h9).symm))]
    rfl
end E1
theorem nI_m3 {b : Nat} (h : b < 2 ^ 31) : nI b ≠ -3 := fun e => by
  have h1 := congrArg Int32.toInt e
  rw [nI_toInt h, show (-3 : Int32).toInt = -3 from rfl] at h1
  omega
theorem cmp_l {r : Option Ordering} (h : r ≠ some .gt) : ¬ 0 < Op.cmpValue r .l := by
  rcases r with _ | (_ | _ | _)
  · decide
  · decide
  · decide
  · exact absurd rfl h
theorem cmp_g {r : Option Ordering} (h : r ≠ some .lt) : ¬ Op.cmpValue r .g < 0 := by
  rcases r with _ | (_ | _ | _)
  · decide
  · exact absurd rfl h
  · decide
  · decide
theorem nI_dec (e : Nat) : nI (e + 1) + Int32.ofInt (-1) = nI e := by
  rw [show nI (e + 1) = nI e + 1 from (nI_1 e).symm, show Int32.ofInt (-1) = -1 from rfl, Int32.add_assoc]
  rw [show (1 : Int32) + -1 = 0 from rfl, Int32.add_zero]
