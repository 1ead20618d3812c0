theorem topv_bit {wd i : Nat} : (topv wd).testBit i = decide (i < wd) := by
  unfold topv; rw [Nat.one_shiftLeft]; exact Nat.testBit_two_pow_sub_one wd i
theorem btv_bit {wd hd i : Nat} : (btv wd hd).testBit i = true ↔ (hd - 1) * wd ≤ i ∧ i < (hd - 1) * wd + wd := by
  unfold btv
  rw [Nat.testBit_shiftLeft, Bool.and_eq_true, decide_eq_true_eq, topv_bit, decide_eq_true_eq]
  omega
theorem lcv_bit {wd i : Nat} (hw : 1 ≤ wd) : ∀ {n}, (lcv wd n).testBit i = true ↔ i % wd = 0 ∧ i / wd < n
  | 0 => by
    show (0 : Nat).testBit i = true ↔ _
    rw [Nat.zero_testBit]; constructor
    · intro h; cases h
    · rintro ⟨-, h⟩; exact absurd h (Nat.not_lt_zero _)
  | n + 1 => by
    show (lcv wd n ||| 1 <<< (n * wd)).testBit i = true ↔ _
    rw [Nat.testBit_or, Bool.or_eq_true, lcv_bit hw, Nat.one_shiftLeft, Nat.testBit_two_pow, decide_eq_true_eq]
    constructor
    · rintro (⟨a, b⟩ | e)
      · exact ⟨a, by omega⟩
      · rw [← e, Nat.mul_mod_left, Nat.mul_div_cancel n hw]; exact ⟨rfl, by omega⟩
    · rintro ⟨a, b⟩
      by_cases e : i / wd = n
      · refine Or.inr ?_
        have := Nat.div_add_mod i wd
        rw [a, e, Nat.mul_comm] at this; omega
      · exact Or.inl ⟨a, by omega⟩
theorem rcv_bit {wd hd i : Nat} (hw : 1 ≤ wd) : (rcv wd hd).testBit i = true ↔ i % wd = wd - 1 ∧ i / wd < hd := by
  unfold rcv
  rw [Nat.testBit_shiftLeft, Bool.and_eq_true, decide_eq_true_eq, lcv_bit hw]
  have h1 := Nat.div_add_mod i wd
  have h2 := Nat.mod_lt i hw
  constructor
  · rintro ⟨a, b, c⟩
    have h3 := Nat.div_add_mod (i - (wd - 1)) wd
    rw [b, Nat.add_zero] at h3
    have h4 : i = wd * ((i - (wd - 1)) / wd) + (wd - 1) := by omega
    have h5 : i % wd = wd - 1 := by rw [h4, Nat.mul_add_mod]; exact Nat.mod_eq_of_lt (by omega)
    have h6 : i / wd = (i - (wd - 1)) / wd := by
      conv => lhs; rw [h4]
      rw [Nat.mul_add_div hw, Nat.div_eq_of_lt (a := wd - 1) (by omega)]; omega
    exact ⟨h5, by omega⟩
  · rintro ⟨a, b⟩
    rw [a] at h1
    have h3 : i - (wd - 1) = wd * (i / wd) := by omega
    refine ⟨by omega, by rw [h3]; exact Nat.mul_mod_right _ _, by rw [h3, Nat.mul_div_cancel_left _ hw]; exact b⟩
theorem cell_in {s p i : Nat} (h : s.testBit i = true) : (s <<< p).testBit (p + i) = true := by
  rw [Nat.testBit_shiftLeft, Nat.add_sub_cancel_left, h]; simp
theorem side0 {wd hd s w h p : Nat} (hw : 1 ≤ wd) (hs : ShV wd hd s w h) (hp : PlV wd hd w h p) : (s <<< p) &&& topv wd = 0 ↔ 1 ≤ p / wd := by
  rw [and_zero]
  constructor
  · intro hz
    obtain ⟨i, hi, e⟩ := hs.2.2.2.2.2.1
    have h1 := cell_bit hw hs hp (cell_in hi)
    rw [Nat.add_sub_cancel_left, e] at h1
    refine Nat.pos_of_ne_zero (fun e0 => hz _ (cell_in hi) ?_)
    rw [topv_bit, decide_eq_true_eq]
    exact (Nat.div_eq_zero_iff_lt hw).mp (by omega)
  · intro hz i hi h2
    rw [topv_bit, decide_eq_true_eq] at h2
    have h1 := cell_bit hw hs hp hi
    have h4 := h1.2.2.2
    rw [Nat.div_eq_of_lt h2] at h4
    generalize (i - p) / wd = u at h4
    omega
theorem side1 {wd hd s w h p : Nat} (hw : 1 ≤ wd) (hs : ShV wd hd s w h) (hp : PlV wd hd w h p) : (s <<< p) &&& rcv wd hd = 0 ↔ p % wd + 1 + w ≤ wd := by
  rw [and_zero]
  have hw1 := hs.1
  constructor
  · intro hz
    obtain ⟨i, hi, e⟩ := hs.2.2.2.2.2.2.2.2
    have h1 := cell_bit hw hs hp (cell_in hi)
    rw [Nat.add_sub_cancel_left, e] at h1
    have hpw := hp.1
    have h3 := (hs.2.2.2.2.1 _ hi).2
    have hph := hp.2
    obtain ⟨-, -, c3, c4⟩ := h1
    by_cases e0 : p % wd + 1 + w ≤ wd
    · exact e0
    · refine (hz _ (cell_in hi) ((rcv_bit hw).mpr ?_)).elim
      generalize (p + i) / wd = u at *
      generalize (p + i) % wd = u2 at *
      generalize p / wd = u3 at *
      generalize p % wd = u4 at *
      generalize i / wd = u5 at *
      omega
  · intro hz i hi h2
    have h2 := (rcv_bit hw).mp h2
    have h1 := cell_bit hw hs hp hi
    have h3 := hs.2.2.2.2.1 _ h1.2.1
    omega
theorem side3 {wd hd s w h p : Nat} (hw : 1 ≤ wd) (hs : ShV wd hd s w h) (hp : PlV wd hd w h p) : (s <<< p) &&& lcv wd hd = 0 ↔ 1 ≤ p % wd := by
  rw [and_zero]
  constructor
  · intro hz
    obtain ⟨i, hi, e⟩ := hs.2.2.2.2.2.2.2.1
    have h1 := cell_bit hw hs hp (cell_in hi)
    rw [Nat.add_sub_cancel_left, e] at h1
    have h3 := hs.2.2.2.2.1 _ hi
    have hph := hp.2
    refine Nat.pos_of_ne_zero (fun e0 => hz _ (cell_in hi) ?_)
    rw [lcv_bit hw]
    omega
  · intro hz i hi h2
    have h2 := (lcv_bit hw).mp h2
    have h1 := cell_bit hw hs hp hi
    omega
theorem side2 {wd hd s w h p : Nat} (hw : 1 ≤ wd) (hd1 : 1 ≤ hd) (hs : ShV wd hd s w h) (hp : PlV wd hd w h p) : (s <<< p) &&& btv wd hd = 0 ↔ p / wd + 1 + h ≤ hd := by
  have hrow : ∀ i, (hd - 1) * wd ≤ i ∧ i < (hd - 1) * wd + wd ↔ i / wd = hd - 1 := fun i => by
    have h1 := Nat.div_add_mod' i wd
    have h2 := Nat.mod_lt i hw
    constructor
    · rintro ⟨a, b⟩
      exact Nat.div_eq_of_lt_le (by rw [Nat.mul_comm] at a; rw [Nat.mul_comm]; exact a) (by rw [Nat.succ_mul]; exact b)
    · intro e; rw [e] at h1; omega
  rw [and_zero]
  constructor
  · intro hz
    obtain ⟨i, hi, e⟩ := hs.2.2.2.2.2.2.1
    have h1 := cell_bit hw hs hp (cell_in hi)
    rw [Nat.add_sub_cancel_left, e] at h1
    have hph := hp.2
    obtain ⟨-, -, c3, c4⟩ := h1
    have hh1 := hs.2.2.1
    by_cases e0 : p / wd + 1 + h ≤ hd
    · exact e0
    · refine (hz _ (cell_in hi) (btv_bit.mpr ((hrow _).mpr ?_))).elim
      generalize (p + i) / wd = u at *
      generalize p / wd = u3 at *
      omega
  · intro hz i hi h2
    have h2 := (hrow i).mp (btv_bit.mp h2)
    have h1 := cell_bit hw hs hp hi
    have h3 := (hs.2.2.2.2.1 _ h1.2.1).2
    have h4 := h1.2.2.2
    generalize i / wd = u at *
    generalize (i - p) / wd = u2 at *
    generalize p / wd = u3 at *
    omega
