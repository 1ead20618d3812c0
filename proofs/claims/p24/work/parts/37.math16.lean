/-- the box around the cells of g below i: left, right, top, bottom -/
def bxl (w g : Nat) : Nat → Nat
  | 0 => 9
  | i + 1 => if g.testBit i ∧ i % w < bxl w g i then i % w else bxl w g i
def bxr (w g : Nat) : Nat → Nat
  | 0 => 0
  | i + 1 => if g.testBit i ∧ bxr w g i < i % w then i % w else bxr w g i
def bxt (w g : Nat) : Nat → Nat
  | 0 => 9
  | i + 1 => if g.testBit i ∧ i / w < bxt w g i then i / w else bxt w g i
def bxb (w g : Nat) : Nat → Nat
  | 0 => 0
  | i + 1 => if g.testBit i ∧ bxb w g i < i / w then i / w else bxb w g i
theorem bxl_t {w g i : Nat} (h : (g >>> i) &&& 1 = 1) (h2 : i % w < bxl w g i) : i % w = bxl w g (i + 1) := by show _ = if _ then _ else _; rw [if_pos ⟨bit_1.mp h, h2⟩]
theorem bxl_e {w g i : Nat} (h2 : ¬ i % w < bxl w g i) : bxl w g i = bxl w g (i + 1) := by show _ = if _ then _ else _; rw [if_neg (fun h => h2 h.2)]
theorem bxl_f {w g i : Nat} (h : ¬ (g >>> i) &&& 1 = 1) : bxl w g i = bxl w g (i + 1) := by show _ = if _ then _ else _; rw [if_neg (fun h2 => h (bit_1.mpr h2.1))]
theorem bxr_t {w g i : Nat} (h : (g >>> i) &&& 1 = 1) (h2 : bxr w g i < i % w) : i % w = bxr w g (i + 1) := by show _ = if _ then _ else _; rw [if_pos ⟨bit_1.mp h, h2⟩]
theorem bxr_e {w g i : Nat} (h2 : ¬ bxr w g i < i % w) : bxr w g i = bxr w g (i + 1) := by show _ = if _ then _ else _; rw [if_neg (fun h => h2 h.2)]
theorem bxr_f {w g i : Nat} (h : ¬ (g >>> i) &&& 1 = 1) : bxr w g i = bxr w g (i + 1) := by show _ = if _ then _ else _; rw [if_neg (fun h2 => h (bit_1.mpr h2.1))]
theorem bxt_t {w g i : Nat} (h : (g >>> i) &&& 1 = 1) (h2 : i / w < bxt w g i) : i / w = bxt w g (i + 1) := by show _ = if _ then _ else _; rw [if_pos ⟨bit_1.mp h, h2⟩]
theorem bxt_e {w g i : Nat} (h2 : ¬ i / w < bxt w g i) : bxt w g i = bxt w g (i + 1) := by show _ = if _ then _ else _; rw [if_neg (fun h => h2 h.2)]
theorem bxt_f {w g i : Nat} (h : ¬ (g >>> i) &&& 1 = 1) : bxt w g i = bxt w g (i + 1) := by show _ = if _ then _ else _; rw [if_neg (fun h2 => h (bit_1.mpr h2.1))]
theorem bxb_t {w g i : Nat} (h : (g >>> i) &&& 1 = 1) (h2 : bxb w g i < i / w) : i / w = bxb w g (i + 1) := by show _ = if _ then _ else _; rw [if_pos ⟨bit_1.mp h, h2⟩]
theorem bxb_e {w g i : Nat} (h2 : ¬ bxb w g i < i / w) : bxb w g i = bxb w g (i + 1) := by show _ = if _ then _ else _; rw [if_neg (fun h => h2 h.2)]
theorem bxb_f {w g i : Nat} (h : ¬ (g >>> i) &&& 1 = 1) : bxb w g i = bxb w g (i + 1) := by show _ = if _ then _ else _; rw [if_neg (fun h2 => h (bit_1.mpr h2.1))]
theorem bxl_s {w g : Nat} : ∀ n, bxl w g n ≤ 9 ∧ (∀ i, i < n → g.testBit i = true → bxl w g n ≤ i % w) ∧ (bxl w g n = 9 ∨ ∃ i, i < n ∧ g.testBit i = true ∧ i % w = bxl w g n)
  | 0 => ⟨Nat.le_refl _, fun i h => absurd h (Nat.not_lt_zero i), Or.inl rfl⟩
  | n + 1 => by
    obtain ⟨h1, h2, h3⟩ := bxl_s (w := w) (g := g) n
    rw [show bxl w g (n + 1) = if g.testBit n = true ∧ n % w < bxl w g n then n % w else bxl w g n from rfl]
    by_cases h : g.testBit n = true ∧ n % w < bxl w g n
    · rw [if_pos h]
      refine ⟨by omega, fun i hi hb => ?_, Or.inr ⟨n, by omega, h.1, rfl⟩⟩
      by_cases e : i = n
      · rw [e]; exact Nat.le_refl _
      · have := h2 i (by omega) hb; omega
    · rw [if_neg h]
      refine ⟨h1, fun i hi hb => ?_, h3.imp id (fun ⟨i, a, b⟩ => ⟨i, by omega, b⟩)⟩
      by_cases e : i = n
      · rw [e] at hb ⊢; exact Nat.le_of_not_lt (fun h9 => h ⟨hb, h9⟩)
      · exact h2 i (by omega) hb
theorem bxt_s {w g : Nat} : ∀ n, bxt w g n ≤ 9 ∧ (∀ i, i < n → g.testBit i = true → bxt w g n ≤ i / w) ∧ (bxt w g n = 9 ∨ ∃ i, i < n ∧ g.testBit i = true ∧ i / w = bxt w g n)
  | 0 => ⟨Nat.le_refl _, fun i h => absurd h (Nat.not_lt_zero i), Or.inl rfl⟩
  | n + 1 => by
    obtain ⟨h1, h2, h3⟩ := bxt_s (w := w) (g := g) n
    rw [show bxt w g (n + 1) = if g.testBit n = true ∧ n / w < bxt w g n then n / w else bxt w g n from rfl]
    by_cases h : g.testBit n = true ∧ n / w < bxt w g n
    · rw [if_pos h]
      refine ⟨by omega, fun i hi hb => ?_, Or.inr ⟨n, by omega, h.1, rfl⟩⟩
      by_cases e : i = n
      · rw [e]; exact Nat.le_refl _
      · have := h2 i (by omega) hb; omega
    · rw [if_neg h]
      refine ⟨h1, fun i hi hb => ?_, h3.imp id (fun ⟨i, a, b⟩ => ⟨i, by omega, b⟩)⟩
      by_cases e : i = n
      · rw [e] at hb ⊢; exact Nat.le_of_not_lt (fun h9 => h ⟨hb, h9⟩)
      · exact h2 i (by omega) hb
theorem bxr_s {w g : Nat} : ∀ n, (∀ i, i < n → g.testBit i = true → i % w ≤ bxr w g n) ∧ (bxr w g n = 0 ∨ ∃ i, i < n ∧ g.testBit i = true ∧ i % w = bxr w g n)
  | 0 => ⟨fun i h => absurd h (Nat.not_lt_zero i), Or.inl rfl⟩
  | n + 1 => by
    obtain ⟨h2, h3⟩ := bxr_s (w := w) (g := g) n
    rw [show bxr w g (n + 1) = if g.testBit n = true ∧ bxr w g n < n % w then n % w else bxr w g n from rfl]
    by_cases h : g.testBit n = true ∧ bxr w g n < n % w
    · rw [if_pos h]
      refine ⟨fun i hi hb => ?_, Or.inr ⟨n, by omega, h.1, rfl⟩⟩
      by_cases e : i = n
      · rw [e]; exact Nat.le_refl _
      · have := h2 i (by omega) hb; omega
    · rw [if_neg h]
      refine ⟨fun i hi hb => ?_, h3.imp id (fun ⟨i, a, b⟩ => ⟨i, by omega, b⟩)⟩
      by_cases e : i = n
      · rw [e] at hb ⊢; exact Nat.le_of_not_lt (fun h9 => h ⟨hb, h9⟩)
      · exact h2 i (by omega) hb
theorem bxb_s {w g : Nat} : ∀ n, (∀ i, i < n → g.testBit i = true → i / w ≤ bxb w g n) ∧ (bxb w g n = 0 ∨ ∃ i, i < n ∧ g.testBit i = true ∧ i / w = bxb w g n)
  | 0 => ⟨fun i h => absurd h (Nat.not_lt_zero i), Or.inl rfl⟩
  | n + 1 => by
    obtain ⟨h2, h3⟩ := bxb_s (w := w) (g := g) n
    rw [show bxb w g (n + 1) = if g.testBit n = true ∧ bxb w g n < n / w then n / w else bxb w g n from rfl]
    by_cases h : g.testBit n = true ∧ bxb w g n < n / w
    · rw [if_pos h]
      refine ⟨fun i hi hb => ?_, Or.inr ⟨n, by omega, h.1, rfl⟩⟩
      by_cases e : i = n
      · rw [e]; exact Nat.le_refl _
      · have := h2 i (by omega) hb; omega
    · rw [if_neg h]
      refine ⟨fun i hi hb => ?_, h3.imp id (fun ⟨i, a, b⟩ => ⟨i, by omega, b⟩)⟩
      by_cases e : i = n
      · rw [e] at hb ⊢; exact Nat.le_of_not_lt (fun h9 => h ⟨hb, h9⟩)
      · exact h2 i (by omega) hb
/-- the box of a set that is not empty -/
theorem box_s {w hd g : Nat} (hw : 1 ≤ w) (hw6 : w ≤ 6) (hh6 : hd ≤ 6) (hg : g < 2 ^ (w * hd)) (hne : ∃ i, g.testBit i = true) : bxl w g (w * hd) ≤ bxr w g (w * hd) ∧ bxt w g (w * hd) ≤ bxb w g (w * hd) ∧ bxr w g (w * hd) < w ∧ bxb w g (w * hd) < hd ∧ (∀ i, g.testBit i = true → bxl w g (w * hd) ≤ i % w ∧ i % w ≤ bxr w g (w * hd) ∧ bxt w g (w * hd) ≤ i / w ∧ i / w ≤ bxb w g (w * hd)) ∧
    (∃ i, g.testBit i = true ∧ i % w = bxl w g (w * hd)) ∧ (∃ i, g.testBit i = true ∧ i % w = bxr w g (w * hd)) ∧ (∃ i, g.testBit i = true ∧ i / w = bxt w g (w * hd)) ∧ ∃ i, g.testBit i = true ∧ i / w = bxb w g (w * hd) := by
  have hin : ∀ i, g.testBit i = true → i < w * hd := fun i hi => Nat.lt_of_not_le (fun h => by rw [bits_lt hg h] at hi; cases hi)
  obtain ⟨l1, l2, l3⟩ := bxl_s (w := w) (g := g) (w * hd)
  obtain ⟨r2, r3⟩ := bxr_s (w := w) (g := g) (w * hd)
  obtain ⟨t1, t2, t3⟩ := bxt_s (w := w) (g := g) (w * hd)
  obtain ⟨b2, b3⟩ := bxb_s (w := w) (g := g) (w * hd)
  obtain ⟨j, hj⟩ := hne
  have hjw := Nat.mod_lt j hw
  have hdj : ∀ i, i < w * hd → i / w < hd := fun i hi => (Nat.div_lt_iff_lt_mul hw).mpr (by rw [Nat.mul_comm]; exact hi)
  have hall : ∀ i, g.testBit i = true → bxl w g (w * hd) ≤ i % w ∧ i % w ≤ bxr w g (w * hd) ∧ bxt w g (w * hd) ≤ i / w ∧ i / w ≤ bxb w g (w * hd) := fun i hi => ⟨l2 i (hin i hi) hi, r2 i (hin i hi) hi, t2 i (hin i hi) hi, b2 i (hin i hi) hi⟩
  have h := hall j hj
  have hd9 := hdj j (hin j hj)
  refine ⟨by omega, by omega, ?_, ?_, hall, ?_, ?_, ?_, ?_⟩
  · rcases r3 with e | ⟨i, -, -, e⟩
    · omega
    · rw [← e]; exact Nat.mod_lt _ hw
  · rcases b3 with e | ⟨i, hi, -, e⟩
    · omega
    · rw [← e]; exact hdj i hi
  · rcases l3 with e | ⟨i, -, a, e⟩
    · omega
    · exact ⟨i, a, e⟩
  · rcases r3 with e | ⟨i, -, a, e⟩
    · exact ⟨j, hj, by omega⟩
    · exact ⟨i, a, e⟩
  · rcases t3 with e | ⟨i, -, a, e⟩
    · omega
    · exact ⟨i, a, e⟩
  · rcases b3 with e | ⟨i, -, a, e⟩
    · exact ⟨j, hj, by omega⟩
    · exact ⟨i, a, e⟩
theorem box_lt {t l w hd : Nat} (ht : t < hd) (hl : l < w) : t * w + l < w * hd := by
  have h1 : (t + 1) * w ≤ hd * w := Nat.mul_le_mul_right w ht
  rw [Nat.add_mul, Nat.one_mul] at h1
  rw [Nat.mul_comm w hd]; omega
