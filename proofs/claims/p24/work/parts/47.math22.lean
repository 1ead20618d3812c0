/-! ===== counting bits, rows of one byte ===== -/
def byt3 (x y z : Nat) : Nat := 2 ^ 8 * (2 ^ 8 * x + y) + z
theorem byt3_bit {x y z i : Nat} (hy : y < 2 ^ 8) (hz : z < 2 ^ 8) : (byt3 x y z).testBit i = if i < 8 then z.testBit i else if i < 16 then y.testBit (i - 8) else x.testBit (i - 16) := by
  unfold byt3
  rw [Nat.testBit_two_pow_mul_add _ hz]
  by_cases h : i < 8
  · rw [if_pos h, if_pos h]
  · rw [if_neg h, if_neg h, Nat.testBit_two_pow_mul_add _ hy]
    by_cases h2 : i < 16
    · rw [if_pos (by omega), if_pos h2]
    · rw [if_neg (by omega), if_neg h2, show i - 8 - 8 = i - 16 by omega]
theorem byt_m8 {k v i : Nat} (hv : v < 2 ^ (8 - k)) (hi : 8 - k ≤ i) : v.testBit i = false := bits_lt hv hi
theorem byt_mask {x y z k v : Nat} (hx : x < 2 ^ 8) (hy : y < 2 ^ 8) (hz : z < 2 ^ 8) (hv : v < 2 ^ (8 - k)) : (byt3 x y z >>> k) &&& (2 ^ 24 * v + byt3 v v v) = byt3 ((x >>> k) &&& v) ((y >>> k) &&& v) ((z >>> k) &&& v) := by
  have hv8 : v < 2 ^ 8 := Nat.lt_of_lt_of_le hv (Nat.pow_le_pow_right (by decide) (by omega))
  have hb : byt3 v v v < 2 ^ 24 := by unfold byt3; omega
  refine Nat.eq_of_testBit_eq (fun i => ?_)
  rw [Nat.testBit_and, Nat.testBit_shiftRight, byt3_bit hy hz, Nat.testBit_two_pow_mul_add _ hb, byt3_bit hv8 hv8, byt3_bit (Nat.lt_of_le_of_lt Nat.and_le_right hv8) (Nat.lt_of_le_of_lt Nat.and_le_right hv8), Nat.testBit_and, Nat.testBit_and, Nat.testBit_and, Nat.testBit_shiftRight, Nat.testBit_shiftRight, Nat.testBit_shiftRight]
  by_cases h1 : i < 8
  · rw [if_pos (show i < 24 by omega), if_pos h1, if_pos h1]
    by_cases h2 : i < 8 - k
    · rw [if_pos (by omega)]
    · rw [byt_m8 hv (by omega), Bool.and_false, Bool.and_false]
  · by_cases h3 : i < 16
    · rw [if_pos (show i < 24 by omega), if_neg h1, if_pos h3, if_neg h1, if_pos h3]
      by_cases h2 : i - 8 < 8 - k
      · rw [if_neg (by omega), if_pos (by omega), show k + i - 8 = k + (i - 8) by omega]
      · rw [byt_m8 hv (by omega), Bool.and_false, Bool.and_false]
    · rw [if_neg h1, if_neg h3]
      by_cases h5 : i < 24
      · rw [if_pos h5, if_neg h1, if_neg h3]
        by_cases h2 : i - 16 < 8 - k
        · rw [if_neg (by omega), if_neg (by omega), show k + i - 16 = k + (i - 16) by omega]
        · rw [byt_m8 hv (by omega), Bool.and_false, Bool.and_false]
      · simp only [if_neg h1, if_neg h3, if_neg h5, if_neg (show ¬ k + i < 8 by omega), if_neg (show ¬ k + i < 16 by omega)]
        rw [bits_lt hx (show 8 ≤ k + i - 16 by omega), byt_m8 hv (show 8 - k ≤ i - 16 by omega), Bool.and_false, Bool.false_and]
def bca (z : Nat) : Nat := z - ((z >>> 1) &&& 85)
def bcb (z : Nat) : Nat := (bca z &&& 51) + ((bca z >>> 2) &&& 51)
theorem bc_tab : ∀ z, z < 256 → (z >>> 1) &&& 85 ≤ z ∧ bcb z % 16 ≤ 4 ∧ bcb z / 16 ≤ 4 ∧ bcb z % 16 + bcb z / 16 = cnt z 8 := by decide +kernel
theorem cnt_lo {x z : Nat} (hz : z < 2 ^ 8) : ∀ n, n ≤ 8 → cnt (2 ^ 8 * x + z) n = cnt z n
  | 0, _ => rfl
  | n + 1, h => by
    show cnt (2 ^ 8 * x + z) n + ((2 ^ 8 * x + z) >>> n &&& 1) = cnt z n + (z >>> n &&& 1)
    rw [cnt_lo hz n (by omega)]
    congr 1
    refine Nat.eq_of_testBit_eq (fun i => ?_)
    rw [Nat.testBit_and, Nat.testBit_and, Nat.testBit_shiftRight, Nat.testBit_shiftRight, Nat.testBit_two_pow_mul_add _ hz]
    by_cases e : i = 0
    · subst e; rw [if_pos (by omega)]
    · have : Nat.testBit 1 i = false := by
        have := bits_lt (k := 1) (n := 1) (i := i) (by decide) (by omega)
        exact this
      rw [this, Bool.and_false, Bool.and_false]
theorem cnt_hi {x z : Nat} (hz : z < 2 ^ 8) : ∀ n, cnt (2 ^ 8 * x + z) (8 + n) = cnt z 8 + cnt x n
  | 0 => cnt_lo hz 8 (Nat.le_refl 8)
  | n + 1 => by
    show cnt (2 ^ 8 * x + z) (8 + n) + ((2 ^ 8 * x + z) >>> (8 + n) &&& 1) = cnt z 8 + (cnt x n + (x >>> n &&& 1))
    rw [cnt_hi hz n, Nat.add_assoc]
    congr 2
    refine Nat.eq_of_testBit_eq (fun i => ?_)
    rw [Nat.testBit_and, Nat.testBit_and, Nat.testBit_shiftRight, Nat.testBit_shiftRight, Nat.testBit_two_pow_mul_add _ hz, if_neg (by omega), show 8 + n + i - 8 = n + i by omega]
theorem byt_of {x : Nat} (h : x < 2 ^ 24) : ∃ a b c, a < 2 ^ 8 ∧ b < 2 ^ 8 ∧ c < 2 ^ 8 ∧ x = byt3 a b c := ⟨x / 65536, x / 256 % 256, x % 256, by omega, by omega, by omega, by unfold byt3; omega⟩
theorem bc_1 {x : Nat} (h : x < 2 ^ 24) : (x >>> 1) &&& 1431655765 ≤ x := by
  obtain ⟨a, b, c, ha, hb, hc, rfl⟩ := byt_of h
  have := byt_mask (k := 1) (v := 85) ha hb hc (by decide)
  rw [show 1431655765 = 2 ^ 24 * 85 + byt3 85 85 85 by decide, this]
  have h1 := (bc_tab a ha).1
  have h2 := (bc_tab b hb).1
  have h3 := (bc_tab c hc).1
  unfold byt3
  omega
def bc1 (x : Nat) : Nat := x - ((x >>> 1) &&& 1431655765)
def bc2 (x : Nat) : Nat := (bc1 x &&& 858993459) + ((bc1 x >>> 2) &&& 858993459)
def bc3 (x : Nat) : Nat := (bc2 x + bc2 x >>> 4) &&& 252645135
def bc4 (x : Nat) : Nat := bc3 x + bc3 x >>> 8
def bc5 (x : Nat) : Nat := bc4 x + bc4 x >>> 16
theorem bc_and0 {x y z v : Nat} (hx : x < 2 ^ 8) (hy : y < 2 ^ 8) (hz : z < 2 ^ 8) (hv : v < 2 ^ 8) : byt3 x y z &&& (2 ^ 24 * v + byt3 v v v) = byt3 (x &&& v) (y &&& v) (z &&& v) := byt_mask (k := 0) hx hy hz hv
theorem bc_all {x : Nat} (h : x < 2 ^ 24) : bc1 x < 2 ^ 24 ∧ bc2 x < 2 ^ 24 ∧ bc3 x < 2 ^ 24 ∧ bc4 x < 2 ^ 25 ∧ bc5 x < 2 ^ 26 ∧ bc5 x &&& 63 = cnt x 24 := by
  obtain ⟨a, b, c, ha, hb, hc, rfl⟩ := byt_of h
  obtain ⟨a0, a1, a2, a3⟩ := bc_tab a ha
  obtain ⟨b0, b1, b2, b3⟩ := bc_tab b hb
  obtain ⟨c0, c1, c2, c3⟩ := bc_tab c hc
  have e1 : bc1 (byt3 a b c) = byt3 (bca a) (bca b) (bca c) := by
    unfold bc1
    rw [show 1431655765 = 2 ^ 24 * 85 + byt3 85 85 85 by decide, byt_mask (k := 1) (v := 85) ha hb hc (by decide)]
    unfold byt3 bca
    omega
  have la : bca a < 2 ^ 8 := by unfold bca; omega
  have lb : bca b < 2 ^ 8 := by unfold bca; omega
  have lc : bca c < 2 ^ 8 := by unfold bca; omega
  have e2 : bc2 (byt3 a b c) = byt3 (bcb a) (bcb b) (bcb c) := by
    unfold bc2
    rw [e1, show 858993459 = 2 ^ 24 * 51 + byt3 51 51 51 by decide, byt_mask (k := 2) (v := 51) la lb lc (by decide), bc_and0 la lb lc (by decide)]
    unfold byt3 bcb
    omega
  have m15 : ∀ z, z &&& 15 = z % 16 := fun z => Nat.and_two_pow_sub_one_eq_mod z 4
  have e3 : bc3 (byt3 a b c) = byt3 (cnt a 8) (cnt b 8) (cnt c 8) := by
    unfold bc3
    rw [e2, Nat.shiftRight_eq_div_pow]
    have e : byt3 (bcb a) (bcb b) (bcb c) + byt3 (bcb a) (bcb b) (bcb c) / 2 ^ 4 = byt3 (bcb a + bcb a / 16) (bcb b + bcb b / 16 + 16 * (bcb a % 16)) (bcb c + bcb c / 16 + 16 * (bcb b % 16)) := by
      unfold byt3
      omega
    rw [e, show 252645135 = 2 ^ 24 * 15 + byt3 15 15 15 by decide, bc_and0 (by omega) (by omega) (by omega) (by decide), m15, m15, m15]
    congr 1 <;> omega
  have e4 : bc4 (byt3 a b c) = byt3 (cnt a 8) (cnt b 8) (cnt c 8) + byt3 (cnt a 8) (cnt b 8) (cnt c 8) / 2 ^ 8 := by unfold bc4; rw [e3, Nat.shiftRight_eq_div_pow]
  have e5 : bc5 (byt3 a b c) = bc4 (byt3 a b c) + bc4 (byt3 a b c) / 2 ^ 16 := by unfold bc5; rw [Nat.shiftRight_eq_div_pow]
  have e6 : cnt (byt3 a b c) 24 = cnt c 8 + (cnt b 8 + cnt a 8) := by
    show cnt (2 ^ 8 * (2 ^ 8 * a + b) + c) (8 + 16) = _
    rw [cnt_hi hc 16]
    show _ + cnt (2 ^ 8 * a + b) (8 + 8) = _
    rw [cnt_hi hb 8]
  have lba : bcb a < 256 := by omega
  have lbb : bcb b < 256 := by omega
  have lbc : bcb c < 256 := by omega
  have lA : cnt a 8 ≤ 8 := by omega
  have lB : cnt b 8 ≤ 8 := by omega
  have lC : cnt c 8 ≤ 8 := by omega
  have f3 : bc3 (byt3 a b c) = 65536 * cnt a 8 + 256 * cnt b 8 + cnt c 8 := by rw [e3]; unfold byt3; omega
  have f4 : bc4 (byt3 a b c) = 65536 * cnt a 8 + 256 * (cnt a 8 + cnt b 8) + (cnt b 8 + cnt c 8) := by
    show bc3 (byt3 a b c) + bc3 (byt3 a b c) >>> 8 = _
    rw [f3, Nat.shiftRight_eq_div_pow]
    clear e1 e2 e3 e4 e5 e6 f3
    omega
  have f5 : bc5 (byt3 a b c) = 65536 * cnt a 8 + 256 * (cnt a 8 + cnt b 8) + (cnt b 8 + cnt c 8) + cnt a 8 := by
    rw [e5, f4]
    clear e1 e2 e3 e4 e5 e6 f3 f4
    omega
  rw [f5, f4, f3, e2, e1, e6, Nat.and_two_pow_sub_one_eq_mod _ 6]
  unfold byt3
  clear e1 e2 e3 e4 e5 e6 f3 f4 f5
  refine ⟨?_, ?_, ?_, ?_, ?_, ?_⟩ <;> omega
/-! ===== the least and the greatest over the cells of a set ===== -/
def mnr (f : Nat → Nat) (g s0 : Nat) : Nat → Nat
  | 0 => s0
  | i + 1 => if g.testBit i then min (mnr f g s0 i) (f i) else mnr f g s0 i
def mxr (f : Nat → Nat) (g s0 : Nat) : Nat → Nat
  | 0 => s0
  | i + 1 => if g.testBit i then max (mxr f g s0 i) (f i) else mxr f g s0 i
theorem mnr_y {f : Nat → Nat} {g s0 i v : Nat} (h : g.testBit i = true) (hv : f i = v) : min (mnr f g s0 i) v = mnr f g s0 (i + 1) := by
  show _ = if g.testBit i then min (mnr f g s0 i) (f i) else mnr f g s0 i
  rw [if_pos h, hv]
theorem mxr_y {f : Nat → Nat} {g s0 i v : Nat} (h : g.testBit i = true) (hv : f i = v) : max (mxr f g s0 i) v = mxr f g s0 (i + 1) := by
  show _ = if g.testBit i then max (mxr f g s0 i) (f i) else mxr f g s0 i
  rw [if_pos h, hv]
theorem mnr_n {f : Nat → Nat} {g s0 i : Nat} (h : ¬ g.testBit i = true) : mnr f g s0 i = mnr f g s0 (i + 1) := by
  show _ = if g.testBit i then min (mnr f g s0 i) (f i) else mnr f g s0 i
  rw [if_neg h]
theorem mxr_n {f : Nat → Nat} {g s0 i : Nat} (h : ¬ g.testBit i = true) : mxr f g s0 i = mxr f g s0 (i + 1) := by
  show _ = if g.testBit i then max (mxr f g s0 i) (f i) else mxr f g s0 i
  rw [if_neg h]
theorem mnr_s {f : Nat → Nat} {g s0 : Nat} : ∀ n, mnr f g s0 n ≤ s0 ∧ (∀ i, i < n → g.testBit i = true → mnr f g s0 n ≤ f i) ∧ (mnr f g s0 n = s0 ∨ ∃ i, i < n ∧ g.testBit i = true ∧ f i = mnr f g s0 n)
  | 0 => ⟨Nat.le_refl _, fun i h => absurd h (Nat.not_lt_zero i), Or.inl rfl⟩
  | n + 1 => by
    obtain ⟨h1, h2, h3⟩ := mnr_s (f := f) (g := g) (s0 := s0) n
    by_cases h : g.testBit n = true
    · rw [← mnr_y h rfl]
      refine ⟨by omega, fun i hi hb => ?_, ?_⟩
      · by_cases e : i = n
        · subst e; omega
        · have := h2 i (by omega) hb; omega
      · by_cases hc : f n < mnr f g s0 n
        · exact Or.inr ⟨n, by omega, h, by omega⟩
        · rw [show min (mnr f g s0 n) (f n) = mnr f g s0 n by omega]
          rcases h3 with e | ⟨i, hi, hb, e⟩
          · exact Or.inl e
          · exact Or.inr ⟨i, by omega, hb, e⟩
    · rw [← mnr_n h]
      refine ⟨h1, fun i hi hb => ?_, ?_⟩
      · by_cases e : i = n
        · subst e; exact absurd hb h
        · exact h2 i (by omega) hb
      · rcases h3 with e | ⟨i, hi, hb, e⟩
        · exact Or.inl e
        · exact Or.inr ⟨i, by omega, hb, e⟩
theorem mxr_s {f : Nat → Nat} {g s0 : Nat} : ∀ n, s0 ≤ mxr f g s0 n ∧ (∀ i, i < n → g.testBit i = true → f i ≤ mxr f g s0 n) ∧ (mxr f g s0 n = s0 ∨ ∃ i, i < n ∧ g.testBit i = true ∧ f i = mxr f g s0 n)
  | 0 => ⟨Nat.le_refl _, fun i h => absurd h (Nat.not_lt_zero i), Or.inl rfl⟩
  | n + 1 => by
    obtain ⟨h1, h2, h3⟩ := mxr_s (f := f) (g := g) (s0 := s0) n
    by_cases h : g.testBit n = true
    · rw [← mxr_y h rfl]
      refine ⟨by omega, fun i hi hb => ?_, ?_⟩
      · by_cases e : i = n
        · subst e; omega
        · have := h2 i (by omega) hb; omega
      · by_cases hc : mxr f g s0 n < f n
        · exact Or.inr ⟨n, by omega, h, by omega⟩
        · rw [show max (mxr f g s0 n) (f n) = mxr f g s0 n by omega]
          rcases h3 with e | ⟨i, hi, hb, e⟩
          · exact Or.inl e
          · exact Or.inr ⟨i, by omega, hb, e⟩
    · rw [← mxr_n h]
      refine ⟨h1, fun i hi hb => ?_, ?_⟩
      · by_cases e : i = n
        · subst e; exact absurd hb h
        · exact h2 i (by omega) hb
      · rcases h3 with e | ⟨i, hi, hb, e⟩
        · exact Or.inl e
        · exact Or.inr ⟨i, by omega, hb, e⟩
/-- the box as the component finds it is the reference's -/
theorem box_eq {w hd g : Nat} (hw : 1 ≤ w) (hw6 : w ≤ 6) (hh6 : hd ≤ 6) (hg : g < 2 ^ (w * hd)) (hne : ∃ i, g.testBit i = true) :
    mnr (fun i => i % w) g w (w * hd) = bxl w g (w * hd) ∧ mxr (fun i => i % w) g 0 (w * hd) = bxr w g (w * hd) ∧ mnr (fun i => i / w) g hd (w * hd) = bxt w g (w * hd) ∧ mxr (fun i => i / w) g 0 (w * hd) = bxb w g (w * hd) := by
  obtain ⟨x1, x2, x3, x4, x5, ⟨a, ha, ea⟩, ⟨b, hb, eb⟩, ⟨c, hc, ec⟩, ⟨d, hd', ed⟩⟩ := box_s hw hw6 hh6 hg hne
  have lt : ∀ i, g.testBit i = true → i < w * hd := fun i hi => Nat.lt_of_not_le (fun h => by rw [bits_lt hg h] at hi; cases hi)
  obtain ⟨a1, a2, a3⟩ := mnr_s (f := fun i => i % w) (g := g) (s0 := w) (w * hd)
  obtain ⟨b1, b2, b3⟩ := mxr_s (f := fun i => i % w) (g := g) (s0 := 0) (w * hd)
  obtain ⟨c1, c2, c3⟩ := mnr_s (f := fun i => i / w) (g := g) (s0 := hd) (w * hd)
  obtain ⟨d1, d2, d3⟩ := mxr_s (f := fun i => i / w) (g := g) (s0 := 0) (w * hd)
  have a4 := a2 a (lt a ha) ha
  have b4 := b2 b (lt b hb) hb
  have c4 := c2 c (lt c hc) hc
  have d4 := d2 d (lt d hd') hd'
  try simp only at a4 b4 c4 d4 a3 b3 c3 d3
  refine ⟨?_, ?_, ?_, ?_⟩
  · rcases a3 with e | ⟨i, hi, hbi, e⟩
    · omega
    · have := (x5 i hbi).1; omega
  · rcases b3 with e | ⟨i, hi, hbi, e⟩
    · omega
    · have := (x5 i hbi).2.1; omega
  · rcases c3 with e | ⟨i, hi, hbi, e⟩
    · omega
    · have := (x5 i hbi).2.2.1; omega
  · rcases d3 with e | ⟨i, hi, hbi, e⟩
    · omega
    · have := (x5 i hbi).2.2.2; omega
/-! ===== one set grown: the component's way ===== -/
theorem andn_le (a b : Nat) : andn a b ≤ a := by
  have h : a &&& andn a b = andn a b := Nat.eq_of_testBit_eq (fun i => by rw [Nat.testBit_and, andn_bit]; cases a.testBit i <;> simp)
  rw [← h]; exact Nat.and_le_left
theorem shl1_bit {i j : Nat} : (1 <<< i).testBit j = decide (i = j) := by
  rw [Nat.one_shiftLeft]; exact Nat.testBit_two_pow
theorem spr_bit {wd hd s j : Nat} : ∀ n, (spr wd hd s n).testBit j = true ↔ s.testBit j = true ∨ ∃ i, i < n ∧ s.testBit i = true ∧ ((0 < i % wd ∧ i = j + 1) ∨ (i % wd < wd - 1 ∧ i + 1 = j) ∨ (wd ≤ i ∧ i = j + wd) ∨ (i + wd < wd * hd ∧ i + wd = j))
  | 0 => ⟨fun h => Or.inl h, fun h => h.elim id (fun ⟨i, hi, _⟩ => absurd hi (Nat.not_lt_zero i))⟩
  | n + 1 => by
    have ih := spr_bit (wd := wd) (hd := hd) (s := s) (j := j) n
    have hs : (spr wd hd s n).testBit j = true → s.testBit j = true ∨ ∃ i, i < n + 1 ∧ s.testBit i = true ∧ ((0 < i % wd ∧ i = j + 1) ∨ (i % wd < wd - 1 ∧ i + 1 = j) ∨ (wd ≤ i ∧ i = j + wd) ∨ (i + wd < wd * hd ∧ i + wd = j)) := fun h => (ih.mp h).imp id (fun ⟨i, hi, h2⟩ => ⟨i, by omega, h2⟩)
    show (if s.testBit n then (((spr wd hd s n ||| spr1 wd n) ||| spr2 wd n) ||| spr3 wd n) ||| spr4 wd hd n else spr wd hd s n).testBit j = true ↔ _
    have p1 : (spr1 wd n).testBit j = true ↔ 0 < n % wd ∧ n = j + 1 := by
      unfold spr1; split
      · rename_i h; have := mod_pos (i := n) (w := wd) (by omega)
        rw [shl1_bit, decide_eq_true_eq]; omega
      · simp; omega
    have p2 : (spr2 wd n).testBit j = true ↔ n % wd < wd - 1 ∧ n + 1 = j := by
      unfold spr2; split
      · rw [shl1_bit, decide_eq_true_eq]; omega
      · simp; omega
    have p3 : (spr3 wd n).testBit j = true ↔ wd ≤ n ∧ n = j + wd := by
      unfold spr3; split
      · rw [shl1_bit, decide_eq_true_eq]; omega
      · simp; omega
    have p4 : (spr4 wd hd n).testBit j = true ↔ n + wd < wd * hd ∧ n + wd = j := by
      unfold spr4; split
      · rw [shl1_bit, decide_eq_true_eq]; omega
      · simp; omega
    by_cases h : s.testBit n = true
    · rw [if_pos h]
      simp only [Nat.testBit_or, Bool.or_eq_true, p1, p2, p3, p4]
      constructor
      · rintro ((((h1 | h1) | h1) | h1) | h1)
        · exact hs h1
        · exact Or.inr ⟨n, by omega, h, Or.inl h1⟩
        · exact Or.inr ⟨n, by omega, h, Or.inr (Or.inl h1)⟩
        · exact Or.inr ⟨n, by omega, h, Or.inr (Or.inr (Or.inl h1))⟩
        · exact Or.inr ⟨n, by omega, h, Or.inr (Or.inr (Or.inr h1))⟩
      · rintro (h1 | ⟨i, hi, h2, h3⟩)
        · exact Or.inl (Or.inl (Or.inl (Or.inl (ih.mpr (Or.inl h1)))))
        · by_cases e : i = n
          · subst e
            rcases h3 with h3 | h3 | h3 | h3
            · exact Or.inl (Or.inl (Or.inl (Or.inr h3)))
            · exact Or.inl (Or.inl (Or.inr h3))
            · exact Or.inl (Or.inr h3)
            · exact Or.inr h3
          · exact Or.inl (Or.inl (Or.inl (Or.inl (ih.mpr (Or.inr ⟨i, by omega, h2, h3⟩)))))
    · rw [if_neg h]
      constructor
      · exact hs
      · rintro (h1 | ⟨i, hi, h2, h3⟩)
        · exact ih.mpr (Or.inl h1)
        · have : i ≠ n := fun e => h (by rw [← e]; exact h2)
          exact ih.mpr (Or.inr ⟨i, by omega, h2, h3⟩)
theorem join_step {wd hd s g : Nat} (hw : 1 ≤ wd) (hs : s < 2 ^ (wd * hd)) (hg : g < 2 ^ (wd * hd)) : ((((s ||| andn s (rcv wd hd) <<< 1) ||| andn s (lcv wd hd) >>> 1) ||| s <<< wd) ||| s >>> wd) &&& g = spr wd hd s (wd * hd) &&& g := by
  have lt : ∀ i, s.testBit i = true → i < wd * hd := fun i hi => Nat.lt_of_not_le (fun h => by rw [bits_lt hs h] at hi; cases hi)
  have dv : ∀ i, i < wd * hd → i / wd < hd := fun i hi => (Nat.div_lt_iff_lt_mul hw).mpr (by rw [Nat.mul_comm]; exact hi)
  refine Nat.eq_of_testBit_eq (fun j => ?_)
  rw [Nat.testBit_and, Nat.testBit_and]
  cases hgj : g.testBit j with
  | false => rw [Bool.and_false, Bool.and_false]
  | true =>
    have hj : j < wd * hd := Nat.lt_of_not_le (fun h => by rw [bits_lt hg h] at hgj; cases hgj)
    rw [Bool.and_true, Bool.and_true]
    have hr : ∀ i, (rcv wd hd).testBit i = true ↔ i % wd = wd - 1 ∧ i / wd < hd := fun i => rcv_bit hw
    have hl : ∀ i, (lcv wd hd).testBit i = true ↔ i % wd = 0 ∧ i / wd < hd := fun i => lcv_bit hw
    rw [Bool.eq_iff_iff, spr_bit]
    simp only [Nat.testBit_or, Bool.or_eq_true, Nat.testBit_shiftLeft, Nat.testBit_shiftRight, andn_bit, Bool.and_eq_true, decide_eq_true_eq, Bool.not_eq_true']
    constructor
    · rintro ((((h | ⟨h1, h2, h3⟩) | ⟨h2, h3⟩) | ⟨h1, h2⟩) | h2)
      · exact Or.inl h
      · refine Or.inr ⟨j - 1, lt _ h2, h2, Or.inr (Or.inl ⟨?_, by omega⟩)⟩
        have hm := Nat.mod_lt (j - 1) hw
        have : ¬ (j - 1) % wd = wd - 1 := fun e => by
          rw [(hr (j - 1)).mpr ⟨e, dv _ (lt _ h2)⟩] at h3; cases h3
        omega
      · refine Or.inr ⟨1 + j, lt _ h2, h2, Or.inl ⟨Nat.pos_of_ne_zero fun e => ?_, by omega⟩⟩
        rw [(hl (1 + j)).mpr ⟨e, dv _ (lt _ h2)⟩] at h3; cases h3
      · exact Or.inr ⟨j - wd, lt _ h2, h2, Or.inr (Or.inr (Or.inr ⟨by omega, by omega⟩))⟩
      · exact Or.inr ⟨wd + j, lt _ h2, h2, Or.inr (Or.inr (Or.inl ⟨by omega, by omega⟩))⟩
    · rintro (h | ⟨i, hi, h2, h3 | h3 | h3 | h3⟩)
      · exact Or.inl (Or.inl (Or.inl (Or.inl h)))
      · obtain ⟨h3, rfl⟩ := h3
        rw [Nat.add_comm] at h2 h3
        refine Or.inl (Or.inl (Or.inr ⟨h2, ?_⟩))
        cases hq : (lcv wd hd).testBit (1 + j) with
        | false => rfl
        | true => have := ((hl _).mp hq).1; omega
      · obtain ⟨h3, rfl⟩ := h3
        refine Or.inl (Or.inl (Or.inl (Or.inr ⟨by omega, by rw [Nat.add_sub_cancel]; exact h2, ?_⟩)))
        rw [Nat.add_sub_cancel]
        cases hq : (rcv wd hd).testBit i with
        | false => rfl
        | true => have := ((hr _).mp hq).1; omega
      · obtain ⟨h3, rfl⟩ := h3
        rw [Nat.add_comm] at h2
        exact Or.inr h2
      · obtain ⟨h3, rfl⟩ := h3
        exact Or.inl (Or.inr ⟨by omega, by rw [Nat.add_sub_cancel]; exact h2⟩)
theorem grow_s {wd hd g i : Nat} (hw : 1 ≤ wd) (hg : g < 2 ^ (wd * hd)) (h31 : g < 2 ^ 31) : ((((grow wd hd g i ||| andn (grow wd hd g i) (rcv wd hd) <<< 1) ||| andn (grow wd hd g i) (lcv wd hd) >>> 1) ||| grow wd hd g i <<< wd) ||| grow wd hd g i >>> wd) &&& g = grow wd hd g (i + 1) :=
  join_step hw (Nat.lt_of_le_of_lt (grow_le h31 i) hg) hg
/-! ===== steps in keys ===== -/
theorem shl_neg : ∀ n, n < 32 → ∀ b, b < 7 → (-nI n).toInt64 <<< ((nI (5 * (6 - b))).toInt64 &&& 63) = -(lN (n * 2 ^ (5 * (6 - b)))) := by decide +kernel
theorem wth_add {k b q : Nat} : wth k b q + plc k b * 2 ^ (5 * (6 - b)) = k + q * 2 ^ (5 * (6 - b)) := by
  unfold wth plc
  have h1 := Nat.div_add_mod' k (2 ^ (5 * (6 - b)))
  have h2 := Nat.div_add_mod' (k / 2 ^ (5 * (6 - b))) 32
  have h3 : k / 2 ^ (5 * (6 - b)) / 32 = k / 2 ^ (5 * (6 - b) + 5) := by rw [Nat.div_div_eq_div_mul, Nat.pow_add]
  rw [h3] at h2
  have h4 : 2 ^ (5 * (6 - b) + 5) = 32 * 2 ^ (5 * (6 - b)) := by rw [Nat.pow_add, Nat.mul_comm]
  have h5 : k / 2 ^ (5 * (6 - b) + 5) * 2 ^ (5 * (6 - b) + 5) + k / 2 ^ (5 * (6 - b)) % 32 * 2 ^ (5 * (6 - b)) = k / 2 ^ (5 * (6 - b)) * 2 ^ (5 * (6 - b)) := by
    rw [h4, ← Nat.mul_assoc, ← Nat.add_mul, ← h4, h2]
  omega
theorem key_dn {k b n : Nat} (hb : b < 7) (hn : n ≤ plc k b) : lN k + (-nI n).toInt64 <<< ((nI (5 * (6 - b))).toInt64 &&& 63) = lN (wth k b (plc k b - n)) := by
  have hp := plc_lt k b
  rw [shl_neg n (by omega) b hb]
  have h := wth_add (k := k) (b := b) (q := plc k b - n)
  rw [Nat.sub_mul] at h
  have h2 : n * 2 ^ (5 * (6 - b)) ≤ plc k b * 2 ^ (5 * (6 - b)) := Nat.mul_le_mul_right _ hn
  rw [show k = wth k b (plc k b - n) + n * 2 ^ (5 * (6 - b)) by omega, ← lN_add, Int64.add_assoc, Int64.add_right_neg, Int64.add_zero, show wth k b (plc k b - n) + n * 2 ^ (5 * (6 - b)) = k by omega]
theorem key_up {k b n : Nat} (hb : b < 7) (hn : n < 2 ^ 31) : lN k + (nI n).toInt64 <<< ((nI (5 * (6 - b))).toInt64 &&& 63) = lN (wth k b (plc k b + n)) := by
  rw [nI_l hn, wb_shl n (by omega), lN_add]
  congr 1
  have h := wth_add (k := k) (b := b) (q := plc k b + n)
  rw [Nat.add_mul] at h
  omega
/-- a place and the way to the next one -/
theorem stp_offs {wd hd w h p d q : Nat} (hw : 1 ≤ wd) (hs : stp wd hd w h p d = some q) : (offs wd d = -nI wd ∧ wd ≤ p ∧ q = p - wd) ∨ (offs wd d = nI 1 ∧ q = p + 1) ∨ (offs wd d = nI wd ∧ q = p + wd) ∨ (offs wd d = -nI 1 ∧ 1 ≤ p ∧ q = p - 1) := by
  have hm : p % wd ≤ p := Nat.mod_le p wd
  unfold stp at hs
  split at hs
  · rename_i e; subst e
    split at hs
    · rename_i hy
      cases hs
      refine Or.inl ⟨rfl, ?_, rfl⟩
      have h1 := Nat.div_add_mod' p wd
      have h2 : 1 * wd ≤ p / wd * wd := Nat.mul_le_mul_right _ hy
      omega
    · cases hs
  · split at hs
    · rename_i e; subst e
      split at hs
      · cases hs; exact Or.inr (Or.inl ⟨rfl, rfl⟩)
      · cases hs
    · split at hs
      · rename_i e; subst e
        split at hs
        · cases hs; exact Or.inr (Or.inr (Or.inl ⟨rfl, rfl⟩))
        · cases hs
      · split at hs
        · rename_i h0 h1 h2 hx
          cases hs
          refine Or.inr (Or.inr (Or.inr ⟨?_, by omega, rfl⟩))
          match d, h0, h1, h2 with
          | 0, h, _, _ => exact absurd rfl h
          | 1, _, h, _ => exact absurd rfl h
          | 2, _, _, h => exact absurd rfl h
          | d + 3, _, _, _ => rfl
        · cases hs
theorem offs_add {wd hd w h p d q : Nat} (hw : 1 ≤ wd) (hs : stp wd hd w h p d = some q) : nI p + offs wd d = nI q := by
  rcases stp_offs hw hs with ⟨e, h1, rfl⟩ | ⟨e, rfl⟩ | ⟨e, rfl⟩ | ⟨e, h1, rfl⟩ <;> rw [e]
  · rw [← Int32.sub_eq_add_neg, pk_sub h1]
  · rw [nI_add]
  · rw [nI_add]
  · rw [← Int32.sub_eq_add_neg, pk_sub h1]
theorem offs_key {wd hd w h k b d q : Nat} (hw : 1 ≤ wd) (hw6 : wd ≤ 6) (hb : b < 7) (hs : stp wd hd w h (plc k b) d = some q) : lN k + (offs wd d).toInt64 <<< ((nI (5 * (6 - b))).toInt64 &&& 63) = lN (wth k b q) := by
  rcases stp_offs hw hs with ⟨e, h1, rfl⟩ | ⟨e, rfl⟩ | ⟨e, rfl⟩ | ⟨e, h1, rfl⟩ <;> rw [e]
  · exact key_dn hb h1
  · exact key_up hb (by decide)
  · exact key_up hb (by omega)
  · exact key_dn hb h1
theorem key_to {k b q : Nat} (hb : b < 7) (hq : q < 32) : lN k + (nI q - nI (plc k b)).toInt64 <<< ((nI (5 * (6 - b))).toInt64 &&& 63) = lN (wth k b q) := by
  have hp := plc_lt k b
  by_cases h : plc k b ≤ q
  · rw [pk_sub h, key_up hb (by omega), show plc k b + (q - plc k b) = q by omega]
  · have e : nI q - nI (plc k b) = -nI (plc k b - q) := by
      rw [← Int32.neg_sub, pk_sub (by omega)]
    rw [e, key_dn hb (by omega), show plc k b - (plc k b - q) = q by omega]
/-! ===== the others' cells ===== -/
theorem tkp_others {wd hd nb wl b : Nat} {sh bw bh ps : Nat → Nat} (hn7 : nb ≤ 7) (hps : ∀ b, b < nb → ps b < 32) (hk : KV wd hd nb wl sh bw bh none (pkey ps nb)) (hb : b < nb) : andn (tkp wl sh ps nb) (sh b <<< ps b) = tk wl sh (pkey ps nb) (exb none (some b)) nb := by
  rw [tkp_tk hn7 hps nb (Nat.le_refl nb)]
  have hpe : ∀ c, c < nb → plc (pkey ps nb) c = ps c := fun c hc => plc_pkey hn7 hps c hc
  obtain ⟨-, h1, h2⟩ := hk.2.2 b hb (fun h => by cases h)
  rw [hpe b hb] at h1
  refine Nat.eq_of_testBit_eq (fun i => ?_)
  rw [andn_bit, Bool.eq_iff_iff, Bool.and_eq_true, tk_bit, tk_bit, Bool.not_eq_true']
  constructor
  · rintro ⟨h | ⟨c, hc, -, h⟩, hn⟩
    · exact Or.inl h
    · refine Or.inr ⟨c, hc, exb_f.mpr ⟨fun e => ?_, fun e => by cases e⟩, h⟩
      cases e
      rw [hpe b hb, hn] at h; cases h
  · rintro (h | ⟨c, hc, he, h⟩)
    · refine ⟨Or.inl h, ?_⟩
      cases hq : (sh b <<< ps b).testBit i with
      | false => rfl
      | true => exact (and_zero.mp h1 i hq h).elim
    · refine ⟨Or.inr ⟨c, hc, rfl, h⟩, ?_⟩
      have h3 := h2 c hc (fun h => by cases h) (fun e => (exb_f.mp he).1 (by rw [e]))
      rw [hpe b hb] at h3
      cases hq : (sh b <<< ps b).testBit i with
      | false => rfl
      | true => exact (and_zero.mp h3 i hq h).elim
theorem dset_bit {m : Nat → Option Nat} : ∀ {n d : Nat}, (dset m n).testBit d = true ↔ d < n ∧ (m d).isSome = true
  | 0, d => by
    show Nat.testBit 0 d = true ↔ _
    rw [Nat.zero_testBit]
    exact ⟨fun h => (by cases h), fun h => absurd h.1 (Nat.not_lt_zero d)⟩
  | n + 1, d => by
    have ih := dset_bit (m := m) (n := n) (d := d)
    by_cases h : (m n).isSome = true
    · rw [← dset_y h, Nat.testBit_or, Bool.or_eq_true, ih, shl1_bit, decide_eq_true_eq]
      constructor
      · rintro (h1 | rfl)
        · exact ⟨by omega, h1.2⟩
        · exact ⟨by omega, h⟩
      · rintro ⟨h1, h2⟩
        by_cases e : n = d
        · exact Or.inr e
        · exact Or.inl ⟨by omega, h2⟩
    · rw [← dset_n h, ih]
      constructor
      · rintro ⟨h1, h2⟩; exact ⟨by omega, h2⟩
      · rintro ⟨h1, h2⟩
        exact ⟨Nat.lt_of_le_of_ne (by omega) (fun e => h (by rw [← e]; exact h2)), h2⟩
theorem dset_no {m : Nat → Option Nat} {d : Nat} (hd : d < 4) (h : (dset m 4 >>> d) &&& 1 = 0) : m d = none := by
  cases e : m d with
  | none => rfl
  | some x =>
    have := bit_1.mpr (dset_bit.mpr ⟨hd, show (m d).isSome = true by rw [e]; rfl⟩)
    omega
theorem dset_yes {m : Nat → Option Nat} {d : Nat} (h : 0 < (dset m 4 >>> d) &&& 1) : ∃ x, m d = some x := by
  have h1 := bit_and1 (x := dset m 4) (i := d)
  have h2 := (dset_bit.mp (bit_1.mp (show (dset m 4 >>> d) &&& 1 = 1 by omega))).2
  exact Option.isSome_iff_exists.mp h2
theorem dset_lt4 (m : Nat → Option Nat) : dset m 4 < 2 ^ 4 := lt_of_bits (fun i hi => by
  cases h : (dset m 4).testBit i with
  | false => rfl
  | true => have := (dset_bit.mp h).1; omega)
theorem cntF_up {F : Nat → Option Nat} {q e : Nat} (hF : F q = none) : ∀ n, cntF (va_up F q (some (e + 1))) n = cntF F n + (if q < n then 1 else 0)
  | 0 => by rw [if_neg (Nat.not_lt_zero q)]; rfl
  | n + 1 => by
    show cntF (va_up F q (some (e + 1))) n + (if isMv true (va_up F q (some (e + 1)) n) then 1 else 0) = cntF F n + (if isMv true (F n) then 1 else 0) + _
    rw [cntF_up hF n]
    by_cases h : q = n
    · subst h
      rw [up_eq, hF]
      simp [isMv]
    · rw [up_ne F (fun e => h e.symm)]
      by_cases h2 : q < n
      · rw [if_pos h2, if_pos (show q < n + 1 by omega)]; omega
      · rw [if_neg h2, if_neg (show ¬ q < n + 1 by omega)]; omega
theorem cntF_0 {F : Nat → Option Nat} (h : ∀ i d, F i = some d → d = 0) : ∀ n, cntF F n = 0
  | 0 => rfl
  | n + 1 => by
    show cntF F n + (if isMv true (F n) then 1 else 0) = 0
    rw [cntF_0 h n]
    cases e : F n with
    | none => rfl
    | some d => rw [h n d e]; rfl
theorem mm_min {x y : Nat} (h1 : x < 2 ^ 31) (h2 : y < 2 ^ 31) : (if nI y < nI x then nI y else nI x) = nI (min x y) := by
  by_cases h : nI y < nI x
  · rw [if_pos h]; have := (nI_ltI h2 h1).mp h; rw [Nat.min_eq_right (by omega)]
  · rw [if_neg h]; have : ¬ y < x := fun q => h ((nI_ltI h2 h1).mpr q); rw [Nat.min_eq_left (by omega)]
theorem mm_max {x y : Nat} (h1 : x < 2 ^ 31) (h2 : y < 2 ^ 31) : (if nI x < nI y then nI y else nI x) = nI (max x y) := by
  by_cases h : nI x < nI y
  · rw [if_pos h]; have := (nI_ltI h1 h2).mp h; rw [Nat.max_eq_right (by omega)]
  · rw [if_neg h]; have : ¬ x < y := fun q => h ((nI_ltI h1 h2).mpr q); rw [Nat.max_eq_left (by omega)]
