/-! ===== p24: floats: a mean is at most the greatest, and not below 0 ===== -/
theorem fm_dec {c : Nat} {q : Int} (h1 : 8388608 ≤ c) (h2 : c < 16777216) (h3 : -149 ≤ q) (h4 : q ≤ 104) : FP.Core.decode FP.Core.b32 (UInt32.ofNat (FP.Core.encode FP.Core.b32 (.fin false c q))).toNat = .fin false c q := by
  rw [fl_nat32 (fl_fin32 false h2 h4)]
  show FP.Core.decode FP.Core.b32 (if c < FP.Core.b32.tails then FP.Core.assemble FP.Core.b32 false 0 c else FP.Core.assemble FP.Core.b32 false ((q - FP.Core.b32.qmin).toNat + 1) (c - FP.Core.b32.tails)) = _
  rw [fl_t32, if_neg (by omega), fl_q32]
  unfold FP.Core.assemble FP.Core.decode FP.Core.fieldE FP.Core.fieldT FP.Core.fieldS
  rw [fl_t32, fl_x32, fl_q32]
  have e0 : Bool.toNat false = 0 := rfl
  rw [e0, Nat.zero_mul, Nat.zero_add]
  obtain ⟨E, hE, hE2⟩ : ∃ E : Nat, (q - (-149)).toNat + 1 = E ∧ (E : Int) = q + 150 := ⟨_, rfl, by omega⟩
  rw [hE]
  have hEl : 1 ≤ E ∧ E ≤ 254 := by omega
  obtain ⟨t, ht⟩ : ∃ t, c = 8388608 + t := ⟨c - 8388608, by omega⟩
  subst ht
  rw [Nat.add_sub_cancel_left]
  have a1 : (E * 8388608 + t) / 8388608 = E := by omega
  have a2 : (E * 8388608 + t) % 8388608 = t := by omega
  rw [a1, a2, show E % 256 = E by omega, if_neg (by omega), if_neg (by omega), show E / 256 % 2 = 0 by omega]
  have e1 : ((0 : Nat) == 1) = false := rfl
  rw [e1, show (-149 : Int) + ((E : Int) - 1) = q by omega]
theorem fm_near {n d M : Nat} (hd : 0 < d) (h : n ≤ M * d) : FP.Core.nearest n d ≤ M := by
  have e := Nat.div_add_mod n d
  have hm := Nat.mod_lt n hd
  have h1 : n / d ≤ M := by
    have := Nat.div_le_div_right (c := d) h
    rwa [Nat.mul_div_cancel _ hd] at this
  have h2 : n / d = M → n % d = 0 := fun h2 => by
    rw [h2, Nat.mul_comm d M] at e
    omega
  unfold FP.Core.nearest
  split
  · exact h1
  · have h3 : n / d ≠ M := fun h3 => by have := h2 h3; omega
    split
    · omega
    · omega
theorem fm_near2 {n d M : Nat} (hd : 0 < d) (h : M * d ≤ n) : M ≤ FP.Core.nearest n d := by
  have h1 : M ≤ n / d := (Nat.le_div_iff_mul_le hd).mpr h
  unfold FP.Core.nearest
  split
  · exact h1
  · split <;> omega
theorem fm_i2f {x : Nat} (h1 : 1 ≤ x) (h2 : x < 8388608) : ∃ a : Nat, 1 ≤ a ∧ a ≤ 23 ∧ 8388608 ≤ x * 2 ^ a ∧ x * 2 ^ a < 16777216 ∧ FP.Core.decode FP.Core.b32 (FP.i2f (nI x)).toNat = .fin false (x * 2 ^ a) (-(a : Int)) := by
  have hx : x ≠ 0 := by omega
  have hl : x.log2 < 23 := (Nat.log2_lt hx).mpr h2
  have hlo : 2 ^ x.log2 ≤ x := Nat.log2_self_le hx
  have hhi : x < 2 ^ (x.log2 + 1) := Nat.lt_log2_self
  have hdec : ∀ L : Nat, x.log2 = L → L < 23 → ∃ a : Nat, a + L = 23 ∧ 8388608 ≤ x * 2 ^ a ∧ x * 2 ^ a < 16777216 := fun L e hL => by
    rw [e] at hlo hhi
    refine ⟨23 - L, by omega, ?_, ?_⟩
    · have h3 : 2 ^ L * 2 ^ (23 - L) ≤ x * 2 ^ (23 - L) := Nat.mul_le_mul_right _ hlo
      rw [← Nat.pow_add, show L + (23 - L) = 23 by omega] at h3
      exact h3
    · have h3 : x * 2 ^ (23 - L) < 2 ^ (L + 1) * 2 ^ (23 - L) := Nat.mul_lt_mul_of_pos_right hhi (Nat.two_pow_pos _)
      rw [← Nat.pow_add, show L + 1 + (23 - L) = 24 by omega] at h3
      exact h3
  obtain ⟨a, ha, h3, h4⟩ := hdec _ rfl hl
  refine ⟨a, by omega, by omega, h3, h4, ?_⟩
  have ei : (nI x).toInt = (x : Int) := nI_toInt (by omega)
  have hq : FP.Core.quantum FP.Core.b32 x 1 0 = -(a : Int) := by
    unfold FP.Core.quantum FP.Core.leading
    have el : Nat.log2 1 = 0 := by decide
    have ep : (FP.Core.b32.p : Int) = 24 := rfl
    simp only [el]
    rw [fl_q32, ep]
    have ek : ((x.log2 : Int) - ((0 : Nat) : Int)) = (x.log2 : Int) := by omega
    rw [ek, Int.toNat_natCast, if_pos]
    · omega
    · rw [Nat.one_mul, show (-(x.log2 : Int)).toNat = 0 by omega, Nat.pow_zero, Nat.mul_one]
      exact hlo
  have hr : FP.Core.round FP.Core.b32 (FP.Core.ofInt (x : Int)) = .fin false (x * 2 ^ a) (-(a : Int)) := by
    show FP.Core.roundRatio FP.Core.b32 (decide ((x : Int) < 0)) (x : Int).natAbs 1 0 = _
    rw [decide_eq_false (by omega), Int.natAbs_natCast]
    unfold FP.Core.roundRatio
    rw [if_neg hx, hq]
    unfold FP.Core.roundAt FP.Core.unitsNum FP.Core.unitsDen
    rw [show (0 - -(a : Int)).toNat = a by omega, show (-(a : Int) - 0).toNat = 0 by omega, Nat.pow_zero]
    have hn : FP.Core.nearest (x * 2 ^ a) (1 * 1) = x * 2 ^ a := by
      unfold FP.Core.nearest
      rw [if_pos (by omega)]
      omega
    rw [hn]
    unfold FP.Core.settle FP.Core.bound
    rw [if_pos (show x * 2 ^ a < 2 ^ FP.Core.b32.p from h4), fl_m32, if_pos (by omega)]
  show FP.Core.decode FP.Core.b32 (UInt32.ofNat (FP.Core.fromInt FP.Core.b32 (nI x).toInt)).toNat = _
  rw [ei]
  unfold FP.Core.fromInt
  rw [hr]
  exact fm_dec h3 h4 (by omega) (by omega)
theorem fm_cmp {c w d : Nat} {q : Int} {j : Nat} (hq : q = -(j : Int)) (h : c ≤ w * 2 ^ j) : FP.Core.order (.fin false c q) (.fin false (w * 2 ^ d) (-(d : Int))) ≠ some .gt := by
  subst hq
  unfold FP.Core.order FP.Core.signed FP.Core.inUnits
  intro h9
  have h9 := Option.some.inj h9
  have h8 : ((w * 2 ^ d * 2 ^ (-(d : Int) - min (-(j : Int)) (-(d : Int))).toNat : Nat) : Int) < ((c * 2 ^ (-(j : Int) - min (-(j : Int)) (-(d : Int))).toNat : Nat) : Int) := by
    simpa [Int.compare_eq_gt] using h9
  have h8 := Int.ofNat_lt.mp h8
  rcases Nat.le_total d j with hc | hc
  · rw [show (-(d : Int) - min (-(j : Int)) (-(d : Int))).toNat = j - d by omega, show (-(j : Int) - min (-(j : Int)) (-(d : Int))).toNat = 0 by omega, Nat.mul_assoc, ← Nat.pow_add, show d + (j - d) = j by omega, Nat.pow_zero, Nat.mul_one] at h8
    omega
  · rw [show (-(d : Int) - min (-(j : Int)) (-(d : Int))).toNat = 0 by omega, show (-(j : Int) - min (-(j : Int)) (-(d : Int))).toNat = d - j by omega, Nat.pow_zero, Nat.mul_one] at h8
    have h7 : c * 2 ^ (d - j) ≤ w * 2 ^ j * 2 ^ (d - j) := Nat.mul_le_mul_right _ h
    rw [Nat.mul_assoc, ← Nat.pow_add, show j + (d - j) = d by omega] at h7
    omega
theorem fm_zero {c : Nat} {q r : Int} : FP.Core.order (.fin false c q) (.fin false 0 r) ≠ some .lt := by
  unfold FP.Core.order FP.Core.signed FP.Core.inUnits
  intro h9
  have h9 := Option.some.inj h9
  rw [Nat.zero_mul] at h9
  have h8 : ((c * 2 ^ (q - min q r).toNat : Nat) : Int) < ((0 : Nat) : Int) := by
    simpa [Int.compare_eq_lt] using h9
  omega
/-- the quotient, as a number of its own -/
theorem fm_div {s n w : Nat} (h1 : 1 ≤ n) (hn : n ≤ 2000) (hs0 : 1 ≤ s) (hs1 : s < 4194304) (hs : s ≤ n * w) : ∃ c j : Nat, c ≤ w * 2 ^ j ∧ FP.Core.decode FP.Core.b32 (FP.fdiv (FP.i2f (nI s)) (FP.i2f (nI n))).toNat = .fin false c (-(j : Int)) := by
  obtain ⟨a, ha1, ha2, ha3, ha4, ha5⟩ := fm_i2f hs0 (show s < 8388608 by omega)
  obtain ⟨b, hb1, hb2, hb3, hb4, hb5⟩ := fm_i2f h1 (show n < 8388608 by omega)
  have ha9 : 1 < a := Nat.lt_of_not_le fun h => by
    have h9 : a = 1 := by omega
    subst h9
    omega
  have hsw : s * 2 ^ a ≤ w * 2 ^ a * n := by
    have h9 := Nat.mul_le_mul_right (2 ^ a) hs
    rw [Nat.mul_comm n w, Nat.mul_assoc w n, Nat.mul_comm n (2 ^ a), ← Nat.mul_assoc] at h9
    exact h9
  have e : FP.Core.quotient FP.Core.b32 (FP.Core.decode FP.Core.b32 (FP.i2f (nI s)).toNat) (FP.Core.decode FP.Core.b32 (FP.i2f (nI n)).toNat) = FP.Core.roundRatio FP.Core.b32 false (s * 2 ^ a) (n * 2 ^ b) ((b : Int) - a) := by
    rw [ha5, hb5]
    show (if n * 2 ^ b = 0 then _ else FP.Core.roundRatio FP.Core.b32 (false != false) (s * 2 ^ a) (n * 2 ^ b) (-(a : Int) - -(b : Int))) = _
    rw [if_neg (by omega), show -(a : Int) - -(b : Int) = (b : Int) - a by omega]
    rfl
  have lg : ∀ y : Nat, 8388608 ≤ y → y < 16777216 → y.log2 = 23 := fun y h2 h3 => by
    have h4 : y ≠ 0 := by omega
    have h5 := (Nat.log2_lt (k := 24) h4).mpr (by omega)
    have h6 := (Nat.le_log2 (k := 23) h4).mpr (by omega)
    omega
  show ∃ c j : Nat, c ≤ w * 2 ^ j ∧ FP.Core.decode FP.Core.b32 (UInt32.ofNat (FP.Core.encode FP.Core.b32 (FP.Core.quotient FP.Core.b32 (FP.Core.decode FP.Core.b32 (FP.i2f (nI s)).toNat) (FP.Core.decode FP.Core.b32 (FP.i2f (nI n)).toNat)))).toNat = .fin false c (-(j : Int))
  rw [e]
  -- the exponent
  have hq : ∃ j k : Nat, j + b = 23 + k + a ∧ k ≤ 1 ∧ FP.Core.quantum FP.Core.b32 (s * 2 ^ a) (n * 2 ^ b) ((b : Int) - a) = -(j : Int) ∧ n * 2 ^ b ≤ s * 2 ^ a * 2 ^ k ∧ s * 2 ^ a * 2 ^ k < 2 * (n * 2 ^ b) := by
    unfold FP.Core.quantum FP.Core.leading
    have ep : (FP.Core.b32.p : Int) = 24 := rfl
    rw [lg _ ha3 ha4, lg _ hb3 hb4, fl_q32, ep]
    simp only [Int.sub_self, Int.toNat_zero, Nat.pow_zero, Nat.mul_one, Int.neg_zero]
    by_cases hc : n * 2 ^ b ≤ s * 2 ^ a
    · rw [if_pos hc]
      exact ⟨23 + a - b, 0, by omega, by omega, by omega, by omega, by omega⟩
    · rw [if_neg hc]
      exact ⟨24 + a - b, 1, by omega, by omega, by omega, by omega, by omega⟩
  obtain ⟨j, k, hj, hk, hq, hl1, hl2⟩ := hq
  have hj2 : 2 ≤ j := by omega
  have hj48 : j ≤ 47 := by omega
  unfold FP.Core.roundRatio
  rw [if_neg (by omega), hq]
  unfold FP.Core.roundAt FP.Core.unitsNum FP.Core.unitsDen
  rw [show ((b : Int) - a - -(j : Int)).toNat = 23 + k by omega, show (-(j : Int) - ((b : Int) - a)).toNat = 0 by omega, Nat.pow_zero, Nat.mul_one]
  have hdp : 0 < n * 2 ^ b := by omega
  have hval : s * 2 ^ a * 2 ^ (23 + k) ≤ w * 2 ^ j * (n * 2 ^ b) := by
    have h3 : s * 2 ^ a * 2 ^ (23 + k) ≤ w * 2 ^ a * n * 2 ^ (23 + k) := Nat.mul_le_mul_right _ hsw
    have h4 : w * 2 ^ a * n * 2 ^ (23 + k) = w * 2 ^ j * (n * 2 ^ b) := by
      have e1 : 2 ^ a * 2 ^ (23 + k) = 2 ^ j * 2 ^ b := by rw [← Nat.pow_add, ← Nat.pow_add, hj, Nat.add_comm]
      calc w * 2 ^ a * n * 2 ^ (23 + k) = w * n * (2 ^ a * 2 ^ (23 + k)) := by
            rw [Nat.mul_assoc w, Nat.mul_comm (2 ^ a) n, ← Nat.mul_assoc w, Nat.mul_assoc (w * n)]
        _ = w * n * (2 ^ j * 2 ^ b) := by rw [e1]
        _ = w * 2 ^ j * (n * 2 ^ b) := by
            rw [Nat.mul_assoc w n, Nat.mul_assoc w (2 ^ j), Nat.mul_left_comm n]
    omega
  have hc1 := fm_near hdp hval
  have hk1 : 2 ^ (23 + k) = 8388608 * 2 ^ k := by rw [Nat.pow_add]
  have hc2 : 8388608 ≤ FP.Core.nearest (s * 2 ^ a * 2 ^ (23 + k)) (n * 2 ^ b) := fm_near2 hdp (by
    rw [hk1]
    have h9 := Nat.mul_le_mul_left 8388608 hl1
    have e9 : s * 2 ^ a * (8388608 * 2 ^ k) = 8388608 * (s * 2 ^ a * 2 ^ k) := Nat.mul_left_comm _ _ _
    omega)
  have hc3 : FP.Core.nearest (s * 2 ^ a * 2 ^ (23 + k)) (n * 2 ^ b) ≤ 16777216 := fm_near hdp (by
    rw [hk1, Nat.mul_left_comm]
    have : 8388608 * (s * 2 ^ a * 2 ^ k) ≤ 8388608 * (2 * (n * 2 ^ b)) := Nat.mul_le_mul_left _ (by omega)
    omega)
  generalize FP.Core.nearest (s * 2 ^ a * 2 ^ (23 + k)) (n * 2 ^ b) = c at hc1 hc2 hc3
  unfold FP.Core.settle FP.Core.bound
  have h5 : 2 ^ FP.Core.b32.p = 16777216 := by decide
  rw [h5, fl_m32, fl_t32]
  by_cases hc : c < 16777216
  · rw [if_pos hc, if_pos (by omega)]
    exact ⟨c, j, hc1, fm_dec hc2 hc (by omega) (by omega)⟩
  · rw [if_neg hc, if_pos (by omega)]
    obtain ⟨i, rfl⟩ : ∃ i, j = i + 1 := ⟨j - 1, by omega⟩
    refine ⟨8388608, i, ?_, ?_⟩
    · rw [Nat.pow_succ, ← Nat.mul_assoc] at hc1
      omega
    · rw [show -((i + 1 : Nat) : Int) + 1 = -(i : Int) by omega]
      exact fm_dec (by omega) (by omega) (by omega) (by omega)
theorem fm_i0 : FP.Core.decode FP.Core.b32 (FP.i2f (nI 0)).toNat = .fin false 0 (-149) := by decide +kernel
theorem fm_00 : FP.Core.decode FP.Core.b32 (0 : UInt32).toNat = .fin false 0 (-149) := by decide +kernel
theorem fm_mean {s n w : Nat} (h1 : 1 ≤ n) (hn : n ≤ 2000) (hw : w < 2000) (hs : s ≤ n * w) : FP.fcmp (FP.fdiv (FP.i2f (nI s)) (FP.i2f (nI n))) (FP.i2f (nI w)) ≠ some .gt ∧ FP.fcmp (FP.fdiv (FP.i2f (nI s)) (FP.i2f (nI n))) 0 ≠ some .lt ∧ FP.fcmp (FP.fdiv (FP.i2f (nI s)) (FP.i2f (nI n))) (FP.i2f (nI w)) ≠ none ∧ FP.fcmp (FP.fdiv (FP.i2f (nI s)) (FP.i2f (nI n))) 0 ≠ none := by
  have hs1 : s < 4194304 := by
    have := Nat.mul_le_mul hn (show w ≤ 1999 by omega)
    omega
  have hd : ∃ c j : Nat, c ≤ w * 2 ^ j ∧ (FP.Core.decode FP.Core.b32 (FP.fdiv (FP.i2f (nI s)) (FP.i2f (nI n))).toNat = .fin false c (-(j : Int))) := by
    by_cases h0 : s = 0
    · subst h0
      obtain ⟨b, hb1, hb2, hb3, hb4, hb5⟩ := fm_i2f h1 (show n < 8388608 by omega)
      refine ⟨0, 149, Nat.zero_le _, ?_⟩
      show FP.Core.decode FP.Core.b32 (UInt32.ofNat (FP.Core.encode FP.Core.b32 (FP.Core.quotient FP.Core.b32 (FP.Core.decode FP.Core.b32 (FP.i2f (nI 0)).toNat) (FP.Core.decode FP.Core.b32 (FP.i2f (nI n)).toNat)))).toNat = _
      rw [fm_i0, hb5]
      show FP.Core.decode FP.Core.b32 (UInt32.ofNat (FP.Core.encode FP.Core.b32 (if n * 2 ^ b = 0 then _ else FP.Core.roundRatio FP.Core.b32 (false != false) 0 (n * 2 ^ b) (-149 - -(b : Int))))).toNat = _
      rw [if_neg (by omega)]
      unfold FP.Core.roundRatio
      rw [if_pos rfl]
      decide +kernel
    · exact fm_div h1 hn (by omega) hs1 hs
  obtain ⟨c, j, hc, hd⟩ := hd
  have hW : ∃ d : Nat, FP.Core.decode FP.Core.b32 (FP.i2f (nI w)).toNat = .fin false (w * 2 ^ d) (-(d : Int)) := by
    by_cases h0 : w = 0
    · subst h0; exact ⟨149, by rw [fm_i0, Nat.zero_mul]; rfl⟩
    · obtain ⟨d, -, -, -, -, h⟩ := fm_i2f (show 1 ≤ w by omega) (show w < 8388608 by omega)
      exact ⟨d, h⟩
  obtain ⟨d, hW⟩ := hW
  refine ⟨?_, ?_, ?_, ?_⟩
  · show FP.Core.order (FP.Core.decode FP.Core.b32 _) (FP.Core.decode FP.Core.b32 _) ≠ _
    rw [hd, hW]
    exact fm_cmp rfl hc
  · show FP.Core.order (FP.Core.decode FP.Core.b32 _) (FP.Core.decode FP.Core.b32 (0 : UInt32).toNat) ≠ _
    rw [hd, fm_00]
    exact fm_zero
  · show FP.Core.order (FP.Core.decode FP.Core.b32 _) (FP.Core.decode FP.Core.b32 _) ≠ _
    rw [hd, hW]
    exact fun h => by cases h
  · show FP.Core.order (FP.Core.decode FP.Core.b32 _) (FP.Core.decode FP.Core.b32 (0 : UInt32).toNat) ≠ _
    rw [hd, fm_00]
    exact fun h => by cases h
