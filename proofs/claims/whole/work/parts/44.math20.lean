/-- the component's set of all cells is the reference's -/
theorem tkp_tk {wl nb : Nat} {sh ps : Nat → Nat} (hn7 : nb ≤ 7) (hps : ∀ b, b < nb → ps b < 32) : ∀ n, n ≤ nb → tkp wl sh ps n = tk wl sh (pkey ps nb) (fun _ => false) n
  | 0, _ => rfl
  | n + 1, h => by
    show tkp wl sh ps n ||| sh n <<< ps n = (if false = true then _ else _)
    rw [if_neg (by decide), tkp_tk hn7 hps n (by omega), plc_pkey hn7 hps n (by omega)]
theorem wth_or0 {k b q : Nat} (hq : q < 32) (h0 : plc k b = 0) : wth k b q = k ||| q * 2 ^ (5 * (6 - b)) := by
  refine Nat.eq_of_testBit_eq (fun i => ?_)
  rw [wth_bit hq, Nat.testBit_or, Nat.mul_comm q, Nat.testBit_two_pow_mul]
  have hb : ∀ j, j < 5 → k.testBit (5 * (6 - b) + j) = false := fun j hj => by
    have h1 := plc_bit k b j
    rw [h0, Nat.zero_testBit] at h1
    simpa [hj] using h1.symm
  by_cases h1 : i < 5 * (6 - b)
  · rw [if_pos h1]; simp [show ¬ 5 * (6 - b) ≤ i by omega]
  · rw [if_neg h1]
    by_cases h2 : i < 5 * (6 - b) + 5
    · have h3 := hb (i - 5 * (6 - b)) (by omega)
      rw [Nat.add_sub_cancel' (by omega)] at h3
      rw [if_pos h2, h3]; simp [show 5 * (6 - b) ≤ i by omega]
    · rw [if_neg h2]
      have h4 : q.testBit (i - 5 * (6 - b)) = false := bits_lt (n := 5) hq (by omega)
      rw [h4]; simp
theorem keyx_none {ps : Nat → Nat} : ∀ n, n ≤ 7 → (∀ b, b < n → ps b < 32) → keyx ps none n = pkey ps n
  | 0, _, _ => rfl
  | n + 1, h, hps => by
    show (if none = some n then _ else keyx ps none n ||| ps n * 2 ^ (5 * (6 - n))) = wth (pkey ps n) n (ps n)
    rw [if_neg (by simp), keyx_none n (by omega) (fun b hb => hps b (by omega)), wth_or0 (hps n (by omega)) (pkey_hi (by omega) (fun b hb => hps b (by omega)) n (Nat.le_refl n) (by omega))]
