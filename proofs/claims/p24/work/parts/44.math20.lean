/-- the component's set of all cells is the reference's -/
theorem tkp_tk {wl nb : Nat} {sh ps : Nat → Nat} (hn7 : nb ≤ 7) (hps : ∀ b, b < nb → ps b < 32) : ∀ n, n ≤ nb → tkp wl sh ps n = tk wl sh (pkey ps nb) (fun _ => false) n
  | 0, _ => rfl
  | n + 1, h => by
    show tkp wl sh ps n ||| sh n <<< ps n = (if false = true then _ else _)
    rw [if_neg (by decide), tkp_tk hn7 hps n (by omega), plc_pkey hn7 hps n (by omega)]
theorem wth_or0 {k b q : Nat} (hq : q < 32) (h0 : plc k b = 0) : wth k b q = k ||| q * 2 ^ (5 * (6 - b)) := by
  refine Nat.eq_of_testBit_eq (fun i => ?_)
  rw [wth_bit hq, Nat.testBit_or, Nat.mul_comm q, Nat.testBit_two_pow_mul]
  have hb : ∀ j, j < 5 → k.testBit (5 * (6 - b) + j) = false := fun j hj => by
    have h1 := plc_bit k b j
    rw [h0, Nat.zero_testBit] at h1
    simpa [hj] using h1.symm
  by_cases h1 : i < 5 * (6 - b)
  · rw [if_pos h1]; simp [show ¬ 5 * (6 - b) ≤ i by omega]
  · rw [if_neg h1]
    by_cases h2 : i < 5 * (6 - b) + 5
    · have h3 := hb (i - 5 * (6 - b)) (by omega)
      rw [Nat.add_sub_cancel' (by omega)] at h3
      rw [if_pos h2, h3]; simp [show 5 * (6 - b) ≤ i by omega]
    · rw [if_neg h2]
      have h4 : q.testBit (i - 5 * (6 - b)) = false := bits_lt (n := 5) hq (by omega)
      rw [h4]; simp
theorem keyx_none {ps : Nat → Nat} : ∀ n, n ≤ 7 → (∀ b, b < n → ps b < 32) → keyx ps none n = pkey ps n
  | 0, _, _ => rfl
  | n + 1, h, hps => by
    show (if none = some n then _ else keyx ps none n ||| ps n * 2 ^ (5 * (6 - n))) = wth (pkey ps n) n (ps n)
    rw [if_neg (by simp), keyx_none n (by omega) (fun b hb => hps b (by omega)), wth_or0 (hps n (by omega)) (pkey_hi (by omega) (fun b hb => hps b (by omega)) n (Nat.le_refl n) (by omega))]
theorem keyx_plc {ps : Nat → Nat} {rb : Option Nat} : ∀ n, n ≤ 7 → (∀ b, b < n → ps b < 32) → ∀ c, c < 7 → plc (keyx ps rb n) c = if c < n ∧ rb ≠ some c then ps c else 0
  | 0, _, _, c, _ => by
    rw [if_neg (by omega)]; show plc 0 c = 0; unfold plc; simp
  | n + 1, h, hps, c, hc => by
    have ih := keyx_plc (ps := ps) (rb := rb) n (by omega) (fun b hb => hps b (by omega))
    have hz := ih n (by omega)
    rw [if_neg (by omega)] at hz
    show plc (if rb = some n then keyx ps rb n else keyx ps rb n ||| ps n * 2 ^ (5 * (6 - n))) c = _
    by_cases e : rb = some n
    · rw [if_pos e, ih c hc]
      by_cases h1 : c < n ∧ rb ≠ some c
      · rw [if_pos h1, if_pos ⟨by omega, h1.2⟩]
      · rw [if_neg h1, if_neg]
        rintro ⟨a, b⟩
        by_cases e2 : c = n
        · subst e2; exact b e
        · exact h1 ⟨by omega, b⟩
    · rw [if_neg e, ← wth_or0 (hps n (by omega)) hz]
      by_cases e2 : c = n
      · subst e2; rw [plc_wth_self (hps c (by omega)), if_pos ⟨by omega, e⟩]
      · rw [plc_wth_ne (hps n (by omega)) (by omega) (by omega) e2, ih c hc]
        by_cases h1 : c < n ∧ rb ≠ some c
        · rw [if_pos h1, if_pos ⟨by omega, h1.2⟩]
        · rw [if_neg h1, if_neg (fun h2 => h1 ⟨by omega, h2.2⟩)]
theorem keyx_some {ps : Nat → Nat} {b n : Nat} (h7 : n ≤ 7) (hps : ∀ b, b < n → ps b < 32) (hb : b < n) : keyx ps (some b) n = wth (pkey ps n) b 0 := by
  refine key_ext (keyx_lt h7 hps) (wth_lt (pkey_lt hps) (by decide)) (fun c hc => ?_)
  rw [keyx_plc n h7 hps c hc]
  by_cases e : c = b
  · subst e; rw [plc_wth_self (by decide), if_neg (fun h => h.2 rfl)]
  · rw [plc_wth_ne (by decide) (by omega) hc e]
    by_cases h2 : c < n
    · rw [if_pos ⟨h2, fun h => e (by cases h; rfl)⟩, plc_pkey h7 hps c h2]
    · rw [if_neg (fun h => h2 h.1), pkey_hi h7 hps c (by omega) hc]
