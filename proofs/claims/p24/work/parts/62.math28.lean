/-! ===== the component's public methods: small facts ===== -/
theorem tOf_lo {x : Int32} (h : x < nI 32) : tOf x = none := tOf_none (by
  have : ¬ nI 32 ≤ x := Int32.not_le.mpr h
  simp [this])
theorem tOf_hi {x : Int32} (h : ¬ x ≤ nI 126) : tOf x = none := tOf_none (by simp [h])
theorem tOf_ok {x : Int32} (h1 : ¬ x < nI 32) (h2 : x ≤ nI 126) : ∃ b, 32 ≤ b ∧ b ≤ 126 ∧ x = nI b ∧ tOf x = some b := tOf_some (by
  have : nI 32 ≤ x := Int32.not_lt.mp h1
  simp [this, h2])
theorem bOf_out {n : Nat} {x : Int32} (h : bOf (n + 1) x = none) : x.toInt < (0 : Int) ∨ (n : Int) < x.toInt := by
  unfold bOf at h
  split at h
  · cases h
  · rename_i h1
    omega
theorem bOf_get {n b : Nat} {x : Int32} (h : bOf n x = some b) (hn : n < 2 ^ 30) : b < n ∧ x = nI b := by
  obtain ⟨c, h1, h2, h3⟩ := bOf_yes hn (by rw [h]; rfl)
  rw [h] at h3
  cases h3
  exact ⟨h1, h2⟩
theorem fr10 (x : Int32) : bOf 9 x = none ∨ x = nI 0 ∨ x = nI 1 ∨ x = nI 2 ∨ x = nI 3 ∨ x = nI 4 ∨ x = nI 5 ∨ x = nI 6 ∨ x = nI 7 ∨ x = nI 8 := by
  cases h : bOf 9 x with
  | none => exact Or.inl rfl
  | some b =>
    obtain ⟨h1, h2⟩ := bOf_get h (by decide)
    rcases (by omega : b = 0 ∨ b = 1 ∨ b = 2 ∨ b = 3 ∨ b = 4 ∨ b = 5 ∨ b = 6 ∨ b = 7 ∨ b = 8) with rfl | rfl | rfl | rfl | rfl | rfl | rfl | rfl | rfl <;> simp [h2]
theorem bk8 (x : Int32) : bOf 7 x = none ∨ x = nI 0 ∨ x = nI 1 ∨ x = nI 2 ∨ x = nI 3 ∨ x = nI 4 ∨ x = nI 5 ∨ x = nI 6 := by
  cases h : bOf 7 x with
  | none => exact Or.inl rfl
  | some b =>
    obtain ⟨h1, h2⟩ := bOf_get h (by decide)
    rcases (by omega : b = 0 ∨ b = 1 ∨ b = 2 ∨ b = 3 ∨ b = 4 ∨ b = 5 ∨ b = 6) with rfl | rfl | rfl | rfl | rfl | rfl | rfl <;> simp [h2]
theorem tkp_free {wl nb : Nat} {sh ps : Nat → Nat} (hn7 : nb ≤ 7) (hps : ∀ b, b < nb → ps b < 32) : tkp wl sh ps nb = tk wl sh (pkey ps nb) (exb none none) nb := by
  rw [tkp_tk hn7 hps nb (Nat.le_refl nb)]
  congr 1
section CE
variable {wd hd nb wl i : Nat} {sh bw bh ps : Nat → Nat}
/-- blocks apart: what is in a cell -/
theorem cel_b (hn7 : nb ≤ 7) (hps : ∀ b, b < nb → ps b < 32) (hk : KV wd hd nb wl sh bw bh none (pkey ps nb)) {b : Nat} (hb : b < nb) (h : (sh b <<< ps b).testBit i = true) : ∀ n, b < n → n ≤ nb → f_cel wl sh ps i n = nI b
  | 0, h0, _ => absurd h0 (Nat.not_lt_zero b)
  | n + 1, h1, h2 => by
    show (if (sh n <<< ps n).testBit i then nI n else f_cel wl sh ps i n) = nI b
    by_cases e : n = b
    · subst e; rw [if_pos h]
    · rw [if_neg, cel_b hn7 hps hk hb h n (by omega) (by omega)]
      intro q
      have h3 := (hk.2.2 b hb (fun h => by cases h)).2.2 n (by omega) (fun h => by cases h) e
      rw [plc_pkey hn7 hps b hb, plc_pkey hn7 hps n (by omega)] at h3
      exact and_zero.mp h3 i h q
theorem cel_w (hn7 : nb ≤ 7) (hps : ∀ b, b < nb → ps b < 32) (hk : KV wd hd nb wl sh bw bh none (pkey ps nb)) (h : wl.testBit i = true) : ∀ n, n ≤ nb → f_cel wl sh ps i n = -10
  | 0, _ => by show (if wl.testBit i then (-10 : Int32) else -9) = -10; rw [if_pos h]
  | n + 1, h2 => by
    show (if (sh n <<< ps n).testBit i then nI n else f_cel wl sh ps i n) = -10
    rw [if_neg, cel_w hn7 hps hk h n (by omega)]
    intro q
    have h3 := (hk.2.2 n (by omega) (fun h => by cases h)).2.1
    rw [plc_pkey hn7 hps n (by omega)] at h3
    exact and_zero.mp h3 i q h
theorem cel_n (hw : ¬ wl.testBit i = true) : ∀ n, (∀ b, b < n → ¬ (sh b <<< ps b).testBit i = true) → f_cel wl sh ps i n = -9
  | 0, _ => by show (if wl.testBit i then (-10 : Int32) else -9) = -9; rw [if_neg hw]
  | n + 1, h => by
    show (if (sh n <<< ps n).testBit i then nI n else f_cel wl sh ps i n) = -9
    rw [if_neg (h n (by omega)), cel_n hw n (fun b hb => h b (by omega))]
end CE
/-- what an act leaves of the history -/
def HIC (cI cJ cB : ClassId) (act : Bool) (ho sz : Nat) (hg : Nat → BT) (HW : va_W) (t : BT) (sz2 : Nat) (hg2 : Nat → BT) (HW2 : va_W) : Prop := HWp cI cJ cB ho sz2 hg2 HW2 ∧ adr HW2 = adr HW ∧ (act = true → sz2 = hcnt sz ∧ hg2 = hpu hg sz t) ∧ (act = false → sz2 = sz ∧ hg2 = hg)
theorem HIC_no {cI cJ cB : ClassId} {ho sz : Nat} {hg : Nat → BT} {HW : va_W} {t : BT} (h : HWp cI cJ cB ho sz hg HW) : HIC cI cJ cB false ho sz hg HW t sz hg HW := ⟨h, rfl, fun q => (by cases q), fun _ => ⟨rfl, rfl⟩⟩
theorem HIC_yes {cI cJ cB : ClassId} {ho sz : Nat} {hg : Nat → BT} {HW HW2 : va_W} {t : BT} (h : HWp cI cJ cB ho (hcnt sz) (hpu hg sz t) HW2) (hl : adr HW2 = adr HW) : HIC cI cJ cB true ho sz hg HW t (hcnt sz) (hpu hg sz t) HW2 := ⟨h, hl, fun _ => ⟨rfl, rfl⟩, fun q => (by cases q)⟩
theorem mvsl_eq {sl sl2 : Int32} {z : Bool} {lb : Option Nat} {b : Nat} (h : sl2 = if z = true ∨ lb ≠ some b then sl + 1 else sl) : sl2 = mvsl sl z lb b := by
  rw [h]; unfold mvsl
  split
  · rfl
  · exact (Int32.add_zero sl).symm
theorem oI_le0 {x : Option Nat} (ho : ∀ d, x = some d → d < 2 ^ 31) (h : oI x ≤ 0) : ∀ e, x ≠ some (e + 1) := fun e he => by
  rw [he] at h
  have := ho _ he
  have h2 : nI (e + 1) ≤ nI 0 := h
  rw [nI_leI this (by decide)] at h2
  omega
theorem oI_gt0 {x : Option Nat} (h : ¬ oI x ≤ 0) : ∃ e, x = some (e + 1) := by
  cases x with
  | none => exact absurd (by decide) h
  | some d =>
    cases d with
    | zero => exact absurd (by decide) h
    | succ e => exact ⟨e, rfl⟩
theorem HWp_rc {cI cJ cB : ClassId} {ho sz : Nat} {hg : Nat → BT} {HW : va_W} (h : HWp cI cJ cB ho sz hg HW) : ∃ fs : List Value, ∀ (pre : va_W) (n : Nat), pre.length = n → (pre ++ HW)[n]? = some (ho, .inr (2, fs)) := by
  obtain ⟨hka, hfi, xb, Dd, rfl, -⟩ := h
  refine ⟨[.ref hka, .int (nI hfi), .int (nI sz)], fun pre n hn => ?_⟩
  subst hn
  rw [List.getElem?_append_right (Nat.le_refl _), Nat.sub_self]
  rfl
