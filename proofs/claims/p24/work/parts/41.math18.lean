/-- the four sides of the frame, as sets -/
def topv (wd : Nat) : Nat := (1 <<< wd) - 1
def btv (wd hd : Nat) : Nat := topv wd <<< ((hd - 1) * wd)
def lcv (wd : Nat) : Nat → Nat
  | 0 => 0
  | y + 1 => lcv wd y ||| 1 <<< (y * wd)
def rcv (wd hd : Nat) : Nat := lcv wd hd <<< (wd - 1)
theorem has_n {n : Nat} {x : Int32} (hn : n < 2 ^ 30) (h : x < 0 ∨ nI n ≤ x) : bOf n x = none := by
  unfold bOf
  rw [if_neg]
  rintro ⟨a, b⟩
  have h0 : (0 : Int32).toInt = 0 := rfl
  rcases h with h | h
  · rw [Int32.lt_iff_toInt_lt, h0] at h; omega
  · rw [Int32.le_iff_toInt_le, nI_toInt (by omega)] at h; omega
theorem has_y {n : Nat} {x : Int32} (hn : n < 2 ^ 30) (h1 : ¬ x < 0) (h2 : ¬ nI n ≤ x) : (bOf n x).isSome = true := by
  have h0 : (0 : Int32).toInt = 0 := rfl
  rw [Int32.lt_iff_toInt_lt, h0] at h1
  rw [Int32.le_iff_toInt_le, nI_toInt (by omega)] at h2
  unfold bOf
  rw [if_pos ⟨by omega, by omega⟩]; rfl
/-- all cells of walls and blocks -/
def tkp (wl : Nat) (sh ps : Nat → Nat) : Nat → Nat
  | 0 => wl
  | b + 1 => tkp wl sh ps b ||| sh b <<< ps b
/-- the key, without the block rb -/
def keyx (ps : Nat → Nat) (rb : Option Nat) : Nat → Nat
  | 0 => 0
  | b + 1 => if rb = some b then keyx ps rb b else keyx ps rb b ||| ps b * 2 ^ (5 * (6 - b))
def offs (wd : Nat) : Nat → Int32
  | 0 => -nI wd
  | 1 => nI 1
  | 2 => nI wd
  | _ => -1
theorem keyx_lt {ps : Nat → Nat} {rb : Option Nat} {n : Nat} : n ≤ 7 → (∀ b, b < n → ps b < 32) → keyx ps rb n < 2 ^ 35 := by
  induction n with
  | zero => intro _ _; show 0 < 2 ^ 35; decide
  | succ n ih =>
    intro h1 h2
    have h3 := ih (by omega) (fun b hb => h2 b (by omega))
    show (if _ then _ else _) < _
    split
    · exact h3
    · refine Nat.or_lt_two_pow h3 ?_
      have h4 := h2 n (by omega)
      have h5 : ps n * 2 ^ (5 * (6 - n)) < 2 ^ 5 * 2 ^ (5 * (6 - n)) := Nat.mul_lt_mul_of_pos_right h4 (Nat.two_pow_pos _)
      rw [← Nat.pow_add] at h5
      exact Nat.lt_of_lt_of_le h5 (Nat.pow_le_pow_right (by decide) (by omega))
theorem bOf_yes {n : Nat} {x : Int32} (hn : n < 2 ^ 30) (h : (bOf n x).isSome = true) : ∃ b, b < n ∧ x = nI b ∧ bOf n x = some b := by
  cases h1 : bOf n x with
  | none => rw [h1] at h; cases h
  | some b =>
    obtain ⟨q, hq, e, e2, -⟩ := bOf_in (f := fun _ => true) (y := x) hn (by rw [h1])
    rw [e2] at h1; cases h1
    exact ⟨b, hq, e, rfl⟩
theorem bOf_non {n : Nat} {x : Int32} (h : (bOf n x).isSome = false) : bOf n x = none := by
  cases h1 : bOf n x with
  | none => rfl
  | some b => rw [h1] at h; cases h
theorem gI_9 {g : Option Nat} (hb : ∀ d, g = some d → d < 2 ^ 31) (h : gI g = -9) : g = none := by
  cases g with
  | none => rfl
  | some d =>
    have h1 := hb d rfl
    have h2 : (nI d).toInt = (-9 : Int32).toInt := by rw [show nI d = -9 from h]
    rw [nI_toInt h1] at h2
    have h3 : (-9 : Int32).toInt = -9 := rfl
    omega
theorem gI_n9 {g : Option Nat} (h : ¬ gI g = -9) : ∃ d, g = some d := by
  cases g with
  | none => exact absurd rfl h
  | some d => exact ⟨d, rfl⟩
theorem row_lt32 {y hd wd : Nat} (h : y < hd) (h24 : wd * hd ≤ 24) : y * wd < 32 := by
  have : y * wd ≤ hd * wd := Nat.mul_le_mul_right wd (by omega)
  rw [Nat.mul_comm hd wd] at this; omega
