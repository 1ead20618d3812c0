/-- the four sides of the frame, as sets -/
def topv (wd : Nat) : Nat := (1 <<< wd) - 1
def btv (wd hd : Nat) : Nat := topv wd <<< ((hd - 1) * wd)
def lcv (wd : Nat) : Nat → Nat
  | 0 => 0
  | y + 1 => lcv wd y ||| 1 <<< (y * wd)
def rcv (wd hd : Nat) : Nat := lcv wd hd <<< (wd - 1)
theorem has_n {n : Nat} {x : Int32} (hn : n < 2 ^ 30) (h : x < 0 ∨ nI n ≤ x) : bOf n x = none := by
  unfold bOf
  rw [if_neg]
  rintro ⟨a, b⟩
  have h0 : (0 : Int32).toInt = 0 := rfl
  rcases h with h | h
  · rw [Int32.lt_iff_toInt_lt, h0] at h; omega
  · rw [Int32.le_iff_toInt_le, nI_toInt (by omega)] at h; omega
theorem has_y {n : Nat} {x : Int32} (hn : n < 2 ^ 30) (h1 : ¬ x < 0) (h2 : ¬ nI n ≤ x) : (bOf n x).isSome = true := by
  have h0 : (0 : Int32).toInt = 0 := rfl
  rw [Int32.lt_iff_toInt_lt, h0] at h1
  rw [Int32.le_iff_toInt_le, nI_toInt (by omega)] at h2
  unfold bOf
  rw [if_pos ⟨by omega, by omega⟩]; rfl
