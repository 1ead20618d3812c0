theorem flo_isMv {x : Option Nat} (h : ∃ e, x = some (e + 1)) : isMv true x = true := by
  obtain ⟨e, rfl⟩ := h; rfl
theorem ge1_iff {x : Option Nat} (ho : ∀ d, x = some d → d < 2 ^ 31) : (oI x ≥ nI 1 → ∃ e, x = some (e + 1)) ∧ (¬ oI x ≥ nI 1 → ∀ e, x ≠ some (e + 1)) := by
  cases x with
  | none => exact ⟨fun h => absurd h (by decide), fun _ e h => by cases h⟩
  | some d =>
    constructor
    · intro h
      have h2 : 1 ≤ d := (nI_leI (by decide) (ho d rfl)).mp h
      exact ⟨d - 1, by congr 1; omega⟩
    · intro h e h2
      cases h2
      exact h ((nI_leI (by decide) (ho _ rfl)).mpr (by omega))
theorem HIS_no {v : Nat → Int32} {pm : Nat} {h : Nat → Nat → Int32} {pa : Nat → Int32} (hp : PH pa pm h) : HIS false v pm h pa pm h := ⟨hp, fun h => (by cases h), fun _ => ⟨rfl, rfl⟩⟩
theorem HIS_yes {v : Nat → Int32} {pm : Nat} {h : Nat → Nat → Int32} {pa2 : Nat → Int32} (hp : PH pa2 (hcnt pm) (hpush h pm v)) : HIS true v pm h pa2 (hcnt pm) (hpush h pm v) := ⟨hp, fun _ => ⟨rfl, rfl⟩, fun h => (by cases h)⟩
/-- the last of the least: the search of hardest() -/
def HB (K : Nat → Nat) (F : Nat → Option Nat) (mx : Nat) (bs : Option Nat) (i : Nat) : Prop := match bs with
  | none => ∀ j, j < i → F j ≠ some mx
  | some b => b < i ∧ F b = some mx ∧ ∀ j, j < i → F j = some mx → K b ≤ K j
theorem bOf_in {n : Nat} {y : Int32} {f : Nat → Bool} (hn : n < 2 ^ 30) (h : (match bOf n y with | some q => f q | none => false) = true) : ∃ q, q < n ∧ y = nI q ∧ bOf n y = some q ∧ f q = true := by
  cases h1 : bOf n y with
  | none => rw [h1] at h; cases h
  | some q =>
    rw [h1] at h
    unfold bOf at h1
    split at h1
    · rename_i h2
      cases h1
      obtain ⟨j, hj, rfl⟩ := nI_of (x := y) (fun h => by
        have := Int32.lt_iff_toInt_lt.mp h
        have e0 : (0 : Int32).toInt = 0 := rfl
        rw [e0] at this
        omega)
      rw [nI_toInt hj] at h2 h
      refine ⟨j, by omega, rfl, ?_, h⟩
      rw [nI_toInt hj]; rfl
    · cases h1
