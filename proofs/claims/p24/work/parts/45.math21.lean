/-- the bit of one direction, as the component finds it -/
theorem dir_0 {wd hd s w h p ot : Nat} (hw : 1 ≤ wd) (hs : ShV wd hd s w h) (hp : PlV wd hd w h p) : ((s <<< p) &&& topv wd = 0 ∧ ((s <<< p) >>> wd) &&& ot = 0) ↔ (mvt wd hd w h s ot p 0).isSome = true := by
  rw [side0 hw hs hp]
  unfold mvt
  rw [stp_0]
  by_cases e : 1 ≤ p / wd
  · rw [if_pos e]
    have hpw : wd ≤ p := by
      have h1 := Nat.div_add_mod' p wd
      have h2 : 1 * wd ≤ p / wd * wd := Nat.mul_le_mul_right wd e
      omega
    have hsh : (s <<< p) >>> wd = s <<< (p - wd) := by
      conv => lhs; rw [show p = (p - wd) + wd by omega]
      rw [Nat.shiftLeft_add, Nat.shiftLeft_shiftRight]
    rw [hsh]
    show _ ↔ (if (s <<< (p - wd)) &&& ot = 0 then some (p - wd) else none).isSome = true
    by_cases e2 : (s <<< (p - wd)) &&& ot = 0
    · rw [if_pos e2]; exact ⟨fun _ => rfl, fun _ => ⟨e, e2⟩⟩
    · rw [if_neg e2]; exact ⟨fun h => absurd h.2 e2, fun h => by cases h⟩
  · rw [if_neg e]; exact ⟨fun h => absurd h.1 e, fun h => by cases h⟩
theorem dir_1 {wd hd s w h p ot : Nat} (hw : 1 ≤ wd) (hs : ShV wd hd s w h) (hp : PlV wd hd w h p) : ((s <<< p) &&& rcv wd hd = 0 ∧ ((s <<< p) <<< 1) &&& ot = 0) ↔ (mvt wd hd w h s ot p 1).isSome = true := by
  rw [side1 hw hs hp, ← Nat.shiftLeft_add]
  unfold mvt
  rw [stp_1]
  by_cases e : p % wd + 1 + w ≤ wd
  · rw [if_pos e]
    show _ ↔ (if (s <<< (p + 1)) &&& ot = 0 then some (p + 1) else none).isSome = true
    by_cases e2 : (s <<< (p + 1)) &&& ot = 0
    · rw [if_pos e2]; exact ⟨fun _ => rfl, fun _ => ⟨e, e2⟩⟩
    · rw [if_neg e2]; exact ⟨fun h => absurd h.2 e2, fun h => by cases h⟩
  · rw [if_neg e]; exact ⟨fun h => absurd h.1 e, fun h => by cases h⟩
theorem dir_2 {wd hd s w h p ot : Nat} (hw : 1 ≤ wd) (hd1 : 1 ≤ hd) (hs : ShV wd hd s w h) (hp : PlV wd hd w h p) : ((s <<< p) &&& btv wd hd = 0 ∧ ((s <<< p) <<< wd) &&& ot = 0) ↔ (mvt wd hd w h s ot p 2).isSome = true := by
  rw [side2 hw hd1 hs hp, ← Nat.shiftLeft_add]
  unfold mvt
  rw [stp_2]
  by_cases e : p / wd + 1 + h ≤ hd
  · rw [if_pos e]
    show _ ↔ (if (s <<< (p + wd)) &&& ot = 0 then some (p + wd) else none).isSome = true
    by_cases e2 : (s <<< (p + wd)) &&& ot = 0
    · rw [if_pos e2]; exact ⟨fun _ => rfl, fun _ => ⟨e, e2⟩⟩
    · rw [if_neg e2]; exact ⟨fun h => absurd h.2 e2, fun h => by cases h⟩
  · rw [if_neg e]; exact ⟨fun h => absurd h.1 e, fun h => by cases h⟩
theorem dir_3 {wd hd s w h p ot : Nat} (hw : 1 ≤ wd) (hs : ShV wd hd s w h) (hp : PlV wd hd w h p) : ((s <<< p) &&& lcv wd hd = 0 ∧ ((s <<< p) >>> 1) &&& ot = 0) ↔ (mvt wd hd w h s ot p 3).isSome = true := by
  rw [side3 hw hs hp]
  unfold mvt
  rw [stp_3]
  by_cases e : 1 ≤ p % wd
  · rw [if_pos e]
    have hpw : 1 ≤ p := Nat.le_trans e (Nat.mod_le p wd)
    have hsh : (s <<< p) >>> 1 = s <<< (p - 1) := by
      conv => lhs; rw [show p = (p - 1) + 1 by omega]
      rw [Nat.shiftLeft_add, Nat.shiftLeft_shiftRight]
    rw [hsh]
    show _ ↔ (if (s <<< (p - 1)) &&& ot = 0 then some (p - 1) else none).isSome = true
    by_cases e2 : (s <<< (p - 1)) &&& ot = 0
    · rw [if_pos e2]; exact ⟨fun _ => rfl, fun _ => ⟨e, e2⟩⟩
    · rw [if_neg e2]; exact ⟨fun h => absurd h.2 e2, fun h => by cases h⟩
  · rw [if_neg e]; exact ⟨fun h => absurd h.1 e, fun h => by cases h⟩
theorem dset_y {m : Nat → Option Nat} {d : Nat} (h : (m d).isSome = true) : dset m d ||| 1 <<< d = dset m (d + 1) := by
  show _ = dset m d ||| (if (m d).isSome then 1 <<< d else 0); rw [if_pos h]
theorem dset_n {m : Nat → Option Nat} {d : Nat} (h : ¬ (m d).isSome = true) : dset m d = dset m (d + 1) := by
  show _ = dset m d ||| (if (m d).isSome then 1 <<< d else 0); rw [if_neg h, Nat.or_zero]
