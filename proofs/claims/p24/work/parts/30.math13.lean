/-! ===== reading a text ===== -/
def isL (c : Nat) : Prop := 97 ≤ c ∧ c ≤ 122
/-- the first of m letters that is c, or m -/
def lk (lt : Nat → Nat) (c : Nat) : Nat → Nat
  | 0 => 0
  | i + 1 => if lk lt c i < i then lk lt c i else if lt i = c then i else i + 1
theorem lk_spec {lt : Nat → Nat} {c : Nat} : ∀ {m : Nat}, lk lt c m ≤ m ∧ (∀ j, j < lk lt c m → lt j ≠ c) ∧ (lk lt c m < m → lt (lk lt c m) = c)
  | 0 => ⟨Nat.le_refl 0, fun j h => absurd h (Nat.not_lt_zero j), fun h => absurd h (Nat.not_lt_zero 0)⟩
  | m + 1 => by
    obtain ⟨h1, h2, h3⟩ := lk_spec (lt := lt) (c := c) (m := m)
    have e0 : lk lt c (m + 1) = if lk lt c m < m then lk lt c m else if lt m = c then m else m + 1 := rfl
    rw [e0]
    by_cases a : lk lt c m < m
    · rw [if_pos a]; exact ⟨by omega, h2, fun _ => h3 a⟩
    · rw [if_neg a]
      have e : lk lt c m = m := by omega
      rw [e] at h2
      by_cases b : lt m = c
      · rw [if_pos b]; exact ⟨by omega, h2, fun _ => b⟩
      · rw [if_neg b]; exact ⟨Nat.le_refl _, lt_s h2 b, fun h => absurd h (Nat.lt_irrefl _)⟩
theorem lk_eq {lt : Nat → Nat} {c m b : Nat} (hb : b ≤ m) (h1 : ∀ j, j < b → lt j ≠ c) (h2 : b < m → lt b = c) : lk lt c m = b := by
  obtain ⟨a1, a2, a3⟩ := lk_spec (lt := lt) (c := c) (m := m)
  rcases Nat.lt_trichotomy (lk lt c m) b with h | h | h
  · exact absurd (a3 (by omega)) (h1 _ h)
  · exact h
  · exact absurd (h2 (by omega)) (a2 b h)
/-- what a sign makes of a cell: 0 free, 1 wall, 2 and on the blocks -/
def cv (lt : Nat → Nat) (m c : Nat) : Option Nat := if c = 35 then some 1 else if c = 46 then some 0 else if lk lt c m = 7 then none else some (2 + lk lt c m)
/-- a letter that is new -/
def isnew (lt : Nat → Nat) (m c : Nat) : Bool := decide (c ≠ 35) && decide (c ≠ 46) && decide (lk lt c m = m)
def m2 (lt : Nat → Nat) (m c : Nat) : Nat := if isnew lt m c then m + 1 else m
def lt2 (lt : Nat → Nat) (m c : Nat) : Nat → Nat := if isnew lt m c then va_up lt m c else lt
def fa2 (lt : Nat → Nat) (m c : Nat) (fa : Nat → Nat) (k : Nat) : Nat → Nat := if isnew lt m c then va_up fa m k else fa
/-- the set of the cells below n with the content v -/
def bset (cl : Nat → Nat) (v : Nat) : Nat → Nat
  | 0 => 0
  | i + 1 => bset cl v i ||| (if cl i = v then 1 <<< i else 0)
theorem bset_bit {cl : Nat → Nat} {v j : Nat} : ∀ {n : Nat}, (bset cl v n).testBit j = true ↔ j < n ∧ cl j = v
  | 0 => by constructor; intro h; simp [bset] at h; rintro ⟨h, -⟩; exact absurd h (Nat.not_lt_zero j)
  | n + 1 => by
    show (bset cl v n ||| (if cl n = v then 1 <<< n else 0)).testBit j = true ↔ _
    rw [Nat.testBit_or, Bool.or_eq_true, bset_bit]
    by_cases h : cl n = v
    · rw [if_pos h, Nat.one_shiftLeft, Nat.testBit_two_pow, decide_eq_true_eq]
      constructor
      · rintro (⟨a, b⟩ | e)
        · exact ⟨by omega, b⟩
        · subst e; exact ⟨by omega, h⟩
      · rintro ⟨a, b⟩
        by_cases e : j = n
        · exact Or.inr e.symm
        · exact Or.inl ⟨by omega, b⟩
    · rw [if_neg h, Nat.zero_testBit]
      constructor
      · rintro (⟨a, b⟩ | e)
        · exact ⟨by omega, b⟩
        · cases e
      · rintro ⟨a, b⟩
        refine Or.inl ⟨?_, b⟩
        by_cases e : j = n
        · subst e; exact absurd b h
        · omega
theorem bset_up {cl : Nat → Nat} {v u : Nat} : ∀ {n : Nat}, ∀ {i : Nat}, n ≤ i → bset (va_up cl i u) v n = bset cl v n
  | 0, _, _ => rfl
  | n + 1, i, h => by
    show bset (va_up cl i u) v n ||| (if va_up cl i u n = v then 1 <<< n else 0) = bset cl v n ||| (if cl n = v then 1 <<< n else 0)
    rw [bset_up (by omega), up_ne cl (by omega)]
theorem bset_s {cl : Nat → Nat} {v u n : Nat} : bset (va_up cl n u) v (n + 1) = bset cl v n ||| (if u = v then 1 <<< n else 0) := by
  show bset (va_up cl n u) v n ||| (if va_up cl n u n = v then 1 <<< n else 0) = _
  rw [bset_up (Nat.le_refl n), up_eq]
theorem bset_lt {cl : Nat → Nat} {v n : Nat} : bset cl v n < 2 ^ n := lt_of_bits (fun i hi => by
  cases h : (bset cl v n).testBit i with
  | false => rfl
  | true => have := (bset_bit.mp h).1; omega)
/-- the reference's memory of a text that is being read -/
def MRel (cl : Nat → Nat) (all m : Nat) (lt fa : Nat → Nat) (wa le : Nat) (L H I : Nat → Nat) : Prop := wa = bset cl 1 all ∧ le = m ∧ m ≤ 7 ∧ (∀ i, i < all → cl i < 2 + m) ∧ ∀ b, b < m → L b = lt b ∧ H b = bset cl (2 + b) all ∧ I b = fa b
abbrev PSt : Type := Nat × Nat × Nat × Nat × (Nat → Nat) × Nat × (Nat → Nat) × (Nat → Nat)
/-- one sign c at the place k; wi: the width so far, hi: the rows behind, row: cells of this row, all: cells -/
def pstep (c k wi hi row all : Nat) (cl : Nat → Nat) (m : Nat) (lt fa : Nat → Nat) : Option PSt :=
  if c = 47 then (if row = 0 ∨ (0 < hi ∧ row < wi) ∨ hi = 5 then none else some (row, hi + 1, 0, all, cl, m, lt, fa))
  else if ¬ (c = 46 ∨ c = 35 ∨ (97 ≤ c ∧ c ≤ 122)) ∨ row = (if hi = 0 then 6 else wi) ∨ all = 24 then none
  else (cv lt m c).map fun v => (wi, hi, row + 1, all + 1, va_up cl all v, m2 lt m c, lt2 lt m c, fa2 lt m c fa k)
def pfin (k : Nat) : Option PSt → Nat ⊕ PSt
  | none => .inl k
  | some s => .inr s
def pnext (c k : Nat) : Nat ⊕ PSt → Nat ⊕ PSt
  | .inl e => .inl e
  | .inr (wi, hi, row, all, cl, m, lt, fa) => pfin k (pstep c k wi hi row all cl m lt fa)
def prun (tx : Nat → Nat) : Nat → Nat ⊕ PSt
  | 0 => .inr (0, 0, 0, 0, (fun _ => 0), 0, (fun _ => 0), (fun _ => 0))
  | k + 1 => pnext (tx k) k (prun tx k)
theorem prun_s {tx : Nat → Nat} {k wi hi row all m : Nat} {cl lt fa : Nat → Nat} {s : PSt} (h : prun tx k = .inr (wi, hi, row, all, cl, m, lt, fa)) (h2 : pstep (tx k) k wi hi row all cl m lt fa = some s) : prun tx (k + 1) = .inr s := by
  show pnext (tx k) k (prun tx k) = _
  rw [h]
  show pfin k (pstep (tx k) k wi hi row all cl m lt fa) = _
  rw [h2]; rfl
theorem prun_n {tx : Nat → Nat} {k wi hi row all m : Nat} {cl lt fa : Nat → Nat} (h : prun tx k = .inr (wi, hi, row, all, cl, m, lt, fa)) (h2 : pstep (tx k) k wi hi row all cl m lt fa = none) : ∀ n, k < n → prun tx n = .inl k := by
  intro n
  induction n with
  | zero => intro h; exact absurd h (Nat.not_lt_zero k)
  | succ n ih =>
    intro hn
    by_cases e : k = n
    · subst e
      show pnext (tx k) k (prun tx k) = _
      rw [h]
      show pfin k (pstep (tx k) k wi hi row all cl m lt fa) = _
      rw [h2]; rfl
    · show pnext (tx n) n (prun tx n) = _
      rw [ih (by omega)]; rfl
/-- the whole text: where it is wrong, or what it says -/
def pend (n : Nat) : Nat ⊕ PSt → Nat ⊕ PSt
  | .inl e => .inl e
  | .inr (wi, hi, row, all, cl, m, lt, fa) => if row = 0 ∨ (0 < hi ∧ row < wi) then .inl n else .inr (row, hi + 1, 0, all, cl, m, lt, fa)
def pall (tx : Nat → Nat) (n : Nat) : Nat ⊕ PSt := pend n (prun tx n)
theorem cv_some {lt : Nat → Nat} {m c : Nat} (hm : m ≤ 7) : ∀ v, cv lt m c = some v → v < 2 + m2 lt m c := by
  intro v hv
  unfold cv at hv
  unfold m2 isnew
  obtain ⟨h1, h2, h3⟩ := lk_spec (lt := lt) (c := c) (m := m)
  split at hv
  · cases hv; split <;> omega
  · split at hv
    · cases hv; split <;> omega
    · split at hv
      · cases hv
      · cases hv
        rename_i a b d
        by_cases e : lk lt c m = m
        · simp [a, b, e]
        · simp [e]; omega
/-- one more cell -/
theorem MRel_wall {cl : Nat → Nat} {all m : Nat} {lt fa : Nat → Nat} {wa le k : Nat} {L H I : Nat → Nat} (h : MRel cl all m lt fa wa le L H I) : MRel (va_up cl all 1) (all + 1) (m2 lt m 35) (lt2 lt m 35) (fa2 lt m 35 fa k) (wa ||| 1 <<< all) le L H I := by
  obtain ⟨a1, a2, a3, a4, a5⟩ := h
  have e : isnew lt m 35 = false := by simp [isnew]
  unfold m2 lt2 fa2
  rw [e]
  refine ⟨by rw [bset_s, if_pos rfl, a1], a2, a3, fun i hi => ?_, fun b hb => ?_⟩
  · show va_up cl all 1 i < 2 + m
    unfold va_up; split
    · omega
    · exact a4 i (by omega)
  · obtain ⟨b1, b2, b3⟩ := a5 b hb
    exact ⟨b1, by rw [bset_s, if_neg (by omega), Nat.or_zero]; exact b2, b3⟩
theorem MRel_free {cl : Nat → Nat} {all m : Nat} {lt fa : Nat → Nat} {wa le k : Nat} {L H I : Nat → Nat} (h : MRel cl all m lt fa wa le L H I) : MRel (va_up cl all 0) (all + 1) (m2 lt m 46) (lt2 lt m 46) (fa2 lt m 46 fa k) wa le L H I := by
  obtain ⟨a1, a2, a3, a4, a5⟩ := h
  have e : isnew lt m 46 = false := by simp [isnew]
  unfold m2 lt2 fa2
  rw [e]
  refine ⟨by rw [bset_s, if_neg (by omega), Nat.or_zero]; exact a1, a2, a3, fun i hi => ?_, fun b hb => ?_⟩
  · show va_up cl all 0 i < 2 + m
    unfold va_up; split
    · omega
    · exact a4 i (by omega)
  · obtain ⟨b1, b2, b3⟩ := a5 b hb
    exact ⟨b1, by rw [bset_s, if_neg (by omega), Nat.or_zero]; exact b2, b3⟩
theorem MRel_old {cl : Nat → Nat} {all m b c : Nat} {lt fa : Nat → Nat} {wa le k : Nat} {L H I : Nat → Nat} (h : MRel cl all m lt fa wa le L H I) (hb : lk lt c m = b) (hbm : b < m) : MRel (va_up cl all (2 + b)) (all + 1) (m2 lt m c) (lt2 lt m c) (fa2 lt m c fa k) wa le L (va_up H b (H b ||| 1 <<< all)) I := by
  obtain ⟨a1, a2, a3, a4, a5⟩ := h
  have e : isnew lt m c = false := by
    have : lk lt c m ≠ m := by omega
    simp [isnew, this]
  unfold m2 lt2 fa2
  rw [e]
  refine ⟨by rw [bset_s, if_neg (by omega), Nat.or_zero]; exact a1, a2, a3, fun i hi => ?_, fun b' hb' => ?_⟩
  · show va_up cl all (2 + b) i < 2 + m
    unfold va_up; split
    · omega
    · exact a4 i (by omega)
  · obtain ⟨b1, b2, b3⟩ := a5 b' hb'
    refine ⟨b1, ?_, b3⟩
    rw [bset_s]
    by_cases e : b' = b
    · subst e; rw [up_eq, if_pos rfl, b2]
    · rw [up_ne H e, if_neg (by omega), Nat.or_zero]; exact b2
theorem MRel_new {cl : Nat → Nat} {all m c : Nat} {lt fa : Nat → Nat} {wa le k : Nat} {L H I : Nat → Nat} (h : MRel cl all m lt fa wa le L H I) (hc1 : c ≠ 35) (hc2 : c ≠ 46) (hb : lk lt c m = m) (hm : m < 7) : MRel (va_up cl all (2 + m)) (all + 1) (m2 lt m c) (lt2 lt m c) (fa2 lt m c fa k) wa (le + 1) (va_up L m c) (va_up (va_up H m 0) m (0 ||| 1 <<< all)) (va_up I m k) := by
  obtain ⟨a1, a2, a3, a4, a5⟩ := h
  have e : isnew lt m c = true := by simp [isnew, hc1, hc2, hb]
  unfold m2 lt2 fa2
  rw [e]
  have zero : bset cl (2 + m) all = 0 := by
    refine Nat.eq_of_testBit_eq (fun i => ?_)
    rw [Nat.zero_testBit]
    cases hbit : (bset cl (2 + m) all).testBit i with
    | false => rfl
    | true =>
      obtain ⟨h1, h2⟩ := bset_bit.mp hbit
      have := a4 i h1
      omega
  refine ⟨by rw [bset_s, if_neg (by omega), Nat.or_zero]; exact a1, by rw [a2]; rfl, by show m + 1 ≤ 7; omega, fun i hi => ?_, fun b' hb' => ?_⟩
  · show va_up cl all (2 + m) i < 2 + (m + 1)
    unfold va_up; split
    · omega
    · have := a4 i (by omega); omega
  · have hb'' : b' < m + 1 := hb'
    show _ = va_up lt m c b' ∧ _ ∧ _ = va_up fa m k b'
    rw [bset_s]
    by_cases e : b' = m
    · subst e
      rw [up_eq, up_eq, up_eq, up_eq, up_eq, if_pos rfl, zero]
      exact ⟨rfl, rfl, rfl⟩
    · obtain ⟨b1, b2, b3⟩ := a5 b' (by omega)
      rw [up_ne L e, up_ne (va_up H m 0) e, up_ne H e, up_ne I e, up_ne lt e, up_ne fa e, if_neg (by omega), Nat.or_zero]
      exact ⟨b1, b2, b3⟩
