/-! ===== keys: seven places of five bits ===== -/
theorem wth_bit {k b q : Nat} (hq : q < 32) (i : Nat) : (wth k b q).testBit i = if i < 5 * (6 - b) then k.testBit i else if i < 5 * (6 - b) + 5 then q.testBit (i - 5 * (6 - b)) else k.testBit i := by
  unfold wth
  generalize 5 * (6 - b) = s
  have hlt : k % 2 ^ s < 2 ^ s := Nat.mod_lt _ (Nat.two_pow_pos s)
  have hpl : q * 2 ^ s + k % 2 ^ s < 2 ^ (s + 5) := by
    rw [Nat.pow_add]
    have : q * 2 ^ s ≤ 31 * 2 ^ s := Nat.mul_le_mul_right _ (by omega)
    omega
  rw [Nat.add_assoc, Nat.mul_comm (k / 2 ^ (s + 5)), Nat.testBit_two_pow_mul_add _ hpl, Nat.mul_comm q, Nat.testBit_two_pow_mul_add _ hlt, Nat.testBit_mod_two_pow, Nat.testBit_div_two_pow]
  by_cases h1 : i < s
  · simp [h1, show i < s + 5 by omega]
  · by_cases h2 : i < s + 5
    · simp [h1, h2]
    · simp [h1, h2, show i - (s + 5) + (s + 5) = i by omega, show s + 5 + (i - (s + 5)) = i by omega]
theorem plc_bit (k b i : Nat) : (plc k b).testBit i = (decide (i < 5) && k.testBit (5 * (6 - b) + i)) := by
  unfold plc
  rw [show 32 = 2 ^ 5 from rfl, Nat.testBit_mod_two_pow, Nat.testBit_div_two_pow, Nat.add_comm]
theorem plc_lt (k b : Nat) : plc k b < 32 := Nat.mod_lt _ (by decide)
theorem plc_wth_self {k b q : Nat} (hq : q < 32) : plc (wth k b q) b = q := by
  refine Nat.eq_of_testBit_eq (fun i => ?_)
  rw [plc_bit, wth_bit hq]
  by_cases h : i < 5
  · simp [h, show ¬ 5 * (6 - b) + i < 5 * (6 - b) by omega]
  · have : q.testBit i = false := Nat.testBit_lt_two_pow (Nat.lt_of_lt_of_le hq (Nat.pow_le_pow_right (n := 2) (by decide) (show 5 ≤ i by omega)))
    simp [h, this]
theorem plc_wth_ne {k b q c : Nat} (hq : q < 32) (hb : b < 7) (hc : c < 7) (hn : c ≠ b) : plc (wth k b q) c = plc k c := by
  refine Nat.eq_of_testBit_eq (fun i => ?_)
  rw [plc_bit, plc_bit, wth_bit hq]
  by_cases h : i < 5
  · simp only [h, decide_true, Bool.true_and]
    by_cases h1 : 5 * (6 - c) + i < 5 * (6 - b)
    · rw [if_pos h1]
    · rw [if_neg h1, if_neg (by omega)]
  · simp [h]
theorem lt_of_bits {k n : Nat} (h : ∀ i, n ≤ i → k.testBit i = false) : k < 2 ^ n := Nat.lt_pow_two_of_testBit k h
theorem bits_lt {k n i : Nat} (h : k < 2 ^ n) (hi : n ≤ i) : k.testBit i = false := Nat.testBit_lt_two_pow (Nat.lt_of_lt_of_le h (Nat.pow_le_pow_right (n := 2) (by decide) hi))
theorem wth_lt {k b q : Nat} (hk : k < 2 ^ 35) (hq : q < 32) : wth k b q < 2 ^ 35 := lt_of_bits (fun i hi => by
  rw [wth_bit hq, if_neg (by omega), if_neg (by omega)]
  exact bits_lt hk hi)
theorem key_ext {k k' : Nat} (hk : k < 2 ^ 35) (hk' : k' < 2 ^ 35) (h : ∀ b, b < 7 → plc k b = plc k' b) : k = k' := by
  refine Nat.eq_of_testBit_eq (fun i => ?_)
  by_cases hi : i < 35
  · have h1 := congrArg (fun x : Nat => x.testBit (i % 5)) (h (6 - i / 5) (by omega))
    simp only [plc_bit, show i % 5 < 5 from Nat.mod_lt _ (by decide), decide_true, Bool.true_and] at h1
    rwa [show 5 * (6 - (6 - i / 5)) + i % 5 = i by omega] at h1
  · rw [bits_lt hk (by omega), bits_lt hk' (by omega)]
theorem wth_wth {k b q r : Nat} (hq : q < 32) (hr : r < 32) : wth (wth k b q) b r = wth k b r := by
  refine Nat.eq_of_testBit_eq (fun i => ?_)
  rw [wth_bit hr, wth_bit hr, wth_bit hq]
  split
  · rfl
  · split
    · rfl
    · rfl
theorem wth_self {k b : Nat} : wth k b (plc k b) = k := by
  refine Nat.eq_of_testBit_eq (fun i => ?_)
  rw [wth_bit (plc_lt k b), plc_bit]
  split
  · rfl
  · split
    · rw [show 5 * (6 - b) + (i - 5 * (6 - b)) = i by omega]
      simp [show i - 5 * (6 - b) < 5 by omega]
    · rfl
/-- the key of the places of the blocks below n -/
def pkey (ps : Nat → Nat) : Nat → Nat
  | 0 => 0
  | b + 1 => wth (pkey ps b) b (ps b)
theorem pkey_lt {ps : Nat → Nat} : ∀ {n : Nat}, (∀ b, b < n → ps b < 32) → pkey ps n < 2 ^ 35
  | 0, _ => by show 0 < 2 ^ 35; decide
  | n + 1, h => wth_lt (pkey_lt fun b hb => h b (by omega)) (h n (by omega))
theorem plc_zero (b : Nat) : plc 0 b = 0 := by unfold plc; simp
theorem pkey_hi {ps : Nat → Nat} : ∀ {n : Nat}, n ≤ 7 → (∀ b, b < n → ps b < 32) → ∀ c, n ≤ c → c < 7 → plc (pkey ps n) c = 0
  | 0, _, _, c, _, _ => plc_zero c
  | n + 1, hn, h, c, h1, h2 => by
    show plc (wth (pkey ps n) n (ps n)) c = 0
    rw [plc_wth_ne (h n (by omega)) (by omega) h2 (by omega)]
    exact pkey_hi (by omega) (fun b hb => h b (by omega)) c (by omega) h2
theorem plc_pkey {ps : Nat → Nat} : ∀ {n : Nat}, n ≤ 7 → (∀ b, b < n → ps b < 32) → ∀ c, c < n → plc (pkey ps n) c = ps c
  | 0, _, _, c, h => absurd h (Nat.not_lt_zero c)
  | n + 1, hn, h, c, hc => by
    show plc (wth (pkey ps n) n (ps n)) c = ps c
    by_cases e : c = n
    · subst e; exact plc_wth_self (h c (by omega))
    · rw [plc_wth_ne (h n (by omega)) (by omega) (by omega) e]
      exact plc_pkey (by omega) (fun b hb => h b (by omega)) c (by omega)
/-! ===== what is taken; steps ===== -/
def exb (gn bt : Option Nat) (b : Nat) : Bool := decide (bt = some b) || decide (gn = some b)
def tk (wl : Nat) (sh : Nat → Nat) (k : Nat) (ex : Nat → Bool) : Nat → Nat
  | 0 => wl
  | b + 1 => if ex b then tk wl sh k ex b else tk wl sh k ex b ||| sh b <<< plc k b
theorem tk_bit {wl : Nat} {sh : Nat → Nat} {k : Nat} {ex : Nat → Bool} {i : Nat} : ∀ {n : Nat}, (tk wl sh k ex n).testBit i = true ↔ wl.testBit i = true ∨ ∃ b, b < n ∧ ex b = false ∧ (sh b <<< plc k b).testBit i = true
  | 0 => by
    constructor
    · intro h; exact Or.inl h
    · rintro (h | ⟨b, hb, -⟩)
      · exact h
      · exact absurd hb (Nat.not_lt_zero b)
  | n + 1 => by
    have ih := tk_bit (wl := wl) (sh := sh) (k := k) (ex := ex) (i := i) (n := n)
    show (if ex n then tk wl sh k ex n else tk wl sh k ex n ||| sh n <<< plc k n).testBit i = true ↔ _
    by_cases h : ex n = true
    · rw [if_pos h, ih]
      constructor
      · rintro (h1 | ⟨b, hb, h1⟩)
        · exact Or.inl h1
        · exact Or.inr ⟨b, by omega, h1⟩
      · rintro (h1 | ⟨b, hb, h1, h2⟩)
        · exact Or.inl h1
        · by_cases e : b = n
          · subst e; rw [h] at h1; cases h1
          · exact Or.inr ⟨b, by omega, h1, h2⟩
    · rw [if_neg h, Nat.testBit_or, Bool.or_eq_true, ih]
      constructor
      · rintro ((h1 | ⟨b, hb, h1⟩) | h1)
        · exact Or.inl h1
        · exact Or.inr ⟨b, by omega, h1⟩
        · exact Or.inr ⟨n, by omega, by simpa using h, h1⟩
      · rintro (h1 | ⟨b, hb, h1, h2⟩)
        · exact Or.inl (Or.inl h1)
        · by_cases e : b = n
          · subst e; exact Or.inr h2
          · exact Or.inl (Or.inr ⟨b, by omega, h1, h2⟩)
theorem and_zero {x y : Nat} : x &&& y = 0 ↔ ∀ i, x.testBit i = true → y.testBit i = true → False := by
  constructor
  · intro h i h1 h2
    have := congrArg (fun z : Nat => z.testBit i) h
    simp [h1, h2] at this
  · intro h
    refine Nat.eq_of_testBit_eq (fun i => ?_)
    rw [Nat.testBit_and, Nat.zero_testBit]
    cases h1 : x.testBit i <;> cases h2 : y.testBit i <;> simp
    exact h i h1 h2
/-- the place beside, in the frame -/
def stp (wd hd w h p d : Nat) : Option Nat :=
  if d = 0 then (if 1 ≤ p / wd then some (p - wd) else none)
  else if d = 1 then (if p % wd + 1 + w ≤ wd then some (p + 1) else none)
  else if d = 2 then (if p / wd + 1 + h ≤ hd then some (p + wd) else none)
  else (if 1 ≤ p % wd then some (p - 1) else none)
/-- a step among the others -/
def mvt (wd hd w h s ot p d : Nat) : Option Nat := (stp wd hd w h p d).bind fun q => if (s <<< q) &&& ot = 0 then some q else none
/-! ===== breadth first ===== -/
/-- far is the least number of steps from the places S -/
def LD (step : Nat → Nat → Prop) (S : Nat → Prop) (F : Nat → Option Nat) : Prop :=
  (∀ p, S p → F p = some 0) ∧ (∀ p, F p = some 0 → S p) ∧ (∀ p d, F p = some (d + 1) → ∃ q, F q = some d ∧ step q p) ∧ ∀ q p d, F q = some d → step q p → ∃ e, F p = some e ∧ e ≤ d + 1
theorem LD_le {step : Nat → Nat → Prop} {S : Nat → Prop} {F G : Nat → Option Nat} (h1 : LD step S F) (h2 : LD step S G) : ∀ d p, F p = some d → ∃ e, G p = some e ∧ e ≤ d := by
  intro d
  induction d with
  | zero => intro p h; exact ⟨0, h2.1 p (h1.2.1 p h), Nat.le_refl 0⟩
  | succ d ih =>
    intro p h
    obtain ⟨q, hq, hs⟩ := h1.2.2.1 p d h
    obtain ⟨e, he, hle⟩ := ih q hq
    obtain ⟨e', he', hle'⟩ := h2.2.2.2 q p e he hs
    exact ⟨e', he', by omega⟩
theorem LD_eq {step : Nat → Nat → Prop} {S : Nat → Prop} {F G : Nat → Option Nat} (h1 : LD step S F) (h2 : LD step S G) : F = G := by
  funext p
  cases hF : F p with
  | some d =>
    obtain ⟨e, he, hle⟩ := LD_le h1 h2 d p hF
    obtain ⟨d', hd', hle'⟩ := LD_le h2 h1 e p he
    rw [hF] at hd'
    cases hd'
    rw [he]
    congr 1
    omega
  | none =>
    cases hG : G p with
    | none => rfl
    | some e =>
      obtain ⟨d', hd', -⟩ := LD_le h2 h1 e p hG
      rw [hF] at hd'
      cases hd'
/-- the line of a search: m found, k looked at -/
def BI (step : Nat → Nat → Prop) (S : Nat → Prop) (F : Nat → Option Nat) (Q : Nat → Nat) (m k : Nat) : Prop :=
  k ≤ m ∧ (∀ i, i < m → ∃ d, F (Q i) = some d) ∧ (∀ p d, F p = some d → ∃ i, i < m ∧ Q i = p) ∧ (∀ i j, i < m → j < m → Q i = Q j → i = j) ∧
  (∀ p, S p → F p = some 0) ∧ (∀ p, F p = some 0 → S p) ∧ (∀ p d, F p = some (d + 1) → ∃ q, F q = some d ∧ step q p) ∧
  (∀ i j d e, i ≤ j → j < m → F (Q i) = some d → F (Q j) = some e → d ≤ e ∧ (k ≤ i → e ≤ d + 1)) ∧
  (∀ i p d, i < k → F (Q i) = some d → step (Q i) p → ∃ e, F p = some e ∧ e ≤ d + 1)
theorem BI_done {step : Nat → Nat → Prop} {S : Nat → Prop} {F : Nat → Option Nat} {Q : Nat → Nat} {m : Nat} (h : BI step S F Q m m) : LD step S F := by
  obtain ⟨-, -, h3, -, h5, h6, h7, -, h9⟩ := h
  refine ⟨h5, h6, h7, fun q p d hq hs => ?_⟩
  obtain ⟨i, hi, rfl⟩ := h3 q d hq
  exact h9 i p d hi hq hs
/-- the head looked at -/
theorem BI_next {step : Nat → Nat → Prop} {S : Nat → Prop} {F : Nat → Option Nat} {Q : Nat → Nat} {m k : Nat} (h : BI step S F Q m k) (hk : k < m) (hd : ∀ p d, F (Q k) = some d → step (Q k) p → ∃ e, F p = some e ∧ e ≤ d + 1) : BI step S F Q m (k + 1) := by
  obtain ⟨h1, h2, h3, h4, h5, h6, h7, h8, h9⟩ := h
  refine ⟨hk, h2, h3, h4, h5, h6, h7, fun i j d e hij hj hi hj2 => ⟨(h8 i j d e hij hj hi hj2).1, fun hk2 => (h8 i j d e hij hj hi hj2).2 (by omega)⟩, fun i p d hi hq hs => ?_⟩
  by_cases e : i = k
  · subst e; exact hd p d hq hs
  · exact h9 i p d (by omega) hq hs
/-- a new place found from the head -/
theorem BI_push {step : Nat → Nat → Prop} {S : Nat → Prop} {F : Nat → Option Nat} {Q : Nat → Nat} {m k p d : Nat} (h : BI step S F Q m k) (hk : k < m) (hd : F (Q k) = some d) (hs : step (Q k) p) (hp : F p = none) : BI step S (va_up F p (some (d + 1))) (va_up Q m p) (m + 1) k := by
  obtain ⟨h1, h2, h3, h4, h5, h6, h7, h8, h9⟩ := h
  have fo : ∀ q, q ≠ p → va_up F p (some (d + 1)) q = F q := fun q hq => by unfold va_up; rw [if_neg hq]
  have fp : va_up F p (some (d + 1)) p = some (d + 1) := by unfold va_up; rw [if_pos rfl]
  have qo : ∀ i, i < m → va_up Q m p i = Q i := fun i hi => by unfold va_up; rw [if_neg (by omega)]
  have qm : va_up Q m p m = p := by unfold va_up; rw [if_pos rfl]
  have ne : ∀ q e, F q = some e → q ≠ p := fun q e hq e2 => by subst e2; rw [hp] at hq; cases hq
  have qne : ∀ i, i < m → Q i ≠ p := fun i hi => by
    obtain ⟨e, he⟩ := h2 i hi
    exact ne _ _ he
  refine ⟨by omega, fun i hi => ?_, fun q e hq => ?_, fun i j hi hj hij => ?_, fun q hq => ?_, fun q hq => ?_, fun q e hq => ?_, fun i j a b hij hj hi hj2 => ?_, fun i q a hi hq hst => ?_⟩
  · by_cases e : i = m
    · subst e; rw [qm]; exact ⟨_, fp⟩
    · rw [qo i (by omega), fo _ (qne i (by omega))]; exact h2 i (by omega)
  · by_cases e1 : q = p
    · subst e1; exact ⟨m, by omega, qm⟩
    · rw [fo q e1] at hq
      obtain ⟨i, hi, e2⟩ := h3 q e hq
      exact ⟨i, by omega, by rw [qo i hi]; exact e2⟩
  · by_cases e1 : i = m
    · by_cases e2 : j = m
      · omega
      · subst e1; rw [qm, qo j (by omega)] at hij; exact absurd hij.symm (qne j (by omega))
    · by_cases e2 : j = m
      · subst e2; rw [qm, qo i (by omega)] at hij; exact absurd hij (qne i (by omega))
      · rw [qo i (by omega), qo j (by omega)] at hij; exact h4 i j (by omega) (by omega) hij
  · have h := h5 q hq
    rw [fo q (ne _ _ h)]; exact h
  · by_cases e1 : q = p
    · subst e1; rw [fp] at hq; cases hq
    · rw [fo q e1] at hq; exact h6 q hq
  · by_cases e1 : q = p
    · subst e1
      rw [fp] at hq
      have : e = d := by
        have h10 := Option.some.inj hq
        omega
      subst this
      exact ⟨Q k, by rw [fo _ (ne _ _ hd)]; exact hd, hs⟩
    · rw [fo q e1] at hq
      obtain ⟨r, hr, hrs⟩ := h7 q e hq
      exact ⟨r, by rw [fo r (ne _ _ hr)]; exact hr, hrs⟩
  · by_cases e1 : i = m
    · have e2 : j = m := by omega
      subst e1; subst e2
      rw [hi] at hj2
      cases hj2
      exact ⟨Nat.le_refl _, fun _ => by omega⟩
    · by_cases e2 : j = m
      · subst e2
        rw [qm, fp] at hj2
        cases hj2
        rw [qo i (by omega), fo _ (qne i (by omega))] at hi
        by_cases hik : i ≤ k
        · have h10 := h8 i k a d hik hk hi hd
          refine ⟨by omega, fun hk2 => ?_⟩
          have : i = k := by omega
          subst this
          rw [hd] at hi
          cases hi
          omega
        · have h10 := h8 k i d a (by omega) (by omega) hd hi
          have h11 := h10.2 (Nat.le_refl _)
          exact ⟨by omega, fun _ => by omega⟩
      · rw [qo i (by omega), fo _ (qne i (by omega))] at hi
        rw [qo j (by omega), fo _ (qne j (by omega))] at hj2
        exact h8 i j a b hij (by omega) hi hj2
  · rw [qo i (by omega), fo _ (qne i (by omega))] at hq
    rw [qo i (by omega)] at hst
    obtain ⟨e, he, hle⟩ := h9 i q a hi hq hst
    exact ⟨e, by rw [fo q (ne _ _ he)]; exact he, hle⟩
/-- what was found before isn't farther -/
theorem BI_old {step : Nat → Nat → Prop} {S : Nat → Prop} {F : Nat → Option Nat} {Q : Nat → Nat} {m k p d e : Nat} (h : BI step S F Q m k) (hk : k < m) (hd : F (Q k) = some d) (hp : F p = some e) : e ≤ d + 1 := by
  obtain ⟨h1, h2, h3, h4, h5, h6, h7, h8, h9⟩ := h
  obtain ⟨j, hj, rfl⟩ := h3 p e hp
  by_cases hkj : k ≤ j
  · exact (h8 k j d e hkj hj hd hp).2 (Nat.le_refl _)
  · have := (h8 j k e d (by omega) hk hp hd).1
    omega
theorem BI_one {step : Nat → Nat → Prop} {F : Nat → Option Nat} {Q : Nat → Nat} {s : Nat} (hF : ∀ p, p ≠ s → F p = none) (hs : F s = some 0) (hQ : Q 0 = s) : BI step (fun p => p = s) F Q 1 0 := by
  have hn : ∀ p d, F p = some d → p = s := fun p d h => by
    by_cases e : p = s
    · exact e
    · rw [hF p e] at h; cases h
  refine ⟨by omega, fun i hi => ⟨0, by rw [show i = 0 by omega, hQ]; exact hs⟩, fun p d h => ⟨0, by omega, by rw [hQ, hn p d h]⟩, fun i j hi hj _ => by omega, fun p h => by rw [h]; exact hs, fun p h => hn p 0 h, fun p d h => ?_, fun i j d e hij hj hi hj2 => ?_, fun i p d hi => by omega⟩
  · have := hn p _ h
    subst this
    rw [hs] at h
    cases h
  · have e1 : i = j := by omega
    subst e1
    rw [hi] at hj2
    cases hj2
    exact ⟨Nat.le_refl _, fun _ => by omega⟩
/-- nothing found yet -/
theorem BI_none {step : Nat → Nat → Prop} {F : Nat → Option Nat} {Q : Nat → Nat} (hF : ∀ p, F p = none) : BI step (fun _ => False) F Q 0 0 :=
  ⟨Nat.le_refl 0, fun i hi => absurd hi (Nat.not_lt_zero i), fun p d h => (by rw [hF] at h; cases h), fun i j hi => absurd hi (Nat.not_lt_zero i), fun p h => h.elim, fun p h => (by rw [hF] at h; cases h), fun p d h => (by rw [hF] at h; cases h), fun i j d e hij hj => absurd hj (Nat.not_lt_zero j), fun i p d hi => absurd hi (Nat.not_lt_zero i)⟩
/-- one more start -/
theorem BI_src {step : Nat → Nat → Prop} {S : Nat → Prop} {F : Nat → Option Nat} {Q : Nat → Nat} {m s : Nat} (h : BI step S F Q m 0) (hz : ∀ p d, F p = some d → d = 0) (hs : F s = none) : BI step (fun p => S p ∨ p = s) (va_up F s (some 0)) (va_up Q m s) (m + 1) 0 ∧ ∀ p d, va_up F s (some 0) p = some d → d = 0 := by
  obtain ⟨h1, h2, h3, h4, h5, h6, h7, h8, h9⟩ := h
  have fo : ∀ q, q ≠ s → va_up F s (some 0) q = F q := fun q hq => by unfold va_up; rw [if_neg hq]
  have fp : va_up F s (some 0) s = some 0 := by unfold va_up; rw [if_pos rfl]
  have qo : ∀ i, i < m → va_up Q m s i = Q i := fun i hi => by unfold va_up; rw [if_neg (by omega)]
  have qm : va_up Q m s m = s := by unfold va_up; rw [if_pos rfl]
  have ne : ∀ q e, F q = some e → q ≠ s := fun q e hq e2 => by subst e2; rw [hs] at hq; cases hq
  have qne : ∀ i, i < m → Q i ≠ s := fun i hi => by
    obtain ⟨e, he⟩ := h2 i hi
    exact ne _ _ he
  have hz2 : ∀ p d, va_up F s (some 0) p = some d → d = 0 := fun p d hp => by
    by_cases e : p = s
    · subst e; rw [fp] at hp; exact (Option.some.inj hp).symm
    · rw [fo p e] at hp; exact hz p d hp
  refine ⟨⟨by omega, fun i hi => ?_, fun q e hq => ?_, fun i j hi hj hij => ?_, fun q hq => ?_, fun q hq => ?_, fun q e hq => ?_, fun i j a b hij hj hi hj2 => ?_, fun i q a hi => absurd hi (Nat.not_lt_zero i)⟩, hz2⟩
  · by_cases e : i = m
    · subst e; rw [qm]; exact ⟨_, fp⟩
    · rw [qo i (by omega), fo _ (qne i (by omega))]; exact h2 i (by omega)
  · by_cases e1 : q = s
    · subst e1; exact ⟨m, by omega, qm⟩
    · rw [fo q e1] at hq
      obtain ⟨i, hi, e2⟩ := h3 q e hq
      exact ⟨i, by omega, by rw [qo i hi]; exact e2⟩
  · by_cases e1 : i = m
    · by_cases e2 : j = m
      · omega
      · subst e1; rw [qm, qo j (by omega)] at hij; exact absurd hij.symm (qne j (by omega))
    · by_cases e2 : j = m
      · subst e2; rw [qm, qo i (by omega)] at hij; exact absurd hij (qne i (by omega))
      · rw [qo i (by omega), qo j (by omega)] at hij; exact h4 i j (by omega) (by omega) hij
  · rcases hq with hq | hq
    · have h := h5 q hq
      rw [fo q (ne _ _ h)]; exact h
    · rw [hq]; exact fp
  · by_cases e1 : q = s
    · exact Or.inr e1
    · rw [fo q e1] at hq; exact Or.inl (h6 q hq)
  · have := hz2 q _ hq
    omega
  · have e1 := hz2 _ _ hi
    have e2 := hz2 _ _ hj2
    exact ⟨by omega, fun _ => by omega⟩
/-! ===== the tables ===== -/
theorem pigeon : ∀ (n m : Nat) (f : Nat → Nat), n < m → (∀ i, i < m → f i < n) → ∃ i j, i < j ∧ j < m ∧ f i = f j
  | 0, m, f, hm, hf => absurd (hf 0 hm) (Nat.not_lt_zero _)
  | n + 1, m, f, hm, hf => by
    by_cases hx : ∃ i, i < m - 1 ∧ f i = f (m - 1)
    · obtain ⟨i, hi, he⟩ := hx
      exact ⟨i, m - 1, hi, by omega, he⟩
    · have key : ∀ i, i < m - 1 → (if f i = n then f (m - 1) else f i) < n := fun i hi => by
        have h1 := hf i (by omega)
        have h2 := hf (m - 1) (by omega)
        have h3 : f i ≠ f (m - 1) := fun h => hx ⟨i, hi, h⟩
        split <;> omega
      obtain ⟨i, j, hij, hj, he⟩ := pigeon n (m - 1) (fun i => if f i = n then f (m - 1) else f i) (by omega) key
      have h1 : f i ≠ f (m - 1) := fun h => hx ⟨i, by omega, h⟩
      have h2 : f j ≠ f (m - 1) := fun h => hx ⟨j, by omega, h⟩
      refine ⟨i, j, hij, by omega, ?_⟩
      split at he <;> split at he
      · omega
      · exact absurd he.symm h2
      · exact absurd he h1
      · exact he
/-- a table of M slots over the keys K: 0 or the number of a key and 1 -/
def TI (M : Nat) (hs : Nat → Nat) (K : Nat → Nat) (n : Nat) (T : Nat → Nat) : Prop :=
  n < M ∧ (∀ j, j < M → T j ≤ n) ∧ (∀ i, i < n → ∃ t, t < M ∧ T ((hs (K i) + t) % M) = i + 1 ∧ ∀ u, u < t → T ((hs (K i) + u) % M) ≠ 0) ∧
  (∀ j j', j < M → j' < M → T j = T j' → T j ≠ 0 → j = j') ∧ ∀ i i', i < n → i' < n → K i = K i' → i = i'
theorem TI_0 {M : Nat} {hs K : Nat → Nat} {T : Nat → Nat} (hM : 0 < M) (hT : ∀ j, j < M → T j = 0) : TI M hs K 0 T :=
  ⟨hM, fun j hj => by rw [hT j hj]; exact Nat.le_refl 0, fun i hi => absurd hi (Nat.not_lt_zero i), fun j j' hj _ _ h => absurd (hT j hj) h, fun i _ hi => absurd hi (Nat.not_lt_zero i)⟩
/-- on the way of a search for x: t slots looked at -/
def TW (M : Nat) (hs : Nat → Nat) (K T : Nat → Nat) (x t : Nat) : Prop := ∀ u, u < t → T ((hs x + u) % M) ≠ 0 ∧ K (T ((hs x + u) % M) - 1) ≠ x
theorem TW_0 {M : Nat} {hs K T : Nat → Nat} {x : Nat} : TW M hs K T x 0 := fun u hu => absurd hu (Nat.not_lt_zero u)
theorem TW_s {M : Nat} {hs K T : Nat → Nat} {x t : Nat} (h : TW M hs K T x t) (h1 : T ((hs x + t) % M) ≠ 0) (h2 : K (T ((hs x + t) % M) - 1) ≠ x) : TW M hs K T x (t + 1) := fun u hu => by
  by_cases e : u = t
  · subst e; exact ⟨h1, h2⟩
  · exact h u (by omega)
theorem mod_shift {M a i j : Nat} (h : (a + i) % M = (a + j) % M) (hij : i < j) (hj : j - i < M) : False := by
  have hM : 0 < M := by omega
  have h1 : (a + j) = (a + i) + (j - i) := by omega
  have hd : (j - i) % M = j - i := Nat.mod_eq_of_lt hj
  have h3 : (a + j) % M = ((a + i) % M + (j - i)) % M := by rw [h1, Nat.add_mod, hd]
  rw [h3] at h
  have hr : (a + i) % M < M := Nat.mod_lt _ hM
  generalize (a + i) % M = r at h hr
  by_cases hc : r + (j - i) < M
  · rw [Nat.mod_eq_of_lt hc] at h; omega
  · have h2 : (r + (j - i)) % M = r + (j - i) - M := by
      rw [Nat.mod_eq_sub_mod (by omega), Nat.mod_eq_of_lt (by omega)]
    rw [h2] at h; omega
theorem TW_lt {M : Nat} {hs K T : Nat → Nat} {n x t : Nat} (hT : TI M hs K n T) (h : TW M hs K T x t) (ht : t ≤ M) : t < M := by
  by_cases e : t = M
  · exfalso
    subst e
    obtain ⟨h1, h2, h3, h4, h5⟩ := hT
    have hM : 0 < t := by omega
    obtain ⟨i, j, hij, hj, he⟩ := pigeon n t (fun u => T ((hs x + u) % t) - 1) h1 (fun u hu => by
      have a := h2 ((hs x + u) % t) (Nat.mod_lt _ hM)
      have b := (h u hu).1
      omega)
    have a := (h i (by omega)).1
    have b := (h j hj).1
    exact mod_shift (h4 _ _ (Nat.mod_lt _ hM) (Nat.mod_lt _ hM) (by omega) a) hij (by omega)
  · omega
/-- a free slot: the key isn't there -/
theorem TW_free {M : Nat} {hs K T : Nat → Nat} {n x t : Nat} (hT : TI M hs K n T) (h : TW M hs K T x t) (h0 : T ((hs x + t) % M) = 0) : ∀ i, i < n → K i ≠ x := fun i hi e => by
  subst e
  obtain ⟨h1, h2, h3, h4, h5⟩ := hT
  obtain ⟨u, hu, e1, e2⟩ := h3 i hi
  rcases Nat.lt_trichotomy u t with hc | hc | hc
  · have h6 := (h u hc).2
    rw [e1] at h6
    exact h6 rfl
  · subst hc; omega
  · exact e2 t hc h0
/-- a new key at the free slot -/
theorem TI_add {M : Nat} {hs K T : Nat → Nat} {n x t : Nat} (hT : TI M hs K n T) (h : TW M hs K T x t) (h0 : T ((hs x + t) % M) = 0) (ht : t < M) (hn : n + 1 < M) : TI M hs (va_up K n x) (n + 1) (va_up T ((hs x + t) % M) (n + 1)) := by
  have hfree := TW_free hT h h0
  obtain ⟨h1, h2, h3, h4, h5⟩ := hT
  have hM : 0 < M := by omega
  have to : ∀ j, j ≠ (hs x + t) % M → va_up T ((hs x + t) % M) (n + 1) j = T j := fun j hj => by unfold va_up; rw [if_neg hj]
  have tn : va_up T ((hs x + t) % M) (n + 1) ((hs x + t) % M) = n + 1 := by unfold va_up; rw [if_pos rfl]
  have ko : ∀ i, i < n → va_up K n x i = K i := fun i hi => by unfold va_up; rw [if_neg (by omega)]
  have kn : va_up K n x n = x := by unfold va_up; rw [if_pos rfl]
  have nz : ∀ j, T j ≠ 0 → va_up T ((hs x + t) % M) (n + 1) j ≠ 0 := fun j hj => by
    unfold va_up; split
    · omega
    · exact hj
  refine ⟨hn, fun j hj => ?_, fun i hi => ?_, fun j j' hj hj' he hz => ?_, fun i i' hi hi' he => ?_⟩
  · have := h2 j hj
    unfold va_up; split <;> omega
  · by_cases e : i = n
    · subst e
      rw [kn]
      exact ⟨t, ht, tn, fun u hu => nz _ (h u hu).1⟩
    · rw [ko i (by omega)]
      obtain ⟨u, hu, e1, e2⟩ := h3 i (by omega)
      refine ⟨u, hu, ?_, fun v hv => nz _ (e2 v hv)⟩
      rw [to]
      · exact e1
      · intro e3; rw [e3, h0] at e1; omega
  · by_cases e1 : j = (hs x + t) % M
    · by_cases e2 : j' = (hs x + t) % M
      · rw [e1, e2]
      · rw [e1, tn, to j' e2] at he
        have := h2 j' hj'
        omega
    · by_cases e2 : j' = (hs x + t) % M
      · rw [e2, tn, to j e1] at he
        have := h2 j hj
        omega
      · rw [to j e1, to j' e2] at he
        rw [to j e1] at hz
        exact h4 j j' hj hj' he hz
  · by_cases e1 : i = n
    · by_cases e2 : i' = n
      · omega
      · rw [e1, kn, ko i' (by omega)] at he
        exact absurd he.symm (hfree i' (by omega))
    · by_cases e2 : i' = n
      · rw [e2, kn, ko i (by omega)] at he
        exact absurd he (hfree i (by omega))
      · rw [ko i (by omega), ko i' (by omega)] at he
        exact h5 i i' (by omega) (by omega) he
