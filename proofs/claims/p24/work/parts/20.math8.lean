/-! ===== arguments; more answers ===== -/
/-- an argument as a number below n -/
def bOf (n : Nat) (x : Int32) : Option Nat := if 0 ≤ x.toInt ∧ x.toInt < n then some x.toInt.toNat else none
theorem bOf_some {n : Nat} {x : Int32} (hn : n < 2 ^ 30) (h : (decide (nI 0 ≤ x) && decide (x ≤ nI n - nI 1)) = true) : ∃ b, b < n ∧ x = nI b ∧ bOf n x = some b := by
  rw [Bool.and_eq_true, decide_eq_true_eq, decide_eq_true_eq] at h
  obtain ⟨h1, h2⟩ := h
  have a1 := Int32.le_iff_toInt_le.mp h1
  have a2 := Int32.le_iff_toInt_le.mp h2
  rw [nI_toInt (by decide)] at a1
  rw [pk_sub_toInt hn (by decide)] at a2
  obtain ⟨j, hj, rfl⟩ := nI_of (x := x) (fun h => by
    have := Int32.lt_iff_toInt_lt.mp h
    have e0 : (0 : Int32).toInt = 0 := rfl
    rw [e0] at this
    omega)
  rw [nI_toInt hj] at a1 a2
  refine ⟨j, by omega, rfl, ?_⟩
  unfold bOf
  rw [nI_toInt hj, if_pos ⟨by omega, by omega⟩]
  rfl
theorem bOf_none {n : Nat} {x : Int32} (hn : n < 2 ^ 30) (h : (decide (nI 0 ≤ x) && decide (x ≤ nI n - nI 1)) = false) : bOf n x = none := by
  unfold bOf
  rw [if_neg]
  rintro ⟨h1, h2⟩
  have a1 : nI 0 ≤ x := Int32.le_iff_toInt_le.mpr (by rw [nI_toInt (by decide)]; omega)
  have a2 : x ≤ nI n - nI 1 := Int32.le_iff_toInt_le.mpr (by rw [pk_sub_toInt hn (by decide)]; omega)
  simp [a1, a2] at h
theorem bOf_nI {n b : Nat} (hb : b < n) (hn : n < 2 ^ 30) : bOf n (nI b) = some b := by
  unfold bOf
  rw [nI_toInt (by omega), if_pos ⟨by omega, by omega⟩]
  rfl
theorem pred_eq {e d : Nat} (he : e < 2 ^ 30) (hd : d < 2 ^ 30) : nI e = nI d - nI 1 ↔ d = e + 1 := by
  constructor
  · intro h
    have h2 := congrArg Int32.toInt h
    rw [nI_toInt (by omega), pk_sub_toInt hd (by decide)] at h2
    omega
  · intro h
    subst h
    rw [pk_sub (by omega)]
    congr 1
def orN (K : Nat → Nat) (b : Nat) : Nat → Nat
  | 0 => 0
  | i + 1 => orN K b i ||| 1 <<< plc (K i) b
theorem orN_bit {K : Nat → Nat} {b i : Nat} : ∀ {n : Nat}, (orN K b n).testBit i = true ↔ ∃ j, j < n ∧ plc (K j) b = i
  | 0 => by
    constructor
    · intro h; simp [orN] at h
    · rintro ⟨j, hj, -⟩; exact absurd hj (Nat.not_lt_zero j)
  | n + 1 => by
    show (orN K b n ||| 1 <<< plc (K n) b).testBit i = true ↔ _
    rw [Nat.testBit_or, Bool.or_eq_true, orN_bit, Nat.one_shiftLeft, Nat.testBit_two_pow, decide_eq_true_eq]
    constructor
    · rintro (⟨j, hj, e⟩ | e)
      · exact ⟨j, by omega, e⟩
      · exact ⟨n, by omega, e⟩
    · rintro ⟨j, hj, e⟩
      by_cases h : j = n
      · subst h; exact Or.inr e
      · exact Or.inl ⟨j, by omega, e⟩
noncomputable def f_placesx (wd hd nb wl : Nat) (sh bw bh ps : Nat → Nat) (x : Int32) : Int32 := match bOf nb x with
  | none => -1
  | some b => f_places (kst wd hd nb wl sh bw bh none) b (pkey ps nb)
noncomputable def f_without (wd hd nb wl : Nat) (sh bw bh ps : Nat → Nat) (gl aq : Option Nat) (x : Int32) (z : Bool) : Int32 := match bOf nb x with
  | none => -1
  | some b => if gl = some b then -2 else f_dist (kst wd hd nb wl sh bw bh (some b)) (mvk wd hd nb wl sh bw bh (some b) z) gl aq (wth (pkey ps nb) b 0)
noncomputable def f_hintx (wd hd nb wl : Nat) (sh bw bh ps : Nat → Nat) (gl aq : Option Nat) (z : Bool) : Int32 ⊕ Option (Nat × Nat) := f_hint (kst wd hd nb wl sh bw bh none) (mvk wd hd nb wl sh bw bh none z) nb (flo wd hd nb wl sh bw bh none (pkey ps nb)) z gl aq (pkey ps nb)
/-- what a hint leaves for its making -/
def HIN (wd hd nb wl : Nat) (sh bw bh ps : Nat → Nat) (gl aq : Option Nat) (z : Bool) (r : Int32) (F fa : Nat → Option Nat) : Prop := r = cHint (f_hintx wd hd nb wl sh bw bh ps gl aq z) ∧ ((r < 0 ∧ ∀ p, f_hintx wd hd nb wl sh bw bh ps gl aq z ≠ .inr (some p)) ∨ ∃ b q, f_hintx wd hd nb wl sh bw bh ps gl aq z = .inr (some (b, q)) ∧ b < nb ∧ q < wd * hd ∧ isMv z (fa q) = true ∧ fa = flo wd hd nb wl sh bw bh none (pkey ps nb) b ∧ (∀ d, fa q = some d → d < 24) ∧ ∃ d, d < 2000 ∧ F 0 = some (d + 1) ∧ f_dist (kst wd hd nb wl sh bw bh none) (mvk wd hd nb wl sh bw bh none z) gl aq (pkey ps nb) = nI (d + 1))
theorem TI_has {K T : Nat → Nat} {n x t : Nat} (hT : TI 8192 hM K n T) (hw : TW 8192 hM K T x t) (hf : T ((hM x + t) % 8192) = 0 ∨ 0 < T ((hM x + t) % 8192) ∧ K (T ((hM x + t) % 8192) - 1) = x) (hx : Has K n x) : 0 < T ((hM x + t) % 8192) ∧ T ((hM x + t) % 8192) ≤ n ∧ K (T ((hM x + t) % 8192) - 1) = x := by
  rcases hf with h | h
  · obtain ⟨i, hi, he⟩ := hx
    exact absurd he (TW_free hT hw h i hi)
  · exact ⟨h.1, hT.2.1 _ (Nat.mod_lt _ (by decide)), h.2⟩
/-- moves: slides counted -/
def mvsl (sl : Int32) (z : Bool) (lb : Option Nat) (b : Nat) : Int32 := if z = true ∨ lb ≠ some b then sl + nI 1 else sl + nI 0
theorem fl_rch {wd hd nb wl : Nat} {sh bw bh : Nat → Nat} {gn : Option Nat} {k b : Nat} {F : Nat → Option Nat} (hf : FrV wd hd nb wl sh bw bh) (hb : b < nb) (hg : gn ≠ some b)
    (hF : LD (fstep wd hd (bw b) (bh b) (sh b) (tk wl sh k (exb gn (some b)) nb)) (fun y => y = plc k b) F) (hfb : ∀ x d, F x = some d → x < 24) : ∀ d q, F q = some d → Rch (kst wd hd nb wl sh bw bh gn) k (wth k b q) := by
  have hn7 := hf.2.2.2.2.2.1
  intro d
  induction d with
  | zero =>
    intro q h
    have := hF.2.1 q h
    subst this
    rw [wth_self]; exact Rch_0
  | succ d ih =>
    intro q h
    obtain ⟨r, hr, dd, hdd, hm⟩ := hF.2.2.1 q d h
    have hr24 := hfb r d hr
    refine Rch_s (ih r hr) ⟨b, hb, hg, dd, hdd, q, ?_, ?_⟩
    · rw [plc_wth_self (by omega), tk_wth (by omega) (by omega) nb hn7]; exact hm
    · rw [wth_wth (by omega) (by have := hfb q _ h; omega)]
