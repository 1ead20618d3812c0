/-! ===== the reference's table, and all states ===== -/
def hM (k : Nat) : Nat := (k ^^^ k / 2 ^ 13 ^^^ k / 2 ^ 23) % 8192
theorem hM_0 (k : Nat) : nI (((k ^^^ (k / 2 ^ 13)) ^^^ (k / 2 ^ 23)) &&& 8191) = nI ((hM k + 0) % 8192) := by
  unfold hM
  rw [Nat.add_zero, Nat.mod_mod, show (8191 : Nat) = 2 ^ 13 - 1 from rfl, Nat.and_two_pow_sub_one_eq_mod]
theorem hM_s (a t : Nat) : nI (((a + t) % 8192 + 1) &&& 8191) = nI ((a + (t + 1)) % 8192) := by
  rw [show (8191 : Nat) = 2 ^ 13 - 1 from rfl, Nat.and_two_pow_sub_one_eq_mod, show (2 : Nat) ^ 13 = 8192 from rfl]
  congr 1
  omega
def isMv (z : Bool) (x : Option Nat) : Bool := match x with
  | some (e + 1) => z || e == 0
  | _ => false
theorem isMvA {x : Option Nat} (h : ¬ oI x ≤ 0) : nI 1 = bI (isMv true x) := by
  match x, h with
  | none, h => exact absurd (by decide) h
  | some 0, h => exact absurd (by decide) h
  | some (e + 1), _ => rfl
theorem isMvB {x : Option Nat} (ho : ∀ d, x = some d → d < 2 ^ 31) (h : oI x ≤ 0) : nI 0 = bI (isMv true x) := by
  match x, h, ho with
  | none, _, _ => rfl
  | some 0, _, _ => rfl
  | some (e + 1), h, ho => exact absurd h (nI_nle (by omega) (ho _ rfl))
theorem isMvC {x : Option Nat} (h : ¬ oI x = nI 1) : nI 0 = bI (isMv false x) := by
  match x, h with
  | none, h => rfl
  | some 0, h => rfl
  | some 1, h => exact absurd rfl h
  | some (e + 2), _ => rfl
theorem isMvD {x : Option Nat} (ho : ∀ d, x = some d → d < 2 ^ 31) (h : oI x = nI 1) : nI 1 = bI (isMv false x) := by
  match x, h, ho with
  | none, h, _ => exact absurd h (by decide)
  | some d, h, ho =>
    have h1 : d = 1 := (nI_eq (ho d rfl) (by decide)).mp h
    subst h1; rfl
/-- reached in so many steps -/
def pth (step : Nat → Nat → Prop) : Nat → Nat → Nat → Prop
  | 0, a, b => a = b
  | d + 1, a, b => ∃ c, pth step d a c ∧ step c b
def Rch (step : Nat → Nat → Prop) (a b : Nat) : Prop := ∃ d, pth step d a b
theorem Rch_0 {step : Nat → Nat → Prop} {a : Nat} : Rch step a a := ⟨0, rfl⟩
theorem Rch_s {step : Nat → Nat → Prop} {a b c : Nat} (h : Rch step a b) (hs : step b c) : Rch step a c := by
  obtain ⟨d, hd⟩ := h
  exact ⟨d + 1, b, hd, hs⟩
def Has (K : Nat → Nat) (n x : Nat) : Prop := ∃ i, i < n ∧ K i = x
/-- the steps of one block of a state -/
def bst (wd hd nb wl : Nat) (sh bw bh : Nat → Nat) (gn : Option Nat) (c k x : Nat) : Prop := gn ≠ some c ∧ ∃ d, d < 4 ∧ ∃ q, mvt wd hd (bw c) (bh c) (sh c) (tk wl sh k (exb gn (some c)) nb) (plc k c) d = some q ∧ x = wth k c q
def kst (wd hd nb wl : Nat) (sh bw bh : Nat → Nat) (gn : Option Nat) (k x : Nat) : Prop := ∃ c, c < nb ∧ bst wd hd nb wl sh bw bh gn c k x
theorem tk_and {x wl : Nat} {sh : Nat → Nat} {k : Nat} {ex : Nat → Bool} {n : Nat} : x &&& tk wl sh k ex n = 0 ↔ x &&& wl = 0 ∧ ∀ b, b < n → ex b = false → x &&& (sh b <<< plc k b) = 0 := by
  rw [and_zero, and_zero]
  constructor
  · intro h
    exact ⟨fun i h1 h2 => h i h1 (tk_bit.mpr (Or.inl h2)), fun b hb he => and_zero.mpr (fun i h1 h2 => h i h1 (tk_bit.mpr (Or.inr ⟨b, hb, he, h2⟩)))⟩
  · rintro ⟨h1, h2⟩ i hi ht
    rcases tk_bit.mp ht with h | ⟨b, hb, he, h⟩
    · exact h1 i hi h
    · exact and_zero.mp (h2 b hb he) i hi h
theorem exb_f {gn bt : Option Nat} {b : Nat} : exb gn bt b = false ↔ bt ≠ some b ∧ gn ≠ some b := by
  unfold exb
  rw [Bool.or_eq_false_iff, decide_eq_false_iff_not, decide_eq_false_iff_not]
theorem KV_step {wd hd nb wl : Nat} {sh bw bh : Nat → Nat} {gn : Option Nat} {k b d q : Nat} (hf : FrV wd hd nb wl sh bw bh) (hk : KV wd hd nb wl sh bw bh gn k) (hb : b < nb) (hg : gn ≠ some b) (hm : mvt wd hd (bw b) (bh b) (sh b) (tk wl sh k (exb gn (some b)) nb) (plc k b) d = some q) : q < 24 ∧ PlV wd hd (bw b) (bh b) q ∧ KV wd hd nb wl sh bw bh gn (wth k b q) := by
  have hn7 := hf.2.2.2.2.2.1
  have hs := hf.2.2.2.2.2.2.2 b hb
  obtain ⟨h1, h2⟩ := mvt_inv hm
  have hp := stp_pl hf.1 hs.1 (hk.2.2 b hb hg).1 h1
  have hq := fr_lt hf.1 hf.2.2.2.2.1 hs.2.2.1 hp
  obtain ⟨h3, h4⟩ := tk_and.mp h2
  refine ⟨hq, hp, wth_lt hk.1 (by omega), fun c hc h => ?_, fun c hc hgc => ?_⟩
  · rw [plc_wth_ne (by omega) (by omega) hc (by rintro rfl; rcases h with h | h; omega; exact hg h)]
    exact hk.2.1 c hc h
  · have ne : ∀ c', c' < nb → c' ≠ b → plc (wth k b q) c' = plc k c' := fun c' h1 h2 => plc_wth_ne (by omega) (by omega) (by omega) h2
    by_cases e : c = b
    · subst e
      rw [plc_wth_self (by omega)]
      refine ⟨hp, h3, fun c' hc' hgc' hne => ?_⟩
      rw [ne c' hc' hne]
      exact h4 c' hc' (exb_f.mpr ⟨fun h => hne (Option.some.inj h).symm, hgc'⟩)
    · rw [ne c hc e]
      obtain ⟨a1, a2, a3⟩ := hk.2.2 c hc hgc
      refine ⟨a1, a2, fun c' hc' hgc' hne => ?_⟩
      by_cases e' : c' = b
      · subst e'
        rw [plc_wth_self (by omega), Nat.and_comm]
        exact h4 c hc (exb_f.mpr ⟨fun h => e (Option.some.inj h).symm, hgc⟩)
      · rw [ne c' hc' e']
        exact a3 c' hc' hgc' hne
/-- what a look-up with adding does -/
def FDS (K : Nat → Nat) (n : Nat) (T : Nat → Nat) (tm : Bool) (x : Nat) (K2 : Nat → Nat) (n2 : Nat) (T2 : Nat → Nat) (tm2 : Bool) : Prop :=
  (n2 = n ∧ K2 = K ∧ T2 = T ∧ ((tm2 = tm ∧ Has K n x) ∨ (tm2 = true ∧ n = 2000 ∧ ∀ i, i < n → K i ≠ x))) ∨ (n < 2000 ∧ n2 = n + 1 ∧ K2 = va_up K n x ∧ tm2 = tm ∧ TI 8192 hM K2 n2 T2 ∧ ∀ i, i < n → K i ≠ x)
/-- what holds of the states found -/
def EI (step : Nat → Nat → Prop) (V : Nat → Prop) (k0 : Nat) (K : Nat → Nat) (n : Nat) (T : Nat → Nat) (tm : Bool) : Prop :=
  TI 8192 hM K n T ∧ n ≤ 2000 ∧ 1 ≤ n ∧ K 0 = k0 ∧ (∀ i, i < n → Rch step k0 (K i) ∧ V (K i)) ∧ (tm = true → n = 2000 ∧ ∃ x, Rch step k0 x ∧ V x ∧ ∀ i, i < n → K i ≠ x)
theorem EI_0 {step : Nat → Nat → Prop} {V : Nat → Prop} {k0 : Nat} {K T K2 T2 : Nat → Nat} {n2 : Nat} {tm2 : Bool} (hV : V k0) (h : FDS K 0 T false k0 K2 n2 T2 tm2) : EI step V k0 K2 n2 T2 tm2 := by
  rcases h with ⟨-, -, -, ⟨-, i, hi, -⟩ | ⟨-, h, -⟩⟩ | ⟨-, rfl, rfl, rfl, h, -⟩
  · omega
  · omega
  · refine ⟨h, by omega, by omega, up_eq K 0 k0, fun i hi => ?_, fun h => by cases h⟩
    have : i = 0 := by omega
    subst this
    rw [up_eq]
    exact ⟨Rch_0, hV⟩
theorem EI_s {step : Nat → Nat → Prop} {V : Nat → Prop} {k0 x : Nat} {K T K2 T2 : Nat → Nat} {n n2 : Nat} {tm tm2 : Bool} (hE : EI step V k0 K n T tm) (hR : Rch step k0 x) (hV : V x) (h : FDS K n T tm x K2 n2 T2 tm2) : EI step V k0 K2 n2 T2 tm2 ∧ n ≤ n2 ∧ (∀ i, i < n → K2 i = K i) ∧ (tm2 = false → tm = false ∧ Has K2 n2 x) := by
  obtain ⟨h1, h2, h3, h4, h5, h6⟩ := id hE
  rcases h with ⟨rfl, rfl, rfl, ⟨rfl, hh⟩ | ⟨rfl, hn, hh⟩⟩ | ⟨hn, rfl, rfl, rfl, hT, hh⟩
  · exact ⟨hE, Nat.le_refl _, fun _ _ => rfl, fun e => ⟨e, hh⟩⟩
  · exact ⟨⟨h1, h2, h3, h4, h5, fun _ => ⟨hn, x, hR, hV, hh⟩⟩, Nat.le_refl _, fun _ _ => rfl, fun e => by cases e⟩
  · have ko : ∀ i, i < n → va_up K n x i = K i := fun i hi => up_ne K (by omega)
    refine ⟨⟨hT, by omega, by omega, by rw [ko 0 (by omega)]; exact h4, fun i hi => ?_, fun e => ?_⟩, by omega, ko, fun e => ⟨e, n, by omega, up_eq K n x⟩⟩
    · by_cases e : i = n
      · subst e; rw [up_eq]; exact ⟨hR, hV⟩
      · rw [ko i (by omega)]; exact h5 i (by omega)
    · have := (h6 e).1; omega
theorem Has_up {K K2 : Nat → Nat} {n n2 x : Nat} (h : Has K n x) (hn : n ≤ n2) (hK : ∀ i, i < n → K2 i = K i) : Has K2 n2 x := by
  obtain ⟨i, hi, e⟩ := h
  exact ⟨i, by omega, by rw [hK i hi]; exact e⟩
def k0e (ps : Nat → Nat) (nb : Nat) (wo : Option Nat) : Nat := match wo with
  | none => pkey ps nb
  | some w => wth (pkey ps nb) w 0
theorem up_zero {T : Nat → Nat} {j : Nat} (iz : ∀ i, i < j → T i = 0) : ∀ i, i < j + 1 → va_up T j 0 i = 0 := fun i hi => by
  unfold va_up; split
  · rfl
  · exact iz i (by omega)
