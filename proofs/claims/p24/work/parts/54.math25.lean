/-! ===== the component's states ===== -/
def hkC (k : Nat) : Nat := k * 11400714819323198485 % 2 ^ 64 / 2 ^ 52
theorem hC_lt (k : Nat) : hkC k < 4096 := by unfold hkC; omega
theorem hC_m (k : Nat) : lN k * (-7046029254386353131) = lN (k * 11400714819323198485 % 2 ^ 64) := by
  rw [show (-7046029254386353131 : Int64) = lN 11400714819323198485 by decide +kernel, lN_mul, ← wb_mod]
theorem hC_0 (k : Nat) : nI (k * 11400714819323198485 % 2 ^ 64 / 2 ^ 52) = nI ((hkC k + 0) % 4096) := by
  rw [Nat.add_zero, Nat.mod_eq_of_lt (hC_lt k)]; rfl
theorem hC_s (a t : Nat) : nI (((a + t) % 4096 + 1) &&& 4095) = nI ((a + (t + 1)) % 4096) := by
  rw [show 4095 = 2 ^ 12 - 1 from rfl, Nat.and_two_pow_sub_one_eq_mod]
  congr 1
  omega
def FDC (K : Nat → Nat) (n : Nat) (T : Nat → Nat) (tm : Bool) (x : Nat) (K2 : Nat → Nat) (n2 : Nat) (T2 : Nat → Nat) (tm2 : Bool) : Prop :=
  (n2 = n ∧ K2 = K ∧ T2 = T ∧ ((tm2 = tm ∧ Has K n x) ∨ (tm2 = true ∧ n = 2000 ∧ ∀ i, i < n → K i ≠ x))) ∨ (n < 2000 ∧ n2 = n + 1 ∧ K2 = va_up K n x ∧ tm2 = tm ∧ TI 4096 hkC K2 n2 T2 ∧ ∀ i, i < n → K i ≠ x)
def EC (step : Nat → Nat → Prop) (V : Nat → Prop) (k0 : Nat) (K : Nat → Nat) (n : Nat) (T : Nat → Nat) (tm : Bool) : Prop :=
  TI 4096 hkC K n T ∧ n ≤ 2000 ∧ 1 ≤ n ∧ K 0 = k0 ∧ (∀ i, i < n → Rch step k0 (K i) ∧ V (K i)) ∧ (tm = true → n = 2000 ∧ ∃ x, Rch step k0 x ∧ V x ∧ ∀ i, i < n → K i ≠ x)
theorem EC_0 {step : Nat → Nat → Prop} {V : Nat → Prop} {k0 : Nat} {K T K2 T2 : Nat → Nat} {n2 : Nat} {tm2 : Bool} (hV : V k0) (h : FDC K 0 T false k0 K2 n2 T2 tm2) : EC step V k0 K2 n2 T2 tm2 := by
  rcases h with ⟨-, -, -, ⟨-, i, hi, -⟩ | ⟨-, h, -⟩⟩ | ⟨-, rfl, rfl, rfl, h, -⟩
  · omega
  · omega
  · refine ⟨h, by omega, by omega, up_eq K 0 k0, fun i hi => ?_, fun h => by cases h⟩
    have : i = 0 := by omega
    subst this
    rw [up_eq]
    exact ⟨Rch_0, hV⟩
theorem EC_s {step : Nat → Nat → Prop} {V : Nat → Prop} {k0 x : Nat} {K T K2 T2 : Nat → Nat} {n n2 : Nat} {tm tm2 : Bool} (hE : EC step V k0 K n T tm) (hR : Rch step k0 x) (hV : V x) (h : FDC K n T tm x K2 n2 T2 tm2) : EC step V k0 K2 n2 T2 tm2 ∧ n ≤ n2 ∧ (∀ i, i < n → K2 i = K i) ∧ (tm2 = false → tm = false ∧ Has K2 n2 x) := by
  obtain ⟨h1, h2, h3, h4, h5, h6⟩ := id hE
  rcases h with ⟨rfl, rfl, rfl, ⟨rfl, hh⟩ | ⟨rfl, hn, hh⟩⟩ | ⟨hn, rfl, rfl, rfl, hT, hh⟩
  · exact ⟨hE, Nat.le_refl _, fun _ _ => rfl, fun e => ⟨e, hh⟩⟩
  · exact ⟨⟨h1, h2, h3, h4, h5, fun _ => ⟨hn, x, hR, hV, hh⟩⟩, Nat.le_refl _, fun _ _ => rfl, fun e => by cases e⟩
  · have ko : ∀ i, i < n → va_up K n x i = K i := fun i hi => up_ne K (by omega)
    refine ⟨⟨hT, by omega, by omega, by rw [ko 0 (by omega)]; exact h4, fun i hi => ?_, fun e => ?_⟩, by omega, ko, fun e => ⟨e, n, by omega, up_eq K n x⟩⟩
    · by_cases e : i = n
      · subst e; rw [up_eq]; exact ⟨hR, hV⟩
      · rw [ko i (by omega)]; exact h5 i (by omega)
    · have := (h6 e).1; omega
theorem EC_enum {S : Nat → Nat → Prop} {V : Nat → Prop} {k0 n : Nat} {K T : Nat → Nat} {tm : Bool} (hE : EC S V k0 K n T tm) (hc : tm = false → ∀ i, i < n → ∀ x, S (K i) x → Has K n x) (ht : tm = false) : ENUM S k0 K n := by
  obtain ⟨h1, h2, h3, h4, h5, h6⟩ := hE
  refine ⟨fun i hi => (h5 i hi).1, h1.2.2.2.2, fun x hx => ?_⟩
  obtain ⟨d, hd⟩ := hx
  induction d generalizing x with
  | zero => cases hd; exact ⟨0, by omega, h4⟩
  | succ d ih =>
    obtain ⟨y, hy, hs⟩ := hd
    obtain ⟨i, hi, rfl⟩ := ih y hy
    exact hc ht i hi x hs
theorem EC_big {S : Nat → Nat → Prop} {V : Nat → Prop} {k0 n : Nat} {K T : Nat → Nat} {tm : Bool} (hE : EC S V k0 K n T tm) (ht : tm = true) : BIG S k0 := by
  obtain ⟨h1, h2, h3, h4, h5, h6⟩ := hE
  obtain ⟨hn, x, hx, -, hne⟩ := h6 ht
  refine ⟨fun i => if i < 2000 then K i else x, fun i hi => ?_, fun i j hi hj he => ?_⟩
  · show Rch S k0 (if i < 2000 then K i else x)
    split
    · exact (h5 i (by omega)).1
    · exact hx
  · dsimp only at he
    by_cases a : i < 2000
    · by_cases b : j < 2000
      · rw [if_pos a, if_pos b] at he; exact h1.2.2.2.2 i j (by omega) (by omega) he
      · rw [if_pos a, if_neg b] at he; exact absurd he (hne i (by omega))
    · by_cases b : j < 2000
      · rw [if_neg a, if_pos b] at he; exact absurd he.symm (hne j (by omega))
      · omega
theorem gI_inj {a b : Option Nat} (ha : ∀ d, a = some d → d < 2 ^ 31) (hb : ∀ d, b = some d → d < 2 ^ 31) (h : gI a = gI b) : a = b := by
  cases a with
  | none =>
    cases b with
    | none => rfl
    | some d => exact absurd (show nI d < 0 by rw [show nI d = gI none from h.symm]; decide) (nI_pos (hb d rfl))
  | some c => exact ((gI_eq (ha c rfl) hb).mp h).symm
/-- the others' cells, of any key -/
theorem tk_others {wd hd nb wl b k : Nat} {sh bw bh : Nat → Nat} {rm : Option Nat} (hk : KV wd hd nb wl sh bw bh rm k) (hb : b < nb) (hr : rm ≠ some b) : andn (tk wl sh k (exb rm none) nb) (sh b <<< plc k b) = tk wl sh k (exb rm (some b)) nb := by
  obtain ⟨-, h1, h2⟩ := hk.2.2 b hb hr
  refine Nat.eq_of_testBit_eq (fun i => ?_)
  rw [andn_bit, Bool.eq_iff_iff, Bool.and_eq_true, tk_bit, tk_bit, Bool.not_eq_true']
  constructor
  · rintro ⟨h | ⟨c, hc, he, h⟩, hn⟩
    · exact Or.inl h
    · refine Or.inr ⟨c, hc, exb_f.mpr ⟨fun e => ?_, (exb_f.mp he).2⟩, h⟩
      cases e
      rw [hn] at h; cases h
  · rintro (h | ⟨c, hc, he, h⟩)
    · refine ⟨Or.inl h, ?_⟩
      cases hq : (sh b <<< plc k b).testBit i with
      | false => rfl
      | true => exact (and_zero.mp h1 i hq h).elim
    · have h9 := exb_f.mp he
      refine ⟨Or.inr ⟨c, hc, exb_f.mpr ⟨fun e => (by cases e), h9.2⟩, h⟩, ?_⟩
      have h3 := h2 c hc h9.2 (fun e => h9.1 (by rw [e]))
      cases hq : (sh b <<< plc k b).testBit i with
      | false => rfl
      | true => exact (and_zero.mp h3 i hq h).elim
/-- the steps of one block of a state, by direction -/
abbrev mvb (wd hd nb wl : Nat) (sh bw bh : Nat → Nat) (rm : Option Nat) (k b : Nat) : Nat → Option Nat := fun d => mvt wd hd (bw b) (bh b) (sh b) (tk wl sh k (exb rm (some b)) nb) (plc k b) d
/-- all steps of a state, four bits a block -/
def pos (wd hd nb wl : Nat) (sh bw bh : Nat → Nat) (rm : Option Nat) (k : Nat) : Nat → Nat
  | 0 => 0
  | b + 1 => if rm = some b then pos wd hd nb wl sh bw bh rm k b else pos wd hd nb wl sh bw bh rm k b ||| dset (mvb wd hd nb wl sh bw bh rm k b) 4 <<< (4 * b)
section PO
variable {wd hd nb wl : Nat} {sh bw bh : Nat → Nat} {rm : Option Nat} {k : Nat}
theorem pos_bit {b d : Nat} (hd4 : d < 4) : ∀ {n : Nat}, (pos wd hd nb wl sh bw bh rm k n).testBit (4 * b + d) = true ↔ b < n ∧ rm ≠ some b ∧ (mvb wd hd nb wl sh bw bh rm k b d).isSome = true
  | 0 => by
    show Nat.testBit 0 _ = true ↔ _
    rw [Nat.zero_testBit]
    exact ⟨fun h => (by cases h), fun h => absurd h.1 (Nat.not_lt_zero b)⟩
  | n + 1 => by
    have ih := pos_bit (b := b) (d := d) hd4 (n := n)
    show (if rm = some n then pos wd hd nb wl sh bw bh rm k n else pos wd hd nb wl sh bw bh rm k n ||| dset (mvb wd hd nb wl sh bw bh rm k n) 4 <<< (4 * n)).testBit (4 * b + d) = true ↔ _
    split
    · rename_i e
      rw [ih]
      constructor
      · rintro ⟨h1, h2⟩; exact ⟨by omega, h2⟩
      · rintro ⟨h1, h2, h3⟩
        exact ⟨Nat.lt_of_le_of_ne (by omega) (fun q => h2 (by rw [q]; exact e)), h2, h3⟩
    · rename_i e
      rw [Nat.testBit_or, Bool.or_eq_true, ih, Nat.testBit_shiftLeft, Bool.and_eq_true, decide_eq_true_eq]
      constructor
      · rintro (⟨h1, h2⟩ | ⟨h1, h2⟩)
        · exact ⟨by omega, h2⟩
        · have h3 := dset_bit.mp h2
          have hb : b = n := by omega
          subst hb
          rw [show 4 * b + d - 4 * b = d by omega] at h3
          exact ⟨by omega, e, h3.2⟩
      · rintro ⟨h1, h2, h3⟩
        by_cases q : b = n
        · subst q
          refine Or.inr ⟨by omega, dset_bit.mpr ⟨by omega, ?_⟩⟩
          rw [show 4 * b + d - 4 * b = d by omega]
          exact h3
        · exact Or.inl ⟨by omega, h2, h3⟩
theorem pos_lt : ∀ n, pos wd hd nb wl sh bw bh rm k n < 2 ^ (4 * n)
  | 0 => by show 0 < _; decide
  | n + 1 => by
    have ih := pos_lt n
    have h1 : 2 ^ (4 * n) ≤ 2 ^ (4 * (n + 1)) := Nat.pow_le_pow_right (by decide) (by omega)
    show (if rm = some n then pos wd hd nb wl sh bw bh rm k n else pos wd hd nb wl sh bw bh rm k n ||| dset (mvb wd hd nb wl sh bw bh rm k n) 4 <<< (4 * n)) < _
    split
    · omega
    · refine Nat.or_lt_two_pow (by omega) ?_
      have h2 := dset_lt4 (mvb wd hd nb wl sh bw bh rm k n)
      rw [Nat.shiftLeft_eq, Nat.mul_add, Nat.pow_add, Nat.mul_comm]
      exact Nat.mul_lt_mul_of_pos_left h2 (Nat.two_pow_pos _)
theorem pos_lt28 {n : Nat} (hn : n ≤ 7) : pos wd hd nb wl sh bw bh rm k n < 2 ^ 28 := Nat.lt_of_lt_of_le (pos_lt n) (Nat.pow_le_pow_right (by decide) (by omega))
theorem pos_s {b : Nat} (h : rm ≠ some b) : pos wd hd nb wl sh bw bh rm k b ||| dset (mvb wd hd nb wl sh bw bh rm k b) 4 <<< (4 * b) = pos wd hd nb wl sh bw bh rm k (b + 1) := by
  show _ = if rm = some b then _ else _
  rw [if_neg h]
theorem pos_r {b : Nat} (h : rm = some b) : pos wd hd nb wl sh bw bh rm k b = pos wd hd nb wl sh bw bh rm k (b + 1) := by
  show _ = if rm = some b then _ else _
  rw [if_pos h]
end PO
/-- what a space holds: of the states that can be reached from k0 without the block rm -/
def SPC (wd hd nb wl : Nat) (sh bw bh : Nat → Nat) (rm : Option Nat) (k0 : Nat) (K : Nat → Nat) (n : Nat) (P T : Nat → Nat) (tm : Bool) : Prop :=
  TI 4096 hkC K n T ∧ n ≤ 2000 ∧ 1 ≤ n ∧ (∀ i, i < n → Rch (kst wd hd nb wl sh bw bh rm) k0 (K i) ∧ KV wd hd nb wl sh bw bh rm (K i)) ∧ (tm = true → BIG (kst wd hd nb wl sh bw bh rm) k0) ∧ (tm = false → ENUM (kst wd hd nb wl sh bw bh rm) k0 K n ∧ (∀ i, i < n → ∀ x, kst wd hd nb wl sh bw bh rm (K i) x → Has K n x) ∧ ∀ i, i < n → P i = pos wd hd nb wl sh bw bh rm (K i) nb)
theorem tk_sk {wl : Nat} {sh : Nat → Nat} {k : Nat} {ex : Nat → Bool} {b : Nat} (he : ex b = true) : tk wl sh k ex b = tk wl sh k ex (b + 1) := by
  show _ = (if ex b then tk wl sh k ex b else tk wl sh k ex b ||| sh b <<< plc k b)
  rw [if_pos he]
theorem EC_lt {S : Nat → Nat → Prop} {V : Nat → Prop} {k0 n : Nat} {K T : Nat → Nat} {tm : Bool} (h : EC S V k0 K n T tm) : n ≤ 2000 ∧ 1 ≤ n := ⟨h.2.1, h.2.2.1⟩
theorem EC_SPC {wd hd nb wl : Nat} {sh bw bh : Nat → Nat} {rm : Option Nat} {k0 n : Nat} {K P T : Nat → Nat} {tm : Bool} (h : EC (kst wd hd nb wl sh bw bh rm) (KV wd hd nb wl sh bw bh rm) k0 K n T tm) (hc : tm = false → (∀ i, i < n → ∀ x, kst wd hd nb wl sh bw bh rm (K i) x → Has K n x) ∧ ∀ i, i < n → P i = pos wd hd nb wl sh bw bh rm (K i) nb) : SPC wd hd nb wl sh bw bh rm k0 K n P T tm :=
  ⟨h.1, h.2.1, h.2.2.1, h.2.2.2.2.1, fun ht => EC_big h ht, fun ht => ⟨EC_enum h (fun q => (hc q).1) ht, (hc ht).1, (hc ht).2⟩⟩
theorem SPC_in {wd hd nb wl : Nat} {sh bw bh : Nat → Nat} {rm : Option Nat} {k0 n x : Nat} {K P T : Nat → Nat} {tm : Bool} (h : SPC wd hd nb wl sh bw bh rm k0 K n P T tm) (ht : tm = false) (hx : Rch (kst wd hd nb wl sh bw bh rm) k0 x) : Has K n x := (h.2.2.2.2.2 ht).1.2.2 x hx
theorem TC_has {K T : Nat → Nat} {n x t : Nat} (hT : TI 4096 hkC K n T) (hw : TW 4096 hkC K T x t) (hf : T ((hkC x + t) % 4096) = 0 ∨ 0 < T ((hkC x + t) % 4096) ∧ K (T ((hkC x + t) % 4096) - 1) = x) (hx : Has K n x) : 0 < T ((hkC x + t) % 4096) ∧ T ((hkC x + t) % 4096) ≤ n ∧ K (T ((hkC x + t) % 4096) - 1) = x := by
  have h9 := hT.2.1 ((hkC x + t) % 4096) (Nat.mod_lt _ (by decide))
  rcases hf with h | h
  · obtain ⟨i, hi, he⟩ := hx
    exact absurd he (TW_free hT hw h i hi)
  · exact ⟨h.1, h9, h.2⟩
