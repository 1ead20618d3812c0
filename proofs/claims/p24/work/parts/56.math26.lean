/-! ===== the slides of one block: its class of states ===== -/
section CLS
variable {wd hd nb wl : Nat} {sh bw bh : Nat → Nat} {rm : Option Nat}
theorem bst_bck {k x c : Nat} (hf : FrV wd hd nb wl sh bw bh) (hk : KV wd hd nb wl sh bw bh rm k) (hc : c < nb) (h : bst wd hd nb wl sh bw bh rm c k x) : bst wd hd nb wl sh bw bh rm c x k := by
  obtain ⟨hg, d, hd4, q, hm, rfl⟩ := h
  have hn7 := hf.2.2.2.2.2.1
  obtain ⟨hq, hpq, -⟩ := KV_step hf hk hc hg hm
  obtain ⟨h1, h2⟩ := mvt_inv hm
  obtain ⟨hp, ha, hb⟩ := hk.2.2 c hc hg
  have hs := hf.2.2.2.2.2.2.2 c hc
  refine ⟨hg, bck d, by unfold bck; split; omega; split; omega; split <;> omega, plc k c, ?_, ?_⟩
  · rw [plc_wth_self (by omega), tk_wth (by omega) (by omega) nb hn7]
    exact mvt_go (stp_bck hf.1 hs.1 hp hd4 h1) (tk_and.mpr ⟨ha, fun b hb2 he => by
      obtain ⟨e1, e2⟩ := exb_f.mp he
      exact hb b hb2 e2 (fun e => e1 (by rw [e]))⟩)
  · rw [wth_wth (by omega) (plc_lt k c), wth_self]
theorem Rb_V {k x c : Nat} (hf : FrV wd hd nb wl sh bw bh) (hk : KV wd hd nb wl sh bw bh rm k) (hc : c < nb) (h : Rch (bst wd hd nb wl sh bw bh rm c) k x) : KV wd hd nb wl sh bw bh rm x ∧ Rch (kst wd hd nb wl sh bw bh rm) k x := by
  obtain ⟨d, hd⟩ := h
  induction d generalizing x with
  | zero => cases hd; exact ⟨hk, Rch_0⟩
  | succ d ih =>
    obtain ⟨y, hy, hs⟩ := hd
    obtain ⟨h1, h2⟩ := ih hy
    exact ⟨KV_kst hf h1 ⟨c, hc, hs⟩, Rch_s h2 ⟨c, hc, hs⟩⟩
theorem Rb_bck {k x c : Nat} (hf : FrV wd hd nb wl sh bw bh) (hk : KV wd hd nb wl sh bw bh rm k) (hc : c < nb) (h : Rch (bst wd hd nb wl sh bw bh rm c) k x) : Rch (bst wd hd nb wl sh bw bh rm c) x k := by
  obtain ⟨d, hd⟩ := h
  induction d generalizing x with
  | zero => cases hd; exact Rch_0
  | succ d ih =>
    obtain ⟨y, hy, hs⟩ := hd
    exact Rch_t (Rch_s Rch_0 (bst_bck hf (Rb_V hf hk hc ⟨d, hy⟩).1 hc hs)) (ih hy)
/-- where a flood can come -/
theorem fl_pl {k c : Nat} {F : Nat → Option Nat} (hf : FrV wd hd nb wl sh bw bh) (hk : KV wd hd nb wl sh bw bh rm k) (hc : c < nb) (hg : rm ≠ some c) (hF : LD (fstep wd hd (bw c) (bh c) (sh c) (tk wl sh k (exb rm (some c)) nb)) (fun y => y = plc k c) F) : ∀ e y, F y = some e → PlV wd hd (bw c) (bh c) y ∧ y < 24 := by
  have hs := hf.2.2.2.2.2.2.2 c hc
  have hp := (hk.2.2 c hc hg).1
  have pl : ∀ e y, F y = some e → PlV wd hd (bw c) (bh c) y := by
    intro e
    induction e with
    | zero => intro y hy; rw [hF.2.1 y hy]; exact hp
    | succ e ih =>
      intro y hy
      obtain ⟨r, hr, dd, -, hm⟩ := hF.2.2.1 y e hy
      exact stp_pl hf.1 hs.1 (ih r hr) (mvt_inv hm).1
  exact fun e y hy => ⟨pl e y hy, fr_lt hf.1 hf.2.2.2.2.1 hs.2.2.1 (pl e y hy)⟩
theorem Rb_flo {k x c : Nat} {F : Nat → Option Nat} (hf : FrV wd hd nb wl sh bw bh) (hk : KV wd hd nb wl sh bw bh rm k) (hc : c < nb) (hF : LD (fstep wd hd (bw c) (bh c) (sh c) (tk wl sh k (exb rm (some c)) nb)) (fun y => y = plc k c) F) (h : Rch (bst wd hd nb wl sh bw bh rm c) k x) : x = wth k c (plc x c) ∧ ∃ d, F (plc x c) = some d := by
  have hn7 := hf.2.2.2.2.2.1
  obtain ⟨d, hd⟩ := h
  induction d generalizing x with
  | zero => cases hd; exact ⟨wth_self.symm, 0, hF.1 _ rfl⟩
  | succ d ih =>
    obtain ⟨y, hy, hg, dd, hd4, q, hm, rfl⟩ := hd
    obtain ⟨h1, d1, h2⟩ := ih hy
    have hky := (Rb_V hf hk hc ⟨d, hy⟩).1
    obtain ⟨hq, -, -⟩ := KV_step hf hky hc hg hm
    have ht : tk wl sh y (exb rm (some c)) nb = tk wl sh k (exb rm (some c)) nb := by
      rw [h1]; exact tk_wth (plc_lt y c) (by omega) nb hn7
    rw [ht] at hm
    rw [plc_wth_self (by omega)]
    refine ⟨?_, ?_⟩
    · rw [h1, wth_wth (plc_lt y c) (by omega)]
    · obtain ⟨e, he, -⟩ := hF.2.2.2 _ _ _ h2 ⟨dd, hd4, hm⟩
      exact ⟨e, he⟩
theorem flo_Rb {k c : Nat} {F : Nat → Option Nat} (hf : FrV wd hd nb wl sh bw bh) (hk : KV wd hd nb wl sh bw bh rm k) (hc : c < nb) (hg : rm ≠ some c) (hF : LD (fstep wd hd (bw c) (bh c) (sh c) (tk wl sh k (exb rm (some c)) nb)) (fun y => y = plc k c) F) : ∀ d q, F q = some d → Rch (bst wd hd nb wl sh bw bh rm c) k (wth k c q) := by
  have hn7 := hf.2.2.2.2.2.1
  have hpl := fl_pl hf hk hc hg hF
  intro d
  induction d with
  | zero => intro q hq; rw [hF.2.1 q hq, wth_self]; exact Rch_0
  | succ d ih =>
    intro q hq
    obtain ⟨y, hy, dd, hd4, hm⟩ := hF.2.2.1 q d hq
    have hy24 := (hpl _ _ hy).2
    have hq24 := (hpl _ _ hq).2
    refine Rch_s (ih y hy) ⟨hg, dd, hd4, q, ?_, ?_⟩
    · rw [tk_wth (by omega) (by omega) nb hn7, plc_wth_self (by omega)]; exact hm
    · rw [wth_wth (by omega) (by omega)]
theorem mvk1_Rb {z : Bool} {k x c : Nat} (hf : FrV wd hd nb wl sh bw bh) (hk : KV wd hd nb wl sh bw bh rm k) (hc : c < nb) (hg : rm ≠ some c) (h : mvk1 wd hd nb wl sh bw bh rm z c k x) : Rch (bst wd hd nb wl sh bw bh rm c) k x := by
  obtain ⟨F, hF, q, hq, rfl⟩ := h
  obtain ⟨d, hd⟩ := isMv_in hq
  exact flo_Rb hf hk hc hg hF d q hd
theorem Rb_mvk1 {k x c : Nat} (hf : FrV wd hd nb wl sh bw bh) (hk : KV wd hd nb wl sh bw bh rm k) (hc : c < nb) (h : Rch (bst wd hd nb wl sh bw bh rm c) k x) (hne : x ≠ k) : mvk1 wd hd nb wl sh bw bh rm true c k x := by
  obtain ⟨F, hF⟩ := LD_ex (fstep wd hd (bw c) (bh c) (sh c) (tk wl sh k (exb rm (some c)) nb)) (fun y => y = plc k c)
  obtain ⟨h1, d, h2⟩ := Rb_flo hf hk hc hF h
  refine ⟨F, hF, plc x c, ?_, h1⟩
  cases d with
  | zero =>
    have h3 := hF.2.1 _ h2
    rw [h3, wth_self] at h1
    exact absurd h1 hne
  | succ e => rw [h2]; rfl
theorem mvk1_first {z : Bool} {k x c : Nat} (h : mvk1 wd hd nb wl sh bw bh rm z c k x) : ∃ d, d < 4 ∧ ∃ q, mvb wd hd nb wl sh bw bh rm k c d = some q := by
  obtain ⟨F, hF, q, hq, rfl⟩ := h
  have key : ∀ e y, F y = some (e + 1) → ∃ d, d < 4 ∧ ∃ q, mvb wd hd nb wl sh bw bh rm k c d = some q := by
    intro e
    induction e with
    | zero =>
      intro y hy
      obtain ⟨r, hr, d, hd, hm⟩ := hF.2.2.1 y 0 hy
      rw [hF.2.1 r hr] at hm
      exact ⟨d, hd, y, hm⟩
    | succ e ih =>
      intro y hy
      obtain ⟨r, hr, -⟩ := hF.2.2.1 y (e + 1) hy
      exact ih r hr
  cases e : F q with
  | none => rw [e] at hq; cases hq
  | some d =>
    cases d with
    | zero => rw [e] at hq; cases hq
    | succ d => exact key d q e
theorem mvk1_one {k x c : Nat} (h : mvk1 wd hd nb wl sh bw bh rm false c k x) : ∃ d, d < 4 ∧ ∃ q, mvb wd hd nb wl sh bw bh rm k c d = some q ∧ x = wth k c q := by
  obtain ⟨F, hF, q, hq, rfl⟩ := h
  cases e : F q with
  | none => rw [e] at hq; cases hq
  | some d =>
    cases d with
    | zero => rw [e] at hq; cases hq
    | succ d =>
      rw [e] at hq
      have : d = 0 := by simpa [isMv] using hq
      subst this
      obtain ⟨r, hr, d, hd, hm⟩ := hF.2.2.1 q 0 e
      rw [hF.2.1 r hr] at hm
      exact ⟨d, hd, q, hm, rfl⟩
theorem mvb_mvk {z : Bool} {k c d q : Nat} (hf : FrV wd hd nb wl sh bw bh) (hk : KV wd hd nb wl sh bw bh rm k) (hc : c < nb) (hg : rm ≠ some c) (hd4 : d < 4) (h : mvb wd hd nb wl sh bw bh rm k c d = some q) : mvk wd hd nb wl sh bw bh rm z k (wth k c q) := kst_mvk hf hk ⟨c, hc, hg, d, hd4, q, h, rfl⟩
theorem pos_0 {k b n : Nat} (h : (pos wd hd nb wl sh bw bh rm k n >>> (4 * b)) &&& 15 = 0) (hb : b < n) (hr : rm ≠ some b) : ∀ d, d < 4 → mvb wd hd nb wl sh bw bh rm k b d = none := fun d hd4 => by
  cases e : mvb wd hd nb wl sh bw bh rm k b d with
  | none => rfl
  | some q =>
    have h1 := (pos_bit (wd := wd) (hd := hd) (nb := nb) (wl := wl) (sh := sh) (bw := bw) (bh := bh) (rm := rm) (k := k) (b := b) hd4 (n := n)).mpr ⟨hb, hr, by rw [e]; rfl⟩
    have h2 := congrArg (fun x : Nat => x.testBit d) h
    have h3 : Nat.testBit 15 d = true := by
      have := Nat.testBit_two_pow_sub_one 4 d
      rw [show (15 : Nat) = 2 ^ 4 - 1 from rfl, this]; simp [hd4]
    simp only [Nat.testBit_and, Nat.testBit_shiftRight, Nat.zero_testBit, h3, Bool.and_true] at h2
    rw [h1] at h2; cases h2
theorem pos_1 {k b n : Nat} (h : 0 < (pos wd hd nb wl sh bw bh rm k n >>> (4 * b)) &&& 15) : rm ≠ some b := by
  intro hr
  have : (pos wd hd nb wl sh bw bh rm k n >>> (4 * b)) &&& 15 = 0 := by
    refine Nat.eq_of_testBit_eq (fun i => ?_)
    rw [Nat.testBit_and, Nat.testBit_shiftRight, Nat.zero_testBit]
    by_cases hi : i < 4
    · cases e : (pos wd hd nb wl sh bw bh rm k n).testBit (4 * b + i) with
      | false => rfl
      | true => exact absurd hr ((pos_bit hi).mp e).2.1
    · have : Nat.testBit 15 i = false := bits_lt (n := 4) (by decide) (by omega)
      rw [this, Bool.and_false]
  omega
end CLS
/-! ===== distances: one head, one look-up ===== -/
theorem sumI_up {F : Nat → Option Nat} {i v : Nat} (hF : F i = none) : ∀ n, sumI (va_up F i (some v)) n = sumI F n + (if i < n then v else 0)
  | 0 => by rw [if_neg (Nat.not_lt_zero i)]; rfl
  | n + 1 => by
    show sumI (va_up F i (some v)) n + (va_up F i (some v) n).getD 0 = sumI F n + (F n).getD 0 + _
    rw [sumI_up hF n]
    by_cases h : i = n
    · subst h
      rw [up_eq, hF, if_neg (Nat.lt_irrefl i), if_pos (show i < i + 1 by omega)]
      simp
    · rw [up_ne F (fun e => h e.symm)]
      by_cases h2 : i < n
      · rw [if_pos h2, if_pos (show i < n + 1 by omega)]; omega
      · rw [if_neg h2, if_neg (show ¬ i < n + 1 by omega)]; omega
def DST (M : Nat → Nat → Prop) (P : Nat → Prop) (K : Nat → Nat) (n : Nat) (F : Nat → Option Nat) (Q : Nat → Nat) (fo su hd lv u : Nat) : Prop :=
  BI (istp K n M) (fun i => i < n ∧ P (K i)) (cF n F) Q fo hd ∧ hd < fo ∧ cF n F (Q hd) = some lv ∧ Q hd = u ∧ su = sumI F n ∧ ∀ i, n ≤ i → F i = none
/-- what `reach' does -/
def RC1 (F : Nat → Option Nat) (Q : Nat → Nat) (fo su i v : Nat) (F2 : Nat → Option Nat) (Q2 : Nat → Nat) (fo2 su2 : Nat) : Prop :=
  (∃ e, F i = some e ∧ F2 = F ∧ Q2 = Q ∧ fo2 = fo ∧ su2 = su) ∨ (F i = none ∧ F2 = va_up F i (some v) ∧ Q2 = va_up Q fo i ∧ fo2 = fo + 1 ∧ su2 = su + v)
section DS
variable {M : Nat → Nat → Prop} {P : Nat → Prop} {K : Nat → Nat} {n : Nat} {F F2 : Nat → Option Nat} {Q Q2 : Nat → Nat} {fo su fo2 su2 hd lv u i : Nat}
theorem DST_u (h : DST M P K n F Q fo su hd lv u) : u < n ∧ F u = some lv := by
  have := cF_some h.2.2.1
  rw [h.2.2.2.1] at this
  exact this
theorem DST_b (h : DST M P K n F Q fo su hd lv u) {i d : Nat} (hi : F i = some d) : i < n ∧ d < n := by
  have h1 : i < n := Nat.lt_of_not_le (fun q => by rw [h.2.2.2.2.2 i q] at hi; cases hi)
  exact ⟨h1, BI_bound h.1 (fun p d q => (cF_some q).1) (p := i) (by rw [cF_lt h1]; exact hi)⟩
theorem DST_m (h : DST M P K n F Q fo su hd lv u) (hi : i < n) (hF : F i = none) : fo < n := BI_room h.1 (fun p d q => (cF_some q).1) (p := i) (by rw [cF_lt hi]; exact hF) hi
theorem DST_r (h : DST M P K n F Q fo su hd lv u) (hi : i < n) (hM : M (K u) (K i)) (hr : RC1 F Q fo su i (lv + 1) F2 Q2 fo2 su2) : DST M P K n F2 Q2 fo2 su2 hd lv u ∧ (∃ e, cF n F2 i = some e ∧ e ≤ lv + 1) ∧ ∀ j e, cF n F j = some e → cF n F2 j = some e := by
  obtain ⟨h1, h2, h3, h4, h5, h6⟩ := h
  have hR : RCH K n F Q fo (K i) (lv + 1) i F2 Q2 fo2 := ⟨hi, rfl, by
    rcases hr with ⟨e, a1, a2, a3, a4, -⟩ | ⟨a1, a2, a3, a4, -⟩
    · exact Or.inl ⟨e, a1, a2, a3, a4⟩
    · exact Or.inr ⟨a1, a2, a3, a4⟩⟩
  obtain ⟨b1, b2, b3, b4, b5, b6⟩ := RCH_s h1 h2 h3 (by rw [h4]; exact hM) hR
  refine ⟨⟨b1, b2, by rw [b3]; exact b4, by rw [b3]; exact h4, ?_, ?_⟩, b5, b6⟩
  · rcases hr with ⟨e, a1, rfl, a3, a4, rfl⟩ | ⟨a1, rfl, a3, a4, rfl⟩
    · exact h5
    · rw [sumI_up a1, if_pos hi, h5]
  · intro j hj
    rcases hr with ⟨e, a1, rfl, -⟩ | ⟨a1, rfl, -⟩
    · exact h6 j hj
    · rw [up_ne F (by omega)]; exact h6 j hj
end DS
/-- marked: the class of a block is found, no farther than bd -/
def MKI (wd hd nb wl : Nat) (sh bw bh : Nat → Nat) (rm : Option Nat) (K : Nat → Nat) (n : Nat) (F : Nat → Option Nat) (Mk : Nat → Nat) (bd : Nat) : Prop :=
  (∀ i, i < n → ∀ c, c < nb → (Mk i).testBit c = true → ∀ j, j < n → Rch (bst wd hd nb wl sh bw bh rm c) (K i) (K j) → (Mk j).testBit c = true ∧ ∃ e, cF n F j = some e ∧ e ≤ bd) ∧ ∀ i, Mk i < 2 ^ 7
/-- the line of one block's slides: t marked and in it -/
def LNI (wd hd nb wl : Nat) (sh bw bh : Nat → Nat) (rm : Option Nat) (b : Nat) (K : Nat → Nat) (n : Nat) (F0 F : Nat → Option Nat) (M0 Mk L : Nat → Nat) (len lv u : Nat) : Prop :=
  1 ≤ len ∧ (∀ p, p < len → L p < n ∧ Rch (bst wd hd nb wl sh bw bh rm b) (K u) (K (L p)) ∧ (Mk (L p)).testBit b = true ∧ ∃ e, cF n F (L p) = some e ∧ e ≤ lv + 1) ∧ (∀ p p', p < len → p' < len → L p = L p' → p = p') ∧
  (∀ j, j < n → (Mk j).testBit b = true → (M0 j).testBit b = true ∨ ∃ p, p < len ∧ L p = j) ∧ (∀ j c, c ≠ b → (Mk j).testBit c = (M0 j).testBit c) ∧ (∀ j, (M0 j).testBit b = true → (Mk j).testBit b = true) ∧ (∀ j, Mk j < 2 ^ 7) ∧ ∀ j e, cF n F0 j = some e → cF n F j = some e
def CLO (wd hd nb wl : Nat) (sh bw bh : Nat → Nat) (rm : Option Nat) (b : Nat) (K : Nat → Nat) (n : Nat) (Mk L : Nat → Nat) (i : Nat) : Prop :=
  ∀ p, p < i → ∀ d, d < 4 → ∀ q, mvb wd hd nb wl sh bw bh rm (K (L p)) b d = some q → ∀ j, j < n → K j = wth (K (L p)) b q → (Mk j).testBit b = true
theorem or_bit {x b c : Nat} : (x ||| 1 <<< b).testBit c = true ↔ x.testBit c = true ∨ b = c := by
  rw [Nat.testBit_or, Bool.or_eq_true, shl1_bit, decide_eq_true_eq]
theorem or_lt7 {x b : Nat} (hx : x < 2 ^ 7) (hb : b < 7) : x ||| 1 <<< b < 2 ^ 7 := Nat.or_lt_two_pow hx (by rw [Nat.one_shiftLeft]; exact Nat.pow_lt_pow_right (by decide) hb)
section LN
variable {wd hd nb wl : Nat} {sh bw bh : Nat → Nat} {rm : Option Nat} {b : Nat} {K : Nat → Nat} {n : Nat} {F0 F F2 : Nat → Option Nat} {M0 Mk L : Nat → Nat} {len lv u t : Nat}
theorem LNI_0 (hb : b < 7) (hu : u < n) (hM : ∀ j, M0 j < 2 ^ 7) (hF : cF n F u = some lv) : LNI wd hd nb wl sh bw bh rm b K n F F M0 (va_up M0 u (M0 u ||| 1 <<< b)) (va_up L 0 u) 1 lv u := by
  have hl : ∀ p, p < 1 → va_up L 0 u p = u := fun p hp => by rw [show p = 0 by omega, up_eq]
  refine ⟨Nat.le_refl 1, fun p hp => ?_, fun p p' hp hp' _ => by omega, fun j hj hm => ?_, fun j c hc => ?_, fun j hm => ?_, fun j => ?_, fun j e h => h⟩
  · rw [hl p hp, up_eq]
    exact ⟨hu, Rch_0, or_bit.mpr (Or.inr rfl), lv, hF, by omega⟩
  · by_cases e : j = u
    · exact Or.inr ⟨0, by omega, by rw [hl 0 (by omega)]; exact e.symm⟩
    · rw [up_ne _ e] at hm; exact Or.inl hm
  · by_cases e : j = u
    · subst e
      rw [up_eq, Bool.eq_iff_iff, or_bit]
      exact ⟨fun h => h.elim id (fun q => absurd q.symm hc), Or.inl⟩
    · rw [up_ne _ e]
  · by_cases e : j = u
    · subst e; rw [up_eq]; exact or_bit.mpr (Or.inl hm)
    · rw [up_ne _ e]; exact hm
  · by_cases e : j = u
    · subst e; rw [up_eq]; exact or_lt7 (hM j) hb
    · rw [up_ne _ e]; exact hM j
theorem LNI_push (h : LNI wd hd nb wl sh bw bh rm b K n F0 F M0 Mk L len lv u) (hb : b < 7) (ht : t < n) (hc : Rch (bst wd hd nb wl sh bw bh rm b) (K u) (K t)) (hm : ¬ (Mk t).testBit b = true) (hF : ∃ e, cF n F2 t = some e ∧ e ≤ lv + 1) (hk : ∀ j e, cF n F j = some e → cF n F2 j = some e) :
    LNI wd hd nb wl sh bw bh rm b K n F0 F2 M0 (va_up Mk t (Mk t ||| 1 <<< b)) (va_up L len t) (len + 1) lv u := by
  obtain ⟨h1, h2, h3, h4, h5, h6, h7, h8⟩ := h
  have lo : ∀ p, p < len → va_up L len t p = L p := fun p hp => up_ne L (by omega)
  have ne : ∀ p, p < len → L p ≠ t := fun p hp e => hm (by rw [← e]; exact (h2 p hp).2.2.1)
  have mo : ∀ j, (Mk j).testBit b = true → (va_up Mk t (Mk t ||| 1 <<< b) j).testBit b = true := fun j hj => by
    by_cases e : j = t
    · subst e; rw [up_eq]; exact or_bit.mpr (Or.inl hj)
    · rw [up_ne _ e]; exact hj
  refine ⟨by omega, fun p hp => ?_, fun p p' hp hp' e => ?_, fun j hj hm' => ?_, fun j c hc' => ?_, fun j hm' => mo j (h6 j hm'), fun j => ?_, fun j e h => hk j e (h8 j e h)⟩
  · by_cases e : p = len
    · subst e
      rw [up_eq, up_eq]
      exact ⟨ht, hc, or_bit.mpr (Or.inr rfl), hF⟩
    · rw [lo p (by omega)]
      obtain ⟨a1, a2, a3, e9, a4, a5⟩ := h2 p (by omega)
      exact ⟨a1, a2, mo _ a3, e9, hk _ _ a4, a5⟩
  · by_cases e1 : p = len
    · by_cases e2 : p' = len
      · omega
      · subst e1; rw [up_eq, lo p' (by omega)] at e; exact absurd e.symm (ne p' (by omega))
    · by_cases e2 : p' = len
      · subst e2; rw [up_eq, lo p (by omega)] at e; exact absurd e (ne p (by omega))
      · rw [lo p (by omega), lo p' (by omega)] at e; exact h3 p p' (by omega) (by omega) e
  · by_cases e : j = t
    · exact Or.inr ⟨len, by omega, by rw [up_eq]; exact e.symm⟩
    · rw [up_ne _ e] at hm'
      rcases h4 j hj hm' with h | ⟨p, hp, e2⟩
      · exact Or.inl h
      · exact Or.inr ⟨p, by omega, by rw [lo p hp]; exact e2⟩
  · by_cases e : j = t
    · subst e
      rw [up_eq, ← h5 j c hc', Bool.eq_iff_iff, or_bit]
      exact ⟨fun h => h.elim id (fun q => absurd q.symm hc'), Or.inl⟩
    · rw [up_ne _ e]; exact h5 j c hc'
  · by_cases e : j = t
    · subst e; rw [up_eq]; exact or_lt7 (h7 j) hb
    · rw [up_ne _ e]; exact h7 j
theorem CLO_push {i : Nat} (h : CLO wd hd nb wl sh bw bh rm b K n Mk L i) (hi : i ≤ len) : CLO wd hd nb wl sh bw bh rm b K n (va_up Mk t (Mk t ||| 1 <<< b)) (va_up L len t) i := fun p hp d hd q hq j hj he => by
  rw [up_ne L (by omega)] at hq he
  have := h p hp d hd q hq j hj he
  by_cases e : j = t
  · subst e; rw [up_eq]; exact or_bit.mpr (Or.inl this)
  · rw [up_ne _ e]; exact this
theorem LNI_room (hf : FrV wd hd nb wl sh bw bh) (hku : KV wd hd nb wl sh bw bh rm (K u)) (hb : b < nb) (hg : rm ≠ some b) (hinj : ∀ i j, i < n → j < n → K i = K j → i = j) (h : LNI wd hd nb wl sh bw bh rm b K n F0 F M0 Mk L len lv u) (ht : t < n) (hc : Rch (bst wd hd nb wl sh bw bh rm b) (K u) (K t)) (hm : ¬ (Mk t).testBit b = true) : len < 24 := by
  obtain ⟨h1, h2, h3, h4, h5, h6, h7, h8⟩ := h
  obtain ⟨G, hG⟩ := LD_ex (fstep wd hd (bw b) (bh b) (sh b) (tk wl sh (K u) (exb rm (some b)) nb)) (fun y => y = plc (K u) b)
  have hpl := fl_pl hf hku hb hg hG
  refine Nat.lt_of_not_le (fun hle => ?_)
  have cl : ∀ p, p < len + 1 → (if p = len then t else L p) < n ∧ Rch (bst wd hd nb wl sh bw bh rm b) (K u) (K (if p = len then t else L p)) := fun p hp => by
    split
    · exact ⟨ht, hc⟩
    · exact ⟨(h2 p (by omega)).1, (h2 p (by omega)).2.1⟩
  obtain ⟨p, p', hpp, hp', he⟩ := pigeon 24 (len + 1) (fun p => plc (K (if p = len then t else L p)) b) (by omega) (fun p hp => by
    obtain ⟨-, d, hd⟩ := Rb_flo hf hku hb hG (cl p hp).2
    exact (hpl _ _ hd).2)
  have e1 := (Rb_flo hf hku hb hG (cl p (by omega)).2).1
  have e2 := (Rb_flo hf hku hb hG (cl p' hp').2).1
  have he' : plc (K (if p = len then t else L p)) b = plc (K (if p' = len then t else L p')) b := he
  rw [he', ← e2] at e1
  have e3 := hinj _ _ (cl p (by omega)).1 (cl p' hp').1 e1
  rw [if_neg (by omega)] at e3
  split at e3
  · exact hm (by rw [← e3]; exact (h2 p (by omega)).2.2.1)
  · have := h3 p p' (by omega) (by omega) e3
    omega
/-- the line is closed: all of the class is marked -/
theorem LNI_all (hf : FrV wd hd nb wl sh bw bh) (hv : ∀ i, i < n → KV wd hd nb wl sh bw bh rm (K i)) (hcl : ∀ i, i < n → ∀ x, kst wd hd nb wl sh bw bh rm (K i) x → Has K n x) (hinj : ∀ i j, i < n → j < n → K i = K j → i = j) (hu : u < n) (hb : b < nb) {bd : Nat} (hM : MKI wd hd nb wl sh bw bh rm K n F0 M0 bd) (h0 : ¬ (M0 u).testBit b = true)
    (h : LNI wd hd nb wl sh bw bh rm b K n F0 F M0 Mk L len lv u) (hc : CLO wd hd nb wl sh bw bh rm b K n Mk L len) : ∀ j, j < n → Rch (bst wd hd nb wl sh bw bh rm b) (K u) (K j) → (Mk j).testBit b = true ∧ ∃ p, p < len ∧ L p = j := by
  obtain ⟨h1, h2, h3, h4, h5, h6, h7, h8⟩ := h
  have nm : ∀ j, j < n → Rch (bst wd hd nb wl sh bw bh rm b) (K u) (K j) → ¬ (M0 j).testBit b = true := fun j hj hr hm =>
    h0 (hM.1 j hj b hb hm u hu (Rb_bck hf (hv u hu) hb hr)).1
  have key : ∀ d x, pth (bst wd hd nb wl sh bw bh rm b) d (K u) x → ∀ j, j < n → K j = x → ∃ p, p < len ∧ L p = j := by
    intro d
    induction d with
    | zero =>
      intro x hx j hj he
      cases hx
      have hj' := hinj j u hj hu he
      subst hj'
      obtain ⟨p, hp, e⟩ : ∃ p, p < len ∧ L p = j := by
        have hmu : (Mk j).testBit b = true := by
          obtain ⟨-, a2, a3, -⟩ := h2 0 (by omega)
          by_cases e : L 0 = j
          · rw [← e]; exact a3
          · exact Classical.byContradiction (fun hn => by
              have := hc
              exact hn (by
                obtain ⟨dd, hdd⟩ := Rb_bck hf (hv j hj) hb a2
                revert hdd
                generalize hy : K (L 0) = y
                intro hdd
                have gen : ∀ d y, pth (bst wd hd nb wl sh bw bh rm b) d (K (L 0)) y → ∀ j', j' < n → K j' = y → (Mk j').testBit b = true := by
                  intro d
                  induction d with
                  | zero =>
                    intro y hy j' hj' he'
                    cases hy
                    rw [hinj j' (L 0) hj' (h2 0 (by omega)).1 he']
                    exact a3
                  | succ d ih =>
                    intro y hy j' hj' he'
                    obtain ⟨w, hw, hs⟩ := hy
                    have hrw : Rch (bst wd hd nb wl sh bw bh rm b) (K j) w := Rch_t a2 ⟨d, hw⟩
                    have hkw := (Rb_V hf (hv j hj) hb hrw).1
                    obtain ⟨i', hi', hei⟩ : Has K n w := by
                      have hrk := (Rb_V hf (hv (L 0) (h2 0 (by omega)).1) hb ⟨d, hw⟩).2
                      obtain ⟨d9, h9⟩ := hrk
                      clear hs hw hrw hkw ih
                      revert w
                      induction d9 with
                      | zero => intro w h9; exact ⟨L 0, (h2 0 (by omega)).1, h9⟩
                      | succ d9 ih9 =>
                        intro w h9
                        obtain ⟨w', h9, hs9⟩ := h9
                        obtain ⟨i9, hi9, e9⟩ := ih9 w' h9
                        rw [← e9] at hs9
                        exact hcl i9 hi9 w hs9
                    have hm' := ih w hw i' hi' hei
                    rw [← hei] at hrw
                    rcases h4 i' hi' hm' with q | ⟨p, hp, e⟩
                    · exact absurd q (nm i' hi' hrw)
                    · obtain ⟨hg, d', hd', q', hq', rfl⟩ := hs
                      rw [← hei, ← e] at hq' he'
                      exact hc p hp d' hd' q' hq' j' hj' he'
                rw [← hy] at hdd
                exact gen dd (K j) hdd j hj rfl))
        rcases h4 j hj hmu with q | q
        · exact absurd q h0
        · exact q
      exact ⟨p, hp, e⟩
    | succ d ih =>
      intro x hx j hj he
      obtain ⟨w, hw, hs⟩ := hx
      have hrw : Rch (bst wd hd nb wl sh bw bh rm b) (K u) w := ⟨d, hw⟩
      obtain ⟨i', hi', hei⟩ : Has K n w := by
        obtain ⟨d9, h9⟩ := (Rb_V hf (hv u hu) hb hrw).2
        clear hs hw hrw ih
        revert w
        induction d9 with
        | zero => intro w h9; exact ⟨u, hu, h9⟩
        | succ d9 ih9 =>
          intro w h9
          obtain ⟨w', h9, hs9⟩ := h9
          obtain ⟨i9, hi9, e9⟩ := ih9 w' h9
          rw [← e9] at hs9
          exact hcl i9 hi9 w hs9
      obtain ⟨p, hp, e⟩ := ih w hw i' hi' hei
      have hsv := id hs
      obtain ⟨hg, d', hd', q', hq', rfl⟩ := hs
      rw [← hei, ← e] at hq' he
      have hm' := hc p hp d' hd' q' hq' j hj he
      rcases h4 j hj hm' with q | q
      · exact absurd q (nm j hj (by rw [he, e, hei]; exact Rch_s hrw hsv))
      · exact q
  intro j hj hr
  obtain ⟨d, hd⟩ := hr
  obtain ⟨p, hp, e⟩ := key d (K j) hd j hj rfl
  exact ⟨by rw [← e]; exact (h2 p hp).2.2.1, p, hp, e⟩
theorem LNI_end (hf : FrV wd hd nb wl sh bw bh) (hv : ∀ i, i < n → KV wd hd nb wl sh bw bh rm (K i)) (hcl : ∀ i, i < n → ∀ x, kst wd hd nb wl sh bw bh rm (K i) x → Has K n x) (hinj : ∀ i j, i < n → j < n → K i = K j → i = j) (hu : u < n) (hb : b < nb) {bd : Nat} (hbd : bd ≤ lv + 1) (hM : MKI wd hd nb wl sh bw bh rm K n F0 M0 bd) (h0 : ¬ (M0 u).testBit b = true)
    (h : LNI wd hd nb wl sh bw bh rm b K n F0 F M0 Mk L len lv u) (hc : CLO wd hd nb wl sh bw bh rm b K n Mk L len) : MKI wd hd nb wl sh bw bh rm K n F Mk (lv + 1) ∧ ∀ j, j < n → Rch (bst wd hd nb wl sh bw bh rm b) (K u) (K j) → ∃ e, cF n F j = some e ∧ e ≤ lv + 1 := by
  have all := LNI_all hf hv hcl hinj hu hb hM h0 h hc
  obtain ⟨h1, h2, h3, h4, h5, h6, h7, h8⟩ := h
  have dn : ∀ j, j < n → Rch (bst wd hd nb wl sh bw bh rm b) (K u) (K j) → ∃ e, cF n F j = some e ∧ e ≤ lv + 1 := fun j hj hr => by
    obtain ⟨-, p, hp, e⟩ := all j hj hr
    rw [← e]; exact (h2 p hp).2.2.2
  refine ⟨⟨fun i hi c hc' hm j hj hr => ?_, h7⟩, dn⟩
  have old : (M0 i).testBit c = true → (Mk j).testBit c = true ∧ ∃ e, cF n F j = some e ∧ e ≤ lv + 1 := fun hm0 => by
    obtain ⟨a1, e, a2, a3⟩ := hM.1 i hi c hc' hm0 j hj hr
    refine ⟨?_, e, h8 j e a2, by omega⟩
    by_cases ec : c = b
    · subst ec; exact h6 j a1
    · rw [h5 j c ec]; exact a1
  by_cases ec : c = b
  · subst ec
    rcases h4 i hi hm with q | ⟨p, hp, e⟩
    · exact old q
    · have hr2 := Rch_t (h2 p hp).2.1 (by rw [e]; exact hr)
      exact ⟨(all j hj hr2).1, dn j hj hr2⟩
  · rw [h5 i c ec] at hm
    exact old hm
end LN
/-- what the distances of a goal are -/
def DVX (wd hd nb wl : Nat) (sh bw bh : Nat → Nat) (rm : Option Nat) (z : Bool) (K : Nat → Nat) (n g ap : Nat) (F : Nat → Option Nat) (su : Nat) (gr : Option Nat) : Prop :=
  LD (istp K n (mvk wd hd nb wl sh bw bh rm z)) (fun i => i < n ∧ plc (K i) g = ap) (cF n F) ∧ su = sumI F n ∧ (∀ i, n ≤ i → F i = none) ∧ (∀ i d, F i = some d → d < 2000) ∧ ((gr = none ∧ ∀ i, F i = none) ∨ ∃ d, gr = some d ∧ (∃ i, i < n ∧ F i = some d) ∧ ∀ i e, F i = some e → e ≤ d)
