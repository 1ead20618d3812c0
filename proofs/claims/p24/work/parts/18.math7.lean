/-! ===== the answers as functions of the state ===== -/
def GA (gl aq : Option Nat) (nb : Nat) : Prop := (gl = none ∧ aq = none) ∨ ∃ g ap, gl = some g ∧ aq = some ap ∧ g < nb ∧ ap < 24
def TV (wd hd nb wl : Nat) (sh bw bh ps : Nat → Nat) (gl aq lb : Option Nat) : Prop := FrV wd hd nb wl sh bw bh ∧ (∀ b, b < nb → ps b < 32) ∧ KV wd hd nb wl sh bw bh none (pkey ps nb) ∧ GA gl aq nb ∧ ∀ d, lb = some d → d < nb
noncomputable def flo (wd hd nb wl : Nat) (sh bw bh : Nat → Nat) (gn : Option Nat) (k b : Nat) : Nat → Option Nat := fOf noneF (LD (fstep wd hd (bw b) (bh b) (sh b) (tk wl sh k (exb gn (some b)) nb)) (fun x => x = plc k b))
theorem flo_eq {wd hd nb wl : Nat} {sh bw bh : Nat → Nat} {gn : Option Nat} {k b : Nat} {F : Nat → Option Nat} (h : LD (fstep wd hd (bw b) (bh b) (sh b) (tk wl sh k (exb gn (some b)) nb)) (fun x => x = plc k b) F) : F = flo wd hd nb wl sh bw bh gn k b := fOf_eq h (fun G hG => LD_eq hG h)
theorem flo_ld (wd hd nb wl : Nat) (sh bw bh : Nat → Nat) (gn : Option Nat) (k b : Nat) : LD (fstep wd hd (bw b) (bh b) (sh b) (tk wl sh k (exb gn (some b)) nb)) (fun x => x = plc k b) (flo wd hd nb wl sh bw bh gn k b) := by
  obtain ⟨F, hF⟩ := LD_ex (fstep wd hd (bw b) (bh b) (sh b) (tk wl sh k (exb gn (some b)) nb)) (fun x => x = plc k b)
  rw [← flo_eq hF]; exact hF
def sp_states (S : Nat → Nat → Prop) (k0 : Nat) (r : Int32) : Prop := (BIG S k0 ∧ r = -3) ∨ ∃ K n, n ≤ 2000 ∧ ENUM S k0 K n ∧ r = nI n
noncomputable def f_states (S : Nat → Nat → Prop) (k0 : Nat) : Int32 := fOf 0 (sp_states S k0)
theorem f_states_eq {S : Nat → Nat → Prop} {k0 : Nat} {r : Int32} (h : sp_states S k0 r) : r = f_states S k0 := fOf_eq h (fun r' h' => by
  rcases h with ⟨hb, rfl⟩ | ⟨K, n, hn, hE, rfl⟩ <;> rcases h' with ⟨hb', rfl⟩ | ⟨K', n', hn', hE', rfl⟩
  · rfl
  · exact (ENUM_BIG hE' hn' hb).elim
  · exact (ENUM_BIG hE hn hb').elim
  · rw [ENUM_n hE hE'])
def sp_solved (S : Nat → Nat → Prop) (g ap k0 : Nat) (r : Int32) : Prop := (BIG S k0 ∧ r = -3) ∨ ∃ K n, n ≤ 2000 ∧ ENUM S k0 K n ∧ r = nI (sumN (fun x => if plc x g = ap then 1 else 0) K n)
noncomputable def f_solved (S : Nat → Nat → Prop) (gl aq : Option Nat) (k0 : Nat) : Int32 := match gl, aq with
  | some g, some ap => fOf 0 (sp_solved S g ap k0)
  | _, _ => -2
theorem f_solved_eq {S : Nat → Nat → Prop} {g ap k0 : Nat} {r : Int32} (h : sp_solved S g ap k0 r) : r = f_solved S (some g) (some ap) k0 := fOf_eq h (fun r' h' => by
  rcases h with ⟨hb, rfl⟩ | ⟨K, n, hn, hE, rfl⟩ <;> rcases h' with ⟨hb', rfl⟩ | ⟨K', n', hn', hE', rfl⟩
  · rfl
  · exact (ENUM_BIG hE' hn' hb).elim
  · exact (ENUM_BIG hE hn hb').elim
  · rw [ENUM_sum hE hE'])
/-- the frame of the answers that need distances: too many, or the states with their distances; R tells the answer -/
def sp_d {α : Type} (S M : Nat → Nat → Prop) (P : Nat → Prop) (k0 : Nat) (big non : α) (R : (Nat → Nat) → Nat → (Nat → Option Nat) → α → Prop) (r : α) : Prop := (BIG S k0 ∧ r = big) ∨ ∃ K n F, n ≤ 2000 ∧ ENUM S k0 K n ∧ KD S M P k0 F ∧ (((∀ x, F x = none) ∧ r = non) ∨ ((∃ x, F x ≠ none) ∧ R K n F r))
theorem sp_d_u {α : Type} {S M : Nat → Nat → Prop} {P : Nat → Prop} {k0 : Nat} {big non : α} {R : (Nat → Nat) → Nat → (Nat → Option Nat) → α → Prop} (hR : ∀ K n K' n' F r r', ENUM S k0 K n → ENUM S k0 K' n' → KD S M P k0 F → (∃ x, F x ≠ none) → R K n F r → R K' n' F r' → r' = r) {r r' : α} (h : sp_d S M P k0 big non R r) (h' : sp_d S M P k0 big non R r') : r' = r := by
  rcases h with ⟨hb, rfl⟩ | ⟨K, n, F, hn, hE, hF, h⟩ <;> rcases h' with ⟨hb', rfl⟩ | ⟨K', n', F', hn', hE', hF', h'⟩
  · rfl
  · exact (ENUM_BIG hE' hn' hb).elim
  · exact (ENUM_BIG hE hn hb').elim
  · have e := LD_eq hF' hF
    subst e
    rcases h with ⟨h1, rfl⟩ | ⟨⟨x, hx⟩, h⟩ <;> rcases h' with ⟨h1', rfl⟩ | ⟨⟨x', hx'⟩, h'⟩
    · rfl
    · exact absurd (h1 x') hx'
    · exact absurd (h1' x) hx
    · exact hR K n K' n' _ r r' hE hE' hF' ⟨x, hx⟩ h h'
def rdist (k0 : Nat) (F : Nat → Option Nat) (r : Int32) : Prop := ∃ d, F k0 = some d ∧ r = nI d
def sp_dist (S M : Nat → Nat → Prop) (P : Nat → Prop) (k0 : Nat) : Int32 → Prop := sp_d S M P k0 (-3) (-9) (fun _ _ F r => rdist k0 F r)
noncomputable def f_dist (S M : Nat → Nat → Prop) (gl aq : Option Nat) (k0 : Nat) : Int32 := match gl, aq with
  | some g, some ap => fOf 0 (sp_dist S M (fun x => plc x g = ap) k0)
  | _, _ => -2
theorem f_dist_eq {S M : Nat → Nat → Prop} {g ap k0 : Nat} {r : Int32} (h : sp_dist S M (fun x => plc x g = ap) k0 r) : r = f_dist S M (some g) (some ap) k0 := fOf_eq h (fun r' h' => sp_d_u (fun K n K' n' F r r' _ _ _ _ h1 h2 => by
  obtain ⟨d, e1, rfl⟩ := h1
  obtain ⟨d', e2, rfl⟩ := h2
  rw [e1] at e2; cases e2; rfl) h h')
def ismax (F : Nat → Option Nat) (d : Nat) : Prop := (∃ x, F x = some d) ∧ ∀ y e, F y = some e → e ≤ d
theorem ismax_u {F : Nat → Option Nat} {d d' : Nat} (h : ismax F d) (h' : ismax F d') : d = d' := by
  obtain ⟨⟨x, hx⟩, h2⟩ := h
  obtain ⟨⟨y, hy⟩, h3⟩ := h'
  exact Nat.le_antisymm (h3 x d hx) (h2 y d' hy)
def sp_worst (S M : Nat → Nat → Prop) (P : Nat → Prop) (k0 : Nat) : Int32 → Prop := sp_d S M P k0 (-3) (-9) (fun _ _ F r => ∃ d, ismax F d ∧ r = nI d)
noncomputable def f_worst (S M : Nat → Nat → Prop) (gl aq : Option Nat) (k0 : Nat) : Int32 := match gl, aq with
  | some g, some ap => fOf 0 (sp_worst S M (fun x => plc x g = ap) k0)
  | _, _ => -2
theorem f_worst_eq {S M : Nat → Nat → Prop} {g ap k0 : Nat} {r : Int32} (h : sp_worst S M (fun x => plc x g = ap) k0 r) : r = f_worst S M (some g) (some ap) k0 := fOf_eq h (fun r' h' => sp_d_u (fun K n K' n' F r r' _ _ _ _ h1 h2 => by
  obtain ⟨d, e1, rfl⟩ := h1
  obtain ⟨d', e2, rfl⟩ := h2
  rw [ismax_u e1 e2]) h h')
/-- the first of the hardest states -/
def ishard (F : Nat → Option Nat) (x : Nat) : Prop := ∃ d, ismax F d ∧ F x = some d ∧ ∀ y, F y = some d → x ≤ y
def sp_hard (S M : Nat → Nat → Prop) (P : Nat → Prop) (k0 : Nat) : Option Nat → Prop := sp_d S M P k0 none none (fun _ _ F r => ∃ x, ishard F x ∧ r = some x)
noncomputable def f_hard (S M : Nat → Nat → Prop) (gl aq : Option Nat) (k0 : Nat) : Option Nat := match gl, aq with
  | some g, some ap => fOf none (sp_hard S M (fun x => plc x g = ap) k0)
  | _, _ => none
theorem f_hard_eq {S M : Nat → Nat → Prop} {g ap k0 : Nat} {r : Option Nat} (h : sp_hard S M (fun x => plc x g = ap) k0 r) : r = f_hard S M (some g) (some ap) k0 := fOf_eq h (fun r' h' => sp_d_u (fun K n K' n' F r r' _ _ _ _ h1 h2 => by
  obtain ⟨x, ⟨d, a1, a2, a3⟩, rfl⟩ := h1
  obtain ⟨y, ⟨e, b1, b2, b3⟩, rfl⟩ := h2
  have := ismax_u a1 b1
  subst this
  rw [Nat.le_antisymm (a3 y b2) (b3 x a2)]) h h')
def sp_mean (S M : Nat → Nat → Prop) (P : Nat → Prop) (k0 : Nat) : UInt32 → Prop := sp_d S M P k0 3212836864 3212836864 (fun K n F r => r = FP.fdiv (FP.i2f (nI (sumN (fun x => (F x).getD 0) K n))) (FP.i2f (nI n)))
noncomputable def f_mean (S M : Nat → Nat → Prop) (gl aq : Option Nat) (k0 : Nat) : UInt32 := match gl, aq with
  | some g, some ap => fOf 0 (sp_mean S M (fun x => plc x g = ap) k0)
  | _, _ => 3212836864
theorem f_mean_eq {S M : Nat → Nat → Prop} {g ap k0 : Nat} {r : UInt32} (h : sp_mean S M (fun x => plc x g = ap) k0 r) : r = f_mean S M (some g) (some ap) k0 := fOf_eq h (fun r' h' => sp_d_u (fun K n K' n' F r r' hE hE' _ _ h1 h2 => by
  rw [h1, h2, ENUM_sum hE hE', ENUM_n hE hE']) h h')
def sp_places (S : Nat → Nat → Prop) (b k0 : Nat) (r : Int32) : Prop := (BIG S k0 ∧ r = -3) ∨ ∃ K n m, n ≤ 2000 ∧ ENUM S k0 K n ∧ r = nI m ∧ ∀ i, m.testBit i = true ↔ ∃ j, j < n ∧ plc (K j) b = i
noncomputable def f_places (S : Nat → Nat → Prop) (b k0 : Nat) : Int32 := fOf 0 (sp_places S b k0)
theorem f_places_eq {S : Nat → Nat → Prop} {b k0 : Nat} {r : Int32} (h : sp_places S b k0 r) : r = f_places S b k0 := fOf_eq h (fun r' h' => by
  rcases h with ⟨hb, rfl⟩ | ⟨K, n, m, hn, hE, rfl, hm⟩ <;> rcases h' with ⟨hb', rfl⟩ | ⟨K', n', m', hn', hE', rfl, hm'⟩
  · rfl
  · exact (ENUM_BIG hE' hn' hb).elim
  · exact (ENUM_BIG hE hn hb').elim
  · have : m' = m := by
      refine Nat.eq_of_testBit_eq (fun i => ?_)
      have h1 := hm i
      have h2 := hm' i
      have h3 : m'.testBit i = true ↔ m.testBit i = true := by
        rw [h1, h2]
        constructor
        · rintro ⟨j, hj, e⟩
          obtain ⟨a, ha, e2⟩ := hE.2.2 _ (hE'.1 j hj)
          exact ⟨a, ha, by rw [e2]; exact e⟩
        · rintro ⟨j, hj, e⟩
          obtain ⟨a, ha, e2⟩ := hE'.2.2 _ (hE.1 j hj)
          exact ⟨a, ha, by rw [e2]; exact e⟩
      cases h4 : m'.testBit i <;> cases h5 : m.testBit i <;> simp_all
    rw [this])
/-- a move of a shortest way: block and place -/
def okmv (nb : Nat) (fl : Nat → Nat → Option Nat) (z : Bool) (k0 : Nat) (F : Nat → Option Nat) (b q : Nat) : Prop := b < nb ∧ isMv z (fl b q) = true ∧ ∃ e, F (wth k0 b q) = some e ∧ F k0 = some (e + 1)
def rhint (nb : Nat) (fl : Nat → Nat → Option Nat) (z : Bool) (k0 : Nat) (F : Nat → Option Nat) (r : Option (Nat × Nat)) : Prop := ((∀ b q, ¬ okmv nb fl z k0 F b q) ∧ r = none) ∨ ∃ b q, okmv nb fl z k0 F b q ∧ (∀ b' q', okmv nb fl z k0 F b' q' → b < b' ∨ (b = b' ∧ q ≤ q')) ∧ r = some (b, q)
def sp_hint (S M : Nat → Nat → Prop) (P : Nat → Prop) (nb : Nat) (fl : Nat → Nat → Option Nat) (z : Bool) (k0 : Nat) : Int32 ⊕ Option (Nat × Nat) → Prop := sp_d S M P k0 (.inl (-3)) (.inl (-9)) (fun _ _ F r => ∃ o, rhint nb fl z k0 F o ∧ r = .inr o)
noncomputable def f_hint (S M : Nat → Nat → Prop) (nb : Nat) (fl : Nat → Nat → Option Nat) (z : Bool) (gl aq : Option Nat) (k0 : Nat) : Int32 ⊕ Option (Nat × Nat) := match gl, aq with
  | some g, some ap => fOf (.inl 0) (sp_hint S M (fun x => plc x g = ap) nb fl z k0)
  | _, _ => .inl (-2)
theorem f_hint_eq {S M : Nat → Nat → Prop} {g ap nb k0 : Nat} {fl : Nat → Nat → Option Nat} {z : Bool} {r : Int32 ⊕ Option (Nat × Nat)} (h : sp_hint S M (fun x => plc x g = ap) nb fl z k0 r) : r = f_hint S M nb fl z (some g) (some ap) k0 := fOf_eq h (fun r' h' => sp_d_u (fun K n K' n' F r r' _ _ _ _ h1 h2 => by
  obtain ⟨o, h1, rfl⟩ := h1
  obtain ⟨o', h2, rfl⟩ := h2
  congr 1
  rcases h1 with ⟨a1, rfl⟩ | ⟨b, q, a1, a2, rfl⟩ <;> rcases h2 with ⟨b1, rfl⟩ | ⟨b', q', b1, b2, rfl⟩
  · rfl
  · exact absurd b1 (a1 b' q')
  · exact absurd a1 (b1 b q)
  · have h3 := a2 b' q' b1
    have h4 := b2 b q a1
    have e1 : b = b' := by omega
    have e2 : q = q' := by omega
    rw [e1, e2]) h h')
/-- the code of a hint -/
def cHint : Int32 ⊕ Option (Nat × Nat) → Int32
  | .inl r => r
  | .inr none => -9
  | .inr (some (b, q)) => nI (100 * b + q)
/-- what `opens' leaves -/
def OPN (S M : Nat → Nat → Prop) (V : Nat → Prop) (gl aq : Option Nat) (k0 : Nat) (r : Int32) (K : Nat → Nat) (n : Nat) (T : Nat → Nat) (F : Nat → Option Nat) : Prop :=
  (gl = none ∧ r = -2) ∨ ∃ g ap, gl = some g ∧ aq = some ap ∧ ((BIG S k0 ∧ r = -3) ∨ (ENUM S k0 K n ∧ n ≤ 2000 ∧ 1 ≤ n ∧ K 0 = k0 ∧ TI 8192 hM K n T ∧ (∀ i, i < n → V (K i)) ∧ KD S M (fun x => plc x g = ap) k0 (keyF K n (cF n F)) ∧ (∀ i d, cF n F i = some d → d < 2000) ∧ (((∀ i, cF n F i = none) ∧ r = -9) ∨ (¬ (∀ i, cF n F i = none) ∧ r = 0))))
/-- the good case, by r = 0 -/
def OPG (S M : Nat → Nat → Prop) (V : Nat → Prop) (gl aq : Option Nat) (k0 : Nat) (K : Nat → Nat) (n : Nat) (T : Nat → Nat) (F : Nat → Option Nat) : Prop :=
  ∃ g ap, gl = some g ∧ aq = some ap ∧ ENUM S k0 K n ∧ n ≤ 2000 ∧ 1 ≤ n ∧ K 0 = k0 ∧ TI 8192 hM K n T ∧ (∀ i, i < n → V (K i)) ∧ KD S M (fun x => plc x g = ap) k0 (keyF K n (cF n F)) ∧ (∀ i d, cF n F i = some d → d < 2000) ∧ (∃ x, keyF K n (cF n F) x ≠ none) ∧ ∀ i, i < n → ∃ d, F i = some d ∧ d < 2000
section OG
variable {wd hd nb wl : Nat} {sh bw bh : Nat → Nat} {gn : Option Nat} {z : Bool} {gl aq : Option Nat} {k0 n : Nat} {r : Int32} {K T : Nat → Nat} {F : Nat → Option Nat}
theorem OPN_good (hf : FrV wd hd nb wl sh bw bh) (hk : KV wd hd nb wl sh bw bh gn k0) (h : OPN (kst wd hd nb wl sh bw bh gn) (mvk wd hd nb wl sh bw bh gn z) (KV wd hd nb wl sh bw bh gn) gl aq k0 r K n T F) (hr : r = 0) : OPG (kst wd hd nb wl sh bw bh gn) (mvk wd hd nb wl sh bw bh gn z) (KV wd hd nb wl sh bw bh gn) gl aq k0 K n T F := by
  subst hr
  rcases h with ⟨-, h⟩ | ⟨g, ap, h1, h2, ⟨-, h⟩ | ⟨a1, a2, a3, a4, a5, a6, a7, a8, ⟨-, h⟩ | ⟨h, -⟩⟩⟩
  · exact absurd h (by decide)
  · exact absurd h (by decide)
  · exact absurd h (by decide)
  · have hex : ∃ x, keyF K n (cF n F) x ≠ none := by
      refine Classical.byContradiction (fun hno => h (fun i => ?_))
      by_cases hi : i < n
      · have h9 : keyF K n (cF n F) (K i) = none := Classical.byContradiction (fun h8 => hno ⟨_, h8⟩)
        rw [keyF_at hi a1.2.1] at h9; exact h9
      · unfold cF; rw [if_neg hi]
    refine ⟨g, ap, h1, h2, a1, a2, a3, a4, a5, a6, a7, a8, hex, fun i hi => ?_⟩
    obtain ⟨d, hd9⟩ := KD_all hf hk a7 hex (a1.1 i hi)
    rw [keyF_at hi a1.2.1] at hd9
    exact ⟨d, (cF_some hd9).2, a8 i d hd9⟩
/-- the other cases -/
theorem OPN_bad {α : Type} {big non st : α} {Rr : (Nat → Nat) → Nat → (Nat → Option Nat) → α → Prop} (h : OPN (kst wd hd nb wl sh bw bh gn) (mvk wd hd nb wl sh bw bh gn z) (KV wd hd nb wl sh bw bh gn) gl aq k0 r K n T F) (hr : ¬ r = 0) :
    (gl = none ∧ r = -2) ∨ ∃ g ap, gl = some g ∧ aq = some ap ∧ ((r = -3 ∧ sp_d (kst wd hd nb wl sh bw bh gn) (mvk wd hd nb wl sh bw bh gn z) (fun x => plc x g = ap) k0 big non Rr big) ∨ (r = -9 ∧ sp_d (kst wd hd nb wl sh bw bh gn) (mvk wd hd nb wl sh bw bh gn z) (fun x => plc x g = ap) k0 big non Rr non)) := by
  rcases h with h | ⟨g, ap, h1, h2, ⟨hb, h⟩ | ⟨a1, a2, a3, a4, a5, a6, a7, a8, ⟨hn, h⟩ | ⟨-, h⟩⟩⟩
  · exact Or.inl h
  · exact Or.inr ⟨g, ap, h1, h2, Or.inl ⟨h, Or.inl ⟨hb, rfl⟩⟩⟩
  · refine Or.inr ⟨g, ap, h1, h2, Or.inr ⟨h, Or.inr ⟨K, n, _, a2, a1, a7, Or.inl ⟨fun x => ?_, rfl⟩⟩⟩⟩
    cases hx : keyF K n (cF n F) x with
    | none => rfl
    | some d =>
      obtain ⟨i, hi, -, h9⟩ := keyF_some a1.2.1 hx
      rw [hn] at h9; cases h9
  · exact absurd h hr
theorem dist_bad (h : OPN (kst wd hd nb wl sh bw bh gn) (mvk wd hd nb wl sh bw bh gn z) (KV wd hd nb wl sh bw bh gn) gl aq k0 r K n T F) (hr : ¬ r = 0) : r = f_dist (kst wd hd nb wl sh bw bh gn) (mvk wd hd nb wl sh bw bh gn z) gl aq k0 := by
  rcases OPN_bad (α := Int32) (big := -3) (non := -9) (st := 0) (Rr := fun _ _ F r => rdist k0 F r) h hr with ⟨rfl, rfl⟩ | ⟨g, ap, rfl, rfl, ⟨rfl, h9⟩ | ⟨rfl, h9⟩⟩
  · rfl
  · exact f_dist_eq h9
  · exact f_dist_eq h9
theorem dist_good (h : OPG (kst wd hd nb wl sh bw bh gn) (mvk wd hd nb wl sh bw bh gn z) (KV wd hd nb wl sh bw bh gn) gl aq k0 K n T F) : oI (F 0) = f_dist (kst wd hd nb wl sh bw bh gn) (mvk wd hd nb wl sh bw bh gn z) gl aq k0 := by
  obtain ⟨g, ap, rfl, rfl, a1, a2, a3, a4, a5, a6, a7, a8, hex, hall⟩ := h
  obtain ⟨d, hd9, -⟩ := hall 0 (by omega)
  rw [hd9]
  exact f_dist_eq (Or.inr ⟨K, n, _, a2, a1, a7, Or.inr ⟨hex, d, by rw [← a4, keyF_at (by omega) a1.2.1, cF_lt (by omega)]; exact hd9, rfl⟩⟩)
theorem worst_bad (h : OPN (kst wd hd nb wl sh bw bh gn) (mvk wd hd nb wl sh bw bh gn z) (KV wd hd nb wl sh bw bh gn) gl aq k0 r K n T F) (hr : ¬ r = 0) : r = f_worst (kst wd hd nb wl sh bw bh gn) (mvk wd hd nb wl sh bw bh gn z) gl aq k0 := by
  rcases OPN_bad (α := Int32) (big := -3) (non := -9) (st := 0) (Rr := fun _ _ F r => ∃ d, ismax F d ∧ r = nI d) h hr with ⟨rfl, rfl⟩ | ⟨g, ap, rfl, rfl, ⟨rfl, h9⟩ | ⟨rfl, h9⟩⟩
  · rfl
  · exact f_worst_eq h9
  · exact f_worst_eq h9
theorem key_max {S : Nat → Nat → Prop} {mx : Nat} (a1 : ENUM S k0 K n) (h1 : ∀ i, i < n → ∀ d, F i = some d → d ≤ mx) (h2 : ∃ i, i < n ∧ F i = some mx) : ismax (keyF K n (cF n F)) mx := by
  obtain ⟨i, hi, he⟩ := h2
  refine ⟨⟨K i, by rw [keyF_at hi a1.2.1, cF_lt hi]; exact he⟩, fun y e hy => ?_⟩
  obtain ⟨j, hj, -, h3⟩ := keyF_some a1.2.1 hy
  exact h1 j hj e (cF_some h3).2
theorem worst_good {mx : Nat} (h : OPG (kst wd hd nb wl sh bw bh gn) (mvk wd hd nb wl sh bw bh gn z) (KV wd hd nb wl sh bw bh gn) gl aq k0 K n T F) (h1 : ∀ i, i < n → ∀ d, F i = some d → d ≤ mx) (h2 : ∃ i, i < n ∧ F i = some mx) : nI mx = f_worst (kst wd hd nb wl sh bw bh gn) (mvk wd hd nb wl sh bw bh gn z) gl aq k0 := by
  obtain ⟨g, ap, rfl, rfl, a1, a2, a3, a4, a5, a6, a7, a8, hex, hall⟩ := h
  exact f_worst_eq (Or.inr ⟨K, n, _, a2, a1, a7, Or.inr ⟨hex, mx, key_max a1 h1 h2, rfl⟩⟩)
theorem mean_bad (h : OPN (kst wd hd nb wl sh bw bh gn) (mvk wd hd nb wl sh bw bh gn z) (KV wd hd nb wl sh bw bh gn) gl aq k0 r K n T F) (hr : ¬ r = 0) : 3212836864 = f_mean (kst wd hd nb wl sh bw bh gn) (mvk wd hd nb wl sh bw bh gn z) gl aq k0 := by
  rcases OPN_bad (α := UInt32) (big := 3212836864) (non := 3212836864) (st := 0) (Rr := fun K n F r => r = FP.fdiv (FP.i2f (nI (sumN (fun x => (F x).getD 0) K n))) (FP.i2f (nI n))) h hr with ⟨rfl, rfl⟩ | ⟨g, ap, rfl, rfl, ⟨rfl, h9⟩ | ⟨rfl, h9⟩⟩
  · rfl
  · exact f_mean_eq h9
  · exact f_mean_eq h9
/-- a sum over the numbers of the states -/
def sumI (F : Nat → Option Nat) : Nat → Nat
  | 0 => 0
  | i + 1 => sumI F i + (F i).getD 0
theorem sumI_N (hinj : ∀ i j, i < n → j < n → K i = K j → i = j) : ∀ m, m ≤ n → sumI F m = sumN (fun x => (keyF K n (cF n F) x).getD 0) K m
  | 0, _ => rfl
  | m + 1, hm => by
    show sumI F m + (F m).getD 0 = sumN _ K m + (keyF K n (cF n F) (K m)).getD 0
    rw [sumI_N hinj m (by omega), keyF_at (by omega) hinj, cF_lt (by omega)]
theorem mean_good (h : OPG (kst wd hd nb wl sh bw bh gn) (mvk wd hd nb wl sh bw bh gn z) (KV wd hd nb wl sh bw bh gn) gl aq k0 K n T F) : FP.fdiv (FP.i2f (nI (sumI F n))) (FP.i2f (nI n)) = f_mean (kst wd hd nb wl sh bw bh gn) (mvk wd hd nb wl sh bw bh gn z) gl aq k0 := by
  obtain ⟨g, ap, rfl, rfl, a1, a2, a3, a4, a5, a6, a7, a8, hex, hall⟩ := h
  exact f_mean_eq (Or.inr ⟨K, n, _, a2, a1, a7, Or.inr ⟨hex, by rw [sumI_N a1.2.1 n (Nat.le_refl n)]⟩⟩)
theorem hint_bad {fl : Nat → Nat → Option Nat} (h : OPN (kst wd hd nb wl sh bw bh gn) (mvk wd hd nb wl sh bw bh gn z) (KV wd hd nb wl sh bw bh gn) gl aq k0 r K n T F) (hr : ¬ r = 0) : r = cHint (f_hint (kst wd hd nb wl sh bw bh gn) (mvk wd hd nb wl sh bw bh gn z) nb fl z gl aq k0) := by
  rcases OPN_bad (α := Int32 ⊕ Option (Nat × Nat)) (big := .inl (-3)) (non := .inl (-9)) (st := .inl 0) (Rr := fun _ _ F r => ∃ o, rhint nb fl z k0 F o ∧ r = .inr o) h hr with ⟨rfl, rfl⟩ | ⟨g, ap, rfl, rfl, ⟨rfl, h9⟩ | ⟨rfl, h9⟩⟩
  · rfl
  · rw [← f_hint_eq h9]; rfl
  · rw [← f_hint_eq h9]; rfl
theorem hint_bad2 {fl : Nat → Nat → Option Nat} (h : OPN (kst wd hd nb wl sh bw bh gn) (mvk wd hd nb wl sh bw bh gn z) (KV wd hd nb wl sh bw bh gn) gl aq k0 r K n T F) (hr : ¬ r = 0) : f_hint (kst wd hd nb wl sh bw bh gn) (mvk wd hd nb wl sh bw bh gn z) nb fl z gl aq k0 = .inl r ∧ r < 0 := by
  rcases OPN_bad (α := Int32 ⊕ Option (Nat × Nat)) (big := .inl (-3)) (non := .inl (-9)) (st := .inl 0) (Rr := fun _ _ F r => ∃ o, rhint nb fl z k0 F o ∧ r = .inr o) h hr with ⟨rfl, rfl⟩ | ⟨g, ap, rfl, rfl, ⟨rfl, h9⟩ | ⟨rfl, h9⟩⟩
  · exact ⟨rfl, by decide⟩
  · exact ⟨(f_hint_eq h9).symm, by decide⟩
  · exact ⟨(f_hint_eq h9).symm, by decide⟩
theorem hint_good {fl : Nat → Nat → Option Nat} {o : Option (Nat × Nat)} (h : OPG (kst wd hd nb wl sh bw bh gn) (mvk wd hd nb wl sh bw bh gn z) (KV wd hd nb wl sh bw bh gn) gl aq k0 K n T F) (ho : rhint nb fl z k0 (keyF K n (cF n F)) o) : f_hint (kst wd hd nb wl sh bw bh gn) (mvk wd hd nb wl sh bw bh gn z) nb fl z gl aq k0 = .inr o := by
  obtain ⟨g, ap, rfl, rfl, a1, a2, a3, a4, a5, a6, a7, a8, hex, hall⟩ := h
  exact (f_hint_eq (Or.inr ⟨K, n, _, a2, a1, a7, Or.inr ⟨hex, o, ho, rfl⟩⟩)).symm
theorem hard_bad (h : OPN (kst wd hd nb wl sh bw bh gn) (mvk wd hd nb wl sh bw bh gn z) (KV wd hd nb wl sh bw bh gn) gl aq k0 r K n T F) (hr : ¬ r = 0) : f_hard (kst wd hd nb wl sh bw bh gn) (mvk wd hd nb wl sh bw bh gn z) gl aq k0 = none := by
  rcases OPN_bad (α := Option Nat) (big := none) (non := none) (st := none) (Rr := fun _ _ F r => ∃ x, ishard F x ∧ r = some x) h hr with ⟨rfl, rfl⟩ | ⟨g, ap, rfl, rfl, ⟨rfl, h9⟩ | ⟨rfl, h9⟩⟩
  · rfl
  · exact (f_hard_eq h9).symm
  · exact (f_hard_eq h9).symm
theorem hard_good {mx b : Nat} (h : OPG (kst wd hd nb wl sh bw bh gn) (mvk wd hd nb wl sh bw bh gn z) (KV wd hd nb wl sh bw bh gn) gl aq k0 K n T F) (h1 : ∀ i, i < n → ∀ d, F i = some d → d ≤ mx) (hb : b < n) (h2 : F b = some mx) (h3 : ∀ i, i < n → F i = some mx → K b ≤ K i) : f_hard (kst wd hd nb wl sh bw bh gn) (mvk wd hd nb wl sh bw bh gn z) gl aq k0 = some (K b) := by
  obtain ⟨g, ap, rfl, rfl, a1, a2, a3, a4, a5, a6, a7, a8, hex, hall⟩ := h
  refine (f_hard_eq (Or.inr ⟨K, n, _, a2, a1, a7, Or.inr ⟨hex, K b, ⟨mx, key_max a1 h1 ⟨b, hb, h2⟩, by rw [keyF_at hb a1.2.1, cF_lt hb]; exact h2, fun y hy => ?_⟩, rfl⟩⟩)).symm
  obtain ⟨j, hj, rfl, h4⟩ := keyF_some a1.2.1 hy
  exact h3 j hj (cF_some h4).2
end OG
theorem KV_out {wd hd nb wl : Nat} {sh bw bh : Nat → Nat} {k b : Nat} (hn7 : nb ≤ 7) (hb : b < nb) (hk : KV wd hd nb wl sh bw bh none k) : KV wd hd nb wl sh bw bh (some b) (wth k b 0) := by
  have ne : ∀ c, c < 7 → c ≠ b → plc (wth k b 0) c = plc k c := fun c h1 h2 => plc_wth_ne (by decide) (by omega) h1 h2
  refine ⟨wth_lt hk.1 (by decide), fun c hc h => ?_, fun c hc hg => ?_⟩
  · by_cases e : c = b
    · subst e; exact plc_wth_self (by decide)
    · rw [ne c hc e]
      refine hk.2.1 c hc (Or.inl ?_)
      rcases h with h | h
      · exact h
      · exact absurd (Option.some.inj h).symm e
  · have e : c ≠ b := fun e => hg (by rw [e])
    rw [ne c (by omega) e]
    obtain ⟨a1, a2, a3⟩ := hk.2.2 c hc (fun h => by cases h)
    refine ⟨a1, a2, fun c' hc' hg' hne => ?_⟩
    have e' : c' ≠ b := fun e => hg' (by rw [e])
    rw [ne c' (by omega) e']
    exact a3 c' hc' (fun h => by cases h) hne
/-! floats: the quotient of two ints is no NaN -/
def fl_ok32 (n : Nat) : Prop := n < 4294967296 ∧ (n / 8388608 % 256 = 255 → n % 8388608 = 0)
theorem fl_t32 : FP.Core.b32.tails = 8388608 := by decide
theorem fl_x32 : FP.Core.b32.exps = 256 := by decide
theorem fl_q32 : FP.Core.b32.qmin = -149 := by decide
theorem fl_m32 : FP.Core.b32.qmax = 104 := by decide
theorem fl_fin32 (s : Bool) {c : Nat} {q : Int} (hc : c < 16777216) (hq : q ≤ 104) : fl_ok32 (FP.Core.encode FP.Core.b32 (.fin s c q)) := by
  show fl_ok32 (if c < FP.Core.b32.tails then FP.Core.assemble FP.Core.b32 s 0 c else FP.Core.assemble FP.Core.b32 s ((q - FP.Core.b32.qmin).toNat + 1) (c - FP.Core.b32.tails))
  unfold FP.Core.assemble
  rw [fl_t32, fl_x32, fl_q32]
  have hs : s.toNat ≤ 1 := by cases s <;> decide
  unfold fl_ok32
  split
  · constructor
    · omega
    · intro h9; omega
  · have he : (q - (-149)).toNat + 1 ≤ 254 := by omega
    generalize (q - (-149)).toNat + 1 = E at he ⊢
    constructor
    · omega
    · intro h9; omega
theorem fl_inf32 (s : Bool) : fl_ok32 (FP.Core.encode FP.Core.b32 (.inf s)) := by
  unfold fl_ok32
  cases s <;> decide +kernel
theorem fl_set32 (s : Bool) (c : Nat) (q : Int) : fl_ok32 (FP.Core.encode FP.Core.b32 (FP.Core.settle FP.Core.b32 s c q)) := by
  unfold FP.Core.settle FP.Core.bound
  rw [fl_m32, fl_t32]
  have h5 : 2 ^ FP.Core.b32.p = 16777216 := by decide
  split
  · rename_i h6
    rw [h5] at h6
    split
    · rename_i h7; exact fl_fin32 s h6 h7
    · exact fl_inf32 s
  · split
    · rename_i h7; exact fl_fin32 s (by decide) h7
    · exact fl_inf32 s
theorem fl_rr32 (s : Bool) (A B : Nat) (e : Int) : fl_ok32 (FP.Core.encode FP.Core.b32 (FP.Core.roundRatio FP.Core.b32 s A B e)) := by
  unfold FP.Core.roundRatio
  split
  · rw [fl_q32]; exact fl_fin32 s (by decide) (by decide)
  · unfold FP.Core.roundAt; exact fl_set32 s _ _
theorem fl_nat32 {n : Nat} (h : fl_ok32 n) : (UInt32.ofNat n).toNat = n := UInt32.toNat_ofNat_of_lt' (by simpa using h.1)
theorem fl_dec32 {n : Nat} (h : fl_ok32 n) : FP.Core.decode FP.Core.b32 (UInt32.ofNat n).toNat ≠ .nan := by
  rw [fl_nat32 h]
  unfold FP.Core.decode FP.Core.fieldE FP.Core.fieldT
  rw [fl_t32, fl_x32]
  split
  · rename_i hE
    rw [if_pos (h.2 (by omega))]; intro h9; cases h9
  · split <;> (intro h9; cases h9)
theorem fl_int32 (i : Int) : fl_ok32 (FP.Core.fromInt FP.Core.b32 i) := by
  show fl_ok32 (FP.Core.encode FP.Core.b32 (FP.Core.roundRatio FP.Core.b32 (decide (i < 0)) i.natAbs 1 0))
  exact fl_rr32 _ _ _ _
theorem fl_quo32 {d : FP.Core.Datum} (h1 : d ≠ .nan) {t : Bool} {c : Nat} {q : Int} (hc : c ≠ 0) : fl_ok32 (FP.Core.encode FP.Core.b32 (FP.Core.quotient FP.Core.b32 d (.fin t c q))) := by
  cases d with
  | nan => exact absurd rfl h1
  | inf s => exact fl_inf32 _
  | fin s c' q' =>
    show fl_ok32 (FP.Core.encode FP.Core.b32 (if c = 0 then (if c' = 0 then .nan else .inf (s != t)) else FP.Core.roundRatio FP.Core.b32 (s != t) c' c (q' - q)))
    rw [if_neg hc]
    exact fl_rr32 _ _ _ _
def fl_den (n : Nat) : Bool := match FP.Core.decode FP.Core.b32 (FP.i2f (nI n)).toNat with
  | .fin _ c _ => c != 0
  | _ => false
theorem fl_dens : (List.range 2001).all (fun n => n == 0 || fl_den n) = true := by decide +kernel
theorem fl_n32 {n : Nat} (h : fl_ok32 n) : vf_n32 (UInt32.ofNat n) := by
  unfold vf_n32
  rw [UInt32.le_iff_toNat_le, UInt32.toNat_and, fl_nat32 h]
  show n &&& 2147483647 ≤ 2139095040
  rw [show (2147483647 : Nat) = 2 ^ 31 - 1 from rfl, Nat.and_two_pow_sub_one_eq_mod]
  obtain ⟨h1, h2⟩ := h
  by_cases h3 : n / 8388608 % 256 = 255
  · have := h2 h3; omega
  · omega
theorem vf_mean {a : Int32} {n : Nat} (h1 : 1 ≤ n) (h2 : n ≤ 2000) : vf_n32 (FP.fdiv (FP.i2f a) (FP.i2f (nI n))) := by
  have hd := List.all_eq_true.mp fl_dens n (List.mem_range.mpr (by omega))
  have hd : fl_den n = true := by
    rcases Bool.or_eq_true_iff.mp hd with h | h
    · have := eq_of_beq h; omega
    · exact h
  unfold fl_den at hd
  split at hd
  · rename_i t c q he
    have hc : c ≠ 0 := by simpa using hd
    refine fl_n32 (n := FP.Core.encode FP.Core.b32 (FP.Core.quotient FP.Core.b32 (FP.Core.decode FP.Core.b32 (FP.i2f a).toNat) (FP.Core.decode FP.Core.b32 (FP.i2f (nI n)).toNat))) ?_
    rw [he]
    exact fl_quo32 (fl_dec32 (fl_int32 a.toInt)) hc
  · cases hd
