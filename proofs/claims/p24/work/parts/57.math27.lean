theorem mbit_no {x b : Nat} (h : x &&& 1 <<< b = 0) : ¬ x.testBit b = true := fun q => by
  have h1 := congrArg (fun y : Nat => y.testBit b) h
  have h2 : (1 <<< b).testBit b = true := shl1_bit.trans (decide_eq_true rfl)
  simp only [Nat.testBit_and, q, h2, Nat.zero_testBit] at h1
  cases h1
theorem mbit_yes {x b : Nat} (h : 0 < x &&& 1 <<< b) : x.testBit b = true := by
  cases e : x.testBit b with
  | true => rfl
  | false =>
    have : x &&& 1 <<< b = 0 := Nat.eq_of_testBit_eq (fun i => by
      rw [Nat.testBit_and, shl1_bit, Nat.zero_testBit]
      by_cases hi : b = i
      · rw [← hi, e]; rfl
      · rw [decide_eq_false hi, Bool.and_false])
    omega
theorem up_same {α : Type} {f : Nat → α} {i : Nat} {v : α} (h : f i = v) : va_up f i v = f := by
  funext j
  by_cases e : j = i
  · subst e; rw [up_eq, h]
  · rw [up_ne f e]
theorem sumI_0 {F : Nat → Option Nat} (h : ∀ i d, F i = some d → d = 0) : ∀ n, sumI F n = 0
  | 0 => rfl
  | n + 1 => by
    show sumI F n + (F n).getD 0 = 0
    rw [sumI_0 h n]
    cases e : F n with
    | none => rfl
    | some d => rw [h n d e]; rfl
section DV
variable {wd hd nb wl : Nat} {sh bw bh : Nat → Nat} {rm : Option Nat} {K : Nat → Nat} {n : Nat} {F F2 : Nat → Option Nat} {Mk : Nat → Nat}
theorem MKI_le {bd bd2 : Nat} (h : MKI wd hd nb wl sh bw bh rm K n F Mk bd) (hb : bd ≤ bd2) (hk : ∀ j e, cF n F j = some e → cF n F2 j = some e) : MKI wd hd nb wl sh bw bh rm K n F2 Mk bd2 :=
  ⟨fun i hi c hc hm j hj hr => by
    obtain ⟨a1, e, a2, a3⟩ := h.1 i hi c hc hm j hj hr
    exact ⟨a1, e, hk j e a2, by omega⟩, h.2⟩
theorem MKI_0 : MKI wd hd nb wl sh bw bh rm K n F (fun _ => 0) 0 :=
  ⟨fun i _ c _ hm => (by rw [Nat.zero_testBit] at hm; cases hm), fun _ => (by show 0 < 2 ^ 7; decide)⟩
theorem CLO_s {b i fm : Nat} {L : Nat → Nat} (h : CLO wd hd nb wl sh bw bh rm b K n Mk L i) (hm : L i = fm) (he : ∀ d, d < 4 → ∀ q, mvb wd hd nb wl sh bw bh rm (K fm) b d = some q → ∀ j, j < n → K j = wth (K fm) b q → (Mk j).testBit b = true) : CLO wd hd nb wl sh bw bh rm b K n Mk L (i + 1) :=
  lt_s h (fun d hd4 q hq j hj hk => he d hd4 q (by rw [← hm]; exact hq) j hj (by rw [← hm]; exact hk))
end DV
theorem MS0_in {step : Nat → Nat → Prop} {P : Nat → Prop} {F : Nat → Option Nat} {L : Nat → Nat} {l u : Nat} (h : MS0 step P F L l u) : BI step (fun i => i < u ∧ P i) (cF u F) L l 0 := h.1
theorem DVX_of {wd hd nb wl : Nat} {sh bw bh : Nat → Nat} {rm : Option Nat} {z : Bool} {K Q : Nat → Nat} {n g ap fo hq su : Nat} {F : Nat → Option Nat} {gr : Option Nat} (hn : n ≤ 2000)
    (iB : BI (istp K n (mvk wd hd nb wl sh bw bh rm z)) (fun i => i < n ∧ plc (K i) g = ap) (cF n F) Q fo hq) (hh : fo ≤ hq) (hs : su = sumI F n) (hz : ∀ i, n ≤ i → F i = none) (hg : (gr = none ∧ fo = 0) ∨ (0 < fo ∧ ∃ d, gr = some d ∧ F (Q (fo - 1)) = some d)) : DVX wd hd nb wl sh bw bh rm z K n g ap F su gr := by
  have e : hq = fo := by have := iB.1; omega
  subst e
  have inn : ∀ i d, F i = some d → i < n := fun i d hi => Nat.lt_of_not_le (fun q => by rw [hz i q] at hi; cases hi)
  have cf : ∀ i d, F i = some d → cF n F i = some d := fun i d hi => by rw [cF_lt (inn i d hi)]; exact hi
  refine ⟨BI_done iB, hs, hz, fun i d hi => ?_, ?_⟩
  · have := BI_bound iB (fun p d q => (cF_some q).1) (cf i d hi); omega
  · rcases hg with ⟨h1, h2⟩ | ⟨h1, d, h2, h3⟩
    · refine Or.inl ⟨h1, fun i => ?_⟩
      cases ei : F i with
      | none => rfl
      | some d =>
        have := (BI_zero iB).mp h2 i
        rw [cf i d ei] at this
        cases this
    · refine Or.inr ⟨d, h2, ⟨_, inn _ _ h3, h3⟩, fun i e hi => ?_⟩
      obtain ⟨j, hj, ej⟩ := iB.2.2.1 i e (cf i e hi)
      have h4 := iB.2.2.2.2.2.2.2.1 j (hq - 1) e d (by omega) (by omega) (by rw [ej]; exact cf i e hi) (cf _ _ h3)
      exact h4.1
theorem oI_eqn {x : Option Nat} {w : Nat} (ho : ∀ d, x = some d → d < 2 ^ 31) (hw : w < 2 ^ 31) (h : oI x = nI w) : x = some w := by
  cases x with
  | none => exact absurd (show nI w < 0 by rw [← h]; decide) (nI_pos hw)
  | some d => rw [(nI_eq (ho d rfl) hw).mp h]
def lK (K : Nat → Nat) : Option Nat → Int64
  | none => -1
  | some b => lN (K b)
theorem lcm_n1 {K : Nat → Nat} : lcm (lK K none) (lN 0) = -1 := by
  show lcm (-1) (lN 0) = -1
  decide
theorem lcm_0 {k : Nat} (hk : k < 2 ^ 63) : lcm (lN k) (lN 0) = nI (if k = 0 then 0 else 1) := by
  unfold lcm lg_cmp
  by_cases h : k = 0
  · subst h; rfl
  · rw [if_neg h, if_pos ((pk_lLT (by decide) hk).mpr (by omega))]
    rfl
