theorem pst_bar_ok {c k wi hi row all m : Nat} {cl lt fa : Nat → Nat} (hc : c = 47) (h1 : 0 < row) (h2 : hi = 0 ∨ wi ≤ row) (h3 : hi ≠ 5) : pstep c k wi hi row all cl m lt fa = some (row, hi + 1, 0, all, cl, m, lt, fa) := by
  unfold pstep; rw [if_pos hc, if_neg (by omega)]
theorem pst_bar_no {c k wi hi row all m : Nat} {cl lt fa : Nat → Nat} (hc : c = 47) (h : row = 0 ∨ (0 < hi ∧ row < wi) ∨ hi = 5) : pstep c k wi hi row all cl m lt fa = none := by
  unfold pstep; rw [if_pos hc, if_pos h]
theorem pst_no {c k wi hi row all m : Nat} {cl lt fa : Nat → Nat} (hc : c ≠ 47) (h : ¬ (c = 46 ∨ c = 35 ∨ (97 ≤ c ∧ c ≤ 122)) ∨ row = (if hi = 0 then 6 else wi) ∨ all = 24) : pstep c k wi hi row all cl m lt fa = none := by
  unfold pstep; rw [if_neg hc, if_pos h]
theorem pst_no2 {c k wi hi row all m : Nat} {cl lt fa : Nat → Nat} (hc : c ≠ 47) (h : cv lt m c = none) : pstep c k wi hi row all cl m lt fa = none := by
  unfold pstep; rw [if_neg hc]
  by_cases h9 : ¬ (c = 46 ∨ c = 35 ∨ (97 ≤ c ∧ c ≤ 122)) ∨ row = (if hi = 0 then 6 else wi) ∨ all = 24
  · rw [if_pos h9]
  · rw [if_neg h9, h]; rfl
theorem pst_ok {c k wi hi row all m v : Nat} {cl lt fa : Nat → Nat} (hc : c ≠ 47) (h1 : c = 46 ∨ c = 35 ∨ (97 ≤ c ∧ c ≤ 122)) (h2 : row ≠ (if hi = 0 then 6 else wi)) (h3 : all ≠ 24) (hv : cv lt m c = some v) : pstep c k wi hi row all cl m lt fa = some (wi, hi, row + 1, all + 1, va_up cl all v, m2 lt m c, lt2 lt m c, fa2 lt m c fa k) := by
  unfold pstep; rw [if_neg hc, if_neg (by omega), hv]; rfl
/-- what always holds of a text read so far -/
def PIN (k wi hi row all : Nat) (cl : Nat → Nat) (m : Nat) (lt fa : Nat → Nat) : Prop := row ≤ 6 ∧ hi ≤ 5 ∧ wi ≤ 6 ∧ all ≤ 24 ∧ all = hi * wi + row ∧ (0 < hi → 1 ≤ wi ∧ row ≤ wi) ∧ k = all + hi ∧ m ≤ 7 ∧ (∀ b, b < m → lt b < 2 ^ 20) ∧ (∀ i, i < all → cl i < 2 + m) ∧
  ∀ b, b < m → ∃ i, i < all ∧ cl i = 2 + b ∧ (∀ j, j < i → cl j ≠ 2 + b) ∧ (hi = 0 → fa b = i) ∧ (0 < hi → fa b = i + i / wi)
theorem cv_none7 {lt : Nat → Nat} {m c v : Nat} (hm : m ≤ 7) (h : cv lt m c = some v) : m2 lt m c ≤ 7 := by
  unfold cv at h
  unfold m2 isnew
  obtain ⟨h1, h2, h3⟩ := lk_spec (lt := lt) (c := c) (m := m)
  split at h
  · rename_i e; simp [e]; omega
  · split at h
    · rename_i e; simp [e]; omega
    · split at h
      · cases h
      · rename_i a b d
        by_cases e : lk lt c m = m
        · simp [a, b, e]; omega
        · simp [e]; omega
theorem prun_inv {tx : Nat → Nat} (htx : ∀ i, tx i < 2 ^ 20) : ∀ k wi hi row all cl m lt fa, prun tx k = .inr (wi, hi, row, all, cl, m, lt, fa) → PIN k wi hi row all cl m lt fa := by
  intro k
  induction k with
  | zero =>
    intro wi hi row all cl m lt fa h
    cases h
    exact ⟨by omega, by omega, by omega, by omega, by omega, fun h => absurd h (Nat.lt_irrefl 0), by omega, by omega, fun b h => absurd h (Nat.not_lt_zero b), fun b h => absurd h (Nat.not_lt_zero b), fun b h => absurd h (Nat.not_lt_zero b)⟩
  | succ k ih =>
    intro wi hi row all cl m lt fa h
    cases h1 : prun tx k with
    | inl e =>
      have h2 : pnext (tx k) k (prun tx k) = .inr (wi, hi, row, all, cl, m, lt, fa) := h
      rw [h1] at h2
      cases h2
    | inr s =>
      obtain ⟨wi0, hi0, row0, all0, cl0, m0, lt0, fa0⟩ := s
      obtain ⟨p1, p2, p3, p4, p5, p6, p7, p8, p9, p10, p11⟩ := ih _ _ _ _ _ _ _ _ h1
      cases hs : pstep (tx k) k wi0 hi0 row0 all0 cl0 m0 lt0 fa0 with
      | none =>
        rw [prun_n h1 hs (k + 1) (by omega)] at h
        cases h
      | some s' =>
        rw [prun_s h1 hs] at h
        cases h
        unfold pstep at hs
        by_cases hbr : tx k = 47
        · rw [if_pos hbr] at hs
          by_cases hbar : row0 = 0 ∨ (0 < hi0 ∧ row0 < wi0) ∨ hi0 = 5
          · rw [if_pos hbar] at hs; cases hs
          · rw [if_neg hbar] at hs
            cases hs
            have e1 : 0 < hi0 → wi = wi0 := fun h => by have := (p6 h).2; omega
            refine ⟨by omega, by omega, by omega, by omega, ?_, fun _ => ⟨by omega, by omega⟩, by omega, p8, p9, p10, fun b hb => ?_⟩
            · rw [Nat.add_mul, Nat.one_mul, Nat.add_zero, p5]
              by_cases h0 : hi0 = 0
              · subst h0; omega
              · rw [e1 (by omega)]
            · obtain ⟨i, q1, q2, q3, q4, q5⟩ := p11 b hb
              refine ⟨i, q1, q2, q3, fun h => by omega, fun _ => ?_⟩
              by_cases h0 : hi0 = 0
              · rw [q4 h0]
                have : i < wi := by subst h0; omega
                rw [Nat.div_eq_of_lt this]; omega
              · rw [q5 (by omega), e1 (by omega)]
        · rw [if_neg hbr] at hs
          by_cases hn2 : ¬ (tx k = 46 ∨ tx k = 35 ∨ (97 ≤ tx k ∧ tx k ≤ 122)) ∨ row0 = (if hi0 = 0 then 6 else wi0) ∨ all0 = 24
          · rw [if_pos hn2] at hs; cases hs
          · rw [if_neg hn2] at hs
            cases hcv : cv lt0 m0 (tx k) with
            | none => rw [hcv] at hs; cases hs
            | some v =>
              rw [hcv] at hs
              cases hs
              have hv := cv_some p8 v hcv
              have hm7 := cv_none7 p8 hcv
              have hlim : row0 ≠ (if hi = 0 then 6 else wi) := fun e => hn2 (Or.inr (Or.inl e))
              have hall : all0 ≠ 24 := fun e => hn2 (Or.inr (Or.inr e))
              have hrow : (hi = 0 → row0 < 6) ∧ (0 < hi → row0 < wi) := by
                constructor
                · intro h0; rw [if_pos h0] at hlim; omega
                · intro h0; rw [if_neg (by omega)] at hlim; have := (p6 h0).2; omega
              have hmge : m0 ≤ m2 lt0 m0 (tx k) := by unfold m2; split <;> omega
              refine ⟨by
                by_cases h0 : hi = 0
                · have := hrow.1 h0; omega
                · have := hrow.2 (by omega); omega, p2, p3, by omega, by omega, fun h0 => ⟨(p6 h0).1, hrow.2 h0⟩, by omega, hm7, fun b hb => ?_, fun i hi' => ?_, fun b hb => ?_⟩
              · unfold lt2
                unfold m2 at hb
                split at hb
                · rename_i e
                  rw [if_pos e]
                  by_cases e2 : b = m0
                  · subst e2; rw [up_eq]; exact htx k
                  · rw [up_ne lt0 e2]; exact p9 b (by omega)
                · rename_i e
                  rw [if_neg e]; exact p9 b hb
              · unfold va_up
                split
                · exact hv
                · have := p10 i (by omega); omega
              · by_cases hbm : b < m0
                · obtain ⟨i, q1, q2, q3, q4, q5⟩ := p11 b hbm
                  have ef : fa2 lt0 m0 (tx k) fa0 k b = fa0 b := by
                    unfold fa2; split
                    · rw [up_ne fa0 (by omega)]
                    · rfl
                  exact ⟨i, by omega, by rw [up_ne cl0 (by omega)]; exact q2, fun j hj => by rw [up_ne cl0 (by omega)]; exact q3 j hj, fun h => by rw [ef]; exact q4 h, fun h => by rw [ef]; exact q5 h⟩
                · have hnew : isnew lt0 m0 (tx k) = true := by
                    unfold m2 at hb
                    split at hb
                    · assumption
                    · omega
                  have hbe : b = m0 := by
                    unfold m2 at hb
                    rw [if_pos hnew] at hb; omega
                  subst hbe
                  have hv2 : v = 2 + b := by
                    have hnew2 := hnew
                    unfold isnew at hnew2
                    simp only [Bool.and_eq_true, decide_eq_true_eq] at hnew2
                    obtain ⟨⟨a1, a2⟩, a3⟩ := hnew2
                    unfold cv at hcv
                    rw [if_neg a1, if_neg a2] at hcv
                    split at hcv
                    · cases hcv
                    · cases hcv; rw [a3]
                  have ef : fa2 lt0 b (tx k) fa0 k b = k := by unfold fa2; rw [if_pos hnew, up_eq]
                  refine ⟨all0, by omega, by rw [up_eq]; exact hv2, fun j hj => ?_, fun h => by rw [ef]; omega, fun h => ?_⟩
                  · rw [up_ne cl0 (by omega)]
                    have := p10 j hj; omega
                  · rw [ef]
                    have hr := hrow.2 h
                    have : all0 / wi = hi := by
                      rw [p5, Nat.mul_comm, Nat.mul_add_div (by omega), Nat.div_eq_of_lt hr, Nat.add_zero]
                    rw [this]; omega
def LAYD (tx : Nat → Nat) (n : Nat) (r : Int32) (wi hi wa le : Nat) (L H I : Nat → Nat) : Prop := (∃ e, e ≤ n ∧ pall tx n = .inl e ∧ r = nI e ∧ le ≤ 7) ∨ ∃ all cl m lt fa, pall tx n = .inr (wi, hi, 0, all, cl, m, lt, fa) ∧ r = -1 ∧ MRel cl all m lt fa wa le L H I ∧ 1 ≤ wi ∧ wi ≤ 6 ∧ 1 ≤ hi ∧ hi ≤ 6 ∧ all = hi * wi ∧ all ≤ 24 ∧ ∀ b, b < m → ∃ i, i < all ∧ cl i = 2 + b ∧ (∀ j, j < i → cl j ≠ 2 + b) ∧ fa b = i + i / wi
theorem lay_bad {tx : Nat → Nat} {k n : Nat} (h : prun tx n = .inl k) : pall tx n = .inl k := by unfold pall; rw [h]; rfl
theorem lay_end {tx : Nat → Nat} {n wi hi row all m : Nat} {cl lt fa : Nat → Nat} (h : prun tx n = .inr (wi, hi, row, all, cl, m, lt, fa)) : pall tx n = if row = 0 ∨ (0 < hi ∧ row < wi) then .inl n else .inr (row, hi + 1, 0, all, cl, m, lt, fa) := by unfold pall; rw [h]; rfl
theorem dec_in {c a b : Nat} (hc : c < 2 ^ 31) (ha : a < 2 ^ 31) (hb : b < 2 ^ 31) : (decide (nI a ≤ nI c) && decide (nI c ≤ nI b)) = true ↔ a ≤ c ∧ c ≤ b := by
  rw [Bool.and_eq_true, decide_eq_true_eq, decide_eq_true_eq, nI_leI ha hc, nI_leI hc hb]
theorem PIN_end {k wi hi row all m : Nat} {cl lt fa : Nat → Nat} (h : PIN k wi hi row all cl m lt fa) (h0 : row ≠ 0) (h1 : ¬ (0 < hi ∧ row < wi)) : ∀ b, b < m → ∃ i, i < all ∧ cl i = 2 + b ∧ (∀ j, j < i → cl j ≠ 2 + b) ∧ fa b = i + i / row := by
  obtain ⟨p1, p2, p3, p4, p5, p6, p7, p8, p9, p10, p11⟩ := h
  intro b hb
  obtain ⟨i, q1, q2, q3, q4, q5⟩ := p11 b hb
  refine ⟨i, q1, q2, q3, ?_⟩
  by_cases e : hi = 0
  · rw [q4 e]
    have : i < row := by subst e; omega
    rw [Nat.div_eq_of_lt this]; omega
  · rw [q5 (by omega), show row = wi by have := (p6 (by omega)).2; omega]
