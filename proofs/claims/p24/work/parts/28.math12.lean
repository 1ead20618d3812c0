section FO
variable {wd hd nb wl : Nat} {sh bw bh ps : Nat → Nat} {gl aq : Option Nat} {z : Bool} {r : Int32} {F fa : Nat → Option Nat}
theorem fol_some (h : HIN wd hd nb wl sh bw bh ps gl aq z r F fa) (hr : ¬ r < 0) : ∃ b q, f_hintx wd hd nb wl sh bw bh ps gl aq z = .inr (some (b, q)) ∧ b < nb ∧ q < wd * hd ∧ isMv z (fa q) = true ∧ fa = flo wd hd nb wl sh bw bh none (pkey ps nb) b ∧ (∀ d, fa q = some d → d < 24) ∧ ∃ d, d < 2000 ∧ F 0 = some (d + 1) ∧ f_dist (kst wd hd nb wl sh bw bh none) (mvk wd hd nb wl sh bw bh none z) gl aq (pkey ps nb) = nI (d + 1) := by
  rcases h.2 with ⟨h1, -⟩ | h1
  · exact absurd h1 hr
  · exact h1
theorem fol_none (h : HIN wd hd nb wl sh bw bh ps gl aq z r F fa) (hn : nb ≤ 7) (h24 : wd * hd ≤ 24) (hr : r < 0) : f_folm wd hd nb wl sh bw bh ps gl aq z = none := by
  rcases h.2 with ⟨-, h1⟩ | ⟨b, q, h1, h2, h3, -⟩
  · unfold f_folm
    cases h2 : f_hintx wd hd nb wl sh bw bh ps gl aq z with
    | inl r' => rfl
    | inr o => cases o with
      | none => rfl
      | some p => exact absurd h2 (h1 p)
  · rw [h.1, h1] at hr
    exact absurd hr (nI_pos (by omega))
theorem fol_r (h : f_folm wd hd nb wl sh bw bh ps gl aq z = none) : -2 = f_folr wd hd nb wl sh bw bh ps gl aq z := by
  unfold f_folm at h
  unfold f_folr
  cases h2 : f_hintx wd hd nb wl sh bw bh ps gl aq z with
  | inl r' => rfl
  | inr o => cases o with
    | none => rfl
    | some p => rw [h2] at h; obtain ⟨b, q⟩ := p; cases h
end FO
theorem HB_skip {K : Nat → Nat} {F : Nat → Option Nat} {mx i : Nat} {bs : Option Nat} (h : HB K F mx bs i) (hn : F i ≠ some mx) : HB K F mx bs (i + 1) := by
  cases bs with
  | none => exact lt_s h hn
  | some b => exact ⟨by have := h.1; omega, h.2.1, lt_s h.2.2 (fun h2 => absurd h2 hn)⟩
theorem HB_first {K : Nat → Nat} {F : Nat → Option Nat} {mx i : Nat} (h : HB K F mx none i) (hn : F i = some mx) : HB K F mx (some i) (i + 1) :=
  ⟨by omega, hn, lt_s (fun j hj h2 => absurd h2 (h j hj)) (fun _ => Nat.le_refl _)⟩
theorem HB_less {K : Nat → Nat} {F : Nat → Option Nat} {mx i b : Nat} {bs : Option Nat} (h : HB K F mx bs i) (hn : F i = some mx) (hb : bs = some b) (hl : K i < K b) : HB K F mx (some i) (i + 1) := by
  subst hb
  exact ⟨by omega, hn, lt_s (fun j hj h2 => by have := h.2.2 j hj h2; omega) (fun _ => Nat.le_refl _)⟩
theorem HB_keep {K : Nat → Nat} {F : Nat → Option Nat} {mx i b : Nat} {bs : Option Nat} (h : HB K F mx bs i) (hb : bs = some b) (hl : K b ≤ K i) : HB K F mx bs (i + 1) := by
  subst hb
  exact ⟨by have := h.1; omega, h.2.1, lt_s h.2.2 (fun _ => hl)⟩
theorem HB_some {K : Nat → Nat} {F : Nat → Option Nat} {mx n : Nat} {bs : Option Nat} (h : HB K F mx bs n) (h2 : ∃ i, i < n ∧ F i = some mx) : ∃ b, bs = some b ∧ b < n ∧ F b = some mx ∧ ∀ i, i < n → F i = some mx → K b ≤ K i := by
  cases bs with
  | none =>
    obtain ⟨i, hi, he⟩ := h2
    exact absurd he (h i hi)
  | some b => exact ⟨b, rfl, h.1, h.2.1, h.2.2⟩
