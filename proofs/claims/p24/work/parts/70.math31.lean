theorem okmv_no {nb : Nat} {fl : Nat → Nat → Option Nat} {z : Bool} {k0 : Nat} {F : Nat → Option Nat} {b q : Nat} (h : okmv nb fl z k0 F b q) {e : Nat} (h0 : F k0 = some e) (w : Nat) (h1 : F (wth k0 b q) = some w) : w = e - 1 ∧ 1 ≤ e := by
  obtain ⟨-, -, d, h2, h3⟩ := h
  rw [h1] at h2; cases h2
  rw [h0] at h3; cases h3
  omega
theorem hin_none {wd hd nb wl : Nat} {sh bw bh ps : Nat → Nat} {gl aq : Option Nat} {z : Bool} {r : Int32} (hr : r < 0) (h : f_hintx wd hd nb wl sh bw bh ps gl aq z = .inl r) : HIN2 wd hd nb wl sh bw bh ps gl aq z r :=
  ⟨by rw [h]; rfl, Or.inl ⟨hr, fun p q => by rw [h] at q; cases q⟩⟩
theorem hin_no {wd hd nb wl : Nat} {sh bw bh ps : Nat → Nat} {gl aq : Option Nat} {z : Bool} (h : f_hintx wd hd nb wl sh bw bh ps gl aq z = .inr none) : HIN2 wd hd nb wl sh bw bh ps gl aq z (-9) :=
  ⟨by rw [h]; rfl, Or.inl ⟨by decide, fun p q => by rw [h] at q; cases q⟩⟩
theorem fol2_none {wd hd nb wl : Nat} {sh bw bh ps : Nat → Nat} {gl aq : Option Nat} {z : Bool} {r : Int32} (h : HIN2 wd hd nb wl sh bw bh ps gl aq z r) (hn : nb ≤ 7) (hr : r < 0) : f_folm wd hd nb wl sh bw bh ps gl aq z = none := by
  rcases h.2 with ⟨-, h2⟩ | ⟨b, q, d, e, h2, h3, h4, -⟩
  · unfold f_folm
    split
    · rename_i b q hq; exact absurd hq (h2 (b, q))
    · rfl
  · have h5 := h.1
    rw [h2] at h5
    rw [h5] at hr
    exact absurd hr (nI_pos (show 100 * b + q < 2 ^ 31 by omega))
theorem fol2_some {wd hd nb wl : Nat} {sh bw bh ps : Nat → Nat} {gl aq : Option Nat} {z : Bool} {r : Int32} (h : HIN2 wd hd nb wl sh bw bh ps gl aq z r) (hr : ¬ r < 0) : ∃ b q d e, f_hintx wd hd nb wl sh bw bh ps gl aq z = .inr (some (b, q)) ∧ r = nI (100 * b + q) ∧ b < nb ∧ q < 24 ∧ flo wd hd nb wl sh bw bh none (pkey ps nb) b q = some d ∧ d < 24 ∧ e < 2000 ∧ f_dist (kst wd hd nb wl sh bw bh none) (mvk wd hd nb wl sh bw bh none z) gl aq (pkey ps nb) = nI (e + 1) ∧ f_dist (kst wd hd nb wl sh bw bh none) (mvk wd hd nb wl sh bw bh none z) gl aq (wth (pkey ps nb) b q) = nI e := by
  rcases h.2 with ⟨h2, -⟩ | ⟨b, q, d, e, h2, h3⟩
  · exact absurd h2 hr
  · exact ⟨b, q, d, e, h2, by rw [h.1, h2]; rfl, h3⟩
theorem flo_24 {wd hd nb wl : Nat} {sh bw bh : Nat → Nat} {rm : Option Nat} {k b q d : Nat} (hf : FrV wd hd nb wl sh bw bh) (hk : KV wd hd nb wl sh bw bh rm k) (hb : b < nb) (h : flo wd hd nb wl sh bw bh rm k b q = some d) (hg : rm ≠ some b := by exact fun h => by cases h) : d < 24 := by
  have hF := flo_ld wd hd nb wl sh bw bh rm k b
  · have hpl := fl_pl hf hk hb hg hF
    have ex : ∀ d p, flo wd hd nb wl sh bw bh rm k b p = some d → ∀ i, i ≤ d → ∃ q, flo wd hd nb wl sh bw bh rm k b q = some i := by
      intro d
      induction d with
      | zero => intro p hp i hi; exact ⟨p, by rw [hp, Nat.le_zero.mp hi]⟩
      | succ d ih =>
        intro p hp i hi
        by_cases e : i = d + 1
        · exact ⟨p, by rw [e]; exact hp⟩
        · obtain ⟨q, hq, -⟩ := hF.2.2.1 p d hp
          exact ih q hq i (by omega)
    have ex2 := ex d q h
    refine Nat.lt_of_not_le (fun hle => ?_)
    have ch : ∀ i, ∃ q, i ≤ d → flo wd hd nb wl sh bw bh rm k b q = some i := fun i => by
      by_cases hi : i ≤ d
      · obtain ⟨q, hq⟩ := ex2 i hi; exact ⟨q, fun _ => hq⟩
      · exact ⟨0, fun h => absurd h hi⟩
    obtain ⟨g, hg9⟩ := Classical.axiomOfChoice ch
    obtain ⟨i, j, hij, hj, he⟩ := pigeon 24 (d + 1) g (by omega) (fun i hi => (hpl _ _ (hg9 i (by omega))).2)
    have h1 := hg9 i (by omega)
    have h2 := hg9 j (by omega)
    rw [he, h2] at h1
    have := Option.some.inj h1
    omega
