/-! ===== what `greatest' leaves ===== -/
def GRF (wd hd nb wl : Nat) (sh bw bh : Nat → Nat) (rm : Option Nat) (k0 : Nat) (z : Bool) (gl aq : Option Nat) (K : Nat → Nat) (n : Nat) (P T : Nat → Nat) (tm : Bool) (F : Nat → Option Nat) (su : Nat) (gr : Option Nat) (r : Int32) : Prop :=
  (gl = none ∧ r = -2) ∨ ∃ g ap, gl = some g ∧ aq = some ap ∧ SPC wd hd nb wl sh bw bh rm k0 K n P T tm ∧ ((tm = true ∧ r = -3) ∨ (tm = false ∧ r = gI gr ∧ DVX wd hd nb wl sh bw bh rm z K n g ap F su gr))
def GRG (wd hd nb wl : Nat) (sh bw bh : Nat → Nat) (rm : Option Nat) (k0 : Nat) (z : Bool) (gl aq : Option Nat) (K : Nat → Nat) (n : Nat) (P T : Nat → Nat) (F : Nat → Option Nat) (su d : Nat) : Prop :=
  ∃ g ap, gl = some g ∧ aq = some ap ∧ SPC wd hd nb wl sh bw bh rm k0 K n P T false ∧ DVX wd hd nb wl sh bw bh rm z K n g ap F su (some d) ∧ d < 2000 ∧ (∀ i, i < n → ∃ e, F i = some e ∧ e < 2000) ∧ KD (kst wd hd nb wl sh bw bh rm) (mvk wd hd nb wl sh bw bh rm z) (fun x => plc x g = ap) k0 (keyF K n (cF n F)) ∧ (∃ x, keyF K n (cF n F) x ≠ none) ∧ ∀ i e, F i = some e → e ≤ d
section GR
variable {wd hd nb wl : Nat} {sh bw bh : Nat → Nat} {rm : Option Nat} {k0 : Nat} {z : Bool} {gl aq : Option Nat} {K : Nat → Nat} {n : Nat} {P T : Nat → Nat} {tm : Bool} {F : Nat → Option Nat} {su : Nat} {gr : Option Nat} {r : Int32} {d : Nat}
theorem DV_kd {g ap : Nat} (hf : FrV wd hd nb wl sh bw bh) (hs : SPC wd hd nb wl sh bw bh rm k0 K n P T false) (hD : DVX wd hd nb wl sh bw bh rm z K n g ap F su gr) : KD (kst wd hd nb wl sh bw bh rm) (mvk wd hd nb wl sh bw bh rm z) (fun x => plc x g = ap) k0 (keyF K n (cF n F)) := by
  obtain ⟨s1, s2, s3, s4, -, s6⟩ := hs
  obtain ⟨s7, s8, s9⟩ := s6 rfl
  exact KD_of s7 (fun i hi x hx => mvk_has hf (s4 i hi).2 s8 ⟨i, hi, rfl⟩ hx) hD.1 (fun i d h => (cF_some h).1)
theorem GRF_neg {α : Type} {big non : α} {Rr : (Nat → Nat) → Nat → (Nat → Option Nat) → α → Prop} (hf : FrV wd hd nb wl sh bw bh) (h : GRF wd hd nb wl sh bw bh rm k0 z gl aq K n P T tm F su gr r) (hr : r < 0) :
    (gl = none ∧ r = -2) ∨ ∃ g ap, gl = some g ∧ aq = some ap ∧ ((r = -3 ∧ sp_d (kst wd hd nb wl sh bw bh rm) (mvk wd hd nb wl sh bw bh rm z) (fun x => plc x g = ap) k0 big non Rr big) ∨ (r = -9 ∧ sp_d (kst wd hd nb wl sh bw bh rm) (mvk wd hd nb wl sh bw bh rm z) (fun x => plc x g = ap) k0 big non Rr non)) := by
  rcases h with h | ⟨g, ap, h1, h2, hs, ⟨ht, h⟩ | ⟨ht, h, hD⟩⟩
  · exact Or.inl h
  · exact Or.inr ⟨g, ap, h1, h2, Or.inl ⟨h, Or.inl ⟨hs.2.2.2.2.1 ht, rfl⟩⟩⟩
  · subst ht
    have hkd := DV_kd hf hs hD
    rcases hD.2.2.2.2 with ⟨e, hn⟩ | ⟨d, e, ⟨i, hi, hF⟩, -⟩
    · refine Or.inr ⟨g, ap, h1, h2, Or.inr ⟨by rw [h, e]; rfl, Or.inr ⟨K, n, _, hs.2.1, (hs.2.2.2.2.2 rfl).1, hkd, Or.inl ⟨fun x => ?_, rfl⟩⟩⟩⟩
      cases hx : keyF K n (cF n F) x with
      | none => rfl
      | some d =>
        obtain ⟨i, hi, -, h9⟩ := keyF_some (hs.2.2.2.2.2 rfl).1.2.1 hx
        have := (cF_some h9).2
        rw [hn i] at this; cases this
    · rw [h, e] at hr
      exact absurd hr (nI_pos (by have := hD.2.2.2.1 i d hF; omega))
theorem GRF_pos (hf : FrV wd hd nb wl sh bw bh) (hk : KV wd hd nb wl sh bw bh rm k0) (h : GRF wd hd nb wl sh bw bh rm k0 z gl aq K n P T tm F su gr r) (hr : ¬ r < 0) : tm = false ∧ ∃ d, gr = some d ∧ r = nI d ∧ GRG wd hd nb wl sh bw bh rm k0 z gl aq K n P T F su d := by
  rcases h with ⟨-, h⟩ | ⟨g, ap, h1, h2, hs, ⟨ht, h⟩ | ⟨ht, h, hD⟩⟩
  · rw [h] at hr; exact absurd (by decide) hr
  · rw [h] at hr; exact absurd (by decide) hr
  · subst ht
    have hkd := DV_kd hf hs hD
    have hE := (hs.2.2.2.2.2 rfl).1
    rcases hD.2.2.2.2 with ⟨e, hn⟩ | ⟨d, e, ⟨i, hi, hF⟩, hmx⟩
    · rw [h, e] at hr; exact absurd (by decide) hr
    · have hex : ∃ x, keyF K n (cF n F) x ≠ none := ⟨K i, by rw [keyF_at hi hE.2.1, cF_lt hi, hF]; exact fun q => by cases q⟩
      refine ⟨rfl, d, e, by rw [h, e]; rfl, g, ap, h1, h2, hs, by rw [← e]; exact hD, hD.2.2.2.1 i d hF, fun j hj => ?_, hkd, hex, hmx⟩
      obtain ⟨e9, h9⟩ := KD_all hf hk hkd hex (hs.2.2.2.1 j hj).1
      rw [keyF_at hj hE.2.1, cF_lt hj] at h9
      exact ⟨e9, h9, hD.2.2.2.1 j e9 h9⟩
theorem g_dist_bad (hf : FrV wd hd nb wl sh bw bh) (h : GRF wd hd nb wl sh bw bh rm k0 z gl aq K n P T tm F su gr r) (hr : r < 0) : r = f_dist (kst wd hd nb wl sh bw bh rm) (mvk wd hd nb wl sh bw bh rm z) gl aq k0 := by
  rcases GRF_neg (α := Int32) (big := -3) (non := -9) (Rr := fun _ _ F r => rdist k0 F r) hf h hr with ⟨rfl, rfl⟩ | ⟨g, ap, rfl, rfl, ⟨rfl, h9⟩ | ⟨rfl, h9⟩⟩
  · rfl
  · exact f_dist_eq h9
  · exact f_dist_eq h9
theorem g_worst_bad (hf : FrV wd hd nb wl sh bw bh) (h : GRF wd hd nb wl sh bw bh rm k0 z gl aq K n P T tm F su gr r) (hr : r < 0) : r = f_worst (kst wd hd nb wl sh bw bh rm) (mvk wd hd nb wl sh bw bh rm z) gl aq k0 := by
  rcases GRF_neg (α := Int32) (big := -3) (non := -9) (Rr := fun _ _ F r => ∃ d, ismax F d ∧ r = nI d) hf h hr with ⟨rfl, rfl⟩ | ⟨g, ap, rfl, rfl, ⟨rfl, h9⟩ | ⟨rfl, h9⟩⟩
  · rfl
  · exact f_worst_eq h9
  · exact f_worst_eq h9
theorem g_mean_bad (hf : FrV wd hd nb wl sh bw bh) (h : GRF wd hd nb wl sh bw bh rm k0 z gl aq K n P T tm F su gr r) (hr : r < 0) : 3212836864 = f_mean (kst wd hd nb wl sh bw bh rm) (mvk wd hd nb wl sh bw bh rm z) gl aq k0 := by
  rcases GRF_neg (α := UInt32) (big := 3212836864) (non := 3212836864) (Rr := fun K n F r => r = FP.fdiv (FP.i2f (nI (sumN (fun x => (F x).getD 0) K n))) (FP.i2f (nI n))) hf h hr with ⟨rfl, rfl⟩ | ⟨g, ap, rfl, rfl, ⟨rfl, h9⟩ | ⟨rfl, h9⟩⟩
  · rfl
  · exact f_mean_eq h9
  · exact f_mean_eq h9
theorem g_hard_bad (hf : FrV wd hd nb wl sh bw bh) (h : GRF wd hd nb wl sh bw bh rm k0 z gl aq K n P T tm F su gr r) (hr : r < 0) : f_hard (kst wd hd nb wl sh bw bh rm) (mvk wd hd nb wl sh bw bh rm z) gl aq k0 = none := by
  rcases GRF_neg (α := Option Nat) (big := none) (non := none) (Rr := fun _ _ F r => ∃ x, ishard F x ∧ r = some x) hf h hr with ⟨rfl, rfl⟩ | ⟨g, ap, rfl, rfl, ⟨rfl, h9⟩ | ⟨rfl, h9⟩⟩
  · rfl
  · exact (f_hard_eq h9).symm
  · exact (f_hard_eq h9).symm
theorem g_hint_bad {fl : Nat → Nat → Option Nat} (hf : FrV wd hd nb wl sh bw bh) (h : GRF wd hd nb wl sh bw bh rm k0 z gl aq K n P T tm F su gr r) (hr : r < 0) : f_hint (kst wd hd nb wl sh bw bh rm) (mvk wd hd nb wl sh bw bh rm z) nb fl z gl aq k0 = .inl r := by
  rcases GRF_neg (α := Int32 ⊕ Option (Nat × Nat)) (big := .inl (-3)) (non := .inl (-9)) (Rr := fun _ _ F r => ∃ o, rhint nb fl z k0 F o ∧ r = .inr o) hf h hr with ⟨rfl, rfl⟩ | ⟨g, ap, rfl, rfl, ⟨rfl, h9⟩ | ⟨rfl, h9⟩⟩
  · rfl
  · exact (f_hint_eq h9).symm
  · exact (f_hint_eq h9).symm
theorem GRG_in (h : GRG wd hd nb wl sh bw bh rm k0 z gl aq K n P T F su d) : Has K n k0 ∧ TI 4096 hkC K n T ∧ n ≤ 2000 ∧ 1 ≤ n ∧ (∀ i, i < n → K i < 2 ^ 35) ∧ (∀ i d, F i = some d → d < 2000) := by
  obtain ⟨g, ap, h1, h2, hs, hD, h3, h4, h5, h6, h7⟩ := h
  exact ⟨SPC_in hs rfl Rch_0, hs.1, hs.2.1, hs.2.2.1, fun i hi => (hs.2.2.2.1 i hi).2.1, hD.2.2.2.1⟩
theorem g_dist_good {i : Nat} (h : GRG wd hd nb wl sh bw bh rm k0 z gl aq K n P T F su d) (hi : i < n) (hK : K i = k0) : oI (F i) = f_dist (kst wd hd nb wl sh bw bh rm) (mvk wd hd nb wl sh bw bh rm z) gl aq k0 := by
  obtain ⟨g, ap, rfl, rfl, hs, hD, h3, h4, h5, h6, h7⟩ := h
  have hE := (hs.2.2.2.2.2 rfl).1
  obtain ⟨e, he, -⟩ := h4 i hi
  rw [he]
  exact f_dist_eq (Or.inr ⟨K, n, _, hs.2.1, hE, h5, Or.inr ⟨h6, e, by rw [← hK, keyF_at hi hE.2.1, cF_lt hi]; exact he, rfl⟩⟩)
theorem g_max (h : GRG wd hd nb wl sh bw bh rm k0 z gl aq K n P T F su d) : ∃ i, i < n ∧ F i = some d := by
  obtain ⟨g, ap, rfl, rfl, hs, hD, h3, h4, h5, h6, h7⟩ := h
  rcases hD.2.2.2.2 with ⟨e, -⟩ | ⟨d', e, h, -⟩
  · cases e
  · cases e; exact h
theorem g_worst_good (h : GRG wd hd nb wl sh bw bh rm k0 z gl aq K n P T F su d) : nI d = f_worst (kst wd hd nb wl sh bw bh rm) (mvk wd hd nb wl sh bw bh rm z) gl aq k0 := by
  have hm := g_max h
  obtain ⟨g, ap, rfl, rfl, hs, hD, h3, h4, h5, h6, h7⟩ := h
  have hE := (hs.2.2.2.2.2 rfl).1
  exact f_worst_eq (Or.inr ⟨K, n, _, hs.2.1, hE, h5, Or.inr ⟨h6, d, key_max hE (fun i _ e he => h7 i e he) hm, rfl⟩⟩)
theorem g_mean_good (h : GRG wd hd nb wl sh bw bh rm k0 z gl aq K n P T F su d) : FP.fdiv (FP.i2f (nI su)) (FP.i2f (nI n)) = f_mean (kst wd hd nb wl sh bw bh rm) (mvk wd hd nb wl sh bw bh rm z) gl aq k0 := by
  obtain ⟨g, ap, rfl, rfl, hs, hD, h3, h4, h5, h6, h7⟩ := h
  have hE := (hs.2.2.2.2.2 rfl).1
  exact f_mean_eq (Or.inr ⟨K, n, _, hs.2.1, hE, h5, Or.inr ⟨h6, by rw [hD.2.1, sumI_N hE.2.1 n (Nat.le_refl n)]⟩⟩)
theorem g_hard_good {b : Nat} (h : GRG wd hd nb wl sh bw bh rm k0 z gl aq K n P T F su d) (hb : b < n) (h2 : F b = some d) (hm : ∀ i, i < n → F i = some d → K b ≤ K i) : f_hard (kst wd hd nb wl sh bw bh rm) (mvk wd hd nb wl sh bw bh rm z) gl aq k0 = some (K b) := by
  obtain ⟨g, ap, rfl, rfl, hs, hD, h3, h4, h5, h6, h7⟩ := h
  have hE := (hs.2.2.2.2.2 rfl).1
  refine (f_hard_eq (Or.inr ⟨K, n, _, hs.2.1, hE, h5, Or.inr ⟨h6, K b, ⟨d, key_max hE (fun i _ e he => h7 i e he) ⟨b, hb, h2⟩, by rw [keyF_at hb hE.2.1, cF_lt hb]; exact h2, fun y hy => ?_⟩, rfl⟩⟩)).symm
  obtain ⟨j, hj, rfl, h9⟩ := keyF_some hE.2.1 hy
  exact hm j hj (cF_some h9).2
theorem g_hint_good {fl : Nat → Nat → Option Nat} {o : Option (Nat × Nat)} (h : GRG wd hd nb wl sh bw bh rm k0 z gl aq K n P T F su d) (ho : rhint nb fl z k0 (keyF K n (cF n F)) o) : f_hint (kst wd hd nb wl sh bw bh rm) (mvk wd hd nb wl sh bw bh rm z) nb fl z gl aq k0 = .inr o := by
  obtain ⟨g, ap, rfl, rfl, hs, hD, h3, h4, h5, h6, h7⟩ := h
  exact (f_hint_eq (Or.inr ⟨K, n, _, hs.2.1, (hs.2.2.2.2.2 rfl).1, h5, Or.inr ⟨h6, o, ho, rfl⟩⟩)).symm
theorem g_key (h : GRG wd hd nb wl sh bw bh rm k0 z gl aq K n P T F su d) {i x : Nat} (hi : i < n) (hx : K i = x) : keyF K n (cF n F) x = F i := by
  obtain ⟨g, ap, rfl, rfl, hs, hD, h3, h4, h5, h6, h7⟩ := h
  rw [← hx, keyF_at hi (hs.2.2.2.2.2 rfl).1.2.1, cF_lt hi]
end GR
/-- what a space and its distances hold is right for the frame and the key -/
def SPI (wd hd nb wl : Nat) (sh bw bh : Nat → Nat) (rm : Option Nat) (k0 : Nat) (K : Nat → Nat) (n : Nat) (P T : Nat → Nat) (tm : Bool) (gb1 gp1 : Option Nat) (F1 : Nat → Option Nat) (su1 : Nat) (gr1 gb2 gp2 : Option Nat) (F2 : Nat → Option Nat) (su2 : Nat) (gr2 : Option Nat) : Prop :=
  SPC wd hd nb wl sh bw bh rm k0 K n P T tm ∧ (tm = false → (∀ g ap, gb1 = some g → gp1 = some ap → DVX wd hd nb wl sh bw bh rm false K n g ap F1 su1 gr1) ∧ ∀ g ap, gb2 = some g → gp2 = some ap → DVX wd hd nb wl sh bw bh rm true K n g ap F2 su2 gr2)
def bd20 (x : Option Nat) : Prop := ∀ d, x = some d → d < 2 ^ 20
def BD6 (sse srm gb1 gp1 gb2 gp2 : Option Nat) : Prop := bd20 sse ∧ bd20 srm ∧ bd20 gb1 ∧ bd20 gp1 ∧ bd20 gb2 ∧ bd20 gp2
theorem bd_some {d : Nat} (h : d < 2 ^ 20) : bd20 (some d) := fun e he => by cases he; exact h
theorem keyx_KV {wd hd nb wl : Nat} {sh bw bh ps : Nat → Nat} {wo : Option Nat} (hn7 : nb ≤ 7) (hps : ∀ b, b < nb → ps b < 32) (hk : KV wd hd nb wl sh bw bh none (pkey ps nb)) (hwo : ∀ d, wo = some d → d < nb) : KV wd hd nb wl sh bw bh wo (keyx ps wo nb) := by
  cases wo with
  | none => rw [keyx_none nb hn7 hps]; exact hk
  | some b => rw [keyx_some hn7 hps (hwo b rfl)]; exact KV_out hn7 (hwo b rfl) hk
