abbrev SPT : Type := Option Nat × Option Nat × (Nat → Nat) × Nat × (Nat → Nat) × (Nat → Nat) × Bool × Option Nat × Option Nat × (Nat → Option Nat) × Nat × Option Nat × Option Nat × Option Nat × (Nat → Option Nat) × Nat × Option Nat
/-- the space of a tuple is right for the reading se -/
def SVt (wd hd nb wl : Nat) (sh bw bh : Nat → Nat) (rm : Option Nat) (k0 se : Nat) : SPT → Prop
  | (sse, srm, K, n, P, T, tm, gb1, gp1, F1, su1, gr1, gb2, gp2, F2, su2, gr2) => sse = some se ∧ srm = rm ∧ SPI wd hd nb wl sh bw bh rm k0 K n P T tm gb1 gp1 F1 su1 gr1 gb2 gp2 F2 su2 gr2
def CVt (wd hd nb wl : Nat) (sh bw bh : Nat → Nat) (rm : Option Nat) (k0 se : Nat) : SPT → Prop
  | (sse, srm, K, n, P, T, tm, gb1, gp1, F1, su1, gr1, gb2, gp2, F2, su2, gr2) => sse = some se → srm = rm → SPI wd hd nb wl sh bw bh rm k0 K n P T tm gb1 gp1 F1 su1 gr1 gb2 gp2 F2 su2 gr2
section SV
variable {wd hd nb wl : Nat} {sh bw bh : Nat → Nat} {rm : Option Nat} {k0 k1 se : Nat} {t1 t2 t3 : SPT}
theorem sv_trans (h : t2 = t1 ∨ SVt wd hd nb wl sh bw bh rm k0 se t2) (h2 : t3 = t2 ∨ SVt wd hd nb wl sh bw bh rm k0 se t3) : t3 = t1 ∨ SVt wd hd nb wl sh bw bh rm k0 se t3 := by
  rcases h2 with rfl | h2
  · exact h
  · exact Or.inr h2
theorem cv_sv (h : t2 = t1 ∨ SVt wd hd nb wl sh bw bh rm k0 se t2) (hc : CVt wd hd nb wl sh bw bh rm k0 se t1) : CVt wd hd nb wl sh bw bh rm k0 se t2 := by
  rcases h with rfl | h
  · exact hc
  · obtain ⟨sse, srm, K, n, P, T, tm, gb1, gp1, F1, su1, gr1, gb2, gp2, F2, su2, gr2⟩ := t2
    exact fun _ _ => h.2.2
theorem sv_root (hf : FrV wd hd nb wl sh bw bh) (hk : KV wd hd nb wl sh bw bh rm k0) (hr : Rch (kst wd hd nb wl sh bw bh rm) k0 k1) (h : t2 = t1 ∨ SVt wd hd nb wl sh bw bh rm k0 se t2) : t2 = t1 ∨ SVt wd hd nb wl sh bw bh rm k1 se t2 := by
  rcases h with h | h
  · exact Or.inl h
  · obtain ⟨sse, srm, K, n, P, T, tm, gb1, gp1, F1, su1, gr1, gb2, gp2, F2, su2, gr2⟩ := t2
    exact Or.inr ⟨h.1, h.2.1, SPI_root hf hk hr h.2.2⟩
theorem cv_root (hf : FrV wd hd nb wl sh bw bh) (hk : KV wd hd nb wl sh bw bh rm k0) (hr : Rch (kst wd hd nb wl sh bw bh rm) k0 k1) (h : CVt wd hd nb wl sh bw bh rm k0 se t1) : CVt wd hd nb wl sh bw bh rm k1 se t1 := by
  obtain ⟨sse, srm, K, n, P, T, tm, gb1, gp1, F1, su1, gr1, gb2, gp2, F2, su2, gr2⟩ := t1
  exact fun h1 h2 => SPI_root hf hk hr (h h1 h2)
end SV
