/-- the set with the neighbours of its cells, cell by cell -/
def spr1 (wd i : Nat) : Nat := if 0 < i % wd then 1 <<< (i - 1) else 0
def spr2 (wd i : Nat) : Nat := if i % wd < wd - 1 then 1 <<< (i + 1) else 0
def spr3 (wd i : Nat) : Nat := if wd ≤ i then 1 <<< (i - wd) else 0
def spr4 (wd hd i : Nat) : Nat := if i + wd < wd * hd then 1 <<< (i + wd) else 0
def spr (wd hd s : Nat) : Nat → Nat
  | 0 => s
  | i + 1 => if s.testBit i then (((spr wd hd s i ||| spr1 wd i) ||| spr2 wd i) ||| spr3 wd i) ||| spr4 wd hd i else spr wd hd s i
theorem spr_t {wd hd s i : Nat} (h : (s >>> i) &&& 1 = 1) : (((spr wd hd s i ||| spr1 wd i) ||| spr2 wd i) ||| spr3 wd i) ||| spr4 wd hd i = spr wd hd s (i + 1) := by
  show _ = if s.testBit i then _ else _; rw [if_pos (bit_1.mp h)]
theorem spr_f {wd hd s i : Nat} (h : ¬ (s >>> i) &&& 1 = 1) : spr wd hd s i = spr wd hd s (i + 1) := by
  show _ = if s.testBit i then _ else _; rw [if_neg (fun h2 => h (bit_1.mpr h2))]
theorem mod_pos {i w : Nat} (h : ¬ i % w = 0) : 0 < i := Nat.pos_of_ne_zero (fun e => h (by rw [e]; exact Nat.zero_mod w))
theorem or_lt24 {a b n : Nat} (ha : a < 2 ^ n) (hb : b < 2 ^ n) : a ||| b < 2 ^ n := Nat.or_lt_two_pow ha hb
theorem shl_lt24 {i n : Nat} (h : i < n) : 1 <<< i < 2 ^ n := by rw [Nat.one_shiftLeft]; exact Nat.pow_lt_pow_right (by decide) h
theorem spr_lt {wd hd s n : Nat} (hs : s < 2 ^ n) (hn : wd * hd ≤ n) : ∀ {i}, i ≤ wd * hd → spr wd hd s i < 2 ^ n := by
  intro i
  induction i with
  | zero => intro _; exact hs
  | succ i ih =>
    intro h
    have h0 : 0 < 2 ^ n := Nat.two_pow_pos n
    show (if s.testBit i then _ else _) < _
    have hm : i % wd < wd - 1 → i + 1 < wd * hd := fun h1 => by
      by_cases e : i + 1 = wd * hd
      · exfalso
        have h2 : (i + 1) % wd = 0 := by rw [e]; exact Nat.mul_mod_right wd hd
        have h3 : (i + 1) % wd = i % wd + 1 := by
          rw [Nat.add_mod]
          by_cases hw : wd = 1
          · subst hw; omega
          · rw [Nat.mod_eq_of_lt (a := 1) (by omega), Nat.mod_eq_of_lt (by omega)]
        omega
      · omega
    split
    · refine or_lt24 (or_lt24 (or_lt24 (or_lt24 (ih (by omega)) ?_) ?_) ?_) ?_
      · unfold spr1; split
        · exact shl_lt24 (by omega)
        · exact h0
      · unfold spr2; split
        · rename_i e; have := hm e; exact shl_lt24 (by omega)
        · exact h0
      · unfold spr3; split
        · exact shl_lt24 (by omega)
        · exact h0
      · unfold spr4; split
        · exact shl_lt24 (by omega)
        · exact h0
    · exact ih (by omega)
/-- the lowest cell of a set, as a set -/
def lob (g : Nat) : Nat := (nI g &&& -nI g).toBitVec.toNat
theorem lob_eq (g : Nat) : nI (lob g) = nI g &&& -nI g := nI_inj32 (by rw [nI_tn]; exact Nat.mod_eq_of_lt (BitVec.isLt _))
theorem lob_le {g : Nat} (h : g < 2 ^ 31) : lob g ≤ g := by
  show ((nI g).toBitVec &&& (-nI g).toBitVec).toNat ≤ g
  rw [BitVec.toNat_and, nI_tn, Nat.mod_eq_of_lt (by omega)]
  exact Nat.and_le_left
/-- grown from its lowest cell inside the set -/
def grow (wd hd g : Nat) : Nat → Nat
  | 0 => lob g
  | i + 1 => spr wd hd (grow wd hd g i) (wd * hd) &&& g
theorem grow_le {wd hd g : Nat} (h : g < 2 ^ 31) : ∀ i, grow wd hd g i ≤ g
  | 0 => lob_le h
  | _ + 1 => Nat.and_le_right
def isone (wd hd g : Nat) : Bool := decide (grow wd hd g 24 = g)
/-- what the loop over the letters knows: r the first wrong place so far -/
def WRI (tx : Nat → Nat) (n i : Nat) (r : Int32) (wi hi wa le : Nat) (L H I : Nat → Nat) : Prop := (∃ e, e ≤ n ∧ pall tx n = .inl e ∧ r = nI e ∧ le ≤ 7) ∨
  ∃ all cl m lt fa, pall tx n = .inr (wi, hi, 0, all, cl, m, lt, fa) ∧ MRel cl all m lt fa wa le L H I ∧ 1 ≤ wi ∧ wi ≤ 6 ∧ 1 ≤ hi ∧ hi ≤ 6 ∧ all = hi * wi ∧ all ≤ 24 ∧ (∀ b, b < m → ∃ i, i < all ∧ cl i = 2 + b ∧ (∀ j, j < i → cl j ≠ 2 + b) ∧ fa b = i + i / wi) ∧
    ((r = -1 ∧ ∀ j, j < i → isone wi hi (bset cl (2 + j) all) = true) ∨ ∃ b, b < m ∧ (∀ j, j < b → isone wi hi (bset cl (2 + j) all) = true) ∧ isone wi hi (bset cl (2 + b) all) = false ∧ r = nI (fa b))
theorem WRI_0 {tx : Nat → Nat} {n wi hi wa le : Nat} {r : Int32} {L H I : Nat → Nat} (h : LAYD tx n r wi hi wa le L H I) : WRI tx n 0 r wi hi wa le L H I := by
  rcases h with h | ⟨all, cl, m, lt, fa, h1, h2, h3, h4, h5, h6, h7, h8, h9, h10⟩
  · exact Or.inl h
  · exact Or.inr ⟨all, cl, m, lt, fa, h1, h3, h4, h5, h6, h7, h8, h9, h10, Or.inl ⟨h2, fun j hj => absurd hj (Nat.not_lt_zero j)⟩⟩
/-- inside the loop: the text is right so far -/
def WRJ (tx : Nat → Nat) (n i : Nat) (r : Int32) (wi hi wa le : Nat) (L H I : Nat → Nat) : Prop := ∃ all cl m lt fa, pall tx n = .inr (wi, hi, 0, all, cl, m, lt, fa) ∧ MRel cl all m lt fa wa le L H I ∧ 1 ≤ wi ∧ wi ≤ 6 ∧ 1 ≤ hi ∧ hi ≤ 6 ∧ all = hi * wi ∧ all ≤ 24 ∧ (∀ b, b < m → ∃ i, i < all ∧ cl i = 2 + b ∧ (∀ j, j < i → cl j ≠ 2 + b) ∧ fa b = i + i / wi) ∧ r = -1 ∧ ∀ j, j < i → isone wi hi (bset cl (2 + j) all) = true
theorem WRI_neg {tx : Nat → Nat} {n i wi hi wa le : Nat} {r : Int32} {L H I : Nat → Nat} (hn : n < 2 ^ 20) (h : WRI tx n i r wi hi wa le L H I) (hr : r < 0) : WRJ tx n i r wi hi wa le L H I := by
  have hneg : ∀ x, x < 2 ^ 31 → ¬ nI x < 0 := fun x hx h => by
    have h2 : nI x < nI 0 := h
    rw [nI_ltI hx (by decide)] at h2; omega
  rcases h with ⟨e, h1, h2, h3, -⟩ | ⟨all, cl, m, lt, fa, h1, h3, h4, h5, h6, h7, h8, h9, h10, h11⟩
  · rw [h3] at hr; exact absurd hr (hneg e (by omega))
  · rcases h11 with h11 | ⟨b, g1, g2, g3, g4⟩
    · exact ⟨all, cl, m, lt, fa, h1, h3, h4, h5, h6, h7, h8, h9, h10, h11⟩
    · obtain ⟨i, q1, q2, q3, q4⟩ := h10 b g1
      have : i / wi ≤ i := Nat.div_le_self i wi
      rw [g4] at hr; exact absurd hr (hneg _ (by omega))
theorem WRJ_y {tx : Nat → Nat} {n i wi hi wa le : Nat} {r : Int32} {L H I : Nat → Nat} (h : WRJ tx n i r wi hi wa le L H I) (hi9 : i < le) (h1 : isone wi hi (H i) = true) : WRI tx n (i + 1) r wi hi wa le L H I := by
  obtain ⟨all, cl, m, lt, fa, g1, g3, g4, g5, g6, g7, g8, g9, g10, g11, g12⟩ := h
  refine Or.inr ⟨all, cl, m, lt, fa, g1, g3, g4, g5, g6, g7, g8, g9, g10, Or.inl ⟨g11, lt_s g12 ?_⟩⟩
  have := (g3.2.2.2.2 i (by rw [← g3.2.1]; exact hi9)).2.1
  rw [← this]; exact h1
theorem WRJ_n {tx : Nat → Nat} {n i wi hi wa le : Nat} {r : Int32} {L H I : Nat → Nat} (h : WRJ tx n i r wi hi wa le L H I) (hi9 : i < le) (h1 : isone wi hi (H i) = false) : WRI tx n (i + 1) (nI (I i)) wi hi wa le L H I := by
  obtain ⟨all, cl, m, lt, fa, g1, g3, g4, g5, g6, g7, g8, g9, g10, g11, g12⟩ := h
  have h9 := g3.2.2.2.2 i (by rw [← g3.2.1]; exact hi9)
  exact Or.inr ⟨all, cl, m, lt, fa, g1, g3, g4, g5, g6, g7, g8, g9, g10, Or.inr ⟨i, by rw [← g3.2.1]; exact hi9, g12, by rw [← h9.2.1]; exact h1, by rw [h9.2.2]⟩⟩
theorem WRJ_b {tx : Nat → Nat} {n i wi hi wa le : Nat} {r : Int32} {L H I : Nat → Nat} (h : WRJ tx n i r wi hi wa le L H I) (hi9 : i < le) : le ≤ 7 ∧ H i < 2 ^ (wi * hi) ∧ H i < 2 ^ 24 ∧ 1 ≤ wi ∧ wi ≤ 6 ∧ wi * hi ≤ 24 ∧ hi ≤ 6 := by
  obtain ⟨all, cl, m, lt, fa, g1, g3, g4, g5, g6, g7, g8, g9, g10, g11, g12⟩ := h
  have h9 := (g3.2.2.2.2 i (by rw [← g3.2.1]; exact hi9)).2.1
  have e : all = wi * hi := by rw [g8, Nat.mul_comm]
  have h2 : H i < 2 ^ (wi * hi) := by rw [h9, ← e]; exact bset_lt
  have h3 : 2 ^ (wi * hi) ≤ 2 ^ 24 := Nat.pow_le_pow_right (by decide) (by omega)
  exact ⟨by rw [g3.2.1]; exact g3.2.2.1, h2, Nat.lt_of_lt_of_le h2 h3, g4, g5, by omega, g7⟩
theorem WRI_le {tx : Nat → Nat} {n i wi hi wa le : Nat} {r : Int32} {L H I : Nat → Nat} (h : WRI tx n i r wi hi wa le L H I) : le ≤ 7 := by
  rcases h with ⟨e, h1, h2, h3, h4⟩ | ⟨all, cl, m, lt, fa, h1, h3, h4⟩
  · exact h4
  · rw [h3.2.1]; exact h3.2.2.1
theorem WRI_end {tx : Nat → Nat} {n i wi hi wa le : Nat} {r : Int32} {L H I : Nat → Nat} (h : WRI tx n i r wi hi wa le L H I) (he : le ≤ i ∨ ¬ r < 0) : WRI tx n le r wi hi wa le L H I := by
  rcases h with h | ⟨all, cl, m, lt, fa, h1, h3, h4, h5, h6, h7, h8, h9, h10, h11⟩
  · exact Or.inl h
  · refine Or.inr ⟨all, cl, m, lt, fa, h1, h3, h4, h5, h6, h7, h8, h9, h10, ?_⟩
    rcases h11 with ⟨h11, h12⟩ | h11
    · refine Or.inl ⟨h11, fun j hj => ?_⟩
      rcases he with he | he
      · exact h12 j (by omega)
      · rw [h11] at he; exact absurd (by decide) he
    · exact Or.inr h11
