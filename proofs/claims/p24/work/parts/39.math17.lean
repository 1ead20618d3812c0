theorem bx_geo {w j T L : Nat} (hw : 1 ≤ w) (ht : T ≤ j / w) (hl : L ≤ j % w) : T * w + L ≤ j ∧ (j - (T * w + L)) % w = j % w - L ∧ (j - (T * w + L)) / w = j / w - T := by
  have hj : w * (j / w) + j % w = j := Nat.div_add_mod j w
  have hm := Nat.mod_lt j hw
  obtain ⟨d, hd⟩ := Nat.exists_eq_add_of_le ht
  have h1 : w * (j / w) = T * w + w * d := by rw [hd, Nat.mul_add, Nat.mul_comm]
  have h2 : j - (T * w + L) = w * d + (j % w - L) := by omega
  refine ⟨by omega, ?_, ?_⟩
  · rw [h2, Nat.mul_add_mod, Nat.mod_eq_of_lt (by omega)]
  · rw [h2, Nat.mul_add_div hw, Nat.div_eq_of_lt (by omega)]; omega
/-- the place of a set: the corner of its box -/
def bxp (w hd g : Nat) : Nat := bxt w g (w * hd) * w + bxl w g (w * hd)
theorem bxp_sh {w hd g : Nat} (hw : 1 ≤ w) (h6 : w ≤ 6) (hh6 : hd ≤ 6) (hg : g < 2 ^ (w * hd)) (hne : ∃ i, g.testBit i = true) :
    ShV w hd (g >>> bxp w hd g) (bxr w g (w * hd) - bxl w g (w * hd) + 1) (bxb w g (w * hd) - bxt w g (w * hd) + 1) ∧ PlV w hd (bxr w g (w * hd) - bxl w g (w * hd) + 1) (bxb w g (w * hd) - bxt w g (w * hd) + 1) (bxp w hd g) ∧ (g >>> bxp w hd g) <<< bxp w hd g = g ∧ bxp w hd g < w * hd := by
  obtain ⟨x1, x2, x3, x4, x5, x6, x7, x8, x9⟩ := box_s hw h6 hh6 hg hne
  have hb : ∀ i, (g >>> bxp w hd g).testBit i = g.testBit (bxp w hd g + i) := fun i => Nat.testBit_shiftRight g
  have hgeo : ∀ j, g.testBit j = true → bxp w hd g ≤ j ∧ (j - bxp w hd g) % w = j % w - bxl w g (w * hd) ∧ (j - bxp w hd g) / w = j / w - bxt w g (w * hd) := fun j hj => bx_geo hw (x5 j hj).2.2.1 (x5 j hj).1
  have hex : ∀ j, g.testBit j = true → (g >>> bxp w hd g).testBit (j - bxp w hd g) = true := fun j hj => by
    rw [hb, Nat.add_sub_cancel' (hgeo j hj).1]; exact hj
  have hpm : bxp w hd g % w = bxl w g (w * hd) ∧ bxp w hd g / w = bxt w g (w * hd) := by
    unfold bxp
    rw [Nat.mul_comm, Nat.mul_add_mod, Nat.mul_add_div hw, Nat.mod_eq_of_lt (by omega), Nat.div_eq_of_lt (by omega)]
    exact ⟨rfl, rfl⟩
  refine ⟨⟨by omega, by omega, by omega, by omega, fun i hi => ?_, ?_, ?_, ?_, ?_⟩, ⟨by rw [hpm.1]; omega, by rw [hpm.2]; omega⟩, ?_, box_lt (by omega) (by omega)⟩
  · rw [hb] at hi
    have h1 := hgeo _ hi
    have h2 := x5 _ hi
    rw [Nat.add_sub_cancel_left] at h1
    omega
  · obtain ⟨j, hj, e⟩ := x8
    exact ⟨_, hex j hj, by rw [(hgeo j hj).2.2]; omega⟩
  · obtain ⟨j, hj, e⟩ := x9
    exact ⟨_, hex j hj, by rw [(hgeo j hj).2.2]; omega⟩
  · obtain ⟨j, hj, e⟩ := x6
    exact ⟨_, hex j hj, by rw [(hgeo j hj).2.1]; omega⟩
  · obtain ⟨j, hj, e⟩ := x7
    exact ⟨_, hex j hj, by rw [(hgeo j hj).2.1]; omega⟩
  · refine Nat.eq_of_testBit_eq (fun i => ?_)
    rw [Nat.testBit_shiftLeft]
    by_cases h : bxp w hd g ≤ i
    · rw [hb, Nat.add_sub_cancel' h]; simp [h]
    · cases h1 : g.testBit i with
      | true => exact absurd (hgeo i h1).1 h
      | false => simp [h]
/-- the tuple's parts of the blocks, for the sets G -/
def SHP (w hd : Nat) (G : Nat → Nat) (n : Nat) (sh bw bh ps : Nat → Nat) : Prop := ∀ b, b < n → sh b = G b >>> bxp w hd (G b) ∧ bw b = bxr w (G b) (w * hd) - bxl w (G b) (w * hd) + 1 ∧ bh b = bxb w (G b) (w * hd) - bxt w (G b) (w * hd) + 1 ∧ ps b = bxp w hd (G b)
theorem SHP_TV {w hd m wl : Nat} {cl sh bw bh ps : Nat → Nat} (hw : 1 ≤ w) (h6 : w ≤ 6) (hh1 : 1 ≤ hd) (hh6 : hd ≤ 6) (h24 : w * hd ≤ 24) (hm7 : m ≤ 7) (hwl : wl = bset cl 1 (w * hd)) (hne : ∀ b, b < m → ∃ i, i < w * hd ∧ cl i = 2 + b) (h : SHP w hd (fun b => bset cl (2 + b) (w * hd)) m sh bw bh ps) : TV w hd m wl sh bw bh ps none none none := by
  have hB : ∀ b, b < m → ShV w hd (sh b) (bw b) (bh b) ∧ PlV w hd (bw b) (bh b) (ps b) ∧ sh b <<< ps b = bset cl (2 + b) (w * hd) ∧ ps b < w * hd := fun b hb => by
    obtain ⟨e1, e2, e3, e4⟩ := h b hb
    obtain ⟨i, hi1, hi2⟩ := hne b hb
    have := bxp_sh (g := bset cl (2 + b) (w * hd)) hw h6 hh6 bset_lt ⟨i, bset_bit.mpr ⟨hi1, hi2⟩⟩
    rw [e1, e2, e3, e4]; exact this
  have hps : ∀ b, b < m → ps b < 32 := fun b hb => by have := (hB b hb).2.2.2; omega
  refine ⟨⟨hw, h6, hh1, hh6, h24, hm7, by rw [hwl]; exact bset_lt, fun b hb => (hB b hb).1⟩, hps, ⟨pkey_lt hps, fun b hb hor => ?_, fun b hb _ => ?_⟩, Or.inl ⟨rfl, rfl⟩, fun d h => by cases h⟩
  · rcases hor with h9 | h9
    · exact pkey_hi hm7 hps b h9 hb
    · cases h9
  · rw [plc_pkey hm7 hps b hb]
    refine ⟨(hB b hb).2.1, ?_, fun c hc _ hcb => ?_⟩
    · rw [(hB b hb).2.2.1, hwl]
      exact and_zero.mpr (fun i h1 h2 => by have a := (bset_bit.mp h1).2; have b := (bset_bit.mp h2).2; omega)
    · rw [plc_pkey hm7 hps c hc, (hB b hb).2.2.1, (hB c hc).2.2.1]
      exact and_zero.mpr (fun i h1 h2 => by have a := (bset_bit.mp h1).2; have b := (bset_bit.mp h2).2; omega)
/-- the text is wrong at the place e -/
def RDW (tx : Nat → Nat) (n e : Nat) : Prop := pall tx n = .inl e ∨ ∃ wi hi all cl m lt fa b, pall tx n = .inr (wi, hi, 0, all, cl, m, lt, fa) ∧ b < m ∧ (∀ j, j < b → isone wi hi (bset cl (2 + j) all) = true) ∧ isone wi hi (bset cl (2 + b) all) = false ∧ e = fa b
/-- the text is right -/
def RDR (tx : Nat → Nat) (n wi hi : Nat) (cl : Nat → Nat) (m : Nat) : Prop := 1 ≤ wi ∧ wi ≤ 6 ∧ 1 ≤ hi ∧ hi ≤ 6 ∧ wi * hi ≤ 24 ∧ m ≤ 7 ∧ (∀ b, b < m → ∃ i, i < wi * hi ∧ cl i = 2 + b) ∧ (∃ lt fa, pall tx n = .inr (wi, hi, 0, wi * hi, cl, m, lt, fa)) ∧ ∀ j, j < m → isone wi hi (bset cl (2 + j) (wi * hi)) = true
theorem WRI_wrong {tx : Nat → Nat} {n wi hi wa le : Nat} {r : Int32} {L H I : Nat → Nat} (hn : n ≤ 40) (h : WRI tx n le r wi hi wa le L H I) (hr : ¬ r < 0) : ∃ e, e < 2 ^ 20 ∧ r = nI e ∧ RDW tx n e := by
  rcases h with ⟨e, h1, h2, h3, -⟩ | ⟨all, cl, m, lt, fa, h1, h3, h4, h5, h6, h7, h8, h9, h10, h11⟩
  · exact ⟨e, by omega, h3, Or.inl h2⟩
  · rcases h11 with h11 | ⟨b, g1, g2, g3, g4⟩
    · rw [h11.1] at hr; exact absurd (by decide) hr
    · obtain ⟨i, q1, q2, q3, q4⟩ := h10 b g1
      have : i / wi ≤ i := Nat.div_le_self i wi
      exact ⟨fa b, by omega, g4, Or.inr ⟨_, _, _, _, _, _, _, b, h1, g1, g2, g3, rfl⟩⟩
theorem WRJ_right {tx : Nat → Nat} {n wi hi wa le : Nat} {r : Int32} {L H I : Nat → Nat} (h : WRJ tx n le r wi hi wa le L H I) : ∃ cl, RDR tx n wi hi cl le ∧ wa = bset cl 1 (wi * hi) ∧ ∀ b, b < le → H b = bset cl (2 + b) (wi * hi) := by
  obtain ⟨all, cl, m, lt, fa, g1, g3, g4, g5, g6, g7, g8, g9, g10, g11, g12⟩ := h
  have e : all = wi * hi := by rw [g8, Nat.mul_comm]
  have e2 : m = le := g3.2.1.symm
  subst e
  subst e2
  exact ⟨cl, ⟨g4, g5, g6, g7, g9, g3.2.2.1, fun b hb => by obtain ⟨i, a, c, -⟩ := g10 b hb; exact ⟨i, a, c⟩, ⟨lt, fa, g1⟩, g12⟩, g3.1, fun b hb => (g3.2.2.2.2 b hb).2.1⟩
theorem SHP_s {w hd n : Nat} {G sh bw bh ps : Nat → Nat} (h : SHP w hd G n sh bw bh ps) : SHP w hd G (n + 1) (va_up sh n (G n >>> (bxt w (G n) (w * hd) * w + bxl w (G n) (w * hd)))) (va_up bw n (bxr w (G n) (w * hd) - bxl w (G n) (w * hd) + 1)) (va_up bh n (bxb w (G n) (w * hd) - bxt w (G n) (w * hd) + 1)) (va_up ps n (bxt w (G n) (w * hd) * w + bxl w (G n) (w * hd))) := by
  intro b hb
  by_cases e : b = n
  · subst e; rw [up_eq, up_eq, up_eq, up_eq]; exact ⟨rfl, rfl, rfl, rfl⟩
  · rw [up_ne sh e, up_ne bw e, up_ne bh e, up_ne ps e]; exact h b (by omega)
theorem SHP_c {w hd n : Nat} {G G' sh bw bh ps : Nat → Nat} (h : SHP w hd G n sh bw bh ps) (he : ∀ b, b < n → G b = G' b) : SHP w hd G' n sh bw bh ps := fun b hb => by rw [← he b hb]; exact h b hb
