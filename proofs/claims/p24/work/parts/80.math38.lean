/-! ===== both sides read the same ===== -/
theorem RDW_u {tx : Nat → Nat} {n e e2 : Nat} (h : RDW tx n e) (h2 : RDW tx n e2) : e = e2 := by
  rcases h with h | ⟨wi, hi, all, cl, m, lt, fa, b, h, a1, a2, a3, rfl⟩ <;> rcases h2 with h2 | ⟨wi', hi', all', cl', m', lt', fa', b', h2, b1, b2, b3, rfl⟩
  · rw [h] at h2; cases h2; rfl
  · rw [h] at h2; cases h2
  · rw [h] at h2; cases h2
  · rw [h] at h2
    cases h2
    rcases Nat.lt_trichotomy b b' with q | q | q
    · rw [b2 b q] at a3; cases a3
    · rw [q]
    · rw [a2 b' q] at b3; cases b3
theorem RDW_RDR {tx cl : Nat → Nat} {n e wi hi m : Nat} (h : RDW tx n e) (h2 : RDR tx n wi hi cl m) : False := by
  obtain ⟨-, -, -, -, -, -, -, ⟨lt, fa, h3⟩, h4⟩ := h2
  rcases h with h | ⟨wi', hi', all', cl', m', lt', fa', b', h, b1, b2, b3, rfl⟩
  · rw [h] at h3; cases h3
  · rw [h] at h3
    cases h3
    rw [h4 b' b1] at b3
    cases b3
theorem RDR_u {tx cl cl2 : Nat → Nat} {n wi hi m wi2 hi2 m2 : Nat} (h : RDR tx n wi hi cl m) (h2 : RDR tx n wi2 hi2 cl2 m2) : wi2 = wi ∧ hi2 = hi ∧ cl2 = cl ∧ m2 = m := by
  obtain ⟨-, -, -, -, -, -, -, ⟨lt, fa, h3⟩, -⟩ := h
  obtain ⟨-, -, -, -, -, -, -, ⟨lt', fa', h4⟩, -⟩ := h2
  rw [h3] at h4
  cases h4
  exact ⟨rfl, rfl, rfl, rfl⟩
theorem SHP_AG {w hd n : Nat} {Gf sh bw bh ps sh2 bw2 bh2 ps2 : Nat → Nat} (h : SHP w hd Gf n sh bw bh ps) (h2 : SHP w hd Gf n sh2 bw2 bh2 ps2) : AG n sh bw bh ps sh2 bw2 bh2 ps2 := fun i hi => by
  obtain ⟨a1, a2, a3, a4⟩ := h i hi
  obtain ⟨b1, b2, b3, b4⟩ := h2 i hi
  exact ⟨a1.trans b1.symm, a2.trans b2.symm, a3.trans b3.symm, a4.trans b4.symm⟩
theorem RDR_TV {tx cl sh bw bh ps : Nat → Nat} {n wi hi m wl : Nat} (h : RDR tx n wi hi cl m) (hwl : wl = bset cl 1 (wi * hi)) (hs : SHP wi hi (fun b => bset cl (2 + b) (wi * hi)) m sh bw bh ps) : TV wi hi m wl sh bw bh ps none none none := by
  obtain ⟨a1, a2, a3, a4, a5, a6, a7, -, -⟩ := h
  exact SHP_TV a1 a2 a3 a4 a5 a6 hwl a7 hs
/-- the start: an empty board of one cell -/
theorem TV_start {sh bw bh ps : Nat → Nat} : TV 1 1 0 0 sh bw bh ps none none none := by
  refine ⟨⟨by decide, by decide, by decide, by decide, by decide, by decide, by decide, fun b h => absurd h (Nat.not_lt_zero b)⟩, fun b h => absurd h (Nat.not_lt_zero b), ⟨by show (0 : Nat) < _; decide, fun b hb _ => ?_, fun b h => absurd h (Nat.not_lt_zero b)⟩, Or.inl ⟨rfl, rfl⟩, fun d h => by cases h⟩
  show plc 0 b = 0
  unfold plc
  simp
/-- the model's row of numbers of a board -/
def MOK (t : BT) (v : Nat → Int32) : Prop := ∃ sh bw bh ps, (∀ j, j < 44 → v j = vF (twd t) (thd t) (tnb t) (twl t) (tst t) (tsl t) (tgl t) (taq t) (tlb t) sh bw bh ps j) ∧ AG (tnb t) (tsh t) (tbw t) (tbh t) (tps t) sh bw bh ps
theorem AG_TV {wd hd nb wl : Nat} {sh bw bh ps sh2 bw2 bh2 ps2 : Nat → Nat} {gl aq lb : Option Nat} (h : TV wd hd nb wl sh bw bh ps gl aq lb) (hg : AG nb sh bw bh ps sh2 bw2 bh2 ps2) : TV wd hd nb wl sh2 bw2 bh2 ps2 gl aq lb := by
  obtain ⟨⟨f1, f2, f3, f4, f5, f6, f7, f8⟩, a2, ⟨k1, k2, k3⟩, a4, a5⟩ := h
  refine ⟨⟨f1, f2, f3, f4, f5, f6, f7, fun b hb => ?_⟩, fun b hb => ?_, ⟨?_, ?_, fun b hb hn => ?_⟩, a4, a5⟩
  · obtain ⟨e1, e2, e3, e4⟩ := hg b hb
    rw [← e1, ← e2, ← e3]; exact f8 b hb
  · rw [← (hg b hb).2.2.2]; exact a2 b hb
  · rw [← hg.pk]; exact k1
  · rw [← hg.pk]; exact k2
  · obtain ⟨e1, e2, e3, e4⟩ := hg b hb
    rw [← hg.pk, ← e1, ← e2, ← e3]
    obtain ⟨g1, g2, g3⟩ := k3 b hb hn
    refine ⟨g1, g2, fun c hc hnc hcb => ?_⟩
    rw [← (hg c hc).1]
    exact g3 c hc hnc hcb
