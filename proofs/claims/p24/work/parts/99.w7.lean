/-! ===== p24: words for the law's walk (written by w7.py) ===== -/
theorem and3 (x : Int32) : ∃ j, j < 4 ∧ x &&& nI 3 = nI j := by
  have e : x = nI x.toBitVec.toNat := nI_inj32 (by rw [nI_tn]; exact (Nat.mod_eq_of_lt x.toBitVec.isLt).symm)
  refine ⟨x.toBitVec.toNat &&& 3, ?_, ?_⟩
  · have := @Nat.and_le_right x.toBitVec.toNat 3
    omega
  · rw [← nI_and, ← e]
theorem m1_ne {b : Nat} (h : b < 2 ^ 31) : (-1 : Int32) ≠ nI b := fun e => by
  have h1 := congrArg Int32.toInt e
  rw [nI_toInt h, show (-1 : Int32).toInt = -1 from rfl] at h1
  omega
theorem mvs_ne {sl : Int32} {lb : Option Nat} {d c : Nat} (hlb : lb = some d) (h : d ≠ c) : sl + nI 1 = mvsl sl false lb c := by
  unfold mvsl
  rw [hlb, if_pos (Or.inr (fun h9 => h (Option.some.inj h9)))]
theorem mvs_eq {sl : Int32} {lb : Option Nat} {d c : Nat} (hlb : lb = some d) (h : d = c) : sl + nI 0 = mvsl sl false lb c := by
  unfold mvsl
  rw [hlb, h, if_neg]
  rintro (h9 | h9)
  · cases h9
  · exact h9 rfl
theorem fr_3 {t t2 : BT} {wv hv nn : Nat} (h : frt t2 = frt t) (h1 : twd t = wv) (h2 : thd t = hv) (h3 : tnb t = nn) : twd t2 = wv ∧ thd t2 = hv ∧ tnb t2 = nn := by
  have e1 := congrArg (fun f : FRT => f.1) h
  have e2 := congrArg (fun f : FRT => f.2.1) h
  have e3 := congrArg (fun f : FRT => f.2.2.1) h
  exact ⟨e1.trans h1, e2.trans h2, e3.trans h3⟩
theorem gl_4 {t : BT} {wv hv bb pl : Nat} (hT : TVt t) (hw : twd t = wv) (hh : thd t = hv) (hb : bb < tnb t) (hp : pl < wv * hv) : (pl % wv + tbw t bb ≤ wv ∧ pl / wv + tbh t bb ≤ hv ∧ f_goalm (twd t) (thd t) (tnb t) (tbw t) (tbh t) (nI bb) (nI pl) = some (bb, pl) ∧ tps t bb = pl ∧ f_goalr (twd t) (thd t) (tnb t) (tbw t) (tbh t) (tps t) (nI bb) (nI pl) = nI 1) ∨ (pl % wv + tbw t bb ≤ wv ∧ pl / wv + tbh t bb ≤ hv ∧ f_goalm (twd t) (thd t) (tnb t) (tbw t) (tbh t) (nI bb) (nI pl) = some (bb, pl) ∧ tps t bb ≠ pl ∧ f_goalr (twd t) (thd t) (tnb t) (tbw t) (tbh t) (tps t) (nI bb) (nI pl) = nI 0) ∨ (wv < pl % wv + tbw t bb ∧ f_goalm (twd t) (thd t) (tnb t) (tbw t) (tbh t) (nI bb) (nI pl) = none ∧ f_goalr (twd t) (thd t) (tnb t) (tbw t) (tbh t) (tps t) (nI bb) (nI pl) = -1) ∨ (pl % wv + tbw t bb ≤ wv ∧ hv < pl / wv + tbh t bb ∧ f_goalm (twd t) (thd t) (tnb t) (tbw t) (tbh t) (nI bb) (nI pl) = none ∧ f_goalr (twd t) (thd t) (tnb t) (tbw t) (tbh t) (tps t) (nI bb) (nI pl) = -1) := by
  subst hw hh
  have hn7 := TV_n hT
  have hc24 := TV_c hT
  have e : f_goalm (twd t) (thd t) (tnb t) (tbw t) (tbh t) (nI bb) (nI pl) = if f_ins (twd t) (thd t) (tbw t bb) (tbh t bb) pl = true then some (bb, pl) else none := by
    unfold f_goalm
    rw [bOf_nI hb (by omega), bOf_nI hp (by omega)]
  by_cases h1 : pl % twd t + tbw t bb ≤ twd t
  · by_cases h2 : pl / twd t + tbh t bb ≤ thd t
    · have e2 : f_goalm (twd t) (thd t) (tnb t) (tbw t) (tbh t) (nI bb) (nI pl) = some (bb, pl) := by
        rw [e, if_pos]
        unfold f_ins
        rw [decide_eq_true h1, decide_eq_true h2]
        rfl
      have e3 : f_goalr (twd t) (thd t) (tnb t) (tbw t) (tbh t) (tps t) (nI bb) (nI pl) = bI (decide (some pl = some (tps t bb))) := by
        unfold f_goalr
        rw [e2]
        rfl
      by_cases h3 : tps t bb = pl
      · exact Or.inl ⟨h1, h2, e2, h3, by rw [e3, decide_eq_true (by rw [h3])]; rfl⟩
      · exact Or.inr (Or.inl ⟨h1, h2, e2, h3, by rw [e3, decide_eq_false (fun h => h3 (Option.some.inj h).symm)]; rfl⟩)
    · have e2 : f_goalm (twd t) (thd t) (tnb t) (tbw t) (tbh t) (nI bb) (nI pl) = none := by
        rw [e, if_neg]
        unfold f_ins
        rw [decide_eq_false h2, Bool.and_false]
        decide
      exact Or.inr (Or.inr (Or.inr ⟨h1, by omega, e2, glr_no e2⟩))
  · have e2 : f_goalm (twd t) (thd t) (tnb t) (tbw t) (tbh t) (nI bb) (nI pl) = none := by
      rw [e, if_neg]
      unfold f_ins
      rw [decide_eq_false h1, Bool.false_and]
      decide
    exact Or.inr (Or.inr (Or.inl ⟨by omega, e2, glr_no e2⟩))
