/-! ===== the pieces of the law's world (written by gen39.py) ===== -/
abbrev pX (xo vo h h2 ho ro ys yw : Nat) (xr : Int32) : va_W := [(xo, .inr (7, [.ref vo, .ref h, .ref h2, .ref ho, .ref ro, .ref ys, .ref yw, .int xr]))]
abbrev pT (cI : ClassId) (vo vsa vca vla : Nat) (ln all q vw ro row : Nat) (tx cl lt : Nat → Nat) : va_W := [(vo, .inr (6, [.ref vsa, .int (nI ln), .ref vca, .int (nI all), .ref vla, .int (nI q), .int (nI vw), .int (nI ro), .int (nI row)])), (vsa, .inl (cI, 40, .inl (fun zz => nI (tx zz)))), (vca, .inl (cI, 24, .inl (fun zz => tI (cl zz)))), (vla, .inl (cI, 7, .inl (fun zz => nI (lt zz))))]
abbrev pBd (cI cJ cB : ClassId) (h hs hw hh hp : Nat) (t : BT) : va_W := bW cI cJ cB h hs hw hh hp (nI (tse t)) (nI (twd t)) (nI (thd t)) (nI (twl t)) (nI (tnb t)) (nI (topv (twd t))) (nI (rcv (twd t) (thd t))) (nI (btv (twd t) (thd t))) (nI (lcv (twd t) (thd t))) (gI (tgl t)) (gI (taq t)) (tst t) (tsl t) (gI (tlb t)) (fun zz => nI (tsh t zz)) (fun zz => nI (tbw t zz)) (fun zz => nI (tbh t zz)) (fun zz => nI (tps t zz))
abbrev pR (cI : ClassId) (ro rfa rqa : Nat) (F : Nat → Option Nat) (Q : Nat → Nat) : va_W := [(ro, .inr (3, [.ref rfa, .ref rqa])), (rfa, .inl (cI, 24, .inl (fun zz => oI (F zz)))), (rqa, .inl (cI, 24, .inl (fun zz => nI (Q zz))))]
abbrev pS (cI cJ : ClassId) (ys yk yp yt y1 y2 zs zf1 zf2 : Nat) (sz : Nat) (tm : Bool) (sse srm : Option Nat) (K P T : Nat → Nat) (gb1 gp1 : Option Nat) (fo1 su1 : Nat) (gr1 gb2 gp2 : Option Nat) (fo2 su2 : Nat) (gr2 : Option Nat) (Fa1 Fa2 : Nat → Option Nat) : va_W := [(ys, .inr (5, [.ref yk, .ref yp, .ref yt, .ref y1, .ref y2, .int (nI sz), .int (bI tm), .int (gI sse), .int (gI srm)])), (yk, .inl (cJ, 2000, .inr (.inl (fun zz => lN (K zz))))), (yp, .inl (cI, 2000, .inl (fun zz => nI (P zz)))), (yt, .inl (cI, 4096, .inl (fun zz => nI (T zz)))), (y1, .inr (1, [.int (bI false), .ref zs, .ref zf1, .int (gI gb1), .int (gI gp1), .int (nI fo1), .int (nI su1), .int (gI gr1)])), (y2, .inr (1, [.int (bI true), .ref zs, .ref zf2, .int (gI gb2), .int (gI gp2), .int (nI fo2), .int (nI su2), .int (gI gr2)])), (zf1, .inl (cI, 2000, .inl (fun zz => oI (Fa1 zz)))), (zf2, .inl (cI, 2000, .inl (fun zz => oI (Fa2 zz))))]
abbrev pK (cI : ClassId) (zs zq zm zl : Nat) (Qa Ma La : Nat → Nat) : va_W := [(zs, .inr (4, [.ref zq, .ref zm, .ref zl])), (zq, .inl (cI, 2000, .inl (fun zz => nI (Qa zz)))), (zm, .inl (cI, 2000, .inl (fun zz => nI (Ma zz)))), (zl, .inl (cI, 24, .inl (fun zz => nI (La zz))))]
section PM
variable (a t b d r s u k m w : va_W)
theorem pmT : (a ++ (t ++ (b ++ (d ++ (r ++ (s ++ (u ++ (k ++ (m ++ w))))))))).Perm ((a ++ t) ++ (b ++ (d ++ (r ++ (s ++ (u ++ (k ++ (m ++ w)))))))) := perm_cnt fun i x => by simp only [List.count_append]; omega
theorem pmB : (a ++ (t ++ (b ++ (d ++ (r ++ (s ++ (u ++ (k ++ (m ++ w))))))))).Perm ((a ++ b) ++ (t ++ (d ++ (r ++ (s ++ (u ++ (k ++ (m ++ w)))))))) := perm_cnt fun i x => by simp only [List.count_append]; omega
theorem pmR : (a ++ (t ++ (b ++ (d ++ (r ++ (s ++ (u ++ (k ++ (m ++ w))))))))).Perm ((a ++ (b ++ r)) ++ (t ++ (d ++ (s ++ (u ++ (k ++ (m ++ w))))))) := perm_cnt fun i x => by simp only [List.count_append]; omega
theorem pmH : (a ++ (t ++ (b ++ (d ++ (r ++ (s ++ (u ++ (k ++ (m ++ w))))))))).Perm ((a ++ (b ++ w)) ++ (t ++ (d ++ (r ++ (s ++ (u ++ (k ++ m))))))) := perm_cnt fun i x => by simp only [List.count_append]; omega
theorem pmL : (a ++ (t ++ (b ++ (d ++ (r ++ (s ++ (u ++ (k ++ (m ++ w))))))))).Perm ((a ++ (b ++ (r ++ w))) ++ (t ++ (d ++ (s ++ (u ++ (k ++ m)))))) := perm_cnt fun i x => by simp only [List.count_append]; omega
theorem pmA : (a ++ (t ++ (b ++ (d ++ (r ++ (s ++ (u ++ (k ++ (m ++ w))))))))).Perm ((a ++ (t ++ (b ++ (d ++ w)))) ++ (r ++ (s ++ (u ++ (k ++ m))))) := perm_cnt fun i x => by simp only [List.count_append]; omega
theorem pmG : (a ++ (t ++ (b ++ (d ++ (r ++ (s ++ (u ++ (k ++ (m ++ w))))))))).Perm ((a ++ (b ++ (s ++ k))) ++ (t ++ (d ++ (r ++ (u ++ (m ++ w)))))) := perm_cnt fun i x => by simp only [List.count_append]; omega
theorem pmU : (a ++ (t ++ (b ++ (d ++ (r ++ (s ++ (u ++ (k ++ (m ++ w))))))))).Perm ((a ++ (b ++ (u ++ k))) ++ (t ++ (d ++ (r ++ (s ++ (m ++ w)))))) := perm_cnt fun i x => by simp only [List.count_append]; omega
theorem pmI : (a ++ (t ++ (b ++ (d ++ (r ++ (s ++ (u ++ (k ++ (m ++ w))))))))).Perm ((a ++ (b ++ (s ++ (k ++ r)))) ++ (t ++ (d ++ (u ++ (m ++ w))))) := perm_cnt fun i x => by simp only [List.count_append]; omega
theorem pmF : (a ++ (t ++ (b ++ (d ++ (r ++ (s ++ (u ++ (k ++ (m ++ w))))))))).Perm ((a ++ (b ++ (s ++ (k ++ (r ++ w))))) ++ (t ++ (d ++ (u ++ m)))) := perm_cnt fun i x => by simp only [List.count_append]; omega
theorem pmD : (a ++ (t ++ (b ++ (d ++ (r ++ (s ++ (u ++ (k ++ (m ++ w))))))))).Perm ((a ++ (b ++ (s ++ (k ++ w)))) ++ (t ++ (d ++ (r ++ (u ++ m))))) := perm_cnt fun i x => by simp only [List.count_append]; omega
theorem pmM : (a ++ (t ++ (b ++ (d ++ (r ++ (s ++ (u ++ (k ++ (m ++ w))))))))).Perm (m ++ (a ++ (t ++ (b ++ (d ++ (r ++ (s ++ (u ++ (k ++ w))))))))) := perm_cnt fun i x => by simp only [List.count_append]; omega
end PM
theorem tOf_lt {x : Int32} {q : Nat} (h : tOf x = some q) : q < 2 ^ 20 := by
  unfold tOf at h
  split at h
  · injection h with h
    omega
  · cases h
theorem type_tx {x : Int32} {ln : Nat} {tx : Nat → Nat} (hln : ln ≤ 40) (h : ∀ i, tx i < 2 ^ 20) : (match tOf x with | some _ => (if ln = 40 then ln else ln + 1) | none => ln) ≤ 40 ∧ ∀ i, (match tOf x with | some q => (if ln = 40 then tx else va_up tx ln q) | none => tx) i < 2 ^ 20 := by
  cases h9 : tOf x with
  | none => exact ⟨hln, h⟩
  | some q =>
    dsimp only
    refine ⟨?_, fun i => ?_⟩
    · split
      · exact hln
      · rename_i e9
        exact Nat.lt_of_le_of_ne hln e9
    split
    · exact h i
    · unfold va_up
      split
      · exact tOf_lt h9
      · exact h i
/-- the histories tell the same -/
def HOK (rd : Nat) (G : GT) (sz : Nat) (hg : Nat → BT) (hh : Nat → Nat → Int32) : Prop := sz ≤ 10 ∧ ∀ j, j < sz → BOK rd G (hg j) ∧ MOK (hg j) (hh j)
theorem HOK.next {rd sz : Nat} {G : GT} {hg : Nat → BT} {hh : Nat → Nat → Int32} (h : HOK rd G sz hg hh) {v : FRT × Nat} : HOK (rd + 1) (gup G (rd + 1) v) sz hg hh := ⟨h.1, fun j hj => ⟨(h.2 j hj).1.next, (h.2 j hj).2⟩⟩
theorem HOK.push {rd sz : Nat} {G : GT} {hg : Nat → BT} {hh : Nat → Nat → Int32} {t : BT} {v : Nat → Int32} (h : HOK rd G sz hg hh) (h1 : BOK rd G t) (h2 : MOK t v) : HOK rd G (hcnt sz) (hpu hg sz t) (hpush hh sz v) := by
  obtain ⟨hs, h⟩ := h
  have hc : hcnt sz ≤ 10 := by
    unfold hcnt
    split <;> omega
  refine ⟨hc, fun j hj => ?_⟩
  unfold hcnt at hj
  unfold hpu hpush
  by_cases e : sz = 10
  · subst e
    rw [if_pos rfl] at hj
    simp only [if_pos]
    by_cases e2 : j < 9
    · simp only [if_pos e2]
      exact h (j + 1) (by omega)
    · simp only [if_neg e2]
      exact ⟨h1, h2⟩
  · rw [if_neg e] at hj
    simp only [if_neg e]
    by_cases e2 : j < sz
    · simp only [if_pos e2]
      exact h j e2
    · simp only [if_neg e2]
      exact ⟨h1, h2⟩
/-- after a call that may keep the board: both histories go on alike -/
theorem HOK.act {rd sz sz2 pm2 : Nat} {G : GT} {hg hg2 : Nat → BT} {hh h2 : Nat → Nat → Int32} {t : BT} {v : Nat → Int32} {act : Bool} (h : HOK rd G sz hg hh) (h1 : BOK rd G t) (h3 : MOK t v) (a1 : act = true → sz2 = hcnt sz ∧ hg2 = hpu hg sz t) (a2 : act = false → sz2 = sz ∧ hg2 = hg) (b1 : act = true → pm2 = hcnt sz ∧ h2 = hpush hh sz v) (b2 : act = false → pm2 = sz ∧ h2 = hh) : pm2 = sz2 ∧ HOK rd G sz2 hg2 h2 := by
  cases act with
  | true =>
    obtain ⟨rfl, rfl⟩ := a1 rfl
    obtain ⟨rfl, rfl⟩ := b1 rfl
    exact ⟨rfl, h.push h1 h3⟩
  | false =>
    obtain ⟨rfl, rfl⟩ := a2 rfl
    obtain ⟨rfl, rfl⟩ := b2 rfl
    exact ⟨rfl, h⟩
