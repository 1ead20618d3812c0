/-! ===== the component's text ===== -/
/-- what stands in a cell: 0 free, 1 wall, 2 and on the blocks -/
def tI (v : Nat) : Int32 := if v = 0 then -9 else if v = 1 then -10 else nI (v - 2)
theorem up_tI (K : Nat → Nat) (i v : Nat) : upd (fun j => tI (K j)) i (tI v) = fun j => tI (va_up K i v j) := by
  funext j; unfold upd va_up; dsimp only; split <;> rfl
theorem tI_b (b : Nat) : tI (2 + b) = nI b := by
  unfold tI
  rw [if_neg (by omega), if_neg (by omega), show 2 + b - 2 = b by omega]
theorem tI_inj : ∀ a, a < 10 → ∀ b, b < 10 → (tI a = tI b ↔ a = b) := by decide +kernel
theorem tI_n1 : ∀ a, a < 10 → tI a ≠ -1 := by decide +kernel
theorem tI_eqn : ∀ a, a < 10 → ∀ k, k < 8 → (tI a = nI k ↔ a = 2 + k) := by decide +kernel
def ctn (lt : Nat → Nat) (k c : Nat) : Option Nat := if c = 46 ∨ c = 35 ∨ (97 ≤ c ∧ c ≤ 122) then cv lt k c else none
def cIv : Option Nat → Int32
  | none => -1
  | some v => tI v
theorem ctn_lt {lt : Nat → Nat} {k c v : Nat} (hk : k ≤ 7) (h : ctn lt k c = some v) : v < 10 := by
  unfold ctn at h
  split at h
  · have h1 := cv_some hk v h
    have h2 := cv_none7 hk h
    omega
  · cases h
theorem cIv_n1 {lt : Nat → Nat} {k c : Nat} (hk : k ≤ 7) (h : cIv (ctn lt k c) = -1) : ctn lt k c = none := by
  cases e : ctn lt k c with
  | none => rfl
  | some v => rw [e] at h; exact absurd h (tI_n1 v (ctn_lt hk e))
theorem cIv_ok {lt : Nat → Nat} {k c : Nat} (h : ¬ cIv (ctn lt k c) = -1) : ∃ v, ctn lt k c = some v := by
  cases e : ctn lt k c with
  | none => rw [e] at h; exact absurd rfl h
  | some v => exact ⟨v, rfl⟩
theorem ctn_46 {lt : Nat → Nat} {k : Nat} : ctn lt k 46 = some 0 := rfl
theorem ctn_35 {lt : Nat → Nat} {k : Nat} : ctn lt k 35 = some 1 := rfl
theorem ctn_no {lt : Nat → Nat} {k c : Nat} (h1 : c ≠ 46) (h2 : c ≠ 35) (h : c < 97 ∨ 122 < c) : ctn lt k c = none := by
  unfold ctn; rw [if_neg (by omega)]
theorem ctn_l {lt : Nat → Nat} {k c : Nat} (h1 : 97 ≤ c) (h2 : c ≤ 122) : ctn lt k c = if lk lt c k = 7 then none else some (2 + lk lt c k) := by
  unfold ctn cv
  rw [if_pos (by omega), if_neg (by omega), if_neg (by omega)]
theorem ctn_pst {c k wi hi row all q : Nat} {cl lt fa : Nat → Nat} (hc : c ≠ 47) (h : ctn lt q c = none) : pstep c k wi hi row all cl q lt fa = none := by
  by_cases h1 : c = 46 ∨ c = 35 ∨ (97 ≤ c ∧ c ≤ 122)
  · unfold ctn at h; rw [if_pos h1] at h
    exact pst_no2 hc h
  · exact pst_no hc (Or.inl h1)
theorem ctn_cv {lt : Nat → Nat} {k c v : Nat} (h : ctn lt k c = some v) : (c = 46 ∨ c = 35 ∨ (97 ≤ c ∧ c ≤ 122)) ∧ cv lt k c = some v := by
  unfold ctn at h
  split at h
  · rename_i h1; exact ⟨h1, h⟩
  · cases h
theorem ctn_new {lt : Nat → Nat} {k c v : Nat} (hk : k ≤ 7) (h : ctn lt k c = some v) : (v = 2 + k → isnew lt k c = true ∧ k < 7) ∧ (v ≠ 2 + k → isnew lt k c = false) := by
  obtain ⟨h1, h2⟩ := ctn_cv h
  unfold cv at h2
  split at h2
  · rename_i e; cases h2
    exact ⟨fun q => by omega, fun _ => by simp [isnew, e]⟩
  · split at h2
    · rename_i e; cases h2
      exact ⟨fun q => by omega, fun _ => by simp [isnew, e]⟩
    · split at h2
      · cases h2
      · rename_i a b d
        cases h2
        have := (lk_spec (lt := lt) (c := c) (m := k)).1
        exact ⟨fun q => ⟨by simp [isnew, a, b]; omega, by omega⟩, fun q => by simp [isnew, a, b]; omega⟩
/-- the component's numbers of a text that is read so far -/
def TXR (wi hi row all q vw : Nat) : Prop := vw = (if hi = 0 then row else wi) ∧ row ≤ (if hi = 0 then 6 else wi) ∧ all ≤ 24 ∧ q ≤ 7 ∧ hi ≤ 5 ∧ wi ≤ 6
theorem TXR_vw {wi hi row all q vw : Nat} (h : TXR wi hi row all q vw) : vw ≤ 6 ∧ row ≤ 6 := by
  obtain ⟨h1, h2, h3, h4, h5, h6⟩ := h
  by_cases e : hi = 0
  · rw [if_pos e] at h1 h2; omega
  · rw [if_neg e] at h1 h2; omega
theorem TXR_of {k wi hi row all q : Nat} {cl lt fa : Nat → Nat} (h : PIN k wi hi row all cl q lt fa) : TXR wi hi row all q (if hi = 0 then row else wi) := by
  obtain ⟨h1, h2, h3, h4, h5, h6, h7, h8, -⟩ := h
  refine ⟨rfl, ?_, h4, h8, h2, h3⟩
  split
  · exact h1
  · exact (h6 (by omega)).2
/-- what one sign does -/
def ADC (c wi hi row all q vw : Nat) (cl lt : Nat → Nat) (z : Bool) (row2 all2 q2 vw2 : Nat) (cl2 lt9 : Nat → Nat) : Prop :=
  (z = false ∧ (∀ k fa, pstep c k wi hi row all cl q lt fa = none) ∧ row2 = row ∧ all2 = all ∧ q2 = q ∧ vw2 = vw ∧ cl2 = cl ∧ lt9 = lt) ∨
  (z = true ∧ ∃ v, (∀ k fa, pstep c k wi hi row all cl q lt fa = some (wi, hi, row + 1, all + 1, va_up cl all v, m2 lt q c, lt2 lt q c, fa2 lt q c fa k)) ∧ row2 = row + 1 ∧ all2 = all + 1 ∧ cl2 = va_up cl all v ∧ q2 = m2 lt q c ∧ lt9 = lt2 lt q c ∧ vw2 = (if hi = 0 then row + 1 else wi))
theorem row_full {wi hi row all q vw x : Nat} (h : TXR wi hi row all q vw) (hx : x = (if hi = 0 then 6 else wi)) (h2 : x ≤ row) : row = (if hi = 0 then 6 else wi) := by
  have := h.2.1
  rw [← hx] at this ⊢
  omega
/-- the whole row -/
def rwh (row vw : Nat) : Bool := decide (0 < row) && decide (row = vw)
theorem rwh_t {wi hi row all q vw : Nat} (h : TXR wi hi row all q vw) (hr : rwh row vw = true) : 0 < row ∧ (hi = 0 ∨ wi ≤ row) ∧ row = vw := by
  simp [rwh] at hr
  refine ⟨hr.1, ?_, hr.2⟩
  have := h.1
  by_cases e : hi = 0
  · exact Or.inl e
  · rw [if_neg e] at this; omega
theorem rwh_f {wi hi row all q vw : Nat} (h : TXR wi hi row all q vw) (hr : rwh row vw = false) : row = 0 ∨ (0 < hi ∧ row < wi) := by
  simp [rwh] at hr
  obtain ⟨h1, h2, -⟩ := h
  by_cases e : row = 0
  · exact Or.inl e
  · have h3 := hr (by omega)
    by_cases e2 : hi = 0
    · rw [if_pos e2] at h1; omega
    · rw [if_neg e2] at h1 h2; omega
def firstc (cl : Nat → Nat) (v i : Nat) : Prop := cl i = v ∧ ∀ j, j < i → cl j ≠ v
/-- what the reading of a text leaves in the draft -/
def PRS (tx : Nat → Nat) (n : Nat) (r : Int32) (wd hd nb wl : Nat) (st sl : Int32) (gl aq lb : Option Nat) (sh bw bh ps : Nat → Nat) : Prop :=
  (∃ e, RDW tx n e ∧ e < 2 ^ 20 ∧ r = nI e) ∨ ∃ cl, RDR tx n wd hd cl nb ∧ r = -9 ∧ wl = bset cl 1 (wd * hd) ∧ SHP wd hd (fun b => bset cl (2 + b) (wd * hd)) nb sh bw bh ps ∧ st = 0 ∧ sl = 0 ∧ gl = none ∧ aq = none ∧ lb = none
theorem bset_y {cl : Nat → Nat} {v i : Nat} (h : cl i = v) : bset cl v i ||| 1 <<< i = bset cl v (i + 1) := by
  show _ = bset cl v i ||| (if cl i = v then 1 <<< i else 0)
  rw [if_pos h]
theorem bset_n {cl : Nat → Nat} {v i : Nat} (h : ¬ cl i = v) : bset cl v i = bset cl v (i + 1) := by
  show _ = bset cl v i ||| (if cl i = v then 1 <<< i else 0)
  rw [if_neg h, Nat.or_zero]
theorem firstc_u {cl : Nat → Nat} {v i j : Nat} (h : firstc cl v i) (h2 : firstc cl v j) : i = j := by
  rcases Nat.lt_trichotomy i j with c | c | c
  · exact absurd h.1 (h2.2 i c)
  · exact c
  · exact absurd h2.1 (h.2 j c)
theorem bset_c {ca cl : Nat → Nat} {v : Nat} : ∀ {n : Nat}, (∀ j, j < n → ca j = cl j) → bset ca v n = bset cl v n
  | 0, _ => rfl
  | n + 1, h => by
    show bset ca v n ||| (if ca n = v then 1 <<< n else 0) = bset cl v n ||| (if cl n = v then 1 <<< n else 0)
    rw [bset_c (fun j hj => h j (by omega)), h n (by omega)]
theorem firstc_c {ca cl : Nat → Nat} {v i n : Nat} (hc : ∀ j, j < n → ca j = cl j) (hi : i < n) (h : firstc ca v i) : firstc cl v i :=
  ⟨by rw [← hc i hi]; exact h.1, fun j hj => by rw [← hc j (by omega)]; exact h.2 j hj⟩
theorem lk_c {la lt : Nat → Nat} {c : Nat} : ∀ {n : Nat}, (∀ j, j < n → la j = lt j) → lk la c n = lk lt c n
  | 0, _ => rfl
  | n + 1, h => by
    show (if lk la c n < n then lk la c n else if la n = c then n else n + 1) = (if lk lt c n < n then lk lt c n else if lt n = c then n else n + 1)
    rw [lk_c (fun j hj => h j (by omega)), h n (by omega)]
theorem ADC_c {c wi hi row all q vw row2 all2 q2 vw2 : Nat} {ca la cl lt cl2 lt9 : Nat → Nat} {z : Bool} (h47 : c ≠ 47) (hc : ∀ j, j < all → ca j = cl j) (hl : ∀ b, b < q → la b = lt b) (h : ADC c wi hi row all q vw ca la z row2 all2 q2 vw2 cl2 lt9) :
    (z = false ∧ ∀ k fa, pstep c k wi hi row all cl q lt fa = none) ∨ (z = true ∧ ∃ v, (∀ k fa, pstep c k wi hi row all cl q lt fa = some (wi, hi, row + 1, all + 1, va_up cl all v, m2 lt q c, lt2 lt q c, fa2 lt q c fa k)) ∧ row2 = row + 1 ∧ all2 = all + 1 ∧ cl2 = va_up ca all v ∧ q2 = m2 lt q c ∧ lt9 = lt2 la q c ∧ vw2 = (if hi = 0 then row + 1 else wi) ∧ (∀ j, j < all + 1 → va_up ca all v j = va_up cl all v j) ∧ ∀ b, b < m2 lt q c → lt2 la q c b = lt2 lt q c b) := by
  have e1 : lk la c q = lk lt c q := lk_c hl
  have e2 : cv la q c = cv lt q c := by unfold cv; rw [e1]
  have e3 : isnew la q c = isnew lt q c := by unfold isnew; rw [e1]
  rcases h with ⟨hz, h, -⟩ | ⟨hz, v, h, h1, h2, h3, h4, h5, h6⟩
  · refine Or.inl ⟨hz, fun k fa => ?_⟩
    have := h k fa
    unfold pstep at this ⊢
    generalize (if hi = 0 then 6 else wi) = mcc at this ⊢
    rw [if_neg h47] at this ⊢
    split at this
    · rename_i hh; rw [if_pos hh]
    · rename_i hh
      rw [if_neg hh]
      rw [e2] at this
      cases e : cv lt q c with
      | none => rfl
      | some v => rw [e] at this; cases this
  · refine Or.inr ⟨hz, v, fun k fa => ?_, h1, h2, h3, by rw [h4]; unfold m2; rw [e3], h5, h6, fun j hj => ?_, fun b hb => ?_⟩
    · have := h k fa
      unfold pstep at this ⊢
      generalize (if hi = 0 then 6 else wi) = mcc at this ⊢
      rw [if_neg h47] at this ⊢
      split at this
      · cases this
      · rename_i hh
        rw [if_neg hh]
        rw [e2] at this
        cases e : cv lt q c with
        | none => rw [e] at this; cases this
        | some v9 =>
          rw [e] at this
          have h7 := Option.some.inj this
          have h8 : va_up ca all v9 = va_up ca all v := (Prod.mk.inj (Prod.mk.inj (Prod.mk.inj (Prod.mk.inj (Prod.mk.inj h7).2).2).2).2).1
          have h9 := congrFun h8 all
          rw [up_eq, up_eq] at h9
          rw [h9]
          rfl
    · by_cases e : j = all
      · rw [e, up_eq, up_eq]
      · rw [up_ne _ e, up_ne _ e]; exact hc j (by omega)
    · unfold m2 at hb
      unfold lt2
      rw [e3]
      split
      · rename_i hn
        rw [if_pos hn] at hb
        by_cases e : b = q
        · rw [e, up_eq, up_eq]
        · rw [up_ne _ e, up_ne _ e]; exact hl b (by omega)
      · rename_i hn
        rw [if_neg hn] at hb
        exact hl b hb
