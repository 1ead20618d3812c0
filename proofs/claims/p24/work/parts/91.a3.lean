/-! ===== p24: cells, steps and slides of a board ===== -/
/-- how many below c have the value j -/
def cq (f : Nat → Nat) (j : Nat) : Nat → Nat
  | 0 => 0
  | c + 1 => cq f j c + (if f c = j then 1 else 0)
theorem cq_le {f : Nat → Nat} {j : Nat} : ∀ c, cq f j c ≤ c
  | 0 => Nat.le_refl 0
  | c + 1 => by
    have := cq_le (f := f) (j := j) c
    show cq f j c + _ ≤ c + 1
    split <;> omega
theorem cq_up {f : Nat → Nat} {c v : Nat} (h : f c = v) : va_up (fun j => cq f j c) v (cq f v c + 1) = fun j => cq f j (c + 1) := by
  funext j
  show va_up (fun j => cq f j c) v (cq f v c + 1) j = cq f j c + (if f c = j then 1 else 0)
  by_cases e : j = v
  · subst e; rw [up_eq, if_pos h]
  · rw [up_ne _ e, if_neg (fun h2 => e (h2.symm.trans h)), Nat.add_zero]
theorem bit_v (x i : Nat) : (x >>> i &&& 1) = if x.testBit i = true then 1 else 0 := by
  split
  · rename_i h; exact bit_1.mpr h
  · rename_i h
    have h1 := bit_and1 (x := x) (i := i)
    have h2 : ¬ (x >>> i &&& 1) = 1 := fun h2 => h (bit_1.mp h2)
    omega
theorem cq_cnt {f : Nat → Nat} {j x : Nat} : ∀ m, (∀ i, i < m → (f i = j ↔ x.testBit i = true)) → cq f j m = cnt x m
  | 0, _ => rfl
  | m + 1, h => by
    show cq f j m + (if f m = j then 1 else 0) = cnt x m + (x >>> m &&& 1)
    rw [cq_cnt m fun i hi => h i (by omega), bit_v]
    congr 1
    by_cases e : f m = j
    · rw [if_pos e, if_pos ((h m (by omega)).mp e)]
    · rw [if_neg e, if_neg (fun h2 => e ((h m (by omega)).mpr h2))]
theorem cq_not {f : Nat → Nat} {j x : Nat} : ∀ m, (∀ i, i < m → (f i = j ↔ x.testBit i = false)) → cq f j m + cnt x m = m
  | 0, _ => rfl
  | m + 1, h => by
    have ih := cq_not m fun i hi => h i (by omega)
    show cq f j m + (if f m = j then 1 else 0) + (cnt x m + (x >>> m &&& 1)) = m + 1
    rw [bit_v]
    have h1 := h m (by omega)
    cases hb : x.testBit m with
    | true =>
      rw [if_neg (fun h2 => by rw [h1.mp h2] at hb; cases hb), if_pos rfl]
      omega
    | false =>
      rw [if_pos (h1.mpr hb), if_neg (by decide)]
      omega
theorem cnt_ext {x a : Nat} : ∀ b, a ≤ b → (∀ i, a ≤ i → i < b → x.testBit i = false) → cnt x b = cnt x a
  | 0, h, _ => by rw [show a = 0 by omega]
  | b + 1, h, h2 => by
    by_cases e : a = b + 1
    · rw [e]
    · show cnt x b + (x >>> b &&& 1) = cnt x a
      rw [bit_v, if_neg (by rw [h2 b (by omega) (by omega)]; decide), Nat.add_zero]
      exact cnt_ext b (by omega) fun i h3 h4 => h2 i h3 (by omega)
theorem cnt_shl {x p : Nat} : ∀ j, cnt (x <<< p) (p + j) = cnt x j
  | 0 => by
    have h := cnt_ext (x := x <<< p) (a := 0) p (Nat.zero_le _) fun i _ hi => by
      rw [Nat.testBit_shiftLeft]
      simp [show ¬ p ≤ i by omega]
    rw [Nat.add_zero, h]
    rfl
  | j + 1 => by
    show cnt (x <<< p) (p + j) + (x <<< p >>> (p + j) &&& 1) = cnt x j + (x >>> j &&& 1)
    rw [cnt_shl j, bit_v, bit_v, Nat.testBit_shiftLeft]
    simp
section CE
variable {wd hd nb wl : Nat} {sh bw bh ps : Nat → Nat} {gl aq lb : Option Nat}
theorem cel_no {i : Nat} : ∀ n, (∀ b, b < n → (sh b <<< ps b).testBit i = false) → f_cel wl sh ps i n = if wl.testBit i then -10 else -9
  | 0, _ => rfl
  | n + 1, h => by
    show (if (sh n <<< ps n).testBit i then nI n else f_cel wl sh ps i n) = _
    rw [h n (by omega)]
    exact cel_no n fun b hb => h b (by omega)
theorem cel_at {i b : Nat} : ∀ n, b < n → (sh b <<< ps b).testBit i = true → (∀ c, c < n → c ≠ b → (sh c <<< ps c).testBit i = false) → f_cel wl sh ps i n = nI b
  | 0, h, _, _ => absurd h (Nat.not_lt_zero b)
  | n + 1, h, hb, hc => by
    show (if (sh n <<< ps n).testBit i then nI n else f_cel wl sh ps i n) = _
    by_cases e : b = n
    · subst e; rw [hb]; rfl
    · rw [hc n (by omega) (fun h => e h.symm)]
      exact cel_at n (by omega) hb fun c h1 h2 => hc c (by omega) h2
/-- the block in a cell, 7 where there is none -/
def cOw (sh ps : Nat → Nat) (i : Nat) : Nat → Nat
  | 0 => 7
  | b + 1 => if (sh b <<< ps b).testBit i then b else cOw sh ps i b
theorem cOw_or {i : Nat} : ∀ n, (cOw sh ps i n = 7 ∧ ∀ b, b < n → (sh b <<< ps b).testBit i = false) ∨ (cOw sh ps i n < n ∧ (sh (cOw sh ps i n) <<< ps (cOw sh ps i n)).testBit i = true)
  | 0 => Or.inl ⟨rfl, fun b hb => absurd hb (Nat.not_lt_zero b)⟩
  | n + 1 => by
    cases h : (sh n <<< ps n).testBit i with
    | true =>
      have e : cOw sh ps i (n + 1) = n := by
        show (if (sh n <<< ps n).testBit i then n else cOw sh ps i n) = n
        rw [h]; rfl
      rw [e]
      exact Or.inr ⟨by omega, h⟩
    | false =>
      have e : cOw sh ps i (n + 1) = cOw sh ps i n := by
        show (if (sh n <<< ps n).testBit i then n else cOw sh ps i n) = _
        rw [h]; rfl
      rw [e]
      rcases cOw_or n with ⟨h1, h2⟩ | ⟨h1, h2⟩
      · refine Or.inl ⟨h1, fun b hb => ?_⟩
        by_cases e2 : b = n
        · subst e2; exact h
        · exact h2 b (by omega)
      · exact Or.inr ⟨by omega, h2⟩
theorem TV_pl (h : TV wd hd nb wl sh bw bh ps gl aq lb) {b : Nat} (hb : b < nb) : plc (pkey ps nb) b = ps b := plc_pkey h.1.2.2.2.2.2.1 h.2.1 b hb
/-- blocks lie apart -/
theorem TV_dis (h : TV wd hd nb wl sh bw bh ps gl aq lb) {b c i : Nat} (hb : b < nb) (hc : c < nb) (hne : c ≠ b) (h1 : (sh b <<< ps b).testBit i = true) : (sh c <<< ps c).testBit i = false := by
  have h2 := (h.2.2.1.2.2 b hb (fun h => by cases h)).2.2 c hc (fun h => by cases h) hne
  rw [TV_pl h hb, TV_pl h hc] at h2
  exact Bool.eq_false_iff.mpr fun h3 => and_zero.mp h2 i h1 h3
theorem TV_lt (h : TV wd hd nb wl sh bw bh ps gl aq lb) {b : Nat} (hb : b < nb) : sh b <<< ps b < 2 ^ (wd * hd) := by
  have h1 := (KV_pl h.1.2.2.2.2.2.1 h.2.1 h.2.2.1 hb).1
  exact cell_lt h.1.1 (h.1.2.2.2.2.2.2.2 b hb) h1
/-- what cell() tells: a block, nothing, or a wall -/
theorem cel_3 (h : TV wd hd nb wl sh bw bh ps gl aq lb) (i : Nat) : (∃ b, b < nb ∧ cOw sh ps i nb = b ∧ f_cel wl sh ps i nb = nI b ∧ (tk wl sh (pkey ps nb) (exb none none) nb).testBit i = true) ∨ (cOw sh ps i nb = 7 ∧ f_cel wl sh ps i nb = -9 ∧ (tk wl sh (pkey ps nb) (exb none none) nb).testBit i = false) ∨ (cOw sh ps i nb = 7 ∧ f_cel wl sh ps i nb = -10 ∧ (tk wl sh (pkey ps nb) (exb none none) nb).testBit i = true) := by
  rcases cOw_or (sh := sh) (ps := ps) (i := i) nb with ⟨h1, h2⟩ | ⟨h1, h2⟩
  · have h3 := cel_no (wl := wl) nb h2
    cases h4 : wl.testBit i with
    | true => rw [h4] at h3; exact Or.inr (Or.inr ⟨h1, h3, tk_bit.mpr (Or.inl h4)⟩)
    | false =>
      rw [h4] at h3
      refine Or.inr (Or.inl ⟨h1, h3, Bool.eq_false_iff.mpr fun h5 => ?_⟩)
      rcases tk_bit.mp h5 with h6 | ⟨b, hb, -, h6⟩
      · rw [h4] at h6; cases h6
      · rw [TV_pl h hb, h2 b hb] at h6; cases h6
  · refine Or.inl ⟨_, h1, rfl, cel_at nb h1 h2 fun c hc hne => TV_dis h h1 hc hne h2, tk_bit.mpr (Or.inr ⟨_, h1, rfl, by rw [TV_pl h h1]; exact h2⟩)⟩
/-- as many cells of a block as its shape has -/
theorem cq_blk (h : TV wd hd nb wl sh bw bh ps gl aq lb) {b : Nat} (hb : b < nb) : cq (fun i => cOw sh ps i nb) b (wd * hd) = cnt (sh b) 24 := by
  have hn7 := h.1.2.2.2.2.2.1
  have h24 := h.1.2.2.2.2.1
  have hlt := TV_lt h hb
  rw [cq_cnt (x := sh b <<< ps b) (wd * hd) fun i hi => ?_]
  · have hp : ps b ≤ wd * hd := Nat.le_of_lt (PlV_lt h.1.1 (h.1.2.2.2.2.2.2.2 b hb).2.2.1 (KV_pl hn7 h.2.1 h.2.2.1 hb).1)
    obtain ⟨j, hj⟩ : ∃ j, wd * hd = ps b + j := ⟨wd * hd - ps b, by omega⟩
    rw [hj, cnt_shl]
    refine (cnt_ext 24 (by omega) fun i h1 h2 => ?_).symm
    refine Bool.eq_false_iff.mpr fun h3 => ?_
    have h4 : (sh b <<< ps b).testBit (i + ps b) = true := by
      rw [Nat.testBit_shiftLeft]
      simp [h3]
    rw [bits_lt hlt (by omega)] at h4
    cases h4
  · show cOw sh ps i nb = b ↔ _
    rcases cOw_or (sh := sh) (ps := ps) (i := i) nb with ⟨h1, h2⟩ | ⟨h1, h2⟩
    · rw [h1, h2 b hb]
      exact ⟨fun h => by omega, fun h => by cases h⟩
    · refine ⟨fun e => by rw [← e]; exact h2, fun h3 => ?_⟩
      refine Classical.byContradiction fun hne => ?_
      rw [TV_dis h hb h1 hne h3] at h2
      cases h2
/-- which cells are empty, as 1 -/
noncomputable def cFr (wl : Nat) (sh ps : Nat → Nat) (nb i : Nat) : Nat := if (tk wl sh (pkey ps nb) (exb none none) nb).testBit i = false then 1 else 0
theorem cq_free (h : TV wd hd nb wl sh bw bh ps gl aq lb) : f_free wd hd nb wl sh ps = nI (cq (cFr wl sh ps nb) 1 (wd * hd)) := by
  have h1 := cq_not (f := cFr wl sh ps nb) (j := 1) (x := tk wl sh (pkey ps nb) (exb none none) nb) (wd * hd) fun i _ => by
    unfold cFr
    split
    · rename_i h; exact ⟨fun _ => h, fun _ => rfl⟩
    · rename_i h; exact ⟨fun h2 => (by cases h2), fun h2 => absurd h2 h⟩
  have h2 : cnt (tk wl sh (pkey ps nb) (exb none none) nb) 24 = cnt (tk wl sh (pkey ps nb) (exb none none) nb) (wd * hd) := by
    refine cnt_ext 24 h.1.2.2.2.2.1 fun i h3 _ => Bool.eq_false_iff.mpr fun h4 => ?_
    rcases tk_bit.mp h4 with h5 | ⟨b, hb, -, h5⟩
    · rw [bits_lt h.1.2.2.2.2.2.2.1 h3] at h5; cases h5
    · rw [TV_pl h hb, bits_lt (TV_lt h hb) h3] at h5; cases h5
  unfold f_free
  rw [h2, pk_sub (by omega)]
  congr 1
  omega
/-- places of a flood lie in the frame -/
theorem flo_in (h : TV wd hd nb wl sh bw bh ps gl aq lb) {b p d : Nat} (hb : b < nb) (hp : flo wd hd nb wl sh bw bh none (pkey ps nb) b p = some d) : p < wd * hd ∧ d < 24 := by
  have h1 := fl_pl h.1 h.2.2.1 hb (fun h => by cases h) (flo_ld wd hd nb wl sh bw bh none (pkey ps nb) b) d p hp
  exact ⟨PlV_lt h.1.1 (h.1.2.2.2.2.2.2.2 b hb).2.2.1 h1.1, flo_24 h.1 h.2.2.1 hb hp⟩
theorem cntF_ext {F : Nat → Option Nat} {a : Nat} : ∀ b, a ≤ b → (∀ i, a ≤ i → i < b → isMv true (F i) = false) → cntF F b = cntF F a
  | 0, h, _ => by rw [show a = 0 by omega]
  | b + 1, h, h2 => by
    by_cases e : a = b + 1
    · rw [e]
    · show cntF F b + (if isMv true (F b) then 1 else 0) = cntF F a
      rw [h2 b (by omega) (by omega)]
      show cntF F b + 0 = _
      rw [Nat.add_zero]
      exact cntF_ext b (by omega) fun i h3 h4 => h2 i h3 (by omega)
theorem cntF_z {F : Nat → Option Nat} : ∀ n, cntF F n = 0 ↔ ∀ i, i < n → isMv true (F i) = false
  | 0 => ⟨fun _ i hi => absurd hi (Nat.not_lt_zero i), fun _ => rfl⟩
  | n + 1 => by
    have ih := cntF_z (F := F) n
    have e : cntF F (n + 1) = cntF F n + (if isMv true (F n) then 1 else 0) := rfl
    constructor
    · intro h i hi
      by_cases h1 : i = n
      · subst h1
        cases h2 : isMv true (F i) with
        | false => rfl
        | true => rw [e, h2] at h; simp at h
      · exact ih.mp (by omega) i (by omega)
    · intro h
      rw [e, ih.mpr fun i hi => h i (by omega), h n (by omega)]
      rfl
theorem dset_0 {m : Nat → Option Nat} : ∀ n, dset m n = 0 ↔ ∀ d, d < n → m d = none
  | 0 => ⟨fun _ i hi => absurd hi (Nat.not_lt_zero i), fun _ => rfl⟩
  | n + 1 => by
    have ih := dset_0 (m := m) n
    have e : dset m (n + 1) = dset m n ||| (if (m n).isSome then 1 <<< n else 0) := rfl
    constructor
    · intro h i hi
      rw [e, Nat.or_eq_zero_iff] at h
      by_cases h1 : i = n
      · subst h1
        cases h2 : m i with
        | none => rfl
        | some q =>
          have h3 := h.2
          rw [h2] at h3
          have h4 : 1 <<< i = 0 := h3
          rw [Nat.one_shiftLeft] at h4
          exact absurd h4 (Nat.ne_of_gt (Nat.two_pow_pos i))
      · exact ih.mp h.1 i (by omega)
    · intro h
      rw [e, ih.mpr fun i hi => h i (by omega), h n (by omega)]
      simp
theorem cntF_w (h : TV wd hd nb wl sh bw bh ps gl aq lb) {b : Nat} (hb : b < nb) : cntF (flo wd hd nb wl sh bw bh none (pkey ps nb) b) 24 = cntF (flo wd hd nb wl sh bw bh none (pkey ps nb) b) (wd * hd) := cntF_ext 24 h.1.2.2.2.2.1 fun i h1 _ => by
  cases h2 : flo wd hd nb wl sh bw bh none (pkey ps nb) b i with
  | none => rfl
  | some d => have := (flo_in h hb h2).1; omega
/-- no slide where no step is, and the other way -/
theorem zero_iff (h : TV wd hd nb wl sh bw bh ps gl aq lb) {b : Nat} (hb : b < nb) : dset (fun d => mvt wd hd (bw b) (bh b) (sh b) (tk wl sh (pkey ps nb) (exb none (some b)) nb) (ps b) d) 4 = 0 ↔ cntF (flo wd hd nb wl sh bw bh none (pkey ps nb) b) (wd * hd) = 0 := by
  have hF := flo_ld wd hd nb wl sh bw bh none (pkey ps nb) b
  rw [TV_pl h hb] at hF
  rw [dset_0, cntF_z]
  constructor
  · intro h1 i hi
    refine Bool.eq_false_iff.mpr fun h2 => ?_
    obtain ⟨d, hd9⟩ := isMv_pos h2
    obtain ⟨y, hy⟩ := LD_dn hF (d + 1) i hd9 1 (by omega)
    obtain ⟨q, hq, dd, hdd, hm⟩ := hF.2.2.1 y 0 hy
    rw [hF.2.1 q hq] at hm
    rw [h1 dd hdd] at hm
    cases hm
  · intro h1 d hd4
    cases hm : mvt wd hd (bw b) (bh b) (sh b) (tk wl sh (pkey ps nb) (exb none (some b)) nb) (ps b) d with
    | none => rfl
    | some q =>
      have h2 := (flo_one h.1.1 hF hd4 (mvt_inv hm).1 (stp_ne h.1.1 (mvt_inv hm).1)).mpr hm
      have h3 := h1 q (flo_in h hb h2).1
      rw [h2] at h3
      cases h3
/-- blocks of one shape -/
theorem alike_f (h : TV wd hd nb wl sh bw bh ps gl aq lb) {b : Nat} (hb : b < nb) : ∃ a, a ≤ b ∧ f_alike sh b = a ∧ sh a = sh b ∧ bw a = bw b := by
  obtain ⟨c, h1, h2⟩ := pk_least (fun c => sh c = sh b) ⟨b, rfl⟩
  have hcb : c ≤ b := Nat.le_of_not_lt fun h3 => h2 b h3 rfl
  refine ⟨c, hcb, (f_alike_eq ⟨hcb, h1, fun j hj => h2 j hj⟩).symm, h1, ?_⟩
  have a1 := h.1.2.2.2.2.2.2.2 b hb
  have a2 := h.1.2.2.2.2.2.2.2 c (by omega)
  rw [h1] at a2
  exact (ShV_wh a2 a1).1
end CE
