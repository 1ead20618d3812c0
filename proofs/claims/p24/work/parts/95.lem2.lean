/-! ===== p24: words for the check of cells and steps ===== -/
def mny (t : BT) (c j : Nat) : Nat := cq (fun i => cOw (tsh t) (tps t) i (tnb t)) j c
noncomputable def fre (t : BT) (c : Nat) : Nat := cq (cFr (twl t) (tsh t) (tps t) (tnb t)) 1 c
abbrev mv4 (t : BT) (b : Nat) : Nat → Option Nat := fun d => mvt (twd t) (thd t) (tbw t b) (tbh t b) (tsh t b) (tk (twl t) (tsh t) (pkey (tps t) (tnb t)) (exb none (some b)) (tnb t)) (tps t b) d
noncomputable abbrev flT (t : BT) (b : Nat) : Nat → Option Nat := flo (twd t) (thd t) (tnb t) (twl t) (tsh t) (tbw t) (tbh t) none (pkey (tps t) (tnb t)) b
abbrev tkT (t : BT) (i : Nat) : Bool := (tk (twl t) (tsh t) (pkey (tps t) (tnb t)) (exb none none) (tnb t)).testBit i
theorem nI_m9 {b : Nat} (h : b < 2 ^ 31) : nI b ≠ -9 := fun e => by
  have h1 := congrArg Int32.toInt e
  rw [nI_toInt h, show (-9 : Int32).toInt = -9 from rfl] at h1
  omega
theorem m9_ge {n : Nat} (h : n < 2 ^ 31) : ¬ nI n ≤ -9 := fun e => by
  have h1 := Int32.le_iff_toInt_le.mp e
  rw [nI_toInt h, show (-9 : Int32).toInt = -9 from rfl] at h1
  omega
theorem m10_ge {n : Nat} (h : n < 2 ^ 31) : ¬ nI n ≤ -10 := fun e => by
  have h1 := Int32.le_iff_toInt_le.mp e
  rw [nI_toInt h, show (-10 : Int32).toInt = -10 from rfl] at h1
  omega
section L2
variable {t : BT} {b c d p q e : Nat}
theorem mny_up (h : cOw (tsh t) (tps t) c (tnb t) = b) : va_up (mny t c) b (mny t c b + 1) = mny t (c + 1) := cq_up h
theorem fre_0 (h : tkT t c = true) : nI (fre t c + 0) = nI (fre t (c + 1)) := by
  have e : fre t (c + 1) = fre t c + (if cFr (twl t) (tsh t) (tps t) (tnb t) c = 1 then 1 else 0) := rfl
  have h2 : cFr (twl t) (tsh t) (tps t) (tnb t) c = 0 := by
    unfold cFr
    rw [if_neg (fun h9 => by rw [show tkT t c = false from h9] at h; cases h)]
  rw [e, h2]
  rfl
theorem fre_1 (h : tkT t c = false) : nI (fre t c + 1) = nI (fre t (c + 1)) := by
  have e : fre t (c + 1) = fre t c + (if cFr (twl t) (tsh t) (tps t) (tnb t) c = 1 then 1 else 0) := rfl
  have h2 : cFr (twl t) (tsh t) (tps t) (tnb t) c = 1 := by
    unfold cFr
    rw [if_pos h]
  rw [e, h2]
  rfl
theorem fre_le : fre t c ≤ c := cq_le c
theorem cnt_le {x : Nat} : ∀ n, cnt x n ≤ n
  | 0 => Nat.le_refl 0
  | n + 1 => by
    have h1 := cnt_le (x := x) n
    have h2 := bit_and1 (x := x) (i := n)
    show cnt x n + (x >>> n &&& 1) ≤ n + 1
    omega
theorem cntF_le {F : Nat → Option Nat} : ∀ n, cntF F n ≤ n
  | 0 => Nat.le_refl 0
  | n + 1 => by
    have h1 := cntF_le (F := F) n
    show cntF F n + (if isMv true (F n) then 1 else 0) ≤ n + 1
    split <;> omega
theorem dset_lt {m : Nat → Option Nat} : ∀ n, dset m n < 2 ^ n
  | 0 => by show 0 < 2 ^ 0; decide
  | n + 1 => by
    have h1 := dset_lt (m := m) n
    show dset m n ||| (if (m n).isSome then 1 <<< n else 0) < 2 ^ (n + 1)
    refine Nat.or_lt_two_pow (by rw [Nat.pow_succ]; omega) ?_
    split
    · rw [Nat.one_shiftLeft]; exact Nat.pow_lt_pow_right (by decide) (by omega)
    · exact Nat.two_pow_pos _
theorem dset_s0 {m : Nat → Option Nat} (h : m d = none) : nI (dset m d ||| 0) = nI (dset m (d + 1)) := by
  have e : dset m (d + 1) = dset m d ||| (if (m d).isSome then 1 <<< d else 0) := rfl
  rw [e, h]
  rfl
theorem dset_s1 {m : Nat → Option Nat} (h : m d = some q) : nI (dset m d ||| 1 <<< d) = nI (dset m (d + 1)) := by
  have e : dset m (d + 1) = dset m d ||| (if (m d).isSome then 1 <<< d else 0) := rfl
  rw [e, h]
  rfl
theorem cntF_s0 {F : Nat → Option Nat} (h : isMv true (F d) = false) : nI (cntF F d + 0) = nI (cntF F (d + 1)) := by
  have e : cntF F (d + 1) = cntF F d + (if isMv true (F d) then 1 else 0) := rfl
  rw [e, h]
  rfl
theorem cntF_s1 {F : Nat → Option Nat} (h : isMv true (F d) = true) : nI (cntF F d + 1) = nI (cntF F (d + 1)) := by
  have e : cntF F (d + 1) = cntF F d + (if isMv true (F d) then 1 else 0) := rfl
  rw [e, h]
  rfl
theorem stm_v (hb : b < tnb t) (hn : tnb t ≤ 7) (hd4 : d < 4) : f_stepm (twd t) (thd t) (tnb t) (twl t) (tsh t) (tbw t) (tbh t) (tps t) (nI b) (nI d) = (mv4 t b d).map (fun q => (b, q, 1, false)) := by
  unfold f_stepm
  rw [bOf_nI hb (by omega), bOf_nI hd4 (by decide)]
theorem stm_0 (hb : b < tnb t) (hn : tnb t ≤ 7) (hd4 : d < 4) (h : mv4 t b d = none) : f_stepm (twd t) (thd t) (tnb t) (twl t) (tsh t) (tbw t) (tbh t) (tps t) (nI b) (nI d) = none := by
  rw [stm_v hb hn hd4, h]
  rfl
theorem stm_1 (hb : b < tnb t) (hn : tnb t ≤ 7) (hd4 : d < 4) (h : mv4 t b d = some q) : f_stepm (twd t) (thd t) (tnb t) (twl t) (tsh t) (tbw t) (tbh t) (tps t) (nI b) (nI d) = some (b, q, 1, false) := by
  rw [stm_v hb hn hd4, h]
  rfl
theorem str_v (hb : b < tnb t) (hn : tnb t ≤ 7) (hd4 : d < 4) : f_stepr (twd t) (thd t) (tnb t) (twl t) (tsh t) (tbw t) (tbh t) (tps t) (nI b) (nI d) = match mv4 t b d with | some q => nI q | none => -2 := by
  unfold f_stepr
  rw [bOf_nI hb (by omega), bOf_nI hd4 (by decide)]
  rfl
theorem str_0 (hb : b < tnb t) (hn : tnb t ≤ 7) (hd4 : d < 4) (h : mv4 t b d = none) : f_stepr (twd t) (thd t) (tnb t) (twl t) (tsh t) (tbw t) (tbh t) (tps t) (nI b) (nI d) = -2 := by
  rw [str_v hb hn hd4, h]
theorem str_1 (hb : b < tnb t) (hn : tnb t ≤ 7) (hd4 : d < 4) (h : mv4 t b d = some q) : f_stepr (twd t) (thd t) (tnb t) (twl t) (tsh t) (tbw t) (tbh t) (tps t) (nI b) (nI d) = nI q := by
  rw [str_v hb hn hd4, h]
theorem mv4_lt (hT : TVt t) (hb : b < tnb t) (h : mv4 t b d = some q) : q < 24 := (KV_step (d := d) hT.1 hT.2.2.1 hb (fun h => by cases h) (by rw [TV_pl hT hb]; exact h)).1
/-! slides -/
theorem slc (t : BT) (b p : Nat) : (isMv true (flT t b p) = false) ∨ ∃ e, flT t b p = some (e + 1) := by
  cases h : flT t b p with
  | none => exact Or.inl rfl
  | some d =>
    cases d with
    | zero => exact Or.inl rfl
    | succ e => exact Or.inr ⟨e, rfl⟩
theorem slm_0 (hb : b < tnb t) (hn : tnb t ≤ 7) (hp : p < twd t * thd t) (hc : twd t * thd t ≤ 24) (h : isMv true (flT t b p) = false) : f_slidem (twd t) (thd t) (tnb t) (twl t) (tsh t) (tbw t) (tbh t) (tps t) (nI b) (nI p) = none := by
  unfold f_slidem
  rw [bOf_nI hb (by omega), bOf_nI hp (by omega)]
  show (match flT t b p with | some (e + 1) => some (b, p, e + 1, true) | _ => none) = none
  generalize flT t b p = x at h
  match x, h with
  | none, _ => rfl
  | some 0, _ => rfl
  | some (e + 1), h => cases h
theorem slr_0 (hb : b < tnb t) (hn : tnb t ≤ 7) (hp : p < twd t * thd t) (hc : twd t * thd t ≤ 24) (h : isMv true (flT t b p) = false) : f_slider (twd t) (thd t) (tnb t) (twl t) (tsh t) (tbw t) (tbh t) (tps t) (nI b) (nI p) = -2 := by
  unfold f_slider
  rw [bOf_nI hb (by omega), bOf_nI hp (by omega)]
  show (match flT t b p with | some (e + 1) => nI (e + 1) | _ => -2) = -2
  generalize flT t b p = x at h
  match x, h with
  | none, _ => rfl
  | some 0, _ => rfl
  | some (e + 1), h => cases h
theorem slm_1 (hb : b < tnb t) (hn : tnb t ≤ 7) (hp : p < twd t * thd t) (hc : twd t * thd t ≤ 24) (h : flT t b p = some (e + 1)) : f_slidem (twd t) (thd t) (tnb t) (twl t) (tsh t) (tbw t) (tbh t) (tps t) (nI b) (nI p) = some (b, p, e + 1, true) := by
  unfold f_slidem
  rw [bOf_nI hb (by omega), bOf_nI hp (by omega)]
  show (match flT t b p with | some (e + 1) => some (b, p, e + 1, true) | _ => none) = _
  rw [h]
theorem slr_1 (hb : b < tnb t) (hn : tnb t ≤ 7) (hp : p < twd t * thd t) (hc : twd t * thd t ≤ 24) (h : flT t b p = some (e + 1)) : f_slider (twd t) (thd t) (tnb t) (twl t) (tsh t) (tbw t) (tbh t) (tps t) (nI b) (nI p) = nI (e + 1) := by
  unfold f_slider
  rw [bOf_nI hb (by omega), bOf_nI hp (by omega)]
  show (match flT t b p with | some (e + 1) => nI (e + 1) | _ => -2) = _
  rw [h]
/-- the slide back -/
theorem sl_back (hT : TVt t) (hb : b < tnb t) {k : Nat} {z : Bool} (h : flT t b p = some (e + 1)) : flT (mvT t b p k z) b (tps t b) = some (e + 1) := by
  have h1 := flo_sym hT.1 hT.2.2.1 hb (fun h => by cases h) h
  have h2 := (TV_move hT hb h).2.2.2
  rw [TV_pl hT hb] at h1
  show flo (twd t) (thd t) (tnb t) (twl t) (tsh t) (tbw t) (tbh t) none (pkey (va_up (tps t) b p) (tnb t)) b (tps t b) = _
  rw [h2]
  exact h1
end L2
