/-! ===== frame, cell, block, fingerprint ===== -/
def f_free (wd hd nb wl : Nat) (sh ps : Nat → Nat) : Int32 := nI (wd * hd) - nI (cnt (tk wl sh (pkey ps nb) (exb none none) nb) 24)
def f_frame (wd hd nb wl : Nat) (st sl : Int32) (gl aq : Option Nat) (sh ps : Nat → Nat) (k : Nat) : Int32 := match k with
  | 0 => nI wd
  | 1 => nI hd
  | 2 => nI nb
  | 3 => f_free wd hd nb wl sh ps
  | 4 => st
  | 5 => sl
  | 6 => gI gl
  | 7 => gI aq
  | _ => bI (f_sol gl aq ps)
def f_framex (wd hd nb wl : Nat) (st sl : Int32) (gl aq : Option Nat) (sh ps : Nat → Nat) (x : Int32) : Int32 := match bOf 9 x with
  | some k => f_frame wd hd nb wl st sl gl aq sh ps k
  | none => -1
/-- what is in a cell: the last block there, else a wall, else nothing -/
def f_cel (wl : Nat) (sh ps : Nat → Nat) (i : Nat) : Nat → Int32
  | 0 => if wl.testBit i then -10 else -9
  | b + 1 => if (sh b <<< ps b).testBit i then nI b else f_cel wl sh ps i b
def f_cellx (wd hd nb wl : Nat) (sh ps : Nat → Nat) (x : Int32) : Int32 := match bOf (wd * hd) x with
  | some i => f_cel wl sh ps i nb
  | none => -1
theorem bit_1 {x i : Nat} : (x >>> i) &&& 1 = 1 ↔ x.testBit i = true := by
  unfold Nat.testBit
  rw [Nat.and_comm]
  constructor
  · intro h; rw [h]; rfl
  · intro h
    have h2 : 1 &&& x >>> i ≠ 0 := by simpa using h
    have h3 : 1 &&& x >>> i ≤ 1 := Nat.and_le_left
    omega
theorem bit_and1 {x i : Nat} : (x >>> i) &&& 1 < 2 := by
  have : (x >>> i) &&& 1 ≤ 1 := Nat.and_le_right
  omega
theorem ShV_wh {wd hd s w h w' h' : Nat} (a : ShV wd hd s w h) (b : ShV wd hd s w' h') : w = w' ∧ h = h' := by
  obtain ⟨a1, a2, a3, a4, a5, ⟨i1, a6⟩, ⟨i2, a7, a8⟩, ⟨i3, a9⟩, ⟨i4, a10, a11⟩⟩ := a
  obtain ⟨b1, b2, b3, b4, b5, ⟨j1, b6⟩, ⟨j2, b7, b8⟩, ⟨j3, b9⟩, ⟨j4, b10, b11⟩⟩ := b
  have e1 := (b5 i4 a10).1
  have e2 := (a5 j4 b10).1
  have e3 := (b5 i2 a7).2
  have e4 := (a5 j2 b7).2
  omega
theorem ShV_lt {wd hd s w h : Nat} (hw : 1 ≤ wd) (h24 : wd * hd ≤ 24) (a : ShV wd hd s w h) : s < 2 ^ 24 := by
  have h1 := cell_lt (p := 0) hw a ⟨by have := a.2.1; rw [Nat.zero_mod]; omega, by have := a.2.2.2.1; rw [Nat.zero_div]; omega⟩
  rw [Nat.shiftLeft_zero] at h1
  exact Nat.lt_of_lt_of_le h1 (Nat.pow_le_pow_right (by decide) h24)
def dset (m : Nat → Option Nat) : Nat → Nat
  | 0 => 0
  | d + 1 => dset m d ||| (if (m d).isSome then 1 <<< d else 0)
def cntF (F : Nat → Option Nat) : Nat → Nat
  | 0 => 0
  | i + 1 => cntF F i + (if isMv true (F i) then 1 else 0)
/-- the smallest number of a block of the same shape -/
def isfirst (sh : Nat → Nat) (b c : Nat) : Prop := c ≤ b ∧ sh c = sh b ∧ ∀ j, j < c → sh j ≠ sh b
noncomputable def f_alike (sh : Nat → Nat) (b : Nat) : Nat := fOf 0 (isfirst sh b)
theorem f_alike_eq {sh : Nat → Nat} {b c : Nat} (h : isfirst sh b c) : c = f_alike sh b := fOf_eq h (fun c' h' => by
  rcases Nat.lt_trichotomy c c' with h1 | h1 | h1
  · exact absurd h.2.1 (h'.2.2 c h1)
  · exact h1.symm
  · exact absurd h'.2.1 (h.2.2 c' h1))
noncomputable def f_blk (wd hd nb wl : Nat) (sh bw bh ps : Nat → Nat) (b k : Nat) : Int32 := match k with
  | 0 => nI (ps b)
  | 1 => nI (cnt (sh b) 24)
  | 2 => nI (bw b)
  | 3 => nI (bh b)
  | 4 => nI (dset (fun d => mvt wd hd (bw b) (bh b) (sh b) (tk wl sh (pkey ps nb) (exb none (some b)) nb) (ps b) d) 4)
  | 5 => nI (cntF (flo wd hd nb wl sh bw bh none (pkey ps nb) b) 24)
  | _ => nI (f_alike sh b)
noncomputable def f_blkx (wd hd nb wl : Nat) (sh bw bh ps : Nat → Nat) (x y : Int32) : Int32 := match bOf nb x, bOf 7 y with
  | some b, some k => f_blk wd hd nb wl sh bw bh ps b k
  | _, _ => -1
def fpS (a : Int64) (x : Int32) : Int64 := lN 31 * a + x.toInt64
def fold9 (f : Nat → Int32) (a : Int64) : Nat → Int64
  | 0 => a
  | n + 1 => fpS (fold9 f a n) (f n)
def foldB (f : Nat → Nat → Int32) (a : Int64) : Nat → Int64
  | 0 => a
  | b + 1 => fold9 (f b) (foldB f a b) 7
noncomputable def f_fp (wd hd nb wl : Nat) (st sl : Int32) (gl aq : Option Nat) (sh bw bh ps : Nat → Nat) : Int64 :=
  fpS (fpS (fpS (foldB (f_blk wd hd nb wl sh bw bh ps) (fold9 (fun i => f_cel wl sh ps i nb) (fold9 (f_frame wd hd nb wl st sl gl aq sh ps) (lN 199) 9) (wd * hd)) nb) (f_states (kst wd hd nb wl sh bw bh none) (pkey ps nb))) (f_dist (kst wd hd nb wl sh bw bh none) (mvk wd hd nb wl sh bw bh none false) gl aq (pkey ps nb))) (f_dist (kst wd hd nb wl sh bw bh none) (mvk wd hd nb wl sh bw bh none true) gl aq (pkey ps nb))
theorem KV_pl {wd hd nb wl : Nat} {sh bw bh ps : Nat → Nat} {b : Nat} (hn7 : nb ≤ 7) (hps : ∀ b, b < nb → ps b < 32) (hk : KV wd hd nb wl sh bw bh none (pkey ps nb)) (hb : b < nb) : PlV wd hd (bw b) (bh b) (ps b) ∧ plc (pkey ps nb) b = ps b := by
  have e := plc_pkey hn7 hps b hb
  exact ⟨by rw [← e]; exact (hk.2.2 b hb (fun h => by cases h)).1, e⟩
/-- what hardest() leaves -/
def HRD (nb : Nat) (o : Option Nat) (st sl : Int32) (lb : Option Nat) (ps : Nat → Nat) (st2 sl2 : Int32) (lb2 : Option Nat) (ps2 : Nat → Nat) : Prop := match o with
  | none => st2 = st ∧ sl2 = sl ∧ lb2 = lb ∧ ps2 = ps
  | some x => st2 = nI 0 ∧ sl2 = nI 0 ∧ lb2 = none ∧ ∀ b, b < nb → ps2 b = plc x b
noncomputable def f_hardx (wd hd nb wl : Nat) (sh bw bh ps : Nat → Nat) (gl aq : Option Nat) (z : Bool) : Option Nat := f_hard (kst wd hd nb wl sh bw bh none) (mvk wd hd nb wl sh bw bh none z) gl aq (pkey ps nb)
noncomputable def f_hardr (wd hd nb wl : Nat) (sh bw bh ps : Nat → Nat) (gl aq : Option Nat) (z : Bool) : Int32 := match f_hardx wd hd nb wl sh bw bh ps gl aq z with
  | none => -2
  | some _ => f_worst (kst wd hd nb wl sh bw bh none) (mvk wd hd nb wl sh bw bh none z) gl aq (pkey ps nb)
theorem mvt_no {wd hd w h s ot p d q : Nat} (h1 : stp wd hd w h p d = some q) (h2 : ¬ mvt wd hd w h s ot p d = some q) : mvt wd hd w h s ot p d = none := by
  cases h3 : mvt wd hd w h s ot p d with
  | none => rfl
  | some r =>
    have h4 := (mvt_inv h3).1
    rw [h1] at h4
    cases h4
    exact absurd h3 h2
theorem isMv_le {x : Option Nat} (ho : ∀ d, x = some d → d < 2 ^ 31) (h : oI x ≤ 0) : isMv true x = false := by
  match x, h, ho with
  | none, _, _ => rfl
  | some 0, _, _ => rfl
  | some (e + 1), h, ho => exact absurd h (nI_nle (by omega) (ho _ rfl))
theorem isMv_gt {x : Option Nat} (h : ¬ oI x ≤ 0) : isMv true x = true := by
  match x, h with
  | none, h => exact absurd (by decide) h
  | some 0, h => exact absurd (by decide) h
  | some (e + 1), _ => rfl
theorem q0_lt {q : Nat} (hq : q < 2 ^ 30) (h : nI q - nI 1 < 0) : q = 0 := by
  refine Nat.eq_zero_of_not_pos (fun h1 => ?_)
  rw [pk_sub h1] at h
  exact absurd h (nI_pos (by omega))
theorem q0_ge {q : Nat} (h : ¬ nI q - nI 1 < 0) : 1 ≤ q := by
  refine Nat.pos_of_ne_zero (fun h1 => h ?_)
  subst h1
  decide
theorem dec1 {q : Nat} (h : 1 ≤ q) : nI q - nI 1 + Int32.ofInt (-1) = nI (q - 1) - nI 1 := by
  obtain ⟨r, rfl⟩ : ∃ r, q = r + 1 := ⟨q - 1, by omega⟩
  rw [pk_sub (by omega), Nat.add_sub_cancel, show Int32.ofInt (-1) = -1 from rfl, show nI 1 = 1 from rfl, Int32.sub_eq_add_neg]
