/-! ===== acts: records and history ===== -/
theorem bOf_someK {k : Nat} {x : Int32} (hk : k < 2 ^ 29) (h : (decide (nI 0 ≤ x) && decide (x ≤ nI k)) = true) : ∃ b, b < k + 1 ∧ x = nI b ∧ bOf (k + 1) x = some b :=
  bOf_some (by omega) (by rw [pk_sub (by omega), Nat.add_sub_cancel]; exact h)
theorem bOf_noneK {k : Nat} {x : Int32} (hk : k < 2 ^ 29) (h : (decide (nI 0 ≤ x) && decide (x ≤ nI k)) = false) : bOf (k + 1) x = none :=
  bOf_none (by omega) (by rw [pk_sub (by omega), Nat.add_sub_cancel]; exact h)
def PH (pa : Nat → Int32) (pm : Nat) (h : Nat → Nat → Int32) : Prop := pm ≤ 10 ∧ ∀ i, i < pm → ∀ j, j < 44 → pa (44 * i + j) = h i j
def hcnt (pm : Nat) : Nat := if pm = 10 then 10 else pm + 1
def hpush (h : Nat → Nat → Int32) (pm : Nat) (v : Nat → Int32) : Nat → Nat → Int32 := if pm = 10 then (fun i => if i < 9 then h (i + 1) else v) else (fun i => if i < pm then h i else v)
theorem PH_push {pa pa1 pa2 v : Nat → Int32} {pm p1 : Nat} {h : Nat → Nat → Int32} (hp : PH pa pm h) (h1 : (pm = 10 ∧ p1 = 9 ∧ ∀ j, j < 396 → pa1 j = pa (j + 44)) ∨ (pm ≠ 10 ∧ p1 = pm ∧ ∀ j, pa1 j = pa j)) (h2 : ∀ j, j < 44 * p1 → pa2 j = pa1 j) (h3 : ∀ j, j < 44 → pa2 (44 * p1 + j) = v j) : PH pa2 (hcnt pm) (hpush h pm v) ∧ hcnt pm = p1 + 1 := by
  obtain ⟨a1, a2⟩ := hp
  unfold hcnt hpush
  rcases h1 with ⟨rfl, rfl, h4⟩ | ⟨hn, rfl, h4⟩
  · rw [if_pos rfl, if_pos rfl]
    refine ⟨⟨Nat.le_refl _, fun i hi j hj => ?_⟩, rfl⟩
    show _ = (if i < 9 then h (i + 1) else v) j
    by_cases e : i < 9
    · rw [if_pos e, h2 _ (by omega), h4 _ (by omega), ← a2 (i + 1) (by omega) j hj]
      congr 1; omega
    · rw [if_neg e, show i = 9 by omega]
      exact h3 j hj
  · rw [if_neg hn, if_neg hn]
    refine ⟨⟨by omega, fun i hi j hj => ?_⟩, rfl⟩
    show _ = (if i < p1 then h i else v) j
    by_cases e : i < p1
    · rw [if_pos e, h2 _ (by omega), h4, a2 i e j hj]
    · rw [if_neg e, show i = p1 by omega]
      exact h3 j hj
def MVD (mo : Option (Nat × Nat × Nat × Bool)) (st sl : Int32) (lb : Option Nat) (ps : Nat → Nat) (st2 sl2 : Int32) (lb2 : Option Nat) (ps2 : Nat → Nat) : Prop := match mo with
  | none => st2 = st ∧ sl2 = sl ∧ lb2 = lb ∧ ps2 = ps
  | some (b, q, k, z) => st2 = st + nI k ∧ sl2 = mvsl sl z lb b ∧ lb2 = some b ∧ ps2 = va_up ps b q
def HIS (act : Bool) (v : Nat → Int32) (pm : Nat) (h : Nat → Nat → Int32) (pa2 : Nat → Int32) (pm2 : Nat) (h2 : Nat → Nat → Int32) : Prop := PH pa2 pm2 h2 ∧ (act = true → pm2 = hcnt pm ∧ h2 = hpush h pm v) ∧ (act = false → pm2 = pm ∧ h2 = h)
def f_sol (gl aq : Option Nat) (ps : Nat → Nat) : Bool := match gl with
  | none => false
  | some g => decide (aq = some (ps g))
def f_ins (wd hd w h p : Nat) : Bool := decide (p % wd + w ≤ wd) && decide (p / wd + h ≤ hd)
noncomputable def f_stepm (wd hd nb wl : Nat) (sh bw bh ps : Nat → Nat) (x y : Int32) : Option (Nat × Nat × Nat × Bool) := match bOf nb x, bOf 4 y with
  | some b, some d => (mvt wd hd (bw b) (bh b) (sh b) (tk wl sh (pkey ps nb) (exb none (some b)) nb) (ps b) d).map (fun q => (b, q, 1, false))
  | _, _ => none
noncomputable def f_stepr (wd hd nb wl : Nat) (sh bw bh ps : Nat → Nat) (x y : Int32) : Int32 := match bOf nb x, bOf 4 y with
  | some b, some d => (match mvt wd hd (bw b) (bh b) (sh b) (tk wl sh (pkey ps nb) (exb none (some b)) nb) (ps b) d with | some q => nI q | none => -2)
  | _, _ => -1
noncomputable def f_slidem (wd hd nb wl : Nat) (sh bw bh ps : Nat → Nat) (x y : Int32) : Option (Nat × Nat × Nat × Bool) := match bOf nb x, bOf (wd * hd) y with
  | some b, some q => (match flo wd hd nb wl sh bw bh none (pkey ps nb) b q with | some (e + 1) => some (b, q, e + 1, true) | _ => none)
  | _, _ => none
noncomputable def f_slider (wd hd nb wl : Nat) (sh bw bh ps : Nat → Nat) (x y : Int32) : Int32 := match bOf nb x, bOf (wd * hd) y with
  | some b, some q => (match flo wd hd nb wl sh bw bh none (pkey ps nb) b q with | some (e + 1) => nI (e + 1) | _ => -2)
  | _, _ => -1
def f_goalm (wd hd nb : Nat) (bw bh : Nat → Nat) (x y : Int32) : Option (Nat × Nat) := match bOf nb x, bOf (wd * hd) y with
  | some b, some q => if f_ins wd hd (bw b) (bh b) q = true then some (b, q) else none
  | _, _ => none
def f_goalr (wd hd nb : Nat) (bw bh ps : Nat → Nat) (x y : Int32) : Int32 := match f_goalm wd hd nb bw bh x y with
  | some (b, q) => bI (f_sol (some b) (some q) ps)
  | none => -1
def GLD (mo : Option (Nat × Nat)) (gl aq gl2 aq2 : Option Nat) : Prop := match mo with
  | none => gl2 = gl ∧ aq2 = aq
  | some (b, q) => gl2 = some b ∧ aq2 = some q
noncomputable def f_folm (wd hd nb wl : Nat) (sh bw bh ps : Nat → Nat) (gl aq : Option Nat) (z : Bool) : Option (Nat × Nat × Nat × Bool) := match f_hintx wd hd nb wl sh bw bh ps gl aq z with
  | .inr (some (b, q)) => some (b, q, (flo wd hd nb wl sh bw bh none (pkey ps nb) b q).getD 0, z)
  | _ => none
noncomputable def f_folr (wd hd nb wl : Nat) (sh bw bh ps : Nat → Nat) (gl aq : Option Nat) (z : Bool) : Int32 := match f_hintx wd hd nb wl sh bw bh ps gl aq z with
  | .inr (some _) => f_dist (kst wd hd nb wl sh bw bh none) (mvk wd hd nb wl sh bw bh none z) gl aq (pkey ps nb) - nI 1
  | _ => -2
theorem oI_one {x : Option Nat} (ho : ∀ d, x = some d → d < 2 ^ 31) : oI x = nI 1 ↔ x = some 1 := by
  cases x with
  | none => exact ⟨fun h => absurd h (by decide), fun h => by cases h⟩
  | some d => exact ⟨fun h => by rw [(nI_eq (ho d rfl) (by decide)).mp h], fun h => by cases h; rfl⟩
/-- far is 1 just where a step leads -/
theorem flo_one {wd hd w h s ot p q d : Nat} {F : Nat → Option Nat} (hw : 1 ≤ wd) (hF : LD (fstep wd hd w h s ot) (fun x => x = p) F) (hd4 : d < 4) (hs : stp wd hd w h p d = some q) (hne : q ≠ p) : F q = some 1 ↔ mvt wd hd w h s ot p d = some q := by
  constructor
  · intro h1
    obtain ⟨r, hr, d', hd', hm⟩ := hF.2.2.1 q 0 h1
    have := hF.2.1 r hr
    subst this
    exact mvt_go hs (mvt_inv hm).2
  · intro hm
    obtain ⟨e, he, hle⟩ := hF.2.2.2 p q 0 (hF.1 p rfl) ⟨d, hd4, hm⟩
    have : e ≠ 0 := fun e0 => by subst e0; exact hne (hF.2.1 q he)
    rw [he, show e = 1 by omega]
theorem stp_ne {wd hd w h p q d : Nat} (hw : 1 ≤ wd) (hs : stp wd hd w h p d = some q) : q ≠ p := by
  have h2 := Nat.div_add_mod' p wd
  unfold stp at hs
  split at hs
  · split at hs
    · rename_i hy
      have h3 : 1 * wd ≤ p / wd * wd := Nat.mul_le_mul_right _ hy
      have := Option.some.inj hs; omega
    · cases hs
  · split at hs
    · split at hs
      · have := Option.some.inj hs; omega
      · cases hs
    · split at hs
      · split at hs
        · have := Option.some.inj hs; omega
        · cases hs
      · split at hs
        · rename_i hx
          have := Nat.mod_le p wd
          have := Option.some.inj hs; omega
        · cases hs
/-- an argument as a sign of a text -/
def tOf (x : Int32) : Option Nat := if 32 ≤ x.toInt ∧ x.toInt ≤ 126 then some x.toInt.toNat else none
theorem tOf_some {x : Int32} (h : (decide (nI 32 ≤ x) && decide (x ≤ nI 126)) = true) : ∃ b, 32 ≤ b ∧ b ≤ 126 ∧ x = nI b ∧ tOf x = some b := by
  rw [Bool.and_eq_true, decide_eq_true_eq, decide_eq_true_eq] at h
  obtain ⟨h1, h2⟩ := h
  have a1 := Int32.le_iff_toInt_le.mp h1
  have a2 := Int32.le_iff_toInt_le.mp h2
  rw [nI_toInt (by decide)] at a1 a2
  obtain ⟨j, hj, rfl⟩ := nI_of (x := x) (fun h => by
    have := Int32.lt_iff_toInt_lt.mp h
    have e0 : (0 : Int32).toInt = 0 := rfl
    rw [e0] at this
    omega)
  rw [nI_toInt hj] at a1 a2
  refine ⟨j, by omega, by omega, rfl, ?_⟩
  unfold tOf
  rw [nI_toInt hj, if_pos ⟨by omega, by omega⟩]
  rfl
theorem tOf_none {x : Int32} (h : (decide (nI 32 ≤ x) && decide (x ≤ nI 126)) = false) : tOf x = none := by
  unfold tOf
  rw [if_neg]
  rintro ⟨h1, h2⟩
  have a1 : nI 32 ≤ x := Int32.le_iff_toInt_le.mpr (by rw [nI_toInt (by decide)]; omega)
  have a2 : x ≤ nI 126 := Int32.le_iff_toInt_le.mpr (by rw [nI_toInt (by decide)]; omega)
  simp [a1, a2] at h
