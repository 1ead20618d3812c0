/-! ===== p24: pieces, and the text that is typed of them ===== -/
/-- the cell i of a piece -/
def pcl (wd x y w i : Nat) : Nat := (y + i / w) * wd + x + i % w
/-- one of the first k cells of a piece; o: the fourth is left out -/
def inP (wd x y w : Nat) (o : Bool) (c : Nat) : Nat → Bool
  | 0 => false
  | i + 1 => inP wd x y w o c i || (!(o && i == 3) && c == pcl wd x y w i)
def pb (wd x y w : Nat) (o : Bool) : Nat → Nat
  | 0 => 0
  | i + 1 => pb wd x y w o i ||| (if o && i == 3 then 0 else 1 <<< pcl wd x y w i)
theorem pb_bit {wd x y w : Nat} {o : Bool} {c : Nat} : ∀ k, (pb wd x y w o k).testBit c = inP wd x y w o c k
  | 0 => by show (0 : Nat).testBit c = false; simp
  | k + 1 => by
    show (pb wd x y w o k ||| (if o && k == 3 then 0 else 1 <<< pcl wd x y w k)).testBit c = (inP wd x y w o c k || (!(o && k == 3) && c == pcl wd x y w k))
    rw [Nat.testBit_or, pb_bit k]
    congr 1
    cases h : (o && k == 3) with
    | true => simp
    | false =>
      rw [if_neg (by simp), Nat.one_shiftLeft, Nat.testBit_two_pow]
      by_cases e : c = pcl wd x y w k
      · subst e; simp
      · rw [decide_eq_false (fun h => e h.symm)]
        have : (c == pcl wd x y w k) = false := by simpa using e
        rw [this]; rfl
def okP (a b : Nat) : Bool := (List.range 4).all fun x => (List.range 3).all fun y => (List.range 2).all fun w => (List.range 2).all fun h => [true, false].all fun o => if x + (w + 1) ≤ a ∧ y + (h + 1) ≤ b then isone a b (pb a x y (w + 1) o ((w + 1) * (h + 1))) else true
theorem okP_22 : okP 2 2 = true := by decide +kernel
theorem okP_32 : okP 3 2 = true := by decide +kernel
theorem okP_42 : okP 4 2 = true := by decide +kernel
theorem okP_23 : okP 2 3 = true := by decide +kernel
theorem okP_33 : okP 3 3 = true := by decide +kernel
theorem okP_43 : okP 4 3 = true := by decide +kernel
theorem okP_all {a b : Nat} (ha : 2 ≤ a ∧ a ≤ 4) (hb : 2 ≤ b ∧ b ≤ 3) : okP a b = true := by
  rcases (show a = 2 ∨ a = 3 ∨ a = 4 by omega) with rfl | rfl | rfl <;> rcases (show b = 2 ∨ b = 3 by omega) with rfl | rfl
  · exact okP_22
  · exact okP_23
  · exact okP_32
  · exact okP_33
  · exact okP_42
  · exact okP_43
/-- a piece in the frame -/
def PCE (wd hd x y w h : Nat) : Prop := x + w ≤ wd ∧ y + h ≤ hd ∧ 1 ≤ w ∧ w ≤ 2 ∧ 1 ≤ h ∧ h ≤ 2
theorem pb_one {wd hd x y w h : Nat} {o : Bool} (ha : 2 ≤ wd ∧ wd ≤ 4) (hb : 2 ≤ hd ∧ hd ≤ 3) (hp : PCE wd hd x y w h) : isone wd hd (pb wd x y w o (w * h)) = true := by
  obtain ⟨h1, h2, h3, h4, h5, h6⟩ := hp
  have hk := okP_all ha hb
  unfold okP at hk
  have k1 := List.all_eq_true.mp hk x (List.mem_range.mpr (by omega))
  have k2 := List.all_eq_true.mp k1 y (List.mem_range.mpr (by omega))
  have k3 := List.all_eq_true.mp k2 (w - 1) (List.mem_range.mpr (by omega))
  have k4 := List.all_eq_true.mp k3 (h - 1) (List.mem_range.mpr (by omega))
  have k5 := List.all_eq_true.mp k4 o (by cases o <;> simp)
  rw [show w - 1 + 1 = w by omega, show h - 1 + 1 = h by omega, if_pos ⟨h1, h2⟩] at k5
  exact k5
theorem pcl_lt {wd hd x y w h i : Nat} (hp : PCE wd hd x y w h) (hi : i < w * h) : pcl wd x y w i < wd * hd := by
  obtain ⟨h1, h2, h3, h4, h5, h6⟩ := hp
  have a1 : i / w < h := Nat.div_lt_of_lt_mul hi
  have a2 : i % w < w := Nat.mod_lt _ (by omega)
  have a3 : (y + i / w) * wd ≤ (hd - 1) * wd := Nat.mul_le_mul_right _ (by omega)
  rw [Nat.sub_mul, Nat.one_mul, Nat.mul_comm hd wd] at a3
  have a4 : 1 * wd ≤ wd * hd := by rw [Nat.mul_comm]; exact Nat.mul_le_mul_left _ (by omega)
  unfold pcl
  omega
theorem inP_ex {wd x y w c : Nat} {o : Bool} : ∀ k, inP wd x y w o c k = true → ∃ i, i < k ∧ c = pcl wd x y w i
  | 0, h => by cases h
  | k + 1, h => by
    have h : (inP wd x y w o c k || (!(o && k == 3) && c == pcl wd x y w k)) = true := h
    rcases Bool.or_eq_true_iff.mp h with h1 | h1
    · obtain ⟨i, hi, e⟩ := inP_ex k h1
      exact ⟨i, by omega, e⟩
    · rw [Bool.and_eq_true] at h1
      exact ⟨k, by omega, eq_of_beq h1.2⟩
/-- the first cell is never left out -/
theorem inP_0 {wd x y w : Nat} {o : Bool} : ∀ k, 1 ≤ k → inP wd x y w o (pcl wd x y w 0) k = true
  | 0, h => absurd h (by omega)
  | k + 1, _ => by
    show (inP wd x y w o (pcl wd x y w 0) k || (!(o && k == 3) && pcl wd x y w 0 == pcl wd x y w k)) = true
    by_cases e : k = 0
    · subst e
      cases o <;> simp
    · rw [inP_0 k (by omega)]
      rfl
/-- the grid: n blocks, each a piece; 9 is wall -/
def GI (wd hd n : Nat) (G : Nat → Nat) : Prop := n ≤ 5 ∧ (∀ c, wd * hd ≤ c → G c = 0) ∧ (∀ c, G c ≤ n ∨ G c = 9) ∧ ∀ b, 1 ≤ b → b ≤ n → ∃ x y w h o, PCE wd hd x y w h ∧ ∀ c, G c = b ↔ inP wd x y w o c (w * h) = true
def gri (G : Nat → Nat) (wd x y w : Nat) (o : Bool) (v i : Nat) : Nat → Nat := fun c => if inP wd x y w o c i = true then v else G c
theorem gri_0 {G : Nat → Nat} {wd x y w v : Nat} {o : Bool} : gri G wd x y w o v 0 = G := by
  funext c
  unfold gri
  rw [if_neg (by intro h; cases h)]
theorem gri_in {G : Nat → Nat} {wd x y w v i : Nat} {o : Bool} (h : (o && i == 3) = false) : va_up (gri G wd x y w o v i) (pcl wd x y w i) v = gri G wd x y w o v (i + 1) := by
  funext c
  show va_up (gri G wd x y w o v i) (pcl wd x y w i) v c = if (inP wd x y w o c i || (!(o && i == 3) && c == pcl wd x y w i)) = true then v else G c
  by_cases e : c = pcl wd x y w i
  · rw [e, up_eq, if_pos (by rw [h]; simp)]
  · rw [up_ne _ e]
    have h2 : (c == pcl wd x y w i) = false := by simpa using e
    rw [h2]
    unfold gri
    simp
theorem gri_out {G : Nat → Nat} {wd hd x y w h v : Nat} (hp : PCE wd hd x y w h) (h3 : 3 < w * h) (hG : G (pcl wd x y w 3) = 0) : va_up (gri G wd x y w true v 3) (pcl wd x y w 3) 0 = gri G wd x y w true v 4 := by
  obtain ⟨a1, a2, a3, a4, a5, a6⟩ := hp
  have hw : w = 2 := by
    rcases (show w = 1 ∨ w = 2 by omega) with rfl | rfl
    · omega
    · rfl
  subst hw
  funext c
  show va_up (gri G wd x y 2 true v 3) (pcl wd x y 2 3) 0 c = if (inP wd x y 2 true c 3 || (!(true && 3 == 3) && c == pcl wd x y 2 3)) = true then v else G c
  have e1 : (!(true && (3 : Nat) == 3)) = false := by decide
  rw [e1, Bool.false_and, Bool.or_false]
  by_cases e : c = pcl wd x y 2 3
  · rw [e, up_eq, if_neg (fun h => ?_), hG]
    obtain ⟨i, hi, he⟩ := inP_ex 3 h
    unfold pcl at he
    rcases (show i = 0 ∨ i = 1 ∨ i = 2 by omega) with rfl | rfl | rfl
    · simp only [Nat.reduceDiv, Nat.reduceMod, Nat.add_mul] at he; omega
    · simp only [Nat.reduceDiv, Nat.reduceMod, Nat.add_mul] at he; omega
    · simp only [Nat.reduceDiv, Nat.reduceMod, Nat.add_mul] at he; omega
  · rw [up_ne _ e]
    rfl
/-- a new piece in the grid -/
theorem GI_add {wd hd n n2 x y w h v : Nat} {o : Bool} {G : Nat → Nat} (hG : GI wd hd n G) (hp : PCE wd hd x y w h) (h0 : ∀ i, i < w * h → G (pcl wd x y w i) = 0) (hv : (v = n + 1 ∧ n2 = n + 1 ∧ n2 ≤ 5) ∨ (v = 9 ∧ n2 = n)) : GI wd hd n2 (gri G wd x y w o v (w * h)) := by
  obtain ⟨g1, g2, g3, g4⟩ := hG
  have hin : ∀ c, inP wd x y w o c (w * h) = true → G c = 0 ∧ c < wd * hd := fun c hc => by
    obtain ⟨i, hi, e⟩ := inP_ex _ hc
    rw [e]
    exact ⟨h0 i hi, pcl_lt hp hi⟩
  have hb : ∀ b c, 1 ≤ b → b ≤ n → (gri G wd x y w o v (w * h) c = b ↔ G c = b) := fun b c h1 h2 => by
    unfold gri
    by_cases hc : inP wd x y w o c (w * h) = true
    · rw [if_pos hc, (hin c hc).1]
      constructor <;> intro h9 <;> omega
    · rw [if_neg hc]
  refine ⟨by omega, fun c hc => ?_, fun c => ?_, fun b h1 h2 => ?_⟩
  · unfold gri
    rw [if_neg (fun h9 => by have := (hin c h9).2; omega)]
    exact g2 c hc
  · unfold gri
    by_cases hc : inP wd x y w o c (w * h) = true
    · rw [if_pos hc]; omega
    · rw [if_neg hc]
      have := g3 c
      omega
  · by_cases e : b ≤ n
    · obtain ⟨x', y', w', h', o', e1, e2⟩ := g4 b h1 e
      exact ⟨x', y', w', h', o', e1, fun c => (hb b c h1 e).trans (e2 c)⟩
    · refine ⟨x, y, w, h, o, hp, fun c => ?_⟩
      unfold gri
      by_cases hc : inP wd x y w o c (w * h) = true
      · rw [if_pos hc]
        exact ⟨fun _ => hc, fun _ => by omega⟩
      · rw [if_neg hc]
        constructor
        · intro h9
          have := g3 c
          omega
        · intro h9; exact absurd h9 hc
/-! ===== the text ===== -/
/-- the sign of a cell -/
def sgn (v : Nat) : Nat := if v = 0 then 46 else if v = 9 then 35 else 122 - v
theorem sgn_0 {v : Nat} (h : v = 0) : sgn v = 46 := by rw [h]; rfl
theorem sgn_9 {v : Nat} (h : v = 9) : sgn v = 35 := by rw [h]; rfl
theorem sgn_l {v : Nat} (h0 : ¬ v = 0) (h : ¬ v = 9) : sgn v = 122 - v := by
  unfold sgn
  rw [if_neg h0, if_neg h]
theorem tOf_nI {q : Nat} (h1 : 32 ≤ q) (h2 : q ≤ 126) : tOf (nI q) = some q := by
  unfold tOf
  rw [nI_toInt (by omega), if_pos ⟨by omega, by omega⟩]
  rfl
theorem prun_ext {tx tx2 : Nat → Nat} : ∀ k, (∀ i, i < k → tx i = tx2 i) → prun tx k = prun tx2 k
  | 0, _ => rfl
  | k + 1, h => by
    show pnext (tx k) k (prun tx k) = pnext (tx2 k) k (prun tx2 k)
    rw [prun_ext k fun i hi => h i (by omega), h k (by omega)]
theorem prun_up {tx : Nat → Nat} {ln s : Nat} : prun (va_up tx ln s) ln = prun tx ln := prun_ext ln fun i hi => up_ne _ (by omega)
/-- letters and cells so far -/
def LI (G : Nat → Nat) (c : Nat) (cl : Nat → Nat) (m : Nat) (lt : Nat → Nat) : Prop := (∀ b, b < m → 117 ≤ lt b ∧ lt b ≤ 121 ∧ ∃ j, j < c ∧ cl j = 2 + b ∧ G j + lt b = 122) ∧ (∀ b b', b < m → b' < m → lt b = lt b' → b = b') ∧ ∀ j, j < c → (G j = 0 ∧ cl j = 0) ∨ (G j = 9 ∧ cl j = 1) ∨ (1 ≤ G j ∧ G j ≤ 5 ∧ ∃ b, b < m ∧ cl j = 2 + b ∧ G j + lt b = 122)
theorem LI_m {G cl lt : Nat → Nat} {c m : Nat} (h : LI G c cl m lt) : m ≤ 5 := by
  refine Nat.le_of_not_lt fun h5 => ?_
  obtain ⟨i, j, hij, hj, he⟩ := pigeon 5 m (fun b => lt b - 117) h5 (fun b hb => by have := h.1 b hb; omega)
  have h1 := h.1 i (by omega)
  have h2 := h.1 j hj
  have he : lt i - 117 = lt j - 117 := he
  have := h.2.1 i j (by omega) hj (by omega)
  omega
theorem LI_up {G cl lt : Nat → Nat} {c m v : Nat} (h : LI G c cl m lt) (hv : (G c = 0 ∧ v = 0) ∨ (G c = 9 ∧ v = 1) ∨ (1 ≤ G c ∧ G c ≤ 5 ∧ ∃ b, b < m ∧ v = 2 + b ∧ G c + lt b = 122)) : LI G (c + 1) (va_up cl c v) m lt := by
  obtain ⟨h1, h2, h3⟩ := h
  refine ⟨fun b hb => ?_, h2, fun j hj => ?_⟩
  · obtain ⟨a1, a2, j, hj, a3, a4⟩ := h1 b hb
    exact ⟨a1, a2, j, by omega, by rw [up_ne _ (by omega)]; exact a3, a4⟩
  · by_cases e : j = c
    · subst e; rw [up_eq]; exact hv
    · rw [up_ne _ e]; exact h3 j (by omega)
theorem LI_new {G cl lt : Nat → Nat} {c m s : Nat} (h : LI G c cl m lt) (h1 : 1 ≤ G c) (h5 : G c ≤ 5) (hs : G c + s = 122) (hn : ∀ b, b < m → lt b ≠ s) : LI G (c + 1) (va_up cl c (2 + m)) (m + 1) (va_up lt m s) := by
  obtain ⟨g1, g2, g3⟩ := h
  refine ⟨fun b hb => ?_, fun b b' hb hb' he => ?_, fun j hj => ?_⟩
  · by_cases e : b = m
    · subst e
      rw [up_eq]
      exact ⟨by omega, by omega, c, by omega, by rw [up_eq], hs⟩
    · rw [up_ne _ e]
      obtain ⟨a1, a2, j, hj, a3, a4⟩ := g1 b (by omega)
      exact ⟨a1, a2, j, by omega, by rw [up_ne _ (by omega)]; exact a3, a4⟩
  · by_cases e : b = m
    · by_cases e' : b' = m
      · omega
      · rw [e, up_eq, up_ne _ e'] at he
        exact absurd he.symm (hn b' (by omega))
    · by_cases e' : b' = m
      · rw [e', up_eq, up_ne _ e] at he
        exact absurd he (hn b (by omega))
      · rw [up_ne _ e, up_ne _ e'] at he
        exact g2 b b' (by omega) (by omega) he
  · by_cases e : j = c
    · subst e
      exact Or.inr (Or.inr ⟨h1, h5, m, by omega, by rw [up_eq], by rw [up_eq]; exact hs⟩)
    · rw [up_ne _ e]
      rcases g3 j (by omega) with h9 | h9 | ⟨b1, b2, b, hb, b3, b4⟩
      · exact Or.inl h9
      · exact Or.inr (Or.inl h9)
      · exact Or.inr (Or.inr ⟨b1, b2, b, by omega, b3, by rw [up_ne _ (by omega)]; exact b4⟩)
/-- one more cell is read -/
theorem cell_read {G tx cl lt fa : Nat → Nat} {ln wi hi row c m n wd hd : Nat} (hG : GI wd hd n G) (hL : LI G c cl m lt) (hp : prun tx ln = .inr (wi, hi, row, c, cl, m, lt, fa)) (hr : row < if hi = 0 then 6 else wi) (hc : c < 24) : ∃ cl2 m2 lt2 fa2, prun (va_up tx ln (sgn (G c))) (ln + 1) = .inr (wi, hi, row + 1, c + 1, cl2, m2, lt2, fa2) ∧ LI G (c + 1) cl2 m2 lt2 := by
  have hm5 := LI_m hL
  have hp2 : prun (va_up tx ln (sgn (G c))) ln = .inr (wi, hi, row, c, cl, m, lt, fa) := by rw [prun_up]; exact hp
  have hg := hG.2.2.1 c
  have hn5 := hG.1
  have key : ∀ s v, s ≠ 47 → (s = 46 ∨ s = 35 ∨ (97 ≤ s ∧ s ≤ 122)) → cv lt m s = some v → sgn (G c) = s → prun (va_up tx ln (sgn (G c))) (ln + 1) = .inr (wi, hi, row + 1, c + 1, va_up cl c v, m2 lt m s, lt2 lt m s, fa2 lt m s fa ln) := fun s v h1 h2 h3 h4 => by
    refine prun_s hp2 ?_
    rw [up_eq, h4]
    unfold pstep
    rw [if_neg h1, if_neg (fun h9 => ?_), h3]
    · rfl
    · rcases h9 with h9 | h9 | h9
      · exact h9 h2
      · omega
      · omega
  by_cases g0 : G c = 0
  · refine ⟨_, _, _, _, key 46 0 (by decide) (Or.inl rfl) rfl (sgn_0 g0), ?_⟩
    have e : isnew lt m 46 = false := by simp [isnew]
    unfold m2 lt2
    rw [e]
    exact LI_up hL (Or.inl ⟨g0, rfl⟩)
  · by_cases g9 : G c = 9
    · refine ⟨_, _, _, _, key 35 1 (by decide) (Or.inr (Or.inl rfl)) rfl (sgn_9 g9), ?_⟩
      have e : isnew lt m 35 = false := by simp [isnew]
      unfold m2 lt2
      rw [e]
      exact LI_up hL (Or.inr (Or.inl ⟨g9, rfl⟩))
    · obtain ⟨s, hs⟩ : ∃ s, 122 - G c = s := ⟨_, rfl⟩
      have hs2 : G c + s = 122 := by omega
      obtain ⟨k1, k2, k3⟩ := lk_spec (lt := lt) (c := s) (m := m)
      have hcv : cv lt m s = some (2 + lk lt s m) := by
        unfold cv
        rw [if_neg (by omega), if_neg (by omega), if_neg (by omega)]
      refine ⟨_, _, _, _, key s _ (by omega) (Or.inr (Or.inr ⟨by omega, by omega⟩)) hcv (by rw [sgn_l g0 g9, hs]), ?_⟩
      by_cases e : lk lt s m = m
      · have e1 : isnew lt m s = true := by
          unfold isnew
          rw [decide_eq_true (show s ≠ 35 by omega), decide_eq_true (show s ≠ 46 by omega), decide_eq_true e]
          rfl
        unfold m2 lt2
        rw [e1, e]
        rw [e] at k2
        exact LI_new hL (by omega) (by omega) hs2 k2
      · have e1 : isnew lt m s = false := by
          unfold isnew
          rw [decide_eq_false e, Bool.and_false]
        unfold m2 lt2
        rw [e1]
        show LI G (c + 1) (va_up cl c (2 + lk lt s m)) m lt
        exact LI_up hL (Or.inr (Or.inr ⟨by omega, by omega, lk lt s m, by omega, rfl, by rw [k3 (by omega)]; exact hs2⟩))
/-- the text of the first c cells -/
def TXI (wd : Nat) (G : Nat → Nat) (c : Nat) (tx : Nat → Nat) (ln : Nat) : Prop := ∃ wi hi row cl m lt fa, prun tx ln = .inr (wi, hi, row, c, cl, m, lt, fa) ∧ LI G c cl m lt ∧ (c = 0 → hi = 0 ∧ row = 0 ∧ ln = 0) ∧ (0 < c → hi = (c - 1) / wd ∧ row = (c - 1) % wd + 1 ∧ ln = c + hi ∧ (0 < hi → wi = wd))
theorem TXI_0 {wd : Nat} {G tx : Nat → Nat} : TXI wd G 0 tx 0 := ⟨0, 0, 0, _, 0, _, _, rfl, ⟨fun b hb => absurd hb (Nat.not_lt_zero b), fun b b' hb => absurd hb (Nat.not_lt_zero b), fun j hj => absurd hj (Nat.not_lt_zero j)⟩, fun _ => ⟨rfl, rfl, rfl⟩, fun h => absurd h (Nat.lt_irrefl 0)⟩
theorem TXI_ln {wd hd c ln : Nat} {G tx : Nat → Nat} (h : TXI wd G c tx ln) (ha : 2 ≤ wd ∧ wd ≤ 4) (hb : 2 ≤ hd ∧ hd ≤ 3) (hc : c ≤ wd * hd) : ln + 2 ≤ 30 := by
  obtain ⟨wi, hi, row, cl, m, lt, fa, -, -, h0, h1⟩ := h
  have h12 : wd * hd ≤ 12 := by
    have := Nat.mul_le_mul ha.2 hb.2
    omega
  by_cases e : c = 0
  · have := h0 e; omega
  · obtain ⟨e1, -, e2, -⟩ := h1 (by omega)
    have : (c - 1) / wd ≤ c - 1 := Nat.div_le_self _ _
    omega
/-- a cell that begins no row, or the first -/
theorem TXI_s {wd hd c ln n : Nat} {G tx : Nat → Nat} (hG : GI wd hd n G) (h : TXI wd G c tx ln) (ha : 2 ≤ wd ∧ wd ≤ 4) (hb : 2 ≤ hd ∧ hd ≤ 3) (hc : c < wd * hd) (hr : c = 0 ∨ ¬ c % wd = 0) : TXI wd G (c + 1) (va_up tx ln (sgn (G c))) (ln + 1) := by
  obtain ⟨wi, hi, row, cl, m, lt, fa, hp, hL, h0, h1⟩ := h
  have h12 : wd * hd ≤ 12 := by
    have := Nat.mul_le_mul ha.2 hb.2
    omega
  by_cases e : c = 0
  · obtain ⟨e1, e2, e3⟩ := h0 e
    obtain ⟨cl2, m2, lt2, fa2, hp2, hL2⟩ := cell_read hG hL hp (by rw [if_pos e1]; omega) (by omega)
    refine ⟨wi, hi, row + 1, cl2, m2, lt2, fa2, hp2, hL2, fun h => by omega, fun _ => ⟨?_, ?_, by omega, fun h => by omega⟩⟩
    · rw [e1, show c + 1 - 1 = 0 by omega, Nat.zero_div]
    · rw [e2, show c + 1 - 1 = 0 by omega, Nat.zero_mod]
  · obtain ⟨e1, e2, e3, e4⟩ := h1 (by omega)
    have hm : (c - 1) % wd + 1 < wd ∧ c / wd = (c - 1) / wd ∧ c % wd = (c - 1) % wd + 1 := by
      have q1 := Nat.div_add_mod (c - 1) wd
      have q2 := Nat.mod_lt (c - 1) (show 0 < wd by omega)
      have q3 : (c - 1) % wd + 1 ≠ wd := fun h9 => by
        have h8 : c = wd * ((c - 1) / wd + 1) := by rw [Nat.mul_add, Nat.mul_one]; omega
        rcases hr with hr | hr
        · exact e hr
        · exact hr (by rw [h8]; exact Nat.mul_mod_right _ _)
      have h7 : c = wd * ((c - 1) / wd) + ((c - 1) % wd + 1) := by omega
      refine ⟨by omega, ?_, ?_⟩
      · have := congrArg (· / wd) h7
        simp only [Nat.mul_add_div (show wd > 0 by omega), Nat.div_eq_of_lt (show (c - 1) % wd + 1 < wd by omega), Nat.add_zero] at this
        exact this
      · have := congrArg (· % wd) h7
        simp only [Nat.mul_add_mod, Nat.mod_eq_of_lt (show (c - 1) % wd + 1 < wd by omega)] at this
        exact this
    obtain ⟨cl2, m2, lt2, fa2, hp2, hL2⟩ := cell_read hG hL hp (by
      split
      · omega
      · rw [e4 (by omega)]; omega) (by omega)
    refine ⟨wi, hi, row + 1, cl2, m2, lt2, fa2, hp2, hL2, fun h => by omega, fun _ => ⟨?_, ?_, by omega, e4⟩⟩
    · rw [show c + 1 - 1 = c by omega, hm.2.1]; exact e1
    · rw [show c + 1 - 1 = c by omega, hm.2.2, e2]
/-- a cell that begins a row -/
theorem TXI_n {wd hd c ln n : Nat} {G tx : Nat → Nat} (hG : GI wd hd n G) (h : TXI wd G c tx ln) (ha : 2 ≤ wd ∧ wd ≤ 4) (hb : 2 ≤ hd ∧ hd ≤ 3) (hc : c < wd * hd) (hc0 : 0 < c) (hr : c % wd = 0) : TXI wd G (c + 1) (va_up (va_up tx ln 47) (ln + 1) (sgn (G c))) (ln + 1 + 1) := by
  obtain ⟨wi, hi, row, cl, m, lt, fa, hp, hL, h0, h1⟩ := h
  have h12 : wd * hd ≤ 12 := by
    have := Nat.mul_le_mul ha.2 hb.2
    omega
  obtain ⟨e1, e2, e3, e4⟩ := h1 hc0
  have hm : (c - 1) % wd + 1 = wd ∧ c / wd = (c - 1) / wd + 1 := by
    have q1 := Nat.div_add_mod (c - 1) wd
    have q2 := Nat.mod_lt (c - 1) (show 0 < wd by omega)
    have q3 : (c - 1) % wd + 1 = wd := Classical.byContradiction fun h9 => by
      have h7 : c = wd * ((c - 1) / wd) + ((c - 1) % wd + 1) := by omega
      have := congrArg (· % wd) h7
      simp only [Nat.mul_add_mod, Nat.mod_eq_of_lt (show (c - 1) % wd + 1 < wd by omega)] at this
      omega
    refine ⟨q3, ?_⟩
    have h7 : c = wd * ((c - 1) / wd + 1) := by rw [Nat.mul_add, Nat.mul_one]; omega
    have := congrArg (· / wd) h7
    simp only [Nat.mul_div_cancel_left _ (show 0 < wd by omega)] at this
    exact this
  have hhd : c / wd < hd := Nat.div_lt_of_lt_mul hc
  have hp2 : prun (va_up tx ln 47) (ln + 1) = .inr (row, hi + 1, 0, c, cl, m, lt, fa) := by
    refine prun_s (by rw [prun_up]; exact hp) ?_
    rw [up_eq]
    unfold pstep
    rw [if_pos rfl, if_neg (fun h9 => ?_)]
    rcases h9 with h9 | ⟨h9, h8⟩ | h9
    · omega
    · rw [e4 h9] at h8; omega
    · omega
  obtain ⟨cl2, m2, lt2, fa2, hp3, hL2⟩ := cell_read hG hL hp2 (by rw [if_neg (by omega)]; omega) (by omega)
  refine ⟨row, hi + 1, 0 + 1, cl2, m2, lt2, fa2, hp3, hL2, fun h => by omega, fun _ => ⟨?_, ?_, by omega, fun _ => by omega⟩⟩
  · rw [show c + 1 - 1 = c by omega, hm.2, e1]
  · rw [show c + 1 - 1 = c by omega, hr]
theorem TXI_read {wd hd ln n : Nat} {G tx : Nat → Nat} (hG : GI wd hd n G) (h : TXI wd G (wd * hd) tx ln) (ha : 2 ≤ wd ∧ wd ≤ 4) (hb : 2 ≤ hd ∧ hd ≤ 3) : ∃ cl, RDR tx ln wd hd cl n := by
  obtain ⟨wi, hi, row, cl, m, lt, fa, hp, hL, h0, h1⟩ := h
  have h12 : wd * hd ≤ 12 := by
    have := Nat.mul_le_mul ha.2 hb.2
    omega
  have h4 : 4 ≤ wd * hd := by
    have := Nat.mul_le_mul ha.1 hb.1
    omega
  obtain ⟨e1, e2, e3, e4⟩ := h1 (by omega)
  have hq : wd * hd - 1 = wd * (hd - 1) + (wd - 1) := by
    obtain ⟨k, rfl⟩ : ∃ k, hd = k + 1 := ⟨hd - 1, by omega⟩
    rw [Nat.mul_add, Nat.mul_one, Nat.add_sub_cancel]
    omega
  have ehi : hi = hd - 1 := by
    rw [e1, hq, Nat.mul_add_div (by omega), Nat.div_eq_of_lt (by omega), Nat.add_zero]
  have erow : row = wd := by
    rw [e2, hq, Nat.mul_add_mod, Nat.mod_eq_of_lt (by omega)]
    omega
  have hm5 := LI_m hL
  obtain ⟨g1, g2, g3, g4⟩ := hG
  obtain ⟨l1, l2, l3⟩ := hL
  have hmn : m ≤ n := Nat.le_of_not_lt fun hlt => by
    obtain ⟨i, j, hij, hj, he⟩ := pigeon n m (fun b => 121 - lt b) hlt (fun b hb => by
      obtain ⟨a1, a2, j, -, -, a3⟩ := l1 b hb
      have := g3 j
      show 121 - lt b < n
      omega)
    have he : 121 - lt i = 121 - lt j := he
    have b1 := l1 i (by omega)
    have b2 := l1 j hj
    have := l2 i j (by omega) hj (by omega)
    omega
  have hin : ∀ v, 1 ≤ v → v ≤ n → ∃ b, b < m ∧ v + lt b = 122 := fun v hv1 hv2 => by
    obtain ⟨x, y, w, h, o, hpc, hc⟩ := g4 v hv1 hv2
    have hw1 : 1 * 1 ≤ w * h := Nat.mul_le_mul hpc.2.2.1 hpc.2.2.2.2.1
    have hcell := (hc (pcl wd x y w 0)).mpr (inP_0 (w * h) (by omega))
    have hlt := pcl_lt hpc (show 0 < w * h by omega)
    rcases l3 _ hlt with ⟨h9, -⟩ | ⟨h9, -⟩ | ⟨-, -, b, hb9, -, h9⟩
    · omega
    · omega
    · exact ⟨b, hb9, by omega⟩
  have hnm : n ≤ m := Nat.le_of_not_lt fun hlt => by
    have ch : ∀ v : Nat, ∃ b, v < n → b < m ∧ (v + 1) + lt b = 122 := fun v => by
      by_cases hv : v < n
      · obtain ⟨b, h9⟩ := hin (v + 1) (by omega) (by omega)
        exact ⟨b, fun _ => h9⟩
      · exact ⟨0, fun h => absurd h hv⟩
    obtain ⟨f, hf⟩ := Classical.axiomOfChoice ch
    obtain ⟨i, j, hij, hj, he⟩ := pigeon m n f hlt (fun v hv => (hf v hv).1)
    have b1 := (hf i (by omega)).2
    have b2 := (hf j hj).2
    rw [he] at b1
    omega
  have emn : m = n := Nat.le_antisymm hmn hnm
  subst emn
  refine ⟨cl, by omega, by omega, by omega, by omega, by omega, by omega, fun b hb9 => ?_, ⟨lt, fa, ?_⟩, fun j hj => ?_⟩
  · obtain ⟨-, -, j, hj, h9, -⟩ := l1 b hb9
    exact ⟨j, hj, h9⟩
  · unfold pall
    rw [hp]
    show (if row = 0 ∨ (0 < hi ∧ row < wi) then Sum.inl ln else Sum.inr (row, hi + 1, 0, wd * hd, cl, m, lt, fa)) = _
    rw [if_neg (fun h9 => ?_), erow, show hi + 1 = hd by omega]
    rcases h9 with h9 | ⟨h9, h8⟩
    · omega
    · rw [e4 h9] at h8; omega
  · obtain ⟨a1, a2, c0, hc0, a3, a4⟩ := l1 j hj
    have hv : 1 ≤ 122 - lt j ∧ 122 - lt j ≤ m := by
      have := g3 c0
      omega
    obtain ⟨x, y, w, h, o, hpc, hc⟩ := g4 (122 - lt j) hv.1 hv.2
    have e : bset cl (2 + j) (wd * hd) = pb wd x y w o (w * h) := by
      refine Nat.eq_of_testBit_eq fun i => ?_
      rw [pb_bit]
      refine Bool.eq_iff_iff.mpr ?_
      rw [bset_bit, ← hc i]
      constructor
      · rintro ⟨hi9, h9⟩
        rcases l3 i hi9 with ⟨-, h8⟩ | ⟨-, h8⟩ | ⟨-, -, b, hb9, h8, h7⟩
        · omega
        · omega
        · have : b = j := by omega
          subst this
          omega
      · intro h9
        have hi9 : i < wd * hd := Nat.lt_of_not_le fun h8 => by
          have := g2 i h8
          omega
        refine ⟨hi9, ?_⟩
        rcases l3 i hi9 with ⟨h8, -⟩ | ⟨h8, -⟩ | ⟨-, -, b, hb9, h8, h7⟩
        · omega
        · omega
        · have := l2 b j hb9 hj (by omega)
          subst this
          exact h8
    rw [e]
    exact pb_one ha hb hpc
