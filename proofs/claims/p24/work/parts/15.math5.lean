/-! ===== moves of a state; distances of all states ===== -/
def mvk1 (wd hd nb wl : Nat) (sh bw bh : Nat → Nat) (gn : Option Nat) (z : Bool) (c k x : Nat) : Prop := ∃ F, LD (fstep wd hd (bw c) (bh c) (sh c) (tk wl sh k (exb gn (some c)) nb)) (fun y => y = plc k c) F ∧ ∃ q, isMv z (F q) = true ∧ x = wth k c q
def mvk (wd hd nb wl : Nat) (sh bw bh : Nat → Nat) (gn : Option Nat) (z : Bool) (k x : Nat) : Prop := ∃ c, c < nb ∧ gn ≠ some c ∧ mvk1 wd hd nb wl sh bw bh gn z c k x
def cF (n : Nat) (F : Nat → Option Nat) : Nat → Option Nat := fun i => if i < n then F i else none
def istp (K : Nat → Nat) (n : Nat) (M : Nat → Nat → Prop) (i j : Nat) : Prop := i < n ∧ j < n ∧ M (K i) (K j)
theorem cF_lt {n i : Nat} {F : Nat → Option Nat} (h : i < n) : cF n F i = F i := by unfold cF; rw [if_pos h]
theorem cF_some {n i d : Nat} {F : Nat → Option Nat} (h : cF n F i = some d) : i < n ∧ F i = some d := by
  unfold cF at h
  split at h
  · exact ⟨by assumption, h⟩
  · cases h
theorem cF_up {n i : Nat} {F : Nat → Option Nat} {v : Option Nat} (h : i < n) : cF n (va_up F i v) = va_up (cF n F) i v := by
  funext j
  unfold cF va_up
  by_cases e : j = i
  · subst e; simp [h]
  · simp [e]
theorem cF_no {u : Nat} {F : Nat → Option Nat} : cF (u + 1) (va_up F u none) = cF u F := by
  funext j
  unfold cF va_up
  by_cases e : j = u
  · subst e; simp
  · by_cases h : j < u
    · simp [e, h, show j < u + 1 by omega]
    · simp [e, h, show ¬ j < u + 1 by omega]
theorem cF_yes {u d : Nat} {F : Nat → Option Nat} : cF (u + 1) (va_up F u (some d)) = va_up (cF u F) u (some d) := by
  funext j
  unfold cF va_up
  by_cases e : j = u
  · subst e; simp
  · by_cases h : j < u
    · simp [e, h, show j < u + 1 by omega]
    · simp [e, h, show ¬ j < u + 1 by omega]
/-- the start of the search: the solved ones below u -/
def MS0 (step : Nat → Nat → Prop) (P : Nat → Prop) (F : Nat → Option Nat) (L : Nat → Nat) (l u : Nat) : Prop := BI step (fun i => i < u ∧ P i) (cF u F) L l 0 ∧ (∀ p d, cF u F p = some d → d = 0) ∧ l ≤ u
theorem MS0_0 {step : Nat → Nat → Prop} {P : Nat → Prop} {F : Nat → Option Nat} {L : Nat → Nat} : MS0 step P F L 0 0 := by
  have h0 : ∀ p, cF 0 F p = none := fun p => by unfold cF; rw [if_neg (Nat.not_lt_zero p)]
  have h1 := BI_none (step := step) (Q := L) h0
  rw [show (fun _ : Nat => False) = (fun i => i < 0 ∧ P i) from funext (fun i => propext ⟨fun h => h.elim, fun h => absurd h.1 (Nat.not_lt_zero i)⟩)] at h1
  exact ⟨h1, fun p d h => (by rw [h0] at h; cases h), Nat.le_refl 0⟩
theorem MS0_no {step : Nat → Nat → Prop} {P : Nat → Prop} {F : Nat → Option Nat} {L : Nat → Nat} {l u : Nat} (h : MS0 step P F L l u) (hn : ¬ P u) : MS0 step P (va_up F u none) L l (u + 1) := by
  obtain ⟨h1, h2, h3⟩ := h
  have e : (fun i => i < u + 1 ∧ P i) = (fun i => i < u ∧ P i) := funext (fun i => propext ⟨fun h => ⟨by
    have : i ≠ u := fun e => hn (e ▸ h.2)
    omega, h.2⟩, fun h => ⟨by omega, h.2⟩⟩)
  exact ⟨by rw [e, cF_no]; exact h1, by rw [cF_no]; exact h2, by omega⟩
theorem MS0_yes {step : Nat → Nat → Prop} {P : Nat → Prop} {F : Nat → Option Nat} {L : Nat → Nat} {l u : Nat} (h : MS0 step P F L l u) (hn : P u) : MS0 step P (va_up F u (some 0)) (va_up L l u) (l + 1) (u + 1) := by
  obtain ⟨h1, h2, h3⟩ := h
  have hu : cF u F u = none := by unfold cF; rw [if_neg (Nat.lt_irrefl u)]
  obtain ⟨a, b⟩ := BI_src h1 h2 hu
  have e : (fun i => i < u + 1 ∧ P i) = (fun i => (i < u ∧ P i) ∨ i = u) := funext (fun i => propext ⟨fun h => by
    by_cases e : i = u
    · exact Or.inr e
    · exact Or.inl ⟨by omega, h.2⟩, fun h => by
    rcases h with h | h
    · exact ⟨by omega, h.2⟩
    · exact ⟨by omega, h ▸ hn⟩⟩)
  exact ⟨by rw [e, cF_yes]; exact a, by rw [cF_yes]; exact b, by omega⟩
theorem BI_le {step : Nat → Nat → Prop} {S : Nat → Prop} {F : Nat → Option Nat} {Q : Nat → Nat} {m k N : Nat} (h : BI step S F Q m k) (hN : ∀ p d, F p = some d → p < N) : m ≤ N := by
  refine Nat.le_of_not_lt (fun hlt => ?_)
  obtain ⟨i, j, hij, hj, he⟩ := pigeon N m Q hlt (fun i hi => by
    obtain ⟨d, hd⟩ := h.2.1 i hi
    exact hN _ d hd)
  have := h.2.2.2.1 i j (by omega) hj he
  omega
/-- the others don't change when the block moves -/
theorem tk_wth {wl k b q : Nat} {sh : Nat → Nat} {gn : Option Nat} (hq : q < 32) (hb : b < 7) : ∀ n, n ≤ 7 → tk wl sh (wth k b q) (exb gn (some b)) n = tk wl sh k (exb gn (some b)) n
  | 0, _ => rfl
  | n + 1, hn => by
    show (if _ then _ else _) = (if _ then _ else _)
    rw [tk_wth hq hb n (by omega)]
    by_cases h : exb gn (some b) n = true
    · rw [if_pos h, if_pos h]
    · rw [if_neg h, if_neg h]
      have : n ≠ b := fun e => h (by subst e; simp [exb])
      rw [plc_wth_ne hq hb (by omega) this]
/-- where a block can come, the state is one of those that can be reached -/
theorem fl_has {wd hd nb wl : Nat} {sh bw bh : Nat → Nat} {gn : Option Nat} {k b n : Nat} {K : Nat → Nat} {F : Nat → Option Nat} (hf : FrV wd hd nb wl sh bw bh) (hb : b < nb) (hg : gn ≠ some b)
    (hF : LD (fstep wd hd (bw b) (bh b) (sh b) (tk wl sh k (exb gn (some b)) nb)) (fun y => y = plc k b) F)
    (hfb : ∀ x d, F x = some d → PlV wd hd (bw b) (bh b) x ∧ x < 24) (hcl : ∀ i, i < n → ∀ x, kst wd hd nb wl sh bw bh gn (K i) x → Has K n x) (hk : Has K n k) : ∀ d q, F q = some d → Has K n (wth k b q) := by
  have hn7 := hf.2.2.2.2.2.1
  intro d
  induction d with
  | zero =>
    intro q h
    have := hF.2.1 q h
    subst this
    rw [wth_self]; exact hk
  | succ d ih =>
    intro q h
    obtain ⟨r, hr, dd, hdd, hm⟩ := hF.2.2.1 q d h
    obtain ⟨i, hi, he⟩ := ih r hr
    have hr24 := (hfb r d hr).2
    refine hcl i hi _ ⟨b, hb, hg, dd, hdd, q, ?_, ?_⟩
    · rw [he, plc_wth_self (by omega), tk_wth (by omega) (by omega) nb hn7]; exact hm
    · rw [he, wth_wth (by omega) (by have := (hfb q _ h).2; omega)]
/-- what one look-up of the search does -/
def RCH (K : Nat → Nat) (n : Nat) (F : Nat → Option Nat) (L : Nat → Nat) (l x v i : Nat) (F2 : Nat → Option Nat) (L2 : Nat → Nat) (l2 : Nat) : Prop := i < n ∧ K i = x ∧ ((∃ e, F i = some e ∧ F2 = F ∧ L2 = L ∧ l2 = l) ∨ (F i = none ∧ F2 = va_up F i (some v) ∧ L2 = va_up L l i ∧ l2 = l + 1))
theorem RCH_s {M : Nat → Nat → Prop} {S : Nat → Prop} {K : Nat → Nat} {n : Nat} {F F2 : Nat → Option Nat} {L L2 : Nat → Nat} {l l2 x lv i u : Nat} (hB : BI (istp K n M) S (cF n F) L l u) (hu : u < l) (hl : cF n F (L u) = some lv) (hM : M (K (L u)) x) (h : RCH K n F L l x (lv + 1) i F2 L2 l2) :
    BI (istp K n M) S (cF n F2) L2 l2 u ∧ u < l2 ∧ L2 u = L u ∧ cF n F2 (L u) = some lv ∧ (∃ e, cF n F2 i = some e ∧ e ≤ lv + 1) ∧ (∀ j e, cF n F j = some e → cF n F2 j = some e) := by
  obtain ⟨hi, rfl, ⟨e, he, rfl, rfl, rfl⟩ | ⟨hnone, rfl, rfl, rfl⟩⟩ := h
  · have h1 : cF n F2 i = some e := by rw [cF_lt hi]; exact he
    exact ⟨hB, hu, rfl, hl, ⟨e, h1, BI_old hB hu hl h1⟩, fun _ _ h => h⟩
  · have h1 : cF n F i = none := by rw [cF_lt hi]; exact hnone
    have hne : L u ≠ i := fun e => by rw [e, h1] at hl; cases hl
    rw [cF_up hi]
    refine ⟨BI_push hB hu hl ⟨(cF_some hl).1, hi, hM⟩ h1, by omega, up_ne L (by omega), by rw [up_ne _ hne]; exact hl, ⟨lv + 1, up_eq _ _ _, Nat.le_refl _⟩, fun j e hj => ?_⟩
    rw [up_ne]
    · exact hj
    · intro e2; rw [e2, h1] at hj; cases hj
theorem isMv_in {z : Bool} {x : Option Nat} (h : isMv z x = true) : ∃ d, x = some d := by
  match x, h with
  | some d, _ => exact ⟨d, rfl⟩
  | none, h => cases h
theorem BI_zero {step : Nat → Nat → Prop} {S : Nat → Prop} {F : Nat → Option Nat} {Q : Nat → Nat} {m k : Nat} (h : BI step S F Q m k) : m = 0 ↔ ∀ p, F p = none := by
  constructor
  · intro e p
    cases hp : F p with
    | none => rfl
    | some d =>
      obtain ⟨i, hi, -⟩ := h.2.2.1 p d hp
      omega
  · intro hn
    refine Nat.eq_zero_of_not_pos (fun hm => ?_)
    obtain ⟨d, hd⟩ := h.2.1 0 hm
    rw [hn] at hd; cases hd
