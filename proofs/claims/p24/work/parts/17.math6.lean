/-! ===== what the answers are: numbers told by the graph alone ===== -/
def ENUM (S : Nat → Nat → Prop) (k0 : Nat) (K : Nat → Nat) (n : Nat) : Prop := (∀ i, i < n → Rch S k0 (K i)) ∧ (∀ i j, i < n → j < n → K i = K j → i = j) ∧ ∀ x, Rch S k0 x → Has K n x
def BIG (S : Nat → Nat → Prop) (k0 : Nat) : Prop := ∃ K : Nat → Nat, (∀ i, i < 2001 → Rch S k0 (K i)) ∧ ∀ i j, i < 2001 → j < 2001 → K i = K j → i = j
theorem Rch_t {S : Nat → Nat → Prop} {a b c : Nat} (h : Rch S a b) (h2 : Rch S b c) : Rch S a c := by
  obtain ⟨d, hd⟩ := h2
  induction d generalizing c with
  | zero => cases hd; exact h
  | succ d ih =>
    obtain ⟨y, hy, hs⟩ := hd
    exact Rch_s (ih hy) hs
theorem EI_enum {S : Nat → Nat → Prop} {V : Nat → Prop} {k0 n : Nat} {K T : Nat → Nat} {tm : Bool} (hE : EI S V k0 K n T tm) (hc : tm = false → ∀ i, i < n → ∀ x, S (K i) x → Has K n x) (ht : tm = false) : ENUM S k0 K n := by
  obtain ⟨h1, h2, h3, h4, h5, h6⟩ := hE
  refine ⟨fun i hi => (h5 i hi).1, h1.2.2.2.2, fun x hx => ?_⟩
  obtain ⟨d, hd⟩ := hx
  induction d generalizing x with
  | zero => cases hd; exact ⟨0, by omega, h4⟩
  | succ d ih =>
    obtain ⟨y, hy, hs⟩ := hd
    obtain ⟨i, hi, rfl⟩ := ih y hy
    exact hc ht i hi x hs
theorem EI_big {S : Nat → Nat → Prop} {V : Nat → Prop} {k0 n : Nat} {K T : Nat → Nat} {tm : Bool} (hE : EI S V k0 K n T tm) (ht : tm = true) : BIG S k0 := by
  obtain ⟨h1, h2, h3, h4, h5, h6⟩ := hE
  obtain ⟨hn, x, hx, -, hne⟩ := h6 ht
  refine ⟨fun i => if i < 2000 then K i else x, fun i hi => ?_, fun i j hi hj he => ?_⟩
  · show Rch S k0 (if i < 2000 then K i else x)
    split
    · exact (h5 i (by omega)).1
    · exact hx
  · dsimp only at he
    by_cases a : i < 2000
    · by_cases b : j < 2000
      · rw [if_pos a, if_pos b] at he; exact h1.2.2.2.2 i j (by omega) (by omega) he
      · rw [if_pos a, if_neg b] at he; exact absurd he (hne i (by omega))
    · by_cases b : j < 2000
      · rw [if_neg a, if_pos b] at he; exact absurd he.symm (hne j (by omega))
      · omega
/-- a sum over keys -/
def sumN (f : Nat → Nat) (K : Nat → Nat) : Nat → Nat
  | 0 => 0
  | n + 1 => sumN f K n + f (K n)
theorem sumN_congr {f g : Nat → Nat} {K L : Nat → Nat} : ∀ {n : Nat}, (∀ i, i < n → f (K i) = g (L i)) → sumN f K n = sumN g L n
  | 0, _ => rfl
  | n + 1, h => by
    show sumN f K n + f (K n) = sumN g L n + g (L n)
    rw [sumN_congr (fun i hi => h i (by omega)), h n (by omega)]
/-- one taken out, the last one put in its place -/
theorem sumN_out {f : Nat → Nat} {K : Nat → Nat} : ∀ {n j : Nat}, j < n + 1 → sumN f K (n + 1) = f (K j) + sumN f (fun i => if i = j then K n else K i) n
  | 0, j, hj => by
    have : j = 0 := by omega
    subst this
    show 0 + f (K 0) = f (K 0) + 0
    omega
  | n + 1, j, hj => by
    by_cases e : j = n + 1
    · subst e
      have h := sumN_congr (f := f) (g := f) (K := fun i => if i = n + 1 then K (n + 1) else K i) (L := K) (n := n + 1) (fun i hi => by rw [if_neg (by omega)])
      rw [h]
      show sumN f K (n + 1) + f (K (n + 1)) = _
      omega
    · have ih := sumN_out (f := f) (K := K) (n := n) (j := j) (by omega)
      show sumN f K (n + 1) + f (K (n + 1)) = f (K j) + (sumN f (fun i => if i = j then K (n + 1) else K i) n + f (if n = j then K (n + 1) else K n))
      rw [ih]
      by_cases e2 : n = j
      · subst e2
        rw [if_pos rfl]
        have h := sumN_congr (f := f) (g := f) (K := fun i => if i = n then K n else K i) (L := fun i => if i = n then K (n + 1) else K i) (n := n) (fun i hi => by rw [if_neg (by omega), if_neg (by omega)])
        rw [h]; omega
      · rw [if_neg e2]
        cases n with
        | zero => omega
        | succ m =>
          have h1 := sumN_out (f := f) (K := fun i => if i = j then K (m + 1) else K i) (n := m) (j := j) (by omega)
          have h2 := sumN_out (f := f) (K := fun i => if i = j then K (m + 1 + 1) else K i) (n := m) (j := j) (by omega)
          have h3 := sumN_congr (f := f) (g := f) (K := fun i => if i = j then (if m = j then K (m + 1) else K m) else (if i = j then K (m + 1) else K i)) (L := fun i => if i = j then (if m = j then K (m + 1 + 1) else K m) else (if i = j then K (m + 1 + 1) else K i)) (n := m) (fun i hi => by
            by_cases e3 : i = j
            · rw [if_pos e3, if_pos e3]
              by_cases e4 : m = j
              · omega
              · rw [if_neg e4, if_neg e4]
            · rw [if_neg e3, if_neg e3, if_neg e3, if_neg e3])
          simp only [↓reduceIte] at h1 h2
          omega
theorem sumN_le {f : Nat → Nat} : ∀ {n n' : Nat} {K K' : Nat → Nat}, (∀ i j, i < n → j < n → K i = K j → i = j) → (∀ i, i < n → Has K' n' (K i)) → sumN f K n ≤ sumN f K' n'
  | 0, n', K, K', _, _ => Nat.zero_le _
  | n + 1, n', K, K', hi, hh => by
    obtain ⟨j, hj, he⟩ := hh n (by omega)
    cases n' with
    | zero => omega
    | succ m =>
      rw [sumN_out (f := f) (K := K') hj]
      have := sumN_le (f := f) (n := n) (n' := m) (K := K) (K' := fun i => if i = j then K' m else K' i) (fun a b ha hb => hi a b (by omega) (by omega)) (fun i hi2 => by
        obtain ⟨a, ha, hae⟩ := hh i (by omega)
        have hne : a ≠ j := fun e => by
          subst e
          rw [he] at hae
          have := hi n i (by omega) (by omega) hae
          omega
        by_cases e : a = m
        · subst e
          exact ⟨j, by omega, by show (if j = j then K' a else K' j) = K i; rw [if_pos rfl]; exact hae⟩
        · exact ⟨a, by omega, by show (if a = j then K' m else K' a) = K i; rw [if_neg hne]; exact hae⟩)
      show sumN f K n + f (K n) ≤ _
      rw [← he]
      omega
theorem ENUM_sum {S : Nat → Nat → Prop} {k0 n n' : Nat} {K K' : Nat → Nat} (h : ENUM S k0 K n) (h' : ENUM S k0 K' n') (f : Nat → Nat) : sumN f K n = sumN f K' n' :=
  Nat.le_antisymm (sumN_le h.2.1 (fun i hi => h'.2.2 _ (h.1 i hi))) (sumN_le h'.2.1 (fun i hi => h.2.2 _ (h'.1 i hi)))
theorem sumN_one {K : Nat → Nat} : ∀ {n : Nat}, sumN (fun _ => 1) K n = n
  | 0 => rfl
  | n + 1 => by show sumN _ K n + 1 = n + 1; rw [sumN_one]
theorem ENUM_n {S : Nat → Nat → Prop} {k0 n n' : Nat} {K K' : Nat → Nat} (h : ENUM S k0 K n) (h' : ENUM S k0 K' n') : n = n' := by
  have := ENUM_sum h h' (fun _ => 1)
  rwa [sumN_one, sumN_one] at this
theorem ENUM_BIG {S : Nat → Nat → Prop} {k0 n : Nat} {K : Nat → Nat} (h : ENUM S k0 K n) (hn : n ≤ 2000) (hb : BIG S k0) : False := by
  obtain ⟨L, h1, h2⟩ := hb
  have := sumN_le (f := fun _ => 1) (n := 2001) (n' := n) (K := L) (K' := K) h2 (fun i hi => h.2.2 _ (h1 i hi))
  rw [sumN_one, sumN_one] at this
  omega
/-- the one thing that a relation tells -/
noncomputable def fOf {α : Type} (d : α) (R : α → Prop) : α := @dite α (∃ r, R r) (Classical.propDecidable _) (fun h => Classical.choose h) (fun _ => d)
theorem fOf_eq {α : Type} {d : α} {R : α → Prop} {r : α} (h : R r) (hu : ∀ r', R r' → r' = r) : r = fOf d R := by
  unfold fOf
  rw [dif_pos ⟨r, h⟩]
  exact (hu _ (Classical.choose_spec (⟨r, h⟩ : ∃ r, R r))).symm
/-! distances over the keys -/
noncomputable def keyF (K : Nat → Nat) (n : Nat) (F : Nat → Option Nat) (x : Nat) : Option Nat := @dite (Option Nat) (Has K n x) (Classical.propDecidable _) (fun h => F (Classical.choose h)) (fun _ => none)
theorem keyF_at {K : Nat → Nat} {n i : Nat} {F : Nat → Option Nat} (hi : i < n) (hinj : ∀ i j, i < n → j < n → K i = K j → i = j) : keyF K n F (K i) = F i := by
  unfold keyF
  have h : Has K n (K i) := ⟨i, hi, rfl⟩
  rw [dif_pos h]
  obtain ⟨a, b⟩ := Classical.choose_spec h
  rw [hinj _ _ a hi b]
theorem keyF_some {K : Nat → Nat} {n x d : Nat} {F : Nat → Option Nat} (hinj : ∀ i j, i < n → j < n → K i = K j → i = j) (h : keyF K n F x = some d) : ∃ i, i < n ∧ K i = x ∧ F i = some d := by
  by_cases hx : Has K n x
  · obtain ⟨i, hi, rfl⟩ := hx
    exact ⟨i, hi, rfl, by rw [← keyF_at (F := F) hi hinj]; exact h⟩
  · unfold keyF at h
    rw [dif_neg hx] at h
    cases h
def KD (S M : Nat → Nat → Prop) (P : Nat → Prop) (k0 : Nat) (F : Nat → Option Nat) : Prop := LD M (fun x => Rch S k0 x ∧ P x) F
theorem KD_of {S M : Nat → Nat → Prop} {P : Nat → Prop} {k0 n : Nat} {K : Nat → Nat} {F : Nat → Option Nat} (hE : ENUM S k0 K n) (hM : ∀ i, i < n → ∀ x, M (K i) x → Has K n x) (hF : LD (istp K n M) (fun i => i < n ∧ P (K i)) F) (hFn : ∀ i d, F i = some d → i < n) : KD S M P k0 (keyF K n F) := by
  have hinj := hE.2.1
  refine ⟨fun x hx => ?_, fun x hx => ?_, fun x d hx => ?_, fun x y d hx hs => ?_⟩
  · obtain ⟨i, hi, rfl⟩ := hE.2.2 x hx.1
    rw [keyF_at hi hinj]; exact hF.1 i ⟨hi, hx.2⟩
  · obtain ⟨i, hi, rfl, h⟩ := keyF_some hinj hx
    exact ⟨hE.1 i hi, (hF.2.1 i h).2⟩
  · obtain ⟨i, hi, rfl, h⟩ := keyF_some hinj hx
    obtain ⟨j, hj, h1, h2, h3⟩ := hF.2.2.1 i d h
    exact ⟨K j, by rw [keyF_at h1 hinj]; exact hj, h3⟩
  · obtain ⟨i, hi, rfl, h⟩ := keyF_some hinj hx
    obtain ⟨j, hj, rfl⟩ := hM i hi y hs
    obtain ⟨e, h1, h2⟩ := hF.2.2.2 i j d h ⟨hi, hj, hs⟩
    exact ⟨e, by rw [keyF_at hj hinj]; exact h1, h2⟩
/-- there is a least number of steps -/
theorem LD_ex (step : Nat → Nat → Prop) (S : Nat → Prop) : ∃ F, LD step S F := by
  have ch : ∀ p : Nat, ∃ o : Option Nat, (o = none ∧ ∀ d, ¬ ∃ s, S s ∧ pth step d s p) ∨ ∃ d, o = some d ∧ (∃ s, S s ∧ pth step d s p) ∧ ∀ j, j < d → ¬ ∃ s, S s ∧ pth step j s p := fun p => by
    by_cases h : ∃ d, ∃ s, S s ∧ pth step d s p
    · obtain ⟨d, h1, h2⟩ := pk_least (fun d => ∃ s, S s ∧ pth step d s p) h
      exact ⟨some d, Or.inr ⟨d, rfl, h1, h2⟩⟩
    · exact ⟨none, Or.inl ⟨rfl, fun d hd => h ⟨d, hd⟩⟩⟩
  obtain ⟨F, hF⟩ := Classical.axiomOfChoice ch
  have some_of : ∀ p d, F p = some d → (∃ s, S s ∧ pth step d s p) ∧ ∀ j, j < d → ¬ ∃ s, S s ∧ pth step j s p := fun p d h => by
    rcases hF p with ⟨h1, -⟩ | ⟨d', h1, h2⟩
    · rw [h1] at h; cases h
    · rw [h1] at h; cases h; exact h2
  have le_of : ∀ p d, (∃ s, S s ∧ pth step d s p) → ∃ e, F p = some e ∧ e ≤ d := fun p d h => by
    rcases hF p with ⟨h1, h2⟩ | ⟨d', h1, h2, h3⟩
    · exact absurd h (h2 d)
    · exact ⟨d', h1, Nat.le_of_not_lt (fun hlt => h3 d hlt h)⟩
  refine ⟨F, fun p hp => ?_, fun p hp => ?_, fun p d hp => ?_, fun q p d hq hs => ?_⟩
  · obtain ⟨e, he, hle⟩ := le_of p 0 ⟨p, hp, rfl⟩
    rw [he, Nat.le_zero.mp hle]
  · obtain ⟨⟨s, hs, h⟩, -⟩ := some_of p 0 hp
    cases h; exact hs
  · obtain ⟨⟨s, hs, q, hq, hst⟩, h2⟩ := some_of p _ hp
    obtain ⟨e, he, hle⟩ := le_of q d ⟨s, hs, hq⟩
    refine ⟨q, ?_, hst⟩
    by_cases e1 : e = d
    · rw [← e1]; exact he
    · exfalso
      obtain ⟨⟨s', hs', hq'⟩, -⟩ := some_of q e he
      exact h2 (e + 1) (by omega) ⟨s', hs', q, hq', hst⟩
  · obtain ⟨⟨s, hss, h⟩, -⟩ := some_of q d hq
    obtain ⟨e, he, hle⟩ := le_of p (d + 1) ⟨s, hss, q, h, hs⟩
    exact ⟨e, he, hle⟩
/-! steps can be taken back -/
def bck (d : Nat) : Nat := if d = 0 then 2 else if d = 1 then 3 else if d = 2 then 0 else 1
theorem stp_bck {wd hd w h p d q : Nat} (hw : 1 ≤ wd) (hw1 : 1 ≤ w) (hp : PlV wd hd w h p) (hd4 : d < 4) (hq : stp wd hd w h p d = some q) : stp wd hd w h q (bck d) = some p := by
  obtain ⟨hp1, hp2⟩ := hp
  have hml : p % wd < wd := Nat.mod_lt _ hw
  have key : ∀ y x : Nat, x < wd → (y * wd + x) % wd = x ∧ (y * wd + x) / wd = y := fun y x hx => by
    constructor
    · rw [Nat.mul_comm, Nat.mul_add_mod, Nat.mod_eq_of_lt hx]
    · rw [Nat.mul_comm, Nat.mul_add_div hw, Nat.div_eq_of_lt hx, Nat.add_zero]
  rcases (by omega : d = 0 ∨ d = 1 ∨ d = 2 ∨ d = 3) with rfl | rfl | rfl | rfl
  · rw [stp_0] at hq
    split at hq
    · rename_i hy
      have e := bs_up hy
      have hle : wd ≤ p := by
        have h1 := Nat.div_add_mod' p wd
        have h2 : 1 * wd ≤ p / wd * wd := Nat.mul_le_mul_right _ hy
        omega
      cases hq
      show stp wd hd w h (p - wd) 2 = some p
      obtain ⟨a, b⟩ := key (p / wd - 1) (p % wd + 0) (by omega)
      rw [e] at a b
      rw [stp_2, b, if_pos (by omega)]
      congr 1; omega
    · cases hq
  · rw [stp_1] at hq
    split at hq
    · cases hq
      show stp wd hd w h (p + 1) 3 = some p
      obtain ⟨a, b⟩ := key (p / wd + 0) (p % wd + 1) (by omega)
      rw [bs_rt] at a b
      rw [stp_3, a, if_pos (by omega)]
      congr 1
    · cases hq
  · rw [stp_2] at hq
    split at hq
    · cases hq
      show stp wd hd w h (p + wd) 0 = some p
      obtain ⟨a, b⟩ := key (p / wd + 1) (p % wd + 0) (by omega)
      rw [bs_dn] at a b
      rw [stp_0, if_pos (by rw [b]; exact Nat.le_add_left 1 _)]
      congr 1; omega
    · cases hq
  · rw [stp_3] at hq
    split at hq
    · rename_i hx
      cases hq
      show stp wd hd w h (p - 1) 1 = some p
      obtain ⟨a, b⟩ := key (p / wd + 0) (p % wd - 1) (by omega)
      rw [bs_lf hx] at a b
      rw [stp_1, a, if_pos (by omega)]
      congr 1
      have h1 := Nat.mod_le p wd
      omega
    · cases hq
section SYM
variable {wd hd nb wl : Nat} {sh bw bh : Nat → Nat} {gn : Option Nat}
theorem KV_kst {k x : Nat} (hf : FrV wd hd nb wl sh bw bh) (hk : KV wd hd nb wl sh bw bh gn k) (h : kst wd hd nb wl sh bw bh gn k x) : KV wd hd nb wl sh bw bh gn x := by
  obtain ⟨c, hc, hg, d, hd4, q, hm, rfl⟩ := h
  exact (KV_step hf hk hc hg hm).2.2
theorem kst_bck {k x : Nat} (hf : FrV wd hd nb wl sh bw bh) (hk : KV wd hd nb wl sh bw bh gn k) (h : kst wd hd nb wl sh bw bh gn k x) : kst wd hd nb wl sh bw bh gn x k := by
  obtain ⟨c, hc, hg, d, hd4, q, hm, rfl⟩ := h
  have hn7 := hf.2.2.2.2.2.1
  obtain ⟨hq, hpq, -⟩ := KV_step hf hk hc hg hm
  obtain ⟨h1, h2⟩ := mvt_inv hm
  obtain ⟨hp, ha, hb⟩ := hk.2.2 c hc hg
  have hs := hf.2.2.2.2.2.2.2 c hc
  refine ⟨c, hc, hg, bck d, by unfold bck; split; omega; split; omega; split <;> omega, plc k c, ?_, ?_⟩
  · rw [plc_wth_self (by omega), tk_wth (by omega) (by omega) nb hn7]
    exact mvt_go (stp_bck hf.1 hs.1 hp hd4 h1) (tk_and.mpr ⟨ha, fun b hb2 he => by
      obtain ⟨e1, e2⟩ := exb_f.mp he
      exact hb b hb2 e2 (fun e => e1 (by rw [e]))⟩)
  · rw [wth_wth (by omega) (plc_lt k c), wth_self]
theorem Rch_V {k x : Nat} (hf : FrV wd hd nb wl sh bw bh) (hk : KV wd hd nb wl sh bw bh gn k) (h : Rch (kst wd hd nb wl sh bw bh gn) k x) : KV wd hd nb wl sh bw bh gn x := by
  obtain ⟨d, hd⟩ := h
  induction d generalizing x with
  | zero => cases hd; exact hk
  | succ d ih =>
    obtain ⟨y, hy, hs⟩ := hd
    exact KV_kst hf (ih hy) hs
theorem Rch_bck {k x : Nat} (hf : FrV wd hd nb wl sh bw bh) (hk : KV wd hd nb wl sh bw bh gn k) (h : Rch (kst wd hd nb wl sh bw bh gn) k x) : Rch (kst wd hd nb wl sh bw bh gn) x k := by
  obtain ⟨d, hd⟩ := h
  induction d generalizing x with
  | zero => cases hd; exact Rch_0
  | succ d ih =>
    obtain ⟨y, hy, hs⟩ := hd
    exact Rch_t (Rch_s Rch_0 (kst_bck hf (Rch_V hf hk ⟨d, hy⟩) hs)) (ih hy)
/-- a step is a move -/
theorem kst_mvk {z : Bool} {k x : Nat} (hf : FrV wd hd nb wl sh bw bh) (hk : KV wd hd nb wl sh bw bh gn k) (h : kst wd hd nb wl sh bw bh gn k x) : mvk wd hd nb wl sh bw bh gn z k x := by
  obtain ⟨c, hc, hg, d, hd4, q, hm, rfl⟩ := h
  obtain ⟨F, hF⟩ := LD_ex (fstep wd hd (bw c) (bh c) (sh c) (tk wl sh k (exb gn (some c)) nb)) (fun y => y = plc k c)
  refine ⟨c, hc, hg, F, hF, q, ?_, rfl⟩
  obtain ⟨e, he, hle⟩ := hF.2.2.2 (plc k c) q 0 (hF.1 _ rfl) ⟨d, hd4, hm⟩
  have hne : e ≠ 0 := fun e0 => by
    subst e0
    have hq := hF.2.1 q he
    obtain ⟨h1, -⟩ := mvt_inv hm
    subst hq
    have hp := (hk.2.2 c hc hg).1
    have hs := hf.2.2.2.2.2.2.2 c hc
    rcases (by omega : d = 0 ∨ d = 1 ∨ d = 2 ∨ d = 3) with rfl | rfl | rfl | rfl
    · rw [stp_0] at h1; split at h1
      · have := Option.some.inj h1
        have h2 := Nat.div_add_mod' (plc k c) wd
        rename_i hy
        have h3 : 1 * wd ≤ plc k c / wd * wd := Nat.mul_le_mul_right _ hy
        have := hf.1
        omega
      · cases h1
    · rw [stp_1] at h1; split at h1
      · have := Option.some.inj h1; omega
      · cases h1
    · rw [stp_2] at h1; split at h1
      · have := Option.some.inj h1; have := hf.1; omega
      · cases h1
    · rw [stp_3] at h1; split at h1
      · have := Option.some.inj h1
        have := Nat.mod_le (plc k c) wd
        omega
      · cases h1
  rw [he, show e = 0 + 1 by omega]
  simp [isMv]
/-- with a solved state every state has a distance -/
theorem KD_all {z : Bool} {P : Nat → Prop} {k0 x : Nat} {F : Nat → Option Nat} (hf : FrV wd hd nb wl sh bw bh) (hk : KV wd hd nb wl sh bw bh gn k0) (hF : KD (kst wd hd nb wl sh bw bh gn) (mvk wd hd nb wl sh bw bh gn z) P k0 F) (hs : ∃ y, F y ≠ none) (hx : Rch (kst wd hd nb wl sh bw bh gn) k0 x) : ∃ d, F x = some d := by
  obtain ⟨y, hy⟩ := hs
  have src : ∀ d y, F y = some d → ∃ s, Rch (kst wd hd nb wl sh bw bh gn) k0 s ∧ F s = some 0 := by
    intro d
    induction d with
    | zero => intro y h; exact ⟨y, (hF.2.1 y h).1, h⟩
    | succ d ih =>
      intro y h
      obtain ⟨q, hq, -⟩ := hF.2.2.1 y d h
      exact ih q hq
  cases hyd : F y with
  | none => exact absurd hyd hy
  | some d =>
    obtain ⟨s, hs, hs0⟩ := src d y hyd
    obtain ⟨d2, hp⟩ := Rch_t (Rch_bck hf hk hs) hx
    have hsV := Rch_V hf hk hs
    clear hx
    induction d2 generalizing x with
    | zero => cases hp; exact ⟨0, hs0⟩
    | succ d2 ih =>
      obtain ⟨w, hw, hst⟩ := hp
      obtain ⟨e, he⟩ := ih hw
      obtain ⟨e2, he2, -⟩ := hF.2.2.2 w x e he (kst_mvk hf (Rch_V hf hsV ⟨d2, hw⟩) hst)
      exact ⟨e2, he2⟩
/-- moves stay among the states that can be reached -/
theorem mvk_has {z : Bool} {k n : Nat} {K : Nat → Nat} {x : Nat} (hf : FrV wd hd nb wl sh bw bh) (hv : KV wd hd nb wl sh bw bh gn k) (hcl : ∀ i, i < n → ∀ x, kst wd hd nb wl sh bw bh gn (K i) x → Has K n x) (hk : Has K n k) (h : mvk wd hd nb wl sh bw bh gn z k x) : Has K n x := by
  obtain ⟨c, hc, hg, F, hF, q, hq, rfl⟩ := h
  obtain ⟨d, hd9⟩ := isMv_in hq
  have hs := hf.2.2.2.2.2.2.2 c hc
  have hp := (hv.2.2 c hc hg).1
  refine fl_has hf hc hg hF (fun y e hy => ?_) hcl hk d q hd9
  have pl : ∀ e y, F y = some e → PlV wd hd (bw c) (bh c) y := by
    intro e
    induction e with
    | zero => intro y hy; rw [hF.2.1 y hy]; exact hp
    | succ e ih =>
      intro y hy
      obtain ⟨r, hr, dd, -, hm⟩ := hF.2.2.1 y e hy
      exact stp_pl hf.1 hs.1 (ih r hr) (mvt_inv hm).1
  exact ⟨pl e y hy, fr_lt hf.1 hf.2.2.2.2.1 hs.2.2.1 (pl e y hy)⟩
end SYM
