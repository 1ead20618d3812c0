/-! ===== p24: the answers in the three cases ===== -/
section CCs
variable {wd hd nb wl : Nat} {sh bw bh : Nat → Nat} {g ap k n : Nat} {F : Bool → Nat → Option Nat}
/-- a solved state can be reached: n states, with their distances -/
def CC (wd hd nb wl : Nat) (sh bw bh : Nat → Nat) (g ap n : Nat) (F : Bool → Nat → Option Nat) (k : Nat) : Prop := FrV wd hd nb wl sh bw bh ∧ KV wd hd nb wl sh bw bh none k ∧ 1 ≤ n ∧ n ≤ 2000 ∧ (∃ K, ENUM (kst wd hd nb wl sh bw bh none) k K n) ∧ (∀ z, KD (kst wd hd nb wl sh bw bh none) (mvk wd hd nb wl sh bw bh none z) (fun x => plc x g = ap) k (F z)) ∧ ∃ x, Rch (kst wd hd nb wl sh bw bh none) k x ∧ plc x g = ap
/-- none can -/
def CN (wd hd nb wl : Nat) (sh bw bh : Nat → Nat) (g ap n : Nat) (k : Nat) : Prop := 1 ≤ n ∧ n ≤ 2000 ∧ (∃ K, ENUM (kst wd hd nb wl sh bw bh none) k K n) ∧ ∀ x, Rch (kst wd hd nb wl sh bw bh none) k x → plc x g ≠ ap
theorem cc_or (hf : FrV wd hd nb wl sh bw bh) (hk : KV wd hd nb wl sh bw bh none k) (g ap : Nat) : BIG (kst wd hd nb wl sh bw bh none) k ∨ (∃ n, CN wd hd nb wl sh bw bh g ap n k) ∨ ∃ n F, CC wd hd nb wl sh bw bh g ap n F k := by
  rcases enum_or (kst wd hd nb wl sh bw bh none) k with h | ⟨K, n, h1, h2, hE⟩
  · exact Or.inl h
  · by_cases hx : ∃ x, Rch (kst wd hd nb wl sh bw bh none) k x ∧ plc x g = ap
    · obtain ⟨F0, h0⟩ := LD_ex (mvk wd hd nb wl sh bw bh none false) (fun x => Rch (kst wd hd nb wl sh bw bh none) k x ∧ plc x g = ap)
      obtain ⟨F1, h3⟩ := LD_ex (mvk wd hd nb wl sh bw bh none true) (fun x => Rch (kst wd hd nb wl sh bw bh none) k x ∧ plc x g = ap)
      exact Or.inr (Or.inr ⟨n, fun z => if z then F1 else F0, hf, hk, h1, h2, ⟨K, hE⟩, fun z => by cases z; exact h0; exact h3, hx⟩)
    · exact Or.inr (Or.inl ⟨n, h1, h2, ⟨K, hE⟩, fun x hr he => hx ⟨x, hr, he⟩⟩)
/-! too many -/
theorem big_states {S : Nat → Nat → Prop} (h : BIG S k) : f_states S k = -3 := (f_states_eq (Or.inl ⟨h, rfl⟩)).symm
theorem big_solved {S : Nat → Nat → Prop} (h : BIG S k) : f_solved S (some g) (some ap) k = -3 := (f_solved_eq (Or.inl ⟨h, rfl⟩)).symm
theorem big_dist {S M : Nat → Nat → Prop} (h : BIG S k) : f_dist S M (some g) (some ap) k = -3 := (f_dist_eq (Or.inl ⟨h, rfl⟩)).symm
theorem big_worst {S M : Nat → Nat → Prop} (h : BIG S k) : f_worst S M (some g) (some ap) k = -3 := (f_worst_eq (Or.inl ⟨h, rfl⟩)).symm
theorem big_hint {S M : Nat → Nat → Prop} {fl : Nat → Nat → Option Nat} {z : Bool} (h : BIG S k) : f_hint S M nb fl z (some g) (some ap) k = .inl (-3) := (f_hint_eq (Or.inl ⟨h, rfl⟩)).symm
theorem big_places {S : Nat → Nat → Prop} {b : Nat} (h : BIG S k) : f_places S b k = -3 := (f_places_eq (Or.inl ⟨h, rfl⟩)).symm
/-! no solved state -/
theorem cn_kd {z : Bool} (h : CN wd hd nb wl sh bw bh g ap n k) : KD (kst wd hd nb wl sh bw bh none) (mvk wd hd nb wl sh bw bh none z) (fun x => plc x g = ap) k (fun _ => none) := by
  refine ⟨fun x hx => absurd hx.2 (h.2.2.2 x hx.1), fun x hx => ?_, fun x d hx => ?_, fun x y d hx => ?_⟩
  · cases hx
  · cases hx
  · cases hx
theorem cn_d {z : Bool} {α : Type} {big non : α} {R : (Nat → Nat) → Nat → (Nat → Option Nat) → α → Prop} (h : CN wd hd nb wl sh bw bh g ap n k) : sp_d (kst wd hd nb wl sh bw bh none) (mvk wd hd nb wl sh bw bh none z) (fun x => plc x g = ap) k big non R non := by
  obtain ⟨K, hE⟩ := h.2.2.1
  exact Or.inr ⟨K, n, _, h.2.1, hE, cn_kd h, Or.inl ⟨fun _ => rfl, rfl⟩⟩
theorem cn_states (h : CN wd hd nb wl sh bw bh g ap n k) : f_states (kst wd hd nb wl sh bw bh none) k = nI n := by
  obtain ⟨K, hE⟩ := h.2.2.1
  exact (f_states_eq (Or.inr ⟨K, n, h.2.1, hE, rfl⟩)).symm
theorem cn_solved (h : CN wd hd nb wl sh bw bh g ap n k) : f_solved (kst wd hd nb wl sh bw bh none) (some g) (some ap) k = nI 0 := by
  obtain ⟨K, hE⟩ := h.2.2.1
  refine (f_solved_eq (Or.inr ⟨K, n, h.2.1, hE, ?_⟩)).symm
  rw [(sum01_0 n).mpr fun i hi => ?_]
  show (if plc (K i) g = ap then 1 else 0) = 0
  rw [if_neg (h.2.2.2 _ (hE.1 i hi))]
theorem cn_dist {z : Bool} (h : CN wd hd nb wl sh bw bh g ap n k) : f_dist (kst wd hd nb wl sh bw bh none) (mvk wd hd nb wl sh bw bh none z) (some g) (some ap) k = -9 := (f_dist_eq (cn_d h)).symm
theorem cn_worst {z : Bool} (h : CN wd hd nb wl sh bw bh g ap n k) : f_worst (kst wd hd nb wl sh bw bh none) (mvk wd hd nb wl sh bw bh none z) (some g) (some ap) k = -9 := (f_worst_eq (cn_d h)).symm
theorem cn_hint {z : Bool} {fl : Nat → Nat → Option Nat} (h : CN wd hd nb wl sh bw bh g ap n k) : f_hint (kst wd hd nb wl sh bw bh none) (mvk wd hd nb wl sh bw bh none z) nb fl z (some g) (some ap) k = .inl (-9) := (f_hint_eq (cn_d h)).symm
theorem cn_hard {z : Bool} (h : CN wd hd nb wl sh bw bh g ap n k) : f_hard (kst wd hd nb wl sh bw bh none) (mvk wd hd nb wl sh bw bh none z) (some g) (some ap) k = none := (f_hard_eq (cn_d h)).symm
theorem cn_mean {z : Bool} (h : CN wd hd nb wl sh bw bh g ap n k) : f_mean (kst wd hd nb wl sh bw bh none) (mvk wd hd nb wl sh bw bh none z) (some g) (some ap) k = 3212836864 := (f_mean_eq (cn_d h)).symm
/-! some solved state -/
theorem CC.mv {x : Nat} (h : CC wd hd nb wl sh bw bh g ap n F k) (hr : Rch (kst wd hd nb wl sh bw bh none) k x) : CC wd hd nb wl sh bw bh g ap n F x := by
  obtain ⟨hf, hk, h1, h2, ⟨K, hE⟩, h3, y, h4, h5⟩ := h
  exact ⟨hf, Rch_V hf hk hr, h1, h2, ⟨K, ENUM_mv hf hk hr hE⟩, fun z => KD_mv hf hk hr (h3 z), y, (rch_iff hf hk hr y).mp h4, h5⟩
theorem CC.ex (h : CC wd hd nb wl sh bw bh g ap n F k) (z : Bool) : ∃ x, F z x ≠ none := by
  obtain ⟨hf, hk, h1, h2, ⟨K, hE⟩, h3, y, h4, h5⟩ := h
  exact ⟨y, by rw [(h3 z).1 y ⟨h4, h5⟩]; exact fun h => by cases h⟩
theorem CC.all (h : CC wd hd nb wl sh bw bh g ap n F k) (z : Bool) {x : Nat} (hr : Rch (kst wd hd nb wl sh bw bh none) k x) : ∃ d, F z x = some d := KD_all h.1 h.2.1 (h.2.2.2.2.2.1 z) (h.ex z) hr
theorem CC.lt (h : CC wd hd nb wl sh bw bh g ap n F k) {z : Bool} {x d : Nat} (hd9 : F z x = some d) : d < n := by
  obtain ⟨hf, hk, h1, h2, ⟨K, hE⟩, h3, -⟩ := h
  exact LD_n (h3 z) (fun y e hy => hE.2.2 y (KD_R hf hk (h3 z) e y hy)) hd9
theorem CC.R (h : CC wd hd nb wl sh bw bh g ap n F k) {z : Bool} {x d : Nat} (hd9 : F z x = some d) : Rch (kst wd hd nb wl sh bw bh none) k x := KD_R h.1 h.2.1 (h.2.2.2.2.2.1 z) d x hd9
theorem CC.d {α : Type} {big non r : α} {R : (Nat → Nat) → Nat → (Nat → Option Nat) → α → Prop} (h : CC wd hd nb wl sh bw bh g ap n F k) (z : Bool) (hR : ∀ K, ENUM (kst wd hd nb wl sh bw bh none) k K n → R K n (F z) r) : sp_d (kst wd hd nb wl sh bw bh none) (mvk wd hd nb wl sh bw bh none z) (fun x => plc x g = ap) k big non R r := by
  have hx := h.ex z
  obtain ⟨hf, hk, h1, h2, ⟨K, hE⟩, h3, -⟩ := h
  exact Or.inr ⟨K, n, F z, h2, hE, h3 z, Or.inr ⟨hx, hR K hE⟩⟩
theorem CC.states (h : CC wd hd nb wl sh bw bh g ap n F k) : f_states (kst wd hd nb wl sh bw bh none) k = nI n := by
  obtain ⟨hf, hk, h1, h2, ⟨K, hE⟩, -⟩ := h
  exact (f_states_eq (Or.inr ⟨K, n, h2, hE, rfl⟩)).symm
theorem CC.solved (h : CC wd hd nb wl sh bw bh g ap n F k) : ∃ c, 1 ≤ c ∧ c ≤ n ∧ f_solved (kst wd hd nb wl sh bw bh none) (some g) (some ap) k = nI c := by
  obtain ⟨hf, hk, h1, h2, ⟨K, hE⟩, h3, y, h4, h5⟩ := h
  refine ⟨sumN (fun x => if plc x g = ap then 1 else 0) K n, ?_, sum01_le (fun x => by split <;> omega) n, (f_solved_eq (Or.inr ⟨K, n, h2, hE, rfl⟩)).symm⟩
  refine Nat.pos_of_ne_zero fun h0 => ?_
  obtain ⟨i, hi, rfl⟩ := hE.2.2 y h4
  have h6 := (sum01_0 n).mp h0 i hi
  simp only [h5, if_pos] at h6
  cases h6
theorem CC.dist (h : CC wd hd nb wl sh bw bh g ap n F k) {z : Bool} {d : Nat} (hd9 : F z k = some d) : f_dist (kst wd hd nb wl sh bw bh none) (mvk wd hd nb wl sh bw bh none z) (some g) (some ap) k = nI d := (f_dist_eq (h.d z fun _ _ => ⟨d, hd9, rfl⟩)).symm
theorem CC.mx (h : CC wd hd nb wl sh bw bh g ap n F k) (z : Bool) : ∃ w, ismax (F z) w := mx_of n (fun y e hy => Nat.le_of_lt (h.lt hy)) (h.ex z)
theorem CC.worst (h : CC wd hd nb wl sh bw bh g ap n F k) {z : Bool} {w : Nat} (hw : ismax (F z) w) : f_worst (kst wd hd nb wl sh bw bh none) (mvk wd hd nb wl sh bw bh none z) (some g) (some ap) k = nI w := (f_worst_eq (h.d z fun _ _ => ⟨w, hw, rfl⟩)).symm
theorem CC.sol (h : CC wd hd nb wl sh bw bh g ap n F k) {z : Bool} : F z k = some 0 ↔ plc k g = ap := ⟨fun h1 => ((h.2.2.2.2.2.1 z).2.1 k h1).2, fun h1 => (h.2.2.2.2.2.1 z).1 k ⟨Rch_0, h1⟩⟩
theorem CC.le (h : CC wd hd nb wl sh bw bh g ap n F k) {x d e : Nat} (hd9 : F false x = some d) (he : F true x = some e) : e ≤ d := by
  obtain ⟨r, hr, hle⟩ := LD_mono (pr := fun y => y) (h.2.2.2.2.2.1 false) (h.2.2.2.2.2.1 true) (fun p hp => hp) (fun q p _ _ hm => Or.inl (mvk_ft hm)) d x hd9
  have hr : F true x = some r := hr
  rw [he] at hr
  have := Option.some.inj hr
  omega
theorem CC.hint0 (h : CC wd hd nb wl sh bw bh g ap n F k) {z : Bool} {fl : Nat → Nat → Option Nat} (hd9 : F z k = some 0) : f_hint (kst wd hd nb wl sh bw bh none) (mvk wd hd nb wl sh bw bh none z) nb fl z (some g) (some ap) k = .inr none := (f_hint_eq (h.d z fun _ _ => ⟨none, Or.inl ⟨fun b q ho => by
  obtain ⟨-, -, e, -, h2⟩ := ho
  rw [hd9] at h2
  have := Option.some.inj h2
  omega, rfl⟩, rfl⟩)).symm
theorem CC.hint (h : CC wd hd nb wl sh bw bh g ap n F k) {z : Bool} {e : Nat} (hd9 : F z k = some (e + 1)) : ∃ b q, b < nb ∧ q < 24 ∧ q ≠ plc k b ∧ f_hint (kst wd hd nb wl sh bw bh none) (mvk wd hd nb wl sh bw bh none z) nb (flo wd hd nb wl sh bw bh none k) z (some g) (some ap) k = .inr (some (b, q)) ∧ F z (wth k b q) = some e ∧ Rch (kst wd hd nb wl sh bw bh none) k (wth k b q) ∧ isMv z (flo wd hd nb wl sh bw bh none k b q) = true := by
  obtain ⟨b, q, ho, hr⟩ := rhint_ex h.1 h.2.1 (h.2.2.2.2.2.1 z) hd9
  obtain ⟨hb, hm, e', h1, h2⟩ := id ho
  have hF := flo_ld wd hd nb wl sh bw bh none k b
  obtain ⟨d, hdd⟩ := isMv_pos hm
  have hq24 := (fl_pl h.1 h.2.1 hb (fun h => by cases h) hF _ q hdd).2
  have ee : e' = e := by rw [hd9] at h2; have := Option.some.inj h2; omega
  subst ee
  refine ⟨b, q, hb, hq24, fun e9 => ?_, (f_hint_eq (h.d z fun _ _ => ⟨_, hr, rfl⟩)).symm, h1, h.R h1, hm⟩
  have h3 := hF.1 q e9
  rw [hdd] at h3
  cases h3
theorem CC.places (h : CC wd hd nb wl sh bw bh g ap n F k) (hg : g < nb) : ∃ m, m < 2 ^ 24 ∧ m.testBit ap = true ∧ f_places (kst wd hd nb wl sh bw bh none) g k = nI m := by
  obtain ⟨hf, hk, h1, h2, ⟨K, hE⟩, h3, y, h4, h5⟩ := h
  refine ⟨orN K g n, lt_of_bits fun i hi => ?_, ?_, (f_places_eq (Or.inr ⟨K, n, _, h2, hE, rfl, fun i => orN_bit⟩)).symm⟩
  · refine Bool.eq_false_iff.mpr fun hb => ?_
    obtain ⟨j, hj, e⟩ := orN_bit.mp hb
    have hV := Rch_V hf hk (hE.1 j hj)
    have := fr_lt hf.1 hf.2.2.2.2.1 (hf.2.2.2.2.2.2.2 g hg).2.2.1 (hV.2.2 g hg (fun h => by cases h)).1
    omega
  · obtain ⟨i, hi, rfl⟩ := hE.2.2 y h4
    exact orN_bit.mpr ⟨i, hi, h5⟩
theorem CC.hard (h : CC wd hd nb wl sh bw bh g ap n F k) {z : Bool} {w : Nat} (hw : ismax (F z) w) : ∃ x, F z x = some w ∧ f_hard (kst wd hd nb wl sh bw bh none) (mvk wd hd nb wl sh bw bh none z) (some g) (some ap) k = some x := by
  obtain ⟨x, h1, h2⟩ := pk_least (fun x => F z x = some w) hw.1
  refine ⟨x, h1, (f_hard_eq (h.d z fun _ _ => ⟨x, ⟨w, hw, h1, fun y hy => ?_⟩, rfl⟩)).symm⟩
  exact Nat.le_of_not_lt fun h3 => h2 y h3 hy
theorem CC.mean (h : CC wd hd nb wl sh bw bh g ap n F k) {z : Bool} {w : Nat} (hw : ismax (F z) w) : ∃ s, s ≤ n * w ∧ f_mean (kst wd hd nb wl sh bw bh none) (mvk wd hd nb wl sh bw bh none z) (some g) (some ap) k = FP.fdiv (FP.i2f (nI s)) (FP.i2f (nI n)) := by
  have hd9 := fun r hR => (f_mean_eq (h.d (r := r) (big := 3212836864) (non := 3212836864) z hR)).symm
  obtain ⟨K, hE⟩ := h.2.2.2.2.1
  refine ⟨sumN (fun x => (F z x).getD 0) K n, sum_le n fun i hi => ?_, hd9 _ fun K' hE' => by rw [ENUM_sum hE hE']⟩
  cases h9 : F z (K i) with
  | none => exact Nat.zero_le _
  | some e => exact hw.2 _ e h9
theorem CC.without (h : CC wd hd nb wl sh bw bh g ap n F k) {z : Bool} {b d : Nat} (hb : b < nb) (hg : g < nb) (hbg : b ≠ g) (hd9 : F z k = some d) : f_dist (kst wd hd nb wl sh bw bh (some b)) (mvk wd hd nb wl sh bw bh (some b) z) (some g) (some ap) (wth k b 0) = -3 ∨ ∃ e, e ≤ d ∧ f_dist (kst wd hd nb wl sh bw bh (some b)) (mvk wd hd nb wl sh bw bh (some b) z) (some g) (some ap) (wth k b 0) = nI e := by
  have hf := h.1
  have hk := h.2.1
  have hn7 := hf.2.2.2.2.2.1
  rcases enum_or (kst wd hd nb wl sh bw bh (some b)) (wth k b 0) with hB | ⟨K, m, h1, h2, hE⟩
  · exact Or.inl (big_dist hB)
  · refine Or.inr ?_
    obtain ⟨G, hG⟩ := LD_ex (mvk wd hd nb wl sh bw bh (some b) z) (fun x => Rch (kst wd hd nb wl sh bw bh (some b)) (wth k b 0) x ∧ plc x g = ap)
    obtain ⟨e, he, hle⟩ := LD_mono (pr := fun y => wth y b 0) (h.2.2.2.2.2.1 z) hG (fun p hp => ⟨rm_root hf hk hb hp.1, by rw [plc_wth_ne (by decide) (by omega) (by omega) (Ne.symm hbg)]; exact hp.2⟩) (fun q p e hq hm => mvk_rm hf (Rch_V hf hk (h.R hq)) hb hm) d k hd9
    exact ⟨e, hle, (f_dist_eq (Or.inr ⟨K, m, G, h2, hE, hG, Or.inr ⟨⟨_, fun h9 => by rw [h9] at he; cases he⟩, e, he, rfl⟩⟩)).symm⟩
end CCs
