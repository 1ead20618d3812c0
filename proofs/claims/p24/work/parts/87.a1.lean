/-! ===== p24: what the answers mean: states and distances ===== -/
theorem enum_or (S : Nat → Nat → Prop) (k0 : Nat) : BIG S k0 ∨ ∃ K n, 1 ≤ n ∧ n ≤ 2000 ∧ ENUM S k0 K n := by
  have key : ∀ m : Nat, (∃ K : Nat → Nat, (∀ i, i < m → Rch S k0 (K i)) ∧ ∀ i j, i < m → j < m → K i = K j → i = j) ∨ ∃ K n, n < m ∧ ENUM S k0 K n := by
    intro m
    induction m with
    | zero => exact Or.inl ⟨fun _ => 0, fun i hi => absurd hi (Nat.not_lt_zero i), fun i j hi => absurd hi (Nat.not_lt_zero i)⟩
    | succ m ih =>
      rcases ih with ⟨K, h1, h2⟩ | ⟨K, n, hn, hE⟩
      · by_cases hx : ∀ x, Rch S k0 x → Has K m x
        · exact Or.inr ⟨K, m, by omega, h1, h2, hx⟩
        · obtain ⟨x, hx⟩ := Classical.not_forall.mp hx
          have hr : Rch S k0 x := Classical.byContradiction fun h => hx fun h9 => absurd h9 h
          have hh : ¬ Has K m x := fun h => hx fun _ => h
          refine Or.inl ⟨va_up K m x, fun i hi => ?_, fun i j hi hj e => ?_⟩
          · by_cases e : i = m
            · subst e; rw [up_eq]; exact hr
            · rw [up_ne K e]; exact h1 i (by omega)
          · by_cases e1 : i = m
            · by_cases e2 : j = m
              · omega
              · rw [e1, up_eq, up_ne K e2] at e
                exact absurd ⟨j, by omega, e.symm⟩ hh
            · by_cases e2 : j = m
              · rw [e2, up_eq, up_ne K e1] at e
                exact absurd ⟨i, by omega, e⟩ hh
              · rw [up_ne K e1, up_ne K e2] at e
                exact h2 i j (by omega) (by omega) e
      · exact Or.inr ⟨K, n, by omega, hE⟩
  rcases key 2001 with ⟨K, h1, h2⟩ | ⟨K, n, hn, hE⟩
  · exact Or.inl ⟨K, h1, h2⟩
  · obtain ⟨i, hi, -⟩ := hE.2.2 k0 Rch_0
    exact Or.inr ⟨K, n, by omega, by omega, hE⟩
theorem mx_of {F : Nat → Option Nat} : ∀ D : Nat, (∀ y e, F y = some e → e ≤ D) → (∃ x, F x ≠ none) → ∃ d, ismax F d
  | 0, h, ⟨x, hx⟩ => by
    cases h9 : F x with
    | none => exact absurd h9 hx
    | some e =>
      have := h x e h9
      exact ⟨0, ⟨x, by rw [h9, show e = 0 by omega]⟩, h⟩
  | D + 1, h, hx => by
    by_cases h1 : ∃ x, F x = some (D + 1)
    · exact ⟨D + 1, h1, h⟩
    · refine mx_of D (fun y e hy => ?_) hx
      have h2 := h y e hy
      by_cases h3 : e = D + 1
      · subst h3; exact absurd ⟨y, hy⟩ h1
      · omega
theorem LD_src {M : Nat → Nat → Prop} {Q : Nat → Prop} {F : Nat → Option Nat} (hF : LD M Q F) : ∀ d y, F y = some d → ∃ s, Q s ∧ F s = some 0
  | 0, y, h => ⟨y, hF.2.1 y h, h⟩
  | d + 1, y, h => by
    obtain ⟨q, hq, -⟩ := hF.2.2.1 y d h
    exact LD_src hF d q hq
theorem LD_dn {M : Nat → Nat → Prop} {Q : Nat → Prop} {F : Nat → Option Nat} (hF : LD M Q F) : ∀ d y, F y = some d → ∀ e, e ≤ d → ∃ s, F s = some e
  | 0, y, h, e, he => ⟨y, by rw [h, show e = 0 by omega]⟩
  | d + 1, y, h, e, he => by
    by_cases h1 : e = d + 1
    · exact ⟨y, by rw [h, h1]⟩
    · obtain ⟨q, hq, -⟩ := hF.2.2.1 y d h
      exact LD_dn hF d q hq e (by omega)
theorem LD_n {M : Nat → Nat → Prop} {Q : Nat → Prop} {F : Nat → Option Nat} {K : Nat → Nat} {n : Nat} (hF : LD M Q F) (hK : ∀ x d, F x = some d → Has K n x) {x d : Nat} (h : F x = some d) : d < n := by
  have ch : ∀ e : Nat, ∃ i, e ≤ d → i < n ∧ F (K i) = some e := fun e => by
    by_cases he : e ≤ d
    · obtain ⟨s, hs⟩ := LD_dn hF d x h e he
      obtain ⟨i, hi, rfl⟩ := hK s e hs
      exact ⟨i, fun _ => ⟨hi, hs⟩⟩
    · exact ⟨0, fun h => absurd h he⟩
  obtain ⟨f, hf⟩ := Classical.axiomOfChoice ch
  refine Nat.lt_of_not_le fun hn => ?_
  obtain ⟨i, j, hij, hj, he⟩ := pigeon n (d + 1) f (by omega) (fun i hi => (hf i (by omega)).1)
  have h1 := (hf i (by omega)).2
  have h2 := (hf j (by omega)).2
  rw [he, h2] at h1
  have := Option.some.inj h1
  omega
theorem LD_mono {M M2 : Nat → Nat → Prop} {Q Q2 : Nat → Prop} {F G : Nat → Option Nat} {pr : Nat → Nat} (h1 : LD M Q F) (h2 : LD M2 Q2 G) (hQ : ∀ p, Q p → Q2 (pr p)) (hM : ∀ q p d, F q = some d → M q p → M2 (pr q) (pr p) ∨ pr p = pr q) : ∀ d p, F p = some d → ∃ e, G (pr p) = some e ∧ e ≤ d := by
  intro d
  induction d with
  | zero => intro p h; exact ⟨0, h2.1 _ (hQ p (h1.2.1 p h)), Nat.le_refl 0⟩
  | succ d ih =>
    intro p h
    obtain ⟨q, hq, hs⟩ := h1.2.2.1 p d h
    obtain ⟨e, he, hle⟩ := ih q hq
    rcases hM q p d hq hs with h3 | h3
    · obtain ⟨e', he', hle'⟩ := h2.2.2.2 _ _ e he h3
      exact ⟨e', he', by omega⟩
    · exact ⟨e, by rw [h3]; exact he, by omega⟩
theorem sum01_le {f : Nat → Nat} {K : Nat → Nat} (hf : ∀ x, f x ≤ 1) : ∀ n, sumN f K n ≤ n
  | 0 => Nat.le_refl 0
  | n + 1 => by
    have h1 := sum01_le (K := K) hf n
    have h2 := hf (K n)
    show sumN f K n + f (K n) ≤ n + 1
    omega
theorem sum01_0 {f : Nat → Nat} {K : Nat → Nat} : ∀ n, sumN f K n = 0 ↔ ∀ i, i < n → f (K i) = 0
  | 0 => ⟨fun _ i hi => absurd hi (Nat.not_lt_zero i), fun _ => rfl⟩
  | n + 1 => by
    have ih := sum01_0 (f := f) (K := K) n
    have e : sumN f K (n + 1) = sumN f K n + f (K n) := rfl
    constructor
    · intro h i hi
      by_cases h1 : i = n
      · subst h1; omega
      · exact ih.mp (by omega) i (by omega)
    · intro h
      have h1 := ih.mpr fun i hi => h i (by omega)
      have h2 := h n (by omega)
      omega
theorem sum_le {f : Nat → Nat} {K : Nat → Nat} {w : Nat} : ∀ n, (∀ i, i < n → f (K i) ≤ w) → sumN f K n ≤ n * w
  | 0, _ => Nat.zero_le _
  | n + 1, h => by
    have h1 := sum_le n fun i hi => h i (by omega)
    have h2 := h n (by omega)
    have e : sumN f K (n + 1) = sumN f K n + f (K n) := rfl
    rw [e, Nat.add_mul, Nat.one_mul]
    omega
section AN
variable {wd hd nb wl : Nat} {sh bw bh : Nat → Nat} {gn : Option Nat}
theorem rch_iff {k x : Nat} (hf : FrV wd hd nb wl sh bw bh) (hk : KV wd hd nb wl sh bw bh gn k) (h : Rch (kst wd hd nb wl sh bw bh gn) k x) (y : Nat) : Rch (kst wd hd nb wl sh bw bh gn) k y ↔ Rch (kst wd hd nb wl sh bw bh gn) x y :=
  ⟨fun h1 => Rch_t (Rch_bck hf hk h) h1, fun h1 => Rch_t h h1⟩
theorem ENUM_mv {k x n : Nat} {K : Nat → Nat} (hf : FrV wd hd nb wl sh bw bh) (hk : KV wd hd nb wl sh bw bh gn k) (h : Rch (kst wd hd nb wl sh bw bh gn) k x) (hE : ENUM (kst wd hd nb wl sh bw bh gn) k K n) : ENUM (kst wd hd nb wl sh bw bh gn) x K n :=
  ⟨fun i hi => (rch_iff hf hk h _).mp (hE.1 i hi), hE.2.1, fun y hy => hE.2.2 y ((rch_iff hf hk h y).mpr hy)⟩
theorem BIG_mv {k x : Nat} (hf : FrV wd hd nb wl sh bw bh) (hk : KV wd hd nb wl sh bw bh gn k) (h : Rch (kst wd hd nb wl sh bw bh gn) k x) (hB : BIG (kst wd hd nb wl sh bw bh gn) k) : BIG (kst wd hd nb wl sh bw bh gn) x := by
  obtain ⟨K, h1, h2⟩ := hB
  exact ⟨K, fun i hi => (rch_iff hf hk h _).mp (h1 i hi), h2⟩
theorem KD_mv {k x : Nat} {M : Nat → Nat → Prop} {P : Nat → Prop} {F : Nat → Option Nat} (hf : FrV wd hd nb wl sh bw bh) (hk : KV wd hd nb wl sh bw bh gn k) (h : Rch (kst wd hd nb wl sh bw bh gn) k x) (hF : KD (kst wd hd nb wl sh bw bh gn) M P k F) : KD (kst wd hd nb wl sh bw bh gn) M P x F := by
  obtain ⟨a1, a2, a3, a4⟩ := hF
  exact ⟨fun y hy => a1 y ⟨(rch_iff hf hk h y).mpr hy.1, hy.2⟩, fun y hy => ⟨(rch_iff hf hk h y).mp (a2 y hy).1, (a2 y hy).2⟩, a3, a4⟩
/-! floods are the same from both ends -/
theorem fl_bk {k b q d : Nat} (hf : FrV wd hd nb wl sh bw bh) (hk : KV wd hd nb wl sh bw bh gn k) (hb : b < nb) (hg : gn ≠ some b) (h : flo wd hd nb wl sh bw bh gn k b q = some d) : ∃ e, flo wd hd nb wl sh bw bh gn (wth k b q) b (plc k b) = some e ∧ e ≤ d := by
  have hn7 := hf.2.2.2.2.2.1
  have hF := flo_ld wd hd nb wl sh bw bh gn k b
  have hq24 := (fl_pl hf hk hb hg hF d q h).2
  have hs := hf.2.2.2.2.2.2.2 b hb
  have hG := flo_ld wd hd nb wl sh bw bh gn (wth k b q) b
  rw [plc_wth_self (show q < 32 by omega), tk_wth (show q < 32 by omega) (by omega) nb hn7] at hG
  generalize flo wd hd nb wl sh bw bh gn (wth k b q) b = G at hG ⊢
  have free : ∀ e y, flo wd hd nb wl sh bw bh gn k b y = some e → sh b <<< y &&& tk wl sh k (exb gn (some b)) nb = 0 := fun e y hy => by
    cases e with
    | zero =>
      rw [hF.2.1 y hy]
      obtain ⟨hp, ha, hc⟩ := hk.2.2 b hb hg
      exact tk_and.mpr ⟨ha, fun c hc2 he => by
        obtain ⟨e1, e2⟩ := exb_f.mp he
        exact hc c hc2 e2 (fun e => e1 (by rw [e]))⟩
    | succ e =>
      obtain ⟨z, -, dd, -, hm⟩ := hF.2.2.1 y e hy
      exact (mvt_inv hm).2
  have go : ∀ e y, flo wd hd nb wl sh bw bh gn k b y = some e → ∀ a, (∃ r, G y = some r ∧ r ≤ a) → ∃ r, G (plc k b) = some r ∧ r ≤ a + e := by
    intro e
    induction e with
    | zero => intro y hy a hr; rw [← hF.2.1 y hy]; exact hr
    | succ e ih =>
      intro y hy a hr
      obtain ⟨z, hz, dd, hd4, hm⟩ := hF.2.2.1 y e hy
      have hzp := (fl_pl hf hk hb hg hF e z hz).1
      obtain ⟨r, hr1, hr2⟩ := hr
      obtain ⟨r2, hr3, hr4⟩ := hG.2.2.2 y z r hr1 ⟨bck dd, by unfold bck; split; omega; split; omega; split <;> omega, mvt_go (stp_bck hf.1 hs.1 hzp hd4 (mvt_inv hm).1) (free e z hz)⟩
      obtain ⟨r5, h5, h6⟩ := ih z hz (a + 1) ⟨r2, hr3, by omega⟩
      exact ⟨r5, h5, by omega⟩
  obtain ⟨r, h1, h2⟩ := go d q h 0 ⟨0, hG.1 q rfl, Nat.le_refl 0⟩
  exact ⟨r, h1, by omega⟩
theorem flo_sym {k b q d : Nat} (hf : FrV wd hd nb wl sh bw bh) (hk : KV wd hd nb wl sh bw bh gn k) (hb : b < nb) (hg : gn ≠ some b) (h : flo wd hd nb wl sh bw bh gn k b q = some d) : flo wd hd nb wl sh bw bh gn (wth k b q) b (plc k b) = some d := by
  have hF := flo_ld wd hd nb wl sh bw bh gn k b
  have hq24 := (fl_pl hf hk hb hg hF d q h).2
  obtain ⟨e, he, h1⟩ := fl_bk hf hk hb hg h
  have hV := (Rb_V hf hk hb (flo_Rb hf hk hb hg hF d q h)).1
  obtain ⟨e2, he2, h2⟩ := fl_bk hf hV hb hg he
  rw [wth_wth (by omega) (plc_lt k b), wth_self, plc_wth_self (by omega), h] at he2
  have := Option.some.inj he2
  rw [he, show e = d by omega]
theorem mvk_bck {z : Bool} {k x : Nat} (hf : FrV wd hd nb wl sh bw bh) (hk : KV wd hd nb wl sh bw bh gn k) (h : mvk wd hd nb wl sh bw bh gn z k x) : ∃ c q, c < nb ∧ gn ≠ some c ∧ q < 24 ∧ isMv z (flo wd hd nb wl sh bw bh gn x c q) = true ∧ k = wth x c q := by
  obtain ⟨c, hc, hg, F, hF, q, hq, rfl⟩ := h
  have hFe := flo_eq hF
  subst hFe
  obtain ⟨d, hd9⟩ := isMv_some hq
  have hq24 := (fl_pl hf hk hc hg hF d q hd9).2
  have hp := (hk.2.2 c hc hg).1
  refine ⟨c, plc k c, hc, hg, ?_, by rw [flo_sym hf hk hc hg hd9, ← hd9]; exact hq, by rw [wth_wth (by omega) (plc_lt k c), wth_self]⟩
  exact fr_lt hf.1 hf.2.2.2.2.1 (hf.2.2.2.2.2.2.2 c hc).2.2.1 hp
theorem isMv_ft {x : Option Nat} (h : isMv false x = true) : isMv true x = true := by
  match x, h with
  | none, h => cases h
  | some 0, h => cases h
  | some (e + 1), _ => rfl
theorem isMv_f1 {x : Option Nat} (h : isMv false x = true) : x = some 1 := by
  match x, h with
  | none, h => cases h
  | some 0, h => cases h
  | some 1, _ => rfl
  | some (e + 2), h => cases h
theorem isMv_pos {z : Bool} {x : Option Nat} (h : isMv z x = true) : ∃ d, x = some (d + 1) := by
  match x, h with
  | none, h => cases h
  | some 0, h => cases h
  | some (e + 1), _ => exact ⟨e, rfl⟩
theorem mvk_ft {k x : Nat} (h : mvk wd hd nb wl sh bw bh gn false k x) : mvk wd hd nb wl sh bw bh gn true k x := by
  obtain ⟨c, hc, hg, F, hF, q, hq, rfl⟩ := h
  exact ⟨c, hc, hg, F, hF, q, isMv_ft hq, rfl⟩
/-- a hint is there, where the goal isn't reached yet -/
theorem okmv_ex {z : Bool} {P : Nat → Prop} {k0 e : Nat} {F : Nat → Option Nat} (hf : FrV wd hd nb wl sh bw bh) (hk : KV wd hd nb wl sh bw bh none k0) (hF : KD (kst wd hd nb wl sh bw bh none) (mvk wd hd nb wl sh bw bh none z) P k0 F) (h : F k0 = some (e + 1)) : ∃ b q, q < 24 ∧ okmv nb (flo wd hd nb wl sh bw bh none k0) z k0 F b q := by
  obtain ⟨y, hy, hm⟩ := hF.2.2.1 k0 e h
  have hV := Rch_V hf hk (KD_R hf hk hF e y hy)
  obtain ⟨c, q, hc, -, hq, h1, h2⟩ := mvk_bck hf hV hm
  exact ⟨c, q, hq, hc, h1, e, by rw [← h2]; exact hy, h⟩
theorem rhint_ex {z : Bool} {P : Nat → Prop} {k0 e : Nat} {F : Nat → Option Nat} (hf : FrV wd hd nb wl sh bw bh) (hk : KV wd hd nb wl sh bw bh none k0) (hF : KD (kst wd hd nb wl sh bw bh none) (mvk wd hd nb wl sh bw bh none z) P k0 F) (h : F k0 = some (e + 1)) : ∃ b q, okmv nb (flo wd hd nb wl sh bw bh none k0) z k0 F b q ∧ rhint nb (flo wd hd nb wl sh bw bh none k0) z k0 F (some (b, q)) := by
  have hq32 : ∀ b q, okmv nb (flo wd hd nb wl sh bw bh none k0) z k0 F b q → q < 32 := fun b q ho => by
    obtain ⟨d, hd9⟩ := isMv_some ho.2.1
    have := (fl_pl hf hk ho.1 (fun h => by cases h) (flo_ld wd hd nb wl sh bw bh none k0 b) d q hd9).2
    omega
  obtain ⟨b, q, hq, ho⟩ := okmv_ex hf hk hF h
  obtain ⟨c, h1, h2⟩ := pk_least (fun c => okmv nb (flo wd hd nb wl sh bw bh none k0) z k0 F (c / 32) (c % 32)) ⟨32 * b + q, by
    show okmv nb (flo wd hd nb wl sh bw bh none k0) z k0 F ((32 * b + q) / 32) ((32 * b + q) % 32)
    rw [show (32 * b + q) / 32 = b by omega, show (32 * b + q) % 32 = q by omega]; exact ho⟩
  refine ⟨c / 32, c % 32, h1, Or.inr ⟨c / 32, c % 32, h1, fun b' q' ho' => ?_, rfl⟩⟩
  have h3 := hq32 b' q' ho'
  refine Classical.byContradiction fun hno => ?_
  refine h2 (32 * b' + q') (by omega) ?_
  show okmv nb (flo wd hd nb wl sh bw bh none k0) z k0 F ((32 * b' + q') / 32) ((32 * b' + q') % 32)
  rw [show (32 * b' + q') / 32 = b' by omega, show (32 * b' + q') % 32 = q' by omega]; exact ho'
/-- without a block: a move of another block stays one -/
theorem mvk_rm {z : Bool} {b k x : Nat} (hf : FrV wd hd nb wl sh bw bh) (hk : KV wd hd nb wl sh bw bh none k) (hb : b < nb) (h : mvk wd hd nb wl sh bw bh none z k x) : mvk wd hd nb wl sh bw bh (some b) z (wth k b 0) (wth x b 0) ∨ wth x b 0 = wth k b 0 := by
  have hn7 := hf.2.2.2.2.2.1
  obtain ⟨c, hc, hg, F, hF, q, hq, rfl⟩ := h
  obtain ⟨d, hd9⟩ := isMv_pos hq
  have hq24 := (fl_pl hf hk hc hg hF _ q hd9).2
  by_cases e : c = b
  · subst e
    exact Or.inr (wth_wth (by omega) (by decide))
  · obtain ⟨G, hG⟩ := LD_ex (fstep wd hd (bw c) (bh c) (sh c) (tk wl sh (wth k b 0) (exb (some b) (some c)) nb)) (fun y => y = plc (wth k b 0) c)
    have ep : plc (wth k b 0) c = plc k c := plc_wth_ne (by decide) (by omega) (by omega) e
    obtain ⟨r, hr, hle⟩ := LD_mono (pr := fun y => y) hF hG (fun p hp => by rw [hp, ep]) (fun y p dd hy hs => Or.inl (by
      obtain ⟨j, hj, hm⟩ := hs
      obtain ⟨h1, h2⟩ := mvt_inv hm
      obtain ⟨h3, h4⟩ := tk_and.mp h2
      refine ⟨j, hj, mvt_go h1 (tk_and.mpr ⟨h3, fun a ha he => ?_⟩)⟩
      obtain ⟨e1, e2⟩ := exb_f.mp he
      have e3 : a ≠ b := fun q => e2 (by rw [q])
      rw [plc_wth_ne (by decide) (by omega) (by omega) e3]
      exact h4 a ha (exb_f.mpr ⟨e1, fun h => by cases h⟩))) _ q hd9
    have hr : G q = some r := hr
    have hr0 : r ≠ 0 := fun e0 => by
      subst e0
      have h1 := hG.2.1 q hr
      have h2 := hF.1 q (by rw [h1, ep])
      rw [hd9] at h2
      cases h2
    refine Or.inl ⟨c, hc, fun h => e (Option.some.inj h).symm, G, hG, q, ?_, wth_comm (by omega) (by omega) (by omega) (by decide) e hk.1⟩
    obtain ⟨r', rfl⟩ : ∃ r', r = r' + 1 := ⟨r - 1, by omega⟩
    rw [hr]
    rw [hd9] at hq
    cases z with
    | true => rfl
    | false =>
      have h5 := Option.some.inj (isMv_f1 hq)
      rw [show r' = 0 by omega]; rfl
end AN
