abbrev mW (cI cJ cB : ClassId) (o : Nat) (kv : Nat) (kp : Nat) (kx : Nat) (kl : Nat) (kh : Nat) (ki : Nat) (kf : Nat) (kq : Nat) (ka : Nat) (kt : Nat) (kd : Nat) (kn : Nat) (mpm : Int32) (mty : Int32) (mwi : Int32) (mhi : Int32) (mwa : Int32) (mle : Int32) (mgo : Int32) (mam : Int32) (mtm : Int32) (mli : Int32) (mv : Nat → Int32) (mpa : Nat → Int32) (mtx : Nat → Int32) (mlt : Nat → Int32) (mha : Nat → Int32) (mfi : Nat → Int32) (mfa : Nat → Int32) (mqu : Nat → Int32) (mal : Nat → Int64) (mta : Nat → Int32) (mdi : Nat → Int32) (mln : Nat → Int32) : va_W := [(o, .inr (8, [.ref kv, .ref kp, .int mpm, .ref kx, .int mty, .int mwi, .int mhi, .int mwa, .int mle, .ref kl, .ref kh, .ref ki, .int mgo, .ref kf, .ref kq, .ref ka, .ref kt, .ref kd, .ref kn, .int mam, .int mtm, .int mli])), (kv, .inl (cI, 44, .inl mv)), (kp, .inl (cI, 440, .inl mpa)), (kx, .inl (cI, 40, .inl mtx)), (kl, .inl (cI, 7, .inl mlt)), (kh, .inl (cI, 7, .inl mha)), (ki, .inl (cI, 7, .inl mfi)), (kf, .inl (cI, 24, .inl mfa)), (kq, .inl (cI, 24, .inl mqu)), (ka, .inl (cJ, 2000, .inr (.inl mal))), (kt, .inl (cI, 8192, .inl mta)), (kd, .inl (cI, 2000, .inl mdi)), (kn, .inl (cI, 2000, .inl mln))]
abbrev bW (cI cJ cB : ClassId) (h : Nat) (hs : Nat) (hw : Nat) (hh : Nat) (hp : Nat) (bse : Int32) (bwi : Int32) (bhe : Int32) (bwa : Int32) (bco : Int32) (btr : Int32) (brc : Int32) (bbr : Int32) (blc : Int32) (bgb : Int32) (bgp : Int32) (bst : Int32) (bsl : Int32) (bla : Int32) (bsh : Nat → Int32) (bwd : Nat → Int32) (bhg : Nat → Int32) (bsp : Nat → Int32) : va_W := [(h, .inr (0, [.int bse, .int bwi, .int bhe, .int bwa, .int bco, .int btr, .int brc, .int bbr, .int blc, .ref hs, .ref hw, .ref hh, .ref hp, .int bgb, .int bgp, .int bst, .int bsl, .int bla])), (hs, .inl (cI, 7, .inl bsh)), (hw, .inl (cI, 7, .inl bwd)), (hh, .inl (cI, 7, .inl bhg)), (hp, .inl (cI, 7, .inl bsp))]
/-- the number of bits below i -/
def cnt (x : Nat) : Nat → Nat
  | 0 => 0
  | i + 1 => cnt x i + (x >>> i &&& 1)
theorem cnt_s (x i : Nat) : nI (cnt x i + (x >>> i &&& 1)) = nI (cnt x (i + 1)) := rfl
theorem tk_ex {wl : Nat} {sh : Nat → Nat} {k : Nat} {ex : Nat → Bool} {b : Nat} (he : ex b = true) : nI (tk wl sh k ex b ||| 0) = nI (tk wl sh k ex (b + 1)) := by
  show _ = nI (if ex b then tk wl sh k ex b else tk wl sh k ex b ||| sh b <<< plc k b)
  rw [if_pos he, Nat.or_zero]
theorem tk_in {wl : Nat} {sh : Nat → Nat} {k : Nat} {ex : Nat → Bool} {b : Nat} (he : ex b = false) : nI (tk wl sh k ex b ||| sh b <<< plc k b) = nI (tk wl sh k ex (b + 1)) := by
  show _ = nI (if ex b then tk wl sh k ex b else tk wl sh k ex b ||| sh b <<< plc k b)
  rw [if_neg (by simp [he])]
/-! ===== frames and keys that are sound ===== -/
def ShV (wd hd s w h : Nat) : Prop := 1 ≤ w ∧ w ≤ wd ∧ 1 ≤ h ∧ h ≤ hd ∧ (∀ i, s.testBit i = true → i % wd < w ∧ i / wd < h) ∧ (∃ i, s.testBit i = true ∧ i / wd = 0) ∧ (∃ i, s.testBit i = true ∧ i / wd = h - 1) ∧ (∃ i, s.testBit i = true ∧ i % wd = 0) ∧ ∃ i, s.testBit i = true ∧ i % wd = w - 1
def FrV (wd hd nb wl : Nat) (sh bw bh : Nat → Nat) : Prop := 1 ≤ wd ∧ wd ≤ 6 ∧ 1 ≤ hd ∧ hd ≤ 6 ∧ wd * hd ≤ 24 ∧ nb ≤ 7 ∧ wl < 2 ^ (wd * hd) ∧ ∀ b, b < nb → ShV wd hd (sh b) (bw b) (bh b)
def PlV (wd hd w h p : Nat) : Prop := p % wd + w ≤ wd ∧ p / wd + h ≤ hd
def KV (wd hd nb wl : Nat) (sh bw bh : Nat → Nat) (gn : Option Nat) (k : Nat) : Prop := k < 2 ^ 35 ∧ (∀ b, b < 7 → (nb ≤ b ∨ gn = some b) → plc k b = 0) ∧ ∀ b, b < nb → gn ≠ some b → PlV wd hd (bw b) (bh b) (plc k b) ∧ (sh b <<< plc k b) &&& wl = 0 ∧ ∀ c, c < nb → gn ≠ some c → c ≠ b → (sh b <<< plc k b) &&& (sh c <<< plc k c) = 0
theorem PlV_lt {wd hd w h p : Nat} (hw : 1 ≤ wd) (h1 : 1 ≤ h) (hp : PlV wd hd w h p) : p < wd * hd := by
  have h2 : p / wd < hd := by have := hp.2; omega
  exact (Nat.div_lt_iff_lt_mul hw).mp h2 |> fun h => by rwa [Nat.mul_comm] at h
theorem fr_lt {wd hd w h p : Nat} (hw : 1 ≤ wd) (h24 : wd * hd ≤ 24) (h1 : 1 ≤ h) (hp : PlV wd hd w h p) : p < 24 := Nat.lt_of_lt_of_le (PlV_lt hw h1 hp) h24
theorem bs_up {wd p : Nat} (hy : 1 ≤ p / wd) : (p / wd - 1) * wd + (p % wd + 0) = p - wd := by
  have h := Nat.div_add_mod' p wd
  have h2 : (p / wd - 1) * wd = p / wd * wd - wd := by rw [Nat.sub_mul, Nat.one_mul]
  have h3 : 1 * wd ≤ p / wd * wd := Nat.mul_le_mul_right _ hy
  omega
theorem bs_rt {wd p : Nat} : (p / wd + 0) * wd + (p % wd + 1) = p + 1 := by
  have h := Nat.div_add_mod' p wd
  rw [Nat.add_zero]; omega
theorem bs_dn {wd p : Nat} : (p / wd + 1) * wd + (p % wd + 0) = p + wd := by
  have h := Nat.div_add_mod' p wd
  rw [Nat.add_mul, Nat.one_mul]; omega
theorem bs_lf {wd p : Nat} (hx : 1 ≤ p % wd) : (p / wd + 0) * wd + (p % wd - 1) = p - 1 := by
  have h := Nat.div_add_mod' p wd
  rw [Nat.add_zero]; omega
theorem stp_0 (wd hd w h p : Nat) : stp wd hd w h p 0 = if 1 ≤ p / wd then some (p - wd) else none := rfl
theorem stp_1 (wd hd w h p : Nat) : stp wd hd w h p 1 = if p % wd + 1 + w ≤ wd then some (p + 1) else none := rfl
theorem stp_2 (wd hd w h p : Nat) : stp wd hd w h p 2 = if p / wd + 1 + h ≤ hd then some (p + wd) else none := rfl
theorem stp_3 (wd hd w h p : Nat) : stp wd hd w h p 3 = if 1 ≤ p % wd then some (p - 1) else none := rfl
theorem stp_pl {wd hd w h p d q : Nat} (hw : 1 ≤ wd) (h1 : 1 ≤ w) (hp : PlV wd hd w h p) (hq : stp wd hd w h p d = some q) : PlV wd hd w h q := by
  obtain ⟨hp1, hp2⟩ := hp
  have hdm := Nat.div_add_mod' p wd
  have hml : p % wd < wd := Nat.mod_lt _ hw
  have key : ∀ y x : Nat, x < wd → (y * wd + x) % wd = x ∧ (y * wd + x) / wd = y := fun y x hx => by
    constructor
    · rw [Nat.mul_comm, Nat.mul_add_mod, Nat.mod_eq_of_lt hx]
    · rw [Nat.mul_comm, Nat.mul_add_div hw, Nat.div_eq_of_lt hx, Nat.add_zero]
  unfold stp at hq
  unfold PlV
  split at hq
  · split at hq
    · rename_i hy
      have e := bs_up hy
      cases hq
      rw [← e]
      obtain ⟨a, b⟩ := key (p / wd - 1) (p % wd + 0) (by omega)
      rw [a, b]; omega
    · cases hq
  · split at hq
    · split at hq
      · cases hq
        rw [← bs_rt (wd := wd) (p := p)]
        obtain ⟨a, b⟩ := key (p / wd + 0) (p % wd + 1) (by omega)
        rw [a, b]; omega
      · cases hq
    · split at hq
      · split at hq
        · cases hq
          rw [← bs_dn (wd := wd) (p := p)]
          obtain ⟨a, b⟩ := key (p / wd + 1) (p % wd + 0) (by omega)
          rw [a, b]; omega
        · cases hq
      · split at hq
        · rename_i hx
          cases hq
          rw [← bs_lf hx]
          obtain ⟨a, b⟩ := key (p / wd + 0) (p % wd - 1) (by omega)
          rw [a, b]; omega
        · cases hq
/-- a bit of a block in its place is a cell of the frame -/
theorem cell_bit {wd hd s w h p i : Nat} (hw : 1 ≤ wd) (hs : ShV wd hd s w h) (hp : PlV wd hd w h p) (hi : (s <<< p).testBit i = true) : p ≤ i ∧ s.testBit (i - p) = true ∧ i % wd = p % wd + (i - p) % wd ∧ i / wd = p / wd + (i - p) / wd := by
  rw [Nat.testBit_shiftLeft, Bool.and_eq_true, decide_eq_true_eq] at hi
  obtain ⟨h1, h2⟩ := hi
  obtain ⟨h3, h4⟩ := hs.2.2.2.2.1 _ h2
  have hx : p % wd + (i - p) % wd < wd := by have := hp.1; omega
  refine ⟨h1, h2, ?_, ?_⟩
  · rw [show i = p + (i - p) by omega, Nat.add_mod, show p + (i - p) - p = i - p by omega, Nat.mod_eq_of_lt hx]
  · have e1 := Nat.div_add_mod' p wd
    have e2 := Nat.div_add_mod' (i - p) wd
    have e3 : i = wd * (p / wd + (i - p) / wd) + (p % wd + (i - p) % wd) := by
      rw [Nat.mul_add, Nat.mul_comm wd, Nat.mul_comm wd]; omega
    rw [e3, Nat.mul_add_div hw, Nat.div_eq_of_lt hx, Nat.add_zero, ← e3]
theorem cell_lt {wd hd s w h p : Nat} (hw : 1 ≤ wd) (hs : ShV wd hd s w h) (hp : PlV wd hd w h p) : s <<< p < 2 ^ (wd * hd) := lt_of_bits (fun i hi => by
  cases hc : (s <<< p).testBit i with
  | false => rfl
  | true =>
    exfalso
    obtain ⟨h1, h2, h3, h4⟩ := cell_bit hw hs hp hc
    have h5 := (hs.2.2.2.2.1 _ h2).2
    have h6 : i / wd < hd := by have := hp.2; omega
    have h7 := (Nat.div_lt_iff_lt_mul hw).mp h6
    rw [Nat.mul_comm] at h7
    omega)
theorem tk_lt {wd hd nb wl : Nat} {sh bw bh : Nat → Nat} {gn : Option Nat} {k : Nat} {ex : Nat → Bool} (hf : FrV wd hd nb wl sh bw bh) (hk : KV wd hd nb wl sh bw bh gn k) (hex : ∀ b, ex b = false → gn ≠ some b) : tk wl sh k ex nb < 2 ^ 24 := lt_of_bits (fun i hi => by
  cases hc : (tk wl sh k ex nb).testBit i with
  | false => rfl
  | true =>
    exfalso
    have h24 := hf.2.2.2.2.1
    rcases tk_bit.mp hc with h | ⟨b, hb, he, h⟩
    · rw [bits_lt hf.2.2.2.2.2.2.1 (by omega)] at h; cases h
    · have h1 := cell_lt hf.1 (hf.2.2.2.2.2.2.2 b hb) (hk.2.2 b hb (hex b he)).1
      rw [bits_lt h1 (by omega)] at h; cases h)
theorem exb_no {gn bt : Option Nat} {b : Nat} (h : exb gn bt b = false) : gn ≠ some b := by
  intro e; simp [exb, e] at h
/-- the steps of one block -/
def fstep (wd hd w h s ot p q : Nat) : Prop := ∃ d, d < 4 ∧ mvt wd hd w h s ot p d = some q
def noneF : Nat → Option Nat := fun _ => none
theorem mvt_none {wd hd w h s ot p d : Nat} (h1 : stp wd hd w h p d = none) : mvt wd hd w h s ot p d = none := by unfold mvt; rw [h1]; rfl
theorem mvt_stop {wd hd w h s ot p d q : Nat} (h1 : stp wd hd w h p d = some q) (h2 : 0 < (s <<< q) &&& ot) : mvt wd hd w h s ot p d = none := by unfold mvt; rw [h1]; show (if _ then _ else _) = _; rw [if_neg (by omega)]
theorem mvt_go {wd hd w h s ot p d q : Nat} (h1 : stp wd hd w h p d = some q) (h2 : (s <<< q) &&& ot = 0) : mvt wd hd w h s ot p d = some q := by unfold mvt; rw [h1]; show (if _ then _ else _) = _; rw [if_pos h2]
theorem mvt_inv {wd hd w h s ot p d q : Nat} (h1 : mvt wd hd w h s ot p d = some q) : stp wd hd w h p d = some q ∧ (s <<< q) &&& ot = 0 := by
  unfold mvt at h1
  cases h2 : stp wd hd w h p d with
  | none => rw [h2] at h1; cases h1
  | some r =>
    rw [h2] at h1
    have h3 : (if (s <<< r) &&& ot = 0 then some r else none) = some q := h1
    split at h3
    · cases h3; exact ⟨rfl, by assumption⟩
    · cases h3
theorem BI_bound {step : Nat → Nat → Prop} {S : Nat → Prop} {F : Nat → Option Nat} {Q : Nat → Nat} {m k N : Nat} (h : BI step S F Q m k) (hN : ∀ p d, F p = some d → p < N) {p d : Nat} (hp : F p = some d) : d < N := by
  have ex : ∀ d p, F p = some d → ∀ i, i ≤ d → ∃ q, F q = some i := by
    intro d
    induction d with
    | zero => intro p hp i hi; exact ⟨p, by rw [hp, Nat.le_zero.mp hi]⟩
    | succ d ih =>
      intro p hp i hi
      by_cases e : i = d + 1
      · exact ⟨p, by rw [e]; exact hp⟩
      · obtain ⟨q, hq, -⟩ := h.2.2.2.2.2.2.1 p d hp
        exact ih q hq i (by omega)
  have ex2 := ex d p hp
  refine Nat.lt_of_not_le (fun hle => ?_)
  have ch : ∀ i, ∃ q, i ≤ d → F q = some i := fun i => by
    by_cases hi : i ≤ d
    · obtain ⟨q, hq⟩ := ex2 i hi; exact ⟨q, fun _ => hq⟩
    · exact ⟨0, fun h => absurd h hi⟩
  obtain ⟨g, hg⟩ := Classical.axiomOfChoice ch
  obtain ⟨i, j, hij, hj, he⟩ := pigeon N (d + 1) g (by omega) (fun i hi => hN _ i (hg i (by omega)))
  have h1 := hg i (by omega)
  have h2 := hg j (by omega)
  rw [he, h2] at h1
  have := Option.some.inj h1
  omega
theorem BI_room {step : Nat → Nat → Prop} {S : Nat → Prop} {F : Nat → Option Nat} {Q : Nat → Nat} {m k N p : Nat} (h : BI step S F Q m k) (hN : ∀ p d, F p = some d → p < N) (hp : F p = none) (hpN : p < N) : m < N := by
  refine Nat.lt_of_not_le (fun hle => ?_)
  have qb : ∀ i, i < m → Q i < N := fun i hi => by
    obtain ⟨d, hd⟩ := h.2.1 i hi
    exact hN _ d hd
  obtain ⟨i, j, hij, hj, he⟩ := pigeon N (m + 1) (fun i => if i = m then p else Q i) (by omega) (fun i hi => by
    split
    · exact hpN
    · exact qb i (by omega))
  have hi : i ≠ m := by omega
  rw [if_neg hi] at he
  split at he
  · obtain ⟨d, hd⟩ := h.2.1 i (by omega)
    rw [he, hp] at hd; cases hd
  · have := h.2.2.2.1 i j (by omega) (by omega) he
    omega
theorem up_none {F : Nat → Option Nat} {j : Nat} (iz : ∀ i, i < j → F i = none) : ∀ i, i < j + 1 → va_up F j none i = none := fun i hi => by
  unfold va_up; split
  · rfl
  · exact iz i (by omega)
theorem up_eq {α : Type} (f : Nat → α) (k : Nat) (v : α) : va_up f k v k = v := by unfold va_up; rw [if_pos rfl]
theorem up_ne {α : Type} (f : Nat → α) {k j : Nat} {v : α} (h : j ≠ k) : va_up f k v j = f j := by unfold va_up; rw [if_neg h]
theorem dn_a {m F : Nat → Option Nat} {lv dd : Nat} (idn : ∀ i, i < dd → ∀ x, m i = some x → ∃ e, F x = some e ∧ e ≤ lv + 1) (h : m dd = none) : ∀ i, i < dd + 1 → ∀ x, m i = some x → ∃ e, F x = some e ∧ e ≤ lv + 1 := lt_s idn (fun x hx => by rw [h] at hx; cases hx)
/-- the step d of m leads to y, or nowhere -/
def stp_m (m : Nat → Option Nat) (d y : Nat) : Prop := ∀ x, m d = some x → x = y
theorem dn_b {m F : Nat → Option Nat} {lv dd y e : Nat} (idn : ∀ i, i < dd → ∀ x, m i = some x → ∃ e, F x = some e ∧ e ≤ lv + 1) (h : stp_m m dd y) (hF : F y = some e) (he : e ≤ lv + 1) : ∀ i, i < dd + 1 → ∀ x, m i = some x → ∃ e, F x = some e ∧ e ≤ lv + 1 := lt_s idn (fun x hx => by have := h x hx; subst this; exact ⟨e, hF, he⟩)
theorem dn_d {m F : Nat → Option Nat} {lv dd y : Nat} (idn : ∀ i, i < dd → ∀ x, m i = some x → ∃ e, F x = some e ∧ e ≤ lv + 1) (h : stp_m m dd y) (hF : F y = none) : ∀ i, i < dd + 1 → ∀ x, m i = some x → ∃ e, va_up F y (some (lv + 1)) x = some e ∧ e ≤ lv + 1 := lt_s (fun i hi x hx => by
    obtain ⟨e, h1, h2⟩ := idn i hi x hx
    have e4 : x ≠ y := fun e3 => by rw [e3, hF] at h1; cases h1
    exact ⟨e, by rw [up_ne F e4]; exact h1, h2⟩) (fun x hx => by have := h x hx; subst this; exact ⟨lv + 1, up_eq _ _ _, Nat.le_refl _⟩)
theorem stp_is {wd hd w h s ot p d q : Nat} (h1 : stp wd hd w h p d = some q) : stp_m (fun i => mvt wd hd w h s ot p i) d q := fun x hx => by
  have h2 := (mvt_inv hx).1
  rw [h1] at h2
  exact (Option.some.inj h2).symm
