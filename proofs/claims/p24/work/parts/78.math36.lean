/-! ===== what the moves keep ===== -/
section KM
variable {wd hd nb wl : Nat} {sh bw bh ps : Nat → Nat} {gl aq lb : Option Nat}
def MVok (wd hd nb wl : Nat) (sh bw bh ps : Nat → Nat) (mo : Option (Nat × Nat × Nat × Bool)) : Prop := ∀ b q k z, mo = some (b, q, k, z) → b < nb ∧ ∃ d, flo wd hd nb wl sh bw bh none (pkey ps nb) b q = some d
theorem stepm_ok (h : TV wd hd nb wl sh bw bh ps gl aq lb) {x y : Int32} : MVok wd hd nb wl sh bw bh ps (f_stepm wd hd nb wl sh bw bh ps x y) := by
  intro b q k z hm
  unfold f_stepm at hm
  split at hm
  · rename_i b' d hb hd4
    obtain ⟨q', hq, he⟩ := Option.map_eq_some_iff.mp hm
    cases he
    have hbn := bOf_lt hb
    refine ⟨hbn, ?_⟩
    have hF := flo_ld wd hd nb wl sh bw bh none (pkey ps nb) b
    have e0 : plc (pkey ps nb) b = ps b := plc_pkey h.1.2.2.2.2.2.1 h.2.1 b hbn
    obtain ⟨e, he, -⟩ := hF.2.2.2 (plc (pkey ps nb) b) q 0 (hF.1 _ rfl) ⟨d, bOf_lt hd4, by rw [e0]; exact hq⟩
    exact ⟨e, he⟩
  · cases hm
theorem slidem_ok {x y : Int32} : MVok wd hd nb wl sh bw bh ps (f_slidem wd hd nb wl sh bw bh ps x y) := by
  intro b q k z hm
  unfold f_slidem at hm
  split at hm
  · rename_i b' q' hb hq
    split at hm
    · rename_i e he
      cases hm
      exact ⟨bOf_lt hb, _, he⟩
    · cases hm
  · cases hm
theorem f_hint_ok {S M : Nat → Nat → Prop} {fl : Nat → Nat → Option Nat} {z : Bool} {k0 b q : Nat} (h : f_hint S M nb fl z gl aq k0 = .inr (some (b, q))) : b < nb ∧ isMv z (fl b q) = true := by
  unfold f_hint at h
  split at h
  · rename_i g ap
    unfold fOf at h
    split at h
    · rename_i hex
      have h2 := Classical.choose_spec hex
      rw [h] at h2
      rcases h2 with ⟨-, h3⟩ | ⟨K, n, F, -, -, -, h3⟩
      · cases h3
      · rcases h3 with ⟨-, h3⟩ | ⟨-, h3⟩
        · cases h3
        · obtain ⟨o, h4, h5⟩ := h3
          rcases h4 with ⟨-, rfl⟩ | ⟨b', q', h6, -, rfl⟩
          · cases h5
          · cases h5
            exact ⟨h6.1, h6.2.1⟩
    · cases h
  · cases h
theorem isMv_some {z : Bool} {x : Option Nat} (h : isMv z x = true) : ∃ d, x = some d := by
  cases x with
  | none => cases h
  | some d => exact ⟨d, rfl⟩
theorem folm_ok {z : Bool} : MVok wd hd nb wl sh bw bh ps (f_folm wd hd nb wl sh bw bh ps gl aq z) := by
  intro b q k z' hm
  unfold f_folm at hm
  split at hm
  · rename_i b' q' hh
    cases hm
    unfold f_hintx at hh
    obtain ⟨h1, h2⟩ := f_hint_ok hh
    exact ⟨h1, isMv_some h2⟩
  · cases hm
/-- a move keeps the board's truth and its key within reach -/
theorem MVD_TV {mo : Option (Nat × Nat × Nat × Bool)} {st sl st2 sl2 : Int32} {lb2 : Option Nat} {ps2 : Nat → Nat} (h : TV wd hd nb wl sh bw bh ps gl aq lb) (ho : MVok wd hd nb wl sh bw bh ps mo) (hm : MVD mo st sl lb ps st2 sl2 lb2 ps2) : TV wd hd nb wl sh bw bh ps2 gl aq lb2 ∧ Rch (kst wd hd nb wl sh bw bh none) (pkey ps nb) (pkey ps2 nb) := by
  cases mo with
  | none =>
    obtain ⟨-, -, rfl, rfl⟩ := hm
    exact ⟨h, Rch_0⟩
  | some o =>
    obtain ⟨b, q, k, z⟩ := o
    obtain ⟨-, -, rfl, rfl⟩ := hm
    obtain ⟨h1, d, h2⟩ := ho b q k z rfl
    obtain ⟨h3, h4, -⟩ := TV_move h h1 h2
    exact ⟨h3, h4⟩
theorem MVD_ag {mo : Option (Nat × Nat × Nat × Bool)} {st sl st2 sl2 st3 sl3 : Int32} {lb2 lb3 : Option Nat} {ps2 psm psm2 shm bwm bhm : Nat → Nat} (hm : MVD mo st sl lb ps st2 sl2 lb2 ps2) (hm2 : MVD mo st sl lb psm st3 sl3 lb3 psm2) (hg : AG nb sh bw bh ps shm bwm bhm psm) : st3 = st2 ∧ sl3 = sl2 ∧ lb3 = lb2 ∧ AG nb sh bw bh ps2 shm bwm bhm psm2 := by
  cases mo with
  | none =>
    obtain ⟨rfl, rfl, rfl, rfl⟩ := hm
    obtain ⟨rfl, rfl, rfl, rfl⟩ := hm2
    exact ⟨rfl, rfl, rfl, hg⟩
  | some o =>
    obtain ⟨b, q, k, z⟩ := o
    obtain ⟨rfl, rfl, rfl, rfl⟩ := hm
    obtain ⟨rfl, rfl, rfl, rfl⟩ := hm2
    exact ⟨rfl, rfl, rfl, hg.up⟩
theorem GLD_ok {x y : Int32} {gl2 aq2 : Option Nat} (h : TV wd hd nb wl sh bw bh ps gl aq lb) (hm : GLD (f_goalm wd hd nb bw bh x y) gl aq gl2 aq2) : TV wd hd nb wl sh bw bh ps gl2 aq2 lb := by
  obtain ⟨h1, h2, h3, h4, h5⟩ := h
  refine ⟨h1, h2, h3, ?_, h5⟩
  cases h9 : f_goalm wd hd nb bw bh x y with
  | none =>
    rw [h9] at hm
    obtain ⟨rfl, rfl⟩ := hm
    exact h4
  | some o =>
    obtain ⟨b, q⟩ := o
    rw [h9] at hm
    obtain ⟨rfl, rfl⟩ := hm
    refine Or.inr ⟨b, q, rfl, rfl, goalm_lt h9, ?_⟩
    unfold f_goalm at h9
    split at h9
    · rename_i b' q' hb hq
      split at h9
      · cases h9
        have := bOf_lt hq
        have := h1.2.2.2.2.1
        omega
      · cases h9
    · cases h9
theorem mvk_R {gn : Option Nat} {z : Bool} {k x : Nat} (hf : FrV wd hd nb wl sh bw bh) (hk : KV wd hd nb wl sh bw bh gn k) (h : mvk wd hd nb wl sh bw bh gn z k x) : Rch (kst wd hd nb wl sh bw bh gn) k x := by
  obtain ⟨c, hc, hg, F, hF, q, hq, rfl⟩ := h
  obtain ⟨d, hd⟩ := isMv_some hq
  exact (Rb_V hf hk hc (flo_Rb hf hk hc hg hF d q hd)).2
theorem KD_R {gn : Option Nat} {z : Bool} {P : Nat → Prop} {k0 : Nat} {F : Nat → Option Nat} (hf : FrV wd hd nb wl sh bw bh) (hk : KV wd hd nb wl sh bw bh gn k0) (h : KD (kst wd hd nb wl sh bw bh gn) (mvk wd hd nb wl sh bw bh gn z) P k0 F) : ∀ d x, F x = some d → Rch (kst wd hd nb wl sh bw bh gn) k0 x
  | 0, x, hx => (h.2.1 x hx).1
  | d + 1, x, hx => by
    obtain ⟨q, hq, hs⟩ := h.2.2.1 x d hx
    have h1 := KD_R hf hk h d q hq
    exact Rch_t h1 (mvk_R hf (Rch_V hf hk h1) hs)
theorem hardx_R {z : Bool} {x : Nat} (h : TV wd hd nb wl sh bw bh ps gl aq lb) (hx : f_hardx wd hd nb wl sh bw bh ps gl aq z = some x) : Rch (kst wd hd nb wl sh bw bh none) (pkey ps nb) x := by
  unfold f_hardx f_hard at hx
  split at hx
  · rename_i g ap
    unfold fOf at hx
    split at hx
    · rename_i hex
      have h2 := Classical.choose_spec hex
      rw [hx] at h2
      rcases h2 with ⟨-, h3⟩ | ⟨K, n, F, -, -, hD, h3⟩
      · cases h3
      · rcases h3 with ⟨-, h3⟩ | ⟨-, h3⟩
        · cases h3
        · obtain ⟨x', ⟨d, -, h4, -⟩, h5⟩ := h3
          cases h5
          exact KD_R h.1 h.2.2.1 hD d x h4
    · cases hx
  · cases hx
theorem HRD_TV {z : Bool} {st sl st2 sl2 : Int32} {lb2 : Option Nat} {ps2 : Nat → Nat} (h : TV wd hd nb wl sh bw bh ps gl aq lb) (hm : HRD nb (f_hardx wd hd nb wl sh bw bh ps gl aq z) st sl lb ps st2 sl2 lb2 ps2) : TV wd hd nb wl sh bw bh ps2 gl aq lb2 ∧ Rch (kst wd hd nb wl sh bw bh none) (pkey ps nb) (pkey ps2 nb) := by
  cases h9 : f_hardx wd hd nb wl sh bw bh ps gl aq z with
  | none =>
    rw [h9] at hm
    obtain ⟨-, -, rfl, rfl⟩ := hm
    exact ⟨h, Rch_0⟩
  | some x =>
    rw [h9] at hm
    obtain ⟨-, -, rfl, h2⟩ := hm
    have hr := hardx_R h h9
    have hV := Rch_V h.1 h.2.2.1 hr
    have hn7 := h.1.2.2.2.2.2.1
    have hps2 : ∀ b, b < nb → ps2 b < 32 := fun b hb => by rw [h2 b hb]; exact plc_lt x b
    have e : pkey ps2 nb = x := by
      refine key_ext (pkey_lt hps2) hV.1 (fun b hb => ?_)
      by_cases hbn : b < nb
      · rw [plc_pkey hn7 hps2 b hbn, h2 b hbn]
      · rw [pkey_hi hn7 hps2 b (by omega) hb, hV.2.1 b hb (Or.inl (by omega))]
    refine ⟨⟨h.1, hps2, by rw [e]; exact hV, h.2.2.2.1, fun d hd => by cases hd⟩, by rw [e]; exact hr⟩
theorem HRD_ag {o : Option Nat} {st sl st2 sl2 st3 sl3 : Int32} {lb2 lb3 : Option Nat} {ps2 psm psm2 shm bwm bhm : Nat → Nat} (hm : HRD nb o st sl lb ps st2 sl2 lb2 ps2) (hm2 : HRD nb o st sl lb psm st3 sl3 lb3 psm2) (hg : AG nb sh bw bh ps shm bwm bhm psm) : st3 = st2 ∧ sl3 = sl2 ∧ lb3 = lb2 ∧ AG nb sh bw bh ps2 shm bwm bhm psm2 := by
  cases o with
  | none =>
    obtain ⟨rfl, rfl, rfl, rfl⟩ := hm
    obtain ⟨rfl, rfl, rfl, rfl⟩ := hm2
    exact ⟨rfl, rfl, rfl, hg⟩
  | some x =>
    obtain ⟨rfl, rfl, rfl, h1⟩ := hm
    obtain ⟨rfl, rfl, rfl, h2⟩ := hm2
    exact ⟨rfl, rfl, rfl, fun i hi => ⟨(hg i hi).1, (hg i hi).2.1, (hg i hi).2.2.1, by rw [h1 i hi, h2 i hi]⟩⟩
end KM
