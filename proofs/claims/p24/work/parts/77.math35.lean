/-! ===== what the answers ask of the arrays: only what stands below the count ===== -/
def AG (nb : Nat) (sh bw bh ps sh2 bw2 bh2 ps2 : Nat → Nat) : Prop := ∀ i, i < nb → sh i = sh2 i ∧ bw i = bw2 i ∧ bh i = bh2 i ∧ ps i = ps2 i
theorem bOf_lt {n b : Nat} {x : Int32} (h : bOf n x = some b) : b < n := by
  unfold bOf at h
  split at h
  · injection h with h
    omega
  · cases h
section AGs
variable {wd hd nb wl : Nat} {sh bw bh ps sh2 bw2 bh2 ps2 : Nat → Nat}
theorem AG.symm (h : AG nb sh bw bh ps sh2 bw2 bh2 ps2) : AG nb sh2 bw2 bh2 ps2 sh bw bh ps := fun i hi => by
  obtain ⟨h1, h2, h3, h4⟩ := h i hi
  exact ⟨h1.symm, h2.symm, h3.symm, h4.symm⟩
theorem AG.up {b q : Nat} (h : AG nb sh bw bh ps sh2 bw2 bh2 ps2) : AG nb sh bw bh (va_up ps b q) sh2 bw2 bh2 (va_up ps2 b q) := fun i hi => by
  obtain ⟨h1, h2, h3, h4⟩ := h i hi
  refine ⟨h1, h2, h3, ?_⟩
  unfold va_up
  split
  · rfl
  · exact h4
theorem pkey_ag : ∀ n, (∀ i, i < n → ps i = ps2 i) → pkey ps n = pkey ps2 n
  | 0, _ => rfl
  | n + 1, h => by
    show wth (pkey ps n) n (ps n) = wth (pkey ps2 n) n (ps2 n)
    rw [pkey_ag n (fun i hi => h i (by omega)), h n (by omega)]
theorem AG.pk (h : AG nb sh bw bh ps sh2 bw2 bh2 ps2) : pkey ps nb = pkey ps2 nb := pkey_ag nb fun i hi => (h i hi).2.2.2
theorem tk_ag {k : Nat} {ex : Nat → Bool} : ∀ n, (∀ i, i < n → sh i = sh2 i) → tk wl sh k ex n = tk wl sh2 k ex n
  | 0, _ => rfl
  | n + 1, h => by
    show (if ex n then tk wl sh k ex n else tk wl sh k ex n ||| sh n <<< plc k n) = (if ex n then tk wl sh2 k ex n else tk wl sh2 k ex n ||| sh2 n <<< plc k n)
    rw [tk_ag n (fun i hi => h i (by omega)), h n (by omega)]
theorem AG.xtk (h : AG nb sh bw bh ps sh2 bw2 bh2 ps2) {k : Nat} {ex : Nat → Bool} : tk wl sh k ex nb = tk wl sh2 k ex nb := tk_ag nb fun i hi => (h i hi).1
theorem AG.xflo (h : AG nb sh bw bh ps sh2 bw2 bh2 ps2) {gn : Option Nat} {k b : Nat} (hb : b < nb) : flo wd hd nb wl sh bw bh gn k b = flo wd hd nb wl sh2 bw2 bh2 gn k b := by
  obtain ⟨h1, h2, h3, h4⟩ := h b hb
  unfold flo
  rw [h.xtk, h1, h2, h3]
theorem AG.xbst (h : AG nb sh bw bh ps sh2 bw2 bh2 ps2) {gn : Option Nat} {k x c : Nat} (hc : c < nb) : bst wd hd nb wl sh bw bh gn c k x ↔ bst wd hd nb wl sh2 bw2 bh2 gn c k x := by
  obtain ⟨h1, h2, h3, h4⟩ := h c hc
  unfold bst
  rw [h.xtk, h1, h2, h3]
theorem AG.xkst (h : AG nb sh bw bh ps sh2 bw2 bh2 ps2) {gn : Option Nat} : kst wd hd nb wl sh bw bh gn = kst wd hd nb wl sh2 bw2 bh2 gn := by
  funext k x
  refine propext ⟨?_, ?_⟩
  · rintro ⟨c, hc, h1⟩
    exact ⟨c, hc, (h.xbst hc).mp h1⟩
  · rintro ⟨c, hc, h1⟩
    exact ⟨c, hc, (h.xbst hc).mpr h1⟩
theorem AG.xmvk1 (h : AG nb sh bw bh ps sh2 bw2 bh2 ps2) {gn : Option Nat} {z : Bool} {k x c : Nat} (hc : c < nb) : mvk1 wd hd nb wl sh bw bh gn z c k x ↔ mvk1 wd hd nb wl sh2 bw2 bh2 gn z c k x := by
  obtain ⟨h1, h2, h3, h4⟩ := h c hc
  unfold mvk1
  rw [h.xtk, h1, h2, h3]
theorem AG.xmvk (h : AG nb sh bw bh ps sh2 bw2 bh2 ps2) {gn : Option Nat} {z : Bool} : mvk wd hd nb wl sh bw bh gn z = mvk wd hd nb wl sh2 bw2 bh2 gn z := by
  funext k x
  refine propext ⟨?_, ?_⟩
  · rintro ⟨c, hc, h0, h1⟩
    exact ⟨c, hc, h0, (h.xmvk1 hc).mp h1⟩
  · rintro ⟨c, hc, h0, h1⟩
    exact ⟨c, hc, h0, (h.xmvk1 hc).mpr h1⟩
theorem okmv_ag {fl fl2 : Nat → Nat → Option Nat} {z : Bool} {k0 b q : Nat} {F : Nat → Option Nat} (h : ∀ b, b < nb → fl b = fl2 b) : okmv nb fl z k0 F b q ↔ okmv nb fl2 z k0 F b q := by
  unfold okmv
  refine ⟨?_, ?_⟩
  · rintro ⟨h1, h2, h3⟩
    rw [h b h1] at h2
    exact ⟨h1, h2, h3⟩
  · rintro ⟨h1, h2, h3⟩
    rw [← h b h1] at h2
    exact ⟨h1, h2, h3⟩
theorem sp_hint_ag {S M : Nat → Nat → Prop} {P : Nat → Prop} {fl fl2 : Nat → Nat → Option Nat} {z : Bool} {k0 : Nat} (h : ∀ b, b < nb → fl b = fl2 b) : sp_hint S M P nb fl z k0 = sp_hint S M P nb fl2 z k0 := by
  funext r
  unfold sp_hint rhint
  simp only [okmv_ag h]
theorem f_hint_ag {S M : Nat → Nat → Prop} {fl fl2 : Nat → Nat → Option Nat} {z : Bool} {gl aq : Option Nat} {k0 : Nat} (h : ∀ b, b < nb → fl b = fl2 b) : f_hint S M nb fl z gl aq k0 = f_hint S M nb fl2 z gl aq k0 := by
  unfold f_hint
  cases gl with
  | none => rfl
  | some g =>
    cases aq with
    | none => rfl
    | some ap =>
      dsimp only
      rw [sp_hint_ag h]
theorem AG.hintx (h : AG nb sh bw bh ps sh2 bw2 bh2 ps2) {gl aq : Option Nat} {z : Bool} : f_hintx wd hd nb wl sh bw bh ps gl aq z = f_hintx wd hd nb wl sh2 bw2 bh2 ps2 gl aq z := by
  unfold f_hintx
  rw [h.pk, h.xkst, h.xmvk]
  exact f_hint_ag fun b hb => h.xflo hb
theorem f_hint_lt {S M : Nat → Nat → Prop} {fl : Nat → Nat → Option Nat} {z : Bool} {gl aq : Option Nat} {k0 b q : Nat} (h : f_hint S M nb fl z gl aq k0 = .inr (some (b, q))) : b < nb := by
  unfold f_hint at h
  split at h
  · rename_i g ap
    unfold fOf at h
    split at h
    · rename_i hex
      have h2 := Classical.choose_spec hex
      rw [h] at h2
      rcases h2 with ⟨-, h3⟩ | ⟨K, n, F, -, -, -, h3⟩
      · cases h3
      · rcases h3 with ⟨-, h3⟩ | ⟨-, h3⟩
        · cases h3
        · obtain ⟨o, h4, h5⟩ := h3
          rcases h4 with ⟨-, rfl⟩ | ⟨b', q', h6, -, rfl⟩
          · cases h5
          · cases h5
            exact h6.1
    · cases h
  · cases h
theorem AG.stepm (h : AG nb sh bw bh ps sh2 bw2 bh2 ps2) {x y : Int32} : f_stepm wd hd nb wl sh bw bh ps x y = f_stepm wd hd nb wl sh2 bw2 bh2 ps2 x y := by
  unfold f_stepm
  cases hb : bOf nb x with
  | none => rfl
  | some b =>
    cases bOf 4 y with
    | none => rfl
    | some d =>
      obtain ⟨h1, h2, h3, h4⟩ := h b (bOf_lt hb)
      dsimp only
      rw [h.xtk, h.pk, h1, h2, h3, h4]
theorem AG.stepr (h : AG nb sh bw bh ps sh2 bw2 bh2 ps2) {x y : Int32} : f_stepr wd hd nb wl sh bw bh ps x y = f_stepr wd hd nb wl sh2 bw2 bh2 ps2 x y := by
  unfold f_stepr
  cases hb : bOf nb x with
  | none => rfl
  | some b =>
    cases bOf 4 y with
    | none => rfl
    | some d =>
      obtain ⟨h1, h2, h3, h4⟩ := h b (bOf_lt hb)
      dsimp only
      rw [h.xtk, h.pk, h1, h2, h3, h4]
theorem AG.slidem (h : AG nb sh bw bh ps sh2 bw2 bh2 ps2) {x y : Int32} : f_slidem wd hd nb wl sh bw bh ps x y = f_slidem wd hd nb wl sh2 bw2 bh2 ps2 x y := by
  unfold f_slidem
  cases hb : bOf nb x with
  | none => rfl
  | some b =>
    cases bOf (wd * hd) y with
    | none => rfl
    | some d =>
      dsimp only
      rw [h.pk, h.xflo (bOf_lt hb)]
theorem AG.slider (h : AG nb sh bw bh ps sh2 bw2 bh2 ps2) {x y : Int32} : f_slider wd hd nb wl sh bw bh ps x y = f_slider wd hd nb wl sh2 bw2 bh2 ps2 x y := by
  unfold f_slider
  cases hb : bOf nb x with
  | none => rfl
  | some b =>
    cases bOf (wd * hd) y with
    | none => rfl
    | some d =>
      dsimp only
      rw [h.pk, h.xflo (bOf_lt hb)]
theorem AG.goalm (h : AG nb sh bw bh ps sh2 bw2 bh2 ps2) {x y : Int32} : f_goalm wd hd nb bw bh x y = f_goalm wd hd nb bw2 bh2 x y := by
  unfold f_goalm
  cases hb : bOf nb x with
  | none => rfl
  | some b =>
    cases bOf (wd * hd) y with
    | none => rfl
    | some d =>
      obtain ⟨h1, h2, h3, h4⟩ := h b (bOf_lt hb)
      dsimp only
      rw [h2, h3]
theorem goalm_lt {x y : Int32} {b q : Nat} (h : f_goalm wd hd nb bw bh x y = some (b, q)) : b < nb := by
  unfold f_goalm at h
  split at h
  · rename_i b' q' hb _
    split at h
    · cases h
      exact bOf_lt hb
    · cases h
  · cases h
theorem AG.goalr (h : AG nb sh bw bh ps sh2 bw2 bh2 ps2) {x y : Int32} : f_goalr wd hd nb bw bh ps x y = f_goalr wd hd nb bw2 bh2 ps2 x y := by
  unfold f_goalr
  rw [← h.goalm]
  cases h9 : f_goalm wd hd nb bw bh x y with
  | none => rfl
  | some o =>
    obtain ⟨b, q⟩ := o
    dsimp only
    unfold f_sol
    dsimp only
    rw [(h b (goalm_lt h9)).2.2.2]
theorem AG.placesx (h : AG nb sh bw bh ps sh2 bw2 bh2 ps2) {x : Int32} : f_placesx wd hd nb wl sh bw bh ps x = f_placesx wd hd nb wl sh2 bw2 bh2 ps2 x := by
  unfold f_placesx
  rw [h.pk, h.xkst]
theorem AG.without (h : AG nb sh bw bh ps sh2 bw2 bh2 ps2) {gl aq : Option Nat} {x : Int32} {z : Bool} : f_without wd hd nb wl sh bw bh ps gl aq x z = f_without wd hd nb wl sh2 bw2 bh2 ps2 gl aq x z := by
  unfold f_without
  simp only [h.pk, h.xkst, h.xmvk]
theorem AG.folr (h : AG nb sh bw bh ps sh2 bw2 bh2 ps2) {gl aq : Option Nat} {z : Bool} : f_folr wd hd nb wl sh bw bh ps gl aq z = f_folr wd hd nb wl sh2 bw2 bh2 ps2 gl aq z := by
  unfold f_folr
  rw [h.hintx, h.pk, h.xkst, h.xmvk]
theorem AG.folm (h : AG nb sh bw bh ps sh2 bw2 bh2 ps2) {gl aq : Option Nat} {z : Bool} : f_folm wd hd nb wl sh bw bh ps gl aq z = f_folm wd hd nb wl sh2 bw2 bh2 ps2 gl aq z := by
  unfold f_folm
  rw [← h.hintx]
  cases h9 : f_hintx wd hd nb wl sh bw bh ps gl aq z with
  | inl r => rfl
  | inr o =>
    cases o with
    | none => rfl
    | some o =>
      obtain ⟨b, q⟩ := o
      dsimp only
      have hb : b < nb := by
        unfold f_hintx at h9
        exact f_hint_lt h9
      rw [h.pk, h.xflo hb]
theorem AG.hardx (h : AG nb sh bw bh ps sh2 bw2 bh2 ps2) {gl aq : Option Nat} {z : Bool} : f_hardx wd hd nb wl sh bw bh ps gl aq z = f_hardx wd hd nb wl sh2 bw2 bh2 ps2 gl aq z := by
  unfold f_hardx
  rw [h.pk, h.xkst, h.xmvk]
theorem AG.hardr (h : AG nb sh bw bh ps sh2 bw2 bh2 ps2) {gl aq : Option Nat} {z : Bool} : f_hardr wd hd nb wl sh bw bh ps gl aq z = f_hardr wd hd nb wl sh2 bw2 bh2 ps2 gl aq z := by
  unfold f_hardr
  rw [h.hardx, h.pk, h.xkst, h.xmvk]
theorem AG.alike (h : AG nb sh bw bh ps sh2 bw2 bh2 ps2) {b : Nat} (hb : b < nb) : f_alike sh b = f_alike sh2 b := by
  unfold f_alike
  have e : isfirst sh b = isfirst sh2 b := by
    funext c
    refine propext ⟨?_, ?_⟩
    · rintro ⟨h1, h2, h3⟩
      refine ⟨h1, by rw [← (h c (by omega)).1, ← (h b hb).1]; exact h2, fun j hj => by rw [← (h j (by omega)).1, ← (h b hb).1]; exact h3 j hj⟩
    · rintro ⟨h1, h2, h3⟩
      refine ⟨h1, by rw [(h c (by omega)).1, (h b hb).1]; exact h2, fun j hj => by rw [(h j (by omega)).1, (h b hb).1]; exact h3 j hj⟩
  rw [e]
theorem AG.blk (h : AG nb sh bw bh ps sh2 bw2 bh2 ps2) {b k : Nat} (hb : b < nb) : f_blk wd hd nb wl sh bw bh ps b k = f_blk wd hd nb wl sh2 bw2 bh2 ps2 b k := by
  obtain ⟨h1, h2, h3, h4⟩ := h b hb
  unfold f_blk
  rw [h.xtk, h.pk, h.xflo hb, h.alike hb, h1, h2, h3, h4]
theorem AG.blkx (h : AG nb sh bw bh ps sh2 bw2 bh2 ps2) {x y : Int32} : f_blkx wd hd nb wl sh bw bh ps x y = f_blkx wd hd nb wl sh2 bw2 bh2 ps2 x y := by
  unfold f_blkx
  cases hb : bOf nb x with
  | none => rfl
  | some b =>
    cases bOf 7 y with
    | none => rfl
    | some k => exact h.blk (bOf_lt hb)
theorem cel_ag {i : Nat} : ∀ n, (∀ i, i < n → sh i = sh2 i ∧ ps i = ps2 i) → f_cel wl sh ps i n = f_cel wl sh2 ps2 i n
  | 0, _ => rfl
  | n + 1, h => by
    obtain ⟨h1, h2⟩ := h n (by omega)
    show (if (sh n <<< ps n).testBit i then nI n else f_cel wl sh ps i n) = (if (sh2 n <<< ps2 n).testBit i then nI n else f_cel wl sh2 ps2 i n)
    rw [cel_ag n (fun i hi => h i (by omega)), h1, h2]
theorem AG.cel (h : AG nb sh bw bh ps sh2 bw2 bh2 ps2) {i : Nat} : f_cel wl sh ps i nb = f_cel wl sh2 ps2 i nb := cel_ag nb fun i hi => ⟨(h i hi).1, (h i hi).2.2.2⟩
theorem AG.cellx (h : AG nb sh bw bh ps sh2 bw2 bh2 ps2) {x : Int32} : f_cellx wd hd nb wl sh ps x = f_cellx wd hd nb wl sh2 ps2 x := by
  unfold f_cellx
  simp only [h.cel]
theorem AG.free (h : AG nb sh bw bh ps sh2 bw2 bh2 ps2) : f_free wd hd nb wl sh ps = f_free wd hd nb wl sh2 ps2 := by
  unfold f_free
  rw [h.xtk, h.pk]
theorem AG.sol (h : AG nb sh bw bh ps sh2 bw2 bh2 ps2) {gl aq : Option Nat} (hg : GA gl aq nb) : f_sol gl aq ps = f_sol gl aq ps2 := by
  rcases hg with ⟨rfl, rfl⟩ | ⟨g, ap, rfl, rfl, h1, -⟩
  · rfl
  · unfold f_sol
    dsimp only
    rw [(h g h1).2.2.2]
theorem AG.frame (h : AG nb sh bw bh ps sh2 bw2 bh2 ps2) {gl aq : Option Nat} (hg : GA gl aq nb) {st sl : Int32} {k : Nat} : f_frame wd hd nb wl st sl gl aq sh ps k = f_frame wd hd nb wl st sl gl aq sh2 ps2 k := by
  unfold f_frame
  rw [h.free, h.sol hg]
theorem AG.framex (h : AG nb sh bw bh ps sh2 bw2 bh2 ps2) {gl aq : Option Nat} (hg : GA gl aq nb) {st sl : Int32} {x : Int32} : f_framex wd hd nb wl st sl gl aq sh ps x = f_framex wd hd nb wl st sl gl aq sh2 ps2 x := by
  unfold f_framex
  simp only [h.frame hg]
theorem fold9_ag {f g : Nat → Int32} {a : Int64} : ∀ n, (∀ i, i < n → f i = g i) → fold9 f a n = fold9 g a n
  | 0, _ => rfl
  | n + 1, h => by
    show fpS (fold9 f a n) (f n) = fpS (fold9 g a n) (g n)
    rw [fold9_ag n (fun i hi => h i (by omega)), h n (by omega)]
theorem foldB_ag {f g : Nat → Nat → Int32} {a : Int64} : ∀ n, (∀ b, b < n → ∀ i, f b i = g b i) → foldB f a n = foldB g a n
  | 0, _ => rfl
  | n + 1, h => by
    show fold9 (f n) (foldB f a n) 7 = fold9 (g n) (foldB g a n) 7
    rw [foldB_ag n (fun i hi => h i (by omega)), fold9_ag 7 (fun i _ => h n (by omega) i)]
theorem AG.fp (h : AG nb sh bw bh ps sh2 bw2 bh2 ps2) {gl aq : Option Nat} (hg : GA gl aq nb) {st sl : Int32} : f_fp wd hd nb wl st sl gl aq sh bw bh ps = f_fp wd hd nb wl st sl gl aq sh2 bw2 bh2 ps2 := by
  unfold f_fp
  rw [h.pk, h.xkst, h.xmvk, h.xmvk, foldB_ag nb (fun b hb i => h.blk hb)]
  have e1 : (fun i => f_cel wl sh ps i nb) = fun i => f_cel wl sh2 ps2 i nb := funext fun i => h.cel
  have e2 : f_frame wd hd nb wl st sl gl aq sh ps = f_frame wd hd nb wl st sl gl aq sh2 ps2 := funext fun k => h.frame hg
  rw [e1, e2]
end AGs
