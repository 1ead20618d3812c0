/-! ===== p24: the answers to what is refused, and to plain questions ===== -/
theorem va_P_tl {D : va_G} {H : Heap} {q : Nat × va_E} {ws : va_W} (h : va_P D vwCl (q :: ws) H) : va_P D vwCl ws H := fun k x hk => h (k + 1) x hk
theorem va_D_tl {A : Nat → Prop} {q : Nat × va_E} {ws : va_W} (h : va_D A (q :: ws)) : va_D A ws := ⟨fun i j x y hx hy hxy => by
  have := h.1 (i + 1) (j + 1) x y hx hy hxy
  omega, fun k x hk => h.2 (k + 1) x hk⟩
abbrev oW (cI cJ cB : ClassId) (ws : va_W) : va_W := ws
abbrev gW (cI cJ cB : ClassId) (ga gn : Nat) (gf : Nat → Int32) (ws : va_W) : va_W := (ga, .inl (cI, gn, .inl gf)) :: ws
theorem bOf_ge {n b : Nat} (h : n ≤ b) (hb : b < 2 ^ 31) : bOf n (nI b) = none := by
  unfold bOf
  rw [nI_toInt hb, if_neg (by omega)]
theorem bOf_m1 {n : Nat} : bOf n (-1) = none := by
  unfold bOf
  rw [show (-1 : Int32).toInt = -1 from rfl, if_neg (by omega)]
section LM
variable {wd hd nb wl : Nat} {sh bw bh ps : Nat → Nat} {gl aq lb : Option Nat} {st sl x y : Int32} {z : Bool} {S M : Nat → Nat → Prop} {k b d : Nat}
theorem frx (hk : k < 9) : f_framex wd hd nb wl st sl gl aq sh ps (nI k) = f_frame wd hd nb wl st sl gl aq sh ps k := by
  unfold f_framex
  rw [bOf_nI hk (by decide)]
theorem frx_no (h : bOf 9 x = none) : f_framex wd hd nb wl st sl gl aq sh ps x = -1 := by
  unfold f_framex
  rw [h]
theorem clx (hk : k < wd * hd) (h : wd * hd ≤ 24) : f_cellx wd hd nb wl sh ps (nI k) = f_cel wl sh ps k nb := by
  unfold f_cellx
  rw [bOf_nI hk (by omega)]
theorem clx_no (h : bOf (wd * hd) x = none) : f_cellx wd hd nb wl sh ps x = -1 := by
  unfold f_cellx
  rw [h]
theorem blx (hb : b < nb) (hn : nb ≤ 7) (hk : k < 7) : f_blkx wd hd nb wl sh bw bh ps (nI b) (nI k) = f_blk wd hd nb wl sh bw bh ps b k := by
  unfold f_blkx
  rw [bOf_nI hb (by omega), bOf_nI hk (by decide)]
theorem blx_no1 (h : bOf nb x = none) : f_blkx wd hd nb wl sh bw bh ps x y = -1 := by
  unfold f_blkx
  rw [h]
theorem blx_no2 (h : bOf 7 y = none) : f_blkx wd hd nb wl sh bw bh ps x y = -1 := by
  unfold f_blkx
  rw [h]
  cases bOf nb x <;> rfl
theorem stm_no1 (h : bOf nb x = none) : f_stepm wd hd nb wl sh bw bh ps x y = none := by
  unfold f_stepm
  rw [h]
theorem str_no1 (h : bOf nb x = none) : f_stepr wd hd nb wl sh bw bh ps x y = -1 := by
  unfold f_stepr
  rw [h]
theorem stm_no2 (h : bOf 4 y = none) : f_stepm wd hd nb wl sh bw bh ps x y = none := by
  unfold f_stepm
  rw [h]
  cases bOf nb x <;> rfl
theorem str_no2 (h : bOf 4 y = none) : f_stepr wd hd nb wl sh bw bh ps x y = -1 := by
  unfold f_stepr
  rw [h]
  cases bOf nb x <;> rfl
theorem slm_no1 (h : bOf nb x = none) : f_slidem wd hd nb wl sh bw bh ps x y = none := by
  unfold f_slidem
  rw [h]
theorem slr_no1 (h : bOf nb x = none) : f_slider wd hd nb wl sh bw bh ps x y = -1 := by
  unfold f_slider
  rw [h]
theorem slm_no2 (h : bOf (wd * hd) y = none) : f_slidem wd hd nb wl sh bw bh ps x y = none := by
  unfold f_slidem
  rw [h]
  cases bOf nb x <;> rfl
theorem slr_no2 (h : bOf (wd * hd) y = none) : f_slider wd hd nb wl sh bw bh ps x y = -1 := by
  unfold f_slider
  rw [h]
  cases bOf nb x <;> rfl
theorem glm_no1 (h : bOf nb x = none) : f_goalm wd hd nb bw bh x y = none := by
  unfold f_goalm
  rw [h]
theorem glm_no2 (h : bOf (wd * hd) y = none) : f_goalm wd hd nb bw bh x y = none := by
  unfold f_goalm
  rw [h]
  cases bOf nb x <;> rfl
theorem glr_no (h : f_goalm wd hd nb bw bh x y = none) : f_goalr wd hd nb bw bh ps x y = -1 := by
  unfold f_goalr
  rw [h]
theorem plx_no (h : bOf nb x = none) : f_placesx wd hd nb wl sh bw bh ps x = -1 := by
  unfold f_placesx
  rw [h]
theorem plx (hb : b < nb) (hn : nb ≤ 7) : f_placesx wd hd nb wl sh bw bh ps (nI b) = f_places (kst wd hd nb wl sh bw bh none) b (pkey ps nb) := by
  unfold f_placesx
  rw [bOf_nI hb (by omega)]
theorem wox_no (h : bOf nb x = none) : f_without wd hd nb wl sh bw bh ps gl aq x z = -1 := by
  unfold f_without
  rw [h]
theorem wox (hb : b < nb) (hn : nb ≤ 7) : f_without wd hd nb wl sh bw bh ps gl aq (nI b) z = if gl = some b then -2 else f_dist (kst wd hd nb wl sh bw bh (some b)) (mvk wd hd nb wl sh bw bh (some b) z) gl aq (wth (pkey ps nb) b 0) := by
  unfold f_without
  rw [bOf_nI hb (by omega)]
/-! no goal -/
theorem so_none (h : gl = none) : f_solved S gl aq k = -2 := by rw [h]; rfl
theorem di_none (h : gl = none) : f_dist S M gl aq k = -2 := by rw [h]; rfl
theorem wo_none (h : gl = none) : f_worst S M gl aq k = -2 := by rw [h]; rfl
theorem me_none (h : gl = none) : f_mean S M gl aq k = 3212836864 := by rw [h]; rfl
theorem hi_none (h : gl = none) : f_hintx wd hd nb wl sh bw bh ps gl aq z = .inl (-2) := by rw [h]; rfl
theorem hc_none (h : gl = none) : cHint (f_hintx wd hd nb wl sh bw bh ps gl aq z) = -2 := by rw [hi_none h]; rfl
theorem fm_none (h : gl = none) : f_folm wd hd nb wl sh bw bh ps gl aq z = none := by
  unfold f_folm
  rw [hi_none h]
theorem fr_none (h : gl = none) : f_folr wd hd nb wl sh bw bh ps gl aq z = -2 := by
  unfold f_folr
  rw [hi_none h]
theorem hx_none (h : gl = none) : f_hardx wd hd nb wl sh bw bh ps gl aq z = none := by rw [h]; rfl
theorem hr_none (h : f_hardx wd hd nb wl sh bw bh ps gl aq z = none) : f_hardr wd hd nb wl sh bw bh ps gl aq z = -2 := by
  unfold f_hardr
  rw [h]
theorem wx_none (hb : b < nb) (hn : nb ≤ 7) (h : gl = none) : f_without wd hd nb wl sh bw bh ps gl aq (nI b) z = -2 := by
  rw [wox hb hn, h]
  rfl
/-! bounds of a true board -/
theorem TV_n (h : TV wd hd nb wl sh bw bh ps gl aq lb) : nb ≤ 7 := h.1.2.2.2.2.2.1
theorem TV_c (h : TV wd hd nb wl sh bw bh ps gl aq lb) : wd * hd ≤ 24 := h.1.2.2.2.2.1
theorem TV_w (h : TV wd hd nb wl sh bw bh ps gl aq lb) : 1 ≤ wd ∧ wd ≤ 6 ∧ 1 ≤ hd ∧ hd ≤ 6 := ⟨h.1.1, h.1.2.1, h.1.2.2.1, h.1.2.2.2.1⟩
theorem TV_g (h : TV wd hd nb wl sh bw bh ps gl aq lb) : ∀ d, gl = some d → d < 2 ^ 31 := by
  rintro d rfl
  rcases h.2.2.2.1 with ⟨h1, -⟩ | ⟨g, ap, h1, -, h2, -⟩
  · cases h1
  · cases h1
    have := TV_n h
    omega
theorem TV_p (h : TV wd hd nb wl sh bw bh ps gl aq lb) (hb : b < nb) : ps b < wd * hd ∧ PlV wd hd (bw b) (bh b) (ps b) := by
  have h1 := (KV_pl h.1.2.2.2.2.2.1 h.2.1 h.2.2.1 hb).1
  exact ⟨PlV_lt h.1.1 (h.1.2.2.2.2.2.2.2 b hb).2.2.1 h1, h1⟩
end LM
