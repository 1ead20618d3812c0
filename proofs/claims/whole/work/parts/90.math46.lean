/-! ===== the law's loop (written by lgen3.py) ===== -/
theorem sw_32 (x : Int32) : ∃ j, j < 32 ∧ x &&& 31 = nI j := by
  have e : x = nI x.toBitVec.toNat := nI_inj32 (by rw [nI_tn]; exact (Nat.mod_eq_of_lt x.toBitVec.isLt).symm)
  refine ⟨x.toBitVec.toNat &&& 31, ?_, ?_⟩
  · have := @Nat.and_le_right x.toBitVec.toNat 31
    omega
  · rw [← nI_and, ← e]
    rfl
set_option maxHeartbeats 4000000 in
set_option maxRecDepth 100000 in
theorem law_loop {p : Program} {l : Launch} {e : Env} {s : State} {m : MethodId} {args : Array Value} {below : List Frame} {meth : Method} {c : Code} {cells slots : Nat} {Q : State → Prop} {A : Nat → Prop} {H0 : Heap} {D : va_G} {cI cJ cB : ClassId} {b L xo o : Nat} {xs : Nat → Int32} (hcx : LCX p s m c args D cI cJ cB b L xs A H0 cells slots) (kend : ∀ (H : Heap) (locs : List Loc) (ls : Array Slot), va_S A H0 H locs → W p l e room_1 s m args below meth c H locs cells slots Q (F0 m 754 ls [])) : ∀ (n i : Nat) (WS : va_W), 3 * i ≤ L → L + 1 ≤ 3 * i + n → LJ cI cJ cB i xo o WS → ∀ (H : Heap) (locs : List Loc) (ls : Array Slot), va_P D vwCl WS H → va_D A WS → va_S A H0 H locs → lv_has ls 8 [(0, .ref b), (1, .ref xo), (2, .ref o), (3, .int (nI (3 * i)))] → W p l e room_1 s m args below meth c H locs cells slots Q (F0 m 18 ls []) := by
  obtain ⟨hC, hK, hN, hX, hbl, hbA, hL, hfc, hfs⟩ := id hcx
  obtain ⟨hx, hb, -, -, -⟩ := id hC
  intro n
  induction n with
  | zero => intro i WS h1 h2; exact absurd h2 (by omega)
  | succ n ih =>
    intro i WS h1 h2 hj H locs ls hP hD hS hl
    refine lv_iload_n hx hb dL_law_18 rfl (lv_at hl 3 rfl) ?_
    refine lv_aload_n hx hb dL_law_19 rfl (lv_at hl 0 rfl) ?_
    refine va_slen hx hb hX hbl hbA hS dL_law_20 ?_
    refine lv_iconst (v := nI 3) hx hb dL_law_21 (by decide) ?_
    refine lv_isub hx hb dL_law_22 ?_
    have hsub : (Int32.ofNat L - nI 3).toInt = (L : Int) - 3 := pk_sub_toInt (a := L) (b := 3) (by omega) (by omega)
    have h3i : (nI (3 * i)).toInt = ((3 * i : Nat) : Int) := nI_toInt (by omega)
    refine lv_icmp_gt (tgt := 754) hx hb dL_law_23 (by decide) (fun _ => kend H locs ls hS) (fun hc => ?_)
    have h3 : 3 * i + 3 ≤ L := by
      rw [Int32.lt_iff_toInt_lt, hsub, h3i] at hc
      omega
    refine lv_aload_n hx hb dL_law_26 rfl (lv_at hl 0 rfl) ?_
    refine lv_iload_n hx hb dL_law_27 rfl (lv_at hl 3 rfl) ?_
    refine va_sld hx hb hX hbl hbA hS (vp_in_nI (n := 3 * i) (by omega) (by omega)) dL_law_28 ?_
    refine lv_bipush (v := 31) hx hb dL_law_29 (by decide) ?_
    refine lv_iand hx hb dL_law_31 ?_
    obtain ⟨j, hj32, ej⟩ := sw_32 (xs (nI (3 * i)).toNatClampNeg)
    rw [ej]
    have kk : ∀ (w8 : va_W) (H : Heap) (locs : List Loc) (ls : Array Slot), LJE cI cJ cB (i + 1) xo o w8 → va_P D vwCl w8 H → va_D A w8 → va_S A H0 H locs → lv_has ls 8 [(0, .ref b), (1, .ref xo), (2, .ref o), (3, .int (nI (3 * i)))] → W p l e room_1 s m args below meth c H locs cells slots Q (F0 m 748 ls []) := by
      intro w8 H locs ls hj hP hD hS hl
      obtain ⟨ws3, hI, hj⟩ := hj
      refine lv_iinc (v := nI (3 * (i + 1))) (lv' := [(3, .int (nI (3 * (i + 1)))), (0, .ref b), (1, .ref xo), (2, .ref o)]) hx hb dL_law_748 hl (k := 3) rfl (by show nI (3 * i) + nI 3 = _; rw [nI_add]; rfl) (by decide) rfl (fun ls hl => ?_)
      refine lv_goto (tgt := 18) hx hb dL_law_751 (by decide) ?_
      exact ih (i + 1) ws3 (by omega) (by omega) hj H locs ls (hI.1 D H hP) (hI.2 A hD) hS (lv_sub hl [1, 2, 3, 0] rfl)
    rcases (show j = 0 ∨ j = 1 ∨ j = 2 ∨ j = 3 ∨ j = 4 ∨ j = 5 ∨ j = 6 ∨ j = 7 ∨ j = 8 ∨ j = 9 ∨ j = 10 ∨ j = 11 ∨ j = 12 ∨ j = 13 ∨ j = 14 ∨ j = 15 ∨ j = 16 ∨ j = 17 ∨ j = 18 ∨ j = 19 ∨ j = 20 ∨ 21 ≤ j by omega) with rfl | rfl | rfl | rfl | rfl | rfl | rfl | rfl | rfl | rfl | rfl | rfl | rfl | rfl | rfl | rfl | rfl | rfl | rfl | rfl | rfl | h21
    · exact lv_tableIn (x := nI 0) (off := 100) (tgt := 132) hx hb dL_law_32 (by decide) (by decide) rfl (by decide) (lc_type hcx h3 hj hP hD hS hl kk)
    · exact lv_tableIn (x := nI 1) (off := 123) (tgt := 155) hx hb dL_law_32 (by decide) (by decide) rfl (by decide) (lc_clear hcx h3 hj hP hD hS hl kk)
    · exact lv_tableIn (x := nI 2) (off := 136) (tgt := 168) hx hb dL_law_32 (by decide) (by decide) rfl (by decide) (lc_read hcx h3 hj hP hD hS hl kk)
    · exact lv_tableIn (x := nI 3) (off := 149) (tgt := 181) hx hb dL_law_32 (by decide) (by decide) rfl (by decide) (lc_frame hcx h3 hj hP hD hS hl kk)
    · exact lv_tableIn (x := nI 4) (off := 172) (tgt := 204) hx hb dL_law_32 (by decide) (by decide) rfl (by decide) (lc_cell hcx h3 hj hP hD hS hl kk)
    · exact lv_tableIn (x := nI 5) (off := 195) (tgt := 227) hx hb dL_law_32 (by decide) (by decide) rfl (by decide) (lc_block hcx h3 hj hP hD hS hl kk)
    · exact lv_tableIn (x := nI 6) (off := 228) (tgt := 260) hx hb dL_law_32 (by decide) (by decide) rfl (by decide) (lc_step hcx h3 hj hP hD hS hl kk)
    · exact lv_tableIn (x := nI 7) (off := 261) (tgt := 293) hx hb dL_law_32 (by decide) (by decide) rfl (by decide) (lc_slide hcx h3 hj hP hD hS hl kk)
    · exact lv_tableIn (x := nI 8) (off := 294) (tgt := 326) hx hb dL_law_32 (by decide) (by decide) rfl (by decide) (lc_goal hcx h3 hj hP hD hS hl kk)
    · exact lv_tableIn (x := nI 9) (off := 327) (tgt := 359) hx hb dL_law_32 (by decide) (by decide) rfl (by decide) (lc_states hcx h3 hj hP hD hS hl kk)
    · exact lv_tableIn (x := nI 10) (off := 340) (tgt := 372) hx hb dL_law_32 (by decide) (by decide) rfl (by decide) (lc_solved hcx h3 hj hP hD hS hl kk)
    · exact lv_tableIn (x := nI 11) (off := 353) (tgt := 385) hx hb dL_law_32 (by decide) (by decide) rfl (by decide) (lc_distance hcx h3 hj hP hD hS hl kk)
    · exact lv_tableIn (x := nI 12) (off := 392) (tgt := 424) hx hb dL_law_32 (by decide) (by decide) rfl (by decide) (lc_hint hcx h3 hj hP hD hS hl kk)
    · exact lv_tableIn (x := nI 13) (off := 431) (tgt := 463) hx hb dL_law_32 (by decide) (by decide) rfl (by decide) (lc_follow hcx h3 hj hP hD hS hl kk)
    · exact lv_tableIn (x := nI 14) (off := 470) (tgt := 502) hx hb dL_law_32 (by decide) (by decide) rfl (by decide) (lc_worst hcx h3 hj hP hD hS hl kk)
    · exact lv_tableIn (x := nI 15) (off := 509) (tgt := 541) hx hb dL_law_32 (by decide) (by decide) rfl (by decide) (lc_hardest hcx h3 hj hP hD hS hl kk)
    · exact lv_tableIn (x := nI 16) (off := 548) (tgt := 580) hx hb dL_law_32 (by decide) (by decide) rfl (by decide) (lc_mean hcx h3 hj hP hD hS hl kk)
    · exact lv_tableIn (x := nI 17) (off := 617) (tgt := 649) hx hb dL_law_32 (by decide) (by decide) rfl (by decide) (lc_places hcx h3 hj hP hD hS hl kk)
    · exact lv_tableIn (x := nI 18) (off := 640) (tgt := 672) hx hb dL_law_32 (by decide) (by decide) rfl (by decide) (lc_without hcx h3 hj hP hD hS hl kk)
    · exact lv_tableIn (x := nI 19) (off := 689) (tgt := 721) hx hb dL_law_32 (by decide) (by decide) rfl (by decide) (lc_undo hcx h3 hj hP hD hS hl kk)
    · exact lv_tableIn (x := nI 20) (off := 702) (tgt := 734) hx hb dL_law_32 (by decide) (by decide) rfl (by decide) (lc_fingerprint hcx h3 hj hP hD hS hl kk)
    · refine lv_tableOut (tgt := 748) hx hb dL_law_32 (Or.inr (by rw [nI_toInt (by omega)]; omega)) (by decide) ?_
      exact kk WS H locs ls (LJE.of (LJ.up hj)) hP hD hS hl
