/-! ===== p24: frame (written by w5.py) ===== -/
theorem GI_0 {wd hd : Nat} : GI wd hd 0 (fun _ => 0) := ⟨by decide, fun _ _ => rfl, fun _ => Or.inl (Nat.le_refl 0), fun b h1 h2 => by omega⟩
theorem GI_b {wd hd n : Nat} {G : Nat → Nat} (h : GI wd hd n G) (c : Nat) : G c < 100 := by
  have h1 := h.2.2.1 c
  have h2 := h.1
  omega
theorem sgn_r {v : Nat} (h : v ≤ 5 ∨ v = 9) : 32 ≤ sgn v ∧ sgn v ≤ 126 := by
  unfold sgn
  split
  · omega
  · split <;> omega
theorem tx_up {tx : Nat → Nat} {ln s : Nat} (h : ∀ i, tx i < 2 ^ 20) (hs : s < 2 ^ 20) : ∀ i, va_up tx ln s i < 2 ^ 20 := fun i => by
  by_cases e : i = ln
  · rw [e, up_eq]; exact hs
  · rw [up_ne _ e]; exact h i
set_option maxHeartbeats 16000000 in
set_option maxRecDepth 100000 in
theorem c_L_frame (l : Launch) (D : va_G) (cI cJ cB : ClassId) {xo : Nat} {tx : Nat → Nat} {t : BT} {b0 L0 : Nat} {xs : Nat → Int32} {wd hd : Nat} {ws : va_W} (sz : Nat) (hwd : 2 ≤ wd ∧ wd ≤ 4) (hhd : 2 ≤ hd ∧ hd ≤ 3) (hL0 : L0 ≤ 260) (htx : ∀ i, tx i < 2 ^ 20) (hPK : PK cI cJ cB xo 0 tx t [] ws) : Met l yL_frame (Cond.code yL_frame cL_frame 15 (some .int) :: lw_all) (rmC 2 1 24) (va_Pc [.ref xo, .ref b0, .int (nI wd), .int (nI hd)] (pL D (tyz cI cJ cB) ws sz b0 L0 xs)) (va_Qi (fun (r : Int32) (w : va_W) => ∃ (nn ln1 : Nat) (tx1 cl : Nat → Nat), r = nI nn ∧ nn ≤ 5 ∧ ln1 ≤ 40 ∧ (∀ i, tx1 i < 2 ^ 20) ∧ RDR tx1 ln1 wd hd cl nn ∧ PK cI cJ cB xo ln1 tx1 t [] w) (nB D (va_A ws sz)) (va_A ws sz)) 1 24 (va_A ws sz) := by
  refine Met.ofW (cc := cL_frame) (maxL := 15) (ret := (some .int)) (by decide) rfl ?_
  intro p e s m args below meth c s₁ B hml hv
  obtain ⟨rfl, ⟨hX, hbl, hbw⟩, hsz, hO, hK, hN, hP, hD0⟩ := hv
  subst hsz
  have hx := B.exec; have hb := B.bytes; have hr := B.returns; have hlocks := B.notSynchronized
  have hts0 := atoms_spec (ws := Cond.code yL_frame cL_frame 15 (some .int) :: lw_all) B.pre
  have hC : CallFix p m c cL_frame 15 s _ lw_all RL := ⟨hx, hb, hml, findClass_of_methodNamed B.named, fun w h => hts0 w (List.mem_cons_of_mem _ h)⟩
  have hA : ∀ q : Nat, s.heap.size ≤ q → va_A ws s.heap.size q := fun q h => Or.inr h
  have hD : va_D (va_A ws s.heap.size) ws := ⟨hD0.1, fun k q h => Or.inl ⟨k, q.2, h⟩⟩
  have hbA : ¬ va_A ws s.heap.size b0 := by
    rintro (⟨k, e, h⟩ | h)
    · exact hbw k e h
    · exact absurd hbl (Nat.not_lt.mpr h)
  generalize hAe : va_A ws s.heap.size = A at hA hD hbA ⊢
  have hS : va_S A s.heap s.heap [] := va_S.rf
  have hl := lv_entry ([.ref xo, .ref b0, .int (nI wd), .int (nI hd)]) (n := 15) (Nat.le_of_ble_eq_true rfl)
  rw [lg_entry_eq]
  generalize (lg_sl ([.ref xo, .ref b0, .int (nI wd), .int (nI hd)]) ++ List.replicate (15 - (lg_sl ([.ref xo, .ref b0, .int (nI wd), .int (nI hd)])).length) Slot.unset).toArray = ls at hl ⊢
  have hl : lv_has ls 15 [(0, .ref xo), (1, .ref b0), (2, .int (nI wd)), (3, .int (nI hd))] := hl
  generalize hav : ([.ref xo, .ref b0, .int (nI wd), .int (nI hd)] : List Value).toArray = args at hC ⊢
  refine W_gen (fun QQ hQ => ?_)
  show W p l e (rmC 2 1 24) s m args below meth c s.heap [] 0 0 QQ (F0 m 0 ls [])
  have h12 : wd * hd ≤ 12 := Nat.le_trans (Nat.mul_le_mul hwd.2 hhd.2) (by omega)
  refine lv_bipush (v := nI 24) hx hb dL_frame_0 (by decide) ?_
  refine w_newI (N := 24) (c1 := 1) (s1 := 24) hC hK hP hD hS hA q56 (by decide) (by decide) rfl rfl (Nat.le_of_ble_eq_true rfl) (Nat.le_of_ble_eq_true rfl) dL_frame_2 (fun ga H hP hD hS => ?_)
  have hP : va_P D vwCl (gW cI cJ cB ga 24 (fun zz => nI ((fun _ => 0) zz)) ws) H := va_P_perm (List.perm_append_comm) hP
  have hD : va_D A (gW cI cJ cB ga 24 (fun zz => nI ((fun _ => 0) zz)) ws) := va_D_perm (List.perm_append_comm) hD
  refine lv_astore (lv' := [(4, .ref ga), (0, .ref xo), (1, .ref b0), (2, .int (nI wd)), (3, .int (nI hd))]) hx hb dL_frame_4 hl (by decide) rfl (fun ls hl => ?_)
  refine lv_iconst (v := nI 0) hx hb dL_frame_6 (by decide) ?_
  refine lv_istore (lv' := [(5, .int (nI 0)), (4, .ref ga), (0, .ref xo), (1, .ref b0), (2, .int (nI wd)), (3, .int (nI hd))]) hx hb dL_frame_7 hl (by decide) rfl (fun ls hl => ?_)
  refine lv_iconst (v := nI 0) hx hb dL_frame_9 (by decide) ?_
  refine lv_istore (lv' := [(6, .int (nI 0)), (5, .int (nI 0)), (4, .ref ga), (0, .ref xo), (1, .ref b0), (2, .int (nI wd)), (3, .int (nI hd))]) hx hb dL_frame_10 hl (by decide) rfl (fun ls hl => ?_)
  have L12 : ∀ (n : Nat) (nn : Nat) (kq : Nat) (Gf : Nat → Nat), (kq ≤ 6) → (GI wd hd nn Gf) → (nn ≤ kq) → (7 - kq) < n → ∀ (H : Heap) (locs : List Loc), va_P D vwCl (gW cI cJ cB ga 24 (fun zz => nI (Gf zz)) ws) H → va_D A (gW cI cJ cB ga 24 (fun zz => nI (Gf zz)) ws) → va_S A s.heap H locs → ∀ ls : Array Slot, lv_has ls 15 [(5, .int (nI nn)), (6, .int (nI kq)), (4, .ref ga), (0, .ref xo), (1, .ref b0), (2, .int (nI wd)), (3, .int (nI hd))] → W p l e (rmC 2 1 24) s m args below meth c H locs 1 24 QQ (F0 m 12 ls []) := by
    intro n; induction n with
    | zero => intro nn kq Gf hkq hGI hnk hm; exact absurd hm (Nat.not_lt_zero _)
    | succ n ih12 =>
      intro nn kq Gf hkq hGI hnk hm12 H locs hP hD hS ls hl
      refine lv_iload hx hb dL_frame_12 (lv_at hl 1 rfl) ?_
      refine lv_bipush (v := nI 6) hx hb dL_frame_14 (by decide) ?_
      refine n_icmp_ge (a := kq) (b := 6) (tgt := 205) hx hb dL_frame_16 (by decide) (by omega) (by omega) (fun c16 => ?_) (fun c16 => ?_)
      · have _ : True := trivial
        refine lv_iconst (v := nI 0) hx hb dL_frame_205 (by decide) ?_
        refine lv_istore (lv' := [(6, .int (nI 0)), (5, .int (nI nn)), (4, .ref ga), (0, .ref xo), (1, .ref b0), (2, .int (nI wd)), (3, .int (nI hd))]) hx hb dL_frame_206 hl (by decide) rfl (fun ls hl => ?_)
        refine lv_iconst (v := nI 0) hx hb dL_frame_208 (by decide) ?_
        refine lv_istore (lv' := [(7, .int (nI 0)), (6, .int (nI 0)), (5, .int (nI nn)), (4, .ref ga), (0, .ref xo), (1, .ref b0), (2, .int (nI wd)), (3, .int (nI hd))]) hx hb dL_frame_209 hl (by decide) rfl (fun ls hl => ?_)
        have L211 : ∀ (n : Nat) (ci : Nat) (lnv : Int32) (tx1 : Nat → Nat) (ln1 : Nat) (ws1 : va_W), (ci ≤ wd * hd) → (TXI wd Gf ci tx1 ln1) → (∀ i, tx1 i < 2 ^ 20) → (PK cI cJ cB xo ln1 tx1 t [] ws1) → (wd * hd + 1 - ci) < n → ∀ (H : Heap) (locs : List Loc), va_P D vwCl (gW cI cJ cB ga 24 (fun zz => nI (Gf zz)) ws1) H → va_D A (gW cI cJ cB ga 24 (fun zz => nI (Gf zz)) ws1) → va_S A s.heap H locs → ∀ ls : Array Slot, lv_has ls 15 [(6, .int lnv), (7, .int (nI ci)), (5, .int (nI nn)), (4, .ref ga), (0, .ref xo), (1, .ref b0), (2, .int (nI wd)), (3, .int (nI hd))] → W p l e (rmC 2 1 24) s m args below meth c H locs 1 24 QQ (F0 m 211 ls []) := by
          intro n; induction n with
          | zero => intro ci lnv tx1 ln1 ws1 hci hTX htx1 hPK hm; exact absurd hm (Nat.not_lt_zero _)
          | succ n ih211 =>
            intro ci lnv tx1 ln1 ws1 hci hTX htx1 hPK hm211 H locs hP hD hS ls hl
            have hcm : ci % wd ≤ ci := Nat.mod_le _ _
            have hln := TXI_ln hTX hwd hhd hci
            have hgb : Gf ci < 100 := GI_b hGI ci
            have hsr := sgn_r (v := Gf ci) (by have := hGI.2.2.1 ci; have := hGI.1; omega)
            refine lv_iload hx hb dL_frame_211 (lv_at hl 1 rfl) ?_
            refine lv_iload_n hx hb dL_frame_213 rfl (lv_at hl 6 rfl) ?_
            refine lv_iload_n hx hb dL_frame_214 rfl (lv_at hl 7 rfl) ?_
            refine n_imul hx hb dL_frame_215  ?_
            refine n_icmp_ge (a := ci) (b := wd * hd) (tgt := 291) hx hb dL_frame_216 (by decide) (by omega) (by omega) (fun c216 => ?_) (fun c216 => ?_)
            · have _ : True := trivial
              refine lv_iload hx hb dL_frame_291 (lv_at hl 2 rfl) ?_
              have hce : ci = wd * hd := by omega
              rw [hce] at hTX
              obtain ⟨cl, hrd⟩ := TXI_read hGI hTX hwd hhd
              have hP : va_P D vwCl ws1 H := va_P_tl hP
              have hD : va_D A ws1 := va_D_tl hD
              rw [hQ]
              subst hAe
              exact W.iret (v := nI nn) hx hb hr (fun t9 ht hW => ⟨⟨_, ws1, rfl, ⟨nn, ln1, tx1, cl, rfl, hGI.1, by omega, htx1, hrd, hPK⟩, by rw [ht]; exact hP, hD⟩, hS.F ht⟩) hS.2.2 dL_frame_293
            · have _ : True := trivial
              refine lv_iload hx hb dL_frame_219 (lv_at hl 1 rfl) ?_
              refine n_if_le (tgt := 240) hx hb dL_frame_221 (by decide) (by omega) (fun c221 => ?_) (fun c221 => ?_)
              · have _ : True := trivial
                refine lv_iconst (v := nI 0) hx hb dL_frame_240 (by decide) ?_
                refine lv_istore (lv' := [(6, .int (nI 0)), (7, .int (nI ci)), (5, .int (nI nn)), (4, .ref ga), (0, .ref xo), (1, .ref b0), (2, .int (nI wd)), (3, .int (nI hd))]) hx hb dL_frame_241 hl (by decide) rfl (fun ls hl => ?_)
                refine lv_aload_n hx hb dL_frame_243 rfl (lv_at hl 4 rfl) ?_
                refine lv_aload hx hb dL_frame_244 (lv_at hl 3 rfl) ?_
                refine lv_iload hx hb dL_frame_246 (lv_at hl 1 rfl) ?_
                refine n_iald hx hb hK hP 0 0 rfl rfl (by omega) (by first | decide | omega) dL_frame_248 ?_
                refine n_if_ne (tgt := 257) hx hb dL_frame_249 (by decide) (by omega) (fun c249 => ?_) (fun c249 => ?_)
                · have _ : True := trivial
                  refine lv_aload hx hb dL_frame_257 (lv_at hl 3 rfl) ?_
                  refine lv_iload hx hb dL_frame_259 (lv_at hl 1 rfl) ?_
                  refine n_iald hx hb hK hP 0 0 rfl rfl (by omega) (by first | decide | omega) dL_frame_261 ?_
                  refine lv_bipush (v := nI 9) hx hb dL_frame_262 (by decide) ?_
                  refine n_icmp_ne (a := Gf ci) (b := 9) (tgt := 272) hx hb dL_frame_264 (by decide) (by omega) (by omega) (fun c264 => ?_) (fun c264 => ?_)
                  · have _ : True := trivial
                    refine lv_bipush (v := nI 122) hx hb dL_frame_272 (by decide) ?_
                    refine lv_aload hx hb dL_frame_274 (lv_at hl 3 rfl) ?_
                    refine lv_iload hx hb dL_frame_276 (lv_at hl 1 rfl) ?_
                    refine n_iald hx hb hK hP 0 0 rfl rfl (by omega) (by first | decide | omega) dL_frame_278 ?_
                    refine n_isub hx hb dL_frame_279 (by omega) ?_
                    refine topi (y := nI (sgn (Gf ci))) (congrArg nI (sgn_l (by omega) c264).symm) ?_
                    refine callQ_i (As := [.int (nI (sgn (Gf ci)))]) (rest := []) (STi.fr (pre := [(ga, .inl (cI, 24, .inl (fun zz => nI (Gf zz))))]) (y_type_go l D (nI (sgn (Gf ci))) (by omega) (tOf_nI hsr.1 hsr.2) hPK)) hC hK hN hP hD hS rfl rfl q608 md_X7_type rfl hl.1 rfl (Nat.le_of_ble_eq_true rfl) dL_frame_280 ⟨Nat.le_of_ble_eq_true rfl, Nat.le_of_ble_eq_true rfl⟩ ⟨Nat.le_of_ble_eq_true rfl, Nat.le_of_ble_eq_true rfl⟩ (fun r w9 H locs hq hP hD hS => ?_)
                    obtain ⟨w_280, hq, hp⟩ := hq
                    have hP : va_P D vwCl (gW cI cJ cB ga 24 (fun zz => nI (Gf zz)) w_280) H := va_P_perm hp hP
                    have hD : va_D A (gW cI cJ cB ga 24 (fun zz => nI (Gf zz)) w_280) := va_D_perm hp hD
                    obtain ⟨hPK, hr9⟩ := hq
                    have hr9 : r = nI (ln1 + 1) := hr9
                    rw [hr9]
                    refine lv_istore (lv' := [(6, .int (nI (ln1 + 1))), (7, .int (nI ci)), (5, .int (nI nn)), (4, .ref ga), (0, .ref xo), (1, .ref b0), (2, .int (nI wd)), (3, .int (nI hd))]) hx hb dL_frame_283 hl (by decide) rfl (fun ls hl => ?_)
                    refine lv_iinc (v := nI (ci + 1)) (lv' := [(7, .int (nI (ci + 1))), (6, .int (nI (ln1 + 1))), (5, .int (nI nn)), (4, .ref ga), (0, .ref xo), (1, .ref b0), (2, .int (nI wd)), (3, .int (nI hd))]) hx hb dL_frame_285 hl (k := 1) rfl (nI_1 _) (by decide) rfl (fun ls hl => ?_)
                    refine lv_goto (tgt := 211) hx hb dL_frame_288 (by decide) ?_
                    exact ih211 (ci + 1) (nI (ln1 + 1)) (va_up tx1 ln1 (sgn (Gf ci))) (ln1 + 1) w_280 (by omega) (TXI_s hGI hTX hwd hhd (by omega) (Or.inl c221)) (tx_up htx1 (by omega)) hPK (by omega) _ _ hP hD hS _ (lv_sub hl [1, 0, 2, 3, 4, 5, 6, 7] rfl)
                  · have _ : True := trivial
                    refine lv_bipush (v := nI 35) hx hb dL_frame_267 (by decide) ?_
                    refine topi (y := nI (sgn (Gf ci))) (congrArg nI (sgn_9 c264).symm) ?_
                    refine lv_goto (tgt := 280) hx hb dL_frame_269 (by decide) ?_
                    refine callQ_i (As := [.int (nI (sgn (Gf ci)))]) (rest := []) (STi.fr (pre := [(ga, .inl (cI, 24, .inl (fun zz => nI (Gf zz))))]) (y_type_go l D (nI (sgn (Gf ci))) (by omega) (tOf_nI hsr.1 hsr.2) hPK)) hC hK hN hP hD hS rfl rfl q608 md_X7_type rfl hl.1 rfl (Nat.le_of_ble_eq_true rfl) dL_frame_280 ⟨Nat.le_of_ble_eq_true rfl, Nat.le_of_ble_eq_true rfl⟩ ⟨Nat.le_of_ble_eq_true rfl, Nat.le_of_ble_eq_true rfl⟩ (fun r w9 H locs hq hP hD hS => ?_)
                    obtain ⟨w_280, hq, hp⟩ := hq
                    have hP : va_P D vwCl (gW cI cJ cB ga 24 (fun zz => nI (Gf zz)) w_280) H := va_P_perm hp hP
                    have hD : va_D A (gW cI cJ cB ga 24 (fun zz => nI (Gf zz)) w_280) := va_D_perm hp hD
                    obtain ⟨hPK, hr9⟩ := hq
                    have hr9 : r = nI (ln1 + 1) := hr9
                    rw [hr9]
                    refine lv_istore (lv' := [(6, .int (nI (ln1 + 1))), (7, .int (nI ci)), (5, .int (nI nn)), (4, .ref ga), (0, .ref xo), (1, .ref b0), (2, .int (nI wd)), (3, .int (nI hd))]) hx hb dL_frame_283 hl (by decide) rfl (fun ls hl => ?_)
                    refine lv_iinc (v := nI (ci + 1)) (lv' := [(7, .int (nI (ci + 1))), (6, .int (nI (ln1 + 1))), (5, .int (nI nn)), (4, .ref ga), (0, .ref xo), (1, .ref b0), (2, .int (nI wd)), (3, .int (nI hd))]) hx hb dL_frame_285 hl (k := 1) rfl (nI_1 _) (by decide) rfl (fun ls hl => ?_)
                    refine lv_goto (tgt := 211) hx hb dL_frame_288 (by decide) ?_
                    exact ih211 (ci + 1) (nI (ln1 + 1)) (va_up tx1 ln1 (sgn (Gf ci))) (ln1 + 1) w_280 (by omega) (TXI_s hGI hTX hwd hhd (by omega) (Or.inl c221)) (tx_up htx1 (by omega)) hPK (by omega) _ _ hP hD hS _ (lv_sub hl [1, 0, 2, 3, 4, 5, 6, 7] rfl)
                · have _ : True := trivial
                  refine lv_bipush (v := nI 46) hx hb dL_frame_252 (by decide) ?_
                  refine topi (y := nI (sgn (Gf ci))) (congrArg nI (sgn_0 c249).symm) ?_
                  refine lv_goto (tgt := 280) hx hb dL_frame_254 (by decide) ?_
                  refine callQ_i (As := [.int (nI (sgn (Gf ci)))]) (rest := []) (STi.fr (pre := [(ga, .inl (cI, 24, .inl (fun zz => nI (Gf zz))))]) (y_type_go l D (nI (sgn (Gf ci))) (by omega) (tOf_nI hsr.1 hsr.2) hPK)) hC hK hN hP hD hS rfl rfl q608 md_X7_type rfl hl.1 rfl (Nat.le_of_ble_eq_true rfl) dL_frame_280 ⟨Nat.le_of_ble_eq_true rfl, Nat.le_of_ble_eq_true rfl⟩ ⟨Nat.le_of_ble_eq_true rfl, Nat.le_of_ble_eq_true rfl⟩ (fun r w9 H locs hq hP hD hS => ?_)
                  obtain ⟨w_280, hq, hp⟩ := hq
                  have hP : va_P D vwCl (gW cI cJ cB ga 24 (fun zz => nI (Gf zz)) w_280) H := va_P_perm hp hP
                  have hD : va_D A (gW cI cJ cB ga 24 (fun zz => nI (Gf zz)) w_280) := va_D_perm hp hD
                  obtain ⟨hPK, hr9⟩ := hq
                  have hr9 : r = nI (ln1 + 1) := hr9
                  rw [hr9]
                  refine lv_istore (lv' := [(6, .int (nI (ln1 + 1))), (7, .int (nI ci)), (5, .int (nI nn)), (4, .ref ga), (0, .ref xo), (1, .ref b0), (2, .int (nI wd)), (3, .int (nI hd))]) hx hb dL_frame_283 hl (by decide) rfl (fun ls hl => ?_)
                  refine lv_iinc (v := nI (ci + 1)) (lv' := [(7, .int (nI (ci + 1))), (6, .int (nI (ln1 + 1))), (5, .int (nI nn)), (4, .ref ga), (0, .ref xo), (1, .ref b0), (2, .int (nI wd)), (3, .int (nI hd))]) hx hb dL_frame_285 hl (k := 1) rfl (nI_1 _) (by decide) rfl (fun ls hl => ?_)
                  refine lv_goto (tgt := 211) hx hb dL_frame_288 (by decide) ?_
                  exact ih211 (ci + 1) (nI (ln1 + 1)) (va_up tx1 ln1 (sgn (Gf ci))) (ln1 + 1) w_280 (by omega) (TXI_s hGI hTX hwd hhd (by omega) (Or.inl c221)) (tx_up htx1 (by omega)) hPK (by omega) _ _ hP hD hS _ (lv_sub hl [1, 0, 2, 3, 4, 5, 6, 7] rfl)
              · have _ : True := trivial
                refine lv_iload hx hb dL_frame_224 (lv_at hl 1 rfl) ?_
                refine lv_iload_n hx hb dL_frame_226 rfl (lv_at hl 6 rfl) ?_
                refine n_irem hx hb dL_frame_227 (by omega) (by omega) (by omega) ?_
                refine n_if_ne (tgt := 240) hx hb dL_frame_228 (by decide) (by omega) (fun c228 => ?_) (fun c228 => ?_)
                · have _ : True := trivial
                  refine lv_iconst (v := nI 0) hx hb dL_frame_240 (by decide) ?_
                  refine lv_istore (lv' := [(6, .int (nI 0)), (7, .int (nI ci)), (5, .int (nI nn)), (4, .ref ga), (0, .ref xo), (1, .ref b0), (2, .int (nI wd)), (3, .int (nI hd))]) hx hb dL_frame_241 hl (by decide) rfl (fun ls hl => ?_)
                  refine lv_aload_n hx hb dL_frame_243 rfl (lv_at hl 4 rfl) ?_
                  refine lv_aload hx hb dL_frame_244 (lv_at hl 3 rfl) ?_
                  refine lv_iload hx hb dL_frame_246 (lv_at hl 1 rfl) ?_
                  refine n_iald hx hb hK hP 0 0 rfl rfl (by omega) (by first | decide | omega) dL_frame_248 ?_
                  refine n_if_ne (tgt := 257) hx hb dL_frame_249 (by decide) (by omega) (fun c249 => ?_) (fun c249 => ?_)
                  · have _ : True := trivial
                    refine lv_aload hx hb dL_frame_257 (lv_at hl 3 rfl) ?_
                    refine lv_iload hx hb dL_frame_259 (lv_at hl 1 rfl) ?_
                    refine n_iald hx hb hK hP 0 0 rfl rfl (by omega) (by first | decide | omega) dL_frame_261 ?_
                    refine lv_bipush (v := nI 9) hx hb dL_frame_262 (by decide) ?_
                    refine n_icmp_ne (a := Gf ci) (b := 9) (tgt := 272) hx hb dL_frame_264 (by decide) (by omega) (by omega) (fun c264 => ?_) (fun c264 => ?_)
                    · have _ : True := trivial
                      refine lv_bipush (v := nI 122) hx hb dL_frame_272 (by decide) ?_
                      refine lv_aload hx hb dL_frame_274 (lv_at hl 3 rfl) ?_
                      refine lv_iload hx hb dL_frame_276 (lv_at hl 1 rfl) ?_
                      refine n_iald hx hb hK hP 0 0 rfl rfl (by omega) (by first | decide | omega) dL_frame_278 ?_
                      refine n_isub hx hb dL_frame_279 (by omega) ?_
                      refine topi (y := nI (sgn (Gf ci))) (congrArg nI (sgn_l (by omega) c264).symm) ?_
                      refine callQ_i (As := [.int (nI (sgn (Gf ci)))]) (rest := []) (STi.fr (pre := [(ga, .inl (cI, 24, .inl (fun zz => nI (Gf zz))))]) (y_type_go l D (nI (sgn (Gf ci))) (by omega) (tOf_nI hsr.1 hsr.2) hPK)) hC hK hN hP hD hS rfl rfl q608 md_X7_type rfl hl.1 rfl (Nat.le_of_ble_eq_true rfl) dL_frame_280 ⟨Nat.le_of_ble_eq_true rfl, Nat.le_of_ble_eq_true rfl⟩ ⟨Nat.le_of_ble_eq_true rfl, Nat.le_of_ble_eq_true rfl⟩ (fun r w9 H locs hq hP hD hS => ?_)
                      obtain ⟨w_280, hq, hp⟩ := hq
                      have hP : va_P D vwCl (gW cI cJ cB ga 24 (fun zz => nI (Gf zz)) w_280) H := va_P_perm hp hP
                      have hD : va_D A (gW cI cJ cB ga 24 (fun zz => nI (Gf zz)) w_280) := va_D_perm hp hD
                      obtain ⟨hPK, hr9⟩ := hq
                      have hr9 : r = nI (ln1 + 1) := hr9
                      rw [hr9]
                      refine lv_istore (lv' := [(6, .int (nI (ln1 + 1))), (7, .int (nI ci)), (5, .int (nI nn)), (4, .ref ga), (0, .ref xo), (1, .ref b0), (2, .int (nI wd)), (3, .int (nI hd))]) hx hb dL_frame_283 hl (by decide) rfl (fun ls hl => ?_)
                      refine lv_iinc (v := nI (ci + 1)) (lv' := [(7, .int (nI (ci + 1))), (6, .int (nI (ln1 + 1))), (5, .int (nI nn)), (4, .ref ga), (0, .ref xo), (1, .ref b0), (2, .int (nI wd)), (3, .int (nI hd))]) hx hb dL_frame_285 hl (k := 1) rfl (nI_1 _) (by decide) rfl (fun ls hl => ?_)
                      refine lv_goto (tgt := 211) hx hb dL_frame_288 (by decide) ?_
                      exact ih211 (ci + 1) (nI (ln1 + 1)) (va_up tx1 ln1 (sgn (Gf ci))) (ln1 + 1) w_280 (by omega) (TXI_s hGI hTX hwd hhd (by omega) (Or.inr (by omega))) (tx_up htx1 (by omega)) hPK (by omega) _ _ hP hD hS _ (lv_sub hl [1, 0, 2, 3, 4, 5, 6, 7] rfl)
                    · have _ : True := trivial
                      refine lv_bipush (v := nI 35) hx hb dL_frame_267 (by decide) ?_
                      refine topi (y := nI (sgn (Gf ci))) (congrArg nI (sgn_9 c264).symm) ?_
                      refine lv_goto (tgt := 280) hx hb dL_frame_269 (by decide) ?_
                      refine callQ_i (As := [.int (nI (sgn (Gf ci)))]) (rest := []) (STi.fr (pre := [(ga, .inl (cI, 24, .inl (fun zz => nI (Gf zz))))]) (y_type_go l D (nI (sgn (Gf ci))) (by omega) (tOf_nI hsr.1 hsr.2) hPK)) hC hK hN hP hD hS rfl rfl q608 md_X7_type rfl hl.1 rfl (Nat.le_of_ble_eq_true rfl) dL_frame_280 ⟨Nat.le_of_ble_eq_true rfl, Nat.le_of_ble_eq_true rfl⟩ ⟨Nat.le_of_ble_eq_true rfl, Nat.le_of_ble_eq_true rfl⟩ (fun r w9 H locs hq hP hD hS => ?_)
                      obtain ⟨w_280, hq, hp⟩ := hq
                      have hP : va_P D vwCl (gW cI cJ cB ga 24 (fun zz => nI (Gf zz)) w_280) H := va_P_perm hp hP
                      have hD : va_D A (gW cI cJ cB ga 24 (fun zz => nI (Gf zz)) w_280) := va_D_perm hp hD
                      obtain ⟨hPK, hr9⟩ := hq
                      have hr9 : r = nI (ln1 + 1) := hr9
                      rw [hr9]
                      refine lv_istore (lv' := [(6, .int (nI (ln1 + 1))), (7, .int (nI ci)), (5, .int (nI nn)), (4, .ref ga), (0, .ref xo), (1, .ref b0), (2, .int (nI wd)), (3, .int (nI hd))]) hx hb dL_frame_283 hl (by decide) rfl (fun ls hl => ?_)
                      refine lv_iinc (v := nI (ci + 1)) (lv' := [(7, .int (nI (ci + 1))), (6, .int (nI (ln1 + 1))), (5, .int (nI nn)), (4, .ref ga), (0, .ref xo), (1, .ref b0), (2, .int (nI wd)), (3, .int (nI hd))]) hx hb dL_frame_285 hl (k := 1) rfl (nI_1 _) (by decide) rfl (fun ls hl => ?_)
                      refine lv_goto (tgt := 211) hx hb dL_frame_288 (by decide) ?_
                      exact ih211 (ci + 1) (nI (ln1 + 1)) (va_up tx1 ln1 (sgn (Gf ci))) (ln1 + 1) w_280 (by omega) (TXI_s hGI hTX hwd hhd (by omega) (Or.inr (by omega))) (tx_up htx1 (by omega)) hPK (by omega) _ _ hP hD hS _ (lv_sub hl [1, 0, 2, 3, 4, 5, 6, 7] rfl)
                  · have _ : True := trivial
                    refine lv_bipush (v := nI 46) hx hb dL_frame_252 (by decide) ?_
                    refine topi (y := nI (sgn (Gf ci))) (congrArg nI (sgn_0 c249).symm) ?_
                    refine lv_goto (tgt := 280) hx hb dL_frame_254 (by decide) ?_
                    refine callQ_i (As := [.int (nI (sgn (Gf ci)))]) (rest := []) (STi.fr (pre := [(ga, .inl (cI, 24, .inl (fun zz => nI (Gf zz))))]) (y_type_go l D (nI (sgn (Gf ci))) (by omega) (tOf_nI hsr.1 hsr.2) hPK)) hC hK hN hP hD hS rfl rfl q608 md_X7_type rfl hl.1 rfl (Nat.le_of_ble_eq_true rfl) dL_frame_280 ⟨Nat.le_of_ble_eq_true rfl, Nat.le_of_ble_eq_true rfl⟩ ⟨Nat.le_of_ble_eq_true rfl, Nat.le_of_ble_eq_true rfl⟩ (fun r w9 H locs hq hP hD hS => ?_)
                    obtain ⟨w_280, hq, hp⟩ := hq
                    have hP : va_P D vwCl (gW cI cJ cB ga 24 (fun zz => nI (Gf zz)) w_280) H := va_P_perm hp hP
                    have hD : va_D A (gW cI cJ cB ga 24 (fun zz => nI (Gf zz)) w_280) := va_D_perm hp hD
                    obtain ⟨hPK, hr9⟩ := hq
                    have hr9 : r = nI (ln1 + 1) := hr9
                    rw [hr9]
                    refine lv_istore (lv' := [(6, .int (nI (ln1 + 1))), (7, .int (nI ci)), (5, .int (nI nn)), (4, .ref ga), (0, .ref xo), (1, .ref b0), (2, .int (nI wd)), (3, .int (nI hd))]) hx hb dL_frame_283 hl (by decide) rfl (fun ls hl => ?_)
                    refine lv_iinc (v := nI (ci + 1)) (lv' := [(7, .int (nI (ci + 1))), (6, .int (nI (ln1 + 1))), (5, .int (nI nn)), (4, .ref ga), (0, .ref xo), (1, .ref b0), (2, .int (nI wd)), (3, .int (nI hd))]) hx hb dL_frame_285 hl (k := 1) rfl (nI_1 _) (by decide) rfl (fun ls hl => ?_)
                    refine lv_goto (tgt := 211) hx hb dL_frame_288 (by decide) ?_
                    exact ih211 (ci + 1) (nI (ln1 + 1)) (va_up tx1 ln1 (sgn (Gf ci))) (ln1 + 1) w_280 (by omega) (TXI_s hGI hTX hwd hhd (by omega) (Or.inr (by omega))) (tx_up htx1 (by omega)) hPK (by omega) _ _ hP hD hS _ (lv_sub hl [1, 0, 2, 3, 4, 5, 6, 7] rfl)
                · have _ : True := trivial
                  refine lv_aload_n hx hb dL_frame_231 rfl (lv_at hl 4 rfl) ?_
                  refine lv_bipush (v := nI 47) hx hb dL_frame_232 (by decide) ?_
                  refine callQ_i (As := [.int (nI 47)]) (rest := []) (STi.fr (pre := [(ga, .inl (cI, 24, .inl (fun zz => nI (Gf zz))))]) (y_type_go l D (nI 47) (by omega) (tOf_nI (q := 47) (by omega) (by omega)) hPK)) hC hK hN hP hD hS rfl rfl q608 md_X7_type rfl hl.1 rfl (Nat.le_of_ble_eq_true rfl) dL_frame_234 ⟨Nat.le_of_ble_eq_true rfl, Nat.le_of_ble_eq_true rfl⟩ ⟨Nat.le_of_ble_eq_true rfl, Nat.le_of_ble_eq_true rfl⟩ (fun r w9 H locs hq hP hD hS => ?_)
                  obtain ⟨w_234, hq, hp⟩ := hq
                  have hP : va_P D vwCl (gW cI cJ cB ga 24 (fun zz => nI (Gf zz)) w_234) H := va_P_perm hp hP
                  have hD : va_D A (gW cI cJ cB ga 24 (fun zz => nI (Gf zz)) w_234) := va_D_perm hp hD
                  obtain ⟨hPK, hr9⟩ := hq
                  have hr9 : r = nI (ln1 + 1) := hr9
                  rw [hr9]
                  refine lv_goto (tgt := 241) hx hb dL_frame_237 (by decide) ?_
                  refine lv_istore (lv' := [(6, .int (nI (ln1 + 1))), (7, .int (nI ci)), (5, .int (nI nn)), (4, .ref ga), (0, .ref xo), (1, .ref b0), (2, .int (nI wd)), (3, .int (nI hd))]) hx hb dL_frame_241 hl (by decide) rfl (fun ls hl => ?_)
                  refine lv_aload_n hx hb dL_frame_243 rfl (lv_at hl 4 rfl) ?_
                  refine lv_aload hx hb dL_frame_244 (lv_at hl 3 rfl) ?_
                  refine lv_iload hx hb dL_frame_246 (lv_at hl 1 rfl) ?_
                  refine n_iald hx hb hK hP 0 0 rfl rfl (by omega) (by first | decide | omega) dL_frame_248 ?_
                  refine n_if_ne (tgt := 257) hx hb dL_frame_249 (by decide) (by omega) (fun c249 => ?_) (fun c249 => ?_)
                  · have _ : True := trivial
                    refine lv_aload hx hb dL_frame_257 (lv_at hl 3 rfl) ?_
                    refine lv_iload hx hb dL_frame_259 (lv_at hl 1 rfl) ?_
                    refine n_iald hx hb hK hP 0 0 rfl rfl (by omega) (by first | decide | omega) dL_frame_261 ?_
                    refine lv_bipush (v := nI 9) hx hb dL_frame_262 (by decide) ?_
                    refine n_icmp_ne (a := Gf ci) (b := 9) (tgt := 272) hx hb dL_frame_264 (by decide) (by omega) (by omega) (fun c264 => ?_) (fun c264 => ?_)
                    · have _ : True := trivial
                      refine lv_bipush (v := nI 122) hx hb dL_frame_272 (by decide) ?_
                      refine lv_aload hx hb dL_frame_274 (lv_at hl 3 rfl) ?_
                      refine lv_iload hx hb dL_frame_276 (lv_at hl 1 rfl) ?_
                      refine n_iald hx hb hK hP 0 0 rfl rfl (by omega) (by first | decide | omega) dL_frame_278 ?_
                      refine n_isub hx hb dL_frame_279 (by omega) ?_
                      refine topi (y := nI (sgn (Gf ci))) (congrArg nI (sgn_l (by omega) c264).symm) ?_
                      refine callQ_i (As := [.int (nI (sgn (Gf ci)))]) (rest := []) (STi.fr (pre := [(ga, .inl (cI, 24, .inl (fun zz => nI (Gf zz))))]) (y_type_go l D (nI (sgn (Gf ci))) (by omega) (tOf_nI hsr.1 hsr.2) hPK)) hC hK hN hP hD hS rfl rfl q608 md_X7_type rfl hl.1 rfl (Nat.le_of_ble_eq_true rfl) dL_frame_280 ⟨Nat.le_of_ble_eq_true rfl, Nat.le_of_ble_eq_true rfl⟩ ⟨Nat.le_of_ble_eq_true rfl, Nat.le_of_ble_eq_true rfl⟩ (fun r w9 H locs hq hP hD hS => ?_)
                      obtain ⟨w_280, hq, hp⟩ := hq
                      have hP : va_P D vwCl (gW cI cJ cB ga 24 (fun zz => nI (Gf zz)) w_280) H := va_P_perm hp hP
                      have hD : va_D A (gW cI cJ cB ga 24 (fun zz => nI (Gf zz)) w_280) := va_D_perm hp hD
                      obtain ⟨hPK, hr9⟩ := hq
                      have hr9 : r = nI (ln1 + 1 + 1) := hr9
                      rw [hr9]
                      refine lv_istore (lv' := [(6, .int (nI (ln1 + 1 + 1))), (7, .int (nI ci)), (5, .int (nI nn)), (4, .ref ga), (0, .ref xo), (1, .ref b0), (2, .int (nI wd)), (3, .int (nI hd))]) hx hb dL_frame_283 hl (by decide) rfl (fun ls hl => ?_)
                      refine lv_iinc (v := nI (ci + 1)) (lv' := [(7, .int (nI (ci + 1))), (6, .int (nI (ln1 + 1 + 1))), (5, .int (nI nn)), (4, .ref ga), (0, .ref xo), (1, .ref b0), (2, .int (nI wd)), (3, .int (nI hd))]) hx hb dL_frame_285 hl (k := 1) rfl (nI_1 _) (by decide) rfl (fun ls hl => ?_)
                      refine lv_goto (tgt := 211) hx hb dL_frame_288 (by decide) ?_
                      exact ih211 (ci + 1) (nI (ln1 + 1 + 1)) (va_up (va_up tx1 ln1 47) (ln1 + 1) (sgn (Gf ci))) (ln1 + 1 + 1) w_280 (by omega) (TXI_n hGI hTX hwd hhd (by omega) (by omega) c228) (tx_up (tx_up htx1 (by omega)) (by omega)) hPK (by omega) _ _ hP hD hS _ (lv_sub hl [1, 0, 2, 3, 4, 5, 6, 7] rfl)
                    · have _ : True := trivial
                      refine lv_bipush (v := nI 35) hx hb dL_frame_267 (by decide) ?_
                      refine topi (y := nI (sgn (Gf ci))) (congrArg nI (sgn_9 c264).symm) ?_
                      refine lv_goto (tgt := 280) hx hb dL_frame_269 (by decide) ?_
                      refine callQ_i (As := [.int (nI (sgn (Gf ci)))]) (rest := []) (STi.fr (pre := [(ga, .inl (cI, 24, .inl (fun zz => nI (Gf zz))))]) (y_type_go l D (nI (sgn (Gf ci))) (by omega) (tOf_nI hsr.1 hsr.2) hPK)) hC hK hN hP hD hS rfl rfl q608 md_X7_type rfl hl.1 rfl (Nat.le_of_ble_eq_true rfl) dL_frame_280 ⟨Nat.le_of_ble_eq_true rfl, Nat.le_of_ble_eq_true rfl⟩ ⟨Nat.le_of_ble_eq_true rfl, Nat.le_of_ble_eq_true rfl⟩ (fun r w9 H locs hq hP hD hS => ?_)
                      obtain ⟨w_280, hq, hp⟩ := hq
                      have hP : va_P D vwCl (gW cI cJ cB ga 24 (fun zz => nI (Gf zz)) w_280) H := va_P_perm hp hP
                      have hD : va_D A (gW cI cJ cB ga 24 (fun zz => nI (Gf zz)) w_280) := va_D_perm hp hD
                      obtain ⟨hPK, hr9⟩ := hq
                      have hr9 : r = nI (ln1 + 1 + 1) := hr9
                      rw [hr9]
                      refine lv_istore (lv' := [(6, .int (nI (ln1 + 1 + 1))), (7, .int (nI ci)), (5, .int (nI nn)), (4, .ref ga), (0, .ref xo), (1, .ref b0), (2, .int (nI wd)), (3, .int (nI hd))]) hx hb dL_frame_283 hl (by decide) rfl (fun ls hl => ?_)
                      refine lv_iinc (v := nI (ci + 1)) (lv' := [(7, .int (nI (ci + 1))), (6, .int (nI (ln1 + 1 + 1))), (5, .int (nI nn)), (4, .ref ga), (0, .ref xo), (1, .ref b0), (2, .int (nI wd)), (3, .int (nI hd))]) hx hb dL_frame_285 hl (k := 1) rfl (nI_1 _) (by decide) rfl (fun ls hl => ?_)
                      refine lv_goto (tgt := 211) hx hb dL_frame_288 (by decide) ?_
                      exact ih211 (ci + 1) (nI (ln1 + 1 + 1)) (va_up (va_up tx1 ln1 47) (ln1 + 1) (sgn (Gf ci))) (ln1 + 1 + 1) w_280 (by omega) (TXI_n hGI hTX hwd hhd (by omega) (by omega) c228) (tx_up (tx_up htx1 (by omega)) (by omega)) hPK (by omega) _ _ hP hD hS _ (lv_sub hl [1, 0, 2, 3, 4, 5, 6, 7] rfl)
                  · have _ : True := trivial
                    refine lv_bipush (v := nI 46) hx hb dL_frame_252 (by decide) ?_
                    refine topi (y := nI (sgn (Gf ci))) (congrArg nI (sgn_0 c249).symm) ?_
                    refine lv_goto (tgt := 280) hx hb dL_frame_254 (by decide) ?_
                    refine callQ_i (As := [.int (nI (sgn (Gf ci)))]) (rest := []) (STi.fr (pre := [(ga, .inl (cI, 24, .inl (fun zz => nI (Gf zz))))]) (y_type_go l D (nI (sgn (Gf ci))) (by omega) (tOf_nI hsr.1 hsr.2) hPK)) hC hK hN hP hD hS rfl rfl q608 md_X7_type rfl hl.1 rfl (Nat.le_of_ble_eq_true rfl) dL_frame_280 ⟨Nat.le_of_ble_eq_true rfl, Nat.le_of_ble_eq_true rfl⟩ ⟨Nat.le_of_ble_eq_true rfl, Nat.le_of_ble_eq_true rfl⟩ (fun r w9 H locs hq hP hD hS => ?_)
                    obtain ⟨w_280, hq, hp⟩ := hq
                    have hP : va_P D vwCl (gW cI cJ cB ga 24 (fun zz => nI (Gf zz)) w_280) H := va_P_perm hp hP
                    have hD : va_D A (gW cI cJ cB ga 24 (fun zz => nI (Gf zz)) w_280) := va_D_perm hp hD
                    obtain ⟨hPK, hr9⟩ := hq
                    have hr9 : r = nI (ln1 + 1 + 1) := hr9
                    rw [hr9]
                    refine lv_istore (lv' := [(6, .int (nI (ln1 + 1 + 1))), (7, .int (nI ci)), (5, .int (nI nn)), (4, .ref ga), (0, .ref xo), (1, .ref b0), (2, .int (nI wd)), (3, .int (nI hd))]) hx hb dL_frame_283 hl (by decide) rfl (fun ls hl => ?_)
                    refine lv_iinc (v := nI (ci + 1)) (lv' := [(7, .int (nI (ci + 1))), (6, .int (nI (ln1 + 1 + 1))), (5, .int (nI nn)), (4, .ref ga), (0, .ref xo), (1, .ref b0), (2, .int (nI wd)), (3, .int (nI hd))]) hx hb dL_frame_285 hl (k := 1) rfl (nI_1 _) (by decide) rfl (fun ls hl => ?_)
                    refine lv_goto (tgt := 211) hx hb dL_frame_288 (by decide) ?_
                    exact ih211 (ci + 1) (nI (ln1 + 1 + 1)) (va_up (va_up tx1 ln1 47) (ln1 + 1) (sgn (Gf ci))) (ln1 + 1 + 1) w_280 (by omega) (TXI_n hGI hTX hwd hhd (by omega) (by omega) c228) (tx_up (tx_up htx1 (by omega)) (by omega)) hPK (by omega) _ _ hP hD hS _ (lv_sub hl [1, 0, 2, 3, 4, 5, 6, 7] rfl)
        exact L211 _ 0 (nI 0) tx 0 ws (by omega) TXI_0 htx hPK (Nat.lt_succ_self _) _ _ hP hD hS _ (lv_sub hl [1, 0, 2, 3, 4, 5, 6, 7] rfl)
      · have _ : True := trivial
        refine lv_aload_n hx hb dL_frame_19 rfl (lv_at hl 4 rfl) ?_
        refine lv_iconst (v := nI 1) hx hb dL_frame_20 (by decide) ?_
        refine lv_iload hx hb dL_frame_21 (lv_at hl 1 rfl) ?_
        refine n_iadd hx hb dL_frame_23  ?_
        refine w_stE_i (pr := fun _ => True) (As := [.ref b0, .int (nI (1 + kq))]) (rest := []) hX hbl hbA hC hO hK hN hP hD hS hA (c_L_cell l D cI cJ cB (ws := []) H.size (k := 1 + kq) (b0 := b0) (L0 := L0) (xs := xs) (by omega) (by omega)) q536 md_L_cell rfl hl.1 rfl (Nat.le_of_ble_eq_true rfl) dL_frame_24 ⟨Nat.le_of_ble_eq_true rfl, Nat.le_of_ble_eq_true rfl⟩ (Nat.le_of_ble_eq_true rfl) (Nat.le_of_ble_eq_true rfl) (fun r_24 H locs hr9 hP hD hS => ?_)
        refine lv_istore (lv' := [(7, .int r_24), (5, .int (nI nn)), (6, .int (nI kq)), (4, .ref ga), (0, .ref xo), (1, .ref b0), (2, .int (nI wd)), (3, .int (nI hd))]) hx hb dL_frame_27 hl (by decide) rfl (fun ls hl => ?_)
        refine lv_iconst (v := nI 1) hx hb dL_frame_29 (by decide) ?_
        refine lv_iload hx hb dL_frame_30 (lv_at hl 0 rfl) ?_
        refine lv_iconst (v := nI 1) hx hb dL_frame_32 (by decide) ?_
        obtain ⟨w1, hw1l, hw1⟩ := and1 r_24
        refine lv_iand hx hb dL_frame_33 ?_
        refine topi (y := nI w1) hw1 ?_
        refine n_iadd hx hb dL_frame_34  ?_
        refine lv_istore (lv' := [(8, .int (nI (1 + w1))), (7, .int r_24), (5, .int (nI nn)), (6, .int (nI kq)), (4, .ref ga), (0, .ref xo), (1, .ref b0), (2, .int (nI wd)), (3, .int (nI hd))]) hx hb dL_frame_35 hl (by decide) rfl (fun ls hl => ?_)
        refine lv_iconst (v := nI 1) hx hb dL_frame_37 (by decide) ?_
        refine lv_iload hx hb dL_frame_38 (lv_at hl 1 rfl) ?_
        refine lv_iconst (v := nI 1) hx hb dL_frame_40 (by decide) ?_
        refine lv_ishr hx hb dL_frame_41 ?_
        refine lv_iconst (v := nI 1) hx hb dL_frame_42 (by decide) ?_
        obtain ⟨h1, hh1l, hh1⟩ := and1 (r_24 >>> (nI 1 &&& 31))
        refine lv_iand hx hb dL_frame_43 ?_
        refine topi (y := nI h1) hh1 ?_
        refine n_iadd hx hb dL_frame_44  ?_
        refine lv_istore (lv' := [(9, .int (nI (1 + h1))), (8, .int (nI (1 + w1))), (7, .int r_24), (5, .int (nI nn)), (6, .int (nI kq)), (4, .ref ga), (0, .ref xo), (1, .ref b0), (2, .int (nI wd)), (3, .int (nI hd))]) hx hb dL_frame_45 hl (by decide) rfl (fun ls hl => ?_)
        refine lv_iload hx hb dL_frame_47 (lv_at hl 2 rfl) ?_
        refine lv_iconst (v := nI 2) hx hb dL_frame_49 (by decide) ?_
        refine lv_ishr hx hb dL_frame_50 ?_
        refine lv_iload_n hx hb dL_frame_51 rfl (lv_at hl 8 rfl) ?_
        refine w_stE_i (pr := fun r => ∃ j, j < wd ∧ r = nI j) (As := [.int (r_24 >>> ((nI 2) &&& 31)), .int (nI wd)]) (rest := []) hX hbl hbA hC hO hK hN hP hD hS hA (c_L_up l D cI cJ cB (ws := []) H.size (x := r_24 >>> ((nI 2) &&& 31)) (mo := wd) (b0 := b0) (L0 := L0) (xs := xs) (by omega) (by omega)) q540 md_L_up rfl hl.1 rfl (Nat.le_of_ble_eq_true rfl) dL_frame_52 ⟨Nat.le_of_ble_eq_true rfl, Nat.le_of_ble_eq_true rfl⟩ (Nat.le_of_ble_eq_true rfl) (Nat.le_of_ble_eq_true rfl) (fun r_52 H locs hr9 hP hD hS => ?_)
        obtain ⟨x1, x1l, rfl⟩ := hr9
        refine lv_istore (lv' := [(10, .int (nI x1)), (9, .int (nI (1 + h1))), (8, .int (nI (1 + w1))), (7, .int r_24), (5, .int (nI nn)), (6, .int (nI kq)), (4, .ref ga), (0, .ref xo), (1, .ref b0), (2, .int (nI wd)), (3, .int (nI hd))]) hx hb dL_frame_55 hl (by decide) rfl (fun ls hl => ?_)
        refine lv_iload hx hb dL_frame_57 (lv_at hl 3 rfl) ?_
        refine lv_bipush (v := nI 6) hx hb dL_frame_59 (by decide) ?_
        refine lv_ishr hx hb dL_frame_61 ?_
        refine lv_iload_n hx hb dL_frame_62 rfl (lv_at hl 10 rfl) ?_
        refine w_stE_i (pr := fun r => ∃ j, j < hd ∧ r = nI j) (As := [.int (r_24 >>> ((nI 6) &&& 31)), .int (nI hd)]) (rest := []) hX hbl hbA hC hO hK hN hP hD hS hA (c_L_up l D cI cJ cB (ws := []) H.size (x := r_24 >>> ((nI 6) &&& 31)) (mo := hd) (b0 := b0) (L0 := L0) (xs := xs) (by omega) (by omega)) q540 md_L_up rfl hl.1 rfl (Nat.le_of_ble_eq_true rfl) dL_frame_63 ⟨Nat.le_of_ble_eq_true rfl, Nat.le_of_ble_eq_true rfl⟩ (Nat.le_of_ble_eq_true rfl) (Nat.le_of_ble_eq_true rfl) (fun r_63 H locs hr9 hP hD hS => ?_)
        obtain ⟨y1, y1l, rfl⟩ := hr9
        refine lv_istore (lv' := [(11, .int (nI y1)), (10, .int (nI x1)), (9, .int (nI (1 + h1))), (8, .int (nI (1 + w1))), (7, .int r_24), (5, .int (nI nn)), (6, .int (nI kq)), (4, .ref ga), (0, .ref xo), (1, .ref b0), (2, .int (nI wd)), (3, .int (nI hd))]) hx hb dL_frame_66 hl (by decide) rfl (fun ls hl => ?_)
        refine lv_aload hx hb dL_frame_68 (lv_at hl 7 rfl) ?_
        refine lv_iload_n hx hb dL_frame_70 rfl (lv_at hl 10 rfl) ?_
        refine lv_iload_n hx hb dL_frame_71 rfl (lv_at hl 11 rfl) ?_
        refine lv_iload hx hb dL_frame_72 (lv_at hl 1 rfl) ?_
        refine lv_iload hx hb dL_frame_74 (lv_at hl 0 rfl) ?_
        refine lv_iload hx hb dL_frame_76 (lv_at hl 3 rfl) ?_
        refine lv_iload hx hb dL_frame_78 (lv_at hl 2 rfl) ?_
        refine callS_i (As := [.ref ga, .int (nI wd), .int (nI hd), .int (nI x1), .int (nI y1), .int (nI (1 + w1)), .int (nI (1 + h1))]) (rest := []) [0] hC hK hN hP hD rfl (by decide) hS (c_L_fits l D cI cJ cB ga wd hd x1 y1 (1 + w1) (1 + h1) Gf (by omega) (by omega) (by omega) (by omega) (by omega) (by omega) (fun c => GI_b hGI c)) q687 md_L_fits rfl hl.1 rfl (Nat.le_of_ble_eq_true rfl) dL_frame_80 ⟨Nat.le_of_ble_eq_true rfl, Nat.le_of_ble_eq_true rfl⟩ ⟨Nat.le_of_ble_eq_true rfl, Nat.le_of_ble_eq_true rfl⟩ (fun r_80 w H locs hpost hP hD hS => ?_)
        obtain ⟨z_80, rfl, rfl, h80_fz⟩ := hpost
        have hP : va_P D vwCl (gW cI cJ cB ga 24 (fun zz => nI (Gf zz)) ws) H := hP
        have hD : va_D A (gW cI cJ cB ga 24 (fun zz => nI (Gf zz)) ws) := hD
        refine b_if_eq (tgt := 199) hx hb dL_frame_83 (by decide) (fun c83 => ?_) (fun c83 => ?_)
        · have _ : True := trivial
          refine lv_iinc (v := nI (kq + 1)) (lv' := [(6, .int (nI (kq + 1))), (11, .int (nI y1)), (10, .int (nI x1)), (9, .int (nI (1 + h1))), (8, .int (nI (1 + w1))), (7, .int r_24), (5, .int (nI nn)), (4, .ref ga), (0, .ref xo), (1, .ref b0), (2, .int (nI wd)), (3, .int (nI hd))]) hx hb dL_frame_199 hl (k := 6) rfl (nI_1 _) (by decide) rfl (fun ls hl => ?_)
          refine lv_goto (tgt := 12) hx hb dL_frame_202 (by decide) ?_
          exact ih12 nn (kq + 1) Gf (by omega) hGI (by omega) (by omega) _ _ hP hD hS _ (lv_sub hl [6, 0, 7, 8, 9, 10, 11] rfl)
        · have _ : True := trivial
          obtain ⟨hpce, hfree⟩ := h80_fz c83
          refine lv_iload hx hb dL_frame_86 (lv_at hl 6 rfl) ?_
          refine lv_iconst (v := nI 5) hx hb dL_frame_88 (by decide) ?_
          refine n_icmp_ne (a := kq) (b := 5) (tgt := 96) hx hb dL_frame_89 (by decide) (by omega) (by omega) (fun c89 => ?_) (fun c89 => ?_)
          · have _ : True := trivial
            refine lv_iconst (v := nI 0) hx hb dL_frame_96 (by decide) ?_
            refine lv_istore (lv' := [(12, .int (nI 0)), (11, .int (nI y1)), (10, .int (nI x1)), (9, .int (nI (1 + h1))), (8, .int (nI (1 + w1))), (7, .int r_24), (5, .int (nI nn)), (6, .int (nI kq)), (4, .ref ga), (0, .ref xo), (1, .ref b0), (2, .int (nI wd)), (3, .int (nI hd))]) hx hb dL_frame_97 hl (by decide) rfl (fun ls hl => ?_)
            refine lv_iload hx hb dL_frame_99 (lv_at hl 6 rfl) ?_
            refine lv_iload hx hb dL_frame_101 (lv_at hl 0 rfl) ?_
            refine n_if_eq (a := 0) (tgt := 110) hx hb dL_frame_103 (by decide) (by decide) (fun _ => ?_) (fun h => absurd h (by decide))
            refine lv_iconst (v := nI 1) hx hb dL_frame_110 (by decide) ?_
            refine n_iadd hx hb dL_frame_111  ?_
            refine lv_istore (lv' := [(5, .int (nI (nn + 1))), (12, .int (nI 0)), (11, .int (nI y1)), (10, .int (nI x1)), (9, .int (nI (1 + h1))), (8, .int (nI (1 + w1))), (7, .int r_24), (6, .int (nI kq)), (4, .ref ga), (0, .ref xo), (1, .ref b0), (2, .int (nI wd)), (3, .int (nI hd))]) hx hb dL_frame_112 hl (by decide) rfl (fun ls hl => ?_)
            have hwh4 : (1 + w1) * (1 + h1) ≤ 4 := Nat.le_trans (Nat.mul_le_mul (show 1 + w1 ≤ 2 by omega) (show 1 + h1 ≤ 2 by omega)) (by omega)
            obtain ⟨vv, hvv⟩ : ∃ v, v = nn + 1 := ⟨_, rfl⟩
            obtain ⟨b1, hb1l, hb1⟩ := and1 (r_24 >>> (nI 10 &&& 31))
            refine lv_iconst (v := nI 0) hx hb dL_frame_114 (by decide) ?_
            refine lv_istore (lv' := [(13, .int (nI 0)), (5, .int (nI (nn + 1))), (12, .int (nI 0)), (11, .int (nI y1)), (10, .int (nI x1)), (9, .int (nI (1 + h1))), (8, .int (nI (1 + w1))), (7, .int r_24), (6, .int (nI kq)), (4, .ref ga), (0, .ref xo), (1, .ref b0), (2, .int (nI wd)), (3, .int (nI hd))]) hx hb dL_frame_115 hl (by decide) rfl (fun ls hl => ?_)
            have L117 : ∀ (n : Nat) (ii : Nat), (ii ≤ (1 + w1) * (1 + h1)) → ((1 + w1) * (1 + h1) + 1 - ii) < n → ∀ (H : Heap) (locs : List Loc), va_P D vwCl (gW cI cJ cB ga 24 (fun zz => nI ((gri Gf wd x1 y1 (1 + w1) (decide (b1 = 0)) vv ii) zz)) ws) H → va_D A (gW cI cJ cB ga 24 (fun zz => nI ((gri Gf wd x1 y1 (1 + w1) (decide (b1 = 0)) vv ii) zz)) ws) → va_S A s.heap H locs → ∀ ls : Array Slot, lv_has ls 15 [(13, .int (nI ii)), (5, .int (nI (nn + 1))), (12, .int (nI 0)), (11, .int (nI y1)), (10, .int (nI x1)), (9, .int (nI (1 + h1))), (8, .int (nI (1 + w1))), (7, .int r_24), (6, .int (nI kq)), (4, .ref ga), (0, .ref xo), (1, .ref b0), (2, .int (nI wd)), (3, .int (nI hd))] → W p l e (rmC 2 1 24) s m args below meth c H locs 1 24 QQ (F0 m 117 ls []) := by
              intro n; induction n with
              | zero => intro ii hii hm; exact absurd hm (Nat.not_lt_zero _)
              | succ n ih117 =>
                intro ii hii hm117 H locs hP hD hS ls hl
                refine lv_iload hx hb dL_frame_117 (lv_at hl 0 rfl) ?_
                refine lv_iload hx hb dL_frame_119 (lv_at hl 6 rfl) ?_
                refine lv_iload hx hb dL_frame_121 (lv_at hl 5 rfl) ?_
                refine n_imul hx hb dL_frame_123  ?_
                refine n_icmp_ge (a := ii) (b := (1 + w1) * (1 + h1)) (tgt := 199) hx hb dL_frame_124 (by decide) (by omega) (by omega) (fun c124 => ?_) (fun c124 => ?_)
                · have _ : True := trivial
                  have hie : ii = (1 + w1) * (1 + h1) := by omega
                  refine lv_iinc (v := nI (kq + 1)) (lv' := [(6, .int (nI (kq + 1))), (13, .int (nI ii)), (5, .int (nI (nn + 1))), (12, .int (nI 0)), (11, .int (nI y1)), (10, .int (nI x1)), (9, .int (nI (1 + h1))), (8, .int (nI (1 + w1))), (7, .int r_24), (4, .ref ga), (0, .ref xo), (1, .ref b0), (2, .int (nI wd)), (3, .int (nI hd))]) hx hb dL_frame_199 hl (k := 8) rfl (nI_1 _) (by decide) rfl (fun ls hl => ?_)
                  refine lv_goto (tgt := 12) hx hb dL_frame_202 (by decide) ?_
                  exact ih12 (nn + 1) (kq + 1) (gri Gf wd x1 y1 (1 + w1) (decide (b1 = 0)) vv ii) (by omega) (by rw [hie]; exact GI_add hGI hpce hfree (Or.inl ⟨hvv, rfl, by omega⟩)) (by omega) (by omega) _ _ hP hD hS _ (lv_sub hl [2, 0, 9, 10, 11, 12, 13] rfl)
                · have _ : True := trivial
                  refine lv_iload hx hb dL_frame_127 (lv_at hl 0 rfl) ?_
                  refine lv_iconst (v := nI 3) hx hb dL_frame_129 (by decide) ?_
                  refine n_icmp_ne (a := ii) (b := 3) (tgt := 147) hx hb dL_frame_130 (by decide) (by omega) (by omega) (fun c130 => ?_) (fun c130 => ?_)
                  · have _ : True := trivial
                    have hout : (decide (b1 = 0) && ii == 3) = false := by rw [show (ii == 3) = false by simpa using c130, Bool.and_false]
                    refine lv_iconst (v := nI 0) hx hb dL_frame_147 (by decide) ?_
                    refine lv_istore (lv' := [(14, .int (nI 0)), (13, .int (nI ii)), (5, .int (nI (nn + 1))), (12, .int (nI 0)), (11, .int (nI y1)), (10, .int (nI x1)), (9, .int (nI (1 + h1))), (8, .int (nI (1 + w1))), (7, .int r_24), (6, .int (nI kq)), (4, .ref ga), (0, .ref xo), (1, .ref b0), (2, .int (nI wd)), (3, .int (nI hd))]) hx hb dL_frame_148 hl (by decide) rfl (fun ls hl => ?_)
                    have hcl : ((y1 + ii / (1 + w1)) * wd + x1 + ii % (1 + w1)) < wd * hd := pcl_lt hpce c124
                    refine lv_aload hx hb dL_frame_150 (lv_at hl 10 rfl) ?_
                    refine lv_iload hx hb dL_frame_152 (lv_at hl 4 rfl) ?_
                    refine lv_iload hx hb dL_frame_154 (lv_at hl 1 rfl) ?_
                    refine lv_iload hx hb dL_frame_156 (lv_at hl 7 rfl) ?_
                    refine n_idiv hx hb dL_frame_158 (by omega) (by omega) (by omega) ?_
                    refine n_iadd hx hb dL_frame_159  ?_
                    refine lv_iload_n hx hb dL_frame_160 rfl (lv_at hl 13 rfl) ?_
                    refine n_imul hx hb dL_frame_161  ?_
                    refine lv_iload hx hb dL_frame_162 (lv_at hl 5 rfl) ?_
                    refine n_iadd hx hb dL_frame_164  ?_
                    refine lv_iload hx hb dL_frame_165 (lv_at hl 1 rfl) ?_
                    refine lv_iload hx hb dL_frame_167 (lv_at hl 7 rfl) ?_
                    refine n_irem hx hb dL_frame_169 (by omega) (by omega) (by omega) ?_
                    refine n_iadd hx hb dL_frame_170  ?_
                    refine lv_iload hx hb dL_frame_171 (lv_at hl 0 rfl) ?_
                    refine n_if_eq (a := 0) (tgt := 180) hx hb dL_frame_173 (by decide) (by decide) (fun _ => ?_) (fun h => absurd h (by decide))
                    refine lv_iload hx hb dL_frame_180 (lv_at hl 3 rfl) ?_
                    refine n_if_eq (a := 0) (tgt := 190) hx hb dL_frame_182 (by decide) (by decide) (fun _ => ?_) (fun h => absurd h (by decide))
                    refine lv_iload hx hb dL_frame_190 (lv_at hl 2 rfl) ?_
                    refine n_iast hx hb hK hP hD hS 0 0 rfl rfl (by omega) (by first | decide | omega) (up_nI _ _ _) (ws1 := gW cI cJ cB ga 24 (fun zz => nI ((va_up (gri Gf wd x1 y1 (1 + w1) (decide (b1 = 0)) vv ii) ((((y1 + (ii / (1 + w1))) * wd) + x1) + (ii % (1 + w1))) (nn + 1)) zz)) ws) rfl dL_frame_192 (fun H locs hP hD hS => ?_)
                    refine lv_iinc (v := nI (ii + 1)) (lv' := [(13, .int (nI (ii + 1))), (14, .int (nI 0)), (5, .int (nI (nn + 1))), (12, .int (nI 0)), (11, .int (nI y1)), (10, .int (nI x1)), (9, .int (nI (1 + h1))), (8, .int (nI (1 + w1))), (7, .int r_24), (6, .int (nI kq)), (4, .ref ga), (0, .ref xo), (1, .ref b0), (2, .int (nI wd)), (3, .int (nI hd))]) hx hb dL_frame_193 hl (k := 1) rfl (nI_1 _) (by decide) rfl (fun ls hl => ?_)
                    refine lv_goto (tgt := 117) hx hb dL_frame_196 (by decide) ?_
                    have e9 : va_up (gri Gf wd x1 y1 (1 + w1) (decide (b1 = 0)) vv ii) ((y1 + ii / (1 + w1)) * wd + x1 + ii % (1 + w1)) (nn + 1) = gri Gf wd x1 y1 (1 + w1) (decide (b1 = 0)) vv (ii + 1) := by subst hvv; exact gri_in hout
                    rw [e9] at hP hD
                    exact ih117 (ii + 1) (by omega) (by omega) _ _ hP hD hS _ (lv_sub hl [0, 2, 3, 4, 5, 6, 7, 8, 9, 10, 11, 12, 13, 14] rfl)
                  · have _ : True := trivial
                    refine lv_iload hx hb dL_frame_133 (lv_at hl 7 rfl) ?_
                    refine lv_bipush (v := nI 10) hx hb dL_frame_135 (by decide) ?_
                    refine lv_ishr hx hb dL_frame_137 ?_
                    refine lv_iconst (v := nI 1) hx hb dL_frame_138 (by decide) ?_
                    refine lv_iand hx hb dL_frame_139 ?_
                    refine topi (y := nI b1) hb1 ?_
                    refine n_if_ne (tgt := 147) hx hb dL_frame_140 (by decide) (by omega) (fun c140 => ?_) (fun c140 => ?_)
                    · have _ : True := trivial
                      have hout : (decide (b1 = 0) && ii == 3) = false := by rw [decide_eq_false (show ¬ b1 = 0 by omega), Bool.false_and]
                      refine lv_iconst (v := nI 0) hx hb dL_frame_147 (by decide) ?_
                      refine lv_istore (lv' := [(14, .int (nI 0)), (13, .int (nI ii)), (5, .int (nI (nn + 1))), (12, .int (nI 0)), (11, .int (nI y1)), (10, .int (nI x1)), (9, .int (nI (1 + h1))), (8, .int (nI (1 + w1))), (7, .int r_24), (6, .int (nI kq)), (4, .ref ga), (0, .ref xo), (1, .ref b0), (2, .int (nI wd)), (3, .int (nI hd))]) hx hb dL_frame_148 hl (by decide) rfl (fun ls hl => ?_)
                      have hcl : ((y1 + ii / (1 + w1)) * wd + x1 + ii % (1 + w1)) < wd * hd := pcl_lt hpce c124
                      refine lv_aload hx hb dL_frame_150 (lv_at hl 10 rfl) ?_
                      refine lv_iload hx hb dL_frame_152 (lv_at hl 4 rfl) ?_
                      refine lv_iload hx hb dL_frame_154 (lv_at hl 1 rfl) ?_
                      refine lv_iload hx hb dL_frame_156 (lv_at hl 7 rfl) ?_
                      refine n_idiv hx hb dL_frame_158 (by omega) (by omega) (by omega) ?_
                      refine n_iadd hx hb dL_frame_159  ?_
                      refine lv_iload_n hx hb dL_frame_160 rfl (lv_at hl 13 rfl) ?_
                      refine n_imul hx hb dL_frame_161  ?_
                      refine lv_iload hx hb dL_frame_162 (lv_at hl 5 rfl) ?_
                      refine n_iadd hx hb dL_frame_164  ?_
                      refine lv_iload hx hb dL_frame_165 (lv_at hl 1 rfl) ?_
                      refine lv_iload hx hb dL_frame_167 (lv_at hl 7 rfl) ?_
                      refine n_irem hx hb dL_frame_169 (by omega) (by omega) (by omega) ?_
                      refine n_iadd hx hb dL_frame_170  ?_
                      refine lv_iload hx hb dL_frame_171 (lv_at hl 0 rfl) ?_
                      refine n_if_eq (a := 0) (tgt := 180) hx hb dL_frame_173 (by decide) (by decide) (fun _ => ?_) (fun h => absurd h (by decide))
                      refine lv_iload hx hb dL_frame_180 (lv_at hl 3 rfl) ?_
                      refine n_if_eq (a := 0) (tgt := 190) hx hb dL_frame_182 (by decide) (by decide) (fun _ => ?_) (fun h => absurd h (by decide))
                      refine lv_iload hx hb dL_frame_190 (lv_at hl 2 rfl) ?_
                      refine n_iast hx hb hK hP hD hS 0 0 rfl rfl (by omega) (by first | decide | omega) (up_nI _ _ _) (ws1 := gW cI cJ cB ga 24 (fun zz => nI ((va_up (gri Gf wd x1 y1 (1 + w1) (decide (b1 = 0)) vv ii) ((((y1 + (ii / (1 + w1))) * wd) + x1) + (ii % (1 + w1))) (nn + 1)) zz)) ws) rfl dL_frame_192 (fun H locs hP hD hS => ?_)
                      refine lv_iinc (v := nI (ii + 1)) (lv' := [(13, .int (nI (ii + 1))), (14, .int (nI 0)), (5, .int (nI (nn + 1))), (12, .int (nI 0)), (11, .int (nI y1)), (10, .int (nI x1)), (9, .int (nI (1 + h1))), (8, .int (nI (1 + w1))), (7, .int r_24), (6, .int (nI kq)), (4, .ref ga), (0, .ref xo), (1, .ref b0), (2, .int (nI wd)), (3, .int (nI hd))]) hx hb dL_frame_193 hl (k := 1) rfl (nI_1 _) (by decide) rfl (fun ls hl => ?_)
                      refine lv_goto (tgt := 117) hx hb dL_frame_196 (by decide) ?_
                      have e9 : va_up (gri Gf wd x1 y1 (1 + w1) (decide (b1 = 0)) vv ii) ((y1 + ii / (1 + w1)) * wd + x1 + ii % (1 + w1)) (nn + 1) = gri Gf wd x1 y1 (1 + w1) (decide (b1 = 0)) vv (ii + 1) := by subst hvv; exact gri_in hout
                      rw [e9] at hP hD
                      exact ih117 (ii + 1) (by omega) (by omega) _ _ hP hD hS _ (lv_sub hl [0, 2, 3, 4, 5, 6, 7, 8, 9, 10, 11, 12, 13, 14] rfl)
                    · have _ : True := trivial
                      refine lv_iconst (v := nI 1) hx hb dL_frame_143 (by decide) ?_
                      refine lv_goto (tgt := 148) hx hb dL_frame_144 (by decide) ?_
                      refine lv_istore (lv' := [(14, .int (nI 1)), (13, .int (nI ii)), (5, .int (nI (nn + 1))), (12, .int (nI 0)), (11, .int (nI y1)), (10, .int (nI x1)), (9, .int (nI (1 + h1))), (8, .int (nI (1 + w1))), (7, .int r_24), (6, .int (nI kq)), (4, .ref ga), (0, .ref xo), (1, .ref b0), (2, .int (nI wd)), (3, .int (nI hd))]) hx hb dL_frame_148 hl (by decide) rfl (fun ls hl => ?_)
                      have hcl : ((y1 + ii / (1 + w1)) * wd + x1 + ii % (1 + w1)) < wd * hd := pcl_lt hpce c124
                      refine lv_aload hx hb dL_frame_150 (lv_at hl 10 rfl) ?_
                      refine lv_iload hx hb dL_frame_152 (lv_at hl 4 rfl) ?_
                      refine lv_iload hx hb dL_frame_154 (lv_at hl 1 rfl) ?_
                      refine lv_iload hx hb dL_frame_156 (lv_at hl 7 rfl) ?_
                      refine n_idiv hx hb dL_frame_158 (by omega) (by omega) (by omega) ?_
                      refine n_iadd hx hb dL_frame_159  ?_
                      refine lv_iload_n hx hb dL_frame_160 rfl (lv_at hl 13 rfl) ?_
                      refine n_imul hx hb dL_frame_161  ?_
                      refine lv_iload hx hb dL_frame_162 (lv_at hl 5 rfl) ?_
                      refine n_iadd hx hb dL_frame_164  ?_
                      refine lv_iload hx hb dL_frame_165 (lv_at hl 1 rfl) ?_
                      refine lv_iload hx hb dL_frame_167 (lv_at hl 7 rfl) ?_
                      refine n_irem hx hb dL_frame_169 (by omega) (by omega) (by omega) ?_
                      refine n_iadd hx hb dL_frame_170  ?_
                      refine lv_iload hx hb dL_frame_171 (lv_at hl 0 rfl) ?_
                      refine n_if_eq (a := 1) (tgt := 180) hx hb dL_frame_173 (by decide) (by decide) (fun h => absurd h (by decide)) (fun _ => ?_)
                      refine lv_iconst (v := nI 0) hx hb dL_frame_176 (by decide) ?_
                      refine lv_goto (tgt := 192) hx hb dL_frame_177 (by decide) ?_
                      refine n_iast hx hb hK hP hD hS 0 0 rfl rfl (by omega) (by first | decide | omega) (up_nI _ _ _) (ws1 := gW cI cJ cB ga 24 (fun zz => nI ((va_up (gri Gf wd x1 y1 (1 + w1) (decide (b1 = 0)) vv ii) ((((y1 + (ii / (1 + w1))) * wd) + x1) + (ii % (1 + w1))) 0) zz)) ws) rfl dL_frame_192 (fun H locs hP hD hS => ?_)
                      refine lv_iinc (v := nI (ii + 1)) (lv' := [(13, .int (nI (ii + 1))), (14, .int (nI 1)), (5, .int (nI (nn + 1))), (12, .int (nI 0)), (11, .int (nI y1)), (10, .int (nI x1)), (9, .int (nI (1 + h1))), (8, .int (nI (1 + w1))), (7, .int r_24), (6, .int (nI kq)), (4, .ref ga), (0, .ref xo), (1, .ref b0), (2, .int (nI wd)), (3, .int (nI hd))]) hx hb dL_frame_193 hl (k := 1) rfl (nI_1 _) (by decide) rfl (fun ls hl => ?_)
                      refine lv_goto (tgt := 117) hx hb dL_frame_196 (by decide) ?_
                      have e9 : va_up (gri Gf wd x1 y1 (1 + w1) (decide (b1 = 0)) vv ii) ((y1 + ii / (1 + w1)) * wd + x1 + ii % (1 + w1)) 0 = gri Gf wd x1 y1 (1 + w1) (decide (b1 = 0)) vv (ii + 1) := by subst c130 c140; exact gri_out hpce c124 (hfree 3 c124)
                      rw [e9] at hP hD
                      exact ih117 (ii + 1) (by omega) (by omega) _ _ hP hD hS _ (lv_sub hl [0, 2, 3, 4, 5, 6, 7, 8, 9, 10, 11, 12, 13, 14] rfl)
            have e9 : Gf = gri Gf wd x1 y1 (1 + w1) (decide (b1 = 0)) vv 0 := gri_0.symm
            rw [e9] at hP hD
            exact L117 _ 0 (by omega) (Nat.lt_succ_self _) _ _ hP hD hS _ (lv_sub hl [0, 1, 2, 3, 4, 5, 6, 7, 8, 9, 10, 11, 12, 13] rfl)
          · have _ : True := trivial
            refine lv_iconst (v := nI 1) hx hb dL_frame_92 (by decide) ?_
            refine lv_goto (tgt := 97) hx hb dL_frame_93 (by decide) ?_
            refine lv_istore (lv' := [(12, .int (nI 1)), (11, .int (nI y1)), (10, .int (nI x1)), (9, .int (nI (1 + h1))), (8, .int (nI (1 + w1))), (7, .int r_24), (5, .int (nI nn)), (6, .int (nI kq)), (4, .ref ga), (0, .ref xo), (1, .ref b0), (2, .int (nI wd)), (3, .int (nI hd))]) hx hb dL_frame_97 hl (by decide) rfl (fun ls hl => ?_)
            refine lv_iload hx hb dL_frame_99 (lv_at hl 6 rfl) ?_
            refine lv_iload hx hb dL_frame_101 (lv_at hl 0 rfl) ?_
            refine n_if_eq (a := 1) (tgt := 110) hx hb dL_frame_103 (by decide) (by decide) (fun h => absurd h (by decide)) (fun _ => ?_)
            refine lv_iconst (v := nI 0) hx hb dL_frame_106 (by decide) ?_
            refine lv_goto (tgt := 111) hx hb dL_frame_107 (by decide) ?_
            refine n_iadd hx hb dL_frame_111  ?_
            refine topi (y := nI nn) rfl ?_
            refine lv_istore (lv' := [(5, .int (nI nn)), (12, .int (nI 1)), (11, .int (nI y1)), (10, .int (nI x1)), (9, .int (nI (1 + h1))), (8, .int (nI (1 + w1))), (7, .int r_24), (6, .int (nI kq)), (4, .ref ga), (0, .ref xo), (1, .ref b0), (2, .int (nI wd)), (3, .int (nI hd))]) hx hb dL_frame_112 hl (by decide) rfl (fun ls hl => ?_)
            have hwh4 : (1 + w1) * (1 + h1) ≤ 4 := Nat.le_trans (Nat.mul_le_mul (show 1 + w1 ≤ 2 by omega) (show 1 + h1 ≤ 2 by omega)) (by omega)
            obtain ⟨vv, hvv⟩ : ∃ v, v = 9 := ⟨_, rfl⟩
            obtain ⟨b1, hb1l, hb1⟩ := and1 (r_24 >>> (nI 10 &&& 31))
            refine lv_iconst (v := nI 0) hx hb dL_frame_114 (by decide) ?_
            refine lv_istore (lv' := [(13, .int (nI 0)), (5, .int (nI nn)), (12, .int (nI 1)), (11, .int (nI y1)), (10, .int (nI x1)), (9, .int (nI (1 + h1))), (8, .int (nI (1 + w1))), (7, .int r_24), (6, .int (nI kq)), (4, .ref ga), (0, .ref xo), (1, .ref b0), (2, .int (nI wd)), (3, .int (nI hd))]) hx hb dL_frame_115 hl (by decide) rfl (fun ls hl => ?_)
            have L117 : ∀ (n : Nat) (ii : Nat), (ii ≤ (1 + w1) * (1 + h1)) → ((1 + w1) * (1 + h1) + 1 - ii) < n → ∀ (H : Heap) (locs : List Loc), va_P D vwCl (gW cI cJ cB ga 24 (fun zz => nI ((gri Gf wd x1 y1 (1 + w1) (decide (b1 = 0)) vv ii) zz)) ws) H → va_D A (gW cI cJ cB ga 24 (fun zz => nI ((gri Gf wd x1 y1 (1 + w1) (decide (b1 = 0)) vv ii) zz)) ws) → va_S A s.heap H locs → ∀ ls : Array Slot, lv_has ls 15 [(13, .int (nI ii)), (5, .int (nI nn)), (12, .int (nI 1)), (11, .int (nI y1)), (10, .int (nI x1)), (9, .int (nI (1 + h1))), (8, .int (nI (1 + w1))), (7, .int r_24), (6, .int (nI kq)), (4, .ref ga), (0, .ref xo), (1, .ref b0), (2, .int (nI wd)), (3, .int (nI hd))] → W p l e (rmC 2 1 24) s m args below meth c H locs 1 24 QQ (F0 m 117 ls []) := by
              intro n; induction n with
              | zero => intro ii hii hm; exact absurd hm (Nat.not_lt_zero _)
              | succ n ih117 =>
                intro ii hii hm117 H locs hP hD hS ls hl
                refine lv_iload hx hb dL_frame_117 (lv_at hl 0 rfl) ?_
                refine lv_iload hx hb dL_frame_119 (lv_at hl 6 rfl) ?_
                refine lv_iload hx hb dL_frame_121 (lv_at hl 5 rfl) ?_
                refine n_imul hx hb dL_frame_123  ?_
                refine n_icmp_ge (a := ii) (b := (1 + w1) * (1 + h1)) (tgt := 199) hx hb dL_frame_124 (by decide) (by omega) (by omega) (fun c124 => ?_) (fun c124 => ?_)
                · have _ : True := trivial
                  have hie : ii = (1 + w1) * (1 + h1) := by omega
                  refine lv_iinc (v := nI (kq + 1)) (lv' := [(6, .int (nI (kq + 1))), (13, .int (nI ii)), (5, .int (nI nn)), (12, .int (nI 1)), (11, .int (nI y1)), (10, .int (nI x1)), (9, .int (nI (1 + h1))), (8, .int (nI (1 + w1))), (7, .int r_24), (4, .ref ga), (0, .ref xo), (1, .ref b0), (2, .int (nI wd)), (3, .int (nI hd))]) hx hb dL_frame_199 hl (k := 8) rfl (nI_1 _) (by decide) rfl (fun ls hl => ?_)
                  refine lv_goto (tgt := 12) hx hb dL_frame_202 (by decide) ?_
                  exact ih12 nn (kq + 1) (gri Gf wd x1 y1 (1 + w1) (decide (b1 = 0)) vv ii) (by omega) (by rw [hie]; exact GI_add hGI hpce hfree (Or.inr ⟨hvv, rfl⟩)) (by omega) (by omega) _ _ hP hD hS _ (lv_sub hl [2, 0, 9, 10, 11, 12, 13] rfl)
                · have _ : True := trivial
                  refine lv_iload hx hb dL_frame_127 (lv_at hl 0 rfl) ?_
                  refine lv_iconst (v := nI 3) hx hb dL_frame_129 (by decide) ?_
                  refine n_icmp_ne (a := ii) (b := 3) (tgt := 147) hx hb dL_frame_130 (by decide) (by omega) (by omega) (fun c130 => ?_) (fun c130 => ?_)
                  · have _ : True := trivial
                    have hout : (decide (b1 = 0) && ii == 3) = false := by rw [show (ii == 3) = false by simpa using c130, Bool.and_false]
                    refine lv_iconst (v := nI 0) hx hb dL_frame_147 (by decide) ?_
                    refine lv_istore (lv' := [(14, .int (nI 0)), (13, .int (nI ii)), (5, .int (nI nn)), (12, .int (nI 1)), (11, .int (nI y1)), (10, .int (nI x1)), (9, .int (nI (1 + h1))), (8, .int (nI (1 + w1))), (7, .int r_24), (6, .int (nI kq)), (4, .ref ga), (0, .ref xo), (1, .ref b0), (2, .int (nI wd)), (3, .int (nI hd))]) hx hb dL_frame_148 hl (by decide) rfl (fun ls hl => ?_)
                    have hcl : ((y1 + ii / (1 + w1)) * wd + x1 + ii % (1 + w1)) < wd * hd := pcl_lt hpce c124
                    refine lv_aload hx hb dL_frame_150 (lv_at hl 10 rfl) ?_
                    refine lv_iload hx hb dL_frame_152 (lv_at hl 4 rfl) ?_
                    refine lv_iload hx hb dL_frame_154 (lv_at hl 1 rfl) ?_
                    refine lv_iload hx hb dL_frame_156 (lv_at hl 7 rfl) ?_
                    refine n_idiv hx hb dL_frame_158 (by omega) (by omega) (by omega) ?_
                    refine n_iadd hx hb dL_frame_159  ?_
                    refine lv_iload_n hx hb dL_frame_160 rfl (lv_at hl 13 rfl) ?_
                    refine n_imul hx hb dL_frame_161  ?_
                    refine lv_iload hx hb dL_frame_162 (lv_at hl 5 rfl) ?_
                    refine n_iadd hx hb dL_frame_164  ?_
                    refine lv_iload hx hb dL_frame_165 (lv_at hl 1 rfl) ?_
                    refine lv_iload hx hb dL_frame_167 (lv_at hl 7 rfl) ?_
                    refine n_irem hx hb dL_frame_169 (by omega) (by omega) (by omega) ?_
                    refine n_iadd hx hb dL_frame_170  ?_
                    refine lv_iload hx hb dL_frame_171 (lv_at hl 0 rfl) ?_
                    refine n_if_eq (a := 0) (tgt := 180) hx hb dL_frame_173 (by decide) (by decide) (fun _ => ?_) (fun h => absurd h (by decide))
                    refine lv_iload hx hb dL_frame_180 (lv_at hl 3 rfl) ?_
                    refine n_if_eq (a := 1) (tgt := 190) hx hb dL_frame_182 (by decide) (by decide) (fun h => absurd h (by decide)) (fun _ => ?_)
                    refine lv_bipush (v := nI 9) hx hb dL_frame_185 (by decide) ?_
                    refine lv_goto (tgt := 192) hx hb dL_frame_187 (by decide) ?_
                    refine n_iast hx hb hK hP hD hS 0 0 rfl rfl (by omega) (by first | decide | omega) (up_nI _ _ _) (ws1 := gW cI cJ cB ga 24 (fun zz => nI ((va_up (gri Gf wd x1 y1 (1 + w1) (decide (b1 = 0)) vv ii) ((((y1 + (ii / (1 + w1))) * wd) + x1) + (ii % (1 + w1))) 9) zz)) ws) rfl dL_frame_192 (fun H locs hP hD hS => ?_)
                    refine lv_iinc (v := nI (ii + 1)) (lv' := [(13, .int (nI (ii + 1))), (14, .int (nI 0)), (5, .int (nI nn)), (12, .int (nI 1)), (11, .int (nI y1)), (10, .int (nI x1)), (9, .int (nI (1 + h1))), (8, .int (nI (1 + w1))), (7, .int r_24), (6, .int (nI kq)), (4, .ref ga), (0, .ref xo), (1, .ref b0), (2, .int (nI wd)), (3, .int (nI hd))]) hx hb dL_frame_193 hl (k := 1) rfl (nI_1 _) (by decide) rfl (fun ls hl => ?_)
                    refine lv_goto (tgt := 117) hx hb dL_frame_196 (by decide) ?_
                    have e9 : va_up (gri Gf wd x1 y1 (1 + w1) (decide (b1 = 0)) vv ii) ((y1 + ii / (1 + w1)) * wd + x1 + ii % (1 + w1)) 9 = gri Gf wd x1 y1 (1 + w1) (decide (b1 = 0)) vv (ii + 1) := by subst hvv; exact gri_in hout
                    rw [e9] at hP hD
                    exact ih117 (ii + 1) (by omega) (by omega) _ _ hP hD hS _ (lv_sub hl [0, 2, 3, 4, 5, 6, 7, 8, 9, 10, 11, 12, 13, 14] rfl)
                  · have _ : True := trivial
                    refine lv_iload hx hb dL_frame_133 (lv_at hl 7 rfl) ?_
                    refine lv_bipush (v := nI 10) hx hb dL_frame_135 (by decide) ?_
                    refine lv_ishr hx hb dL_frame_137 ?_
                    refine lv_iconst (v := nI 1) hx hb dL_frame_138 (by decide) ?_
                    refine lv_iand hx hb dL_frame_139 ?_
                    refine topi (y := nI b1) hb1 ?_
                    refine n_if_ne (tgt := 147) hx hb dL_frame_140 (by decide) (by omega) (fun c140 => ?_) (fun c140 => ?_)
                    · have _ : True := trivial
                      have hout : (decide (b1 = 0) && ii == 3) = false := by rw [decide_eq_false (show ¬ b1 = 0 by omega), Bool.false_and]
                      refine lv_iconst (v := nI 0) hx hb dL_frame_147 (by decide) ?_
                      refine lv_istore (lv' := [(14, .int (nI 0)), (13, .int (nI ii)), (5, .int (nI nn)), (12, .int (nI 1)), (11, .int (nI y1)), (10, .int (nI x1)), (9, .int (nI (1 + h1))), (8, .int (nI (1 + w1))), (7, .int r_24), (6, .int (nI kq)), (4, .ref ga), (0, .ref xo), (1, .ref b0), (2, .int (nI wd)), (3, .int (nI hd))]) hx hb dL_frame_148 hl (by decide) rfl (fun ls hl => ?_)
                      have hcl : ((y1 + ii / (1 + w1)) * wd + x1 + ii % (1 + w1)) < wd * hd := pcl_lt hpce c124
                      refine lv_aload hx hb dL_frame_150 (lv_at hl 10 rfl) ?_
                      refine lv_iload hx hb dL_frame_152 (lv_at hl 4 rfl) ?_
                      refine lv_iload hx hb dL_frame_154 (lv_at hl 1 rfl) ?_
                      refine lv_iload hx hb dL_frame_156 (lv_at hl 7 rfl) ?_
                      refine n_idiv hx hb dL_frame_158 (by omega) (by omega) (by omega) ?_
                      refine n_iadd hx hb dL_frame_159  ?_
                      refine lv_iload_n hx hb dL_frame_160 rfl (lv_at hl 13 rfl) ?_
                      refine n_imul hx hb dL_frame_161  ?_
                      refine lv_iload hx hb dL_frame_162 (lv_at hl 5 rfl) ?_
                      refine n_iadd hx hb dL_frame_164  ?_
                      refine lv_iload hx hb dL_frame_165 (lv_at hl 1 rfl) ?_
                      refine lv_iload hx hb dL_frame_167 (lv_at hl 7 rfl) ?_
                      refine n_irem hx hb dL_frame_169 (by omega) (by omega) (by omega) ?_
                      refine n_iadd hx hb dL_frame_170  ?_
                      refine lv_iload hx hb dL_frame_171 (lv_at hl 0 rfl) ?_
                      refine n_if_eq (a := 0) (tgt := 180) hx hb dL_frame_173 (by decide) (by decide) (fun _ => ?_) (fun h => absurd h (by decide))
                      refine lv_iload hx hb dL_frame_180 (lv_at hl 3 rfl) ?_
                      refine n_if_eq (a := 1) (tgt := 190) hx hb dL_frame_182 (by decide) (by decide) (fun h => absurd h (by decide)) (fun _ => ?_)
                      refine lv_bipush (v := nI 9) hx hb dL_frame_185 (by decide) ?_
                      refine lv_goto (tgt := 192) hx hb dL_frame_187 (by decide) ?_
                      refine n_iast hx hb hK hP hD hS 0 0 rfl rfl (by omega) (by first | decide | omega) (up_nI _ _ _) (ws1 := gW cI cJ cB ga 24 (fun zz => nI ((va_up (gri Gf wd x1 y1 (1 + w1) (decide (b1 = 0)) vv ii) ((((y1 + (ii / (1 + w1))) * wd) + x1) + (ii % (1 + w1))) 9) zz)) ws) rfl dL_frame_192 (fun H locs hP hD hS => ?_)
                      refine lv_iinc (v := nI (ii + 1)) (lv' := [(13, .int (nI (ii + 1))), (14, .int (nI 0)), (5, .int (nI nn)), (12, .int (nI 1)), (11, .int (nI y1)), (10, .int (nI x1)), (9, .int (nI (1 + h1))), (8, .int (nI (1 + w1))), (7, .int r_24), (6, .int (nI kq)), (4, .ref ga), (0, .ref xo), (1, .ref b0), (2, .int (nI wd)), (3, .int (nI hd))]) hx hb dL_frame_193 hl (k := 1) rfl (nI_1 _) (by decide) rfl (fun ls hl => ?_)
                      refine lv_goto (tgt := 117) hx hb dL_frame_196 (by decide) ?_
                      have e9 : va_up (gri Gf wd x1 y1 (1 + w1) (decide (b1 = 0)) vv ii) ((y1 + ii / (1 + w1)) * wd + x1 + ii % (1 + w1)) 9 = gri Gf wd x1 y1 (1 + w1) (decide (b1 = 0)) vv (ii + 1) := by subst hvv; exact gri_in hout
                      rw [e9] at hP hD
                      exact ih117 (ii + 1) (by omega) (by omega) _ _ hP hD hS _ (lv_sub hl [0, 2, 3, 4, 5, 6, 7, 8, 9, 10, 11, 12, 13, 14] rfl)
                    · have _ : True := trivial
                      refine lv_iconst (v := nI 1) hx hb dL_frame_143 (by decide) ?_
                      refine lv_goto (tgt := 148) hx hb dL_frame_144 (by decide) ?_
                      refine lv_istore (lv' := [(14, .int (nI 1)), (13, .int (nI ii)), (5, .int (nI nn)), (12, .int (nI 1)), (11, .int (nI y1)), (10, .int (nI x1)), (9, .int (nI (1 + h1))), (8, .int (nI (1 + w1))), (7, .int r_24), (6, .int (nI kq)), (4, .ref ga), (0, .ref xo), (1, .ref b0), (2, .int (nI wd)), (3, .int (nI hd))]) hx hb dL_frame_148 hl (by decide) rfl (fun ls hl => ?_)
                      have hcl : ((y1 + ii / (1 + w1)) * wd + x1 + ii % (1 + w1)) < wd * hd := pcl_lt hpce c124
                      refine lv_aload hx hb dL_frame_150 (lv_at hl 10 rfl) ?_
                      refine lv_iload hx hb dL_frame_152 (lv_at hl 4 rfl) ?_
                      refine lv_iload hx hb dL_frame_154 (lv_at hl 1 rfl) ?_
                      refine lv_iload hx hb dL_frame_156 (lv_at hl 7 rfl) ?_
                      refine n_idiv hx hb dL_frame_158 (by omega) (by omega) (by omega) ?_
                      refine n_iadd hx hb dL_frame_159  ?_
                      refine lv_iload_n hx hb dL_frame_160 rfl (lv_at hl 13 rfl) ?_
                      refine n_imul hx hb dL_frame_161  ?_
                      refine lv_iload hx hb dL_frame_162 (lv_at hl 5 rfl) ?_
                      refine n_iadd hx hb dL_frame_164  ?_
                      refine lv_iload hx hb dL_frame_165 (lv_at hl 1 rfl) ?_
                      refine lv_iload hx hb dL_frame_167 (lv_at hl 7 rfl) ?_
                      refine n_irem hx hb dL_frame_169 (by omega) (by omega) (by omega) ?_
                      refine n_iadd hx hb dL_frame_170  ?_
                      refine lv_iload hx hb dL_frame_171 (lv_at hl 0 rfl) ?_
                      refine n_if_eq (a := 1) (tgt := 180) hx hb dL_frame_173 (by decide) (by decide) (fun h => absurd h (by decide)) (fun _ => ?_)
                      refine lv_iconst (v := nI 0) hx hb dL_frame_176 (by decide) ?_
                      refine lv_goto (tgt := 192) hx hb dL_frame_177 (by decide) ?_
                      refine n_iast hx hb hK hP hD hS 0 0 rfl rfl (by omega) (by first | decide | omega) (up_nI _ _ _) (ws1 := gW cI cJ cB ga 24 (fun zz => nI ((va_up (gri Gf wd x1 y1 (1 + w1) (decide (b1 = 0)) vv ii) ((((y1 + (ii / (1 + w1))) * wd) + x1) + (ii % (1 + w1))) 0) zz)) ws) rfl dL_frame_192 (fun H locs hP hD hS => ?_)
                      refine lv_iinc (v := nI (ii + 1)) (lv' := [(13, .int (nI (ii + 1))), (14, .int (nI 1)), (5, .int (nI nn)), (12, .int (nI 1)), (11, .int (nI y1)), (10, .int (nI x1)), (9, .int (nI (1 + h1))), (8, .int (nI (1 + w1))), (7, .int r_24), (6, .int (nI kq)), (4, .ref ga), (0, .ref xo), (1, .ref b0), (2, .int (nI wd)), (3, .int (nI hd))]) hx hb dL_frame_193 hl (k := 1) rfl (nI_1 _) (by decide) rfl (fun ls hl => ?_)
                      refine lv_goto (tgt := 117) hx hb dL_frame_196 (by decide) ?_
                      have e9 : va_up (gri Gf wd x1 y1 (1 + w1) (decide (b1 = 0)) vv ii) ((y1 + ii / (1 + w1)) * wd + x1 + ii % (1 + w1)) 0 = gri Gf wd x1 y1 (1 + w1) (decide (b1 = 0)) vv (ii + 1) := by subst c130 c140; exact gri_out hpce c124 (hfree 3 c124)
                      rw [e9] at hP hD
                      exact ih117 (ii + 1) (by omega) (by omega) _ _ hP hD hS _ (lv_sub hl [0, 2, 3, 4, 5, 6, 7, 8, 9, 10, 11, 12, 13, 14] rfl)
            have e9 : Gf = gri Gf wd x1 y1 (1 + w1) (decide (b1 = 0)) vv 0 := gri_0.symm
            rw [e9] at hP hD
            exact L117 _ 0 (by omega) (Nat.lt_succ_self _) _ _ hP hD hS _ (lv_sub hl [0, 1, 2, 3, 4, 5, 6, 7, 8, 9, 10, 11, 12, 13] rfl)
  exact L12 _ 0 0 (fun _ => 0) (by omega) GI_0 (by omega) (Nat.lt_succ_self _) _ _ hP hD hS _ (lv_sub hl [1, 0, 2, 3, 4, 5, 6] rfl)
