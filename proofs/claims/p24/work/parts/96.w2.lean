/-! ===== p24: agrees (written by w2.py) ===== -/
set_option maxHeartbeats 16000000 in
set_option maxRecDepth 100000 in
theorem c_L_agrees (l : Launch) (D : va_G) (cI cJ cB : ClassId) {xo ln : Nat} {tx : Nat → Nat} {t : BT} {ws : va_W} (sz : Nat) (hPK : PK cI cJ cB xo ln tx t [] ws) : Met l yL_agrees (Cond.code yL_agrees cL_agrees 14 (some .boolean) :: lw_all) (rmC 8 1 8) (va_Pc [.ref xo] (pN D (tyz cI cJ cB) ws sz)) (va_Qi (fun (r : Int32) (w : va_W) => r = bI true ∧ PK cI cJ cB xo ln tx t [] w) (nB D (va_A ws sz)) (va_A ws sz)) 1 8 (va_A ws sz) := by
  refine Met.ofW (cc := cL_agrees) (maxL := 14) (ret := (some .boolean)) (by decide) rfl ?_
  intro p e s m args below meth c s₁ B hml hv
  obtain ⟨rfl, hsz, hO, hK, hN, hP, hD0⟩ := hv
  subst hsz
  have hx := B.exec; have hb := B.bytes; have hr := B.returns; have hlocks := B.notSynchronized
  have hts0 := atoms_spec (ws := Cond.code yL_agrees cL_agrees 14 (some .boolean) :: lw_all) B.pre
  have hC : CallFix p m c cL_agrees 14 s _ lw_all RL := ⟨hx, hb, hml, findClass_of_methodNamed B.named, fun w h => hts0 w (List.mem_cons_of_mem _ h)⟩
  have hA : ∀ q : Nat, s.heap.size ≤ q → va_A ws s.heap.size q := fun q h => Or.inr h
  have hD : va_D (va_A ws s.heap.size) ws := ⟨hD0.1, fun k q h => Or.inl ⟨k, q.2, h⟩⟩
  generalize hAe : va_A ws s.heap.size = A at hA hD ⊢
  have hS : va_S A s.heap s.heap [] := va_S.rf
  have hl := lv_entry ([.ref xo]) (n := 14) (Nat.le_of_ble_eq_true rfl)
  rw [lg_entry_eq]
  generalize (lg_sl ([.ref xo]) ++ List.replicate (14 - (lg_sl ([.ref xo])).length) Slot.unset).toArray = ls at hl ⊢
  have hl : lv_has ls 14 [(0, .ref xo)] := hl
  generalize hav : ([.ref xo] : List Value).toArray = args at hC ⊢
  refine W_gen (fun QQ hQ => ?_)
  show W p l e (rmC 8 1 8) s m args below meth c s.heap [] 0 0 QQ (F0 m 0 ls [])
  obtain ⟨fpv, hfp⟩ : ∃ v, f_fp (twd t) (thd t) (tnb t) (twl t) (tst t) (tsl t) (tgl t) (taq t) (tsh t) (tbw t) (tbh t) (tps t) = v := ⟨_, rfl⟩
  have hT : TVt t := hPK.tv
  have hn7 : tnb t ≤ 7 := TV_n hT
  have hc24 : twd t * thd t ≤ 24 := TV_c hT
  have hw1 : 1 ≤ twd t := (TV_w hT).1
  have hw6 : twd t ≤ 6 := (TV_w hT).2.1
  refine lv_aload_n hx hb dL_agrees_0 rfl (lv_at hl 0 rfl) ?_
  refine lv_iconst (v := nI 2) hx hb dL_agrees_1 (by decide) ?_
  refine callQ_i (As := [.int (nI 2)]) (rest := []) (y_frame l D (nI 2)  hPK) hC hK hN hP hD hS rfl rfl q389 md_X7_frame rfl hl.1 rfl (Nat.le_of_ble_eq_true rfl) dL_agrees_2 ⟨Nat.le_of_ble_eq_true rfl, Nat.le_of_ble_eq_true rfl⟩ ⟨Nat.le_of_ble_eq_true rfl, Nat.le_of_ble_eq_true rfl⟩ (fun r w_2 H locs hq hP hD hS => ?_)
  obtain ⟨hPK, hr9⟩ := hq
  have hr9 : r = nI (tnb t) := hr9.trans (frx (k := 2) (by decide))
  rw [hr9]
  refine lv_istore_n (lv' := [(1, .int (nI (tnb t))), (0, .ref xo)]) hx hb dL_agrees_5 rfl hl (by decide) rfl (fun ls hl => ?_)
  refine lv_aload_n hx hb dL_agrees_6 rfl (lv_at hl 1 rfl) ?_
  refine lv_iconst (v := nI 0) hx hb dL_agrees_7 (by decide) ?_
  refine callQ_i (As := [.int (nI 0)]) (rest := []) (y_frame l D (nI 0)  hPK) hC hK hN hP hD hS rfl rfl q389 md_X7_frame rfl hl.1 rfl (Nat.le_of_ble_eq_true rfl) dL_agrees_8 ⟨Nat.le_of_ble_eq_true rfl, Nat.le_of_ble_eq_true rfl⟩ ⟨Nat.le_of_ble_eq_true rfl, Nat.le_of_ble_eq_true rfl⟩ (fun r w_8 H locs hq hP hD hS => ?_)
  obtain ⟨hPK, hr9⟩ := hq
  have hr9 : r = nI (twd t) := hr9.trans (frx (k := 0) (by decide))
  rw [hr9]
  refine lv_istore_n (lv' := [(2, .int (nI (twd t))), (1, .int (nI (tnb t))), (0, .ref xo)]) hx hb dL_agrees_11 rfl hl (by decide) rfl (fun ls hl => ?_)
  refine lv_iload_n hx hb dL_agrees_12 rfl (lv_at hl 0 rfl) ?_
  refine lv_aload_n hx hb dL_agrees_13 rfl (lv_at hl 2 rfl) ?_
  refine lv_iconst (v := nI 1) hx hb dL_agrees_14 (by decide) ?_
  refine callQ_i (As := [.int (nI 1)]) (rest := [.int (nI (twd t))]) (y_frame l D (nI 1)  hPK) hC hK hN hP hD hS rfl rfl q389 md_X7_frame rfl hl.1 rfl (Nat.le_of_ble_eq_true rfl) dL_agrees_15 ⟨Nat.le_of_ble_eq_true rfl, Nat.le_of_ble_eq_true rfl⟩ ⟨Nat.le_of_ble_eq_true rfl, Nat.le_of_ble_eq_true rfl⟩ (fun r w_15 H locs hq hP hD hS => ?_)
  obtain ⟨hPK, hr9⟩ := hq
  have hr9 : r = nI (thd t) := hr9.trans (frx (k := 1) (by decide))
  rw [hr9]
  refine n_imul hx hb dL_agrees_18  ?_
  refine lv_istore_n (lv' := [(3, .int (nI ((twd t) * (thd t)))), (2, .int (nI (twd t))), (1, .int (nI (tnb t))), (0, .ref xo)]) hx hb dL_agrees_19 rfl hl (by decide) rfl (fun ls hl => ?_)
  refine lv_iconst (v := nI 0) hx hb dL_agrees_20 (by decide) ?_
  refine lv_istore (lv' := [(4, .int (nI 0)), (3, .int (nI ((twd t) * (thd t)))), (2, .int (nI (twd t))), (1, .int (nI (tnb t))), (0, .ref xo)]) hx hb dL_agrees_21 hl (by decide) rfl (fun ls hl => ?_)
  refine lv_bipush (v := nI 8) hx hb dL_agrees_23 (by decide) ?_
  refine w_newI (N := 8) (c1 := 1) (s1 := 8) hC hK hP hD hS hA q56 (by decide) (by decide) rfl rfl (Nat.le_of_ble_eq_true rfl) (Nat.le_of_ble_eq_true rfl) dL_agrees_25 (fun ga H hP hD hS => ?_)
  have hP : va_P D vwCl (gW cI cJ cB ga 8 (fun zz => nI ((fun _ => 0) zz)) w_15) H := va_P_perm (List.perm_append_comm) hP
  have hD : va_D A (gW cI cJ cB ga 8 (fun zz => nI ((fun _ => 0) zz)) w_15) := va_D_perm (List.perm_append_comm) hD
  refine lv_astore (lv' := [(5, .ref ga), (4, .int (nI 0)), (3, .int (nI ((twd t) * (thd t)))), (2, .int (nI (twd t))), (1, .int (nI (tnb t))), (0, .ref xo)]) hx hb dL_agrees_27 hl (by decide) rfl (fun ls hl => ?_)
  refine lv_iconst (v := nI 0) hx hb dL_agrees_29 (by decide) ?_
  refine lv_istore (lv' := [(6, .int (nI 0)), (5, .ref ga), (4, .int (nI 0)), (3, .int (nI ((twd t) * (thd t)))), (2, .int (nI (twd t))), (1, .int (nI (tnb t))), (0, .ref xo)]) hx hb dL_agrees_30 hl (by decide) rfl (fun ls hl => ?_)
  have L32 : ∀ (n : Nat) (ci : Nat) (ws0 : va_W), (ci ≤ twd t * thd t) → (PK cI cJ cB xo ln tx t [] ws0) → (twd t * thd t + 1 - ci) < n → ∀ (H : Heap) (locs : List Loc), va_P D vwCl (gW cI cJ cB ga 8 (fun zz => nI ((mny t ci) zz)) ws0) H → va_D A (gW cI cJ cB ga 8 (fun zz => nI ((mny t ci) zz)) ws0) → va_S A s.heap H locs → ∀ ls : Array Slot, lv_has ls 14 [(4, .int (nI (fre t ci))), (6, .int (nI ci)), (5, .ref ga), (3, .int (nI ((twd t) * (thd t)))), (2, .int (nI (twd t))), (1, .int (nI (tnb t))), (0, .ref xo)] → W p l e (rmC 8 1 8) s m args below meth c H locs 1 8 QQ (F0 m 32 ls []) := by
    intro n; induction n with
    | zero => intro ci ws0 hcc hPK hm; exact absurd hm (Nat.not_lt_zero _)
    | succ n ih32 =>
      intro ci ws0 hcc hPK hm32 H locs hP hD hS ls hl
      refine lv_iload hx hb dL_agrees_32 (lv_at hl 1 rfl) ?_
      refine lv_iload_n hx hb dL_agrees_34 rfl (lv_at hl 3 rfl) ?_
      refine n_icmp_ge (a := ci) (b := (twd t) * (thd t)) (tgt := 115) hx hb dL_agrees_35 (by decide) (by omega) (by omega) (fun c35 => ?_) (fun c35 => ?_)
      · have _ : True := trivial
        have hce : ci = twd t * thd t := by omega
        have hmny : ∀ b, b < tnb t → mny t ci b = cnt (tsh t b) 24 := fun b hb => by rw [hce]; exact cq_blk hT hb
        have hfre : f_free (twd t) (thd t) (tnb t) (twl t) (tsh t) (tps t) = nI (fre t ci) := by rw [hce]; exact cq_free hT
        have hfrl : fre t ci ≤ ci := fre_le
        refine lv_aload_n hx hb dL_agrees_115 rfl (lv_at hl 6 rfl) ?_
        refine callQ_l (As := []) (rest := []) (STl.fr (pre := [(ga, .inl (cI, 8, .inl (fun zz => nI ((mny t ci) zz))))]) (y_fingerprint l D   hPK)) hC hK hN hP hD hS rfl rfl q547 md_X7_fingerprint rfl hl.1 rfl (Nat.le_of_ble_eq_true rfl) dL_agrees_116 ⟨Nat.le_of_ble_eq_true rfl, Nat.le_of_ble_eq_true rfl⟩ ⟨Nat.le_of_ble_eq_true rfl, Nat.le_of_ble_eq_true rfl⟩ (fun r w9 H locs hq hP hD hS => ?_)
        obtain ⟨w_116, hq, hp⟩ := hq
        have hP : va_P D vwCl (gW cI cJ cB ga 8 (fun zz => nI ((mny t ci) zz)) w_116) H := va_P_perm hp hP
        have hD : va_D A (gW cI cJ cB ga 8 (fun zz => nI ((mny t ci) zz)) w_116) := va_D_perm hp hD
        obtain ⟨hPK, hr9⟩ := hq
        have hr9 : r = fpv := hr9.trans hfp
        rw [hr9]
        refine lv_lstore (lv' := [(6, .long fpv), (4, .int (nI (fre t ci))), (5, .ref ga), (3, .int (nI ((twd t) * (thd t)))), (2, .int (nI (twd t))), (1, .int (nI (tnb t))), (0, .ref xo)]) hx hb dL_agrees_119 hl (by decide) rfl (fun ls hl => ?_)
        refine lv_iconst (v := nI 0) hx hb dL_agrees_121 (by decide) ?_
        refine lv_istore (lv' := [(8, .int (nI 0)), (6, .long fpv), (4, .int (nI (fre t ci))), (5, .ref ga), (3, .int (nI ((twd t) * (thd t)))), (2, .int (nI (twd t))), (1, .int (nI (tnb t))), (0, .ref xo)]) hx hb dL_agrees_122 hl (by decide) rfl (fun ls hl => ?_)
        have L124 : ∀ (n : Nat) (b : Nat) (ws0 : va_W), (b ≤ tnb t) → (PK cI cJ cB xo ln tx t [] ws0) → (tnb t + 1 - b) < n → ∀ (H : Heap) (locs : List Loc), va_P D vwCl (gW cI cJ cB ga 8 (fun zz => nI ((mny t ci) zz)) ws0) H → va_D A (gW cI cJ cB ga 8 (fun zz => nI ((mny t ci) zz)) ws0) → va_S A s.heap H locs → ∀ ls : Array Slot, lv_has ls 14 [(8, .int (nI b)), (6, .long fpv), (4, .int (nI (fre t ci))), (5, .ref ga), (3, .int (nI ((twd t) * (thd t)))), (2, .int (nI (twd t))), (1, .int (nI (tnb t))), (0, .ref xo)] → W p l e (rmC 8 1 8) s m args below meth c H locs 1 8 QQ (F0 m 124 ls []) := by
          intro n; induction n with
          | zero => intro b ws0 hbb hPK hm; exact absurd hm (Nat.not_lt_zero _)
          | succ n ih124 =>
            intro b ws0 hbb hPK hm124 H locs hP hD hS ls hl
            refine lv_iload hx hb dL_agrees_124 (lv_at hl 0 rfl) ?_
            refine lv_iload_n hx hb dL_agrees_126 rfl (lv_at hl 6 rfl) ?_
            refine n_icmp_ge (a := b) (b := tnb t) (tgt := 536) hx hb dL_agrees_127 (by decide) (by omega) (by omega) (fun c127 => ?_) (fun c127 => ?_)
            · have _ : True := trivial
              refine lv_iload hx hb dL_agrees_536 (lv_at hl 2 rfl) ?_
              refine lv_aload_n hx hb dL_agrees_538 rfl (lv_at hl 7 rfl) ?_
              refine lv_iconst (v := nI 3) hx hb dL_agrees_539 (by decide) ?_
              refine callQ_i (As := [.int (nI 3)]) (rest := [.int (nI (fre t ci))]) (STi.fr (pre := [(ga, .inl (cI, 8, .inl (fun zz => nI ((mny t ci) zz))))]) (y_frame l D (nI 3)  hPK)) hC hK hN hP hD hS rfl rfl q389 md_X7_frame rfl hl.1 rfl (Nat.le_of_ble_eq_true rfl) dL_agrees_540 ⟨Nat.le_of_ble_eq_true rfl, Nat.le_of_ble_eq_true rfl⟩ ⟨Nat.le_of_ble_eq_true rfl, Nat.le_of_ble_eq_true rfl⟩ (fun r w9 H locs hq hP hD hS => ?_)
              obtain ⟨w_540, hq, hp⟩ := hq
              have hP : va_P D vwCl (gW cI cJ cB ga 8 (fun zz => nI ((mny t ci) zz)) w_540) H := va_P_perm hp hP
              have hD : va_D A (gW cI cJ cB ga 8 (fun zz => nI ((mny t ci) zz)) w_540) := va_D_perm hp hD
              obtain ⟨hPK, hr9⟩ := hq
              have hr9 : r = nI (fre t ci) := hr9.trans ((frx (k := 3) (by decide)).trans hfre)
              rw [hr9]
              refine n_icmp_ne (a := fre t ci) (b := fre t ci) (tgt := 560) hx hb dL_agrees_543 (by decide) (by omega) (by omega) (fun h9 => absurd h9 (by omega)) (fun _ => ?_)
              refine lv_aload_n hx hb dL_agrees_546 rfl (lv_at hl 7 rfl) ?_
              refine callQ_l (As := []) (rest := []) (STl.fr (pre := [(ga, .inl (cI, 8, .inl (fun zz => nI ((mny t ci) zz))))]) (y_fingerprint l D   hPK)) hC hK hN hP hD hS rfl rfl q547 md_X7_fingerprint rfl hl.1 rfl (Nat.le_of_ble_eq_true rfl) dL_agrees_547 ⟨Nat.le_of_ble_eq_true rfl, Nat.le_of_ble_eq_true rfl⟩ ⟨Nat.le_of_ble_eq_true rfl, Nat.le_of_ble_eq_true rfl⟩ (fun r w9 H locs hq hP hD hS => ?_)
              obtain ⟨w_547, hq, hp⟩ := hq
              have hP : va_P D vwCl (gW cI cJ cB ga 8 (fun zz => nI ((mny t ci) zz)) w_547) H := va_P_perm hp hP
              have hD : va_D A (gW cI cJ cB ga 8 (fun zz => nI ((mny t ci) zz)) w_547) := va_D_perm hp hD
              obtain ⟨hPK, hr9⟩ := hq
              have hr9 : r = fpv := hr9.trans hfp
              rw [hr9]
              refine lv_lload hx hb dL_agrees_550 (lv_at hl 1 rfl) ?_
              refine n_lcmp hx hb dL_agrees_552 ?_
              refine topi (y := nI 0) (lcmp_self _) ?_
              refine n_if_ne (a := 0) (tgt := 560) hx hb dL_agrees_553 (by decide) (by decide) (fun h => absurd h (by decide)) (fun _ => ?_)
              refine lv_iconst (v := nI 1) hx hb dL_agrees_556 (by decide) ?_
              refine lv_goto (tgt := 561) hx hb dL_agrees_557 (by decide) ?_
              have hP : va_P D vwCl w_547 H := va_P_tl hP
              have hD : va_D A w_547 := va_D_tl hD
              rw [hQ]
              subst hAe
              exact W.zret (v := nI 1) hx hb hr rfl (fun t9 ht hW => ⟨⟨_, w_547, rfl, ⟨rfl, hPK⟩, by rw [ht]; exact hP, hD⟩, hS.F ht⟩) hS.2.2 dL_agrees_561
            · have _ : True := trivial
              have hb7 : b < tnb t := by omega
              have hcnl : cnt (tsh t b) 24 ≤ 24 := cnt_le 24
              have hm9 := hmny b hb7
              have hpl := (TV_p hT hb7).2.1
              have hpc := (TV_p hT hb7).1
              obtain ⟨al, hal1, hal2, hal3, hal4⟩ := alike_f hT hb7
              refine lv_aload_n hx hb dL_agrees_130 rfl (lv_at hl 7 rfl) ?_
              refine lv_iload hx hb dL_agrees_131 (lv_at hl 0 rfl) ?_
              refine lv_iconst (v := nI 0) hx hb dL_agrees_133 (by decide) ?_
              refine callQ_i (As := [.int (nI b), .int (nI 0)]) (rest := []) (STi.fr (pre := [(ga, .inl (cI, 8, .inl (fun zz => nI ((mny t ci) zz))))]) (y_block l D (nI b) (nI 0)  hPK)) hC hK hN hP hD hS rfl rfl q421 md_X7_block rfl hl.1 rfl (Nat.le_of_ble_eq_true rfl) dL_agrees_134 ⟨Nat.le_of_ble_eq_true rfl, Nat.le_of_ble_eq_true rfl⟩ ⟨Nat.le_of_ble_eq_true rfl, Nat.le_of_ble_eq_true rfl⟩ (fun r w9 H locs hq hP hD hS => ?_)
              obtain ⟨w_134, hq, hp⟩ := hq
              have hP : va_P D vwCl (gW cI cJ cB ga 8 (fun zz => nI ((mny t ci) zz)) w_134) H := va_P_perm hp hP
              have hD : va_D A (gW cI cJ cB ga 8 (fun zz => nI ((mny t ci) zz)) w_134) := va_D_perm hp hD
              obtain ⟨hPK, hr9⟩ := hq
              have hr9 : r = nI (tps t b) := hr9.trans (blx (b := b) (k := 0) hb7 hn7 (by decide))
              rw [hr9]
              refine lv_istore (lv' := [(9, .int (nI (tps t b))), (8, .int (nI b)), (6, .long fpv), (4, .int (nI (fre t ci))), (5, .ref ga), (3, .int (nI ((twd t) * (thd t)))), (2, .int (nI (twd t))), (1, .int (nI (tnb t))), (0, .ref xo)]) hx hb dL_agrees_137 hl (by decide) rfl (fun ls hl => ?_)
              refine lv_iconst (v := nI 0) hx hb dL_agrees_139 (by decide) ?_
              refine lv_istore (lv' := [(10, .int (nI 0)), (9, .int (nI (tps t b))), (8, .int (nI b)), (6, .long fpv), (4, .int (nI (fre t ci))), (5, .ref ga), (3, .int (nI ((twd t) * (thd t)))), (2, .int (nI (twd t))), (1, .int (nI (tnb t))), (0, .ref xo)]) hx hb dL_agrees_140 hl (by decide) rfl (fun ls hl => ?_)
              refine lv_aload_n hx hb dL_agrees_142 rfl (lv_at hl 9 rfl) ?_
              refine lv_iload hx hb dL_agrees_143 (lv_at hl 2 rfl) ?_
              refine lv_iconst (v := nI 1) hx hb dL_agrees_145 (by decide) ?_
              refine callQ_i (As := [.int (nI b), .int (nI 1)]) (rest := []) (STi.fr (pre := [(ga, .inl (cI, 8, .inl (fun zz => nI ((mny t ci) zz))))]) (y_block l D (nI b) (nI 1)  hPK)) hC hK hN hP hD hS rfl rfl q421 md_X7_block rfl hl.1 rfl (Nat.le_of_ble_eq_true rfl) dL_agrees_146 ⟨Nat.le_of_ble_eq_true rfl, Nat.le_of_ble_eq_true rfl⟩ ⟨Nat.le_of_ble_eq_true rfl, Nat.le_of_ble_eq_true rfl⟩ (fun r w9 H locs hq hP hD hS => ?_)
              obtain ⟨w_146, hq, hp⟩ := hq
              have hP : va_P D vwCl (gW cI cJ cB ga 8 (fun zz => nI ((mny t ci) zz)) w_146) H := va_P_perm hp hP
              have hD : va_D A (gW cI cJ cB ga 8 (fun zz => nI ((mny t ci) zz)) w_146) := va_D_perm hp hD
              obtain ⟨hPK, hr9⟩ := hq
              have hr9 : r = nI (cnt (tsh t b) 24) := hr9.trans (blx (b := b) (k := 1) hb7 hn7 (by decide))
              rw [hr9]
              refine lv_aload hx hb dL_agrees_149 (lv_at hl 5 rfl) ?_
              refine lv_iload hx hb dL_agrees_151 (lv_at hl 2 rfl) ?_
              refine n_iald hx hb hK hP 0 0 rfl rfl (by omega) (by first | decide | omega) dL_agrees_153 ?_
              refine n_icmp_ne (a := cnt (tsh t b) 24) (b := (mny t ci) b) (tgt := 230) hx hb dL_agrees_154 (by decide) (by omega) (by omega) (fun h9 => absurd h9 (by omega)) (fun _ => ?_)
              refine lv_iload hx hb dL_agrees_157 (lv_at hl 1 rfl) ?_
              refine lv_iload_n hx hb dL_agrees_159 rfl (lv_at hl 7 rfl) ?_
              refine n_irem hx hb dL_agrees_160 (by omega) (by omega) (by omega) ?_
              refine lv_aload_n hx hb dL_agrees_161 rfl (lv_at hl 9 rfl) ?_
              refine lv_iload hx hb dL_agrees_162 (lv_at hl 2 rfl) ?_
              refine lv_iconst (v := nI 2) hx hb dL_agrees_164 (by decide) ?_
              refine callQ_i (As := [.int (nI b), .int (nI 2)]) (rest := [.int (nI ((tps t b) % (twd t)))]) (STi.fr (pre := [(ga, .inl (cI, 8, .inl (fun zz => nI ((mny t ci) zz))))]) (y_block l D (nI b) (nI 2)  hPK)) hC hK hN hP hD hS rfl rfl q421 md_X7_block rfl hl.1 rfl (Nat.le_of_ble_eq_true rfl) dL_agrees_165 ⟨Nat.le_of_ble_eq_true rfl, Nat.le_of_ble_eq_true rfl⟩ ⟨Nat.le_of_ble_eq_true rfl, Nat.le_of_ble_eq_true rfl⟩ (fun r w9 H locs hq hP hD hS => ?_)
              obtain ⟨w_165, hq, hp⟩ := hq
              have hP : va_P D vwCl (gW cI cJ cB ga 8 (fun zz => nI ((mny t ci) zz)) w_165) H := va_P_perm hp hP
              have hD : va_D A (gW cI cJ cB ga 8 (fun zz => nI ((mny t ci) zz)) w_165) := va_D_perm hp hD
              obtain ⟨hPK, hr9⟩ := hq
              have hr9 : r = nI (tbw t b) := hr9.trans (blx (b := b) (k := 2) hb7 hn7 (by decide))
              rw [hr9]
              refine n_iadd hx hb dL_agrees_168  ?_
              refine lv_iload_n hx hb dL_agrees_169 rfl (lv_at hl 7 rfl) ?_
              refine n_icmp_gt (a := ((tps t b) % (twd t)) + (tbw t b)) (b := twd t) (tgt := 230) hx hb dL_agrees_170 (by decide) (by omega) (by omega) (fun h9 => absurd h9 (by omega)) (fun _ => ?_)
              refine lv_aload_n hx hb dL_agrees_173 rfl (lv_at hl 9 rfl) ?_
              refine lv_iload hx hb dL_agrees_174 (lv_at hl 2 rfl) ?_
              refine lv_bipush (v := nI 6) hx hb dL_agrees_176 (by decide) ?_
              refine callQ_i (As := [.int (nI b), .int (nI 6)]) (rest := []) (STi.fr (pre := [(ga, .inl (cI, 8, .inl (fun zz => nI ((mny t ci) zz))))]) (y_block l D (nI b) (nI 6)  hPK)) hC hK hN hP hD hS rfl rfl q421 md_X7_block rfl hl.1 rfl (Nat.le_of_ble_eq_true rfl) dL_agrees_178 ⟨Nat.le_of_ble_eq_true rfl, Nat.le_of_ble_eq_true rfl⟩ ⟨Nat.le_of_ble_eq_true rfl, Nat.le_of_ble_eq_true rfl⟩ (fun r w9 H locs hq hP hD hS => ?_)
              obtain ⟨w_178, hq, hp⟩ := hq
              have hP : va_P D vwCl (gW cI cJ cB ga 8 (fun zz => nI ((mny t ci) zz)) w_178) H := va_P_perm hp hP
              have hD : va_D A (gW cI cJ cB ga 8 (fun zz => nI ((mny t ci) zz)) w_178) := va_D_perm hp hD
              obtain ⟨hPK, hr9⟩ := hq
              have hr9 : r = nI al := hr9.trans ((blx (b := b) (k := 6) hb7 hn7 (by decide)).trans (congrArg nI hal2))
              rw [hr9]
              refine lv_iload hx hb dL_agrees_181 (lv_at hl 2 rfl) ?_
              refine n_icmp_gt (a := al) (b := b) (tgt := 230) hx hb dL_agrees_183 (by decide) (by omega) (by omega) (fun h9 => absurd h9 (by omega)) (fun _ => ?_)
              refine lv_aload_n hx hb dL_agrees_186 rfl (lv_at hl 9 rfl) ?_
              refine lv_aload_n hx hb dL_agrees_187 rfl (lv_at hl 9 rfl) ?_
              refine lv_iload hx hb dL_agrees_188 (lv_at hl 2 rfl) ?_
              refine lv_bipush (v := nI 6) hx hb dL_agrees_190 (by decide) ?_
              refine callQ_i (As := [.int (nI b), .int (nI 6)]) (rest := [.ref xo]) (STi.fr (pre := [(ga, .inl (cI, 8, .inl (fun zz => nI ((mny t ci) zz))))]) (y_block l D (nI b) (nI 6)  hPK)) hC hK hN hP hD hS rfl rfl q421 md_X7_block rfl hl.1 rfl (Nat.le_of_ble_eq_true rfl) dL_agrees_192 ⟨Nat.le_of_ble_eq_true rfl, Nat.le_of_ble_eq_true rfl⟩ ⟨Nat.le_of_ble_eq_true rfl, Nat.le_of_ble_eq_true rfl⟩ (fun r w9 H locs hq hP hD hS => ?_)
              obtain ⟨w_192, hq, hp⟩ := hq
              have hP : va_P D vwCl (gW cI cJ cB ga 8 (fun zz => nI ((mny t ci) zz)) w_192) H := va_P_perm hp hP
              have hD : va_D A (gW cI cJ cB ga 8 (fun zz => nI ((mny t ci) zz)) w_192) := va_D_perm hp hD
              obtain ⟨hPK, hr9⟩ := hq
              have hr9 : r = nI al := hr9.trans ((blx (b := b) (k := 6) hb7 hn7 (by decide)).trans (congrArg nI hal2))
              rw [hr9]
              refine lv_iconst (v := nI 1) hx hb dL_agrees_195 (by decide) ?_
              refine callQ_i (As := [.int (nI al), .int (nI 1)]) (rest := []) (STi.fr (pre := [(ga, .inl (cI, 8, .inl (fun zz => nI ((mny t ci) zz))))]) (y_block l D (nI al) (nI 1)  hPK)) hC hK hN hP hD hS rfl rfl q421 md_X7_block rfl hl.1 rfl (Nat.le_of_ble_eq_true rfl) dL_agrees_196 ⟨Nat.le_of_ble_eq_true rfl, Nat.le_of_ble_eq_true rfl⟩ ⟨Nat.le_of_ble_eq_true rfl, Nat.le_of_ble_eq_true rfl⟩ (fun r w9 H locs hq hP hD hS => ?_)
              obtain ⟨w_196, hq, hp⟩ := hq
              have hP : va_P D vwCl (gW cI cJ cB ga 8 (fun zz => nI ((mny t ci) zz)) w_196) H := va_P_perm hp hP
              have hD : va_D A (gW cI cJ cB ga 8 (fun zz => nI ((mny t ci) zz)) w_196) := va_D_perm hp hD
              obtain ⟨hPK, hr9⟩ := hq
              have hr9 : r = nI (cnt (tsh t b) 24) := hr9.trans ((blx (b := al) (k := 1) (by omega) hn7 (by decide)).trans (congrArg (fun q => nI (cnt q 24)) hal3))
              rw [hr9]
              refine lv_aload hx hb dL_agrees_199 (lv_at hl 5 rfl) ?_
              refine lv_iload hx hb dL_agrees_201 (lv_at hl 2 rfl) ?_
              refine n_iald hx hb hK hP 0 0 rfl rfl (by omega) (by first | decide | omega) dL_agrees_203 ?_
              refine n_icmp_ne (a := cnt (tsh t b) 24) (b := (mny t ci) b) (tgt := 230) hx hb dL_agrees_204 (by decide) (by omega) (by omega) (fun h9 => absurd h9 (by omega)) (fun _ => ?_)
              refine lv_aload_n hx hb dL_agrees_207 rfl (lv_at hl 9 rfl) ?_
              refine lv_aload_n hx hb dL_agrees_208 rfl (lv_at hl 9 rfl) ?_
              refine lv_iload hx hb dL_agrees_209 (lv_at hl 2 rfl) ?_
              refine lv_bipush (v := nI 6) hx hb dL_agrees_211 (by decide) ?_
              refine callQ_i (As := [.int (nI b), .int (nI 6)]) (rest := [.ref xo]) (STi.fr (pre := [(ga, .inl (cI, 8, .inl (fun zz => nI ((mny t ci) zz))))]) (y_block l D (nI b) (nI 6)  hPK)) hC hK hN hP hD hS rfl rfl q421 md_X7_block rfl hl.1 rfl (Nat.le_of_ble_eq_true rfl) dL_agrees_213 ⟨Nat.le_of_ble_eq_true rfl, Nat.le_of_ble_eq_true rfl⟩ ⟨Nat.le_of_ble_eq_true rfl, Nat.le_of_ble_eq_true rfl⟩ (fun r w9 H locs hq hP hD hS => ?_)
              obtain ⟨w_213, hq, hp⟩ := hq
              have hP : va_P D vwCl (gW cI cJ cB ga 8 (fun zz => nI ((mny t ci) zz)) w_213) H := va_P_perm hp hP
              have hD : va_D A (gW cI cJ cB ga 8 (fun zz => nI ((mny t ci) zz)) w_213) := va_D_perm hp hD
              obtain ⟨hPK, hr9⟩ := hq
              have hr9 : r = nI al := hr9.trans ((blx (b := b) (k := 6) hb7 hn7 (by decide)).trans (congrArg nI hal2))
              rw [hr9]
              refine lv_iconst (v := nI 2) hx hb dL_agrees_216 (by decide) ?_
              refine callQ_i (As := [.int (nI al), .int (nI 2)]) (rest := []) (STi.fr (pre := [(ga, .inl (cI, 8, .inl (fun zz => nI ((mny t ci) zz))))]) (y_block l D (nI al) (nI 2)  hPK)) hC hK hN hP hD hS rfl rfl q421 md_X7_block rfl hl.1 rfl (Nat.le_of_ble_eq_true rfl) dL_agrees_217 ⟨Nat.le_of_ble_eq_true rfl, Nat.le_of_ble_eq_true rfl⟩ ⟨Nat.le_of_ble_eq_true rfl, Nat.le_of_ble_eq_true rfl⟩ (fun r w9 H locs hq hP hD hS => ?_)
              obtain ⟨w_217, hq, hp⟩ := hq
              have hP : va_P D vwCl (gW cI cJ cB ga 8 (fun zz => nI ((mny t ci) zz)) w_217) H := va_P_perm hp hP
              have hD : va_D A (gW cI cJ cB ga 8 (fun zz => nI ((mny t ci) zz)) w_217) := va_D_perm hp hD
              obtain ⟨hPK, hr9⟩ := hq
              have hr9 : r = nI (tbw t b) := hr9.trans ((blx (b := al) (k := 2) (by omega) hn7 (by decide)).trans (congrArg nI hal4))
              rw [hr9]
              refine lv_aload_n hx hb dL_agrees_220 rfl (lv_at hl 9 rfl) ?_
              refine lv_iload hx hb dL_agrees_221 (lv_at hl 2 rfl) ?_
              refine lv_iconst (v := nI 2) hx hb dL_agrees_223 (by decide) ?_
              refine callQ_i (As := [.int (nI b), .int (nI 2)]) (rest := [.int (nI (tbw t b))]) (STi.fr (pre := [(ga, .inl (cI, 8, .inl (fun zz => nI ((mny t ci) zz))))]) (y_block l D (nI b) (nI 2)  hPK)) hC hK hN hP hD hS rfl rfl q421 md_X7_block rfl hl.1 rfl (Nat.le_of_ble_eq_true rfl) dL_agrees_224 ⟨Nat.le_of_ble_eq_true rfl, Nat.le_of_ble_eq_true rfl⟩ ⟨Nat.le_of_ble_eq_true rfl, Nat.le_of_ble_eq_true rfl⟩ (fun r w9 H locs hq hP hD hS => ?_)
              obtain ⟨w_224, hq, hp⟩ := hq
              have hP : va_P D vwCl (gW cI cJ cB ga 8 (fun zz => nI ((mny t ci) zz)) w_224) H := va_P_perm hp hP
              have hD : va_D A (gW cI cJ cB ga 8 (fun zz => nI ((mny t ci) zz)) w_224) := va_D_perm hp hD
              obtain ⟨hPK, hr9⟩ := hq
              have hr9 : r = nI (tbw t b) := hr9.trans (blx (b := b) (k := 2) hb7 hn7 (by decide))
              rw [hr9]
              refine n_icmp_eq (a := tbw t b) (b := tbw t b) (tgt := 232) hx hb dL_agrees_227 (by decide) (by omega) (by omega) (fun _ => ?_) (fun h9 => absurd h9 (by omega))
              refine lv_iconst (v := nI 0) hx hb dL_agrees_232 (by decide) ?_
              refine lv_istore (lv' := [(11, .int (nI 0)), (10, .int (nI 0)), (9, .int (nI (tps t b))), (8, .int (nI b)), (6, .long fpv), (4, .int (nI (fre t ci))), (5, .ref ga), (3, .int (nI ((twd t) * (thd t)))), (2, .int (nI (twd t))), (1, .int (nI (tnb t))), (0, .ref xo)]) hx hb dL_agrees_233 hl (by decide) rfl (fun ls hl => ?_)
              have L235 : ∀ (n : Nat) (dd : Nat) (ws1 : va_W), (dd ≤ 4) → (PK cI cJ cB xo ln tx t [] ws1) → (5 - dd) < n → ∀ (H : Heap) (locs : List Loc), va_P D vwCl (gW cI cJ cB ga 8 (fun zz => nI ((mny t ci) zz)) ws1) H → va_D A (gW cI cJ cB ga 8 (fun zz => nI ((mny t ci) zz)) ws1) → va_S A s.heap H locs → ∀ ls : Array Slot, lv_has ls 14 [(10, .int (nI (dset (mv4 t b) dd))), (11, .int (nI dd)), (9, .int (nI (tps t b))), (8, .int (nI b)), (6, .long fpv), (4, .int (nI (fre t ci))), (5, .ref ga), (3, .int (nI ((twd t) * (thd t)))), (2, .int (nI (twd t))), (1, .int (nI (tnb t))), (0, .ref xo)] → W p l e (rmC 8 1 8) s m args below meth c H locs 1 8 QQ (F0 m 235 ls []) := by
                intro n; induction n with
                | zero => intro dd ws1 hdd hPK hm; exact absurd hm (Nat.not_lt_zero _)
                | succ n ih235 =>
                  intro dd ws1 hdd hPK hm235 H locs hP hD hS ls hl
                  refine lv_iload hx hb dL_agrees_235 (lv_at hl 1 rfl) ?_
                  refine lv_iconst (v := nI 4) hx hb dL_agrees_237 (by decide) ?_
                  refine n_icmp_ge (a := dd) (b := 4) (tgt := 368) hx hb dL_agrees_238 (by decide) (by omega) (by omega) (fun c238 => ?_) (fun c238 => ?_)
                  · have _ : True := trivial
                    have hd4 : dd = 4 := by omega
                    refine lv_iconst (v := nI 0) hx hb dL_agrees_368 (by decide) ?_
                    refine lv_istore (lv' := [(11, .int (nI 0)), (10, .int (nI (dset (mv4 t b) dd))), (9, .int (nI (tps t b))), (8, .int (nI b)), (6, .long fpv), (4, .int (nI (fre t ci))), (5, .ref ga), (3, .int (nI ((twd t) * (thd t)))), (2, .int (nI (twd t))), (1, .int (nI (tnb t))), (0, .ref xo)]) hx hb dL_agrees_369 hl (by decide) rfl (fun ls hl => ?_)
                    refine lv_iconst (v := nI 0) hx hb dL_agrees_371 (by decide) ?_
                    refine lv_istore (lv' := [(12, .int (nI 0)), (11, .int (nI 0)), (10, .int (nI (dset (mv4 t b) dd))), (9, .int (nI (tps t b))), (8, .int (nI b)), (6, .long fpv), (4, .int (nI (fre t ci))), (5, .ref ga), (3, .int (nI ((twd t) * (thd t)))), (2, .int (nI (twd t))), (1, .int (nI (tnb t))), (0, .ref xo)]) hx hb dL_agrees_372 hl (by decide) rfl (fun ls hl => ?_)
                    have L374 : ∀ (n : Nat) (pp : Nat) (ws2 : va_W), (pp ≤ twd t * thd t) → (PK cI cJ cB xo ln tx t [] ws2) → (twd t * thd t + 1 - pp) < n → ∀ (H : Heap) (locs : List Loc), va_P D vwCl (gW cI cJ cB ga 8 (fun zz => nI ((mny t ci) zz)) ws2) H → va_D A (gW cI cJ cB ga 8 (fun zz => nI ((mny t ci) zz)) ws2) → va_S A s.heap H locs → ∀ ls : Array Slot, lv_has ls 14 [(11, .int (nI (cntF (flT t b) pp))), (12, .int (nI pp)), (10, .int (nI (dset (mv4 t b) dd))), (9, .int (nI (tps t b))), (8, .int (nI b)), (6, .long fpv), (4, .int (nI (fre t ci))), (5, .ref ga), (3, .int (nI ((twd t) * (thd t)))), (2, .int (nI (twd t))), (1, .int (nI (tnb t))), (0, .ref xo)] → W p l e (rmC 8 1 8) s m args below meth c H locs 1 8 QQ (F0 m 374 ls []) := by
                      intro n; induction n with
                      | zero => intro pp ws2 hpq hPK hm; exact absurd hm (Nat.not_lt_zero _)
                      | succ n ih374 =>
                        intro pp ws2 hpq hPK hm374 H locs hP hD hS ls hl
                        refine lv_iload hx hb dL_agrees_374 (lv_at hl 1 rfl) ?_
                        refine lv_iload_n hx hb dL_agrees_376 rfl (lv_at hl 8 rfl) ?_
                        refine n_icmp_ge (a := pp) (b := (twd t) * (thd t)) (tgt := 481) hx hb dL_agrees_377 (by decide) (by omega) (by omega) (fun c377 => ?_) (fun c377 => ?_)
                        · have _ : True := trivial
                          have hpe : pp = twd t * thd t := by omega
                          refine lv_aload_n hx hb dL_agrees_481 rfl (lv_at hl 11 rfl) ?_
                          refine lv_iload hx hb dL_agrees_482 (lv_at hl 4 rfl) ?_
                          refine lv_iconst (v := nI 4) hx hb dL_agrees_484 (by decide) ?_
                          have hdl := dset_lt (m := mv4 t b) 4
                          have hds : dset (mv4 t b) dd = dset (mv4 t b) 4 := by rw [hd4]
                          refine callQ_i (As := [.int (nI b), .int (nI 4)]) (rest := []) (STi.fr (pre := [(ga, .inl (cI, 8, .inl (fun zz => nI ((mny t ci) zz))))]) (y_block l D (nI b) (nI 4)  hPK)) hC hK hN hP hD hS rfl rfl q421 md_X7_block rfl hl.1 rfl (Nat.le_of_ble_eq_true rfl) dL_agrees_485 ⟨Nat.le_of_ble_eq_true rfl, Nat.le_of_ble_eq_true rfl⟩ ⟨Nat.le_of_ble_eq_true rfl, Nat.le_of_ble_eq_true rfl⟩ (fun r w9 H locs hq hP hD hS => ?_)
                          obtain ⟨w_485, hq, hp⟩ := hq
                          have hP : va_P D vwCl (gW cI cJ cB ga 8 (fun zz => nI ((mny t ci) zz)) w_485) H := va_P_perm hp hP
                          have hD : va_D A (gW cI cJ cB ga 8 (fun zz => nI ((mny t ci) zz)) w_485) := va_D_perm hp hD
                          obtain ⟨hPK, hr9⟩ := hq
                          have hr9 : r = nI (dset (mv4 t b) 4) := hr9.trans (blx (b := b) (k := 4) hb7 hn7 (by decide))
                          rw [hr9]
                          refine lv_iload hx hb dL_agrees_488 (lv_at hl 2 rfl) ?_
                          refine n_icmp_ne (a := dset (mv4 t b) 4) (b := dset (mv4 t b) dd) (tgt := 528) hx hb dL_agrees_490 (by decide) (by omega) (by omega) (fun h9 => absurd h9 (by omega)) (fun _ => ?_)
                          refine lv_aload_n hx hb dL_agrees_493 rfl (lv_at hl 11 rfl) ?_
                          refine lv_iload hx hb dL_agrees_494 (lv_at hl 4 rfl) ?_
                          refine lv_iconst (v := nI 5) hx hb dL_agrees_496 (by decide) ?_
                          have hcw : cntF (flT t b) 24 = cntF (flT t b) pp := by rw [hpe]; exact cntF_w hT hb7
                          have hcl := cntF_le (F := flT t b) 24
                          refine callQ_i (As := [.int (nI b), .int (nI 5)]) (rest := []) (STi.fr (pre := [(ga, .inl (cI, 8, .inl (fun zz => nI ((mny t ci) zz))))]) (y_block l D (nI b) (nI 5)  hPK)) hC hK hN hP hD hS rfl rfl q421 md_X7_block rfl hl.1 rfl (Nat.le_of_ble_eq_true rfl) dL_agrees_497 ⟨Nat.le_of_ble_eq_true rfl, Nat.le_of_ble_eq_true rfl⟩ ⟨Nat.le_of_ble_eq_true rfl, Nat.le_of_ble_eq_true rfl⟩ (fun r w9 H locs hq hP hD hS => ?_)
                          obtain ⟨w_497, hq, hp⟩ := hq
                          have hP : va_P D vwCl (gW cI cJ cB ga 8 (fun zz => nI ((mny t ci) zz)) w_497) H := va_P_perm hp hP
                          have hD : va_D A (gW cI cJ cB ga 8 (fun zz => nI ((mny t ci) zz)) w_497) := va_D_perm hp hD
                          obtain ⟨hPK, hr9⟩ := hq
                          have hr9 : r = nI (cntF (flT t b) 24) := hr9.trans (blx (b := b) (k := 5) hb7 hn7 (by decide))
                          rw [hr9]
                          refine lv_iload hx hb dL_agrees_500 (lv_at hl 0 rfl) ?_
                          refine n_icmp_ne (a := cntF (flT t b) 24) (b := cntF (flT t b) pp) (tgt := 528) hx hb dL_agrees_502 (by decide) (by omega) (by omega) (fun h9 => absurd h9 (by omega)) (fun _ => ?_)
                          have hzi : dset (mv4 t b) 4 = 0 ↔ cntF (flT t b) pp = 0 := by rw [hpe]; exact zero_iff hT hb7
                          refine lv_iload hx hb dL_agrees_505 (lv_at hl 2 rfl) ?_
                          refine n_if_ne (tgt := 514) hx hb dL_agrees_507 (by decide) (by omega) (fun c507 => ?_) (fun c507 => ?_)
                          · have _ : True := trivial
                            have hz5 : cntF (flT t b) pp ≠ 0 := by omega
                            refine lv_iconst (v := nI 0) hx hb dL_agrees_514 (by decide) ?_
                            refine lv_iload hx hb dL_agrees_515 (lv_at hl 0 rfl) ?_
                            refine n_if_ne (tgt := 524) hx hb dL_agrees_517 (by decide) (by omega) (fun _ => ?_) (fun h9 => absurd h9 (by omega))
                            refine lv_iconst (v := nI 0) hx hb dL_agrees_524 (by decide) ?_
                            refine n_icmp_eq (a := 0) (b := 0) (tgt := 530) hx hb dL_agrees_525 (by decide) (by decide) (by decide) (fun _ => ?_) (fun h => absurd h (by decide))
                            refine lv_iinc (v := nI (b + 1)) (lv' := [(8, .int (nI (b + 1))), (11, .int (nI (cntF (flT t b) pp))), (12, .int (nI pp)), (10, .int (nI (dset (mv4 t b) dd))), (9, .int (nI (tps t b))), (6, .long fpv), (4, .int (nI (fre t ci))), (5, .ref ga), (3, .int (nI ((twd t) * (thd t)))), (2, .int (nI (twd t))), (1, .int (nI (tnb t))), (0, .ref xo)]) hx hb dL_agrees_530 hl (k := 4) rfl (nI_1 _) (by decide) rfl (fun ls hl => ?_)
                            refine lv_goto (tgt := 124) hx hb dL_agrees_533 (by decide) ?_
                            exact ih124 (b + 1) w_497 (by omega) hPK (by omega) _ _ hP hD hS _ (lv_sub hl [0, 5, 6, 7, 8, 9, 10, 11] rfl)
                          · have _ : True := trivial
                            have hz5 : cntF (flT t b) pp = 0 := by omega
                            refine lv_iconst (v := nI 1) hx hb dL_agrees_510 (by decide) ?_
                            refine lv_goto (tgt := 515) hx hb dL_agrees_511 (by decide) ?_
                            refine lv_iload hx hb dL_agrees_515 (lv_at hl 0 rfl) ?_
                            refine n_if_ne (tgt := 524) hx hb dL_agrees_517 (by decide) (by omega) (fun h9 => absurd h9 (by omega)) (fun _ => ?_)
                            refine lv_iconst (v := nI 1) hx hb dL_agrees_520 (by decide) ?_
                            refine lv_goto (tgt := 525) hx hb dL_agrees_521 (by decide) ?_
                            refine n_icmp_eq (a := 1) (b := 1) (tgt := 530) hx hb dL_agrees_525 (by decide) (by decide) (by decide) (fun _ => ?_) (fun h => absurd h (by decide))
                            refine lv_iinc (v := nI (b + 1)) (lv' := [(8, .int (nI (b + 1))), (11, .int (nI (cntF (flT t b) pp))), (12, .int (nI pp)), (10, .int (nI (dset (mv4 t b) dd))), (9, .int (nI (tps t b))), (6, .long fpv), (4, .int (nI (fre t ci))), (5, .ref ga), (3, .int (nI ((twd t) * (thd t)))), (2, .int (nI (twd t))), (1, .int (nI (tnb t))), (0, .ref xo)]) hx hb dL_agrees_530 hl (k := 4) rfl (nI_1 _) (by decide) rfl (fun ls hl => ?_)
                            refine lv_goto (tgt := 124) hx hb dL_agrees_533 (by decide) ?_
                            exact ih124 (b + 1) w_497 (by omega) hPK (by omega) _ _ hP hD hS _ (lv_sub hl [0, 5, 6, 7, 8, 9, 10, 11] rfl)
                        · have _ : True := trivial
                          have hpp : pp < twd t * thd t := by omega
                          have hcl2 := cntF_le (F := flT t b) pp
                          rcases slc t b pp with hm | ⟨e, hm⟩
                          · have _ : True := trivial
                            have hcl2 := cntF_le (F := flT t b) pp
                            refine lv_aload_n hx hb dL_agrees_380 rfl (lv_at hl 11 rfl) ?_
                            refine lv_iload hx hb dL_agrees_381 (lv_at hl 4 rfl) ?_
                            refine lv_iload hx hb dL_agrees_383 (lv_at hl 1 rfl) ?_
                            refine callQ_i (As := [.int (nI b), .int (nI pp)]) (rest := []) (STi.fr (pre := [(ga, .inl (cI, 8, .inl (fun zz => nI ((mny t ci) zz))))]) (y_slide_no l D (nI b) (nI pp) (slm_0 hb7 hn7 hpp hc24 hm) hPK)) hC hK hN hP hD hS rfl rfl q616 md_X7_slide rfl hl.1 rfl (Nat.le_of_ble_eq_true rfl) dL_agrees_385 ⟨Nat.le_of_ble_eq_true rfl, Nat.le_of_ble_eq_true rfl⟩ ⟨Nat.le_of_ble_eq_true rfl, Nat.le_of_ble_eq_true rfl⟩ (fun r w9 H locs hq hP hD hS => ?_)
                            obtain ⟨w_385, hq, hp⟩ := hq
                            have hP : va_P D vwCl (gW cI cJ cB ga 8 (fun zz => nI ((mny t ci) zz)) w_385) H := va_P_perm hp hP
                            have hD : va_D A (gW cI cJ cB ga 8 (fun zz => nI ((mny t ci) zz)) w_385) := va_D_perm hp hD
                            obtain ⟨hPK, hr9⟩ := hq
                            have hr9 : r = (-2) := hr9.trans (slr_0 hb7 hn7 hpp hc24 hm)
                            rw [hr9]
                            refine lv_istore (lv' := [(13, .int (-2)), (11, .int (nI (cntF (flT t b) pp))), (12, .int (nI pp)), (10, .int (nI (dset (mv4 t b) dd))), (9, .int (nI (tps t b))), (8, .int (nI b)), (6, .long fpv), (4, .int (nI (fre t ci))), (5, .ref ga), (3, .int (nI ((twd t) * (thd t)))), (2, .int (nI (twd t))), (1, .int (nI (tnb t))), (0, .ref xo)]) hx hb dL_agrees_388 hl (by decide) rfl (fun ls hl => ?_)
                            refine lv_iload hx hb dL_agrees_390 (lv_at hl 1 rfl) ?_
                            refine lv_iload hx hb dL_agrees_392 (lv_at hl 0 rfl) ?_
                            refine lv_if_le (tgt := 401) hx hb dL_agrees_394 (by decide) (fun _ => ?_) (fun h => absurd (by decide) h)
                            refine lv_iconst (v := nI 0) hx hb dL_agrees_401 (by decide) ?_
                            refine n_iadd hx hb dL_agrees_402  ?_
                            refine topi (y := nI (cntF (flT t b) (pp + 1))) (cntF_s0 hm) ?_
                            refine lv_istore (lv' := [(11, .int (nI (cntF (flT t b) (pp + 1)))), (13, .int (-2)), (12, .int (nI pp)), (10, .int (nI (dset (mv4 t b) dd))), (9, .int (nI (tps t b))), (8, .int (nI b)), (6, .long fpv), (4, .int (nI (fre t ci))), (5, .ref ga), (3, .int (nI ((twd t) * (thd t)))), (2, .int (nI (twd t))), (1, .int (nI (tnb t))), (0, .ref xo)]) hx hb dL_agrees_403 hl (by decide) rfl (fun ls hl => ?_)
                            refine lv_iload hx hb dL_agrees_405 (lv_at hl 1 rfl) ?_
                            refine lv_if_le (tgt := 449) hx hb dL_agrees_407 (by decide) (fun _ => ?_) (fun h => absurd (by decide) h)
                            refine lv_iload hx hb dL_agrees_449 (lv_at hl 1 rfl) ?_
                            refine lv_if_gt (tgt := 461) hx hb dL_agrees_451 (by decide) (fun h => absurd h (by decide)) (fun _ => ?_)
                            refine lv_iload hx hb dL_agrees_454 (lv_at hl 1 rfl) ?_
                            refine lv_bipush (v := (-2)) hx hb dL_agrees_456 (by decide) ?_
                            refine lv_icmp_ne (tgt := 473) hx hb dL_agrees_458 (by decide) (fun h => absurd rfl h) (fun _ => ?_)
                            refine lv_aload_n hx hb dL_agrees_461 rfl (lv_at hl 12 rfl) ?_
                            refine lv_iload hx hb dL_agrees_462 (lv_at hl 5 rfl) ?_
                            refine lv_iconst (v := nI 0) hx hb dL_agrees_464 (by decide) ?_
                            refine callQ_i (As := [.int (nI b), .int (nI 0)]) (rest := []) (STi.fr (pre := [(ga, .inl (cI, 8, .inl (fun zz => nI ((mny t ci) zz))))]) (y_block l D (nI b) (nI 0)  hPK)) hC hK hN hP hD hS rfl rfl q421 md_X7_block rfl hl.1 rfl (Nat.le_of_ble_eq_true rfl) dL_agrees_465 ⟨Nat.le_of_ble_eq_true rfl, Nat.le_of_ble_eq_true rfl⟩ ⟨Nat.le_of_ble_eq_true rfl, Nat.le_of_ble_eq_true rfl⟩ (fun r w9 H locs hq hP hD hS => ?_)
                            obtain ⟨w_465, hq, hp⟩ := hq
                            have hP : va_P D vwCl (gW cI cJ cB ga 8 (fun zz => nI ((mny t ci) zz)) w_465) H := va_P_perm hp hP
                            have hD : va_D A (gW cI cJ cB ga 8 (fun zz => nI ((mny t ci) zz)) w_465) := va_D_perm hp hD
                            obtain ⟨hPK, hr9⟩ := hq
                            have hr9 : r = nI (tps t b) := hr9.trans (blx (b := b) (k := 0) hb7 hn7 (by decide))
                            rw [hr9]
                            refine lv_iload hx hb dL_agrees_468 (lv_at hl 4 rfl) ?_
                            refine n_icmp_eq (a := tps t b) (b := tps t b) (tgt := 475) hx hb dL_agrees_470 (by decide) (by omega) (by omega) (fun _ => ?_) (fun h9 => absurd h9 (by omega))
                            refine lv_iinc (v := nI (pp + 1)) (lv' := [(12, .int (nI (pp + 1))), (11, .int (nI (cntF (flT t b) (pp + 1)))), (13, .int (-2)), (10, .int (nI (dset (mv4 t b) dd))), (9, .int (nI (tps t b))), (8, .int (nI b)), (6, .long fpv), (4, .int (nI (fre t ci))), (5, .ref ga), (3, .int (nI ((twd t) * (thd t)))), (2, .int (nI (twd t))), (1, .int (nI (tnb t))), (0, .ref xo)]) hx hb dL_agrees_475 hl (k := 2) rfl (nI_1 _) (by decide) rfl (fun ls hl => ?_)
                            refine lv_goto (tgt := 374) hx hb dL_agrees_478 (by decide) ?_
                            exact ih374 (pp + 1) w_465 (by omega) hPK (by omega) _ _ hP hD hS _ (lv_sub hl [1, 0, 3, 4, 5, 6, 7, 8, 9, 10, 11, 12] rfl)
                          · have _ : True := trivial
                            have he24 : e + 1 < 24 := (flo_in hT hb7 hm).2
                            have hcl2 := cntF_le (F := flT t b) pp
                            refine lv_aload_n hx hb dL_agrees_380 rfl (lv_at hl 11 rfl) ?_
                            refine lv_iload hx hb dL_agrees_381 (lv_at hl 4 rfl) ?_
                            refine lv_iload hx hb dL_agrees_383 (lv_at hl 1 rfl) ?_
                            refine callQ_i (As := [.int (nI b), .int (nI pp)]) (rest := []) (STi.fr (pre := [(ga, .inl (cI, 8, .inl (fun zz => nI ((mny t ci) zz))))]) (y_slide_go l D (nI b) (nI pp) (Nat.zero_le _) (slm_1 hb7 hn7 hpp hc24 hm) hPK)) hC hK hN hP hD hS rfl rfl q616 md_X7_slide rfl hl.1 rfl (Nat.le_of_ble_eq_true rfl) dL_agrees_385 ⟨Nat.le_of_ble_eq_true rfl, Nat.le_of_ble_eq_true rfl⟩ ⟨Nat.le_of_ble_eq_true rfl, Nat.le_of_ble_eq_true rfl⟩ (fun r w9 H locs hq hP hD hS => ?_)
                            obtain ⟨w_385, hq, hp⟩ := hq
                            have hP : va_P D vwCl (gW cI cJ cB ga 8 (fun zz => nI ((mny t ci) zz)) w_385) H := va_P_perm hp hP
                            have hD : va_D A (gW cI cJ cB ga 8 (fun zz => nI ((mny t ci) zz)) w_385) := va_D_perm hp hD
                            obtain ⟨hPK, hr9⟩ := hq
                            have hr9 : r = nI (e + 1) := hr9.trans (slr_1 hb7 hn7 hpp hc24 hm)
                            rw [hr9]
                            refine lv_istore (lv' := [(13, .int (nI (e + 1))), (11, .int (nI (cntF (flT t b) pp))), (12, .int (nI pp)), (10, .int (nI (dset (mv4 t b) dd))), (9, .int (nI (tps t b))), (8, .int (nI b)), (6, .long fpv), (4, .int (nI (fre t ci))), (5, .ref ga), (3, .int (nI ((twd t) * (thd t)))), (2, .int (nI (twd t))), (1, .int (nI (tnb t))), (0, .ref xo)]) hx hb dL_agrees_388 hl (by decide) rfl (fun ls hl => ?_)
                            refine lv_iload hx hb dL_agrees_390 (lv_at hl 1 rfl) ?_
                            refine lv_iload hx hb dL_agrees_392 (lv_at hl 0 rfl) ?_
                            refine n_if_le (tgt := 401) hx hb dL_agrees_394 (by decide) (by omega) (fun h9 => absurd h9 (by omega)) (fun _ => ?_)
                            refine lv_iconst (v := nI 1) hx hb dL_agrees_397 (by decide) ?_
                            refine lv_goto (tgt := 402) hx hb dL_agrees_398 (by decide) ?_
                            refine n_iadd hx hb dL_agrees_402  ?_
                            refine topi (y := nI (cntF (flT t b) (pp + 1))) (cntF_s1 (by rw [hm]; rfl)) ?_
                            refine lv_istore (lv' := [(11, .int (nI (cntF (flT t b) (pp + 1)))), (13, .int (nI (e + 1))), (12, .int (nI pp)), (10, .int (nI (dset (mv4 t b) dd))), (9, .int (nI (tps t b))), (8, .int (nI b)), (6, .long fpv), (4, .int (nI (fre t ci))), (5, .ref ga), (3, .int (nI ((twd t) * (thd t)))), (2, .int (nI (twd t))), (1, .int (nI (tnb t))), (0, .ref xo)]) hx hb dL_agrees_403 hl (by decide) rfl (fun ls hl => ?_)
                            refine lv_iload hx hb dL_agrees_405 (lv_at hl 1 rfl) ?_
                            refine n_if_le (tgt := 449) hx hb dL_agrees_407 (by decide) (by omega) (fun h9 => absurd h9 (by omega)) (fun _ => ?_)
                            refine lv_aload_n hx hb dL_agrees_410 rfl (lv_at hl 12 rfl) ?_
                            refine lv_iload hx hb dL_agrees_411 (lv_at hl 5 rfl) ?_
                            refine lv_iconst (v := nI 0) hx hb dL_agrees_413 (by decide) ?_
                            refine callQ_i (As := [.int (nI b), .int (nI 0)]) (rest := []) (STi.fr (pre := [(ga, .inl (cI, 8, .inl (fun zz => nI ((mny t ci) zz))))]) (y_block l D (nI b) (nI 0)  hPK)) hC hK hN hP hD hS rfl rfl q421 md_X7_block rfl hl.1 rfl (Nat.le_of_ble_eq_true rfl) dL_agrees_414 ⟨Nat.le_of_ble_eq_true rfl, Nat.le_of_ble_eq_true rfl⟩ ⟨Nat.le_of_ble_eq_true rfl, Nat.le_of_ble_eq_true rfl⟩ (fun r w9 H locs hq hP hD hS => ?_)
                            obtain ⟨w_414, hq, hp⟩ := hq
                            have hP : va_P D vwCl (gW cI cJ cB ga 8 (fun zz => nI ((mny t ci) zz)) w_414) H := va_P_perm hp hP
                            have hD : va_D A (gW cI cJ cB ga 8 (fun zz => nI ((mny t ci) zz)) w_414) := va_D_perm hp hD
                            obtain ⟨hPK, hr9⟩ := hq
                            have hr9 : r = nI pp := hr9.trans ((blx (b := b) (k := 0) hb7 hn7 (by decide)).trans (congrArg nI (up_eq _ _ _)))
                            rw [hr9]
                            refine lv_iload hx hb dL_agrees_417 (lv_at hl 2 rfl) ?_
                            refine n_icmp_ne (a := pp) (b := pp) (tgt := 473) hx hb dL_agrees_419 (by decide) (by omega) (by omega) (fun h9 => absurd h9 (by omega)) (fun _ => ?_)
                            refine lv_aload_n hx hb dL_agrees_422 rfl (lv_at hl 12 rfl) ?_
                            refine lv_iload hx hb dL_agrees_423 (lv_at hl 5 rfl) ?_
                            refine lv_iload hx hb dL_agrees_425 (lv_at hl 4 rfl) ?_
                            refine callQ_i (As := [.int (nI b), .int (nI (tps t b))]) (rest := []) (STi.fr (pre := [(ga, .inl (cI, 8, .inl (fun zz => nI ((mny t ci) zz))))]) (y_slide_go l D (nI b) (nI (tps t b)) (by show (1 : Nat) ≤ 9; decide) (slm_1 (t := (mvT t b pp (e + 1) true)) hb7 hn7 (TV_p hT hb7).1 hc24 (sl_back hT hb7 hm)) hPK)) hC hK hN hP hD hS rfl rfl q616 md_X7_slide rfl hl.1 rfl (Nat.le_of_ble_eq_true rfl) dL_agrees_427 ⟨Nat.le_of_ble_eq_true rfl, Nat.le_of_ble_eq_true rfl⟩ ⟨Nat.le_of_ble_eq_true rfl, Nat.le_of_ble_eq_true rfl⟩ (fun r w9 H locs hq hP hD hS => ?_)
                            obtain ⟨w_427, hq, hp⟩ := hq
                            have hP : va_P D vwCl (gW cI cJ cB ga 8 (fun zz => nI ((mny t ci) zz)) w_427) H := va_P_perm hp hP
                            have hD : va_D A (gW cI cJ cB ga 8 (fun zz => nI ((mny t ci) zz)) w_427) := va_D_perm hp hD
                            obtain ⟨hPK, hr9⟩ := hq
                            have hr9 : r = nI (e + 1) := hr9.trans (slr_1 (t := (mvT t b pp (e + 1) true)) hb7 hn7 (TV_p hT hb7).1 hc24 (sl_back hT hb7 hm))
                            rw [hr9]
                            refine lv_iload hx hb dL_agrees_430 (lv_at hl 1 rfl) ?_
                            refine n_icmp_ne (a := e + 1) (b := e + 1) (tgt := 473) hx hb dL_agrees_432 (by decide) (by omega) (by omega) (fun h9 => absurd h9 (by omega)) (fun _ => ?_)
                            refine lv_aload_n hx hb dL_agrees_435 rfl (lv_at hl 12 rfl) ?_
                            refine callQ_i (As := []) (rest := []) (STi.fr (pre := [(ga, .inl (cI, 8, .inl (fun zz => nI ((mny t ci) zz))))]) (y_undo l D   hPK)) hC hK hN hP hD hS rfl rfl q528 md_X7_undo rfl hl.1 rfl (Nat.le_of_ble_eq_true rfl) dL_agrees_436 ⟨Nat.le_of_ble_eq_true rfl, Nat.le_of_ble_eq_true rfl⟩ ⟨Nat.le_of_ble_eq_true rfl, Nat.le_of_ble_eq_true rfl⟩ (fun r w9 H locs hq hP hD hS => ?_)
                            obtain ⟨w_436, hq, hp⟩ := hq
                            have hP : va_P D vwCl (gW cI cJ cB ga 8 (fun zz => nI ((mny t ci) zz)) w_436) H := va_P_perm hp hP
                            have hD : va_D A (gW cI cJ cB ga 8 (fun zz => nI ((mny t ci) zz)) w_436) := va_D_perm hp hD
                            obtain ⟨hPK, j9, hj9, hr9⟩ := hq
                            have hr9 : r = nI j9 := hr9
                            rw [hr9]
                            refine n_if_lt (tgt := 473) hx hb dL_agrees_439 (by decide) (by omega) ?_
                            refine lv_aload_n hx hb dL_agrees_442 rfl (lv_at hl 12 rfl) ?_
                            refine callQ_i (As := []) (rest := []) (STi.fr (pre := [(ga, .inl (cI, 8, .inl (fun zz => nI ((mny t ci) zz))))]) (y_undo l D   hPK)) hC hK hN hP hD hS rfl rfl q528 md_X7_undo rfl hl.1 rfl (Nat.le_of_ble_eq_true rfl) dL_agrees_443 ⟨Nat.le_of_ble_eq_true rfl, Nat.le_of_ble_eq_true rfl⟩ ⟨Nat.le_of_ble_eq_true rfl, Nat.le_of_ble_eq_true rfl⟩ (fun r w9 H locs hq hP hD hS => ?_)
                            obtain ⟨w_443, hq, hp⟩ := hq
                            have hP : va_P D vwCl (gW cI cJ cB ga 8 (fun zz => nI ((mny t ci) zz)) w_443) H := va_P_perm hp hP
                            have hD : va_D A (gW cI cJ cB ga 8 (fun zz => nI ((mny t ci) zz)) w_443) := va_D_perm hp hD
                            obtain ⟨hPK, j9, hj9, hr9⟩ := hq
                            have hr9 : r = nI j9 := hr9
                            rw [hr9]
                            refine n_if_lt (tgt := 473) hx hb dL_agrees_446 (by decide) (by omega) ?_
                            refine lv_iload hx hb dL_agrees_449 (lv_at hl 1 rfl) ?_
                            refine n_if_gt (tgt := 461) hx hb dL_agrees_451 (by decide) (by omega) (fun _ => ?_) (fun h9 => absurd h9 (by omega))
                            refine lv_aload_n hx hb dL_agrees_461 rfl (lv_at hl 12 rfl) ?_
                            refine lv_iload hx hb dL_agrees_462 (lv_at hl 5 rfl) ?_
                            refine lv_iconst (v := nI 0) hx hb dL_agrees_464 (by decide) ?_
                            refine callQ_i (As := [.int (nI b), .int (nI 0)]) (rest := []) (STi.fr (pre := [(ga, .inl (cI, 8, .inl (fun zz => nI ((mny t ci) zz))))]) (y_block l D (nI b) (nI 0)  hPK)) hC hK hN hP hD hS rfl rfl q421 md_X7_block rfl hl.1 rfl (Nat.le_of_ble_eq_true rfl) dL_agrees_465 ⟨Nat.le_of_ble_eq_true rfl, Nat.le_of_ble_eq_true rfl⟩ ⟨Nat.le_of_ble_eq_true rfl, Nat.le_of_ble_eq_true rfl⟩ (fun r w9 H locs hq hP hD hS => ?_)
                            obtain ⟨w_465, hq, hp⟩ := hq
                            have hP : va_P D vwCl (gW cI cJ cB ga 8 (fun zz => nI ((mny t ci) zz)) w_465) H := va_P_perm hp hP
                            have hD : va_D A (gW cI cJ cB ga 8 (fun zz => nI ((mny t ci) zz)) w_465) := va_D_perm hp hD
                            obtain ⟨hPK, hr9⟩ := hq
                            have hr9 : r = nI (tps t b) := hr9.trans (blx (b := b) (k := 0) hb7 hn7 (by decide))
                            rw [hr9]
                            refine lv_iload hx hb dL_agrees_468 (lv_at hl 4 rfl) ?_
                            refine n_icmp_eq (a := tps t b) (b := tps t b) (tgt := 475) hx hb dL_agrees_470 (by decide) (by omega) (by omega) (fun _ => ?_) (fun h9 => absurd h9 (by omega))
                            refine lv_iinc (v := nI (pp + 1)) (lv' := [(12, .int (nI (pp + 1))), (11, .int (nI (cntF (flT t b) (pp + 1)))), (13, .int (nI (e + 1))), (10, .int (nI (dset (mv4 t b) dd))), (9, .int (nI (tps t b))), (8, .int (nI b)), (6, .long fpv), (4, .int (nI (fre t ci))), (5, .ref ga), (3, .int (nI ((twd t) * (thd t)))), (2, .int (nI (twd t))), (1, .int (nI (tnb t))), (0, .ref xo)]) hx hb dL_agrees_475 hl (k := 2) rfl (nI_1 _) (by decide) rfl (fun ls hl => ?_)
                            refine lv_goto (tgt := 374) hx hb dL_agrees_478 (by decide) ?_
                            exact ih374 (pp + 1) w_465 (by omega) hPK (by omega) _ _ hP hD hS _ (lv_sub hl [1, 0, 3, 4, 5, 6, 7, 8, 9, 10, 11, 12] rfl)
                    exact L374 _ 0 ws1 (by omega) hPK (Nat.lt_succ_self _) _ _ hP hD hS _ (lv_sub hl [1, 0, 2, 3, 4, 5, 6, 7, 8, 9, 10, 11] rfl)
                  · have _ : True := trivial
                    rcases (show dd = 0 ∨ dd = 1 ∨ dd = 2 ∨ dd = 3 by omega) with rfl | rfl | rfl | rfl
                    · have _ : True := trivial
                      refine lv_iload hx hb dL_agrees_241 (lv_at hl 2 rfl) ?_
                      refine lv_iload hx hb dL_agrees_243 (lv_at hl 1 rfl) ?_
                      refine n_if_ne (a := 0) (tgt := 253) hx hb dL_agrees_245 (by decide) (by decide) (fun h => absurd h (by decide)) (fun _ => ?_)
                      refine lv_iload_n hx hb dL_agrees_248 rfl (lv_at hl 8 rfl) ?_
                      refine lv_ineg hx hb dL_agrees_249 ?_
                      refine lv_goto (tgt := 274) hx hb dL_agrees_250 (by decide) ?_
                      refine lv_iadd hx hb dL_agrees_274 ?_
                      refine topi (y := nI (tps t b) + offs (twd t) 0) rfl ?_
                      refine lv_istore (lv' := [(12, .int (nI (tps t b) + offs (twd t) 0)), (10, .int (nI (dset (mv4 t b) 0))), (11, .int (nI 0)), (9, .int (nI (tps t b))), (8, .int (nI b)), (6, .long fpv), (4, .int (nI (fre t ci))), (5, .ref ga), (3, .int (nI ((twd t) * (thd t)))), (2, .int (nI (twd t))), (1, .int (nI (tnb t))), (0, .ref xo)]) hx hb dL_agrees_275 hl (by decide) rfl (fun ls hl => ?_)
                      rcases hm : mv4 t b 0 with _ | q
                      · have _ : True := trivial
                        refine lv_aload_n hx hb dL_agrees_277 rfl (lv_at hl 11 rfl) ?_
                        refine lv_iload hx hb dL_agrees_278 (lv_at hl 4 rfl) ?_
                        refine lv_iload hx hb dL_agrees_280 (lv_at hl 2 rfl) ?_
                        refine callQ_i (As := [.int (nI b), .int (nI 0)]) (rest := []) (STi.fr (pre := [(ga, .inl (cI, 8, .inl (fun zz => nI ((mny t ci) zz))))]) (y_step_no l D (nI b) (nI 0) (stm_0 hb7 hn7 (by decide) hm) hPK)) hC hK hN hP hD hS rfl rfl q459 md_X7_step rfl hl.1 rfl (Nat.le_of_ble_eq_true rfl) dL_agrees_282 ⟨Nat.le_of_ble_eq_true rfl, Nat.le_of_ble_eq_true rfl⟩ ⟨Nat.le_of_ble_eq_true rfl, Nat.le_of_ble_eq_true rfl⟩ (fun r w9 H locs hq hP hD hS => ?_)
                        obtain ⟨w_282, hq, hp⟩ := hq
                        have hP : va_P D vwCl (gW cI cJ cB ga 8 (fun zz => nI ((mny t ci) zz)) w_282) H := va_P_perm hp hP
                        have hD : va_D A (gW cI cJ cB ga 8 (fun zz => nI ((mny t ci) zz)) w_282) := va_D_perm hp hD
                        obtain ⟨hPK, hr9⟩ := hq
                        have hr9 : r = (-2) := hr9.trans (str_0 hb7 hn7 (by decide) hm)
                        rw [hr9]
                        refine lv_istore (lv' := [(13, .int (-2)), (12, .int (nI (tps t b) + offs (twd t) 0)), (10, .int (nI (dset (mv4 t b) 0))), (11, .int (nI 0)), (9, .int (nI (tps t b))), (8, .int (nI b)), (6, .long fpv), (4, .int (nI (fre t ci))), (5, .ref ga), (3, .int (nI ((twd t) * (thd t)))), (2, .int (nI (twd t))), (1, .int (nI (tnb t))), (0, .ref xo)]) hx hb dL_agrees_285 hl (by decide) rfl (fun ls hl => ?_)
                        refine lv_iload hx hb dL_agrees_287 (lv_at hl 2 rfl) ?_
                        refine lv_iload hx hb dL_agrees_289 (lv_at hl 0 rfl) ?_
                        refine lv_if_lt (tgt := 301) hx hb dL_agrees_291 (by decide) (fun _ => ?_) (fun h => absurd (by decide) h)
                        refine lv_iconst (v := nI 0) hx hb dL_agrees_301 (by decide) ?_
                        refine n_ior hx hb dL_agrees_302  ?_
                        refine topi (y := nI (dset (mv4 t b) (0 + 1))) (dset_s0 hm) ?_
                        refine lv_istore (lv' := [(10, .int (nI (dset (mv4 t b) (0 + 1)))), (13, .int (-2)), (12, .int (nI (tps t b) + offs (twd t) 0)), (11, .int (nI 0)), (9, .int (nI (tps t b))), (8, .int (nI b)), (6, .long fpv), (4, .int (nI (fre t ci))), (5, .ref ga), (3, .int (nI ((twd t) * (thd t)))), (2, .int (nI (twd t))), (1, .int (nI (tnb t))), (0, .ref xo)]) hx hb dL_agrees_303 hl (by decide) rfl (fun ls hl => ?_)
                        refine lv_iload hx hb dL_agrees_305 (lv_at hl 1 rfl) ?_
                        refine lv_if_lt (tgt := 336) hx hb dL_agrees_307 (by decide) (fun _ => ?_) (fun h => absurd (by decide) h)
                        refine lv_iload hx hb dL_agrees_336 (lv_at hl 1 rfl) ?_
                        refine lv_if_ge (tgt := 348) hx hb dL_agrees_338 (by decide) (fun h => absurd h (by decide)) (fun _ => ?_)
                        refine lv_iload hx hb dL_agrees_341 (lv_at hl 1 rfl) ?_
                        refine lv_bipush (v := (-2)) hx hb dL_agrees_343 (by decide) ?_
                        refine lv_icmp_ne (tgt := 360) hx hb dL_agrees_345 (by decide) (fun h => absurd rfl h) (fun _ => ?_)
                        refine lv_aload_n hx hb dL_agrees_348 rfl (lv_at hl 12 rfl) ?_
                        refine lv_iload hx hb dL_agrees_349 (lv_at hl 5 rfl) ?_
                        refine lv_iconst (v := nI 0) hx hb dL_agrees_351 (by decide) ?_
                        refine callQ_i (As := [.int (nI b), .int (nI 0)]) (rest := []) (STi.fr (pre := [(ga, .inl (cI, 8, .inl (fun zz => nI ((mny t ci) zz))))]) (y_block l D (nI b) (nI 0)  hPK)) hC hK hN hP hD hS rfl rfl q421 md_X7_block rfl hl.1 rfl (Nat.le_of_ble_eq_true rfl) dL_agrees_352 ⟨Nat.le_of_ble_eq_true rfl, Nat.le_of_ble_eq_true rfl⟩ ⟨Nat.le_of_ble_eq_true rfl, Nat.le_of_ble_eq_true rfl⟩ (fun r w9 H locs hq hP hD hS => ?_)
                        obtain ⟨w_352, hq, hp⟩ := hq
                        have hP : va_P D vwCl (gW cI cJ cB ga 8 (fun zz => nI ((mny t ci) zz)) w_352) H := va_P_perm hp hP
                        have hD : va_D A (gW cI cJ cB ga 8 (fun zz => nI ((mny t ci) zz)) w_352) := va_D_perm hp hD
                        obtain ⟨hPK, hr9⟩ := hq
                        have hr9 : r = nI (tps t b) := hr9.trans (blx (b := b) (k := 0) hb7 hn7 (by decide))
                        rw [hr9]
                        refine lv_iload hx hb dL_agrees_355 (lv_at hl 4 rfl) ?_
                        refine n_icmp_eq (a := tps t b) (b := tps t b) (tgt := 362) hx hb dL_agrees_357 (by decide) (by omega) (by omega) (fun _ => ?_) (fun h9 => absurd h9 (by omega))
                        refine lv_iinc (v := nI (0 + 1)) (lv' := [(11, .int (nI (0 + 1))), (10, .int (nI (dset (mv4 t b) (0 + 1)))), (13, .int (-2)), (12, .int (nI (tps t b) + offs (twd t) 0)), (9, .int (nI (tps t b))), (8, .int (nI b)), (6, .long fpv), (4, .int (nI (fre t ci))), (5, .ref ga), (3, .int (nI ((twd t) * (thd t)))), (2, .int (nI (twd t))), (1, .int (nI (tnb t))), (0, .ref xo)]) hx hb dL_agrees_362 hl (k := 3) rfl (nI_1 _) (by decide) rfl (fun ls hl => ?_)
                        refine lv_goto (tgt := 235) hx hb dL_agrees_365 (by decide) ?_
                        exact ih235 (0 + 1) w_352 (by omega) hPK (by omega) _ _ hP hD hS _ (lv_sub hl [1, 0, 4, 5, 6, 7, 8, 9, 10, 11, 12] rfl)
                      · have _ : True := trivial
                        have hq24 : q < 24 := mv4_lt hT hb7 hm
                        refine lv_aload_n hx hb dL_agrees_277 rfl (lv_at hl 11 rfl) ?_
                        refine lv_iload hx hb dL_agrees_278 (lv_at hl 4 rfl) ?_
                        refine lv_iload hx hb dL_agrees_280 (lv_at hl 2 rfl) ?_
                        refine callQ_i (As := [.int (nI b), .int (nI 0)]) (rest := []) (STi.fr (pre := [(ga, .inl (cI, 8, .inl (fun zz => nI ((mny t ci) zz))))]) (y_step_go l D (nI b) (nI 0) (Nat.zero_le _) (stm_1 hb7 hn7 (by decide) hm) hPK)) hC hK hN hP hD hS rfl rfl q459 md_X7_step rfl hl.1 rfl (Nat.le_of_ble_eq_true rfl) dL_agrees_282 ⟨Nat.le_of_ble_eq_true rfl, Nat.le_of_ble_eq_true rfl⟩ ⟨Nat.le_of_ble_eq_true rfl, Nat.le_of_ble_eq_true rfl⟩ (fun r w9 H locs hq hP hD hS => ?_)
                        obtain ⟨w_282, hq, hp⟩ := hq
                        have hP : va_P D vwCl (gW cI cJ cB ga 8 (fun zz => nI ((mny t ci) zz)) w_282) H := va_P_perm hp hP
                        have hD : va_D A (gW cI cJ cB ga 8 (fun zz => nI ((mny t ci) zz)) w_282) := va_D_perm hp hD
                        obtain ⟨hPK, hr9⟩ := hq
                        have hr9 : r = nI q := hr9.trans (str_1 hb7 hn7 (by decide) hm)
                        rw [hr9]
                        refine lv_istore (lv' := [(13, .int (nI q)), (12, .int (nI (tps t b) + offs (twd t) 0)), (10, .int (nI (dset (mv4 t b) 0))), (11, .int (nI 0)), (9, .int (nI (tps t b))), (8, .int (nI b)), (6, .long fpv), (4, .int (nI (fre t ci))), (5, .ref ga), (3, .int (nI ((twd t) * (thd t)))), (2, .int (nI (twd t))), (1, .int (nI (tnb t))), (0, .ref xo)]) hx hb dL_agrees_285 hl (by decide) rfl (fun ls hl => ?_)
                        refine lv_iload hx hb dL_agrees_287 (lv_at hl 2 rfl) ?_
                        refine lv_iload hx hb dL_agrees_289 (lv_at hl 0 rfl) ?_
                        refine n_if_lt (tgt := 301) hx hb dL_agrees_291 (by decide) (by omega) ?_
                        refine lv_iconst (v := nI 1) hx hb dL_agrees_294 (by decide) ?_
                        refine lv_iload hx hb dL_agrees_295 (lv_at hl 3 rfl) ?_
                        refine n_ishl hx hb dL_agrees_297 (by omega) ?_
                        refine lv_goto (tgt := 302) hx hb dL_agrees_298 (by decide) ?_
                        refine n_ior hx hb dL_agrees_302  ?_
                        refine topi (y := nI (dset (mv4 t b) (0 + 1))) (dset_s1 hm) ?_
                        refine lv_istore (lv' := [(10, .int (nI (dset (mv4 t b) (0 + 1)))), (13, .int (nI q)), (12, .int (nI (tps t b) + offs (twd t) 0)), (11, .int (nI 0)), (9, .int (nI (tps t b))), (8, .int (nI b)), (6, .long fpv), (4, .int (nI (fre t ci))), (5, .ref ga), (3, .int (nI ((twd t) * (thd t)))), (2, .int (nI (twd t))), (1, .int (nI (tnb t))), (0, .ref xo)]) hx hb dL_agrees_303 hl (by decide) rfl (fun ls hl => ?_)
                        refine lv_iload hx hb dL_agrees_305 (lv_at hl 1 rfl) ?_
                        refine n_if_lt (tgt := 336) hx hb dL_agrees_307 (by decide) (by omega) ?_
                        refine lv_iload hx hb dL_agrees_310 (lv_at hl 1 rfl) ?_
                        refine lv_iload hx hb dL_agrees_312 (lv_at hl 2 rfl) ?_
                        refine lv_icmp_ne (tgt := 360) hx hb dL_agrees_314 (by decide) (fun h9 => absurd h9 (fun h => h (offs_add hw1 (mvt_inv hm).1).symm)) (fun _ => ?_)
                        refine lv_aload_n hx hb dL_agrees_317 rfl (lv_at hl 12 rfl) ?_
                        refine lv_iload hx hb dL_agrees_318 (lv_at hl 5 rfl) ?_
                        refine lv_iconst (v := nI 0) hx hb dL_agrees_320 (by decide) ?_
                        refine callQ_i (As := [.int (nI b), .int (nI 0)]) (rest := []) (STi.fr (pre := [(ga, .inl (cI, 8, .inl (fun zz => nI ((mny t ci) zz))))]) (y_block l D (nI b) (nI 0)  hPK)) hC hK hN hP hD hS rfl rfl q421 md_X7_block rfl hl.1 rfl (Nat.le_of_ble_eq_true rfl) dL_agrees_321 ⟨Nat.le_of_ble_eq_true rfl, Nat.le_of_ble_eq_true rfl⟩ ⟨Nat.le_of_ble_eq_true rfl, Nat.le_of_ble_eq_true rfl⟩ (fun r w9 H locs hq hP hD hS => ?_)
                        obtain ⟨w_321, hq, hp⟩ := hq
                        have hP : va_P D vwCl (gW cI cJ cB ga 8 (fun zz => nI ((mny t ci) zz)) w_321) H := va_P_perm hp hP
                        have hD : va_D A (gW cI cJ cB ga 8 (fun zz => nI ((mny t ci) zz)) w_321) := va_D_perm hp hD
                        obtain ⟨hPK, hr9⟩ := hq
                        have hr9 : r = nI q := hr9.trans ((blx (b := b) (k := 0) hb7 hn7 (by decide)).trans (congrArg nI (up_eq _ _ _)))
                        rw [hr9]
                        refine lv_iload hx hb dL_agrees_324 (lv_at hl 2 rfl) ?_
                        refine lv_icmp_ne (tgt := 360) hx hb dL_agrees_326 (by decide) (fun h9 => absurd h9 (fun h => h (offs_add hw1 (mvt_inv hm).1).symm)) (fun _ => ?_)
                        refine lv_aload_n hx hb dL_agrees_329 rfl (lv_at hl 12 rfl) ?_
                        refine callQ_i (As := []) (rest := []) (STi.fr (pre := [(ga, .inl (cI, 8, .inl (fun zz => nI ((mny t ci) zz))))]) (y_undo l D   hPK)) hC hK hN hP hD hS rfl rfl q528 md_X7_undo rfl hl.1 rfl (Nat.le_of_ble_eq_true rfl) dL_agrees_330 ⟨Nat.le_of_ble_eq_true rfl, Nat.le_of_ble_eq_true rfl⟩ ⟨Nat.le_of_ble_eq_true rfl, Nat.le_of_ble_eq_true rfl⟩ (fun r w9 H locs hq hP hD hS => ?_)
                        obtain ⟨w_330, hq, hp⟩ := hq
                        have hP : va_P D vwCl (gW cI cJ cB ga 8 (fun zz => nI ((mny t ci) zz)) w_330) H := va_P_perm hp hP
                        have hD : va_D A (gW cI cJ cB ga 8 (fun zz => nI ((mny t ci) zz)) w_330) := va_D_perm hp hD
                        obtain ⟨hPK, j9, hj9, hr9⟩ := hq
                        have hr9 : r = nI j9 := hr9
                        rw [hr9]
                        refine n_if_lt (tgt := 360) hx hb dL_agrees_333 (by decide) (by omega) ?_
                        refine lv_iload hx hb dL_agrees_336 (lv_at hl 1 rfl) ?_
                        refine n_if_ge (tgt := 348) hx hb dL_agrees_338 (by decide) (by omega) ?_
                        refine lv_aload_n hx hb dL_agrees_348 rfl (lv_at hl 12 rfl) ?_
                        refine lv_iload hx hb dL_agrees_349 (lv_at hl 5 rfl) ?_
                        refine lv_iconst (v := nI 0) hx hb dL_agrees_351 (by decide) ?_
                        refine callQ_i (As := [.int (nI b), .int (nI 0)]) (rest := []) (STi.fr (pre := [(ga, .inl (cI, 8, .inl (fun zz => nI ((mny t ci) zz))))]) (y_block l D (nI b) (nI 0)  hPK)) hC hK hN hP hD hS rfl rfl q421 md_X7_block rfl hl.1 rfl (Nat.le_of_ble_eq_true rfl) dL_agrees_352 ⟨Nat.le_of_ble_eq_true rfl, Nat.le_of_ble_eq_true rfl⟩ ⟨Nat.le_of_ble_eq_true rfl, Nat.le_of_ble_eq_true rfl⟩ (fun r w9 H locs hq hP hD hS => ?_)
                        obtain ⟨w_352, hq, hp⟩ := hq
                        have hP : va_P D vwCl (gW cI cJ cB ga 8 (fun zz => nI ((mny t ci) zz)) w_352) H := va_P_perm hp hP
                        have hD : va_D A (gW cI cJ cB ga 8 (fun zz => nI ((mny t ci) zz)) w_352) := va_D_perm hp hD
                        obtain ⟨hPK, hr9⟩ := hq
                        have hr9 : r = nI (tps t b) := hr9.trans (blx (b := b) (k := 0) hb7 hn7 (by decide))
                        rw [hr9]
                        refine lv_iload hx hb dL_agrees_355 (lv_at hl 4 rfl) ?_
                        refine n_icmp_eq (a := tps t b) (b := tps t b) (tgt := 362) hx hb dL_agrees_357 (by decide) (by omega) (by omega) (fun _ => ?_) (fun h9 => absurd h9 (by omega))
                        refine lv_iinc (v := nI (0 + 1)) (lv' := [(11, .int (nI (0 + 1))), (10, .int (nI (dset (mv4 t b) (0 + 1)))), (13, .int (nI q)), (12, .int (nI (tps t b) + offs (twd t) 0)), (9, .int (nI (tps t b))), (8, .int (nI b)), (6, .long fpv), (4, .int (nI (fre t ci))), (5, .ref ga), (3, .int (nI ((twd t) * (thd t)))), (2, .int (nI (twd t))), (1, .int (nI (tnb t))), (0, .ref xo)]) hx hb dL_agrees_362 hl (k := 3) rfl (nI_1 _) (by decide) rfl (fun ls hl => ?_)
                        refine lv_goto (tgt := 235) hx hb dL_agrees_365 (by decide) ?_
                        exact ih235 (0 + 1) w_352 (by omega) hPK (by omega) _ _ hP hD hS _ (lv_sub hl [1, 0, 4, 5, 6, 7, 8, 9, 10, 11, 12] rfl)
                    · have _ : True := trivial
                      refine lv_iload hx hb dL_agrees_241 (lv_at hl 2 rfl) ?_
                      refine lv_iload hx hb dL_agrees_243 (lv_at hl 1 rfl) ?_
                      refine n_if_ne (a := 1) (tgt := 253) hx hb dL_agrees_245 (by decide) (by decide) (fun _ => ?_) (fun h => absurd h (by decide))
                      refine lv_iload hx hb dL_agrees_253 (lv_at hl 1 rfl) ?_
                      refine lv_iconst (v := nI 1) hx hb dL_agrees_255 (by decide) ?_
                      refine n_icmp_ne (a := 1) (b := 1) (tgt := 263) hx hb dL_agrees_256 (by decide) (by decide) (by decide) (fun h => absurd h (by decide)) (fun _ => ?_)
                      refine lv_iconst (v := nI 1) hx hb dL_agrees_259 (by decide) ?_
                      refine lv_goto (tgt := 274) hx hb dL_agrees_260 (by decide) ?_
                      refine n_iadd hx hb dL_agrees_274  ?_
                      refine topi (y := nI (tps t b) + offs (twd t) 1) (nI_add _ _).symm ?_
                      refine lv_istore (lv' := [(12, .int (nI (tps t b) + offs (twd t) 1)), (10, .int (nI (dset (mv4 t b) 1))), (11, .int (nI 1)), (9, .int (nI (tps t b))), (8, .int (nI b)), (6, .long fpv), (4, .int (nI (fre t ci))), (5, .ref ga), (3, .int (nI ((twd t) * (thd t)))), (2, .int (nI (twd t))), (1, .int (nI (tnb t))), (0, .ref xo)]) hx hb dL_agrees_275 hl (by decide) rfl (fun ls hl => ?_)
                      rcases hm : mv4 t b 1 with _ | q
                      · have _ : True := trivial
                        refine lv_aload_n hx hb dL_agrees_277 rfl (lv_at hl 11 rfl) ?_
                        refine lv_iload hx hb dL_agrees_278 (lv_at hl 4 rfl) ?_
                        refine lv_iload hx hb dL_agrees_280 (lv_at hl 2 rfl) ?_
                        refine callQ_i (As := [.int (nI b), .int (nI 1)]) (rest := []) (STi.fr (pre := [(ga, .inl (cI, 8, .inl (fun zz => nI ((mny t ci) zz))))]) (y_step_no l D (nI b) (nI 1) (stm_0 hb7 hn7 (by decide) hm) hPK)) hC hK hN hP hD hS rfl rfl q459 md_X7_step rfl hl.1 rfl (Nat.le_of_ble_eq_true rfl) dL_agrees_282 ⟨Nat.le_of_ble_eq_true rfl, Nat.le_of_ble_eq_true rfl⟩ ⟨Nat.le_of_ble_eq_true rfl, Nat.le_of_ble_eq_true rfl⟩ (fun r w9 H locs hq hP hD hS => ?_)
                        obtain ⟨w_282, hq, hp⟩ := hq
                        have hP : va_P D vwCl (gW cI cJ cB ga 8 (fun zz => nI ((mny t ci) zz)) w_282) H := va_P_perm hp hP
                        have hD : va_D A (gW cI cJ cB ga 8 (fun zz => nI ((mny t ci) zz)) w_282) := va_D_perm hp hD
                        obtain ⟨hPK, hr9⟩ := hq
                        have hr9 : r = (-2) := hr9.trans (str_0 hb7 hn7 (by decide) hm)
                        rw [hr9]
                        refine lv_istore (lv' := [(13, .int (-2)), (12, .int (nI (tps t b) + offs (twd t) 1)), (10, .int (nI (dset (mv4 t b) 1))), (11, .int (nI 1)), (9, .int (nI (tps t b))), (8, .int (nI b)), (6, .long fpv), (4, .int (nI (fre t ci))), (5, .ref ga), (3, .int (nI ((twd t) * (thd t)))), (2, .int (nI (twd t))), (1, .int (nI (tnb t))), (0, .ref xo)]) hx hb dL_agrees_285 hl (by decide) rfl (fun ls hl => ?_)
                        refine lv_iload hx hb dL_agrees_287 (lv_at hl 2 rfl) ?_
                        refine lv_iload hx hb dL_agrees_289 (lv_at hl 0 rfl) ?_
                        refine lv_if_lt (tgt := 301) hx hb dL_agrees_291 (by decide) (fun _ => ?_) (fun h => absurd (by decide) h)
                        refine lv_iconst (v := nI 0) hx hb dL_agrees_301 (by decide) ?_
                        refine n_ior hx hb dL_agrees_302  ?_
                        refine topi (y := nI (dset (mv4 t b) (1 + 1))) (dset_s0 hm) ?_
                        refine lv_istore (lv' := [(10, .int (nI (dset (mv4 t b) (1 + 1)))), (13, .int (-2)), (12, .int (nI (tps t b) + offs (twd t) 1)), (11, .int (nI 1)), (9, .int (nI (tps t b))), (8, .int (nI b)), (6, .long fpv), (4, .int (nI (fre t ci))), (5, .ref ga), (3, .int (nI ((twd t) * (thd t)))), (2, .int (nI (twd t))), (1, .int (nI (tnb t))), (0, .ref xo)]) hx hb dL_agrees_303 hl (by decide) rfl (fun ls hl => ?_)
                        refine lv_iload hx hb dL_agrees_305 (lv_at hl 1 rfl) ?_
                        refine lv_if_lt (tgt := 336) hx hb dL_agrees_307 (by decide) (fun _ => ?_) (fun h => absurd (by decide) h)
                        refine lv_iload hx hb dL_agrees_336 (lv_at hl 1 rfl) ?_
                        refine lv_if_ge (tgt := 348) hx hb dL_agrees_338 (by decide) (fun h => absurd h (by decide)) (fun _ => ?_)
                        refine lv_iload hx hb dL_agrees_341 (lv_at hl 1 rfl) ?_
                        refine lv_bipush (v := (-2)) hx hb dL_agrees_343 (by decide) ?_
                        refine lv_icmp_ne (tgt := 360) hx hb dL_agrees_345 (by decide) (fun h => absurd rfl h) (fun _ => ?_)
                        refine lv_aload_n hx hb dL_agrees_348 rfl (lv_at hl 12 rfl) ?_
                        refine lv_iload hx hb dL_agrees_349 (lv_at hl 5 rfl) ?_
                        refine lv_iconst (v := nI 0) hx hb dL_agrees_351 (by decide) ?_
                        refine callQ_i (As := [.int (nI b), .int (nI 0)]) (rest := []) (STi.fr (pre := [(ga, .inl (cI, 8, .inl (fun zz => nI ((mny t ci) zz))))]) (y_block l D (nI b) (nI 0)  hPK)) hC hK hN hP hD hS rfl rfl q421 md_X7_block rfl hl.1 rfl (Nat.le_of_ble_eq_true rfl) dL_agrees_352 ⟨Nat.le_of_ble_eq_true rfl, Nat.le_of_ble_eq_true rfl⟩ ⟨Nat.le_of_ble_eq_true rfl, Nat.le_of_ble_eq_true rfl⟩ (fun r w9 H locs hq hP hD hS => ?_)
                        obtain ⟨w_352, hq, hp⟩ := hq
                        have hP : va_P D vwCl (gW cI cJ cB ga 8 (fun zz => nI ((mny t ci) zz)) w_352) H := va_P_perm hp hP
                        have hD : va_D A (gW cI cJ cB ga 8 (fun zz => nI ((mny t ci) zz)) w_352) := va_D_perm hp hD
                        obtain ⟨hPK, hr9⟩ := hq
                        have hr9 : r = nI (tps t b) := hr9.trans (blx (b := b) (k := 0) hb7 hn7 (by decide))
                        rw [hr9]
                        refine lv_iload hx hb dL_agrees_355 (lv_at hl 4 rfl) ?_
                        refine n_icmp_eq (a := tps t b) (b := tps t b) (tgt := 362) hx hb dL_agrees_357 (by decide) (by omega) (by omega) (fun _ => ?_) (fun h9 => absurd h9 (by omega))
                        refine lv_iinc (v := nI (1 + 1)) (lv' := [(11, .int (nI (1 + 1))), (10, .int (nI (dset (mv4 t b) (1 + 1)))), (13, .int (-2)), (12, .int (nI (tps t b) + offs (twd t) 1)), (9, .int (nI (tps t b))), (8, .int (nI b)), (6, .long fpv), (4, .int (nI (fre t ci))), (5, .ref ga), (3, .int (nI ((twd t) * (thd t)))), (2, .int (nI (twd t))), (1, .int (nI (tnb t))), (0, .ref xo)]) hx hb dL_agrees_362 hl (k := 3) rfl (nI_1 _) (by decide) rfl (fun ls hl => ?_)
                        refine lv_goto (tgt := 235) hx hb dL_agrees_365 (by decide) ?_
                        exact ih235 (1 + 1) w_352 (by omega) hPK (by omega) _ _ hP hD hS _ (lv_sub hl [1, 0, 4, 5, 6, 7, 8, 9, 10, 11, 12] rfl)
                      · have _ : True := trivial
                        have hq24 : q < 24 := mv4_lt hT hb7 hm
                        refine lv_aload_n hx hb dL_agrees_277 rfl (lv_at hl 11 rfl) ?_
                        refine lv_iload hx hb dL_agrees_278 (lv_at hl 4 rfl) ?_
                        refine lv_iload hx hb dL_agrees_280 (lv_at hl 2 rfl) ?_
                        refine callQ_i (As := [.int (nI b), .int (nI 1)]) (rest := []) (STi.fr (pre := [(ga, .inl (cI, 8, .inl (fun zz => nI ((mny t ci) zz))))]) (y_step_go l D (nI b) (nI 1) (Nat.zero_le _) (stm_1 hb7 hn7 (by decide) hm) hPK)) hC hK hN hP hD hS rfl rfl q459 md_X7_step rfl hl.1 rfl (Nat.le_of_ble_eq_true rfl) dL_agrees_282 ⟨Nat.le_of_ble_eq_true rfl, Nat.le_of_ble_eq_true rfl⟩ ⟨Nat.le_of_ble_eq_true rfl, Nat.le_of_ble_eq_true rfl⟩ (fun r w9 H locs hq hP hD hS => ?_)
                        obtain ⟨w_282, hq, hp⟩ := hq
                        have hP : va_P D vwCl (gW cI cJ cB ga 8 (fun zz => nI ((mny t ci) zz)) w_282) H := va_P_perm hp hP
                        have hD : va_D A (gW cI cJ cB ga 8 (fun zz => nI ((mny t ci) zz)) w_282) := va_D_perm hp hD
                        obtain ⟨hPK, hr9⟩ := hq
                        have hr9 : r = nI q := hr9.trans (str_1 hb7 hn7 (by decide) hm)
                        rw [hr9]
                        refine lv_istore (lv' := [(13, .int (nI q)), (12, .int (nI (tps t b) + offs (twd t) 1)), (10, .int (nI (dset (mv4 t b) 1))), (11, .int (nI 1)), (9, .int (nI (tps t b))), (8, .int (nI b)), (6, .long fpv), (4, .int (nI (fre t ci))), (5, .ref ga), (3, .int (nI ((twd t) * (thd t)))), (2, .int (nI (twd t))), (1, .int (nI (tnb t))), (0, .ref xo)]) hx hb dL_agrees_285 hl (by decide) rfl (fun ls hl => ?_)
                        refine lv_iload hx hb dL_agrees_287 (lv_at hl 2 rfl) ?_
                        refine lv_iload hx hb dL_agrees_289 (lv_at hl 0 rfl) ?_
                        refine n_if_lt (tgt := 301) hx hb dL_agrees_291 (by decide) (by omega) ?_
                        refine lv_iconst (v := nI 1) hx hb dL_agrees_294 (by decide) ?_
                        refine lv_iload hx hb dL_agrees_295 (lv_at hl 3 rfl) ?_
                        refine n_ishl hx hb dL_agrees_297 (by omega) ?_
                        refine lv_goto (tgt := 302) hx hb dL_agrees_298 (by decide) ?_
                        refine n_ior hx hb dL_agrees_302  ?_
                        refine topi (y := nI (dset (mv4 t b) (1 + 1))) (dset_s1 hm) ?_
                        refine lv_istore (lv' := [(10, .int (nI (dset (mv4 t b) (1 + 1)))), (13, .int (nI q)), (12, .int (nI (tps t b) + offs (twd t) 1)), (11, .int (nI 1)), (9, .int (nI (tps t b))), (8, .int (nI b)), (6, .long fpv), (4, .int (nI (fre t ci))), (5, .ref ga), (3, .int (nI ((twd t) * (thd t)))), (2, .int (nI (twd t))), (1, .int (nI (tnb t))), (0, .ref xo)]) hx hb dL_agrees_303 hl (by decide) rfl (fun ls hl => ?_)
                        refine lv_iload hx hb dL_agrees_305 (lv_at hl 1 rfl) ?_
                        refine n_if_lt (tgt := 336) hx hb dL_agrees_307 (by decide) (by omega) ?_
                        refine lv_iload hx hb dL_agrees_310 (lv_at hl 1 rfl) ?_
                        refine lv_iload hx hb dL_agrees_312 (lv_at hl 2 rfl) ?_
                        refine lv_icmp_ne (tgt := 360) hx hb dL_agrees_314 (by decide) (fun h9 => absurd h9 (fun h => h (offs_add hw1 (mvt_inv hm).1).symm)) (fun _ => ?_)
                        refine lv_aload_n hx hb dL_agrees_317 rfl (lv_at hl 12 rfl) ?_
                        refine lv_iload hx hb dL_agrees_318 (lv_at hl 5 rfl) ?_
                        refine lv_iconst (v := nI 0) hx hb dL_agrees_320 (by decide) ?_
                        refine callQ_i (As := [.int (nI b), .int (nI 0)]) (rest := []) (STi.fr (pre := [(ga, .inl (cI, 8, .inl (fun zz => nI ((mny t ci) zz))))]) (y_block l D (nI b) (nI 0)  hPK)) hC hK hN hP hD hS rfl rfl q421 md_X7_block rfl hl.1 rfl (Nat.le_of_ble_eq_true rfl) dL_agrees_321 ⟨Nat.le_of_ble_eq_true rfl, Nat.le_of_ble_eq_true rfl⟩ ⟨Nat.le_of_ble_eq_true rfl, Nat.le_of_ble_eq_true rfl⟩ (fun r w9 H locs hq hP hD hS => ?_)
                        obtain ⟨w_321, hq, hp⟩ := hq
                        have hP : va_P D vwCl (gW cI cJ cB ga 8 (fun zz => nI ((mny t ci) zz)) w_321) H := va_P_perm hp hP
                        have hD : va_D A (gW cI cJ cB ga 8 (fun zz => nI ((mny t ci) zz)) w_321) := va_D_perm hp hD
                        obtain ⟨hPK, hr9⟩ := hq
                        have hr9 : r = nI q := hr9.trans ((blx (b := b) (k := 0) hb7 hn7 (by decide)).trans (congrArg nI (up_eq _ _ _)))
                        rw [hr9]
                        refine lv_iload hx hb dL_agrees_324 (lv_at hl 2 rfl) ?_
                        refine lv_icmp_ne (tgt := 360) hx hb dL_agrees_326 (by decide) (fun h9 => absurd h9 (fun h => h (offs_add hw1 (mvt_inv hm).1).symm)) (fun _ => ?_)
                        refine lv_aload_n hx hb dL_agrees_329 rfl (lv_at hl 12 rfl) ?_
                        refine callQ_i (As := []) (rest := []) (STi.fr (pre := [(ga, .inl (cI, 8, .inl (fun zz => nI ((mny t ci) zz))))]) (y_undo l D   hPK)) hC hK hN hP hD hS rfl rfl q528 md_X7_undo rfl hl.1 rfl (Nat.le_of_ble_eq_true rfl) dL_agrees_330 ⟨Nat.le_of_ble_eq_true rfl, Nat.le_of_ble_eq_true rfl⟩ ⟨Nat.le_of_ble_eq_true rfl, Nat.le_of_ble_eq_true rfl⟩ (fun r w9 H locs hq hP hD hS => ?_)
                        obtain ⟨w_330, hq, hp⟩ := hq
                        have hP : va_P D vwCl (gW cI cJ cB ga 8 (fun zz => nI ((mny t ci) zz)) w_330) H := va_P_perm hp hP
                        have hD : va_D A (gW cI cJ cB ga 8 (fun zz => nI ((mny t ci) zz)) w_330) := va_D_perm hp hD
                        obtain ⟨hPK, j9, hj9, hr9⟩ := hq
                        have hr9 : r = nI j9 := hr9
                        rw [hr9]
                        refine n_if_lt (tgt := 360) hx hb dL_agrees_333 (by decide) (by omega) ?_
                        refine lv_iload hx hb dL_agrees_336 (lv_at hl 1 rfl) ?_
                        refine n_if_ge (tgt := 348) hx hb dL_agrees_338 (by decide) (by omega) ?_
                        refine lv_aload_n hx hb dL_agrees_348 rfl (lv_at hl 12 rfl) ?_
                        refine lv_iload hx hb dL_agrees_349 (lv_at hl 5 rfl) ?_
                        refine lv_iconst (v := nI 0) hx hb dL_agrees_351 (by decide) ?_
                        refine callQ_i (As := [.int (nI b), .int (nI 0)]) (rest := []) (STi.fr (pre := [(ga, .inl (cI, 8, .inl (fun zz => nI ((mny t ci) zz))))]) (y_block l D (nI b) (nI 0)  hPK)) hC hK hN hP hD hS rfl rfl q421 md_X7_block rfl hl.1 rfl (Nat.le_of_ble_eq_true rfl) dL_agrees_352 ⟨Nat.le_of_ble_eq_true rfl, Nat.le_of_ble_eq_true rfl⟩ ⟨Nat.le_of_ble_eq_true rfl, Nat.le_of_ble_eq_true rfl⟩ (fun r w9 H locs hq hP hD hS => ?_)
                        obtain ⟨w_352, hq, hp⟩ := hq
                        have hP : va_P D vwCl (gW cI cJ cB ga 8 (fun zz => nI ((mny t ci) zz)) w_352) H := va_P_perm hp hP
                        have hD : va_D A (gW cI cJ cB ga 8 (fun zz => nI ((mny t ci) zz)) w_352) := va_D_perm hp hD
                        obtain ⟨hPK, hr9⟩ := hq
                        have hr9 : r = nI (tps t b) := hr9.trans (blx (b := b) (k := 0) hb7 hn7 (by decide))
                        rw [hr9]
                        refine lv_iload hx hb dL_agrees_355 (lv_at hl 4 rfl) ?_
                        refine n_icmp_eq (a := tps t b) (b := tps t b) (tgt := 362) hx hb dL_agrees_357 (by decide) (by omega) (by omega) (fun _ => ?_) (fun h9 => absurd h9 (by omega))
                        refine lv_iinc (v := nI (1 + 1)) (lv' := [(11, .int (nI (1 + 1))), (10, .int (nI (dset (mv4 t b) (1 + 1)))), (13, .int (nI q)), (12, .int (nI (tps t b) + offs (twd t) 1)), (9, .int (nI (tps t b))), (8, .int (nI b)), (6, .long fpv), (4, .int (nI (fre t ci))), (5, .ref ga), (3, .int (nI ((twd t) * (thd t)))), (2, .int (nI (twd t))), (1, .int (nI (tnb t))), (0, .ref xo)]) hx hb dL_agrees_362 hl (k := 3) rfl (nI_1 _) (by decide) rfl (fun ls hl => ?_)
                        refine lv_goto (tgt := 235) hx hb dL_agrees_365 (by decide) ?_
                        exact ih235 (1 + 1) w_352 (by omega) hPK (by omega) _ _ hP hD hS _ (lv_sub hl [1, 0, 4, 5, 6, 7, 8, 9, 10, 11, 12] rfl)
                    · have _ : True := trivial
                      refine lv_iload hx hb dL_agrees_241 (lv_at hl 2 rfl) ?_
                      refine lv_iload hx hb dL_agrees_243 (lv_at hl 1 rfl) ?_
                      refine n_if_ne (a := 2) (tgt := 253) hx hb dL_agrees_245 (by decide) (by decide) (fun _ => ?_) (fun h => absurd h (by decide))
                      refine lv_iload hx hb dL_agrees_253 (lv_at hl 1 rfl) ?_
                      refine lv_iconst (v := nI 1) hx hb dL_agrees_255 (by decide) ?_
                      refine n_icmp_ne (a := 2) (b := 1) (tgt := 263) hx hb dL_agrees_256 (by decide) (by decide) (by decide) (fun _ => ?_) (fun h => absurd h (by decide))
                      refine lv_iload hx hb dL_agrees_263 (lv_at hl 1 rfl) ?_
                      refine lv_iconst (v := nI 2) hx hb dL_agrees_265 (by decide) ?_
                      refine n_icmp_ne (a := 2) (b := 2) (tgt := 273) hx hb dL_agrees_266 (by decide) (by decide) (by decide) (fun h => absurd h (by decide)) (fun _ => ?_)
                      refine lv_iload_n hx hb dL_agrees_269 rfl (lv_at hl 8 rfl) ?_
                      refine lv_goto (tgt := 274) hx hb dL_agrees_270 (by decide) ?_
                      refine n_iadd hx hb dL_agrees_274  ?_
                      refine topi (y := nI (tps t b) + offs (twd t) 2) (nI_add _ _).symm ?_
                      refine lv_istore (lv' := [(12, .int (nI (tps t b) + offs (twd t) 2)), (10, .int (nI (dset (mv4 t b) 2))), (11, .int (nI 2)), (9, .int (nI (tps t b))), (8, .int (nI b)), (6, .long fpv), (4, .int (nI (fre t ci))), (5, .ref ga), (3, .int (nI ((twd t) * (thd t)))), (2, .int (nI (twd t))), (1, .int (nI (tnb t))), (0, .ref xo)]) hx hb dL_agrees_275 hl (by decide) rfl (fun ls hl => ?_)
                      rcases hm : mv4 t b 2 with _ | q
                      · have _ : True := trivial
                        refine lv_aload_n hx hb dL_agrees_277 rfl (lv_at hl 11 rfl) ?_
                        refine lv_iload hx hb dL_agrees_278 (lv_at hl 4 rfl) ?_
                        refine lv_iload hx hb dL_agrees_280 (lv_at hl 2 rfl) ?_
                        refine callQ_i (As := [.int (nI b), .int (nI 2)]) (rest := []) (STi.fr (pre := [(ga, .inl (cI, 8, .inl (fun zz => nI ((mny t ci) zz))))]) (y_step_no l D (nI b) (nI 2) (stm_0 hb7 hn7 (by decide) hm) hPK)) hC hK hN hP hD hS rfl rfl q459 md_X7_step rfl hl.1 rfl (Nat.le_of_ble_eq_true rfl) dL_agrees_282 ⟨Nat.le_of_ble_eq_true rfl, Nat.le_of_ble_eq_true rfl⟩ ⟨Nat.le_of_ble_eq_true rfl, Nat.le_of_ble_eq_true rfl⟩ (fun r w9 H locs hq hP hD hS => ?_)
                        obtain ⟨w_282, hq, hp⟩ := hq
                        have hP : va_P D vwCl (gW cI cJ cB ga 8 (fun zz => nI ((mny t ci) zz)) w_282) H := va_P_perm hp hP
                        have hD : va_D A (gW cI cJ cB ga 8 (fun zz => nI ((mny t ci) zz)) w_282) := va_D_perm hp hD
                        obtain ⟨hPK, hr9⟩ := hq
                        have hr9 : r = (-2) := hr9.trans (str_0 hb7 hn7 (by decide) hm)
                        rw [hr9]
                        refine lv_istore (lv' := [(13, .int (-2)), (12, .int (nI (tps t b) + offs (twd t) 2)), (10, .int (nI (dset (mv4 t b) 2))), (11, .int (nI 2)), (9, .int (nI (tps t b))), (8, .int (nI b)), (6, .long fpv), (4, .int (nI (fre t ci))), (5, .ref ga), (3, .int (nI ((twd t) * (thd t)))), (2, .int (nI (twd t))), (1, .int (nI (tnb t))), (0, .ref xo)]) hx hb dL_agrees_285 hl (by decide) rfl (fun ls hl => ?_)
                        refine lv_iload hx hb dL_agrees_287 (lv_at hl 2 rfl) ?_
                        refine lv_iload hx hb dL_agrees_289 (lv_at hl 0 rfl) ?_
                        refine lv_if_lt (tgt := 301) hx hb dL_agrees_291 (by decide) (fun _ => ?_) (fun h => absurd (by decide) h)
                        refine lv_iconst (v := nI 0) hx hb dL_agrees_301 (by decide) ?_
                        refine n_ior hx hb dL_agrees_302  ?_
                        refine topi (y := nI (dset (mv4 t b) (2 + 1))) (dset_s0 hm) ?_
                        refine lv_istore (lv' := [(10, .int (nI (dset (mv4 t b) (2 + 1)))), (13, .int (-2)), (12, .int (nI (tps t b) + offs (twd t) 2)), (11, .int (nI 2)), (9, .int (nI (tps t b))), (8, .int (nI b)), (6, .long fpv), (4, .int (nI (fre t ci))), (5, .ref ga), (3, .int (nI ((twd t) * (thd t)))), (2, .int (nI (twd t))), (1, .int (nI (tnb t))), (0, .ref xo)]) hx hb dL_agrees_303 hl (by decide) rfl (fun ls hl => ?_)
                        refine lv_iload hx hb dL_agrees_305 (lv_at hl 1 rfl) ?_
                        refine lv_if_lt (tgt := 336) hx hb dL_agrees_307 (by decide) (fun _ => ?_) (fun h => absurd (by decide) h)
                        refine lv_iload hx hb dL_agrees_336 (lv_at hl 1 rfl) ?_
                        refine lv_if_ge (tgt := 348) hx hb dL_agrees_338 (by decide) (fun h => absurd h (by decide)) (fun _ => ?_)
                        refine lv_iload hx hb dL_agrees_341 (lv_at hl 1 rfl) ?_
                        refine lv_bipush (v := (-2)) hx hb dL_agrees_343 (by decide) ?_
                        refine lv_icmp_ne (tgt := 360) hx hb dL_agrees_345 (by decide) (fun h => absurd rfl h) (fun _ => ?_)
                        refine lv_aload_n hx hb dL_agrees_348 rfl (lv_at hl 12 rfl) ?_
                        refine lv_iload hx hb dL_agrees_349 (lv_at hl 5 rfl) ?_
                        refine lv_iconst (v := nI 0) hx hb dL_agrees_351 (by decide) ?_
                        refine callQ_i (As := [.int (nI b), .int (nI 0)]) (rest := []) (STi.fr (pre := [(ga, .inl (cI, 8, .inl (fun zz => nI ((mny t ci) zz))))]) (y_block l D (nI b) (nI 0)  hPK)) hC hK hN hP hD hS rfl rfl q421 md_X7_block rfl hl.1 rfl (Nat.le_of_ble_eq_true rfl) dL_agrees_352 ⟨Nat.le_of_ble_eq_true rfl, Nat.le_of_ble_eq_true rfl⟩ ⟨Nat.le_of_ble_eq_true rfl, Nat.le_of_ble_eq_true rfl⟩ (fun r w9 H locs hq hP hD hS => ?_)
                        obtain ⟨w_352, hq, hp⟩ := hq
                        have hP : va_P D vwCl (gW cI cJ cB ga 8 (fun zz => nI ((mny t ci) zz)) w_352) H := va_P_perm hp hP
                        have hD : va_D A (gW cI cJ cB ga 8 (fun zz => nI ((mny t ci) zz)) w_352) := va_D_perm hp hD
                        obtain ⟨hPK, hr9⟩ := hq
                        have hr9 : r = nI (tps t b) := hr9.trans (blx (b := b) (k := 0) hb7 hn7 (by decide))
                        rw [hr9]
                        refine lv_iload hx hb dL_agrees_355 (lv_at hl 4 rfl) ?_
                        refine n_icmp_eq (a := tps t b) (b := tps t b) (tgt := 362) hx hb dL_agrees_357 (by decide) (by omega) (by omega) (fun _ => ?_) (fun h9 => absurd h9 (by omega))
                        refine lv_iinc (v := nI (2 + 1)) (lv' := [(11, .int (nI (2 + 1))), (10, .int (nI (dset (mv4 t b) (2 + 1)))), (13, .int (-2)), (12, .int (nI (tps t b) + offs (twd t) 2)), (9, .int (nI (tps t b))), (8, .int (nI b)), (6, .long fpv), (4, .int (nI (fre t ci))), (5, .ref ga), (3, .int (nI ((twd t) * (thd t)))), (2, .int (nI (twd t))), (1, .int (nI (tnb t))), (0, .ref xo)]) hx hb dL_agrees_362 hl (k := 3) rfl (nI_1 _) (by decide) rfl (fun ls hl => ?_)
                        refine lv_goto (tgt := 235) hx hb dL_agrees_365 (by decide) ?_
                        exact ih235 (2 + 1) w_352 (by omega) hPK (by omega) _ _ hP hD hS _ (lv_sub hl [1, 0, 4, 5, 6, 7, 8, 9, 10, 11, 12] rfl)
                      · have _ : True := trivial
                        have hq24 : q < 24 := mv4_lt hT hb7 hm
                        refine lv_aload_n hx hb dL_agrees_277 rfl (lv_at hl 11 rfl) ?_
                        refine lv_iload hx hb dL_agrees_278 (lv_at hl 4 rfl) ?_
                        refine lv_iload hx hb dL_agrees_280 (lv_at hl 2 rfl) ?_
                        refine callQ_i (As := [.int (nI b), .int (nI 2)]) (rest := []) (STi.fr (pre := [(ga, .inl (cI, 8, .inl (fun zz => nI ((mny t ci) zz))))]) (y_step_go l D (nI b) (nI 2) (Nat.zero_le _) (stm_1 hb7 hn7 (by decide) hm) hPK)) hC hK hN hP hD hS rfl rfl q459 md_X7_step rfl hl.1 rfl (Nat.le_of_ble_eq_true rfl) dL_agrees_282 ⟨Nat.le_of_ble_eq_true rfl, Nat.le_of_ble_eq_true rfl⟩ ⟨Nat.le_of_ble_eq_true rfl, Nat.le_of_ble_eq_true rfl⟩ (fun r w9 H locs hq hP hD hS => ?_)
                        obtain ⟨w_282, hq, hp⟩ := hq
                        have hP : va_P D vwCl (gW cI cJ cB ga 8 (fun zz => nI ((mny t ci) zz)) w_282) H := va_P_perm hp hP
                        have hD : va_D A (gW cI cJ cB ga 8 (fun zz => nI ((mny t ci) zz)) w_282) := va_D_perm hp hD
                        obtain ⟨hPK, hr9⟩ := hq
                        have hr9 : r = nI q := hr9.trans (str_1 hb7 hn7 (by decide) hm)
                        rw [hr9]
                        refine lv_istore (lv' := [(13, .int (nI q)), (12, .int (nI (tps t b) + offs (twd t) 2)), (10, .int (nI (dset (mv4 t b) 2))), (11, .int (nI 2)), (9, .int (nI (tps t b))), (8, .int (nI b)), (6, .long fpv), (4, .int (nI (fre t ci))), (5, .ref ga), (3, .int (nI ((twd t) * (thd t)))), (2, .int (nI (twd t))), (1, .int (nI (tnb t))), (0, .ref xo)]) hx hb dL_agrees_285 hl (by decide) rfl (fun ls hl => ?_)
                        refine lv_iload hx hb dL_agrees_287 (lv_at hl 2 rfl) ?_
                        refine lv_iload hx hb dL_agrees_289 (lv_at hl 0 rfl) ?_
                        refine n_if_lt (tgt := 301) hx hb dL_agrees_291 (by decide) (by omega) ?_
                        refine lv_iconst (v := nI 1) hx hb dL_agrees_294 (by decide) ?_
                        refine lv_iload hx hb dL_agrees_295 (lv_at hl 3 rfl) ?_
                        refine n_ishl hx hb dL_agrees_297 (by omega) ?_
                        refine lv_goto (tgt := 302) hx hb dL_agrees_298 (by decide) ?_
                        refine n_ior hx hb dL_agrees_302  ?_
                        refine topi (y := nI (dset (mv4 t b) (2 + 1))) (dset_s1 hm) ?_
                        refine lv_istore (lv' := [(10, .int (nI (dset (mv4 t b) (2 + 1)))), (13, .int (nI q)), (12, .int (nI (tps t b) + offs (twd t) 2)), (11, .int (nI 2)), (9, .int (nI (tps t b))), (8, .int (nI b)), (6, .long fpv), (4, .int (nI (fre t ci))), (5, .ref ga), (3, .int (nI ((twd t) * (thd t)))), (2, .int (nI (twd t))), (1, .int (nI (tnb t))), (0, .ref xo)]) hx hb dL_agrees_303 hl (by decide) rfl (fun ls hl => ?_)
                        refine lv_iload hx hb dL_agrees_305 (lv_at hl 1 rfl) ?_
                        refine n_if_lt (tgt := 336) hx hb dL_agrees_307 (by decide) (by omega) ?_
                        refine lv_iload hx hb dL_agrees_310 (lv_at hl 1 rfl) ?_
                        refine lv_iload hx hb dL_agrees_312 (lv_at hl 2 rfl) ?_
                        refine lv_icmp_ne (tgt := 360) hx hb dL_agrees_314 (by decide) (fun h9 => absurd h9 (fun h => h (offs_add hw1 (mvt_inv hm).1).symm)) (fun _ => ?_)
                        refine lv_aload_n hx hb dL_agrees_317 rfl (lv_at hl 12 rfl) ?_
                        refine lv_iload hx hb dL_agrees_318 (lv_at hl 5 rfl) ?_
                        refine lv_iconst (v := nI 0) hx hb dL_agrees_320 (by decide) ?_
                        refine callQ_i (As := [.int (nI b), .int (nI 0)]) (rest := []) (STi.fr (pre := [(ga, .inl (cI, 8, .inl (fun zz => nI ((mny t ci) zz))))]) (y_block l D (nI b) (nI 0)  hPK)) hC hK hN hP hD hS rfl rfl q421 md_X7_block rfl hl.1 rfl (Nat.le_of_ble_eq_true rfl) dL_agrees_321 ⟨Nat.le_of_ble_eq_true rfl, Nat.le_of_ble_eq_true rfl⟩ ⟨Nat.le_of_ble_eq_true rfl, Nat.le_of_ble_eq_true rfl⟩ (fun r w9 H locs hq hP hD hS => ?_)
                        obtain ⟨w_321, hq, hp⟩ := hq
                        have hP : va_P D vwCl (gW cI cJ cB ga 8 (fun zz => nI ((mny t ci) zz)) w_321) H := va_P_perm hp hP
                        have hD : va_D A (gW cI cJ cB ga 8 (fun zz => nI ((mny t ci) zz)) w_321) := va_D_perm hp hD
                        obtain ⟨hPK, hr9⟩ := hq
                        have hr9 : r = nI q := hr9.trans ((blx (b := b) (k := 0) hb7 hn7 (by decide)).trans (congrArg nI (up_eq _ _ _)))
                        rw [hr9]
                        refine lv_iload hx hb dL_agrees_324 (lv_at hl 2 rfl) ?_
                        refine lv_icmp_ne (tgt := 360) hx hb dL_agrees_326 (by decide) (fun h9 => absurd h9 (fun h => h (offs_add hw1 (mvt_inv hm).1).symm)) (fun _ => ?_)
                        refine lv_aload_n hx hb dL_agrees_329 rfl (lv_at hl 12 rfl) ?_
                        refine callQ_i (As := []) (rest := []) (STi.fr (pre := [(ga, .inl (cI, 8, .inl (fun zz => nI ((mny t ci) zz))))]) (y_undo l D   hPK)) hC hK hN hP hD hS rfl rfl q528 md_X7_undo rfl hl.1 rfl (Nat.le_of_ble_eq_true rfl) dL_agrees_330 ⟨Nat.le_of_ble_eq_true rfl, Nat.le_of_ble_eq_true rfl⟩ ⟨Nat.le_of_ble_eq_true rfl, Nat.le_of_ble_eq_true rfl⟩ (fun r w9 H locs hq hP hD hS => ?_)
                        obtain ⟨w_330, hq, hp⟩ := hq
                        have hP : va_P D vwCl (gW cI cJ cB ga 8 (fun zz => nI ((mny t ci) zz)) w_330) H := va_P_perm hp hP
                        have hD : va_D A (gW cI cJ cB ga 8 (fun zz => nI ((mny t ci) zz)) w_330) := va_D_perm hp hD
                        obtain ⟨hPK, j9, hj9, hr9⟩ := hq
                        have hr9 : r = nI j9 := hr9
                        rw [hr9]
                        refine n_if_lt (tgt := 360) hx hb dL_agrees_333 (by decide) (by omega) ?_
                        refine lv_iload hx hb dL_agrees_336 (lv_at hl 1 rfl) ?_
                        refine n_if_ge (tgt := 348) hx hb dL_agrees_338 (by decide) (by omega) ?_
                        refine lv_aload_n hx hb dL_agrees_348 rfl (lv_at hl 12 rfl) ?_
                        refine lv_iload hx hb dL_agrees_349 (lv_at hl 5 rfl) ?_
                        refine lv_iconst (v := nI 0) hx hb dL_agrees_351 (by decide) ?_
                        refine callQ_i (As := [.int (nI b), .int (nI 0)]) (rest := []) (STi.fr (pre := [(ga, .inl (cI, 8, .inl (fun zz => nI ((mny t ci) zz))))]) (y_block l D (nI b) (nI 0)  hPK)) hC hK hN hP hD hS rfl rfl q421 md_X7_block rfl hl.1 rfl (Nat.le_of_ble_eq_true rfl) dL_agrees_352 ⟨Nat.le_of_ble_eq_true rfl, Nat.le_of_ble_eq_true rfl⟩ ⟨Nat.le_of_ble_eq_true rfl, Nat.le_of_ble_eq_true rfl⟩ (fun r w9 H locs hq hP hD hS => ?_)
                        obtain ⟨w_352, hq, hp⟩ := hq
                        have hP : va_P D vwCl (gW cI cJ cB ga 8 (fun zz => nI ((mny t ci) zz)) w_352) H := va_P_perm hp hP
                        have hD : va_D A (gW cI cJ cB ga 8 (fun zz => nI ((mny t ci) zz)) w_352) := va_D_perm hp hD
                        obtain ⟨hPK, hr9⟩ := hq
                        have hr9 : r = nI (tps t b) := hr9.trans (blx (b := b) (k := 0) hb7 hn7 (by decide))
                        rw [hr9]
                        refine lv_iload hx hb dL_agrees_355 (lv_at hl 4 rfl) ?_
                        refine n_icmp_eq (a := tps t b) (b := tps t b) (tgt := 362) hx hb dL_agrees_357 (by decide) (by omega) (by omega) (fun _ => ?_) (fun h9 => absurd h9 (by omega))
                        refine lv_iinc (v := nI (2 + 1)) (lv' := [(11, .int (nI (2 + 1))), (10, .int (nI (dset (mv4 t b) (2 + 1)))), (13, .int (nI q)), (12, .int (nI (tps t b) + offs (twd t) 2)), (9, .int (nI (tps t b))), (8, .int (nI b)), (6, .long fpv), (4, .int (nI (fre t ci))), (5, .ref ga), (3, .int (nI ((twd t) * (thd t)))), (2, .int (nI (twd t))), (1, .int (nI (tnb t))), (0, .ref xo)]) hx hb dL_agrees_362 hl (k := 3) rfl (nI_1 _) (by decide) rfl (fun ls hl => ?_)
                        refine lv_goto (tgt := 235) hx hb dL_agrees_365 (by decide) ?_
                        exact ih235 (2 + 1) w_352 (by omega) hPK (by omega) _ _ hP hD hS _ (lv_sub hl [1, 0, 4, 5, 6, 7, 8, 9, 10, 11, 12] rfl)
                    · have _ : True := trivial
                      refine lv_iload hx hb dL_agrees_241 (lv_at hl 2 rfl) ?_
                      refine lv_iload hx hb dL_agrees_243 (lv_at hl 1 rfl) ?_
                      refine n_if_ne (a := 3) (tgt := 253) hx hb dL_agrees_245 (by decide) (by decide) (fun _ => ?_) (fun h => absurd h (by decide))
                      refine lv_iload hx hb dL_agrees_253 (lv_at hl 1 rfl) ?_
                      refine lv_iconst (v := nI 1) hx hb dL_agrees_255 (by decide) ?_
                      refine n_icmp_ne (a := 3) (b := 1) (tgt := 263) hx hb dL_agrees_256 (by decide) (by decide) (by decide) (fun _ => ?_) (fun h => absurd h (by decide))
                      refine lv_iload hx hb dL_agrees_263 (lv_at hl 1 rfl) ?_
                      refine lv_iconst (v := nI 2) hx hb dL_agrees_265 (by decide) ?_
                      refine n_icmp_ne (a := 3) (b := 2) (tgt := 273) hx hb dL_agrees_266 (by decide) (by decide) (by decide) (fun _ => ?_) (fun h => absurd h (by decide))
                      refine lv_iconst (v := -1) hx hb dL_agrees_273 (by decide) ?_
                      refine lv_iadd hx hb dL_agrees_274 ?_
                      refine topi (y := nI (tps t b) + offs (twd t) 3) rfl ?_
                      refine lv_istore (lv' := [(12, .int (nI (tps t b) + offs (twd t) 3)), (10, .int (nI (dset (mv4 t b) 3))), (11, .int (nI 3)), (9, .int (nI (tps t b))), (8, .int (nI b)), (6, .long fpv), (4, .int (nI (fre t ci))), (5, .ref ga), (3, .int (nI ((twd t) * (thd t)))), (2, .int (nI (twd t))), (1, .int (nI (tnb t))), (0, .ref xo)]) hx hb dL_agrees_275 hl (by decide) rfl (fun ls hl => ?_)
                      rcases hm : mv4 t b 3 with _ | q
                      · have _ : True := trivial
                        refine lv_aload_n hx hb dL_agrees_277 rfl (lv_at hl 11 rfl) ?_
                        refine lv_iload hx hb dL_agrees_278 (lv_at hl 4 rfl) ?_
                        refine lv_iload hx hb dL_agrees_280 (lv_at hl 2 rfl) ?_
                        refine callQ_i (As := [.int (nI b), .int (nI 3)]) (rest := []) (STi.fr (pre := [(ga, .inl (cI, 8, .inl (fun zz => nI ((mny t ci) zz))))]) (y_step_no l D (nI b) (nI 3) (stm_0 hb7 hn7 (by decide) hm) hPK)) hC hK hN hP hD hS rfl rfl q459 md_X7_step rfl hl.1 rfl (Nat.le_of_ble_eq_true rfl) dL_agrees_282 ⟨Nat.le_of_ble_eq_true rfl, Nat.le_of_ble_eq_true rfl⟩ ⟨Nat.le_of_ble_eq_true rfl, Nat.le_of_ble_eq_true rfl⟩ (fun r w9 H locs hq hP hD hS => ?_)
                        obtain ⟨w_282, hq, hp⟩ := hq
                        have hP : va_P D vwCl (gW cI cJ cB ga 8 (fun zz => nI ((mny t ci) zz)) w_282) H := va_P_perm hp hP
                        have hD : va_D A (gW cI cJ cB ga 8 (fun zz => nI ((mny t ci) zz)) w_282) := va_D_perm hp hD
                        obtain ⟨hPK, hr9⟩ := hq
                        have hr9 : r = (-2) := hr9.trans (str_0 hb7 hn7 (by decide) hm)
                        rw [hr9]
                        refine lv_istore (lv' := [(13, .int (-2)), (12, .int (nI (tps t b) + offs (twd t) 3)), (10, .int (nI (dset (mv4 t b) 3))), (11, .int (nI 3)), (9, .int (nI (tps t b))), (8, .int (nI b)), (6, .long fpv), (4, .int (nI (fre t ci))), (5, .ref ga), (3, .int (nI ((twd t) * (thd t)))), (2, .int (nI (twd t))), (1, .int (nI (tnb t))), (0, .ref xo)]) hx hb dL_agrees_285 hl (by decide) rfl (fun ls hl => ?_)
                        refine lv_iload hx hb dL_agrees_287 (lv_at hl 2 rfl) ?_
                        refine lv_iload hx hb dL_agrees_289 (lv_at hl 0 rfl) ?_
                        refine lv_if_lt (tgt := 301) hx hb dL_agrees_291 (by decide) (fun _ => ?_) (fun h => absurd (by decide) h)
                        refine lv_iconst (v := nI 0) hx hb dL_agrees_301 (by decide) ?_
                        refine n_ior hx hb dL_agrees_302  ?_
                        refine topi (y := nI (dset (mv4 t b) (3 + 1))) (dset_s0 hm) ?_
                        refine lv_istore (lv' := [(10, .int (nI (dset (mv4 t b) (3 + 1)))), (13, .int (-2)), (12, .int (nI (tps t b) + offs (twd t) 3)), (11, .int (nI 3)), (9, .int (nI (tps t b))), (8, .int (nI b)), (6, .long fpv), (4, .int (nI (fre t ci))), (5, .ref ga), (3, .int (nI ((twd t) * (thd t)))), (2, .int (nI (twd t))), (1, .int (nI (tnb t))), (0, .ref xo)]) hx hb dL_agrees_303 hl (by decide) rfl (fun ls hl => ?_)
                        refine lv_iload hx hb dL_agrees_305 (lv_at hl 1 rfl) ?_
                        refine lv_if_lt (tgt := 336) hx hb dL_agrees_307 (by decide) (fun _ => ?_) (fun h => absurd (by decide) h)
                        refine lv_iload hx hb dL_agrees_336 (lv_at hl 1 rfl) ?_
                        refine lv_if_ge (tgt := 348) hx hb dL_agrees_338 (by decide) (fun h => absurd h (by decide)) (fun _ => ?_)
                        refine lv_iload hx hb dL_agrees_341 (lv_at hl 1 rfl) ?_
                        refine lv_bipush (v := (-2)) hx hb dL_agrees_343 (by decide) ?_
                        refine lv_icmp_ne (tgt := 360) hx hb dL_agrees_345 (by decide) (fun h => absurd rfl h) (fun _ => ?_)
                        refine lv_aload_n hx hb dL_agrees_348 rfl (lv_at hl 12 rfl) ?_
                        refine lv_iload hx hb dL_agrees_349 (lv_at hl 5 rfl) ?_
                        refine lv_iconst (v := nI 0) hx hb dL_agrees_351 (by decide) ?_
                        refine callQ_i (As := [.int (nI b), .int (nI 0)]) (rest := []) (STi.fr (pre := [(ga, .inl (cI, 8, .inl (fun zz => nI ((mny t ci) zz))))]) (y_block l D (nI b) (nI 0)  hPK)) hC hK hN hP hD hS rfl rfl q421 md_X7_block rfl hl.1 rfl (Nat.le_of_ble_eq_true rfl) dL_agrees_352 ⟨Nat.le_of_ble_eq_true rfl, Nat.le_of_ble_eq_true rfl⟩ ⟨Nat.le_of_ble_eq_true rfl, Nat.le_of_ble_eq_true rfl⟩ (fun r w9 H locs hq hP hD hS => ?_)
                        obtain ⟨w_352, hq, hp⟩ := hq
                        have hP : va_P D vwCl (gW cI cJ cB ga 8 (fun zz => nI ((mny t ci) zz)) w_352) H := va_P_perm hp hP
                        have hD : va_D A (gW cI cJ cB ga 8 (fun zz => nI ((mny t ci) zz)) w_352) := va_D_perm hp hD
                        obtain ⟨hPK, hr9⟩ := hq
                        have hr9 : r = nI (tps t b) := hr9.trans (blx (b := b) (k := 0) hb7 hn7 (by decide))
                        rw [hr9]
                        refine lv_iload hx hb dL_agrees_355 (lv_at hl 4 rfl) ?_
                        refine n_icmp_eq (a := tps t b) (b := tps t b) (tgt := 362) hx hb dL_agrees_357 (by decide) (by omega) (by omega) (fun _ => ?_) (fun h9 => absurd h9 (by omega))
                        refine lv_iinc (v := nI (3 + 1)) (lv' := [(11, .int (nI (3 + 1))), (10, .int (nI (dset (mv4 t b) (3 + 1)))), (13, .int (-2)), (12, .int (nI (tps t b) + offs (twd t) 3)), (9, .int (nI (tps t b))), (8, .int (nI b)), (6, .long fpv), (4, .int (nI (fre t ci))), (5, .ref ga), (3, .int (nI ((twd t) * (thd t)))), (2, .int (nI (twd t))), (1, .int (nI (tnb t))), (0, .ref xo)]) hx hb dL_agrees_362 hl (k := 3) rfl (nI_1 _) (by decide) rfl (fun ls hl => ?_)
                        refine lv_goto (tgt := 235) hx hb dL_agrees_365 (by decide) ?_
                        exact ih235 (3 + 1) w_352 (by omega) hPK (by omega) _ _ hP hD hS _ (lv_sub hl [1, 0, 4, 5, 6, 7, 8, 9, 10, 11, 12] rfl)
                      · have _ : True := trivial
                        have hq24 : q < 24 := mv4_lt hT hb7 hm
                        refine lv_aload_n hx hb dL_agrees_277 rfl (lv_at hl 11 rfl) ?_
                        refine lv_iload hx hb dL_agrees_278 (lv_at hl 4 rfl) ?_
                        refine lv_iload hx hb dL_agrees_280 (lv_at hl 2 rfl) ?_
                        refine callQ_i (As := [.int (nI b), .int (nI 3)]) (rest := []) (STi.fr (pre := [(ga, .inl (cI, 8, .inl (fun zz => nI ((mny t ci) zz))))]) (y_step_go l D (nI b) (nI 3) (Nat.zero_le _) (stm_1 hb7 hn7 (by decide) hm) hPK)) hC hK hN hP hD hS rfl rfl q459 md_X7_step rfl hl.1 rfl (Nat.le_of_ble_eq_true rfl) dL_agrees_282 ⟨Nat.le_of_ble_eq_true rfl, Nat.le_of_ble_eq_true rfl⟩ ⟨Nat.le_of_ble_eq_true rfl, Nat.le_of_ble_eq_true rfl⟩ (fun r w9 H locs hq hP hD hS => ?_)
                        obtain ⟨w_282, hq, hp⟩ := hq
                        have hP : va_P D vwCl (gW cI cJ cB ga 8 (fun zz => nI ((mny t ci) zz)) w_282) H := va_P_perm hp hP
                        have hD : va_D A (gW cI cJ cB ga 8 (fun zz => nI ((mny t ci) zz)) w_282) := va_D_perm hp hD
                        obtain ⟨hPK, hr9⟩ := hq
                        have hr9 : r = nI q := hr9.trans (str_1 hb7 hn7 (by decide) hm)
                        rw [hr9]
                        refine lv_istore (lv' := [(13, .int (nI q)), (12, .int (nI (tps t b) + offs (twd t) 3)), (10, .int (nI (dset (mv4 t b) 3))), (11, .int (nI 3)), (9, .int (nI (tps t b))), (8, .int (nI b)), (6, .long fpv), (4, .int (nI (fre t ci))), (5, .ref ga), (3, .int (nI ((twd t) * (thd t)))), (2, .int (nI (twd t))), (1, .int (nI (tnb t))), (0, .ref xo)]) hx hb dL_agrees_285 hl (by decide) rfl (fun ls hl => ?_)
                        refine lv_iload hx hb dL_agrees_287 (lv_at hl 2 rfl) ?_
                        refine lv_iload hx hb dL_agrees_289 (lv_at hl 0 rfl) ?_
                        refine n_if_lt (tgt := 301) hx hb dL_agrees_291 (by decide) (by omega) ?_
                        refine lv_iconst (v := nI 1) hx hb dL_agrees_294 (by decide) ?_
                        refine lv_iload hx hb dL_agrees_295 (lv_at hl 3 rfl) ?_
                        refine n_ishl hx hb dL_agrees_297 (by omega) ?_
                        refine lv_goto (tgt := 302) hx hb dL_agrees_298 (by decide) ?_
                        refine n_ior hx hb dL_agrees_302  ?_
                        refine topi (y := nI (dset (mv4 t b) (3 + 1))) (dset_s1 hm) ?_
                        refine lv_istore (lv' := [(10, .int (nI (dset (mv4 t b) (3 + 1)))), (13, .int (nI q)), (12, .int (nI (tps t b) + offs (twd t) 3)), (11, .int (nI 3)), (9, .int (nI (tps t b))), (8, .int (nI b)), (6, .long fpv), (4, .int (nI (fre t ci))), (5, .ref ga), (3, .int (nI ((twd t) * (thd t)))), (2, .int (nI (twd t))), (1, .int (nI (tnb t))), (0, .ref xo)]) hx hb dL_agrees_303 hl (by decide) rfl (fun ls hl => ?_)
                        refine lv_iload hx hb dL_agrees_305 (lv_at hl 1 rfl) ?_
                        refine n_if_lt (tgt := 336) hx hb dL_agrees_307 (by decide) (by omega) ?_
                        refine lv_iload hx hb dL_agrees_310 (lv_at hl 1 rfl) ?_
                        refine lv_iload hx hb dL_agrees_312 (lv_at hl 2 rfl) ?_
                        refine lv_icmp_ne (tgt := 360) hx hb dL_agrees_314 (by decide) (fun h9 => absurd h9 (fun h => h (offs_add hw1 (mvt_inv hm).1).symm)) (fun _ => ?_)
                        refine lv_aload_n hx hb dL_agrees_317 rfl (lv_at hl 12 rfl) ?_
                        refine lv_iload hx hb dL_agrees_318 (lv_at hl 5 rfl) ?_
                        refine lv_iconst (v := nI 0) hx hb dL_agrees_320 (by decide) ?_
                        refine callQ_i (As := [.int (nI b), .int (nI 0)]) (rest := []) (STi.fr (pre := [(ga, .inl (cI, 8, .inl (fun zz => nI ((mny t ci) zz))))]) (y_block l D (nI b) (nI 0)  hPK)) hC hK hN hP hD hS rfl rfl q421 md_X7_block rfl hl.1 rfl (Nat.le_of_ble_eq_true rfl) dL_agrees_321 ⟨Nat.le_of_ble_eq_true rfl, Nat.le_of_ble_eq_true rfl⟩ ⟨Nat.le_of_ble_eq_true rfl, Nat.le_of_ble_eq_true rfl⟩ (fun r w9 H locs hq hP hD hS => ?_)
                        obtain ⟨w_321, hq, hp⟩ := hq
                        have hP : va_P D vwCl (gW cI cJ cB ga 8 (fun zz => nI ((mny t ci) zz)) w_321) H := va_P_perm hp hP
                        have hD : va_D A (gW cI cJ cB ga 8 (fun zz => nI ((mny t ci) zz)) w_321) := va_D_perm hp hD
                        obtain ⟨hPK, hr9⟩ := hq
                        have hr9 : r = nI q := hr9.trans ((blx (b := b) (k := 0) hb7 hn7 (by decide)).trans (congrArg nI (up_eq _ _ _)))
                        rw [hr9]
                        refine lv_iload hx hb dL_agrees_324 (lv_at hl 2 rfl) ?_
                        refine lv_icmp_ne (tgt := 360) hx hb dL_agrees_326 (by decide) (fun h9 => absurd h9 (fun h => h (offs_add hw1 (mvt_inv hm).1).symm)) (fun _ => ?_)
                        refine lv_aload_n hx hb dL_agrees_329 rfl (lv_at hl 12 rfl) ?_
                        refine callQ_i (As := []) (rest := []) (STi.fr (pre := [(ga, .inl (cI, 8, .inl (fun zz => nI ((mny t ci) zz))))]) (y_undo l D   hPK)) hC hK hN hP hD hS rfl rfl q528 md_X7_undo rfl hl.1 rfl (Nat.le_of_ble_eq_true rfl) dL_agrees_330 ⟨Nat.le_of_ble_eq_true rfl, Nat.le_of_ble_eq_true rfl⟩ ⟨Nat.le_of_ble_eq_true rfl, Nat.le_of_ble_eq_true rfl⟩ (fun r w9 H locs hq hP hD hS => ?_)
                        obtain ⟨w_330, hq, hp⟩ := hq
                        have hP : va_P D vwCl (gW cI cJ cB ga 8 (fun zz => nI ((mny t ci) zz)) w_330) H := va_P_perm hp hP
                        have hD : va_D A (gW cI cJ cB ga 8 (fun zz => nI ((mny t ci) zz)) w_330) := va_D_perm hp hD
                        obtain ⟨hPK, j9, hj9, hr9⟩ := hq
                        have hr9 : r = nI j9 := hr9
                        rw [hr9]
                        refine n_if_lt (tgt := 360) hx hb dL_agrees_333 (by decide) (by omega) ?_
                        refine lv_iload hx hb dL_agrees_336 (lv_at hl 1 rfl) ?_
                        refine n_if_ge (tgt := 348) hx hb dL_agrees_338 (by decide) (by omega) ?_
                        refine lv_aload_n hx hb dL_agrees_348 rfl (lv_at hl 12 rfl) ?_
                        refine lv_iload hx hb dL_agrees_349 (lv_at hl 5 rfl) ?_
                        refine lv_iconst (v := nI 0) hx hb dL_agrees_351 (by decide) ?_
                        refine callQ_i (As := [.int (nI b), .int (nI 0)]) (rest := []) (STi.fr (pre := [(ga, .inl (cI, 8, .inl (fun zz => nI ((mny t ci) zz))))]) (y_block l D (nI b) (nI 0)  hPK)) hC hK hN hP hD hS rfl rfl q421 md_X7_block rfl hl.1 rfl (Nat.le_of_ble_eq_true rfl) dL_agrees_352 ⟨Nat.le_of_ble_eq_true rfl, Nat.le_of_ble_eq_true rfl⟩ ⟨Nat.le_of_ble_eq_true rfl, Nat.le_of_ble_eq_true rfl⟩ (fun r w9 H locs hq hP hD hS => ?_)
                        obtain ⟨w_352, hq, hp⟩ := hq
                        have hP : va_P D vwCl (gW cI cJ cB ga 8 (fun zz => nI ((mny t ci) zz)) w_352) H := va_P_perm hp hP
                        have hD : va_D A (gW cI cJ cB ga 8 (fun zz => nI ((mny t ci) zz)) w_352) := va_D_perm hp hD
                        obtain ⟨hPK, hr9⟩ := hq
                        have hr9 : r = nI (tps t b) := hr9.trans (blx (b := b) (k := 0) hb7 hn7 (by decide))
                        rw [hr9]
                        refine lv_iload hx hb dL_agrees_355 (lv_at hl 4 rfl) ?_
                        refine n_icmp_eq (a := tps t b) (b := tps t b) (tgt := 362) hx hb dL_agrees_357 (by decide) (by omega) (by omega) (fun _ => ?_) (fun h9 => absurd h9 (by omega))
                        refine lv_iinc (v := nI (3 + 1)) (lv' := [(11, .int (nI (3 + 1))), (10, .int (nI (dset (mv4 t b) (3 + 1)))), (13, .int (nI q)), (12, .int (nI (tps t b) + offs (twd t) 3)), (9, .int (nI (tps t b))), (8, .int (nI b)), (6, .long fpv), (4, .int (nI (fre t ci))), (5, .ref ga), (3, .int (nI ((twd t) * (thd t)))), (2, .int (nI (twd t))), (1, .int (nI (tnb t))), (0, .ref xo)]) hx hb dL_agrees_362 hl (k := 3) rfl (nI_1 _) (by decide) rfl (fun ls hl => ?_)
                        refine lv_goto (tgt := 235) hx hb dL_agrees_365 (by decide) ?_
                        exact ih235 (3 + 1) w_352 (by omega) hPK (by omega) _ _ hP hD hS _ (lv_sub hl [1, 0, 4, 5, 6, 7, 8, 9, 10, 11, 12] rfl)
              exact L235 _ 0 w_224 (by omega) hPK (Nat.lt_succ_self _) _ _ hP hD hS _ (lv_sub hl [1, 0, 2, 3, 4, 5, 6, 7, 8, 9, 10] rfl)
        exact L124 _ 0 w_116 (by omega) hPK (Nat.lt_succ_self _) _ _ hP hD hS _ (lv_sub hl [0, 1, 2, 3, 4, 5, 6, 7] rfl)
      · have _ : True := trivial
        refine lv_aload_n hx hb dL_agrees_38 rfl (lv_at hl 6 rfl) ?_
        refine lv_iload hx hb dL_agrees_39 (lv_at hl 1 rfl) ?_
        refine callQ_i (As := [.int (nI ci)]) (rest := []) (STi.fr (pre := [(ga, .inl (cI, 8, .inl (fun zz => nI ((mny t ci) zz))))]) (y_cell l D (nI ci)  hPK)) hC hK hN hP hD hS rfl rfl q412 md_X7_cell rfl hl.1 rfl (Nat.le_of_ble_eq_true rfl) dL_agrees_41 ⟨Nat.le_of_ble_eq_true rfl, Nat.le_of_ble_eq_true rfl⟩ ⟨Nat.le_of_ble_eq_true rfl, Nat.le_of_ble_eq_true rfl⟩ (fun r w9 H locs hq hP hD hS => ?_)
        obtain ⟨w_41, hq, hp⟩ := hq
        have hP : va_P D vwCl (gW cI cJ cB ga 8 (fun zz => nI ((mny t ci) zz)) w_41) H := va_P_perm hp hP
        have hD : va_D A (gW cI cJ cB ga 8 (fun zz => nI ((mny t ci) zz)) w_41) := va_D_perm hp hD
        obtain ⟨hPK, hr9⟩ := hq
        have hr9 : r = f_cel (twl t) (tsh t) (tps t) ci (tnb t) := hr9.trans (clx (by omega) hc24)
        rw [hr9]
        rcases cel_3 hT ci with ⟨b, hb7, ho7, hv7, hk7⟩ | ⟨ho7, hv7, hk7⟩ | ⟨ho7, hv7, hk7⟩
        · have _ : True := trivial
          refine topi (y := nI b) hv7 ?_
          refine lv_istore (lv' := [(7, .int (nI b)), (4, .int (nI (fre t ci))), (6, .int (nI ci)), (5, .ref ga), (3, .int (nI ((twd t) * (thd t)))), (2, .int (nI (twd t))), (1, .int (nI (tnb t))), (0, .ref xo)]) hx hb dL_agrees_44 hl (by decide) rfl (fun ls hl => ?_)
          refine lv_iload hx hb dL_agrees_46 (lv_at hl 1 rfl) ?_
          refine lv_iload hx hb dL_agrees_48 (lv_at hl 0 rfl) ?_
          refine lv_bipush (v := (-9)) hx hb dL_agrees_50 (by decide) ?_
          refine lv_icmp_ne (tgt := 59) hx hb dL_agrees_52 (by decide) (fun _ => ?_) (fun h9 => absurd h9 (nI_m9 (by omega)))
          refine lv_iconst (v := nI 0) hx hb dL_agrees_59 (by decide) ?_
          refine n_iadd hx hb dL_agrees_60  ?_
          refine topi (y := nI (fre t (ci + 1))) (fre_0 hk7) ?_
          refine lv_istore (lv' := [(4, .int (nI (fre t (ci + 1)))), (7, .int (nI b)), (6, .int (nI ci)), (5, .ref ga), (3, .int (nI ((twd t) * (thd t)))), (2, .int (nI (twd t))), (1, .int (nI (tnb t))), (0, .ref xo)]) hx hb dL_agrees_61 hl (by decide) rfl (fun ls hl => ?_)
          refine lv_iload hx hb dL_agrees_63 (lv_at hl 1 rfl) ?_
          refine lv_iload_n hx hb dL_agrees_65 rfl (lv_at hl 6 rfl) ?_
          refine n_icmp_ge (a := b) (b := tnb t) (tgt := 88) hx hb dL_agrees_66 (by decide) (by omega) (by omega) (fun h9 => absurd h9 (by omega)) (fun _ => ?_)
          refine lv_iload hx hb dL_agrees_69 (lv_at hl 1 rfl) ?_
          refine n_if_ge (tgt := 90) hx hb dL_agrees_71 (by decide) (by omega) ?_
          refine lv_aload hx hb dL_agrees_90 (lv_at hl 3 rfl) ?_
          refine lv_iload hx hb dL_agrees_92 (lv_at hl 1 rfl) ?_
          refine n_if_ge (tgt := 102) hx hb dL_agrees_94 (by decide) (by omega) ?_
          refine lv_iload hx hb dL_agrees_102 (lv_at hl 1 rfl) ?_
          refine lv_dup2_11 hx hb dL_agrees_104 rfl rfl ?_
          refine n_iald hx hb hK hP 0 0 rfl rfl (by omega) (by first | decide | omega) dL_agrees_105 ?_
          refine lv_iconst (v := nI 1) hx hb dL_agrees_106 (by decide) ?_
          refine n_iadd hx hb dL_agrees_107  ?_
          refine n_iast hx hb hK hP hD hS 0 0 rfl rfl (by omega) (by first | decide | omega) (up_nI _ _ _) (ws1 := gW cI cJ cB ga 8 (fun zz => nI ((va_up (mny t ci) b (((mny t ci) b) + 1)) zz)) w_41) rfl dL_agrees_108 (fun H locs hP hD hS => ?_)
          refine lv_iinc (v := nI (ci + 1)) (lv' := [(6, .int (nI (ci + 1))), (4, .int (nI (fre t (ci + 1)))), (7, .int (nI b)), (5, .ref ga), (3, .int (nI ((twd t) * (thd t)))), (2, .int (nI (twd t))), (1, .int (nI (tnb t))), (0, .ref xo)]) hx hb dL_agrees_109 hl (k := 2) rfl (nI_1 _) (by decide) rfl (fun ls hl => ?_)
          refine lv_goto (tgt := 32) hx hb dL_agrees_112 (by decide) ?_
          have e9 : va_up (mny t ci) b (mny t ci b + 1) = mny t (ci + 1) := mny_up ho7
          rw [e9] at hP hD
          exact ih32 (ci + 1) w_41 (by omega) hPK (by omega) _ _ hP hD hS _ (lv_sub hl [1, 0, 3, 4, 5, 6, 7] rfl)
        · have _ : True := trivial
          refine topi (y := -9) hv7 ?_
          refine lv_istore (lv' := [(7, .int (-9)), (4, .int (nI (fre t ci))), (6, .int (nI ci)), (5, .ref ga), (3, .int (nI ((twd t) * (thd t)))), (2, .int (nI (twd t))), (1, .int (nI (tnb t))), (0, .ref xo)]) hx hb dL_agrees_44 hl (by decide) rfl (fun ls hl => ?_)
          refine lv_iload hx hb dL_agrees_46 (lv_at hl 1 rfl) ?_
          refine lv_iload hx hb dL_agrees_48 (lv_at hl 0 rfl) ?_
          refine lv_bipush (v := (-9)) hx hb dL_agrees_50 (by decide) ?_
          refine lv_icmp_ne (tgt := 59) hx hb dL_agrees_52 (by decide) (fun h => absurd rfl h) (fun _ => ?_)
          refine lv_iconst (v := nI 1) hx hb dL_agrees_55 (by decide) ?_
          refine lv_goto (tgt := 60) hx hb dL_agrees_56 (by decide) ?_
          refine n_iadd hx hb dL_agrees_60  ?_
          refine topi (y := nI (fre t (ci + 1))) (fre_1 hk7) ?_
          refine lv_istore (lv' := [(4, .int (nI (fre t (ci + 1)))), (7, .int (-9)), (6, .int (nI ci)), (5, .ref ga), (3, .int (nI ((twd t) * (thd t)))), (2, .int (nI (twd t))), (1, .int (nI (tnb t))), (0, .ref xo)]) hx hb dL_agrees_61 hl (by decide) rfl (fun ls hl => ?_)
          refine lv_iload hx hb dL_agrees_63 (lv_at hl 1 rfl) ?_
          refine lv_iload_n hx hb dL_agrees_65 rfl (lv_at hl 6 rfl) ?_
          refine lv_icmp_ge (tgt := 88) hx hb dL_agrees_66 (by decide) (fun h9 => absurd h9 (m9_ge (by omega))) (fun _ => ?_)
          refine lv_iload hx hb dL_agrees_69 (lv_at hl 1 rfl) ?_
          refine lv_if_ge (tgt := 90) hx hb dL_agrees_71 (by decide) (fun h => absurd h (by decide)) (fun _ => ?_)
          refine lv_iload hx hb dL_agrees_74 (lv_at hl 1 rfl) ?_
          refine lv_bipush (v := (-9)) hx hb dL_agrees_76 (by decide) ?_
          refine lv_icmp_eq (tgt := 90) hx hb dL_agrees_78 (by decide) (fun _ => ?_) (fun h => absurd rfl h)
          refine lv_aload hx hb dL_agrees_90 (lv_at hl 3 rfl) ?_
          refine lv_iload hx hb dL_agrees_92 (lv_at hl 1 rfl) ?_
          refine lv_if_ge (tgt := 102) hx hb dL_agrees_94 (by decide) (fun h => absurd h (by decide)) (fun _ => ?_)
          refine lv_bipush (v := nI 7) hx hb dL_agrees_97 (by decide) ?_
          refine lv_goto (tgt := 104) hx hb dL_agrees_99 (by decide) ?_
          refine lv_dup2_11 hx hb dL_agrees_104 rfl rfl ?_
          refine n_iald hx hb hK hP 0 0 rfl rfl (by omega) (by first | decide | omega) dL_agrees_105 ?_
          refine lv_iconst (v := nI 1) hx hb dL_agrees_106 (by decide) ?_
          refine n_iadd hx hb dL_agrees_107  ?_
          refine n_iast hx hb hK hP hD hS 0 0 rfl rfl (by omega) (by first | decide | omega) (up_nI _ _ _) (ws1 := gW cI cJ cB ga 8 (fun zz => nI ((va_up (mny t ci) 7 (((mny t ci) 7) + 1)) zz)) w_41) rfl dL_agrees_108 (fun H locs hP hD hS => ?_)
          refine lv_iinc (v := nI (ci + 1)) (lv' := [(6, .int (nI (ci + 1))), (4, .int (nI (fre t (ci + 1)))), (7, .int (-9)), (5, .ref ga), (3, .int (nI ((twd t) * (thd t)))), (2, .int (nI (twd t))), (1, .int (nI (tnb t))), (0, .ref xo)]) hx hb dL_agrees_109 hl (k := 2) rfl (nI_1 _) (by decide) rfl (fun ls hl => ?_)
          refine lv_goto (tgt := 32) hx hb dL_agrees_112 (by decide) ?_
          have e9 : va_up (mny t ci) 7 (mny t ci 7 + 1) = mny t (ci + 1) := mny_up ho7
          rw [e9] at hP hD
          exact ih32 (ci + 1) w_41 (by omega) hPK (by omega) _ _ hP hD hS _ (lv_sub hl [1, 0, 3, 4, 5, 6, 7] rfl)
        · have _ : True := trivial
          refine topi (y := -10) hv7 ?_
          refine lv_istore (lv' := [(7, .int (-10)), (4, .int (nI (fre t ci))), (6, .int (nI ci)), (5, .ref ga), (3, .int (nI ((twd t) * (thd t)))), (2, .int (nI (twd t))), (1, .int (nI (tnb t))), (0, .ref xo)]) hx hb dL_agrees_44 hl (by decide) rfl (fun ls hl => ?_)
          refine lv_iload hx hb dL_agrees_46 (lv_at hl 1 rfl) ?_
          refine lv_iload hx hb dL_agrees_48 (lv_at hl 0 rfl) ?_
          refine lv_bipush (v := (-9)) hx hb dL_agrees_50 (by decide) ?_
          refine lv_icmp_ne (tgt := 59) hx hb dL_agrees_52 (by decide) (fun _ => ?_) (fun h => absurd h (by decide))
          refine lv_iconst (v := nI 0) hx hb dL_agrees_59 (by decide) ?_
          refine n_iadd hx hb dL_agrees_60  ?_
          refine topi (y := nI (fre t (ci + 1))) (fre_0 hk7) ?_
          refine lv_istore (lv' := [(4, .int (nI (fre t (ci + 1)))), (7, .int (-10)), (6, .int (nI ci)), (5, .ref ga), (3, .int (nI ((twd t) * (thd t)))), (2, .int (nI (twd t))), (1, .int (nI (tnb t))), (0, .ref xo)]) hx hb dL_agrees_61 hl (by decide) rfl (fun ls hl => ?_)
          refine lv_iload hx hb dL_agrees_63 (lv_at hl 1 rfl) ?_
          refine lv_iload_n hx hb dL_agrees_65 rfl (lv_at hl 6 rfl) ?_
          refine lv_icmp_ge (tgt := 88) hx hb dL_agrees_66 (by decide) (fun h9 => absurd h9 (m10_ge (by omega))) (fun _ => ?_)
          refine lv_iload hx hb dL_agrees_69 (lv_at hl 1 rfl) ?_
          refine lv_if_ge (tgt := 90) hx hb dL_agrees_71 (by decide) (fun h => absurd h (by decide)) (fun _ => ?_)
          refine lv_iload hx hb dL_agrees_74 (lv_at hl 1 rfl) ?_
          refine lv_bipush (v := (-9)) hx hb dL_agrees_76 (by decide) ?_
          refine lv_icmp_eq (tgt := 90) hx hb dL_agrees_78 (by decide) (fun h => absurd h (by decide)) (fun _ => ?_)
          refine lv_iload hx hb dL_agrees_81 (lv_at hl 1 rfl) ?_
          refine lv_bipush (v := (-10)) hx hb dL_agrees_83 (by decide) ?_
          refine lv_icmp_eq (tgt := 90) hx hb dL_agrees_85 (by decide) (fun _ => ?_) (fun h => absurd rfl h)
          refine lv_aload hx hb dL_agrees_90 (lv_at hl 3 rfl) ?_
          refine lv_iload hx hb dL_agrees_92 (lv_at hl 1 rfl) ?_
          refine lv_if_ge (tgt := 102) hx hb dL_agrees_94 (by decide) (fun h => absurd h (by decide)) (fun _ => ?_)
          refine lv_bipush (v := nI 7) hx hb dL_agrees_97 (by decide) ?_
          refine lv_goto (tgt := 104) hx hb dL_agrees_99 (by decide) ?_
          refine lv_dup2_11 hx hb dL_agrees_104 rfl rfl ?_
          refine n_iald hx hb hK hP 0 0 rfl rfl (by omega) (by first | decide | omega) dL_agrees_105 ?_
          refine lv_iconst (v := nI 1) hx hb dL_agrees_106 (by decide) ?_
          refine n_iadd hx hb dL_agrees_107  ?_
          refine n_iast hx hb hK hP hD hS 0 0 rfl rfl (by omega) (by first | decide | omega) (up_nI _ _ _) (ws1 := gW cI cJ cB ga 8 (fun zz => nI ((va_up (mny t ci) 7 (((mny t ci) 7) + 1)) zz)) w_41) rfl dL_agrees_108 (fun H locs hP hD hS => ?_)
          refine lv_iinc (v := nI (ci + 1)) (lv' := [(6, .int (nI (ci + 1))), (4, .int (nI (fre t (ci + 1)))), (7, .int (-10)), (5, .ref ga), (3, .int (nI ((twd t) * (thd t)))), (2, .int (nI (twd t))), (1, .int (nI (tnb t))), (0, .ref xo)]) hx hb dL_agrees_109 hl (k := 2) rfl (nI_1 _) (by decide) rfl (fun ls hl => ?_)
          refine lv_goto (tgt := 32) hx hb dL_agrees_112 (by decide) ?_
          have e9 : va_up (mny t ci) 7 (mny t ci 7 + 1) = mny t (ci + 1) := mny_up ho7
          rw [e9] at hP hD
          exact ih32 (ci + 1) w_41 (by omega) hPK (by omega) _ _ hP hD hS _ (lv_sub hl [1, 0, 3, 4, 5, 6, 7] rfl)
  have e9 : (fun _ => 0 : Nat → Nat) = mny t 0 := rfl
  rw [e9] at hP hD
  exact L32 _ 0 w_15 (by omega) hPK (Nat.lt_succ_self _) _ _ hP hD hS _ (lv_sub hl [2, 0, 1, 3, 4, 5, 6] rfl)
