/-! ===== p24: fails (written by w1.py) ===== -/
set_option maxHeartbeats 4000000 in
set_option maxRecDepth 100000 in
theorem c_L_fails (l : Launch) (D : va_G) (cI cJ cB : ClassId) {xo ln : Nat} {tx : Nat → Nat} {t : BT} {ws : va_W} (sz : Nat) (hln : ln ≤ 40) (hPK : PK cI cJ cB xo ln tx t [] ws) : Met l yL_fails (Cond.code yL_fails cL_fails 6 (some .boolean) :: lw_all) (rmC 8 0 0) (va_Pc [.ref xo] (pN D (tyz cI cJ cB) ws sz)) (va_Qi (fun (r : Int32) (w : va_W) => r = bI true ∧ PK cI cJ cB xo ln tx t [] w) (nB D (va_A ws sz)) (va_A ws sz)) 0 0 (va_A ws sz) := by
  refine Met.ofW (cc := cL_fails) (maxL := 6) (ret := (some .boolean)) (by decide) rfl ?_
  intro p e s m args below meth c s₁ B hml hv
  obtain ⟨rfl, hsz, hO, hK, hN, hP, hD0⟩ := hv
  subst hsz
  have hx := B.exec; have hb := B.bytes; have hr := B.returns; have hlocks := B.notSynchronized
  have hts0 := atoms_spec (ws := Cond.code yL_fails cL_fails 6 (some .boolean) :: lw_all) B.pre
  have hC : CallFix p m c cL_fails 6 s _ lw_all RL := ⟨hx, hb, hml, findClass_of_methodNamed B.named, fun w h => hts0 w (List.mem_cons_of_mem _ h)⟩
  have hA : ∀ q : Nat, s.heap.size ≤ q → va_A ws s.heap.size q := fun q h => Or.inr h
  have hD : va_D (va_A ws s.heap.size) ws := ⟨hD0.1, fun k q h => Or.inl ⟨k, q.2, h⟩⟩
  generalize hAe : va_A ws s.heap.size = A at hA hD ⊢
  have hS : va_S A s.heap s.heap [] := va_S.rf
  have hl := lv_entry ([.ref xo]) (n := 6) (Nat.le_of_ble_eq_true rfl)
  rw [lg_entry_eq]
  generalize (lg_sl ([.ref xo]) ++ List.replicate (6 - (lg_sl ([.ref xo])).length) Slot.unset).toArray = ls at hl ⊢
  have hl : lv_has ls 6 [(0, .ref xo)] := hl
  generalize hav : ([.ref xo] : List Value).toArray = args at hC ⊢
  refine W_gen (fun QQ hQ => ?_)
  show W p l e (rmC 8 0 0) s m args below meth c s.heap [] 0 0 QQ (F0 m 0 ls [])
  obtain ⟨fpv, hfp⟩ : ∃ v, f_fp (twd t) (thd t) (tnb t) (twl t) (tst t) (tsl t) (tgl t) (taq t) (tsh t) (tbw t) (tbh t) (tps t) = v := ⟨_, rfl⟩
  have hn7 : tnb t ≤ 7 := TV_n hPK.tv
  have hc24 : twd t * thd t ≤ 24 := TV_c hPK.tv
  have hgl := TV_g hPK.tv
  refine lv_aload_n hx hb dL_fails_0 rfl (lv_at hl 0 rfl) ?_
  refine callQ_l (As := []) (rest := []) (y_fingerprint l D   hPK) hC hK hN hP hD hS rfl rfl q547 md_X7_fingerprint rfl hl.1 rfl (Nat.le_of_ble_eq_true rfl) dL_fails_1 ⟨Nat.le_of_ble_eq_true rfl, Nat.le_of_ble_eq_true rfl⟩ ⟨Nat.le_of_ble_eq_true rfl, Nat.le_of_ble_eq_true rfl⟩ (fun r w_1 H locs hq hP hD hS => ?_)
  obtain ⟨hPK, hr9⟩ := hq
  have hr9 : r = fpv := hr9.trans hfp
  rw [hr9]
  refine lv_lstore_n (lv' := [(1, .long fpv), (0, .ref xo)]) hx hb dL_fails_4 rfl hl (by decide) rfl (fun ls hl => ?_)
  refine lv_aload_n hx hb dL_fails_5 rfl (lv_at hl 1 rfl) ?_
  refine lv_iconst (v := nI 2) hx hb dL_fails_6 (by decide) ?_
  refine callQ_i (As := [.int (nI 2)]) (rest := []) (y_frame l D (nI 2)  hPK) hC hK hN hP hD hS rfl rfl q389 md_X7_frame rfl hl.1 rfl (Nat.le_of_ble_eq_true rfl) dL_fails_7 ⟨Nat.le_of_ble_eq_true rfl, Nat.le_of_ble_eq_true rfl⟩ ⟨Nat.le_of_ble_eq_true rfl, Nat.le_of_ble_eq_true rfl⟩ (fun r w_7 H locs hq hP hD hS => ?_)
  obtain ⟨hPK, hr9⟩ := hq
  have hr9 : r = nI (tnb t) := hr9.trans (frx (k := 2) (by decide))
  rw [hr9]
  refine lv_istore_n (lv' := [(3, .int (nI (tnb t))), (1, .long fpv), (0, .ref xo)]) hx hb dL_fails_10 rfl hl (by decide) rfl (fun ls hl => ?_)
  refine lv_aload_n hx hb dL_fails_11 rfl (lv_at hl 2 rfl) ?_
  refine lv_iconst (v := nI 0) hx hb dL_fails_12 (by decide) ?_
  refine callQ_i (As := [.int (nI 0)]) (rest := []) (y_frame l D (nI 0)  hPK) hC hK hN hP hD hS rfl rfl q389 md_X7_frame rfl hl.1 rfl (Nat.le_of_ble_eq_true rfl) dL_fails_13 ⟨Nat.le_of_ble_eq_true rfl, Nat.le_of_ble_eq_true rfl⟩ ⟨Nat.le_of_ble_eq_true rfl, Nat.le_of_ble_eq_true rfl⟩ (fun r w_13 H locs hq hP hD hS => ?_)
  obtain ⟨hPK, hr9⟩ := hq
  have hr9 : r = nI (twd t) := hr9.trans (frx (k := 0) (by decide))
  rw [hr9]
  refine lv_aload_n hx hb dL_fails_16 rfl (lv_at hl 2 rfl) ?_
  refine lv_iconst (v := nI 1) hx hb dL_fails_17 (by decide) ?_
  refine callQ_i (As := [.int (nI 1)]) (rest := [.int (nI (twd t))]) (y_frame l D (nI 1)  hPK) hC hK hN hP hD hS rfl rfl q389 md_X7_frame rfl hl.1 rfl (Nat.le_of_ble_eq_true rfl) dL_fails_18 ⟨Nat.le_of_ble_eq_true rfl, Nat.le_of_ble_eq_true rfl⟩ ⟨Nat.le_of_ble_eq_true rfl, Nat.le_of_ble_eq_true rfl⟩ (fun r w_18 H locs hq hP hD hS => ?_)
  obtain ⟨hPK, hr9⟩ := hq
  have hr9 : r = nI (thd t) := hr9.trans (frx (k := 1) (by decide))
  rw [hr9]
  refine n_imul hx hb dL_fails_21  ?_
  refine lv_istore (lv' := [(4, .int (nI ((twd t) * (thd t)))), (3, .int (nI (tnb t))), (1, .long fpv), (0, .ref xo)]) hx hb dL_fails_22 hl (by decide) rfl (fun ls hl => ?_)
  refine lv_aload_n hx hb dL_fails_24 rfl (lv_at hl 3 rfl) ?_
  refine lv_bipush (v := nI 31) hx hb dL_fails_25 (by decide) ?_
  refine callQ_i (As := [.int (nI 31)]) (rest := []) (y_type_no l D (nI 31) hln (by decide) hPK) hC hK hN hP hD hS rfl rfl q608 md_X7_type rfl hl.1 rfl (Nat.le_of_ble_eq_true rfl) dL_fails_27 ⟨Nat.le_of_ble_eq_true rfl, Nat.le_of_ble_eq_true rfl⟩ ⟨Nat.le_of_ble_eq_true rfl, Nat.le_of_ble_eq_true rfl⟩ (fun r w_27 H locs hq hP hD hS => ?_)
  obtain ⟨hPK, hr9⟩ := hq
  have hr9 : r = (-1) := hr9
  rw [hr9]
  refine lv_iconst (v := -1) hx hb dL_fails_30 (by decide) ?_
  refine lv_icmp_ne (tgt := 179) hx hb dL_fails_31 (by decide) (fun h => absurd rfl h) (fun _ => ?_)
  refine lv_aload_n hx hb dL_fails_34 rfl (lv_at hl 3 rfl) ?_
  refine lv_bipush (v := nI 9) hx hb dL_fails_35 (by decide) ?_
  refine callQ_i (As := [.int (nI 9)]) (rest := []) (y_frame l D (nI 9)  hPK) hC hK hN hP hD hS rfl rfl q389 md_X7_frame rfl hl.1 rfl (Nat.le_of_ble_eq_true rfl) dL_fails_37 ⟨Nat.le_of_ble_eq_true rfl, Nat.le_of_ble_eq_true rfl⟩ ⟨Nat.le_of_ble_eq_true rfl, Nat.le_of_ble_eq_true rfl⟩ (fun r w_37 H locs hq hP hD hS => ?_)
  obtain ⟨hPK, hr9⟩ := hq
  have hr9 : r = (-1) := hr9.trans (frx_no (bOf_ge (by decide) (by decide)))
  rw [hr9]
  refine lv_iconst (v := -1) hx hb dL_fails_40 (by decide) ?_
  refine lv_icmp_ne (tgt := 179) hx hb dL_fails_41 (by decide) (fun h => absurd rfl h) (fun _ => ?_)
  refine lv_aload_n hx hb dL_fails_44 rfl (lv_at hl 3 rfl) ?_
  refine lv_iload hx hb dL_fails_45 (lv_at hl 0 rfl) ?_
  refine callQ_i (As := [.int (nI ((twd t) * (thd t)))]) (rest := []) (y_cell l D (nI ((twd t) * (thd t)))  hPK) hC hK hN hP hD hS rfl rfl q412 md_X7_cell rfl hl.1 rfl (Nat.le_of_ble_eq_true rfl) dL_fails_47 ⟨Nat.le_of_ble_eq_true rfl, Nat.le_of_ble_eq_true rfl⟩ ⟨Nat.le_of_ble_eq_true rfl, Nat.le_of_ble_eq_true rfl⟩ (fun r w_47 H locs hq hP hD hS => ?_)
  obtain ⟨hPK, hr9⟩ := hq
  have hr9 : r = (-1) := hr9.trans (clx_no (bOf_ge (Nat.le_refl _) (by omega)))
  rw [hr9]
  refine lv_iconst (v := -1) hx hb dL_fails_50 (by decide) ?_
  refine lv_icmp_ne (tgt := 179) hx hb dL_fails_51 (by decide) (fun h => absurd rfl h) (fun _ => ?_)
  refine lv_aload_n hx hb dL_fails_54 rfl (lv_at hl 3 rfl) ?_
  refine lv_iconst (v := -1) hx hb dL_fails_55 (by decide) ?_
  refine callQ_i (As := [.int (-1)]) (rest := []) (y_cell l D (-1)  hPK) hC hK hN hP hD hS rfl rfl q412 md_X7_cell rfl hl.1 rfl (Nat.le_of_ble_eq_true rfl) dL_fails_56 ⟨Nat.le_of_ble_eq_true rfl, Nat.le_of_ble_eq_true rfl⟩ ⟨Nat.le_of_ble_eq_true rfl, Nat.le_of_ble_eq_true rfl⟩ (fun r w_56 H locs hq hP hD hS => ?_)
  obtain ⟨hPK, hr9⟩ := hq
  have hr9 : r = (-1) := hr9.trans (clx_no bOf_m1)
  rw [hr9]
  refine lv_iconst (v := -1) hx hb dL_fails_59 (by decide) ?_
  refine lv_icmp_ne (tgt := 179) hx hb dL_fails_60 (by decide) (fun h => absurd rfl h) (fun _ => ?_)
  refine lv_aload_n hx hb dL_fails_63 rfl (lv_at hl 3 rfl) ?_
  refine lv_iload_n hx hb dL_fails_64 rfl (lv_at hl 1 rfl) ?_
  refine lv_iconst (v := nI 0) hx hb dL_fails_65 (by decide) ?_
  refine callQ_i (As := [.int (nI (tnb t)), .int (nI 0)]) (rest := []) (y_block l D (nI (tnb t)) (nI 0)  hPK) hC hK hN hP hD hS rfl rfl q421 md_X7_block rfl hl.1 rfl (Nat.le_of_ble_eq_true rfl) dL_fails_66 ⟨Nat.le_of_ble_eq_true rfl, Nat.le_of_ble_eq_true rfl⟩ ⟨Nat.le_of_ble_eq_true rfl, Nat.le_of_ble_eq_true rfl⟩ (fun r w_66 H locs hq hP hD hS => ?_)
  obtain ⟨hPK, hr9⟩ := hq
  have hr9 : r = (-1) := hr9.trans (blx_no1 (bOf_ge (Nat.le_refl _) (by omega)))
  rw [hr9]
  refine lv_iconst (v := -1) hx hb dL_fails_69 (by decide) ?_
  refine lv_icmp_ne (tgt := 179) hx hb dL_fails_70 (by decide) (fun h => absurd rfl h) (fun _ => ?_)
  refine lv_aload_n hx hb dL_fails_73 rfl (lv_at hl 3 rfl) ?_
  refine lv_iconst (v := nI 0) hx hb dL_fails_74 (by decide) ?_
  refine lv_bipush (v := nI 7) hx hb dL_fails_75 (by decide) ?_
  refine callQ_i (As := [.int (nI 0), .int (nI 7)]) (rest := []) (y_block l D (nI 0) (nI 7)  hPK) hC hK hN hP hD hS rfl rfl q421 md_X7_block rfl hl.1 rfl (Nat.le_of_ble_eq_true rfl) dL_fails_77 ⟨Nat.le_of_ble_eq_true rfl, Nat.le_of_ble_eq_true rfl⟩ ⟨Nat.le_of_ble_eq_true rfl, Nat.le_of_ble_eq_true rfl⟩ (fun r w_77 H locs hq hP hD hS => ?_)
  obtain ⟨hPK, hr9⟩ := hq
  have hr9 : r = (-1) := hr9.trans (blx_no2 (bOf_ge (by decide) (by decide)))
  rw [hr9]
  refine lv_iconst (v := -1) hx hb dL_fails_80 (by decide) ?_
  refine lv_icmp_ne (tgt := 179) hx hb dL_fails_81 (by decide) (fun h => absurd rfl h) (fun _ => ?_)
  refine lv_aload_n hx hb dL_fails_84 rfl (lv_at hl 3 rfl) ?_
  refine lv_iload_n hx hb dL_fails_85 rfl (lv_at hl 1 rfl) ?_
  refine lv_iconst (v := nI 0) hx hb dL_fails_86 (by decide) ?_
  refine callQ_i (As := [.int (nI (tnb t)), .int (nI 0)]) (rest := []) (y_step_no l D (nI (tnb t)) (nI 0) (stm_no1 (bOf_ge (Nat.le_refl _) (by omega))) hPK) hC hK hN hP hD hS rfl rfl q459 md_X7_step rfl hl.1 rfl (Nat.le_of_ble_eq_true rfl) dL_fails_87 ⟨Nat.le_of_ble_eq_true rfl, Nat.le_of_ble_eq_true rfl⟩ ⟨Nat.le_of_ble_eq_true rfl, Nat.le_of_ble_eq_true rfl⟩ (fun r w_87 H locs hq hP hD hS => ?_)
  obtain ⟨hPK, hr9⟩ := hq
  have hr9 : r = (-1) := hr9.trans (str_no1 (bOf_ge (Nat.le_refl _) (by omega)))
  rw [hr9]
  refine lv_iconst (v := -1) hx hb dL_fails_90 (by decide) ?_
  refine lv_icmp_ne (tgt := 179) hx hb dL_fails_91 (by decide) (fun h => absurd rfl h) (fun _ => ?_)
  refine lv_aload_n hx hb dL_fails_94 rfl (lv_at hl 3 rfl) ?_
  refine lv_iconst (v := nI 0) hx hb dL_fails_95 (by decide) ?_
  refine lv_iconst (v := nI 4) hx hb dL_fails_96 (by decide) ?_
  refine callQ_i (As := [.int (nI 0), .int (nI 4)]) (rest := []) (y_step_no l D (nI 0) (nI 4) (stm_no2 (bOf_ge (by decide) (by decide))) hPK) hC hK hN hP hD hS rfl rfl q459 md_X7_step rfl hl.1 rfl (Nat.le_of_ble_eq_true rfl) dL_fails_97 ⟨Nat.le_of_ble_eq_true rfl, Nat.le_of_ble_eq_true rfl⟩ ⟨Nat.le_of_ble_eq_true rfl, Nat.le_of_ble_eq_true rfl⟩ (fun r w_97 H locs hq hP hD hS => ?_)
  obtain ⟨hPK, hr9⟩ := hq
  have hr9 : r = (-1) := hr9.trans (str_no2 (bOf_ge (by decide) (by decide)))
  rw [hr9]
  refine lv_iconst (v := -1) hx hb dL_fails_100 (by decide) ?_
  refine lv_icmp_ne (tgt := 179) hx hb dL_fails_101 (by decide) (fun h => absurd rfl h) (fun _ => ?_)
  refine lv_aload_n hx hb dL_fails_104 rfl (lv_at hl 3 rfl) ?_
  refine lv_iload_n hx hb dL_fails_105 rfl (lv_at hl 1 rfl) ?_
  refine lv_iconst (v := nI 0) hx hb dL_fails_106 (by decide) ?_
  refine callQ_i (As := [.int (nI (tnb t)), .int (nI 0)]) (rest := []) (y_slide_no l D (nI (tnb t)) (nI 0) (slm_no1 (bOf_ge (Nat.le_refl _) (by omega))) hPK) hC hK hN hP hD hS rfl rfl q616 md_X7_slide rfl hl.1 rfl (Nat.le_of_ble_eq_true rfl) dL_fails_107 ⟨Nat.le_of_ble_eq_true rfl, Nat.le_of_ble_eq_true rfl⟩ ⟨Nat.le_of_ble_eq_true rfl, Nat.le_of_ble_eq_true rfl⟩ (fun r w_107 H locs hq hP hD hS => ?_)
  obtain ⟨hPK, hr9⟩ := hq
  have hr9 : r = (-1) := hr9.trans (slr_no1 (bOf_ge (Nat.le_refl _) (by omega)))
  rw [hr9]
  refine lv_iconst (v := -1) hx hb dL_fails_110 (by decide) ?_
  refine lv_icmp_ne (tgt := 179) hx hb dL_fails_111 (by decide) (fun h => absurd rfl h) (fun _ => ?_)
  refine lv_aload_n hx hb dL_fails_114 rfl (lv_at hl 3 rfl) ?_
  refine lv_iconst (v := nI 0) hx hb dL_fails_115 (by decide) ?_
  refine lv_iload hx hb dL_fails_116 (lv_at hl 0 rfl) ?_
  refine callQ_i (As := [.int (nI 0), .int (nI ((twd t) * (thd t)))]) (rest := []) (y_slide_no l D (nI 0) (nI ((twd t) * (thd t))) (slm_no2 (bOf_ge (Nat.le_refl _) (by omega))) hPK) hC hK hN hP hD hS rfl rfl q616 md_X7_slide rfl hl.1 rfl (Nat.le_of_ble_eq_true rfl) dL_fails_118 ⟨Nat.le_of_ble_eq_true rfl, Nat.le_of_ble_eq_true rfl⟩ ⟨Nat.le_of_ble_eq_true rfl, Nat.le_of_ble_eq_true rfl⟩ (fun r w_118 H locs hq hP hD hS => ?_)
  obtain ⟨hPK, hr9⟩ := hq
  have hr9 : r = (-1) := hr9.trans (slr_no2 (bOf_ge (Nat.le_refl _) (by omega)))
  rw [hr9]
  refine lv_iconst (v := -1) hx hb dL_fails_121 (by decide) ?_
  refine lv_icmp_ne (tgt := 179) hx hb dL_fails_122 (by decide) (fun h => absurd rfl h) (fun _ => ?_)
  refine lv_aload_n hx hb dL_fails_125 rfl (lv_at hl 3 rfl) ?_
  refine lv_iload_n hx hb dL_fails_126 rfl (lv_at hl 1 rfl) ?_
  refine lv_iconst (v := nI 0) hx hb dL_fails_127 (by decide) ?_
  refine callQ_i (As := [.int (nI (tnb t)), .int (nI 0)]) (rest := []) (y_goal_no l D (nI (tnb t)) (nI 0) (glm_no1 (bOf_ge (Nat.le_refl _) (by omega))) hPK) hC hK hN hP hD hS rfl rfl q468 md_X7_goal rfl hl.1 rfl (Nat.le_of_ble_eq_true rfl) dL_fails_128 ⟨Nat.le_of_ble_eq_true rfl, Nat.le_of_ble_eq_true rfl⟩ ⟨Nat.le_of_ble_eq_true rfl, Nat.le_of_ble_eq_true rfl⟩ (fun r w_128 H locs hq hP hD hS => ?_)
  obtain ⟨hPK, hr9⟩ := hq
  have hr9 : r = (-1) := hr9.trans (glr_no (glm_no1 (bOf_ge (Nat.le_refl _) (by omega))))
  rw [hr9]
  refine lv_iconst (v := -1) hx hb dL_fails_131 (by decide) ?_
  refine lv_icmp_ne (tgt := 179) hx hb dL_fails_132 (by decide) (fun h => absurd rfl h) (fun _ => ?_)
  refine lv_aload_n hx hb dL_fails_135 rfl (lv_at hl 3 rfl) ?_
  refine lv_iconst (v := nI 0) hx hb dL_fails_136 (by decide) ?_
  refine lv_iload hx hb dL_fails_137 (lv_at hl 0 rfl) ?_
  refine callQ_i (As := [.int (nI 0), .int (nI ((twd t) * (thd t)))]) (rest := []) (y_goal_no l D (nI 0) (nI ((twd t) * (thd t))) (glm_no2 (bOf_ge (Nat.le_refl _) (by omega))) hPK) hC hK hN hP hD hS rfl rfl q468 md_X7_goal rfl hl.1 rfl (Nat.le_of_ble_eq_true rfl) dL_fails_139 ⟨Nat.le_of_ble_eq_true rfl, Nat.le_of_ble_eq_true rfl⟩ ⟨Nat.le_of_ble_eq_true rfl, Nat.le_of_ble_eq_true rfl⟩ (fun r w_139 H locs hq hP hD hS => ?_)
  obtain ⟨hPK, hr9⟩ := hq
  have hr9 : r = (-1) := hr9.trans (glr_no (glm_no2 (bOf_ge (Nat.le_refl _) (by omega))))
  rw [hr9]
  refine lv_iconst (v := -1) hx hb dL_fails_142 (by decide) ?_
  refine lv_icmp_ne (tgt := 179) hx hb dL_fails_143 (by decide) (fun h => absurd rfl h) (fun _ => ?_)
  refine lv_aload_n hx hb dL_fails_146 rfl (lv_at hl 3 rfl) ?_
  refine lv_iconst (v := nI 0) hx hb dL_fails_147 (by decide) ?_
  refine lv_iconst (v := -1) hx hb dL_fails_148 (by decide) ?_
  refine callQ_i (As := [.int (nI 0), .int (-1)]) (rest := []) (y_goal_no l D (nI 0) (-1) (glm_no2 bOf_m1) hPK) hC hK hN hP hD hS rfl rfl q468 md_X7_goal rfl hl.1 rfl (Nat.le_of_ble_eq_true rfl) dL_fails_149 ⟨Nat.le_of_ble_eq_true rfl, Nat.le_of_ble_eq_true rfl⟩ ⟨Nat.le_of_ble_eq_true rfl, Nat.le_of_ble_eq_true rfl⟩ (fun r w_149 H locs hq hP hD hS => ?_)
  obtain ⟨hPK, hr9⟩ := hq
  have hr9 : r = (-1) := hr9.trans (glr_no (glm_no2 bOf_m1))
  rw [hr9]
  refine lv_iconst (v := -1) hx hb dL_fails_152 (by decide) ?_
  refine lv_icmp_ne (tgt := 179) hx hb dL_fails_153 (by decide) (fun h => absurd rfl h) (fun _ => ?_)
  refine lv_aload_n hx hb dL_fails_156 rfl (lv_at hl 3 rfl) ?_
  refine lv_iload_n hx hb dL_fails_157 rfl (lv_at hl 1 rfl) ?_
  refine callQ_i (As := [.int (nI (tnb t))]) (rest := []) (y_places l D (nI (tnb t))  hPK) hC hK hN hP hD hS rfl rfl q620 md_X7_places rfl hl.1 rfl (Nat.le_of_ble_eq_true rfl) dL_fails_158 ⟨Nat.le_of_ble_eq_true rfl, Nat.le_of_ble_eq_true rfl⟩ ⟨Nat.le_of_ble_eq_true rfl, Nat.le_of_ble_eq_true rfl⟩ (fun r w_158 H locs hq hP hD hS => ?_)
  obtain ⟨hPK, hr9⟩ := hq
  have hr9 : r = (-1) := hr9.trans (plx_no (bOf_ge (Nat.le_refl _) (by omega)))
  rw [hr9]
  refine lv_iconst (v := -1) hx hb dL_fails_161 (by decide) ?_
  refine lv_icmp_ne (tgt := 179) hx hb dL_fails_162 (by decide) (fun h => absurd rfl h) (fun _ => ?_)
  refine lv_aload_n hx hb dL_fails_165 rfl (lv_at hl 3 rfl) ?_
  refine lv_iload_n hx hb dL_fails_166 rfl (lv_at hl 1 rfl) ?_
  refine lv_iconst (v := nI 1) hx hb dL_fails_167 (by decide) ?_
  refine callQ_i (As := [.int (nI (tnb t)), .int (nI 1)]) (rest := []) (y_without l D (nI (tnb t)) true  hPK) hC hK hN hP hD hS rfl rfl q628 md_X7_without rfl hl.1 rfl (Nat.le_of_ble_eq_true rfl) dL_fails_168 ⟨Nat.le_of_ble_eq_true rfl, Nat.le_of_ble_eq_true rfl⟩ ⟨Nat.le_of_ble_eq_true rfl, Nat.le_of_ble_eq_true rfl⟩ (fun r w_168 H locs hq hP hD hS => ?_)
  obtain ⟨hPK, hr9⟩ := hq
  have hr9 : r = (-1) := hr9.trans (wox_no (bOf_ge (Nat.le_refl _) (by omega)))
  rw [hr9]
  refine lv_iconst (v := -1) hx hb dL_fails_171 (by decide) ?_
  refine lv_icmp_ne (tgt := 179) hx hb dL_fails_172 (by decide) (fun h => absurd rfl h) (fun _ => ?_)
  refine lv_iconst (v := nI 1) hx hb dL_fails_175 (by decide) ?_
  refine lv_goto (tgt := 180) hx hb dL_fails_176 (by decide) ?_
  refine lv_istore (lv' := [(5, .int (nI 1)), (4, .int (nI ((twd t) * (thd t)))), (3, .int (nI (tnb t))), (1, .long fpv), (0, .ref xo)]) hx hb dL_fails_180 hl (by decide) rfl (fun ls hl => ?_)
  refine lv_aload_n hx hb dL_fails_182 rfl (lv_at hl 4 rfl) ?_
  refine lv_bipush (v := nI 6) hx hb dL_fails_183 (by decide) ?_
  refine callQ_i (As := [.int (nI 6)]) (rest := []) (y_frame l D (nI 6)  hPK) hC hK hN hP hD hS rfl rfl q389 md_X7_frame rfl hl.1 rfl (Nat.le_of_ble_eq_true rfl) dL_fails_185 ⟨Nat.le_of_ble_eq_true rfl, Nat.le_of_ble_eq_true rfl⟩ ⟨Nat.le_of_ble_eq_true rfl, Nat.le_of_ble_eq_true rfl⟩ (fun r w_185 H locs hq hP hD hS => ?_)
  obtain ⟨hPK, hr9⟩ := hq
  have hr9 : r = gI (tgl t) := hr9.trans (frx (k := 6) (by decide))
  rw [hr9]
  refine g_if_ge (x := tgl t) (tgt := 288) hx hb dL_fails_188 (by decide) hgl (fun d188 c188 => ?_) (fun c188 => ?_)
  · have _ : True := trivial
    refine lv_iload hx hb dL_fails_288 (lv_at hl 0 rfl) ?_
    refine n_if_eq (a := 1) (tgt := 306) hx hb dL_fails_290 (by decide) (by decide) (fun h => absurd h (by decide)) (fun _ => ?_)
    refine lv_aload_n hx hb dL_fails_293 rfl (lv_at hl 4 rfl) ?_
    refine callQ_l (As := []) (rest := []) (y_fingerprint l D   hPK) hC hK hN hP hD hS rfl rfl q547 md_X7_fingerprint rfl hl.1 rfl (Nat.le_of_ble_eq_true rfl) dL_fails_294 ⟨Nat.le_of_ble_eq_true rfl, Nat.le_of_ble_eq_true rfl⟩ ⟨Nat.le_of_ble_eq_true rfl, Nat.le_of_ble_eq_true rfl⟩ (fun r w_294 H locs hq hP hD hS => ?_)
    obtain ⟨hPK, hr9⟩ := hq
    have hr9 : r = fpv := hr9.trans hfp
    rw [hr9]
    refine lv_lload_n hx hb dL_fails_297 rfl (lv_at hl 3 rfl) ?_
    refine n_lcmp hx hb dL_fails_298 ?_
    refine topi (y := nI 0) (lcmp_self _) ?_
    refine n_if_ne (a := 0) (tgt := 306) hx hb dL_fails_299 (by decide) (by decide) (fun h => absurd h (by decide)) (fun _ => ?_)
    refine lv_iconst (v := nI 1) hx hb dL_fails_302 (by decide) ?_
    refine lv_goto (tgt := 307) hx hb dL_fails_303 (by decide) ?_
    rw [hQ]
    subst hAe
    exact W.zret (v := nI 1) hx hb hr rfl (fun t9 ht hW => ⟨⟨_, w_294, rfl, ⟨rfl, hPK⟩, by rw [ht]; exact hP, hD⟩, hS.F ht⟩) hS.2.2 dL_fails_307
  · have _ : True := trivial
    refine lv_iload hx hb dL_fails_191 (lv_at hl 0 rfl) ?_
    refine n_if_eq (a := 1) (tgt := 285) hx hb dL_fails_193 (by decide) (by decide) (fun h => absurd h (by decide)) (fun _ => ?_)
    refine lv_aload_n hx hb dL_fails_196 rfl (lv_at hl 4 rfl) ?_
    refine callQ_i (As := []) (rest := []) (y_solved l D   hPK) hC hK hN hP hD hS rfl rfl q632 md_X7_solved rfl hl.1 rfl (Nat.le_of_ble_eq_true rfl) dL_fails_197 ⟨Nat.le_of_ble_eq_true rfl, Nat.le_of_ble_eq_true rfl⟩ ⟨Nat.le_of_ble_eq_true rfl, Nat.le_of_ble_eq_true rfl⟩ (fun r w_197 H locs hq hP hD hS => ?_)
    obtain ⟨hPK, hr9⟩ := hq
    have hr9 : r = (-2) := hr9.trans (so_none c188)
    rw [hr9]
    refine lv_bipush (v := (-2)) hx hb dL_fails_200 (by decide) ?_
    refine lv_icmp_ne (tgt := 285) hx hb dL_fails_202 (by decide) (fun h => absurd rfl h) (fun _ => ?_)
    refine lv_aload_n hx hb dL_fails_205 rfl (lv_at hl 4 rfl) ?_
    refine lv_iconst (v := nI 1) hx hb dL_fails_206 (by decide) ?_
    refine callQ_i (As := [.int (nI 1)]) (rest := []) (y_distance l D true  hPK) hC hK hN hP hD hS rfl rfl q640 md_X7_distance rfl hl.1 rfl (Nat.le_of_ble_eq_true rfl) dL_fails_207 ⟨Nat.le_of_ble_eq_true rfl, Nat.le_of_ble_eq_true rfl⟩ ⟨Nat.le_of_ble_eq_true rfl, Nat.le_of_ble_eq_true rfl⟩ (fun r w_207 H locs hq hP hD hS => ?_)
    obtain ⟨hPK, hr9⟩ := hq
    have hr9 : r = (-2) := hr9.trans (di_none c188)
    rw [hr9]
    refine lv_bipush (v := (-2)) hx hb dL_fails_210 (by decide) ?_
    refine lv_icmp_ne (tgt := 285) hx hb dL_fails_212 (by decide) (fun h => absurd rfl h) (fun _ => ?_)
    refine lv_aload_n hx hb dL_fails_215 rfl (lv_at hl 4 rfl) ?_
    refine lv_iconst (v := nI 0) hx hb dL_fails_216 (by decide) ?_
    refine callQ_i (As := [.int (nI 0)]) (rest := []) (y_hint l D false  hPK) hC hK hN hP hD hS rfl rfl q641 md_X7_hint rfl hl.1 rfl (Nat.le_of_ble_eq_true rfl) dL_fails_217 ⟨Nat.le_of_ble_eq_true rfl, Nat.le_of_ble_eq_true rfl⟩ ⟨Nat.le_of_ble_eq_true rfl, Nat.le_of_ble_eq_true rfl⟩ (fun r w_217 H locs hq hP hD hS => ?_)
    obtain ⟨hPK, hr9⟩ := hq
    have hr9 : r = (-2) := hr9.trans (hc_none c188)
    rw [hr9]
    refine lv_bipush (v := (-2)) hx hb dL_fails_220 (by decide) ?_
    refine lv_icmp_ne (tgt := 285) hx hb dL_fails_222 (by decide) (fun h => absurd rfl h) (fun _ => ?_)
    refine lv_aload_n hx hb dL_fails_225 rfl (lv_at hl 4 rfl) ?_
    refine lv_iconst (v := nI 0) hx hb dL_fails_226 (by decide) ?_
    refine callQ_i (As := [.int (nI 0)]) (rest := []) (y_follow_no l D false (fm_none c188) hPK) hC hK hN hP hD hS rfl rfl q654 md_X7_follow rfl hl.1 rfl (Nat.le_of_ble_eq_true rfl) dL_fails_227 ⟨Nat.le_of_ble_eq_true rfl, Nat.le_of_ble_eq_true rfl⟩ ⟨Nat.le_of_ble_eq_true rfl, Nat.le_of_ble_eq_true rfl⟩ (fun r w_227 H locs hq hP hD hS => ?_)
    obtain ⟨hPK, hr9⟩ := hq
    have hr9 : r = (-2) := hr9.trans (fr_none c188)
    rw [hr9]
    refine lv_bipush (v := (-2)) hx hb dL_fails_230 (by decide) ?_
    refine lv_icmp_ne (tgt := 285) hx hb dL_fails_232 (by decide) (fun h => absurd rfl h) (fun _ => ?_)
    refine lv_aload_n hx hb dL_fails_235 rfl (lv_at hl 4 rfl) ?_
    refine lv_iconst (v := nI 1) hx hb dL_fails_236 (by decide) ?_
    refine callQ_i (As := [.int (nI 1)]) (rest := []) (y_worst l D true  hPK) hC hK hN hP hD hS rfl rfl q659 md_X7_worst rfl hl.1 rfl (Nat.le_of_ble_eq_true rfl) dL_fails_237 ⟨Nat.le_of_ble_eq_true rfl, Nat.le_of_ble_eq_true rfl⟩ ⟨Nat.le_of_ble_eq_true rfl, Nat.le_of_ble_eq_true rfl⟩ (fun r w_237 H locs hq hP hD hS => ?_)
    obtain ⟨hPK, hr9⟩ := hq
    have hr9 : r = (-2) := hr9.trans (wo_none c188)
    rw [hr9]
    refine lv_bipush (v := (-2)) hx hb dL_fails_240 (by decide) ?_
    refine lv_icmp_ne (tgt := 285) hx hb dL_fails_242 (by decide) (fun h => absurd rfl h) (fun _ => ?_)
    refine lv_aload_n hx hb dL_fails_245 rfl (lv_at hl 4 rfl) ?_
    refine lv_iconst (v := nI 1) hx hb dL_fails_246 (by decide) ?_
    refine callQ_i (As := [.int (nI 1)]) (rest := []) (y_hardest_no l D true (hx_none c188) hPK) hC hK hN hP hD hS rfl rfl q663 md_X7_hardest rfl hl.1 rfl (Nat.le_of_ble_eq_true rfl) dL_fails_247 ⟨Nat.le_of_ble_eq_true rfl, Nat.le_of_ble_eq_true rfl⟩ ⟨Nat.le_of_ble_eq_true rfl, Nat.le_of_ble_eq_true rfl⟩ (fun r w_247 H locs hq hP hD hS => ?_)
    obtain ⟨hPK, hr9⟩ := hq
    have hr9 : r = (-2) := hr9.trans (hr_none (hx_none c188))
    rw [hr9]
    refine lv_bipush (v := (-2)) hx hb dL_fails_250 (by decide) ?_
    refine lv_icmp_ne (tgt := 285) hx hb dL_fails_252 (by decide) (fun h => absurd rfl h) (fun _ => ?_)
    refine lv_aload_n hx hb dL_fails_255 rfl (lv_at hl 4 rfl) ?_
    refine lv_iconst (v := nI 0) hx hb dL_fails_256 (by decide) ?_
    refine callQ_f (As := [.int (nI 0)]) (rest := []) (y_mean l D false  hPK) hC hK hN hP hD hS rfl rfl q678 md_X7_mean rfl hl.1 rfl (Nat.le_of_ble_eq_true rfl) dL_fails_257 ⟨Nat.le_of_ble_eq_true rfl, Nat.le_of_ble_eq_true rfl⟩ ⟨Nat.le_of_ble_eq_true rfl, Nat.le_of_ble_eq_true rfl⟩ (fun r w_257 H locs hq hP hD hS => ?_)
    obtain ⟨hPK, hr9⟩ := hq
    have hr9 : r = 3212836864 := hr9.trans (me_none c188)
    rw [hr9]
    refine lv_ldcf hx hb hC.2.2.2.1 (hC.2.2.2.2 _ q683) dL_fails_260 ?_
    refine lv_fcmp hx hb dL_fails_262 ?_
    refine topi (y := nI 0) (by decide +kernel) ?_
    refine n_if_ne (a := 0) (tgt := 285) hx hb dL_fails_263 (by decide) (by decide) (fun h => absurd h (by decide)) (fun _ => ?_)
    refine lv_iload_n hx hb dL_fails_266 rfl (lv_at hl 2 rfl) ?_
    refine n_if_eq (tgt := 281) hx hb dL_fails_267 (by decide) (by omega) (fun c267 => ?_) (fun c267 => ?_)
    · have _ : True := trivial
      refine lv_iconst (v := nI 1) hx hb dL_fails_281 (by decide) ?_
      refine lv_goto (tgt := 286) hx hb dL_fails_282 (by decide) ?_
      refine lv_istore (lv' := [(5, .int (nI 1)), (4, .int (nI ((twd t) * (thd t)))), (3, .int (nI (tnb t))), (1, .long fpv), (0, .ref xo)]) hx hb dL_fails_286 hl (by decide) rfl (fun ls hl => ?_)
      refine lv_iload hx hb dL_fails_288 (lv_at hl 0 rfl) ?_
      refine n_if_eq (a := 1) (tgt := 306) hx hb dL_fails_290 (by decide) (by decide) (fun h => absurd h (by decide)) (fun _ => ?_)
      refine lv_aload_n hx hb dL_fails_293 rfl (lv_at hl 4 rfl) ?_
      refine callQ_l (As := []) (rest := []) (y_fingerprint l D   hPK) hC hK hN hP hD hS rfl rfl q547 md_X7_fingerprint rfl hl.1 rfl (Nat.le_of_ble_eq_true rfl) dL_fails_294 ⟨Nat.le_of_ble_eq_true rfl, Nat.le_of_ble_eq_true rfl⟩ ⟨Nat.le_of_ble_eq_true rfl, Nat.le_of_ble_eq_true rfl⟩ (fun r w_294 H locs hq hP hD hS => ?_)
      obtain ⟨hPK, hr9⟩ := hq
      have hr9 : r = fpv := hr9.trans hfp
      rw [hr9]
      refine lv_lload_n hx hb dL_fails_297 rfl (lv_at hl 3 rfl) ?_
      refine n_lcmp hx hb dL_fails_298 ?_
      refine topi (y := nI 0) (lcmp_self _) ?_
      refine n_if_ne (a := 0) (tgt := 306) hx hb dL_fails_299 (by decide) (by decide) (fun h => absurd h (by decide)) (fun _ => ?_)
      refine lv_iconst (v := nI 1) hx hb dL_fails_302 (by decide) ?_
      refine lv_goto (tgt := 307) hx hb dL_fails_303 (by decide) ?_
      rw [hQ]
      subst hAe
      exact W.zret (v := nI 1) hx hb hr rfl (fun t9 ht hW => ⟨⟨_, w_294, rfl, ⟨rfl, hPK⟩, by rw [ht]; exact hP, hD⟩, hS.F ht⟩) hS.2.2 dL_fails_307
    · have _ : True := trivial
      refine lv_aload_n hx hb dL_fails_270 rfl (lv_at hl 4 rfl) ?_
      refine lv_iconst (v := nI 0) hx hb dL_fails_271 (by decide) ?_
      refine lv_iconst (v := nI 1) hx hb dL_fails_272 (by decide) ?_
      refine callQ_i (As := [.int (nI 0), .int (nI 1)]) (rest := []) (y_without l D (nI 0) true  hPK) hC hK hN hP hD hS rfl rfl q628 md_X7_without rfl hl.1 rfl (Nat.le_of_ble_eq_true rfl) dL_fails_273 ⟨Nat.le_of_ble_eq_true rfl, Nat.le_of_ble_eq_true rfl⟩ ⟨Nat.le_of_ble_eq_true rfl, Nat.le_of_ble_eq_true rfl⟩ (fun r w_273 H locs hq hP hD hS => ?_)
      obtain ⟨hPK, hr9⟩ := hq
      have hr9 : r = (-2) := hr9.trans (wx_none (by omega) hn7 c188)
      rw [hr9]
      refine lv_bipush (v := (-2)) hx hb dL_fails_276 (by decide) ?_
      refine lv_icmp_ne (tgt := 285) hx hb dL_fails_278 (by decide) (fun h => absurd rfl h) (fun _ => ?_)
      refine lv_iconst (v := nI 1) hx hb dL_fails_281 (by decide) ?_
      refine lv_goto (tgt := 286) hx hb dL_fails_282 (by decide) ?_
      refine lv_istore (lv' := [(5, .int (nI 1)), (4, .int (nI ((twd t) * (thd t)))), (3, .int (nI (tnb t))), (1, .long fpv), (0, .ref xo)]) hx hb dL_fails_286 hl (by decide) rfl (fun ls hl => ?_)
      refine lv_iload hx hb dL_fails_288 (lv_at hl 0 rfl) ?_
      refine n_if_eq (a := 1) (tgt := 306) hx hb dL_fails_290 (by decide) (by decide) (fun h => absurd h (by decide)) (fun _ => ?_)
      refine lv_aload_n hx hb dL_fails_293 rfl (lv_at hl 4 rfl) ?_
      refine callQ_l (As := []) (rest := []) (y_fingerprint l D   hPK) hC hK hN hP hD hS rfl rfl q547 md_X7_fingerprint rfl hl.1 rfl (Nat.le_of_ble_eq_true rfl) dL_fails_294 ⟨Nat.le_of_ble_eq_true rfl, Nat.le_of_ble_eq_true rfl⟩ ⟨Nat.le_of_ble_eq_true rfl, Nat.le_of_ble_eq_true rfl⟩ (fun r w_294 H locs hq hP hD hS => ?_)
      obtain ⟨hPK, hr9⟩ := hq
      have hr9 : r = fpv := hr9.trans hfp
      rw [hr9]
      refine lv_lload_n hx hb dL_fails_297 rfl (lv_at hl 3 rfl) ?_
      refine n_lcmp hx hb dL_fails_298 ?_
      refine topi (y := nI 0) (lcmp_self _) ?_
      refine n_if_ne (a := 0) (tgt := 306) hx hb dL_fails_299 (by decide) (by decide) (fun h => absurd h (by decide)) (fun _ => ?_)
      refine lv_iconst (v := nI 1) hx hb dL_fails_302 (by decide) ?_
      refine lv_goto (tgt := 307) hx hb dL_fails_303 (by decide) ?_
      rw [hQ]
      subst hAe
      exact W.zret (v := nI 1) hx hb hr rfl (fun t9 ht hW => ⟨⟨_, w_294, rfl, ⟨rfl, hPK⟩, by rw [ht]; exact hP, hD⟩, hS.F ht⟩) hS.2.2 dL_fails_307
