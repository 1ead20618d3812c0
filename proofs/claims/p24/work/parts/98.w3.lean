/-! ===== p24: ends (written by w3.py) ===== -/
theorem mvs_t {sl : Int32} {lb : Option Nat} {b : Nat} : mvsl sl true lb b = sl + Int32.ofInt 1 := by
  unfold mvsl
  rw [if_pos (Or.inl rfl)]
  rfl
set_option maxHeartbeats 16000000 in
set_option maxRecDepth 100000 in
theorem c_L_ends_true (l : Launch) (D : va_G) (cI cJ cB : ClassId) {xo ln : Nat} {tx : Nat → Nat} {t : BT} {g ap : Nat} {ws : va_W} (sz : Nat) (hPK : PK cI cJ cB xo ln tx t [] ws) (hg : tgl t = some g) (ha : taq t = some ap) : Met l yL_ends (Cond.code yL_ends cL_ends 13 (some .boolean) :: lw_all) (rmC 8 0 0) (va_Pc [.ref xo, .int (bI true), .int (nI 6)] (pN D (tyz cI cJ cB) ws sz)) (va_Qi (fun (r : Int32) (w : va_W) => r = bI true ∧ ∃ t2 : BT, PK cI cJ cB xo ln tx t2 [] w ∧ frt t2 = frt t) (nB D (va_A ws sz)) (va_A ws sz)) 0 0 (va_A ws sz) := by
  refine Met.ofW (cc := cL_ends) (maxL := 13) (ret := (some .boolean)) (by decide) rfl ?_
  intro p e s m args below meth c s₁ B hml hv
  obtain ⟨rfl, hsz, hO, hK, hN, hP, hD0⟩ := hv
  subst hsz
  have hx := B.exec; have hb := B.bytes; have hr := B.returns; have hlocks := B.notSynchronized
  have hts0 := atoms_spec (ws := Cond.code yL_ends cL_ends 13 (some .boolean) :: lw_all) B.pre
  have hC : CallFix p m c cL_ends 13 s _ lw_all RL := ⟨hx, hb, hml, findClass_of_methodNamed B.named, fun w h => hts0 w (List.mem_cons_of_mem _ h)⟩
  have hA : ∀ q : Nat, s.heap.size ≤ q → va_A ws s.heap.size q := fun q h => Or.inr h
  have hD : va_D (va_A ws s.heap.size) ws := ⟨hD0.1, fun k q h => Or.inl ⟨k, q.2, h⟩⟩
  generalize hAe : va_A ws s.heap.size = A at hA hD ⊢
  have hS : va_S A s.heap s.heap [] := va_S.rf
  have hl := lv_entry ([.ref xo, .int (bI true), .int (nI 6)]) (n := 13) (Nat.le_of_ble_eq_true rfl)
  rw [lg_entry_eq]
  generalize (lg_sl ([.ref xo, .int (bI true), .int (nI 6)]) ++ List.replicate (13 - (lg_sl ([.ref xo, .int (bI true), .int (nI 6)])).length) Slot.unset).toArray = ls at hl ⊢
  have hl : lv_has ls 13 [(0, .ref xo), (1, .int (bI true)), (2, .int (nI 6))] := hl
  generalize hav : ([.ref xo, .int (bI true), .int (nI 6)] : List Value).toArray = args at hC ⊢
  refine W_gen (fun QQ hQ => ?_)
  show W p l e (rmC 8 0 0) s m args below meth c s.heap [] 0 0 QQ (F0 m 0 ls [])
  have hT : TVt t := hPK.tv
  have hn7 : tnb t ≤ 7 := TV_n hT
  have hc24 : twd t * thd t ≤ 24 := TV_c hT
  obtain ⟨hgn, hap, hcase⟩ := goal_3 hT hg ha
  rcases hcase with hB | ⟨ns, hCN⟩ | ⟨ns, F, hE⟩
  · have _ : True := trivial
    refine lv_aload_n hx hb dL_ends_0 rfl (lv_at hl 0 rfl) ?_
    refine lv_iload_n hx hb dL_ends_1 rfl (lv_at hl 1 rfl) ?_
    refine callQ_i (As := [.int (bI true)]) (rest := []) (y_distance l D true  hPK) hC hK hN hP hD hS rfl rfl q640 md_X7_distance rfl hl.1 rfl (Nat.le_of_ble_eq_true rfl) dL_ends_2 ⟨Nat.le_of_ble_eq_true rfl, Nat.le_of_ble_eq_true rfl⟩ ⟨Nat.le_of_ble_eq_true rfl, Nat.le_of_ble_eq_true rfl⟩ (fun r w_2 H locs hq hP hD hS => ?_)
    obtain ⟨hPK, hr9⟩ := hq
    have hr9 : r = (-3) := hr9.trans (by rw [hg, ha]; exact big_dist hB)
    rw [hr9]
    refine lv_istore_n (lv' := [(3, .int (-3)), (0, .ref xo), (1, .int (bI true)), (2, .int (nI 6))]) hx hb dL_ends_5 rfl hl (by decide) rfl (fun ls hl => ?_)
    refine lv_aload_n hx hb dL_ends_6 rfl (lv_at hl 1 rfl) ?_
    refine lv_iload_n hx hb dL_ends_7 rfl (lv_at hl 2 rfl) ?_
    refine b_if_ne (z := true) (tgt := 15) hx hb dL_ends_8 (by decide) (fun _ => ?_) (fun h => absurd h (by decide))
    refine lv_iconst (v := nI 0) hx hb dL_ends_15 (by decide) ?_
    refine callQ_i (As := [.int (nI 0)]) (rest := []) (y_distance l D false  hPK) hC hK hN hP hD hS rfl rfl q640 md_X7_distance rfl hl.1 rfl (Nat.le_of_ble_eq_true rfl) dL_ends_16 ⟨Nat.le_of_ble_eq_true rfl, Nat.le_of_ble_eq_true rfl⟩ ⟨Nat.le_of_ble_eq_true rfl, Nat.le_of_ble_eq_true rfl⟩ (fun r w_16 H locs hq hP hD hS => ?_)
    obtain ⟨hPK, hr9⟩ := hq
    have hr9 : r = (-3) := hr9.trans (by rw [hg, ha]; exact big_dist hB)
    rw [hr9]
    refine lv_istore (lv' := [(4, .int (-3)), (3, .int (-3)), (0, .ref xo), (1, .int (bI true)), (2, .int (nI 6))]) hx hb dL_ends_19 hl (by decide) rfl (fun ls hl => ?_)
    refine lv_aload_n hx hb dL_ends_21 rfl (lv_at hl 2 rfl) ?_
    refine callQ_i (As := []) (rest := []) (y_states l D   hPK) hC hK hN hP hD hS rfl rfl q477 md_X7_states rfl hl.1 rfl (Nat.le_of_ble_eq_true rfl) dL_ends_22 ⟨Nat.le_of_ble_eq_true rfl, Nat.le_of_ble_eq_true rfl⟩ ⟨Nat.le_of_ble_eq_true rfl, Nat.le_of_ble_eq_true rfl⟩ (fun r w_22 H locs hq hP hD hS => ?_)
    obtain ⟨hPK, hr9⟩ := hq
    have hr9 : r = (-3) := hr9.trans (big_states hB)
    rw [hr9]
    refine lv_istore (lv' := [(5, .int (-3)), (4, .int (-3)), (3, .int (-3)), (0, .ref xo), (1, .int (bI true)), (2, .int (nI 6))]) hx hb dL_ends_25 hl (by decide) rfl (fun ls hl => ?_)
    refine lv_iload hx hb dL_ends_27 (lv_at hl 0 rfl) ?_
    refine lv_bipush (v := (-3)) hx hb dL_ends_29 (by decide) ?_
    refine lv_icmp_ne (tgt := 95) hx hb dL_ends_31 (by decide) (fun h => absurd rfl h) (fun _ => ?_)
    refine lv_iload_n hx hb dL_ends_34 rfl (lv_at hl 2 rfl) ?_
    refine lv_bipush (v := (-3)) hx hb dL_ends_35 (by decide) ?_
    refine lv_icmp_ne (tgt := 93) hx hb dL_ends_37 (by decide) (fun h => absurd rfl h) (fun _ => ?_)
    refine lv_aload_n hx hb dL_ends_40 rfl (lv_at hl 3 rfl) ?_
    refine lv_iload_n hx hb dL_ends_41 rfl (lv_at hl 4 rfl) ?_
    refine callQ_i (As := [.int (bI true)]) (rest := []) (y_worst l D true  hPK) hC hK hN hP hD hS rfl rfl q659 md_X7_worst rfl hl.1 rfl (Nat.le_of_ble_eq_true rfl) dL_ends_42 ⟨Nat.le_of_ble_eq_true rfl, Nat.le_of_ble_eq_true rfl⟩ ⟨Nat.le_of_ble_eq_true rfl, Nat.le_of_ble_eq_true rfl⟩ (fun r w_42 H locs hq hP hD hS => ?_)
    obtain ⟨hPK, hr9⟩ := hq
    have hr9 : r = (-3) := hr9.trans (by rw [hg, ha]; exact big_worst hB)
    rw [hr9]
    refine lv_bipush (v := (-3)) hx hb dL_ends_45 (by decide) ?_
    refine lv_icmp_ne (tgt := 93) hx hb dL_ends_47 (by decide) (fun h => absurd rfl h) (fun _ => ?_)
    refine lv_aload_n hx hb dL_ends_50 rfl (lv_at hl 3 rfl) ?_
    refine lv_iload_n hx hb dL_ends_51 rfl (lv_at hl 4 rfl) ?_
    refine callQ_i (As := [.int (bI true)]) (rest := []) (y_hint l D true  hPK) hC hK hN hP hD hS rfl rfl q641 md_X7_hint rfl hl.1 rfl (Nat.le_of_ble_eq_true rfl) dL_ends_52 ⟨Nat.le_of_ble_eq_true rfl, Nat.le_of_ble_eq_true rfl⟩ ⟨Nat.le_of_ble_eq_true rfl, Nat.le_of_ble_eq_true rfl⟩ (fun r w_52 H locs hq hP hD hS => ?_)
    obtain ⟨hPK, hr9⟩ := hq
    have hr9 : r = (-3) := hr9.trans (congrArg cHint (bg_hint hg ha hB))
    rw [hr9]
    refine lv_bipush (v := (-3)) hx hb dL_ends_55 (by decide) ?_
    refine lv_icmp_ne (tgt := 93) hx hb dL_ends_57 (by decide) (fun h => absurd rfl h) (fun _ => ?_)
    refine lv_aload_n hx hb dL_ends_60 rfl (lv_at hl 3 rfl) ?_
    refine lv_iload_n hx hb dL_ends_61 rfl (lv_at hl 4 rfl) ?_
    refine callQ_i (As := [.int (bI true)]) (rest := []) (y_follow_no l D true (fm_bad (bg_hint hg ha hB)).1 hPK) hC hK hN hP hD hS rfl rfl q654 md_X7_follow rfl hl.1 rfl (Nat.le_of_ble_eq_true rfl) dL_ends_62 ⟨Nat.le_of_ble_eq_true rfl, Nat.le_of_ble_eq_true rfl⟩ ⟨Nat.le_of_ble_eq_true rfl, Nat.le_of_ble_eq_true rfl⟩ (fun r w_62 H locs hq hP hD hS => ?_)
    obtain ⟨hPK, hr9⟩ := hq
    have hr9 : r = (-2) := hr9.trans (fm_bad (bg_hint hg ha hB)).2
    rw [hr9]
    refine lv_bipush (v := (-2)) hx hb dL_ends_65 (by decide) ?_
    refine lv_icmp_ne (tgt := 93) hx hb dL_ends_67 (by decide) (fun h => absurd rfl h) (fun _ => ?_)
    refine lv_aload_n hx hb dL_ends_70 rfl (lv_at hl 3 rfl) ?_
    refine callQ_i (As := []) (rest := []) (y_solved l D   hPK) hC hK hN hP hD hS rfl rfl q632 md_X7_solved rfl hl.1 rfl (Nat.le_of_ble_eq_true rfl) dL_ends_71 ⟨Nat.le_of_ble_eq_true rfl, Nat.le_of_ble_eq_true rfl⟩ ⟨Nat.le_of_ble_eq_true rfl, Nat.le_of_ble_eq_true rfl⟩ (fun r w_71 H locs hq hP hD hS => ?_)
    obtain ⟨hPK, hr9⟩ := hq
    have hr9 : r = (-3) := hr9.trans (by rw [hg, ha]; exact big_solved hB)
    rw [hr9]
    refine lv_bipush (v := (-3)) hx hb dL_ends_74 (by decide) ?_
    refine lv_icmp_ne (tgt := 93) hx hb dL_ends_76 (by decide) (fun h => absurd rfl h) (fun _ => ?_)
    refine lv_aload_n hx hb dL_ends_79 rfl (lv_at hl 3 rfl) ?_
    refine lv_iconst (v := nI 0) hx hb dL_ends_80 (by decide) ?_
    refine callQ_i (As := [.int (nI 0)]) (rest := []) (y_places l D (nI 0)  hPK) hC hK hN hP hD hS rfl rfl q620 md_X7_places rfl hl.1 rfl (Nat.le_of_ble_eq_true rfl) dL_ends_81 ⟨Nat.le_of_ble_eq_true rfl, Nat.le_of_ble_eq_true rfl⟩ ⟨Nat.le_of_ble_eq_true rfl, Nat.le_of_ble_eq_true rfl⟩ (fun r w_81 H locs hq hP hD hS => ?_)
    obtain ⟨hPK, hr9⟩ := hq
    have hr9 : r = (-3) := hr9.trans ((plx (b := 0) (by omega) hn7).trans (big_places hB))
    rw [hr9]
    refine lv_bipush (v := (-3)) hx hb dL_ends_84 (by decide) ?_
    refine lv_icmp_ne (tgt := 93) hx hb dL_ends_86 (by decide) (fun h => absurd rfl h) (fun _ => ?_)
    refine lv_iconst (v := nI 1) hx hb dL_ends_89 (by decide) ?_
    refine lv_goto (tgt := 94) hx hb dL_ends_90 (by decide) ?_
    rw [hQ]
    subst hAe
    exact W.zret (v := nI 1) hx hb hr rfl (fun t9 ht hW => ⟨⟨_, w_81, rfl, ⟨rfl, t, hPK, rfl⟩, by rw [ht]; exact hP, hD⟩, hS.F ht⟩) hS.2.2 dL_ends_94
  · have _ : True := trivial
    have hn1 : 1 ≤ ns := hCN.1
    have hn2 : ns ≤ 2000 := hCN.2.1
    refine lv_aload_n hx hb dL_ends_0 rfl (lv_at hl 0 rfl) ?_
    refine lv_iload_n hx hb dL_ends_1 rfl (lv_at hl 1 rfl) ?_
    refine callQ_i (As := [.int (bI true)]) (rest := []) (y_distance l D true  hPK) hC hK hN hP hD hS rfl rfl q640 md_X7_distance rfl hl.1 rfl (Nat.le_of_ble_eq_true rfl) dL_ends_2 ⟨Nat.le_of_ble_eq_true rfl, Nat.le_of_ble_eq_true rfl⟩ ⟨Nat.le_of_ble_eq_true rfl, Nat.le_of_ble_eq_true rfl⟩ (fun r w_2 H locs hq hP hD hS => ?_)
    obtain ⟨hPK, hr9⟩ := hq
    have hr9 : r = (-9) := hr9.trans (by rw [hg, ha]; exact cn_dist hCN)
    rw [hr9]
    refine lv_istore_n (lv' := [(3, .int (-9)), (0, .ref xo), (1, .int (bI true)), (2, .int (nI 6))]) hx hb dL_ends_5 rfl hl (by decide) rfl (fun ls hl => ?_)
    refine lv_aload_n hx hb dL_ends_6 rfl (lv_at hl 1 rfl) ?_
    refine lv_iload_n hx hb dL_ends_7 rfl (lv_at hl 2 rfl) ?_
    refine b_if_ne (z := true) (tgt := 15) hx hb dL_ends_8 (by decide) (fun _ => ?_) (fun h => absurd h (by decide))
    refine lv_iconst (v := nI 0) hx hb dL_ends_15 (by decide) ?_
    refine callQ_i (As := [.int (nI 0)]) (rest := []) (y_distance l D false  hPK) hC hK hN hP hD hS rfl rfl q640 md_X7_distance rfl hl.1 rfl (Nat.le_of_ble_eq_true rfl) dL_ends_16 ⟨Nat.le_of_ble_eq_true rfl, Nat.le_of_ble_eq_true rfl⟩ ⟨Nat.le_of_ble_eq_true rfl, Nat.le_of_ble_eq_true rfl⟩ (fun r w_16 H locs hq hP hD hS => ?_)
    obtain ⟨hPK, hr9⟩ := hq
    have hr9 : r = (-9) := hr9.trans (by rw [hg, ha]; exact cn_dist hCN)
    rw [hr9]
    refine lv_istore (lv' := [(4, .int (-9)), (3, .int (-9)), (0, .ref xo), (1, .int (bI true)), (2, .int (nI 6))]) hx hb dL_ends_19 hl (by decide) rfl (fun ls hl => ?_)
    refine lv_aload_n hx hb dL_ends_21 rfl (lv_at hl 2 rfl) ?_
    refine callQ_i (As := []) (rest := []) (y_states l D   hPK) hC hK hN hP hD hS rfl rfl q477 md_X7_states rfl hl.1 rfl (Nat.le_of_ble_eq_true rfl) dL_ends_22 ⟨Nat.le_of_ble_eq_true rfl, Nat.le_of_ble_eq_true rfl⟩ ⟨Nat.le_of_ble_eq_true rfl, Nat.le_of_ble_eq_true rfl⟩ (fun r w_22 H locs hq hP hD hS => ?_)
    obtain ⟨hPK, hr9⟩ := hq
    have hr9 : r = nI ns := hr9.trans (cn_states hCN)
    rw [hr9]
    refine lv_istore (lv' := [(5, .int (nI ns)), (4, .int (-9)), (3, .int (-9)), (0, .ref xo), (1, .int (bI true)), (2, .int (nI 6))]) hx hb dL_ends_25 hl (by decide) rfl (fun ls hl => ?_)
    refine lv_iload hx hb dL_ends_27 (lv_at hl 0 rfl) ?_
    refine lv_bipush (v := (-3)) hx hb dL_ends_29 (by decide) ?_
    refine lv_icmp_ne (tgt := 95) hx hb dL_ends_31 (by decide) (fun _ => ?_) (fun h9 => absurd h9 (nI_m3 (by omega)))
    refine lv_aload_n hx hb dL_ends_95 rfl (lv_at hl 3 rfl) ?_
    refine callQ_i (As := []) (rest := []) (y_solved l D   hPK) hC hK hN hP hD hS rfl rfl q632 md_X7_solved rfl hl.1 rfl (Nat.le_of_ble_eq_true rfl) dL_ends_96 ⟨Nat.le_of_ble_eq_true rfl, Nat.le_of_ble_eq_true rfl⟩ ⟨Nat.le_of_ble_eq_true rfl, Nat.le_of_ble_eq_true rfl⟩ (fun r w_96 H locs hq hP hD hS => ?_)
    obtain ⟨hPK, hr9⟩ := hq
    have hr9 : r = nI 0 := hr9.trans (by rw [hg, ha]; exact cn_solved hCN)
    rw [hr9]
    refine lv_istore (lv' := [(6, .int (nI 0)), (5, .int (nI ns)), (4, .int (-9)), (3, .int (-9)), (0, .ref xo), (1, .int (bI true)), (2, .int (nI 6))]) hx hb dL_ends_99 hl (by decide) rfl (fun ls hl => ?_)
    refine lv_iload hx hb dL_ends_101 (lv_at hl 1 rfl) ?_
    refine lv_iconst (v := nI 1) hx hb dL_ends_103 (by decide) ?_
    refine n_icmp_lt (a := ns) (b := 1) (tgt := 172) hx hb dL_ends_104 (by decide) (by omega) (by omega) (fun h9 => absurd h9 (by omega)) (fun _ => ?_)
    refine lv_iload hx hb dL_ends_107 (lv_at hl 1 rfl) ?_
    refine lv_sipush (v := nI 2000) hx hb dL_ends_109 (by decide) ?_
    refine n_icmp_gt (a := ns) (b := 2000) (tgt := 172) hx hb dL_ends_112 (by decide) (by omega) (by omega) (fun h9 => absurd h9 (by omega)) (fun _ => ?_)
    refine lv_iload hx hb dL_ends_115 (lv_at hl 0 rfl) ?_
    refine lv_iload hx hb dL_ends_117 (lv_at hl 1 rfl) ?_
    refine n_icmp_gt (a := 0) (b := ns) (tgt := 172) hx hb dL_ends_119 (by decide) (by omega) (by omega) (fun h9 => absurd h9 (by omega)) (fun _ => ?_)
    refine lv_iload hx hb dL_ends_122 (lv_at hl 0 rfl) ?_
    refine n_if_ne (a := 0) (tgt := 131) hx hb dL_ends_124 (by decide) (by decide) (fun h => absurd h (by decide)) (fun _ => ?_)
    refine lv_iconst (v := nI 1) hx hb dL_ends_127 (by decide) ?_
    refine lv_goto (tgt := 132) hx hb dL_ends_128 (by decide) ?_
    refine lv_iload_n hx hb dL_ends_132 rfl (lv_at hl 3 rfl) ?_
    refine lv_bipush (v := (-9)) hx hb dL_ends_133 (by decide) ?_
    refine lv_icmp_ne (tgt := 142) hx hb dL_ends_135 (by decide) (fun h => absurd rfl h) (fun _ => ?_)
    refine lv_iconst (v := nI 1) hx hb dL_ends_138 (by decide) ?_
    refine lv_goto (tgt := 143) hx hb dL_ends_139 (by decide) ?_
    refine n_icmp_ne (a := 1) (b := 1) (tgt := 172) hx hb dL_ends_143 (by decide) (by decide) (by decide) (fun h => absurd h (by decide)) (fun _ => ?_)
    refine lv_iload hx hb dL_ends_146 (lv_at hl 2 rfl) ?_
    refine lv_bipush (v := (-9)) hx hb dL_ends_148 (by decide) ?_
    refine lv_icmp_ne (tgt := 157) hx hb dL_ends_150 (by decide) (fun h => absurd rfl h) (fun _ => ?_)
    refine lv_iconst (v := nI 1) hx hb dL_ends_153 (by decide) ?_
    refine lv_goto (tgt := 158) hx hb dL_ends_154 (by decide) ?_
    refine lv_iload_n hx hb dL_ends_158 rfl (lv_at hl 3 rfl) ?_
    refine lv_bipush (v := (-9)) hx hb dL_ends_159 (by decide) ?_
    refine lv_icmp_ne (tgt := 168) hx hb dL_ends_161 (by decide) (fun h => absurd rfl h) (fun _ => ?_)
    refine lv_iconst (v := nI 1) hx hb dL_ends_164 (by decide) ?_
    refine lv_goto (tgt := 169) hx hb dL_ends_165 (by decide) ?_
    refine n_icmp_eq (a := 1) (b := 1) (tgt := 174) hx hb dL_ends_169 (by decide) (by decide) (by decide) (fun _ => ?_) (fun h => absurd h (by decide))
    refine lv_iload_n hx hb dL_ends_174 rfl (lv_at hl 3 rfl) ?_
    refine lv_bipush (v := (-9)) hx hb dL_ends_175 (by decide) ?_
    refine lv_icmp_ne (tgt := 237) hx hb dL_ends_177 (by decide) (fun h => absurd rfl h) (fun _ => ?_)
    refine lv_aload_n hx hb dL_ends_180 rfl (lv_at hl 4 rfl) ?_
    refine lv_iload_n hx hb dL_ends_181 rfl (lv_at hl 5 rfl) ?_
    refine callQ_i (As := [.int (bI true)]) (rest := []) (y_worst l D true  hPK) hC hK hN hP hD hS rfl rfl q659 md_X7_worst rfl hl.1 rfl (Nat.le_of_ble_eq_true rfl) dL_ends_182 ⟨Nat.le_of_ble_eq_true rfl, Nat.le_of_ble_eq_true rfl⟩ ⟨Nat.le_of_ble_eq_true rfl, Nat.le_of_ble_eq_true rfl⟩ (fun r w_182 H locs hq hP hD hS => ?_)
    obtain ⟨hPK, hr9⟩ := hq
    have hr9 : r = (-9) := hr9.trans (by rw [hg, ha]; exact cn_worst hCN)
    rw [hr9]
    refine lv_bipush (v := (-9)) hx hb dL_ends_185 (by decide) ?_
    refine lv_icmp_ne (tgt := 235) hx hb dL_ends_187 (by decide) (fun h => absurd rfl h) (fun _ => ?_)
    refine lv_aload_n hx hb dL_ends_190 rfl (lv_at hl 4 rfl) ?_
    refine lv_iload_n hx hb dL_ends_191 rfl (lv_at hl 5 rfl) ?_
    refine callQ_i (As := [.int (bI true)]) (rest := []) (y_hint l D true  hPK) hC hK hN hP hD hS rfl rfl q641 md_X7_hint rfl hl.1 rfl (Nat.le_of_ble_eq_true rfl) dL_ends_192 ⟨Nat.le_of_ble_eq_true rfl, Nat.le_of_ble_eq_true rfl⟩ ⟨Nat.le_of_ble_eq_true rfl, Nat.le_of_ble_eq_true rfl⟩ (fun r w_192 H locs hq hP hD hS => ?_)
    obtain ⟨hPK, hr9⟩ := hq
    have hr9 : r = (-9) := hr9.trans (congrArg cHint (cn_hix hg ha hCN))
    rw [hr9]
    refine lv_bipush (v := (-9)) hx hb dL_ends_195 (by decide) ?_
    refine lv_icmp_ne (tgt := 235) hx hb dL_ends_197 (by decide) (fun h => absurd rfl h) (fun _ => ?_)
    refine lv_aload_n hx hb dL_ends_200 rfl (lv_at hl 4 rfl) ?_
    refine lv_iload_n hx hb dL_ends_201 rfl (lv_at hl 5 rfl) ?_
    refine callQ_i (As := [.int (bI true)]) (rest := []) (y_follow_no l D true (fm_bad (cn_hix hg ha hCN)).1 hPK) hC hK hN hP hD hS rfl rfl q654 md_X7_follow rfl hl.1 rfl (Nat.le_of_ble_eq_true rfl) dL_ends_202 ⟨Nat.le_of_ble_eq_true rfl, Nat.le_of_ble_eq_true rfl⟩ ⟨Nat.le_of_ble_eq_true rfl, Nat.le_of_ble_eq_true rfl⟩ (fun r w_202 H locs hq hP hD hS => ?_)
    obtain ⟨hPK, hr9⟩ := hq
    have hr9 : r = (-2) := hr9.trans (fm_bad (cn_hix hg ha hCN)).2
    rw [hr9]
    refine lv_bipush (v := (-2)) hx hb dL_ends_205 (by decide) ?_
    refine lv_icmp_ne (tgt := 235) hx hb dL_ends_207 (by decide) (fun h => absurd rfl h) (fun _ => ?_)
    refine lv_aload_n hx hb dL_ends_210 rfl (lv_at hl 4 rfl) ?_
    refine lv_iload_n hx hb dL_ends_211 rfl (lv_at hl 5 rfl) ?_
    refine callQ_f (As := [.int (bI true)]) (rest := []) (y_mean l D true  hPK) hC hK hN hP hD hS rfl rfl q678 md_X7_mean rfl hl.1 rfl (Nat.le_of_ble_eq_true rfl) dL_ends_212 ⟨Nat.le_of_ble_eq_true rfl, Nat.le_of_ble_eq_true rfl⟩ ⟨Nat.le_of_ble_eq_true rfl, Nat.le_of_ble_eq_true rfl⟩ (fun r w_212 H locs hq hP hD hS => ?_)
    obtain ⟨hPK, hr9⟩ := hq
    have hr9 : r = 3212836864 := hr9.trans (by rw [hg, ha]; exact cn_mean hCN)
    rw [hr9]
    refine lv_ldcf hx hb hC.2.2.2.1 (hC.2.2.2.2 _ q683) dL_ends_215 ?_
    refine lv_fcmp hx hb dL_ends_217 ?_
    refine topi (y := nI 0) (by decide +kernel) ?_
    refine n_if_ne (a := 0) (tgt := 235) hx hb dL_ends_218 (by decide) (by decide) (fun h => absurd h (by decide)) (fun _ => ?_)
    refine lv_aload_n hx hb dL_ends_221 rfl (lv_at hl 4 rfl) ?_
    refine lv_iload_n hx hb dL_ends_222 rfl (lv_at hl 5 rfl) ?_
    refine callQ_i (As := [.int (bI true)]) (rest := []) (y_hardest_no l D true (cn_hdx hg ha hCN) hPK) hC hK hN hP hD hS rfl rfl q663 md_X7_hardest rfl hl.1 rfl (Nat.le_of_ble_eq_true rfl) dL_ends_223 ⟨Nat.le_of_ble_eq_true rfl, Nat.le_of_ble_eq_true rfl⟩ ⟨Nat.le_of_ble_eq_true rfl, Nat.le_of_ble_eq_true rfl⟩ (fun r w_223 H locs hq hP hD hS => ?_)
    obtain ⟨hPK, hr9⟩ := hq
    have hr9 : r = (-2) := hr9.trans (hr_none (cn_hdx hg ha hCN))
    rw [hr9]
    refine lv_bipush (v := (-2)) hx hb dL_ends_226 (by decide) ?_
    refine lv_icmp_ne (tgt := 235) hx hb dL_ends_228 (by decide) (fun h => absurd rfl h) (fun _ => ?_)
    refine lv_iconst (v := nI 1) hx hb dL_ends_231 (by decide) ?_
    refine lv_goto (tgt := 236) hx hb dL_ends_232 (by decide) ?_
    rw [hQ]
    subst hAe
    exact W.zret (v := nI 1) hx hb hr rfl (fun t9 ht hW => ⟨⟨_, w_223, rfl, ⟨rfl, t, hPK, rfl⟩, by rw [ht]; exact hP, hD⟩, hS.F ht⟩) hS.2.2 dL_ends_236
  · have _ : True := trivial
    have hCC := hE.2.2.2.2.2
    obtain ⟨dF, hdF⟩ := hCC.all true Rch_0
    obtain ⟨dO, hdO⟩ := hCC.all false Rch_0
    obtain ⟨wF, hwF⟩ := hCC.mx true
    obtain ⟨wO, hwO⟩ := hCC.mx false
    have hn1 : 1 ≤ ns := hCC.2.2.1
    have hn2 : ns ≤ 2000 := hCC.2.2.2.1
    have hdFn : dF < ns := hCC.lt hdF
    have hdOn : dO < ns := hCC.lt hdO
    have hle : dF ≤ wF := hwF.2 _ _ hdF
    have hwFn : wF < ns := by obtain ⟨xw, hxw⟩ := hwF.1; exact hCC.lt hxw
    have hwOn : wO < ns := by obtain ⟨xw, hxw⟩ := hwO.1; exact hCC.lt hxw
    have hcmp : dF ≤ dO := hCC.le hdO hdF
    obtain ⟨sc, hsc1, hsc2, hsc⟩ := hE.solved
    obtain ⟨mn, hmn, hmn1, hmn2⟩ := hE.mean hwF
    obtain ⟨mp, hmp1, hmp2, hmp⟩ := hE.places
    refine lv_aload_n hx hb dL_ends_0 rfl (lv_at hl 0 rfl) ?_
    refine lv_iload_n hx hb dL_ends_1 rfl (lv_at hl 1 rfl) ?_
    refine callQ_i (As := [.int (bI true)]) (rest := []) (y_distance l D true  hPK) hC hK hN hP hD hS rfl rfl q640 md_X7_distance rfl hl.1 rfl (Nat.le_of_ble_eq_true rfl) dL_ends_2 ⟨Nat.le_of_ble_eq_true rfl, Nat.le_of_ble_eq_true rfl⟩ ⟨Nat.le_of_ble_eq_true rfl, Nat.le_of_ble_eq_true rfl⟩ (fun r w_2 H locs hq hP hD hS => ?_)
    obtain ⟨hPK, hr9⟩ := hq
    have hr9 : r = nI dF := hr9.trans (hE.dist hdF)
    rw [hr9]
    refine lv_istore_n (lv' := [(3, .int (nI dF)), (0, .ref xo), (1, .int (bI true)), (2, .int (nI 6))]) hx hb dL_ends_5 rfl hl (by decide) rfl (fun ls hl => ?_)
    refine lv_aload_n hx hb dL_ends_6 rfl (lv_at hl 1 rfl) ?_
    refine lv_iload_n hx hb dL_ends_7 rfl (lv_at hl 2 rfl) ?_
    refine b_if_ne (z := true) (tgt := 15) hx hb dL_ends_8 (by decide) (fun _ => ?_) (fun h => absurd h (by decide))
    refine lv_iconst (v := nI 0) hx hb dL_ends_15 (by decide) ?_
    refine callQ_i (As := [.int (nI 0)]) (rest := []) (y_distance l D false  hPK) hC hK hN hP hD hS rfl rfl q640 md_X7_distance rfl hl.1 rfl (Nat.le_of_ble_eq_true rfl) dL_ends_16 ⟨Nat.le_of_ble_eq_true rfl, Nat.le_of_ble_eq_true rfl⟩ ⟨Nat.le_of_ble_eq_true rfl, Nat.le_of_ble_eq_true rfl⟩ (fun r w_16 H locs hq hP hD hS => ?_)
    obtain ⟨hPK, hr9⟩ := hq
    have hr9 : r = nI dO := hr9.trans (hE.dist hdO)
    rw [hr9]
    refine lv_istore (lv' := [(4, .int (nI dO)), (3, .int (nI dF)), (0, .ref xo), (1, .int (bI true)), (2, .int (nI 6))]) hx hb dL_ends_19 hl (by decide) rfl (fun ls hl => ?_)
    refine lv_aload_n hx hb dL_ends_21 rfl (lv_at hl 2 rfl) ?_
    refine callQ_i (As := []) (rest := []) (y_states l D   hPK) hC hK hN hP hD hS rfl rfl q477 md_X7_states rfl hl.1 rfl (Nat.le_of_ble_eq_true rfl) dL_ends_22 ⟨Nat.le_of_ble_eq_true rfl, Nat.le_of_ble_eq_true rfl⟩ ⟨Nat.le_of_ble_eq_true rfl, Nat.le_of_ble_eq_true rfl⟩ (fun r w_22 H locs hq hP hD hS => ?_)
    obtain ⟨hPK, hr9⟩ := hq
    have hr9 : r = nI ns := hr9.trans hE.states
    rw [hr9]
    refine lv_istore (lv' := [(5, .int (nI ns)), (4, .int (nI dO)), (3, .int (nI dF)), (0, .ref xo), (1, .int (bI true)), (2, .int (nI 6))]) hx hb dL_ends_25 hl (by decide) rfl (fun ls hl => ?_)
    refine lv_iload hx hb dL_ends_27 (lv_at hl 0 rfl) ?_
    refine lv_bipush (v := (-3)) hx hb dL_ends_29 (by decide) ?_
    refine lv_icmp_ne (tgt := 95) hx hb dL_ends_31 (by decide) (fun _ => ?_) (fun h9 => absurd h9 (nI_m3 (by omega)))
    refine lv_aload_n hx hb dL_ends_95 rfl (lv_at hl 3 rfl) ?_
    refine callQ_i (As := []) (rest := []) (y_solved l D   hPK) hC hK hN hP hD hS rfl rfl q632 md_X7_solved rfl hl.1 rfl (Nat.le_of_ble_eq_true rfl) dL_ends_96 ⟨Nat.le_of_ble_eq_true rfl, Nat.le_of_ble_eq_true rfl⟩ ⟨Nat.le_of_ble_eq_true rfl, Nat.le_of_ble_eq_true rfl⟩ (fun r w_96 H locs hq hP hD hS => ?_)
    obtain ⟨hPK, hr9⟩ := hq
    have hr9 : r = nI sc := hr9.trans hsc
    rw [hr9]
    refine lv_istore (lv' := [(6, .int (nI sc)), (5, .int (nI ns)), (4, .int (nI dO)), (3, .int (nI dF)), (0, .ref xo), (1, .int (bI true)), (2, .int (nI 6))]) hx hb dL_ends_99 hl (by decide) rfl (fun ls hl => ?_)
    refine lv_iload hx hb dL_ends_101 (lv_at hl 1 rfl) ?_
    refine lv_iconst (v := nI 1) hx hb dL_ends_103 (by decide) ?_
    refine n_icmp_lt (a := ns) (b := 1) (tgt := 172) hx hb dL_ends_104 (by decide) (by omega) (by omega) (fun h9 => absurd h9 (by omega)) (fun _ => ?_)
    refine lv_iload hx hb dL_ends_107 (lv_at hl 1 rfl) ?_
    refine lv_sipush (v := nI 2000) hx hb dL_ends_109 (by decide) ?_
    refine n_icmp_gt (a := ns) (b := 2000) (tgt := 172) hx hb dL_ends_112 (by decide) (by omega) (by omega) (fun h9 => absurd h9 (by omega)) (fun _ => ?_)
    refine lv_iload hx hb dL_ends_115 (lv_at hl 0 rfl) ?_
    refine lv_iload hx hb dL_ends_117 (lv_at hl 1 rfl) ?_
    refine n_icmp_gt (a := sc) (b := ns) (tgt := 172) hx hb dL_ends_119 (by decide) (by omega) (by omega) (fun h9 => absurd h9 (by omega)) (fun _ => ?_)
    refine lv_iload hx hb dL_ends_122 (lv_at hl 0 rfl) ?_
    refine n_if_ne (tgt := 131) hx hb dL_ends_124 (by decide) (by omega) (fun _ => ?_) (fun h9 => absurd h9 (by omega))
    refine lv_iconst (v := nI 0) hx hb dL_ends_131 (by decide) ?_
    refine lv_iload_n hx hb dL_ends_132 rfl (lv_at hl 3 rfl) ?_
    refine lv_bipush (v := (-9)) hx hb dL_ends_133 (by decide) ?_
    refine lv_icmp_ne (tgt := 142) hx hb dL_ends_135 (by decide) (fun _ => ?_) (fun h9 => absurd h9 (nI_m9 (by omega)))
    refine lv_iconst (v := nI 0) hx hb dL_ends_142 (by decide) ?_
    refine n_icmp_ne (a := 0) (b := 0) (tgt := 172) hx hb dL_ends_143 (by decide) (by decide) (by decide) (fun h => absurd h (by decide)) (fun _ => ?_)
    refine lv_iload hx hb dL_ends_146 (lv_at hl 2 rfl) ?_
    refine lv_bipush (v := (-9)) hx hb dL_ends_148 (by decide) ?_
    refine lv_icmp_ne (tgt := 157) hx hb dL_ends_150 (by decide) (fun _ => ?_) (fun h9 => absurd h9 (nI_m9 (by omega)))
    refine lv_iconst (v := nI 0) hx hb dL_ends_157 (by decide) ?_
    refine lv_iload_n hx hb dL_ends_158 rfl (lv_at hl 3 rfl) ?_
    refine lv_bipush (v := (-9)) hx hb dL_ends_159 (by decide) ?_
    refine lv_icmp_ne (tgt := 168) hx hb dL_ends_161 (by decide) (fun _ => ?_) (fun h9 => absurd h9 (nI_m9 (by omega)))
    refine lv_iconst (v := nI 0) hx hb dL_ends_168 (by decide) ?_
    refine n_icmp_eq (a := 0) (b := 0) (tgt := 174) hx hb dL_ends_169 (by decide) (by decide) (by decide) (fun _ => ?_) (fun h => absurd h (by decide))
    refine lv_iload_n hx hb dL_ends_174 rfl (lv_at hl 3 rfl) ?_
    refine lv_bipush (v := (-9)) hx hb dL_ends_175 (by decide) ?_
    refine lv_icmp_ne (tgt := 237) hx hb dL_ends_177 (by decide) (fun _ => ?_) (fun h9 => absurd h9 (nI_m9 (by omega)))
    refine lv_aload_n hx hb dL_ends_237 rfl (lv_at hl 4 rfl) ?_
    refine lv_iload_n hx hb dL_ends_238 rfl (lv_at hl 5 rfl) ?_
    refine callQ_i (As := [.int (bI true)]) (rest := []) (y_worst l D true  hPK) hC hK hN hP hD hS rfl rfl q659 md_X7_worst rfl hl.1 rfl (Nat.le_of_ble_eq_true rfl) dL_ends_239 ⟨Nat.le_of_ble_eq_true rfl, Nat.le_of_ble_eq_true rfl⟩ ⟨Nat.le_of_ble_eq_true rfl, Nat.le_of_ble_eq_true rfl⟩ (fun r w_239 H locs hq hP hD hS => ?_)
    obtain ⟨hPK, hr9⟩ := hq
    have hr9 : r = nI wF := hr9.trans (hE.worst hwF)
    rw [hr9]
    refine lv_istore (lv' := [(7, .int (nI wF)), (6, .int (nI sc)), (5, .int (nI ns)), (4, .int (nI dO)), (3, .int (nI dF)), (0, .ref xo), (1, .int (bI true)), (2, .int (nI 6))]) hx hb dL_ends_242 hl (by decide) rfl (fun ls hl => ?_)
    refine lv_aload_n hx hb dL_ends_244 rfl (lv_at hl 5 rfl) ?_
    refine lv_iload_n hx hb dL_ends_245 rfl (lv_at hl 6 rfl) ?_
    refine callQ_f (As := [.int (bI true)]) (rest := []) (y_mean l D true  hPK) hC hK hN hP hD hS rfl rfl q678 md_X7_mean rfl hl.1 rfl (Nat.le_of_ble_eq_true rfl) dL_ends_246 ⟨Nat.le_of_ble_eq_true rfl, Nat.le_of_ble_eq_true rfl⟩ ⟨Nat.le_of_ble_eq_true rfl, Nat.le_of_ble_eq_true rfl⟩ (fun r w_246 H locs hq hP hD hS => ?_)
    obtain ⟨hPK, hr9⟩ := hq
    have hr9 : r = mn := hr9.trans hmn
    rw [hr9]
    refine lv_fstore (lv' := [(8, .float mn), (7, .int (nI wF)), (6, .int (nI sc)), (5, .int (nI ns)), (4, .int (nI dO)), (3, .int (nI dF)), (0, .ref xo), (1, .int (bI true)), (2, .int (nI 6))]) hx hb dL_ends_249 hl (by decide) rfl (fun ls hl => ?_)
    refine lv_iload_n hx hb dL_ends_251 rfl (lv_at hl 5 rfl) ?_
    refine lv_iload hx hb dL_ends_252 (lv_at hl 1 rfl) ?_
    refine n_icmp_gt (a := dF) (b := wF) (tgt := 368) hx hb dL_ends_254 (by decide) (by omega) (by omega) (fun h9 => absurd h9 (by omega)) (fun _ => ?_)
    rcases Nat.eq_zero_or_pos dF with hz0 | hz0
    · have _ : True := trivial
      refine lv_iload_n hx hb dL_ends_257 rfl (lv_at hl 5 rfl) ?_
      refine n_if_ne (tgt := 265) hx hb dL_ends_258 (by decide) (by omega) (fun h9 => absurd h9 (by omega)) (fun _ => ?_)
      refine lv_iconst (v := nI 1) hx hb dL_ends_261 (by decide) ?_
      refine lv_goto (tgt := 266) hx hb dL_ends_262 (by decide) ?_
      refine lv_aload_n hx hb dL_ends_266 rfl (lv_at hl 6 rfl) ?_
      refine lv_bipush (v := nI 8) hx hb dL_ends_267 (by decide) ?_
      refine callQ_i (As := [.int (nI 8)]) (rest := [.int (nI 1)]) (y_frame l D (nI 8)  hPK) hC hK hN hP hD hS rfl rfl q389 md_X7_frame rfl hl.1 rfl (Nat.le_of_ble_eq_true rfl) dL_ends_269 ⟨Nat.le_of_ble_eq_true rfl, Nat.le_of_ble_eq_true rfl⟩ ⟨Nat.le_of_ble_eq_true rfl, Nat.le_of_ble_eq_true rfl⟩ (fun r w_269 H locs hq hP hD hS => ?_)
      obtain ⟨hPK, hr9⟩ := hq
      have hr9 : r = nI 1 := hr9.trans ((frx (k := 8) (by decide)).trans ((hE.at (z := true)).trans (if_pos (by rw [hdF, hz0]))))
      rw [hr9]
      refine lv_iconst (v := nI 1) hx hb dL_ends_272 (by decide) ?_
      refine n_icmp_ne (a := 1) (b := 1) (tgt := 280) hx hb dL_ends_273 (by decide) (by decide) (by decide) (fun h => absurd h (by decide)) (fun _ => ?_)
      refine lv_iconst (v := nI 1) hx hb dL_ends_276 (by decide) ?_
      refine lv_goto (tgt := 281) hx hb dL_ends_277 (by decide) ?_
      refine n_icmp_ne (a := 1) (b := 1) (tgt := 368) hx hb dL_ends_281 (by decide) (by decide) (by decide) (fun h => absurd h (by decide)) (fun _ => ?_)
      refine lv_iload_n hx hb dL_ends_284 rfl (lv_at hl 7 rfl) ?_
      refine b_if_eq (z := true) (tgt := 297) hx hb dL_ends_285 (by decide) (fun h => absurd h (by decide)) (fun _ => ?_)
      refine lv_iload hx hb dL_ends_288 (lv_at hl 4 rfl) ?_
      refine lv_iload_n hx hb dL_ends_290 rfl (lv_at hl 5 rfl) ?_
      refine n_icmp_ge (a := dO) (b := dF) (tgt := 303) hx hb dL_ends_291 (by decide) (by omega) (by omega) (fun _ => ?_) (fun h9 => absurd h9 (by omega))
      refine lv_fload hx hb dL_ends_303 (lv_at hl 0 rfl) ?_
      refine lv_iload hx hb dL_ends_305 (lv_at hl 1 rfl) ?_
      refine lv_i2f hx hb dL_ends_307 ?_
      refine lv_fcmp hx hb dL_ends_308 ?_
      refine lv_if_gt (tgt := 368) hx hb dL_ends_309 (by decide) (fun h9 => absurd h9 (cmp_l hmn1)) (fun _ => ?_)
      refine lv_fload hx hb dL_ends_312 (lv_at hl 0 rfl) ?_
      refine lv_fconst0 hx hb dL_ends_314 ?_
      refine lv_fcmp hx hb dL_ends_315 ?_
      refine lv_if_lt (tgt := 368) hx hb dL_ends_316 (by decide) (fun h9 => absurd h9 (cmp_g hmn2)) (fun _ => ?_)
      refine lv_aload_n hx hb dL_ends_319 rfl (lv_at hl 6 rfl) ?_
      refine lv_iload_n hx hb dL_ends_320 rfl (lv_at hl 7 rfl) ?_
      refine callQ_i (As := [.int (bI true)]) (rest := []) (y_hint l D true  hPK) hC hK hN hP hD hS rfl rfl q641 md_X7_hint rfl hl.1 rfl (Nat.le_of_ble_eq_true rfl) dL_ends_321 ⟨Nat.le_of_ble_eq_true rfl, Nat.le_of_ble_eq_true rfl⟩ ⟨Nat.le_of_ble_eq_true rfl, Nat.le_of_ble_eq_true rfl⟩ (fun r w_321 H locs hq hP hD hS => ?_)
      obtain ⟨hPK, hr9⟩ := hq
      have hr9 : r = (-9) := hr9.trans (hE.hint0 (by rw [hdF, hz0]))
      rw [hr9]
      refine lv_bipush (v := (-9)) hx hb dL_ends_324 (by decide) ?_
      refine lv_icmp_ne (tgt := 333) hx hb dL_ends_326 (by decide) (fun h => absurd rfl h) (fun _ => ?_)
      refine lv_iconst (v := nI 1) hx hb dL_ends_329 (by decide) ?_
      refine lv_goto (tgt := 334) hx hb dL_ends_330 (by decide) ?_
      refine lv_iload_n hx hb dL_ends_334 rfl (lv_at hl 5 rfl) ?_
      refine n_if_ne (tgt := 342) hx hb dL_ends_335 (by decide) (by omega) (fun h9 => absurd h9 (by omega)) (fun _ => ?_)
      refine lv_iconst (v := nI 1) hx hb dL_ends_338 (by decide) ?_
      refine lv_goto (tgt := 343) hx hb dL_ends_339 (by decide) ?_
      refine n_icmp_ne (a := 1) (b := 1) (tgt := 368) hx hb dL_ends_343 (by decide) (by decide) (by decide) (fun h => absurd h (by decide)) (fun _ => ?_)
      have L346 : ∀ (ws0 : va_W), (PK cI cJ cB xo ln tx t [] ws0) → ∀ (H : Heap) (locs : List Loc), va_P D vwCl (oW cI cJ cB ws0) H → va_D A (oW cI cJ cB ws0) → va_S A s.heap H locs → ∀ ls : Array Slot, lv_has ls 13 [(8, .float mn), (7, .int (nI wF)), (6, .int (nI sc)), (5, .int (nI ns)), (4, .int (nI dO)), (3, .int (nI dF)), (0, .ref xo), (1, .int (bI true)), (2, .int (nI 6))] → W p l e (rmC 8 0 0) s m args below meth c H locs 0 0 QQ (F0 m 346 ls []) := by
        intro ws0 hPK H locs hP hD hS ls hl
        refine lv_aload_n hx hb dL_ends_346 rfl (lv_at hl 6 rfl) ?_
        refine lv_aload_n hx hb dL_ends_347 rfl (lv_at hl 6 rfl) ?_
        refine lv_bipush (v := nI 6) hx hb dL_ends_348 (by decide) ?_
        refine callQ_i (As := [.int (nI 6)]) (rest := [.ref xo]) (y_frame l D (nI 6)  hPK) hC hK hN hP hD hS rfl rfl q389 md_X7_frame rfl hl.1 rfl (Nat.le_of_ble_eq_true rfl) dL_ends_350 ⟨Nat.le_of_ble_eq_true rfl, Nat.le_of_ble_eq_true rfl⟩ ⟨Nat.le_of_ble_eq_true rfl, Nat.le_of_ble_eq_true rfl⟩ (fun r w_350 H locs hq hP hD hS => ?_)
        obtain ⟨hPK, hr9⟩ := hq
        have hr9 : r = nI g := hr9.trans ((frx (k := 6) (by decide)).trans (congrArg gI hg))
        rw [hr9]
        refine callQ_i (As := [.int (nI g)]) (rest := []) (y_places l D (nI g)  hPK) hC hK hN hP hD hS rfl rfl q620 md_X7_places rfl hl.1 rfl (Nat.le_of_ble_eq_true rfl) dL_ends_353 ⟨Nat.le_of_ble_eq_true rfl, Nat.le_of_ble_eq_true rfl⟩ ⟨Nat.le_of_ble_eq_true rfl, Nat.le_of_ble_eq_true rfl⟩ (fun r w_353 H locs hq hP hD hS => ?_)
        obtain ⟨hPK, hr9⟩ := hq
        have hr9 : r = nI mp := hr9.trans hmp
        rw [hr9]
        refine lv_aload_n hx hb dL_ends_356 rfl (lv_at hl 6 rfl) ?_
        refine lv_bipush (v := nI 7) hx hb dL_ends_357 (by decide) ?_
        refine callQ_i (As := [.int (nI 7)]) (rest := [.int (nI mp)]) (y_frame l D (nI 7)  hPK) hC hK hN hP hD hS rfl rfl q389 md_X7_frame rfl hl.1 rfl (Nat.le_of_ble_eq_true rfl) dL_ends_359 ⟨Nat.le_of_ble_eq_true rfl, Nat.le_of_ble_eq_true rfl⟩ ⟨Nat.le_of_ble_eq_true rfl, Nat.le_of_ble_eq_true rfl⟩ (fun r w_359 H locs hq hP hD hS => ?_)
        obtain ⟨hPK, hr9⟩ := hq
        have hr9 : r = nI ap := hr9.trans ((frx (k := 7) (by decide)).trans (congrArg gI ha))
        rw [hr9]
        refine n_ishr hx hb dL_ends_362 (by omega) (by omega) ?_
        refine lv_iconst (v := nI 1) hx hb dL_ends_363 (by decide) ?_
        refine n_iand hx hb dL_ends_364  ?_
        refine topi (y := nI 1) (congrArg nI (bit_1.mpr hmp2)) ?_
        refine n_if_ne (a := 1) (tgt := 370) hx hb dL_ends_365 (by decide) (by decide) (fun _ => ?_) (fun h => absurd h (by decide))
        refine lv_iconst (v := nI 0) hx hb dL_ends_370 (by decide) ?_
        refine lv_istore (lv' := [(9, .int (nI 0)), (8, .float mn), (7, .int (nI wF)), (6, .int (nI sc)), (5, .int (nI ns)), (4, .int (nI dO)), (3, .int (nI dF)), (0, .ref xo), (1, .int (bI true)), (2, .int (nI 6))]) hx hb dL_ends_371 hl (by decide) rfl (fun ls hl => ?_)
        have L373 : ∀ (n : Nat) (bb : Nat) (ws0 : va_W), (bb ≤ tnb t) → (PK cI cJ cB xo ln tx t [] ws0) → (tnb t + 1 - bb) < n → ∀ (H : Heap) (locs : List Loc), va_P D vwCl (oW cI cJ cB ws0) H → va_D A (oW cI cJ cB ws0) → va_S A s.heap H locs → ∀ ls : Array Slot, lv_has ls 13 [(9, .int (nI bb)), (8, .float mn), (7, .int (nI wF)), (6, .int (nI sc)), (5, .int (nI ns)), (4, .int (nI dO)), (3, .int (nI dF)), (0, .ref xo), (1, .int (bI true)), (2, .int (nI 6))] → W p l e (rmC 8 0 0) s m args below meth c H locs 0 0 QQ (F0 m 373 ls []) := by
          intro n; induction n with
          | zero => intro bb ws0 hbb hPK hm; exact absurd hm (Nat.not_lt_zero _)
          | succ n ih373 =>
            intro bb ws0 hbb hPK hm373 H locs hP hD hS ls hl
            refine lv_iload hx hb dL_ends_373 (lv_at hl 0 rfl) ?_
            refine lv_aload_n hx hb dL_ends_375 rfl (lv_at hl 7 rfl) ?_
            refine lv_iconst (v := nI 2) hx hb dL_ends_376 (by decide) ?_
            refine callQ_i (As := [.int (nI 2)]) (rest := [.int (nI bb)]) (y_frame l D (nI 2)  hPK) hC hK hN hP hD hS rfl rfl q389 md_X7_frame rfl hl.1 rfl (Nat.le_of_ble_eq_true rfl) dL_ends_377 ⟨Nat.le_of_ble_eq_true rfl, Nat.le_of_ble_eq_true rfl⟩ ⟨Nat.le_of_ble_eq_true rfl, Nat.le_of_ble_eq_true rfl⟩ (fun r w_377 H locs hq hP hD hS => ?_)
            obtain ⟨hPK, hr9⟩ := hq
            have hr9 : r = nI (tnb t) := hr9.trans (frx (k := 2) (by decide))
            rw [hr9]
            refine n_icmp_ge (a := bb) (b := tnb t) (tgt := 439) hx hb dL_ends_380 (by decide) (by omega) (by omega) (fun c380 => ?_) (fun c380 => ?_)
            · have _ : True := trivial
              refine lv_aload_n hx hb dL_ends_439 rfl (lv_at hl 7 rfl) ?_
              refine lv_iload_n hx hb dL_ends_440 rfl (lv_at hl 8 rfl) ?_
              refine b_if_eq (z := true) (tgt := 448) hx hb dL_ends_441 (by decide) (fun h => absurd h (by decide)) (fun _ => ?_)
              refine lv_iconst (v := nI 5) hx hb dL_ends_444 (by decide) ?_
              refine lv_goto (tgt := 449) hx hb dL_ends_445 (by decide) ?_
              refine callQ_i (As := [.int (nI 5)]) (rest := []) (y_frame l D (nI 5)  hPK) hC hK hN hP hD hS rfl rfl q389 md_X7_frame rfl hl.1 rfl (Nat.le_of_ble_eq_true rfl) dL_ends_449 ⟨Nat.le_of_ble_eq_true rfl, Nat.le_of_ble_eq_true rfl⟩ ⟨Nat.le_of_ble_eq_true rfl, Nat.le_of_ble_eq_true rfl⟩ (fun r w_449 H locs hq hP hD hS => ?_)
              obtain ⟨hPK, hr9⟩ := hq
              have hr9 : r = tsl t := hr9.trans (frx (k := 5) (by decide))
              rw [hr9]
              refine lv_istore (lv' := [(9, .int (tsl t)), (8, .float mn), (7, .int (nI wF)), (6, .int (nI sc)), (5, .int (nI ns)), (4, .int (nI dO)), (3, .int (nI dF)), (0, .ref xo), (1, .int (bI true)), (2, .int (nI 6))]) hx hb dL_ends_452 hl (by decide) rfl (fun ls hl => ?_)
              refine lv_iload_n hx hb dL_ends_454 rfl (lv_at hl 6 rfl) ?_
              refine lv_istore (lv' := [(10, .int (nI dF)), (9, .int (tsl t)), (8, .float mn), (7, .int (nI wF)), (6, .int (nI sc)), (5, .int (nI ns)), (4, .int (nI dO)), (3, .int (nI dF)), (0, .ref xo), (1, .int (bI true)), (2, .int (nI 6))]) hx hb dL_ends_455 hl (by decide) rfl (fun ls hl => ?_)
              have L569 : ∀ (t1 : BT) (ws1 : va_W), (ES t1 g ap ns F) → (frt t1 = frt t) → (PK cI cJ cB xo ln tx t1 [] ws1) → ∀ (H : Heap) (locs : List Loc), va_P D vwCl (oW cI cJ cB ws1) H → va_D A (oW cI cJ cB ws1) → va_S A s.heap H locs → ∀ ls : Array Slot, lv_has ls 13 [(0, .ref xo), (1, .int (bI true)), (5, .int (nI ns)), (7, .int (nI wF))] → W p l e (rmC 8 0 0) s m args below meth c H locs 0 0 QQ (F0 m 569 ls []) := by
                intro t1 ws1 hES hfr hPK H locs hP hD hS ls hl
                refine lv_aload_n hx hb dL_ends_569 rfl (lv_at hl 0 rfl) ?_
                obtain ⟨xh, hxh1, hxh2, hxh3, hxh4⟩ := hES.hard hwF
                refine lv_iload_n hx hb dL_ends_570 rfl (lv_at hl 1 rfl) ?_
                refine callQ_i (As := [.int (bI true)]) (rest := []) (y_hardest_go l D true (Nat.zero_le _) hxh1 hPK) hC hK hN hP hD hS rfl rfl q663 md_X7_hardest rfl hl.1 rfl (Nat.le_of_ble_eq_true rfl) dL_ends_571 ⟨Nat.le_of_ble_eq_true rfl, Nat.le_of_ble_eq_true rfl⟩ ⟨Nat.le_of_ble_eq_true rfl, Nat.le_of_ble_eq_true rfl⟩ (fun r w_571 H locs hq hP hD hS => ?_)
                obtain ⟨⟨ps2, hPK, hps⟩, hr9⟩ := hq
                have hES3 := hES.hd hPK.tv hxh4 hps
                have hr9 : r = nI wF := hr9.trans hxh2
                rw [hr9]
                refine lv_iload hx hb dL_ends_574 (lv_at hl 3 rfl) ?_
                refine n_icmp_ne (a := wF) (b := wF) (tgt := 641) hx hb dL_ends_576 (by decide) (by omega) (by omega) (fun h9 => absurd h9 (by omega)) (fun _ => ?_)
                refine lv_aload_n hx hb dL_ends_579 rfl (lv_at hl 0 rfl) ?_
                refine lv_iload_n hx hb dL_ends_580 rfl (lv_at hl 1 rfl) ?_
                refine callQ_i (As := [.int (bI true)]) (rest := []) (y_distance l D true  hPK) hC hK hN hP hD hS rfl rfl q640 md_X7_distance rfl hl.1 rfl (Nat.le_of_ble_eq_true rfl) dL_ends_581 ⟨Nat.le_of_ble_eq_true rfl, Nat.le_of_ble_eq_true rfl⟩ ⟨Nat.le_of_ble_eq_true rfl, Nat.le_of_ble_eq_true rfl⟩ (fun r w_581 H locs hq hP hD hS => ?_)
                obtain ⟨hPK, hr9⟩ := hq
                have hr9 : r = nI wF := hr9.trans (hES3.dist (by show F true (pkey ps2 (tnb t1)) = some wF; rw [hps]; exact hxh3))
                rw [hr9]
                refine lv_iload hx hb dL_ends_584 (lv_at hl 3 rfl) ?_
                refine n_icmp_ne (a := wF) (b := wF) (tgt := 641) hx hb dL_ends_586 (by decide) (by omega) (by omega) (fun h9 => absurd h9 (by omega)) (fun _ => ?_)
                refine lv_aload_n hx hb dL_ends_589 rfl (lv_at hl 0 rfl) ?_
                refine lv_iconst (v := nI 4) hx hb dL_ends_590 (by decide) ?_
                refine callQ_i (As := [.int (nI 4)]) (rest := []) (y_frame l D (nI 4)  hPK) hC hK hN hP hD hS rfl rfl q389 md_X7_frame rfl hl.1 rfl (Nat.le_of_ble_eq_true rfl) dL_ends_591 ⟨Nat.le_of_ble_eq_true rfl, Nat.le_of_ble_eq_true rfl⟩ ⟨Nat.le_of_ble_eq_true rfl, Nat.le_of_ble_eq_true rfl⟩ (fun r w_591 H locs hq hP hD hS => ?_)
                obtain ⟨hPK, hr9⟩ := hq
                have hr9 : r = nI 0 := hr9.trans (frx (k := 4) (by decide))
                rw [hr9]
                refine n_if_ne (a := 0) (tgt := 641) hx hb dL_ends_594 (by decide) (by decide) (fun h => absurd h (by decide)) (fun _ => ?_)
                refine lv_aload_n hx hb dL_ends_597 rfl (lv_at hl 0 rfl) ?_
                refine lv_iconst (v := nI 5) hx hb dL_ends_598 (by decide) ?_
                refine callQ_i (As := [.int (nI 5)]) (rest := []) (y_frame l D (nI 5)  hPK) hC hK hN hP hD hS rfl rfl q389 md_X7_frame rfl hl.1 rfl (Nat.le_of_ble_eq_true rfl) dL_ends_599 ⟨Nat.le_of_ble_eq_true rfl, Nat.le_of_ble_eq_true rfl⟩ ⟨Nat.le_of_ble_eq_true rfl, Nat.le_of_ble_eq_true rfl⟩ (fun r w_599 H locs hq hP hD hS => ?_)
                obtain ⟨hPK, hr9⟩ := hq
                have hr9 : r = nI 0 := hr9.trans (frx (k := 5) (by decide))
                rw [hr9]
                refine n_if_ne (a := 0) (tgt := 641) hx hb dL_ends_602 (by decide) (by decide) (fun h => absurd h (by decide)) (fun _ => ?_)
                refine lv_aload_n hx hb dL_ends_605 rfl (lv_at hl 0 rfl) ?_
                refine callQ_i (As := []) (rest := []) (y_states l D   hPK) hC hK hN hP hD hS rfl rfl q477 md_X7_states rfl hl.1 rfl (Nat.le_of_ble_eq_true rfl) dL_ends_606 ⟨Nat.le_of_ble_eq_true rfl, Nat.le_of_ble_eq_true rfl⟩ ⟨Nat.le_of_ble_eq_true rfl, Nat.le_of_ble_eq_true rfl⟩ (fun r w_606 H locs hq hP hD hS => ?_)
                obtain ⟨hPK, hr9⟩ := hq
                have hr9 : r = nI ns := hr9.trans hES3.states
                rw [hr9]
                refine lv_iload hx hb dL_ends_609 (lv_at hl 2 rfl) ?_
                refine n_icmp_ne (a := ns) (b := ns) (tgt := 641) hx hb dL_ends_611 (by decide) (by omega) (by omega) (fun h9 => absurd h9 (by omega)) (fun _ => ?_)
                refine lv_aload_n hx hb dL_ends_614 rfl (lv_at hl 0 rfl) ?_
                refine lv_iload_n hx hb dL_ends_615 rfl (lv_at hl 1 rfl) ?_
                refine b_if_ne (z := true) (tgt := 623) hx hb dL_ends_616 (by decide) (fun _ => ?_) (fun h => absurd h (by decide))
                refine lv_iconst (v := nI 0) hx hb dL_ends_623 (by decide) ?_
                refine callQ_i (As := [.int (nI 0)]) (rest := []) (y_worst l D false  hPK) hC hK hN hP hD hS rfl rfl q659 md_X7_worst rfl hl.1 rfl (Nat.le_of_ble_eq_true rfl) dL_ends_624 ⟨Nat.le_of_ble_eq_true rfl, Nat.le_of_ble_eq_true rfl⟩ ⟨Nat.le_of_ble_eq_true rfl, Nat.le_of_ble_eq_true rfl⟩ (fun r w_624 H locs hq hP hD hS => ?_)
                obtain ⟨hPK, hr9⟩ := hq
                have hr9 : r = nI wO := hr9.trans (hES3.worst hwO)
                rw [hr9]
                refine n_if_lt (tgt := 641) hx hb dL_ends_627 (by decide) (by omega) ?_
                refine lv_aload_n hx hb dL_ends_630 rfl (lv_at hl 0 rfl) ?_
                refine callQ_i (As := []) (rest := []) (y_undo l D   hPK) hC hK hN hP hD hS rfl rfl q528 md_X7_undo rfl hl.1 rfl (Nat.le_of_ble_eq_true rfl) dL_ends_631 ⟨Nat.le_of_ble_eq_true rfl, Nat.le_of_ble_eq_true rfl⟩ ⟨Nat.le_of_ble_eq_true rfl, Nat.le_of_ble_eq_true rfl⟩ (fun r w_631 H locs hq hP hD hS => ?_)
                obtain ⟨hPK, j9, hj9, hr9⟩ := hq
                have hr9 : r = nI j9 := hr9
                rw [hr9]
                refine n_if_lt (tgt := 641) hx hb dL_ends_634 (by decide) (by omega) ?_
                refine lv_iconst (v := nI 1) hx hb dL_ends_637 (by decide) ?_
                refine lv_goto (tgt := 642) hx hb dL_ends_638 (by decide) ?_
                rw [hQ]
                subst hAe
                exact W.zret (v := nI 1) hx hb hr rfl (fun t9 ht hW => ⟨⟨_, w_631, rfl, ⟨rfl, t1, hPK, hfr⟩, by rw [ht]; exact hP, hD⟩, hS.F ht⟩) hS.2.2 dL_ends_642
              have L457 : ∀ (n : Nat) (k1 : Nat) (t1 : BT) (ws1 : va_W), (ES t1 g ap ns F) → (F true (kyt t1) = some k1) → (frt t1 = frt t) → (PK cI cJ cB xo ln tx t1 [] ws1) → (k1 + 1) < n → ∀ (H : Heap) (locs : List Loc), va_P D vwCl (oW cI cJ cB ws1) H → va_D A (oW cI cJ cB ws1) → va_S A s.heap H locs → ∀ ls : Array Slot, lv_has ls 13 [(9, .int (tsl t1)), (10, .int (nI k1)), (8, .float mn), (7, .int (nI wF)), (6, .int (nI sc)), (5, .int (nI ns)), (4, .int (nI dO)), (3, .int (nI dF)), (0, .ref xo), (1, .int (bI true)), (2, .int (nI 6))] → W p l e (rmC 8 0 0) s m args below meth c H locs 0 0 QQ (F0 m 457 ls []) := by
                intro n; induction n with
                | zero => intro k1 t1 ws1 hES hFk hfr hPK hm; exact absurd hm (Nat.not_lt_zero _)
                | succ n ih457 =>
                  intro k1 t1 ws1 hES hFk hfr hPK hm457 H locs hP hD hS ls hl
                  have hk19 : k1 < 2000 := Nat.lt_of_lt_of_le (hES.2.2.2.2.2.lt hFk) hn2
                  refine lv_iload hx hb dL_ends_457 (lv_at hl 1 rfl) ?_
                  refine n_if_le (tgt := 569) hx hb dL_ends_459 (by decide) (by omega) (fun c459 => ?_) (fun c459 => ?_)
                  · have _ : True := trivial
                    exact L569 t1 ws1 hES hfr hPK  _ _ hP hD hS _ (lv_sub hl [8, 9, 5, 3] rfl)
                  · have _ : True := trivial
                    refine lv_iload hx hb dL_ends_462 (lv_at hl 1 rfl) ?_
                    refine lv_iload_n hx hb dL_ends_464 rfl (lv_at hl 7 rfl) ?_
                    refine lv_iload_n hx hb dL_ends_465 rfl (lv_at hl 10 rfl) ?_
                    refine lv_isub hx hb dL_ends_466 ?_
                    refine lv_icmp_le (tgt := 569) hx hb dL_ends_467 (by decide) (fun c467 => ?_) (fun c467 => ?_)
                    · have _ : True := trivial
                      exact L569 t1 ws1 hES hfr hPK  _ _ hP hD hS _ (lv_sub hl [8, 9, 5, 3] rfl)
                    · have _ : True := trivial
                      obtain ⟨ek, hke⟩ : ∃ ek, k1 = ek + 1 := ⟨k1 - 1, by omega⟩
                      obtain ⟨b, q, km, hb7, hq24, hqp, hch, hfo, hfo2, hES2, hF2, hkm⟩ := hES.hint (e := ek) (by rw [← hke]; exact hFk)
                      have hpc1 := (TV_p hES.1 hb7).1
                      have hc1 := TV_c hES.1
                      have hn71 := TV_n hES.1
                      refine lv_aload_n hx hb dL_ends_470 rfl (lv_at hl 8 rfl) ?_
                      refine lv_iload_n hx hb dL_ends_471 rfl (lv_at hl 9 rfl) ?_
                      refine callQ_i (As := [.int (bI true)]) (rest := []) (y_hint l D true  hPK) hC hK hN hP hD hS rfl rfl q641 md_X7_hint rfl hl.1 rfl (Nat.le_of_ble_eq_true rfl) dL_ends_472 ⟨Nat.le_of_ble_eq_true rfl, Nat.le_of_ble_eq_true rfl⟩ ⟨Nat.le_of_ble_eq_true rfl, Nat.le_of_ble_eq_true rfl⟩ (fun r w_472 H locs hq hP hD hS => ?_)
                      obtain ⟨hPK, hr9⟩ := hq
                      have hr9 : r = nI (100 * b + q) := hr9.trans hch
                      rw [hr9]
                      refine lv_istore (lv' := [(11, .int (nI (100 * b + q))), (9, .int (tsl t1)), (10, .int (nI k1)), (8, .float mn), (7, .int (nI wF)), (6, .int (nI sc)), (5, .int (nI ns)), (4, .int (nI dO)), (3, .int (nI dF)), (0, .ref xo), (1, .int (bI true)), (2, .int (nI 6))]) hx hb dL_ends_475 hl (by decide) rfl (fun ls hl => ?_)
                      refine lv_iload hx hb dL_ends_477 (lv_at hl 0 rfl) ?_
                      refine lv_bipush (v := nI 100) hx hb dL_ends_479 (by decide) ?_
                      refine n_idiv hx hb dL_ends_481 (by omega) (by omega) (by omega) ?_
                      refine topi (y := nI b) (congrArg nI (by omega)) ?_
                      refine lv_istore (lv' := [(12, .int (nI b)), (11, .int (nI (100 * b + q))), (9, .int (tsl t1)), (10, .int (nI k1)), (8, .float mn), (7, .int (nI wF)), (6, .int (nI sc)), (5, .int (nI ns)), (4, .int (nI dO)), (3, .int (nI dF)), (0, .ref xo), (1, .int (bI true)), (2, .int (nI 6))]) hx hb dL_ends_482 hl (by decide) rfl (fun ls hl => ?_)
                      refine lv_aload_n hx hb dL_ends_484 rfl (lv_at hl 10 rfl) ?_
                      refine lv_iload hx hb dL_ends_485 (lv_at hl 0 rfl) ?_
                      refine lv_iconst (v := nI 0) hx hb dL_ends_487 (by decide) ?_
                      refine callQ_i (As := [.int (nI b), .int (nI 0)]) (rest := []) (y_block l D (nI b) (nI 0)  hPK) hC hK hN hP hD hS rfl rfl q421 md_X7_block rfl hl.1 rfl (Nat.le_of_ble_eq_true rfl) dL_ends_488 ⟨Nat.le_of_ble_eq_true rfl, Nat.le_of_ble_eq_true rfl⟩ ⟨Nat.le_of_ble_eq_true rfl, Nat.le_of_ble_eq_true rfl⟩ (fun r w_488 H locs hq hP hD hS => ?_)
                      obtain ⟨hPK, hr9⟩ := hq
                      have hr9 : r = nI (tps t1 b) := hr9.trans (blx (b := b) (k := 0) hb7 (TV_n hES.1) (by decide))
                      rw [hr9]
                      refine lv_iload hx hb dL_ends_491 (lv_at hl 1 rfl) ?_
                      refine lv_bipush (v := nI 100) hx hb dL_ends_493 (by decide) ?_
                      refine n_irem hx hb dL_ends_495 (by omega) (by omega) (by omega) ?_
                      refine topi (y := nI q) (congrArg nI (by omega)) ?_
                      refine n_icmp_eq (a := tps t1 b) (b := q) (tgt := 538) hx hb dL_ends_496 (by decide) (by omega) (by omega) (fun h9 => absurd h9 (by omega)) (fun _ => ?_)
                      refine lv_aload_n hx hb dL_ends_499 rfl (lv_at hl 10 rfl) ?_
                      refine lv_iload_n hx hb dL_ends_500 rfl (lv_at hl 11 rfl) ?_
                      refine callQ_i (As := [.int (bI true)]) (rest := []) (y_follow_go l D true (Nat.zero_le _) hfo hPK) hC hK hN hP hD hS rfl rfl q654 md_X7_follow rfl hl.1 rfl (Nat.le_of_ble_eq_true rfl) dL_ends_501 ⟨Nat.le_of_ble_eq_true rfl, Nat.le_of_ble_eq_true rfl⟩ ⟨Nat.le_of_ble_eq_true rfl, Nat.le_of_ble_eq_true rfl⟩ (fun r w_501 H locs hq hP hD hS => ?_)
                      obtain ⟨hPK, hr9⟩ := hq
                      have hPK := hPK.nil
                      have hr9 : r = nI ek := hr9.trans hfo2
                      rw [hr9]
                      refine lv_iload hx hb dL_ends_504 (lv_at hl 3 rfl) ?_
                      refine lv_iconst (v := nI 1) hx hb dL_ends_506 (by decide) ?_
                      refine n_isub hx hb dL_ends_507 (by omega) ?_
                      refine n_icmp_ne (a := ek) (b := k1 - 1) (tgt := 538) hx hb dL_ends_508 (by decide) (by omega) (by omega) (fun h9 => absurd h9 (by omega)) (fun _ => ?_)
                      refine lv_aload_n hx hb dL_ends_511 rfl (lv_at hl 10 rfl) ?_
                      refine lv_iload hx hb dL_ends_512 (lv_at hl 0 rfl) ?_
                      refine lv_iconst (v := nI 0) hx hb dL_ends_514 (by decide) ?_
                      refine callQ_i (As := [.int (nI b), .int (nI 0)]) (rest := []) (y_block l D (nI b) (nI 0)  hPK) hC hK hN hP hD hS rfl rfl q421 md_X7_block rfl hl.1 rfl (Nat.le_of_ble_eq_true rfl) dL_ends_515 ⟨Nat.le_of_ble_eq_true rfl, Nat.le_of_ble_eq_true rfl⟩ ⟨Nat.le_of_ble_eq_true rfl, Nat.le_of_ble_eq_true rfl⟩ (fun r w_515 H locs hq hP hD hS => ?_)
                      obtain ⟨hPK, hr9⟩ := hq
                      have hr9 : r = nI q := hr9.trans ((blx (b := b) (k := 0) hb7 (TV_n hES.1) (by decide)).trans (congrArg nI (up_eq _ _ _)))
                      rw [hr9]
                      refine lv_iload hx hb dL_ends_518 (lv_at hl 1 rfl) ?_
                      refine lv_bipush (v := nI 100) hx hb dL_ends_520 (by decide) ?_
                      refine n_irem hx hb dL_ends_522 (by omega) (by omega) (by omega) ?_
                      refine topi (y := nI q) (congrArg nI (by omega)) ?_
                      refine n_icmp_ne (a := q) (b := q) (tgt := 538) hx hb dL_ends_523 (by decide) (by omega) (by omega) (fun h9 => absurd h9 (by omega)) (fun _ => ?_)
                      refine lv_aload_n hx hb dL_ends_526 rfl (lv_at hl 10 rfl) ?_
                      refine lv_iload_n hx hb dL_ends_527 rfl (lv_at hl 11 rfl) ?_
                      refine callQ_i (As := [.int (bI true)]) (rest := []) (y_distance l D true  hPK) hC hK hN hP hD hS rfl rfl q640 md_X7_distance rfl hl.1 rfl (Nat.le_of_ble_eq_true rfl) dL_ends_528 ⟨Nat.le_of_ble_eq_true rfl, Nat.le_of_ble_eq_true rfl⟩ ⟨Nat.le_of_ble_eq_true rfl, Nat.le_of_ble_eq_true rfl⟩ (fun r w_528 H locs hq hP hD hS => ?_)
                      obtain ⟨hPK, hr9⟩ := hq
                      have hr9 : r = nI ek := hr9.trans (hES2.dist hF2)
                      rw [hr9]
                      refine lv_iload hx hb dL_ends_531 (lv_at hl 3 rfl) ?_
                      refine lv_iconst (v := nI 1) hx hb dL_ends_533 (by decide) ?_
                      refine n_isub hx hb dL_ends_534 (by omega) ?_
                      refine n_icmp_eq (a := ek) (b := k1 - 1) (tgt := 540) hx hb dL_ends_535 (by decide) (by omega) (by omega) (fun _ => ?_) (fun h9 => absurd h9 (by omega))
                      refine lv_iinc (v := tsl (mvT t1 b q km true)) (lv' := [(9, .int (tsl (mvT t1 b q km true))), (12, .int (nI b)), (11, .int (nI (100 * b + q))), (10, .int (nI k1)), (8, .float mn), (7, .int (nI wF)), (6, .int (nI sc)), (5, .int (nI ns)), (4, .int (nI dO)), (3, .int (nI dF)), (0, .ref xo), (1, .int (bI true)), (2, .int (nI 6))]) hx hb dL_ends_540 hl (k := 2) rfl (mvs_t (sl := tsl t1) (lb := tlb t1) (b := b)).symm (by decide) rfl (fun ls hl => ?_)
                      refine lv_aload_n hx hb dL_ends_543 rfl (lv_at hl 10 rfl) ?_
                      refine lv_iload_n hx hb dL_ends_544 rfl (lv_at hl 11 rfl) ?_
                      refine b_if_eq (z := true) (tgt := 552) hx hb dL_ends_545 (by decide) (fun h => absurd h (by decide)) (fun _ => ?_)
                      refine lv_iconst (v := nI 5) hx hb dL_ends_548 (by decide) ?_
                      refine lv_goto (tgt := 553) hx hb dL_ends_549 (by decide) ?_
                      refine callQ_i (As := [.int (nI 5)]) (rest := []) (y_frame l D (nI 5)  hPK) hC hK hN hP hD hS rfl rfl q389 md_X7_frame rfl hl.1 rfl (Nat.le_of_ble_eq_true rfl) dL_ends_553 ⟨Nat.le_of_ble_eq_true rfl, Nat.le_of_ble_eq_true rfl⟩ ⟨Nat.le_of_ble_eq_true rfl, Nat.le_of_ble_eq_true rfl⟩ (fun r w_553 H locs hq hP hD hS => ?_)
                      obtain ⟨hPK, hr9⟩ := hq
                      have hr9 : r = tsl (mvT t1 b q km true) := hr9.trans (frx (k := 5) (by decide))
                      rw [hr9]
                      refine lv_iload hx hb dL_ends_556 (lv_at hl 0 rfl) ?_
                      refine lv_icmp_eq (tgt := 563) hx hb dL_ends_558 (by decide) (fun _ => ?_) (fun h9 => absurd rfl h9)
                      refine lv_iinc (v := nI ek) (lv' := [(10, .int (nI ek)), (9, .int (tsl (mvT t1 b q km true))), (12, .int (nI b)), (11, .int (nI (100 * b + q))), (8, .float mn), (7, .int (nI wF)), (6, .int (nI sc)), (5, .int (nI ns)), (4, .int (nI dO)), (3, .int (nI dF)), (0, .ref xo), (1, .int (bI true)), (2, .int (nI 6))]) hx hb dL_ends_563 hl (k := 3) rfl (by rw [hke]; exact nI_dec ek) (by decide) rfl (fun ls hl => ?_)
                      refine lv_goto (tgt := 457) hx hb dL_ends_566 (by decide) ?_
                      exact ih457 ek (mvT t1 b q km true) w_553 hES2 hF2 hfr hPK (by omega) _ _ hP hD hS _ (lv_sub hl [1, 0, 4, 5, 6, 7, 8, 9, 10, 11, 12] rfl)
              exact L457 _ dF t w_449 hE hdF rfl hPK (Nat.lt_succ_self _) _ _ hP hD hS _ (lv_sub hl [1, 0, 2, 3, 4, 5, 6, 7, 8, 9, 10] rfl)
            · have _ : True := trivial
              refine lv_aload_n hx hb dL_ends_383 rfl (lv_at hl 7 rfl) ?_
              refine lv_iload hx hb dL_ends_384 (lv_at hl 0 rfl) ?_
              refine lv_iload_n hx hb dL_ends_386 rfl (lv_at hl 8 rfl) ?_
              rcases hE.without (b := bb) (by omega) hdF with ⟨hbg, hwo⟩ | ⟨hbg, hwo⟩ | ⟨hbg, ew, hew, hwo⟩
              · have _ : True := trivial
                refine callQ_i (As := [.int (nI bb), .int (bI true)]) (rest := []) (y_without l D (nI bb) true  hPK) hC hK hN hP hD hS rfl rfl q628 md_X7_without rfl hl.1 rfl (Nat.le_of_ble_eq_true rfl) dL_ends_387 ⟨Nat.le_of_ble_eq_true rfl, Nat.le_of_ble_eq_true rfl⟩ ⟨Nat.le_of_ble_eq_true rfl, Nat.le_of_ble_eq_true rfl⟩ (fun r w_387 H locs hq hP hD hS => ?_)
                obtain ⟨hPK, hr9⟩ := hq
                have hr9 : r = (-2) := hr9.trans hwo
                rw [hr9]
                refine lv_istore (lv' := [(10, .int (-2)), (9, .int (nI bb)), (8, .float mn), (7, .int (nI wF)), (6, .int (nI sc)), (5, .int (nI ns)), (4, .int (nI dO)), (3, .int (nI dF)), (0, .ref xo), (1, .int (bI true)), (2, .int (nI 6))]) hx hb dL_ends_390 hl (by decide) rfl (fun ls hl => ?_)
                refine lv_iload hx hb dL_ends_392 (lv_at hl 1 rfl) ?_
                refine lv_aload_n hx hb dL_ends_394 rfl (lv_at hl 8 rfl) ?_
                refine lv_bipush (v := nI 6) hx hb dL_ends_395 (by decide) ?_
                refine callQ_i (As := [.int (nI 6)]) (rest := [.int (nI bb)]) (y_frame l D (nI 6)  hPK) hC hK hN hP hD hS rfl rfl q389 md_X7_frame rfl hl.1 rfl (Nat.le_of_ble_eq_true rfl) dL_ends_397 ⟨Nat.le_of_ble_eq_true rfl, Nat.le_of_ble_eq_true rfl⟩ ⟨Nat.le_of_ble_eq_true rfl, Nat.le_of_ble_eq_true rfl⟩ (fun r w_397 H locs hq hP hD hS => ?_)
                obtain ⟨hPK, hr9⟩ := hq
                have hr9 : r = nI g := hr9.trans ((frx (k := 6) (by decide)).trans (congrArg gI hg))
                rw [hr9]
                refine n_icmp_ne (a := bb) (b := g) (tgt := 413) hx hb dL_ends_400 (by decide) (by omega) (by omega) (fun h9 => absurd h9 (by omega)) (fun _ => ?_)
                refine lv_iload hx hb dL_ends_403 (lv_at hl 0 rfl) ?_
                refine lv_bipush (v := (-2)) hx hb dL_ends_405 (by decide) ?_
                refine lv_icmp_eq (tgt := 433) hx hb dL_ends_407 (by decide) (fun _ => ?_) (fun h => absurd rfl h)
                refine lv_iinc (v := nI (bb + 1)) (lv' := [(9, .int (nI (bb + 1))), (10, .int (-2)), (8, .float mn), (7, .int (nI wF)), (6, .int (nI sc)), (5, .int (nI ns)), (4, .int (nI dO)), (3, .int (nI dF)), (0, .ref xo), (1, .int (bI true)), (2, .int (nI 6))]) hx hb dL_ends_433 hl (k := 1) rfl (nI_1 _) (by decide) rfl (fun ls hl => ?_)
                refine lv_goto (tgt := 373) hx hb dL_ends_436 (by decide) ?_
                exact ih373 (bb + 1) w_397 (by omega) hPK (by omega) _ _ hP hD hS _ (lv_sub hl [0, 2, 3, 4, 5, 6, 7, 8, 9, 10] rfl)
              · have _ : True := trivial
                refine callQ_i (As := [.int (nI bb), .int (bI true)]) (rest := []) (y_without l D (nI bb) true  hPK) hC hK hN hP hD hS rfl rfl q628 md_X7_without rfl hl.1 rfl (Nat.le_of_ble_eq_true rfl) dL_ends_387 ⟨Nat.le_of_ble_eq_true rfl, Nat.le_of_ble_eq_true rfl⟩ ⟨Nat.le_of_ble_eq_true rfl, Nat.le_of_ble_eq_true rfl⟩ (fun r w_387 H locs hq hP hD hS => ?_)
                obtain ⟨hPK, hr9⟩ := hq
                have hr9 : r = (-3) := hr9.trans hwo
                rw [hr9]
                refine lv_istore (lv' := [(10, .int (-3)), (9, .int (nI bb)), (8, .float mn), (7, .int (nI wF)), (6, .int (nI sc)), (5, .int (nI ns)), (4, .int (nI dO)), (3, .int (nI dF)), (0, .ref xo), (1, .int (bI true)), (2, .int (nI 6))]) hx hb dL_ends_390 hl (by decide) rfl (fun ls hl => ?_)
                refine lv_iload hx hb dL_ends_392 (lv_at hl 1 rfl) ?_
                refine lv_aload_n hx hb dL_ends_394 rfl (lv_at hl 8 rfl) ?_
                refine lv_bipush (v := nI 6) hx hb dL_ends_395 (by decide) ?_
                refine callQ_i (As := [.int (nI 6)]) (rest := [.int (nI bb)]) (y_frame l D (nI 6)  hPK) hC hK hN hP hD hS rfl rfl q389 md_X7_frame rfl hl.1 rfl (Nat.le_of_ble_eq_true rfl) dL_ends_397 ⟨Nat.le_of_ble_eq_true rfl, Nat.le_of_ble_eq_true rfl⟩ ⟨Nat.le_of_ble_eq_true rfl, Nat.le_of_ble_eq_true rfl⟩ (fun r w_397 H locs hq hP hD hS => ?_)
                obtain ⟨hPK, hr9⟩ := hq
                have hr9 : r = nI g := hr9.trans ((frx (k := 6) (by decide)).trans (congrArg gI hg))
                rw [hr9]
                refine n_icmp_ne (a := bb) (b := g) (tgt := 413) hx hb dL_ends_400 (by decide) (by omega) (by omega) (fun _ => ?_) (fun h9 => absurd h9 (by omega))
                refine lv_iload hx hb dL_ends_413 (lv_at hl 0 rfl) ?_
                refine lv_bipush (v := (-3)) hx hb dL_ends_415 (by decide) ?_
                refine lv_icmp_eq (tgt := 433) hx hb dL_ends_417 (by decide) (fun _ => ?_) (fun h => absurd rfl h)
                refine lv_iinc (v := nI (bb + 1)) (lv' := [(9, .int (nI (bb + 1))), (10, .int (-3)), (8, .float mn), (7, .int (nI wF)), (6, .int (nI sc)), (5, .int (nI ns)), (4, .int (nI dO)), (3, .int (nI dF)), (0, .ref xo), (1, .int (bI true)), (2, .int (nI 6))]) hx hb dL_ends_433 hl (k := 1) rfl (nI_1 _) (by decide) rfl (fun ls hl => ?_)
                refine lv_goto (tgt := 373) hx hb dL_ends_436 (by decide) ?_
                exact ih373 (bb + 1) w_397 (by omega) hPK (by omega) _ _ hP hD hS _ (lv_sub hl [0, 2, 3, 4, 5, 6, 7, 8, 9, 10] rfl)
              · have _ : True := trivial
                refine callQ_i (As := [.int (nI bb), .int (bI true)]) (rest := []) (y_without l D (nI bb) true  hPK) hC hK hN hP hD hS rfl rfl q628 md_X7_without rfl hl.1 rfl (Nat.le_of_ble_eq_true rfl) dL_ends_387 ⟨Nat.le_of_ble_eq_true rfl, Nat.le_of_ble_eq_true rfl⟩ ⟨Nat.le_of_ble_eq_true rfl, Nat.le_of_ble_eq_true rfl⟩ (fun r w_387 H locs hq hP hD hS => ?_)
                obtain ⟨hPK, hr9⟩ := hq
                have hr9 : r = nI ew := hr9.trans hwo
                rw [hr9]
                refine lv_istore (lv' := [(10, .int (nI ew)), (9, .int (nI bb)), (8, .float mn), (7, .int (nI wF)), (6, .int (nI sc)), (5, .int (nI ns)), (4, .int (nI dO)), (3, .int (nI dF)), (0, .ref xo), (1, .int (bI true)), (2, .int (nI 6))]) hx hb dL_ends_390 hl (by decide) rfl (fun ls hl => ?_)
                refine lv_iload hx hb dL_ends_392 (lv_at hl 1 rfl) ?_
                refine lv_aload_n hx hb dL_ends_394 rfl (lv_at hl 8 rfl) ?_
                refine lv_bipush (v := nI 6) hx hb dL_ends_395 (by decide) ?_
                refine callQ_i (As := [.int (nI 6)]) (rest := [.int (nI bb)]) (y_frame l D (nI 6)  hPK) hC hK hN hP hD hS rfl rfl q389 md_X7_frame rfl hl.1 rfl (Nat.le_of_ble_eq_true rfl) dL_ends_397 ⟨Nat.le_of_ble_eq_true rfl, Nat.le_of_ble_eq_true rfl⟩ ⟨Nat.le_of_ble_eq_true rfl, Nat.le_of_ble_eq_true rfl⟩ (fun r w_397 H locs hq hP hD hS => ?_)
                obtain ⟨hPK, hr9⟩ := hq
                have hr9 : r = nI g := hr9.trans ((frx (k := 6) (by decide)).trans (congrArg gI hg))
                rw [hr9]
                refine n_icmp_ne (a := bb) (b := g) (tgt := 413) hx hb dL_ends_400 (by decide) (by omega) (by omega) (fun _ => ?_) (fun h9 => absurd h9 (by omega))
                refine lv_iload hx hb dL_ends_413 (lv_at hl 0 rfl) ?_
                refine lv_bipush (v := (-3)) hx hb dL_ends_415 (by decide) ?_
                refine lv_icmp_eq (tgt := 433) hx hb dL_ends_417 (by decide) (fun h9 => absurd h9 (nI_m3 (by omega))) (fun _ => ?_)
                refine lv_iload hx hb dL_ends_420 (lv_at hl 0 rfl) ?_
                refine n_if_lt (tgt := 431) hx hb dL_ends_422 (by decide) (by omega) ?_
                refine lv_iload hx hb dL_ends_425 (lv_at hl 0 rfl) ?_
                refine lv_iload_n hx hb dL_ends_427 rfl (lv_at hl 7 rfl) ?_
                refine n_icmp_le (a := ew) (b := dF) (tgt := 433) hx hb dL_ends_428 (by decide) (by omega) (by omega) (fun _ => ?_) (fun h9 => absurd h9 (by omega))
                refine lv_iinc (v := nI (bb + 1)) (lv' := [(9, .int (nI (bb + 1))), (10, .int (nI ew)), (8, .float mn), (7, .int (nI wF)), (6, .int (nI sc)), (5, .int (nI ns)), (4, .int (nI dO)), (3, .int (nI dF)), (0, .ref xo), (1, .int (bI true)), (2, .int (nI 6))]) hx hb dL_ends_433 hl (k := 1) rfl (nI_1 _) (by decide) rfl (fun ls hl => ?_)
                refine lv_goto (tgt := 373) hx hb dL_ends_436 (by decide) ?_
                exact ih373 (bb + 1) w_397 (by omega) hPK (by omega) _ _ hP hD hS _ (lv_sub hl [0, 2, 3, 4, 5, 6, 7, 8, 9, 10] rfl)
        exact L373 _ 0 w_359 (by omega) hPK (Nat.lt_succ_self _) _ _ hP hD hS _ (lv_sub hl [0, 1, 2, 3, 4, 5, 6, 7, 8, 9] rfl)
      exact L346 w_321 hPK  _ _ hP hD hS _ (lv_sub hl [0, 1, 2, 3, 4, 5, 6, 7, 8] rfl)
    · have _ : True := trivial
      obtain ⟨bh, qh, kh, hbh, hqh, -, hch, -⟩ := hE.hint (e := dF - 1) (by rw [hdF]; congr 1; omega)
      refine lv_iload_n hx hb dL_ends_257 rfl (lv_at hl 5 rfl) ?_
      refine n_if_ne (tgt := 265) hx hb dL_ends_258 (by decide) (by omega) (fun _ => ?_) (fun h9 => absurd h9 (by omega))
      refine lv_iconst (v := nI 0) hx hb dL_ends_265 (by decide) ?_
      refine lv_aload_n hx hb dL_ends_266 rfl (lv_at hl 6 rfl) ?_
      refine lv_bipush (v := nI 8) hx hb dL_ends_267 (by decide) ?_
      refine callQ_i (As := [.int (nI 8)]) (rest := [.int (nI 0)]) (y_frame l D (nI 8)  hPK) hC hK hN hP hD hS rfl rfl q389 md_X7_frame rfl hl.1 rfl (Nat.le_of_ble_eq_true rfl) dL_ends_269 ⟨Nat.le_of_ble_eq_true rfl, Nat.le_of_ble_eq_true rfl⟩ ⟨Nat.le_of_ble_eq_true rfl, Nat.le_of_ble_eq_true rfl⟩ (fun r w_269 H locs hq hP hD hS => ?_)
      obtain ⟨hPK, hr9⟩ := hq
      have hr9 : r = nI 0 := hr9.trans ((frx (k := 8) (by decide)).trans ((hE.at (z := true)).trans (if_neg (by rw [hdF]; intro h9; have := Option.some.inj h9; omega))))
      rw [hr9]
      refine lv_iconst (v := nI 1) hx hb dL_ends_272 (by decide) ?_
      refine n_icmp_ne (a := 0) (b := 1) (tgt := 280) hx hb dL_ends_273 (by decide) (by decide) (by decide) (fun _ => ?_) (fun h => absurd h (by decide))
      refine lv_iconst (v := nI 0) hx hb dL_ends_280 (by decide) ?_
      refine n_icmp_ne (a := 0) (b := 0) (tgt := 368) hx hb dL_ends_281 (by decide) (by decide) (by decide) (fun h => absurd h (by decide)) (fun _ => ?_)
      refine lv_iload_n hx hb dL_ends_284 rfl (lv_at hl 7 rfl) ?_
      refine b_if_eq (z := true) (tgt := 297) hx hb dL_ends_285 (by decide) (fun h => absurd h (by decide)) (fun _ => ?_)
      refine lv_iload hx hb dL_ends_288 (lv_at hl 4 rfl) ?_
      refine lv_iload_n hx hb dL_ends_290 rfl (lv_at hl 5 rfl) ?_
      refine n_icmp_ge (a := dO) (b := dF) (tgt := 303) hx hb dL_ends_291 (by decide) (by omega) (by omega) (fun _ => ?_) (fun h9 => absurd h9 (by omega))
      refine lv_fload hx hb dL_ends_303 (lv_at hl 0 rfl) ?_
      refine lv_iload hx hb dL_ends_305 (lv_at hl 1 rfl) ?_
      refine lv_i2f hx hb dL_ends_307 ?_
      refine lv_fcmp hx hb dL_ends_308 ?_
      refine lv_if_gt (tgt := 368) hx hb dL_ends_309 (by decide) (fun h9 => absurd h9 (cmp_l hmn1)) (fun _ => ?_)
      refine lv_fload hx hb dL_ends_312 (lv_at hl 0 rfl) ?_
      refine lv_fconst0 hx hb dL_ends_314 ?_
      refine lv_fcmp hx hb dL_ends_315 ?_
      refine lv_if_lt (tgt := 368) hx hb dL_ends_316 (by decide) (fun h9 => absurd h9 (cmp_g hmn2)) (fun _ => ?_)
      refine lv_aload_n hx hb dL_ends_319 rfl (lv_at hl 6 rfl) ?_
      refine lv_iload_n hx hb dL_ends_320 rfl (lv_at hl 7 rfl) ?_
      refine callQ_i (As := [.int (bI true)]) (rest := []) (y_hint l D true  hPK) hC hK hN hP hD hS rfl rfl q641 md_X7_hint rfl hl.1 rfl (Nat.le_of_ble_eq_true rfl) dL_ends_321 ⟨Nat.le_of_ble_eq_true rfl, Nat.le_of_ble_eq_true rfl⟩ ⟨Nat.le_of_ble_eq_true rfl, Nat.le_of_ble_eq_true rfl⟩ (fun r w_321 H locs hq hP hD hS => ?_)
      obtain ⟨hPK, hr9⟩ := hq
      have hr9 : r = nI (100 * bh + qh) := hr9.trans hch
      rw [hr9]
      refine lv_bipush (v := (-9)) hx hb dL_ends_324 (by decide) ?_
      refine lv_icmp_ne (tgt := 333) hx hb dL_ends_326 (by decide) (fun _ => ?_) (fun h9 => absurd h9 (nI_m9 (by omega)))
      refine lv_iconst (v := nI 0) hx hb dL_ends_333 (by decide) ?_
      refine lv_iload_n hx hb dL_ends_334 rfl (lv_at hl 5 rfl) ?_
      refine n_if_ne (tgt := 342) hx hb dL_ends_335 (by decide) (by omega) (fun _ => ?_) (fun h9 => absurd h9 (by omega))
      refine lv_iconst (v := nI 0) hx hb dL_ends_342 (by decide) ?_
      refine n_icmp_ne (a := 0) (b := 0) (tgt := 368) hx hb dL_ends_343 (by decide) (by decide) (by decide) (fun h => absurd h (by decide)) (fun _ => ?_)
      have L346 : ∀ (ws0 : va_W), (PK cI cJ cB xo ln tx t [] ws0) → ∀ (H : Heap) (locs : List Loc), va_P D vwCl (oW cI cJ cB ws0) H → va_D A (oW cI cJ cB ws0) → va_S A s.heap H locs → ∀ ls : Array Slot, lv_has ls 13 [(8, .float mn), (7, .int (nI wF)), (6, .int (nI sc)), (5, .int (nI ns)), (4, .int (nI dO)), (3, .int (nI dF)), (0, .ref xo), (1, .int (bI true)), (2, .int (nI 6))] → W p l e (rmC 8 0 0) s m args below meth c H locs 0 0 QQ (F0 m 346 ls []) := by
        intro ws0 hPK H locs hP hD hS ls hl
        refine lv_aload_n hx hb dL_ends_346 rfl (lv_at hl 6 rfl) ?_
        refine lv_aload_n hx hb dL_ends_347 rfl (lv_at hl 6 rfl) ?_
        refine lv_bipush (v := nI 6) hx hb dL_ends_348 (by decide) ?_
        refine callQ_i (As := [.int (nI 6)]) (rest := [.ref xo]) (y_frame l D (nI 6)  hPK) hC hK hN hP hD hS rfl rfl q389 md_X7_frame rfl hl.1 rfl (Nat.le_of_ble_eq_true rfl) dL_ends_350 ⟨Nat.le_of_ble_eq_true rfl, Nat.le_of_ble_eq_true rfl⟩ ⟨Nat.le_of_ble_eq_true rfl, Nat.le_of_ble_eq_true rfl⟩ (fun r w_350 H locs hq hP hD hS => ?_)
        obtain ⟨hPK, hr9⟩ := hq
        have hr9 : r = nI g := hr9.trans ((frx (k := 6) (by decide)).trans (congrArg gI hg))
        rw [hr9]
        refine callQ_i (As := [.int (nI g)]) (rest := []) (y_places l D (nI g)  hPK) hC hK hN hP hD hS rfl rfl q620 md_X7_places rfl hl.1 rfl (Nat.le_of_ble_eq_true rfl) dL_ends_353 ⟨Nat.le_of_ble_eq_true rfl, Nat.le_of_ble_eq_true rfl⟩ ⟨Nat.le_of_ble_eq_true rfl, Nat.le_of_ble_eq_true rfl⟩ (fun r w_353 H locs hq hP hD hS => ?_)
        obtain ⟨hPK, hr9⟩ := hq
        have hr9 : r = nI mp := hr9.trans hmp
        rw [hr9]
        refine lv_aload_n hx hb dL_ends_356 rfl (lv_at hl 6 rfl) ?_
        refine lv_bipush (v := nI 7) hx hb dL_ends_357 (by decide) ?_
        refine callQ_i (As := [.int (nI 7)]) (rest := [.int (nI mp)]) (y_frame l D (nI 7)  hPK) hC hK hN hP hD hS rfl rfl q389 md_X7_frame rfl hl.1 rfl (Nat.le_of_ble_eq_true rfl) dL_ends_359 ⟨Nat.le_of_ble_eq_true rfl, Nat.le_of_ble_eq_true rfl⟩ ⟨Nat.le_of_ble_eq_true rfl, Nat.le_of_ble_eq_true rfl⟩ (fun r w_359 H locs hq hP hD hS => ?_)
        obtain ⟨hPK, hr9⟩ := hq
        have hr9 : r = nI ap := hr9.trans ((frx (k := 7) (by decide)).trans (congrArg gI ha))
        rw [hr9]
        refine n_ishr hx hb dL_ends_362 (by omega) (by omega) ?_
        refine lv_iconst (v := nI 1) hx hb dL_ends_363 (by decide) ?_
        refine n_iand hx hb dL_ends_364  ?_
        refine topi (y := nI 1) (congrArg nI (bit_1.mpr hmp2)) ?_
        refine n_if_ne (a := 1) (tgt := 370) hx hb dL_ends_365 (by decide) (by decide) (fun _ => ?_) (fun h => absurd h (by decide))
        refine lv_iconst (v := nI 0) hx hb dL_ends_370 (by decide) ?_
        refine lv_istore (lv' := [(9, .int (nI 0)), (8, .float mn), (7, .int (nI wF)), (6, .int (nI sc)), (5, .int (nI ns)), (4, .int (nI dO)), (3, .int (nI dF)), (0, .ref xo), (1, .int (bI true)), (2, .int (nI 6))]) hx hb dL_ends_371 hl (by decide) rfl (fun ls hl => ?_)
        have L373 : ∀ (n : Nat) (bb : Nat) (ws0 : va_W), (bb ≤ tnb t) → (PK cI cJ cB xo ln tx t [] ws0) → (tnb t + 1 - bb) < n → ∀ (H : Heap) (locs : List Loc), va_P D vwCl (oW cI cJ cB ws0) H → va_D A (oW cI cJ cB ws0) → va_S A s.heap H locs → ∀ ls : Array Slot, lv_has ls 13 [(9, .int (nI bb)), (8, .float mn), (7, .int (nI wF)), (6, .int (nI sc)), (5, .int (nI ns)), (4, .int (nI dO)), (3, .int (nI dF)), (0, .ref xo), (1, .int (bI true)), (2, .int (nI 6))] → W p l e (rmC 8 0 0) s m args below meth c H locs 0 0 QQ (F0 m 373 ls []) := by
          intro n; induction n with
          | zero => intro bb ws0 hbb hPK hm; exact absurd hm (Nat.not_lt_zero _)
          | succ n ih373 =>
            intro bb ws0 hbb hPK hm373 H locs hP hD hS ls hl
            refine lv_iload hx hb dL_ends_373 (lv_at hl 0 rfl) ?_
            refine lv_aload_n hx hb dL_ends_375 rfl (lv_at hl 7 rfl) ?_
            refine lv_iconst (v := nI 2) hx hb dL_ends_376 (by decide) ?_
            refine callQ_i (As := [.int (nI 2)]) (rest := [.int (nI bb)]) (y_frame l D (nI 2)  hPK) hC hK hN hP hD hS rfl rfl q389 md_X7_frame rfl hl.1 rfl (Nat.le_of_ble_eq_true rfl) dL_ends_377 ⟨Nat.le_of_ble_eq_true rfl, Nat.le_of_ble_eq_true rfl⟩ ⟨Nat.le_of_ble_eq_true rfl, Nat.le_of_ble_eq_true rfl⟩ (fun r w_377 H locs hq hP hD hS => ?_)
            obtain ⟨hPK, hr9⟩ := hq
            have hr9 : r = nI (tnb t) := hr9.trans (frx (k := 2) (by decide))
            rw [hr9]
            refine n_icmp_ge (a := bb) (b := tnb t) (tgt := 439) hx hb dL_ends_380 (by decide) (by omega) (by omega) (fun c380 => ?_) (fun c380 => ?_)
            · have _ : True := trivial
              refine lv_aload_n hx hb dL_ends_439 rfl (lv_at hl 7 rfl) ?_
              refine lv_iload_n hx hb dL_ends_440 rfl (lv_at hl 8 rfl) ?_
              refine b_if_eq (z := true) (tgt := 448) hx hb dL_ends_441 (by decide) (fun h => absurd h (by decide)) (fun _ => ?_)
              refine lv_iconst (v := nI 5) hx hb dL_ends_444 (by decide) ?_
              refine lv_goto (tgt := 449) hx hb dL_ends_445 (by decide) ?_
              refine callQ_i (As := [.int (nI 5)]) (rest := []) (y_frame l D (nI 5)  hPK) hC hK hN hP hD hS rfl rfl q389 md_X7_frame rfl hl.1 rfl (Nat.le_of_ble_eq_true rfl) dL_ends_449 ⟨Nat.le_of_ble_eq_true rfl, Nat.le_of_ble_eq_true rfl⟩ ⟨Nat.le_of_ble_eq_true rfl, Nat.le_of_ble_eq_true rfl⟩ (fun r w_449 H locs hq hP hD hS => ?_)
              obtain ⟨hPK, hr9⟩ := hq
              have hr9 : r = tsl t := hr9.trans (frx (k := 5) (by decide))
              rw [hr9]
              refine lv_istore (lv' := [(9, .int (tsl t)), (8, .float mn), (7, .int (nI wF)), (6, .int (nI sc)), (5, .int (nI ns)), (4, .int (nI dO)), (3, .int (nI dF)), (0, .ref xo), (1, .int (bI true)), (2, .int (nI 6))]) hx hb dL_ends_452 hl (by decide) rfl (fun ls hl => ?_)
              refine lv_iload_n hx hb dL_ends_454 rfl (lv_at hl 6 rfl) ?_
              refine lv_istore (lv' := [(10, .int (nI dF)), (9, .int (tsl t)), (8, .float mn), (7, .int (nI wF)), (6, .int (nI sc)), (5, .int (nI ns)), (4, .int (nI dO)), (3, .int (nI dF)), (0, .ref xo), (1, .int (bI true)), (2, .int (nI 6))]) hx hb dL_ends_455 hl (by decide) rfl (fun ls hl => ?_)
              have L569 : ∀ (t1 : BT) (ws1 : va_W), (ES t1 g ap ns F) → (frt t1 = frt t) → (PK cI cJ cB xo ln tx t1 [] ws1) → ∀ (H : Heap) (locs : List Loc), va_P D vwCl (oW cI cJ cB ws1) H → va_D A (oW cI cJ cB ws1) → va_S A s.heap H locs → ∀ ls : Array Slot, lv_has ls 13 [(0, .ref xo), (1, .int (bI true)), (5, .int (nI ns)), (7, .int (nI wF))] → W p l e (rmC 8 0 0) s m args below meth c H locs 0 0 QQ (F0 m 569 ls []) := by
                intro t1 ws1 hES hfr hPK H locs hP hD hS ls hl
                refine lv_aload_n hx hb dL_ends_569 rfl (lv_at hl 0 rfl) ?_
                obtain ⟨xh, hxh1, hxh2, hxh3, hxh4⟩ := hES.hard hwF
                refine lv_iload_n hx hb dL_ends_570 rfl (lv_at hl 1 rfl) ?_
                refine callQ_i (As := [.int (bI true)]) (rest := []) (y_hardest_go l D true (Nat.zero_le _) hxh1 hPK) hC hK hN hP hD hS rfl rfl q663 md_X7_hardest rfl hl.1 rfl (Nat.le_of_ble_eq_true rfl) dL_ends_571 ⟨Nat.le_of_ble_eq_true rfl, Nat.le_of_ble_eq_true rfl⟩ ⟨Nat.le_of_ble_eq_true rfl, Nat.le_of_ble_eq_true rfl⟩ (fun r w_571 H locs hq hP hD hS => ?_)
                obtain ⟨⟨ps2, hPK, hps⟩, hr9⟩ := hq
                have hES3 := hES.hd hPK.tv hxh4 hps
                have hr9 : r = nI wF := hr9.trans hxh2
                rw [hr9]
                refine lv_iload hx hb dL_ends_574 (lv_at hl 3 rfl) ?_
                refine n_icmp_ne (a := wF) (b := wF) (tgt := 641) hx hb dL_ends_576 (by decide) (by omega) (by omega) (fun h9 => absurd h9 (by omega)) (fun _ => ?_)
                refine lv_aload_n hx hb dL_ends_579 rfl (lv_at hl 0 rfl) ?_
                refine lv_iload_n hx hb dL_ends_580 rfl (lv_at hl 1 rfl) ?_
                refine callQ_i (As := [.int (bI true)]) (rest := []) (y_distance l D true  hPK) hC hK hN hP hD hS rfl rfl q640 md_X7_distance rfl hl.1 rfl (Nat.le_of_ble_eq_true rfl) dL_ends_581 ⟨Nat.le_of_ble_eq_true rfl, Nat.le_of_ble_eq_true rfl⟩ ⟨Nat.le_of_ble_eq_true rfl, Nat.le_of_ble_eq_true rfl⟩ (fun r w_581 H locs hq hP hD hS => ?_)
                obtain ⟨hPK, hr9⟩ := hq
                have hr9 : r = nI wF := hr9.trans (hES3.dist (by show F true (pkey ps2 (tnb t1)) = some wF; rw [hps]; exact hxh3))
                rw [hr9]
                refine lv_iload hx hb dL_ends_584 (lv_at hl 3 rfl) ?_
                refine n_icmp_ne (a := wF) (b := wF) (tgt := 641) hx hb dL_ends_586 (by decide) (by omega) (by omega) (fun h9 => absurd h9 (by omega)) (fun _ => ?_)
                refine lv_aload_n hx hb dL_ends_589 rfl (lv_at hl 0 rfl) ?_
                refine lv_iconst (v := nI 4) hx hb dL_ends_590 (by decide) ?_
                refine callQ_i (As := [.int (nI 4)]) (rest := []) (y_frame l D (nI 4)  hPK) hC hK hN hP hD hS rfl rfl q389 md_X7_frame rfl hl.1 rfl (Nat.le_of_ble_eq_true rfl) dL_ends_591 ⟨Nat.le_of_ble_eq_true rfl, Nat.le_of_ble_eq_true rfl⟩ ⟨Nat.le_of_ble_eq_true rfl, Nat.le_of_ble_eq_true rfl⟩ (fun r w_591 H locs hq hP hD hS => ?_)
                obtain ⟨hPK, hr9⟩ := hq
                have hr9 : r = nI 0 := hr9.trans (frx (k := 4) (by decide))
                rw [hr9]
                refine n_if_ne (a := 0) (tgt := 641) hx hb dL_ends_594 (by decide) (by decide) (fun h => absurd h (by decide)) (fun _ => ?_)
                refine lv_aload_n hx hb dL_ends_597 rfl (lv_at hl 0 rfl) ?_
                refine lv_iconst (v := nI 5) hx hb dL_ends_598 (by decide) ?_
                refine callQ_i (As := [.int (nI 5)]) (rest := []) (y_frame l D (nI 5)  hPK) hC hK hN hP hD hS rfl rfl q389 md_X7_frame rfl hl.1 rfl (Nat.le_of_ble_eq_true rfl) dL_ends_599 ⟨Nat.le_of_ble_eq_true rfl, Nat.le_of_ble_eq_true rfl⟩ ⟨Nat.le_of_ble_eq_true rfl, Nat.le_of_ble_eq_true rfl⟩ (fun r w_599 H locs hq hP hD hS => ?_)
                obtain ⟨hPK, hr9⟩ := hq
                have hr9 : r = nI 0 := hr9.trans (frx (k := 5) (by decide))
                rw [hr9]
                refine n_if_ne (a := 0) (tgt := 641) hx hb dL_ends_602 (by decide) (by decide) (fun h => absurd h (by decide)) (fun _ => ?_)
                refine lv_aload_n hx hb dL_ends_605 rfl (lv_at hl 0 rfl) ?_
                refine callQ_i (As := []) (rest := []) (y_states l D   hPK) hC hK hN hP hD hS rfl rfl q477 md_X7_states rfl hl.1 rfl (Nat.le_of_ble_eq_true rfl) dL_ends_606 ⟨Nat.le_of_ble_eq_true rfl, Nat.le_of_ble_eq_true rfl⟩ ⟨Nat.le_of_ble_eq_true rfl, Nat.le_of_ble_eq_true rfl⟩ (fun r w_606 H locs hq hP hD hS => ?_)
                obtain ⟨hPK, hr9⟩ := hq
                have hr9 : r = nI ns := hr9.trans hES3.states
                rw [hr9]
                refine lv_iload hx hb dL_ends_609 (lv_at hl 2 rfl) ?_
                refine n_icmp_ne (a := ns) (b := ns) (tgt := 641) hx hb dL_ends_611 (by decide) (by omega) (by omega) (fun h9 => absurd h9 (by omega)) (fun _ => ?_)
                refine lv_aload_n hx hb dL_ends_614 rfl (lv_at hl 0 rfl) ?_
                refine lv_iload_n hx hb dL_ends_615 rfl (lv_at hl 1 rfl) ?_
                refine b_if_ne (z := true) (tgt := 623) hx hb dL_ends_616 (by decide) (fun _ => ?_) (fun h => absurd h (by decide))
                refine lv_iconst (v := nI 0) hx hb dL_ends_623 (by decide) ?_
                refine callQ_i (As := [.int (nI 0)]) (rest := []) (y_worst l D false  hPK) hC hK hN hP hD hS rfl rfl q659 md_X7_worst rfl hl.1 rfl (Nat.le_of_ble_eq_true rfl) dL_ends_624 ⟨Nat.le_of_ble_eq_true rfl, Nat.le_of_ble_eq_true rfl⟩ ⟨Nat.le_of_ble_eq_true rfl, Nat.le_of_ble_eq_true rfl⟩ (fun r w_624 H locs hq hP hD hS => ?_)
                obtain ⟨hPK, hr9⟩ := hq
                have hr9 : r = nI wO := hr9.trans (hES3.worst hwO)
                rw [hr9]
                refine n_if_lt (tgt := 641) hx hb dL_ends_627 (by decide) (by omega) ?_
                refine lv_aload_n hx hb dL_ends_630 rfl (lv_at hl 0 rfl) ?_
                refine callQ_i (As := []) (rest := []) (y_undo l D   hPK) hC hK hN hP hD hS rfl rfl q528 md_X7_undo rfl hl.1 rfl (Nat.le_of_ble_eq_true rfl) dL_ends_631 ⟨Nat.le_of_ble_eq_true rfl, Nat.le_of_ble_eq_true rfl⟩ ⟨Nat.le_of_ble_eq_true rfl, Nat.le_of_ble_eq_true rfl⟩ (fun r w_631 H locs hq hP hD hS => ?_)
                obtain ⟨hPK, j9, hj9, hr9⟩ := hq
                have hr9 : r = nI j9 := hr9
                rw [hr9]
                refine n_if_lt (tgt := 641) hx hb dL_ends_634 (by decide) (by omega) ?_
                refine lv_iconst (v := nI 1) hx hb dL_ends_637 (by decide) ?_
                refine lv_goto (tgt := 642) hx hb dL_ends_638 (by decide) ?_
                rw [hQ]
                subst hAe
                exact W.zret (v := nI 1) hx hb hr rfl (fun t9 ht hW => ⟨⟨_, w_631, rfl, ⟨rfl, t1, hPK, hfr⟩, by rw [ht]; exact hP, hD⟩, hS.F ht⟩) hS.2.2 dL_ends_642
              have L457 : ∀ (n : Nat) (k1 : Nat) (t1 : BT) (ws1 : va_W), (ES t1 g ap ns F) → (F true (kyt t1) = some k1) → (frt t1 = frt t) → (PK cI cJ cB xo ln tx t1 [] ws1) → (k1 + 1) < n → ∀ (H : Heap) (locs : List Loc), va_P D vwCl (oW cI cJ cB ws1) H → va_D A (oW cI cJ cB ws1) → va_S A s.heap H locs → ∀ ls : Array Slot, lv_has ls 13 [(9, .int (tsl t1)), (10, .int (nI k1)), (8, .float mn), (7, .int (nI wF)), (6, .int (nI sc)), (5, .int (nI ns)), (4, .int (nI dO)), (3, .int (nI dF)), (0, .ref xo), (1, .int (bI true)), (2, .int (nI 6))] → W p l e (rmC 8 0 0) s m args below meth c H locs 0 0 QQ (F0 m 457 ls []) := by
                intro n; induction n with
                | zero => intro k1 t1 ws1 hES hFk hfr hPK hm; exact absurd hm (Nat.not_lt_zero _)
                | succ n ih457 =>
                  intro k1 t1 ws1 hES hFk hfr hPK hm457 H locs hP hD hS ls hl
                  have hk19 : k1 < 2000 := Nat.lt_of_lt_of_le (hES.2.2.2.2.2.lt hFk) hn2
                  refine lv_iload hx hb dL_ends_457 (lv_at hl 1 rfl) ?_
                  refine n_if_le (tgt := 569) hx hb dL_ends_459 (by decide) (by omega) (fun c459 => ?_) (fun c459 => ?_)
                  · have _ : True := trivial
                    exact L569 t1 ws1 hES hfr hPK  _ _ hP hD hS _ (lv_sub hl [8, 9, 5, 3] rfl)
                  · have _ : True := trivial
                    refine lv_iload hx hb dL_ends_462 (lv_at hl 1 rfl) ?_
                    refine lv_iload_n hx hb dL_ends_464 rfl (lv_at hl 7 rfl) ?_
                    refine lv_iload_n hx hb dL_ends_465 rfl (lv_at hl 10 rfl) ?_
                    refine lv_isub hx hb dL_ends_466 ?_
                    refine lv_icmp_le (tgt := 569) hx hb dL_ends_467 (by decide) (fun c467 => ?_) (fun c467 => ?_)
                    · have _ : True := trivial
                      exact L569 t1 ws1 hES hfr hPK  _ _ hP hD hS _ (lv_sub hl [8, 9, 5, 3] rfl)
                    · have _ : True := trivial
                      obtain ⟨ek, hke⟩ : ∃ ek, k1 = ek + 1 := ⟨k1 - 1, by omega⟩
                      obtain ⟨b, q, km, hb7, hq24, hqp, hch, hfo, hfo2, hES2, hF2, hkm⟩ := hES.hint (e := ek) (by rw [← hke]; exact hFk)
                      have hpc1 := (TV_p hES.1 hb7).1
                      have hc1 := TV_c hES.1
                      have hn71 := TV_n hES.1
                      refine lv_aload_n hx hb dL_ends_470 rfl (lv_at hl 8 rfl) ?_
                      refine lv_iload_n hx hb dL_ends_471 rfl (lv_at hl 9 rfl) ?_
                      refine callQ_i (As := [.int (bI true)]) (rest := []) (y_hint l D true  hPK) hC hK hN hP hD hS rfl rfl q641 md_X7_hint rfl hl.1 rfl (Nat.le_of_ble_eq_true rfl) dL_ends_472 ⟨Nat.le_of_ble_eq_true rfl, Nat.le_of_ble_eq_true rfl⟩ ⟨Nat.le_of_ble_eq_true rfl, Nat.le_of_ble_eq_true rfl⟩ (fun r w_472 H locs hq hP hD hS => ?_)
                      obtain ⟨hPK, hr9⟩ := hq
                      have hr9 : r = nI (100 * b + q) := hr9.trans hch
                      rw [hr9]
                      refine lv_istore (lv' := [(11, .int (nI (100 * b + q))), (9, .int (tsl t1)), (10, .int (nI k1)), (8, .float mn), (7, .int (nI wF)), (6, .int (nI sc)), (5, .int (nI ns)), (4, .int (nI dO)), (3, .int (nI dF)), (0, .ref xo), (1, .int (bI true)), (2, .int (nI 6))]) hx hb dL_ends_475 hl (by decide) rfl (fun ls hl => ?_)
                      refine lv_iload hx hb dL_ends_477 (lv_at hl 0 rfl) ?_
                      refine lv_bipush (v := nI 100) hx hb dL_ends_479 (by decide) ?_
                      refine n_idiv hx hb dL_ends_481 (by omega) (by omega) (by omega) ?_
                      refine topi (y := nI b) (congrArg nI (by omega)) ?_
                      refine lv_istore (lv' := [(12, .int (nI b)), (11, .int (nI (100 * b + q))), (9, .int (tsl t1)), (10, .int (nI k1)), (8, .float mn), (7, .int (nI wF)), (6, .int (nI sc)), (5, .int (nI ns)), (4, .int (nI dO)), (3, .int (nI dF)), (0, .ref xo), (1, .int (bI true)), (2, .int (nI 6))]) hx hb dL_ends_482 hl (by decide) rfl (fun ls hl => ?_)
                      refine lv_aload_n hx hb dL_ends_484 rfl (lv_at hl 10 rfl) ?_
                      refine lv_iload hx hb dL_ends_485 (lv_at hl 0 rfl) ?_
                      refine lv_iconst (v := nI 0) hx hb dL_ends_487 (by decide) ?_
                      refine callQ_i (As := [.int (nI b), .int (nI 0)]) (rest := []) (y_block l D (nI b) (nI 0)  hPK) hC hK hN hP hD hS rfl rfl q421 md_X7_block rfl hl.1 rfl (Nat.le_of_ble_eq_true rfl) dL_ends_488 ⟨Nat.le_of_ble_eq_true rfl, Nat.le_of_ble_eq_true rfl⟩ ⟨Nat.le_of_ble_eq_true rfl, Nat.le_of_ble_eq_true rfl⟩ (fun r w_488 H locs hq hP hD hS => ?_)
                      obtain ⟨hPK, hr9⟩ := hq
                      have hr9 : r = nI (tps t1 b) := hr9.trans (blx (b := b) (k := 0) hb7 (TV_n hES.1) (by decide))
                      rw [hr9]
                      refine lv_iload hx hb dL_ends_491 (lv_at hl 1 rfl) ?_
                      refine lv_bipush (v := nI 100) hx hb dL_ends_493 (by decide) ?_
                      refine n_irem hx hb dL_ends_495 (by omega) (by omega) (by omega) ?_
                      refine topi (y := nI q) (congrArg nI (by omega)) ?_
                      refine n_icmp_eq (a := tps t1 b) (b := q) (tgt := 538) hx hb dL_ends_496 (by decide) (by omega) (by omega) (fun h9 => absurd h9 (by omega)) (fun _ => ?_)
                      refine lv_aload_n hx hb dL_ends_499 rfl (lv_at hl 10 rfl) ?_
                      refine lv_iload_n hx hb dL_ends_500 rfl (lv_at hl 11 rfl) ?_
                      refine callQ_i (As := [.int (bI true)]) (rest := []) (y_follow_go l D true (Nat.zero_le _) hfo hPK) hC hK hN hP hD hS rfl rfl q654 md_X7_follow rfl hl.1 rfl (Nat.le_of_ble_eq_true rfl) dL_ends_501 ⟨Nat.le_of_ble_eq_true rfl, Nat.le_of_ble_eq_true rfl⟩ ⟨Nat.le_of_ble_eq_true rfl, Nat.le_of_ble_eq_true rfl⟩ (fun r w_501 H locs hq hP hD hS => ?_)
                      obtain ⟨hPK, hr9⟩ := hq
                      have hPK := hPK.nil
                      have hr9 : r = nI ek := hr9.trans hfo2
                      rw [hr9]
                      refine lv_iload hx hb dL_ends_504 (lv_at hl 3 rfl) ?_
                      refine lv_iconst (v := nI 1) hx hb dL_ends_506 (by decide) ?_
                      refine n_isub hx hb dL_ends_507 (by omega) ?_
                      refine n_icmp_ne (a := ek) (b := k1 - 1) (tgt := 538) hx hb dL_ends_508 (by decide) (by omega) (by omega) (fun h9 => absurd h9 (by omega)) (fun _ => ?_)
                      refine lv_aload_n hx hb dL_ends_511 rfl (lv_at hl 10 rfl) ?_
                      refine lv_iload hx hb dL_ends_512 (lv_at hl 0 rfl) ?_
                      refine lv_iconst (v := nI 0) hx hb dL_ends_514 (by decide) ?_
                      refine callQ_i (As := [.int (nI b), .int (nI 0)]) (rest := []) (y_block l D (nI b) (nI 0)  hPK) hC hK hN hP hD hS rfl rfl q421 md_X7_block rfl hl.1 rfl (Nat.le_of_ble_eq_true rfl) dL_ends_515 ⟨Nat.le_of_ble_eq_true rfl, Nat.le_of_ble_eq_true rfl⟩ ⟨Nat.le_of_ble_eq_true rfl, Nat.le_of_ble_eq_true rfl⟩ (fun r w_515 H locs hq hP hD hS => ?_)
                      obtain ⟨hPK, hr9⟩ := hq
                      have hr9 : r = nI q := hr9.trans ((blx (b := b) (k := 0) hb7 (TV_n hES.1) (by decide)).trans (congrArg nI (up_eq _ _ _)))
                      rw [hr9]
                      refine lv_iload hx hb dL_ends_518 (lv_at hl 1 rfl) ?_
                      refine lv_bipush (v := nI 100) hx hb dL_ends_520 (by decide) ?_
                      refine n_irem hx hb dL_ends_522 (by omega) (by omega) (by omega) ?_
                      refine topi (y := nI q) (congrArg nI (by omega)) ?_
                      refine n_icmp_ne (a := q) (b := q) (tgt := 538) hx hb dL_ends_523 (by decide) (by omega) (by omega) (fun h9 => absurd h9 (by omega)) (fun _ => ?_)
                      refine lv_aload_n hx hb dL_ends_526 rfl (lv_at hl 10 rfl) ?_
                      refine lv_iload_n hx hb dL_ends_527 rfl (lv_at hl 11 rfl) ?_
                      refine callQ_i (As := [.int (bI true)]) (rest := []) (y_distance l D true  hPK) hC hK hN hP hD hS rfl rfl q640 md_X7_distance rfl hl.1 rfl (Nat.le_of_ble_eq_true rfl) dL_ends_528 ⟨Nat.le_of_ble_eq_true rfl, Nat.le_of_ble_eq_true rfl⟩ ⟨Nat.le_of_ble_eq_true rfl, Nat.le_of_ble_eq_true rfl⟩ (fun r w_528 H locs hq hP hD hS => ?_)
                      obtain ⟨hPK, hr9⟩ := hq
                      have hr9 : r = nI ek := hr9.trans (hES2.dist hF2)
                      rw [hr9]
                      refine lv_iload hx hb dL_ends_531 (lv_at hl 3 rfl) ?_
                      refine lv_iconst (v := nI 1) hx hb dL_ends_533 (by decide) ?_
                      refine n_isub hx hb dL_ends_534 (by omega) ?_
                      refine n_icmp_eq (a := ek) (b := k1 - 1) (tgt := 540) hx hb dL_ends_535 (by decide) (by omega) (by omega) (fun _ => ?_) (fun h9 => absurd h9 (by omega))
                      refine lv_iinc (v := tsl (mvT t1 b q km true)) (lv' := [(9, .int (tsl (mvT t1 b q km true))), (12, .int (nI b)), (11, .int (nI (100 * b + q))), (10, .int (nI k1)), (8, .float mn), (7, .int (nI wF)), (6, .int (nI sc)), (5, .int (nI ns)), (4, .int (nI dO)), (3, .int (nI dF)), (0, .ref xo), (1, .int (bI true)), (2, .int (nI 6))]) hx hb dL_ends_540 hl (k := 2) rfl (mvs_t (sl := tsl t1) (lb := tlb t1) (b := b)).symm (by decide) rfl (fun ls hl => ?_)
                      refine lv_aload_n hx hb dL_ends_543 rfl (lv_at hl 10 rfl) ?_
                      refine lv_iload_n hx hb dL_ends_544 rfl (lv_at hl 11 rfl) ?_
                      refine b_if_eq (z := true) (tgt := 552) hx hb dL_ends_545 (by decide) (fun h => absurd h (by decide)) (fun _ => ?_)
                      refine lv_iconst (v := nI 5) hx hb dL_ends_548 (by decide) ?_
                      refine lv_goto (tgt := 553) hx hb dL_ends_549 (by decide) ?_
                      refine callQ_i (As := [.int (nI 5)]) (rest := []) (y_frame l D (nI 5)  hPK) hC hK hN hP hD hS rfl rfl q389 md_X7_frame rfl hl.1 rfl (Nat.le_of_ble_eq_true rfl) dL_ends_553 ⟨Nat.le_of_ble_eq_true rfl, Nat.le_of_ble_eq_true rfl⟩ ⟨Nat.le_of_ble_eq_true rfl, Nat.le_of_ble_eq_true rfl⟩ (fun r w_553 H locs hq hP hD hS => ?_)
                      obtain ⟨hPK, hr9⟩ := hq
                      have hr9 : r = tsl (mvT t1 b q km true) := hr9.trans (frx (k := 5) (by decide))
                      rw [hr9]
                      refine lv_iload hx hb dL_ends_556 (lv_at hl 0 rfl) ?_
                      refine lv_icmp_eq (tgt := 563) hx hb dL_ends_558 (by decide) (fun _ => ?_) (fun h9 => absurd rfl h9)
                      refine lv_iinc (v := nI ek) (lv' := [(10, .int (nI ek)), (9, .int (tsl (mvT t1 b q km true))), (12, .int (nI b)), (11, .int (nI (100 * b + q))), (8, .float mn), (7, .int (nI wF)), (6, .int (nI sc)), (5, .int (nI ns)), (4, .int (nI dO)), (3, .int (nI dF)), (0, .ref xo), (1, .int (bI true)), (2, .int (nI 6))]) hx hb dL_ends_563 hl (k := 3) rfl (by rw [hke]; exact nI_dec ek) (by decide) rfl (fun ls hl => ?_)
                      refine lv_goto (tgt := 457) hx hb dL_ends_566 (by decide) ?_
                      exact ih457 ek (mvT t1 b q km true) w_553 hES2 hF2 hfr hPK (by omega) _ _ hP hD hS _ (lv_sub hl [1, 0, 4, 5, 6, 7, 8, 9, 10, 11, 12] rfl)
              exact L457 _ dF t w_449 hE hdF rfl hPK (Nat.lt_succ_self _) _ _ hP hD hS _ (lv_sub hl [1, 0, 2, 3, 4, 5, 6, 7, 8, 9, 10] rfl)
            · have _ : True := trivial
              refine lv_aload_n hx hb dL_ends_383 rfl (lv_at hl 7 rfl) ?_
              refine lv_iload hx hb dL_ends_384 (lv_at hl 0 rfl) ?_
              refine lv_iload_n hx hb dL_ends_386 rfl (lv_at hl 8 rfl) ?_
              rcases hE.without (b := bb) (by omega) hdF with ⟨hbg, hwo⟩ | ⟨hbg, hwo⟩ | ⟨hbg, ew, hew, hwo⟩
              · have _ : True := trivial
                refine callQ_i (As := [.int (nI bb), .int (bI true)]) (rest := []) (y_without l D (nI bb) true  hPK) hC hK hN hP hD hS rfl rfl q628 md_X7_without rfl hl.1 rfl (Nat.le_of_ble_eq_true rfl) dL_ends_387 ⟨Nat.le_of_ble_eq_true rfl, Nat.le_of_ble_eq_true rfl⟩ ⟨Nat.le_of_ble_eq_true rfl, Nat.le_of_ble_eq_true rfl⟩ (fun r w_387 H locs hq hP hD hS => ?_)
                obtain ⟨hPK, hr9⟩ := hq
                have hr9 : r = (-2) := hr9.trans hwo
                rw [hr9]
                refine lv_istore (lv' := [(10, .int (-2)), (9, .int (nI bb)), (8, .float mn), (7, .int (nI wF)), (6, .int (nI sc)), (5, .int (nI ns)), (4, .int (nI dO)), (3, .int (nI dF)), (0, .ref xo), (1, .int (bI true)), (2, .int (nI 6))]) hx hb dL_ends_390 hl (by decide) rfl (fun ls hl => ?_)
                refine lv_iload hx hb dL_ends_392 (lv_at hl 1 rfl) ?_
                refine lv_aload_n hx hb dL_ends_394 rfl (lv_at hl 8 rfl) ?_
                refine lv_bipush (v := nI 6) hx hb dL_ends_395 (by decide) ?_
                refine callQ_i (As := [.int (nI 6)]) (rest := [.int (nI bb)]) (y_frame l D (nI 6)  hPK) hC hK hN hP hD hS rfl rfl q389 md_X7_frame rfl hl.1 rfl (Nat.le_of_ble_eq_true rfl) dL_ends_397 ⟨Nat.le_of_ble_eq_true rfl, Nat.le_of_ble_eq_true rfl⟩ ⟨Nat.le_of_ble_eq_true rfl, Nat.le_of_ble_eq_true rfl⟩ (fun r w_397 H locs hq hP hD hS => ?_)
                obtain ⟨hPK, hr9⟩ := hq
                have hr9 : r = nI g := hr9.trans ((frx (k := 6) (by decide)).trans (congrArg gI hg))
                rw [hr9]
                refine n_icmp_ne (a := bb) (b := g) (tgt := 413) hx hb dL_ends_400 (by decide) (by omega) (by omega) (fun h9 => absurd h9 (by omega)) (fun _ => ?_)
                refine lv_iload hx hb dL_ends_403 (lv_at hl 0 rfl) ?_
                refine lv_bipush (v := (-2)) hx hb dL_ends_405 (by decide) ?_
                refine lv_icmp_eq (tgt := 433) hx hb dL_ends_407 (by decide) (fun _ => ?_) (fun h => absurd rfl h)
                refine lv_iinc (v := nI (bb + 1)) (lv' := [(9, .int (nI (bb + 1))), (10, .int (-2)), (8, .float mn), (7, .int (nI wF)), (6, .int (nI sc)), (5, .int (nI ns)), (4, .int (nI dO)), (3, .int (nI dF)), (0, .ref xo), (1, .int (bI true)), (2, .int (nI 6))]) hx hb dL_ends_433 hl (k := 1) rfl (nI_1 _) (by decide) rfl (fun ls hl => ?_)
                refine lv_goto (tgt := 373) hx hb dL_ends_436 (by decide) ?_
                exact ih373 (bb + 1) w_397 (by omega) hPK (by omega) _ _ hP hD hS _ (lv_sub hl [0, 2, 3, 4, 5, 6, 7, 8, 9, 10] rfl)
              · have _ : True := trivial
                refine callQ_i (As := [.int (nI bb), .int (bI true)]) (rest := []) (y_without l D (nI bb) true  hPK) hC hK hN hP hD hS rfl rfl q628 md_X7_without rfl hl.1 rfl (Nat.le_of_ble_eq_true rfl) dL_ends_387 ⟨Nat.le_of_ble_eq_true rfl, Nat.le_of_ble_eq_true rfl⟩ ⟨Nat.le_of_ble_eq_true rfl, Nat.le_of_ble_eq_true rfl⟩ (fun r w_387 H locs hq hP hD hS => ?_)
                obtain ⟨hPK, hr9⟩ := hq
                have hr9 : r = (-3) := hr9.trans hwo
                rw [hr9]
                refine lv_istore (lv' := [(10, .int (-3)), (9, .int (nI bb)), (8, .float mn), (7, .int (nI wF)), (6, .int (nI sc)), (5, .int (nI ns)), (4, .int (nI dO)), (3, .int (nI dF)), (0, .ref xo), (1, .int (bI true)), (2, .int (nI 6))]) hx hb dL_ends_390 hl (by decide) rfl (fun ls hl => ?_)
                refine lv_iload hx hb dL_ends_392 (lv_at hl 1 rfl) ?_
                refine lv_aload_n hx hb dL_ends_394 rfl (lv_at hl 8 rfl) ?_
                refine lv_bipush (v := nI 6) hx hb dL_ends_395 (by decide) ?_
                refine callQ_i (As := [.int (nI 6)]) (rest := [.int (nI bb)]) (y_frame l D (nI 6)  hPK) hC hK hN hP hD hS rfl rfl q389 md_X7_frame rfl hl.1 rfl (Nat.le_of_ble_eq_true rfl) dL_ends_397 ⟨Nat.le_of_ble_eq_true rfl, Nat.le_of_ble_eq_true rfl⟩ ⟨Nat.le_of_ble_eq_true rfl, Nat.le_of_ble_eq_true rfl⟩ (fun r w_397 H locs hq hP hD hS => ?_)
                obtain ⟨hPK, hr9⟩ := hq
                have hr9 : r = nI g := hr9.trans ((frx (k := 6) (by decide)).trans (congrArg gI hg))
                rw [hr9]
                refine n_icmp_ne (a := bb) (b := g) (tgt := 413) hx hb dL_ends_400 (by decide) (by omega) (by omega) (fun _ => ?_) (fun h9 => absurd h9 (by omega))
                refine lv_iload hx hb dL_ends_413 (lv_at hl 0 rfl) ?_
                refine lv_bipush (v := (-3)) hx hb dL_ends_415 (by decide) ?_
                refine lv_icmp_eq (tgt := 433) hx hb dL_ends_417 (by decide) (fun _ => ?_) (fun h => absurd rfl h)
                refine lv_iinc (v := nI (bb + 1)) (lv' := [(9, .int (nI (bb + 1))), (10, .int (-3)), (8, .float mn), (7, .int (nI wF)), (6, .int (nI sc)), (5, .int (nI ns)), (4, .int (nI dO)), (3, .int (nI dF)), (0, .ref xo), (1, .int (bI true)), (2, .int (nI 6))]) hx hb dL_ends_433 hl (k := 1) rfl (nI_1 _) (by decide) rfl (fun ls hl => ?_)
                refine lv_goto (tgt := 373) hx hb dL_ends_436 (by decide) ?_
                exact ih373 (bb + 1) w_397 (by omega) hPK (by omega) _ _ hP hD hS _ (lv_sub hl [0, 2, 3, 4, 5, 6, 7, 8, 9, 10] rfl)
              · have _ : True := trivial
                refine callQ_i (As := [.int (nI bb), .int (bI true)]) (rest := []) (y_without l D (nI bb) true  hPK) hC hK hN hP hD hS rfl rfl q628 md_X7_without rfl hl.1 rfl (Nat.le_of_ble_eq_true rfl) dL_ends_387 ⟨Nat.le_of_ble_eq_true rfl, Nat.le_of_ble_eq_true rfl⟩ ⟨Nat.le_of_ble_eq_true rfl, Nat.le_of_ble_eq_true rfl⟩ (fun r w_387 H locs hq hP hD hS => ?_)
                obtain ⟨hPK, hr9⟩ := hq
                have hr9 : r = nI ew := hr9.trans hwo
                rw [hr9]
                refine lv_istore (lv' := [(10, .int (nI ew)), (9, .int (nI bb)), (8, .float mn), (7, .int (nI wF)), (6, .int (nI sc)), (5, .int (nI ns)), (4, .int (nI dO)), (3, .int (nI dF)), (0, .ref xo), (1, .int (bI true)), (2, .int (nI 6))]) hx hb dL_ends_390 hl (by decide) rfl (fun ls hl => ?_)
                refine lv_iload hx hb dL_ends_392 (lv_at hl 1 rfl) ?_
                refine lv_aload_n hx hb dL_ends_394 rfl (lv_at hl 8 rfl) ?_
                refine lv_bipush (v := nI 6) hx hb dL_ends_395 (by decide) ?_
                refine callQ_i (As := [.int (nI 6)]) (rest := [.int (nI bb)]) (y_frame l D (nI 6)  hPK) hC hK hN hP hD hS rfl rfl q389 md_X7_frame rfl hl.1 rfl (Nat.le_of_ble_eq_true rfl) dL_ends_397 ⟨Nat.le_of_ble_eq_true rfl, Nat.le_of_ble_eq_true rfl⟩ ⟨Nat.le_of_ble_eq_true rfl, Nat.le_of_ble_eq_true rfl⟩ (fun r w_397 H locs hq hP hD hS => ?_)
                obtain ⟨hPK, hr9⟩ := hq
                have hr9 : r = nI g := hr9.trans ((frx (k := 6) (by decide)).trans (congrArg gI hg))
                rw [hr9]
                refine n_icmp_ne (a := bb) (b := g) (tgt := 413) hx hb dL_ends_400 (by decide) (by omega) (by omega) (fun _ => ?_) (fun h9 => absurd h9 (by omega))
                refine lv_iload hx hb dL_ends_413 (lv_at hl 0 rfl) ?_
                refine lv_bipush (v := (-3)) hx hb dL_ends_415 (by decide) ?_
                refine lv_icmp_eq (tgt := 433) hx hb dL_ends_417 (by decide) (fun h9 => absurd h9 (nI_m3 (by omega))) (fun _ => ?_)
                refine lv_iload hx hb dL_ends_420 (lv_at hl 0 rfl) ?_
                refine n_if_lt (tgt := 431) hx hb dL_ends_422 (by decide) (by omega) ?_
                refine lv_iload hx hb dL_ends_425 (lv_at hl 0 rfl) ?_
                refine lv_iload_n hx hb dL_ends_427 rfl (lv_at hl 7 rfl) ?_
                refine n_icmp_le (a := ew) (b := dF) (tgt := 433) hx hb dL_ends_428 (by decide) (by omega) (by omega) (fun _ => ?_) (fun h9 => absurd h9 (by omega))
                refine lv_iinc (v := nI (bb + 1)) (lv' := [(9, .int (nI (bb + 1))), (10, .int (nI ew)), (8, .float mn), (7, .int (nI wF)), (6, .int (nI sc)), (5, .int (nI ns)), (4, .int (nI dO)), (3, .int (nI dF)), (0, .ref xo), (1, .int (bI true)), (2, .int (nI 6))]) hx hb dL_ends_433 hl (k := 1) rfl (nI_1 _) (by decide) rfl (fun ls hl => ?_)
                refine lv_goto (tgt := 373) hx hb dL_ends_436 (by decide) ?_
                exact ih373 (bb + 1) w_397 (by omega) hPK (by omega) _ _ hP hD hS _ (lv_sub hl [0, 2, 3, 4, 5, 6, 7, 8, 9, 10] rfl)
        exact L373 _ 0 w_359 (by omega) hPK (Nat.lt_succ_self _) _ _ hP hD hS _ (lv_sub hl [0, 1, 2, 3, 4, 5, 6, 7, 8, 9] rfl)
      exact L346 w_321 hPK  _ _ hP hD hS _ (lv_sub hl [0, 1, 2, 3, 4, 5, 6, 7, 8] rfl)
set_option maxHeartbeats 16000000 in
set_option maxRecDepth 100000 in
theorem c_L_ends_false (l : Launch) (D : va_G) (cI cJ cB : ClassId) {xo ln : Nat} {tx : Nat → Nat} {t : BT} {g ap : Nat} {ws : va_W} (sz : Nat) (hPK : PK cI cJ cB xo ln tx t [] ws) (hg : tgl t = some g) (ha : taq t = some ap) : Met l yL_ends (Cond.code yL_ends cL_ends 13 (some .boolean) :: lw_all) (rmC 8 0 0) (va_Pc [.ref xo, .int (bI false), .int (nI 6)] (pN D (tyz cI cJ cB) ws sz)) (va_Qi (fun (r : Int32) (w : va_W) => r = bI true ∧ ∃ t2 : BT, PK cI cJ cB xo ln tx t2 [] w ∧ frt t2 = frt t) (nB D (va_A ws sz)) (va_A ws sz)) 0 0 (va_A ws sz) := by
  refine Met.ofW (cc := cL_ends) (maxL := 13) (ret := (some .boolean)) (by decide) rfl ?_
  intro p e s m args below meth c s₁ B hml hv
  obtain ⟨rfl, hsz, hO, hK, hN, hP, hD0⟩ := hv
  subst hsz
  have hx := B.exec; have hb := B.bytes; have hr := B.returns; have hlocks := B.notSynchronized
  have hts0 := atoms_spec (ws := Cond.code yL_ends cL_ends 13 (some .boolean) :: lw_all) B.pre
  have hC : CallFix p m c cL_ends 13 s _ lw_all RL := ⟨hx, hb, hml, findClass_of_methodNamed B.named, fun w h => hts0 w (List.mem_cons_of_mem _ h)⟩
  have hA : ∀ q : Nat, s.heap.size ≤ q → va_A ws s.heap.size q := fun q h => Or.inr h
  have hD : va_D (va_A ws s.heap.size) ws := ⟨hD0.1, fun k q h => Or.inl ⟨k, q.2, h⟩⟩
  generalize hAe : va_A ws s.heap.size = A at hA hD ⊢
  have hS : va_S A s.heap s.heap [] := va_S.rf
  have hl := lv_entry ([.ref xo, .int (bI false), .int (nI 6)]) (n := 13) (Nat.le_of_ble_eq_true rfl)
  rw [lg_entry_eq]
  generalize (lg_sl ([.ref xo, .int (bI false), .int (nI 6)]) ++ List.replicate (13 - (lg_sl ([.ref xo, .int (bI false), .int (nI 6)])).length) Slot.unset).toArray = ls at hl ⊢
  have hl : lv_has ls 13 [(0, .ref xo), (1, .int (bI false)), (2, .int (nI 6))] := hl
  generalize hav : ([.ref xo, .int (bI false), .int (nI 6)] : List Value).toArray = args at hC ⊢
  refine W_gen (fun QQ hQ => ?_)
  show W p l e (rmC 8 0 0) s m args below meth c s.heap [] 0 0 QQ (F0 m 0 ls [])
  have hT : TVt t := hPK.tv
  have hn7 : tnb t ≤ 7 := TV_n hT
  have hc24 : twd t * thd t ≤ 24 := TV_c hT
  obtain ⟨hgn, hap, hcase⟩ := goal_3 hT hg ha
  rcases hcase with hB | ⟨ns, hCN⟩ | ⟨ns, F, hE⟩
  · have _ : True := trivial
    refine lv_aload_n hx hb dL_ends_0 rfl (lv_at hl 0 rfl) ?_
    refine lv_iload_n hx hb dL_ends_1 rfl (lv_at hl 1 rfl) ?_
    refine callQ_i (As := [.int (bI false)]) (rest := []) (y_distance l D false  hPK) hC hK hN hP hD hS rfl rfl q640 md_X7_distance rfl hl.1 rfl (Nat.le_of_ble_eq_true rfl) dL_ends_2 ⟨Nat.le_of_ble_eq_true rfl, Nat.le_of_ble_eq_true rfl⟩ ⟨Nat.le_of_ble_eq_true rfl, Nat.le_of_ble_eq_true rfl⟩ (fun r w_2 H locs hq hP hD hS => ?_)
    obtain ⟨hPK, hr9⟩ := hq
    have hr9 : r = (-3) := hr9.trans (by rw [hg, ha]; exact big_dist hB)
    rw [hr9]
    refine lv_istore_n (lv' := [(3, .int (-3)), (0, .ref xo), (1, .int (bI false)), (2, .int (nI 6))]) hx hb dL_ends_5 rfl hl (by decide) rfl (fun ls hl => ?_)
    refine lv_aload_n hx hb dL_ends_6 rfl (lv_at hl 1 rfl) ?_
    refine lv_iload_n hx hb dL_ends_7 rfl (lv_at hl 2 rfl) ?_
    refine b_if_ne (z := false) (tgt := 15) hx hb dL_ends_8 (by decide) (fun h => absurd h (by decide)) (fun _ => ?_)
    refine lv_iconst (v := nI 1) hx hb dL_ends_11 (by decide) ?_
    refine lv_goto (tgt := 16) hx hb dL_ends_12 (by decide) ?_
    refine callQ_i (As := [.int (nI 1)]) (rest := []) (y_distance l D true  hPK) hC hK hN hP hD hS rfl rfl q640 md_X7_distance rfl hl.1 rfl (Nat.le_of_ble_eq_true rfl) dL_ends_16 ⟨Nat.le_of_ble_eq_true rfl, Nat.le_of_ble_eq_true rfl⟩ ⟨Nat.le_of_ble_eq_true rfl, Nat.le_of_ble_eq_true rfl⟩ (fun r w_16 H locs hq hP hD hS => ?_)
    obtain ⟨hPK, hr9⟩ := hq
    have hr9 : r = (-3) := hr9.trans (by rw [hg, ha]; exact big_dist hB)
    rw [hr9]
    refine lv_istore (lv' := [(4, .int (-3)), (3, .int (-3)), (0, .ref xo), (1, .int (bI false)), (2, .int (nI 6))]) hx hb dL_ends_19 hl (by decide) rfl (fun ls hl => ?_)
    refine lv_aload_n hx hb dL_ends_21 rfl (lv_at hl 2 rfl) ?_
    refine callQ_i (As := []) (rest := []) (y_states l D   hPK) hC hK hN hP hD hS rfl rfl q477 md_X7_states rfl hl.1 rfl (Nat.le_of_ble_eq_true rfl) dL_ends_22 ⟨Nat.le_of_ble_eq_true rfl, Nat.le_of_ble_eq_true rfl⟩ ⟨Nat.le_of_ble_eq_true rfl, Nat.le_of_ble_eq_true rfl⟩ (fun r w_22 H locs hq hP hD hS => ?_)
    obtain ⟨hPK, hr9⟩ := hq
    have hr9 : r = (-3) := hr9.trans (big_states hB)
    rw [hr9]
    refine lv_istore (lv' := [(5, .int (-3)), (4, .int (-3)), (3, .int (-3)), (0, .ref xo), (1, .int (bI false)), (2, .int (nI 6))]) hx hb dL_ends_25 hl (by decide) rfl (fun ls hl => ?_)
    refine lv_iload hx hb dL_ends_27 (lv_at hl 0 rfl) ?_
    refine lv_bipush (v := (-3)) hx hb dL_ends_29 (by decide) ?_
    refine lv_icmp_ne (tgt := 95) hx hb dL_ends_31 (by decide) (fun h => absurd rfl h) (fun _ => ?_)
    refine lv_iload_n hx hb dL_ends_34 rfl (lv_at hl 2 rfl) ?_
    refine lv_bipush (v := (-3)) hx hb dL_ends_35 (by decide) ?_
    refine lv_icmp_ne (tgt := 93) hx hb dL_ends_37 (by decide) (fun h => absurd rfl h) (fun _ => ?_)
    refine lv_aload_n hx hb dL_ends_40 rfl (lv_at hl 3 rfl) ?_
    refine lv_iload_n hx hb dL_ends_41 rfl (lv_at hl 4 rfl) ?_
    refine callQ_i (As := [.int (bI false)]) (rest := []) (y_worst l D false  hPK) hC hK hN hP hD hS rfl rfl q659 md_X7_worst rfl hl.1 rfl (Nat.le_of_ble_eq_true rfl) dL_ends_42 ⟨Nat.le_of_ble_eq_true rfl, Nat.le_of_ble_eq_true rfl⟩ ⟨Nat.le_of_ble_eq_true rfl, Nat.le_of_ble_eq_true rfl⟩ (fun r w_42 H locs hq hP hD hS => ?_)
    obtain ⟨hPK, hr9⟩ := hq
    have hr9 : r = (-3) := hr9.trans (by rw [hg, ha]; exact big_worst hB)
    rw [hr9]
    refine lv_bipush (v := (-3)) hx hb dL_ends_45 (by decide) ?_
    refine lv_icmp_ne (tgt := 93) hx hb dL_ends_47 (by decide) (fun h => absurd rfl h) (fun _ => ?_)
    refine lv_aload_n hx hb dL_ends_50 rfl (lv_at hl 3 rfl) ?_
    refine lv_iload_n hx hb dL_ends_51 rfl (lv_at hl 4 rfl) ?_
    refine callQ_i (As := [.int (bI false)]) (rest := []) (y_hint l D false  hPK) hC hK hN hP hD hS rfl rfl q641 md_X7_hint rfl hl.1 rfl (Nat.le_of_ble_eq_true rfl) dL_ends_52 ⟨Nat.le_of_ble_eq_true rfl, Nat.le_of_ble_eq_true rfl⟩ ⟨Nat.le_of_ble_eq_true rfl, Nat.le_of_ble_eq_true rfl⟩ (fun r w_52 H locs hq hP hD hS => ?_)
    obtain ⟨hPK, hr9⟩ := hq
    have hr9 : r = (-3) := hr9.trans (congrArg cHint (bg_hint hg ha hB))
    rw [hr9]
    refine lv_bipush (v := (-3)) hx hb dL_ends_55 (by decide) ?_
    refine lv_icmp_ne (tgt := 93) hx hb dL_ends_57 (by decide) (fun h => absurd rfl h) (fun _ => ?_)
    refine lv_aload_n hx hb dL_ends_60 rfl (lv_at hl 3 rfl) ?_
    refine lv_iload_n hx hb dL_ends_61 rfl (lv_at hl 4 rfl) ?_
    refine callQ_i (As := [.int (bI false)]) (rest := []) (y_follow_no l D false (fm_bad (bg_hint hg ha hB)).1 hPK) hC hK hN hP hD hS rfl rfl q654 md_X7_follow rfl hl.1 rfl (Nat.le_of_ble_eq_true rfl) dL_ends_62 ⟨Nat.le_of_ble_eq_true rfl, Nat.le_of_ble_eq_true rfl⟩ ⟨Nat.le_of_ble_eq_true rfl, Nat.le_of_ble_eq_true rfl⟩ (fun r w_62 H locs hq hP hD hS => ?_)
    obtain ⟨hPK, hr9⟩ := hq
    have hr9 : r = (-2) := hr9.trans (fm_bad (bg_hint hg ha hB)).2
    rw [hr9]
    refine lv_bipush (v := (-2)) hx hb dL_ends_65 (by decide) ?_
    refine lv_icmp_ne (tgt := 93) hx hb dL_ends_67 (by decide) (fun h => absurd rfl h) (fun _ => ?_)
    refine lv_aload_n hx hb dL_ends_70 rfl (lv_at hl 3 rfl) ?_
    refine callQ_i (As := []) (rest := []) (y_solved l D   hPK) hC hK hN hP hD hS rfl rfl q632 md_X7_solved rfl hl.1 rfl (Nat.le_of_ble_eq_true rfl) dL_ends_71 ⟨Nat.le_of_ble_eq_true rfl, Nat.le_of_ble_eq_true rfl⟩ ⟨Nat.le_of_ble_eq_true rfl, Nat.le_of_ble_eq_true rfl⟩ (fun r w_71 H locs hq hP hD hS => ?_)
    obtain ⟨hPK, hr9⟩ := hq
    have hr9 : r = (-3) := hr9.trans (by rw [hg, ha]; exact big_solved hB)
    rw [hr9]
    refine lv_bipush (v := (-3)) hx hb dL_ends_74 (by decide) ?_
    refine lv_icmp_ne (tgt := 93) hx hb dL_ends_76 (by decide) (fun h => absurd rfl h) (fun _ => ?_)
    refine lv_aload_n hx hb dL_ends_79 rfl (lv_at hl 3 rfl) ?_
    refine lv_iconst (v := nI 0) hx hb dL_ends_80 (by decide) ?_
    refine callQ_i (As := [.int (nI 0)]) (rest := []) (y_places l D (nI 0)  hPK) hC hK hN hP hD hS rfl rfl q620 md_X7_places rfl hl.1 rfl (Nat.le_of_ble_eq_true rfl) dL_ends_81 ⟨Nat.le_of_ble_eq_true rfl, Nat.le_of_ble_eq_true rfl⟩ ⟨Nat.le_of_ble_eq_true rfl, Nat.le_of_ble_eq_true rfl⟩ (fun r w_81 H locs hq hP hD hS => ?_)
    obtain ⟨hPK, hr9⟩ := hq
    have hr9 : r = (-3) := hr9.trans ((plx (b := 0) (by omega) hn7).trans (big_places hB))
    rw [hr9]
    refine lv_bipush (v := (-3)) hx hb dL_ends_84 (by decide) ?_
    refine lv_icmp_ne (tgt := 93) hx hb dL_ends_86 (by decide) (fun h => absurd rfl h) (fun _ => ?_)
    refine lv_iconst (v := nI 1) hx hb dL_ends_89 (by decide) ?_
    refine lv_goto (tgt := 94) hx hb dL_ends_90 (by decide) ?_
    rw [hQ]
    subst hAe
    exact W.zret (v := nI 1) hx hb hr rfl (fun t9 ht hW => ⟨⟨_, w_81, rfl, ⟨rfl, t, hPK, rfl⟩, by rw [ht]; exact hP, hD⟩, hS.F ht⟩) hS.2.2 dL_ends_94
  · have _ : True := trivial
    have hn1 : 1 ≤ ns := hCN.1
    have hn2 : ns ≤ 2000 := hCN.2.1
    refine lv_aload_n hx hb dL_ends_0 rfl (lv_at hl 0 rfl) ?_
    refine lv_iload_n hx hb dL_ends_1 rfl (lv_at hl 1 rfl) ?_
    refine callQ_i (As := [.int (bI false)]) (rest := []) (y_distance l D false  hPK) hC hK hN hP hD hS rfl rfl q640 md_X7_distance rfl hl.1 rfl (Nat.le_of_ble_eq_true rfl) dL_ends_2 ⟨Nat.le_of_ble_eq_true rfl, Nat.le_of_ble_eq_true rfl⟩ ⟨Nat.le_of_ble_eq_true rfl, Nat.le_of_ble_eq_true rfl⟩ (fun r w_2 H locs hq hP hD hS => ?_)
    obtain ⟨hPK, hr9⟩ := hq
    have hr9 : r = (-9) := hr9.trans (by rw [hg, ha]; exact cn_dist hCN)
    rw [hr9]
    refine lv_istore_n (lv' := [(3, .int (-9)), (0, .ref xo), (1, .int (bI false)), (2, .int (nI 6))]) hx hb dL_ends_5 rfl hl (by decide) rfl (fun ls hl => ?_)
    refine lv_aload_n hx hb dL_ends_6 rfl (lv_at hl 1 rfl) ?_
    refine lv_iload_n hx hb dL_ends_7 rfl (lv_at hl 2 rfl) ?_
    refine b_if_ne (z := false) (tgt := 15) hx hb dL_ends_8 (by decide) (fun h => absurd h (by decide)) (fun _ => ?_)
    refine lv_iconst (v := nI 1) hx hb dL_ends_11 (by decide) ?_
    refine lv_goto (tgt := 16) hx hb dL_ends_12 (by decide) ?_
    refine callQ_i (As := [.int (nI 1)]) (rest := []) (y_distance l D true  hPK) hC hK hN hP hD hS rfl rfl q640 md_X7_distance rfl hl.1 rfl (Nat.le_of_ble_eq_true rfl) dL_ends_16 ⟨Nat.le_of_ble_eq_true rfl, Nat.le_of_ble_eq_true rfl⟩ ⟨Nat.le_of_ble_eq_true rfl, Nat.le_of_ble_eq_true rfl⟩ (fun r w_16 H locs hq hP hD hS => ?_)
    obtain ⟨hPK, hr9⟩ := hq
    have hr9 : r = (-9) := hr9.trans (by rw [hg, ha]; exact cn_dist hCN)
    rw [hr9]
    refine lv_istore (lv' := [(4, .int (-9)), (3, .int (-9)), (0, .ref xo), (1, .int (bI false)), (2, .int (nI 6))]) hx hb dL_ends_19 hl (by decide) rfl (fun ls hl => ?_)
    refine lv_aload_n hx hb dL_ends_21 rfl (lv_at hl 2 rfl) ?_
    refine callQ_i (As := []) (rest := []) (y_states l D   hPK) hC hK hN hP hD hS rfl rfl q477 md_X7_states rfl hl.1 rfl (Nat.le_of_ble_eq_true rfl) dL_ends_22 ⟨Nat.le_of_ble_eq_true rfl, Nat.le_of_ble_eq_true rfl⟩ ⟨Nat.le_of_ble_eq_true rfl, Nat.le_of_ble_eq_true rfl⟩ (fun r w_22 H locs hq hP hD hS => ?_)
    obtain ⟨hPK, hr9⟩ := hq
    have hr9 : r = nI ns := hr9.trans (cn_states hCN)
    rw [hr9]
    refine lv_istore (lv' := [(5, .int (nI ns)), (4, .int (-9)), (3, .int (-9)), (0, .ref xo), (1, .int (bI false)), (2, .int (nI 6))]) hx hb dL_ends_25 hl (by decide) rfl (fun ls hl => ?_)
    refine lv_iload hx hb dL_ends_27 (lv_at hl 0 rfl) ?_
    refine lv_bipush (v := (-3)) hx hb dL_ends_29 (by decide) ?_
    refine lv_icmp_ne (tgt := 95) hx hb dL_ends_31 (by decide) (fun _ => ?_) (fun h9 => absurd h9 (nI_m3 (by omega)))
    refine lv_aload_n hx hb dL_ends_95 rfl (lv_at hl 3 rfl) ?_
    refine callQ_i (As := []) (rest := []) (y_solved l D   hPK) hC hK hN hP hD hS rfl rfl q632 md_X7_solved rfl hl.1 rfl (Nat.le_of_ble_eq_true rfl) dL_ends_96 ⟨Nat.le_of_ble_eq_true rfl, Nat.le_of_ble_eq_true rfl⟩ ⟨Nat.le_of_ble_eq_true rfl, Nat.le_of_ble_eq_true rfl⟩ (fun r w_96 H locs hq hP hD hS => ?_)
    obtain ⟨hPK, hr9⟩ := hq
    have hr9 : r = nI 0 := hr9.trans (by rw [hg, ha]; exact cn_solved hCN)
    rw [hr9]
    refine lv_istore (lv' := [(6, .int (nI 0)), (5, .int (nI ns)), (4, .int (-9)), (3, .int (-9)), (0, .ref xo), (1, .int (bI false)), (2, .int (nI 6))]) hx hb dL_ends_99 hl (by decide) rfl (fun ls hl => ?_)
    refine lv_iload hx hb dL_ends_101 (lv_at hl 1 rfl) ?_
    refine lv_iconst (v := nI 1) hx hb dL_ends_103 (by decide) ?_
    refine n_icmp_lt (a := ns) (b := 1) (tgt := 172) hx hb dL_ends_104 (by decide) (by omega) (by omega) (fun h9 => absurd h9 (by omega)) (fun _ => ?_)
    refine lv_iload hx hb dL_ends_107 (lv_at hl 1 rfl) ?_
    refine lv_sipush (v := nI 2000) hx hb dL_ends_109 (by decide) ?_
    refine n_icmp_gt (a := ns) (b := 2000) (tgt := 172) hx hb dL_ends_112 (by decide) (by omega) (by omega) (fun h9 => absurd h9 (by omega)) (fun _ => ?_)
    refine lv_iload hx hb dL_ends_115 (lv_at hl 0 rfl) ?_
    refine lv_iload hx hb dL_ends_117 (lv_at hl 1 rfl) ?_
    refine n_icmp_gt (a := 0) (b := ns) (tgt := 172) hx hb dL_ends_119 (by decide) (by omega) (by omega) (fun h9 => absurd h9 (by omega)) (fun _ => ?_)
    refine lv_iload hx hb dL_ends_122 (lv_at hl 0 rfl) ?_
    refine n_if_ne (a := 0) (tgt := 131) hx hb dL_ends_124 (by decide) (by decide) (fun h => absurd h (by decide)) (fun _ => ?_)
    refine lv_iconst (v := nI 1) hx hb dL_ends_127 (by decide) ?_
    refine lv_goto (tgt := 132) hx hb dL_ends_128 (by decide) ?_
    refine lv_iload_n hx hb dL_ends_132 rfl (lv_at hl 3 rfl) ?_
    refine lv_bipush (v := (-9)) hx hb dL_ends_133 (by decide) ?_
    refine lv_icmp_ne (tgt := 142) hx hb dL_ends_135 (by decide) (fun h => absurd rfl h) (fun _ => ?_)
    refine lv_iconst (v := nI 1) hx hb dL_ends_138 (by decide) ?_
    refine lv_goto (tgt := 143) hx hb dL_ends_139 (by decide) ?_
    refine n_icmp_ne (a := 1) (b := 1) (tgt := 172) hx hb dL_ends_143 (by decide) (by decide) (by decide) (fun h => absurd h (by decide)) (fun _ => ?_)
    refine lv_iload hx hb dL_ends_146 (lv_at hl 2 rfl) ?_
    refine lv_bipush (v := (-9)) hx hb dL_ends_148 (by decide) ?_
    refine lv_icmp_ne (tgt := 157) hx hb dL_ends_150 (by decide) (fun h => absurd rfl h) (fun _ => ?_)
    refine lv_iconst (v := nI 1) hx hb dL_ends_153 (by decide) ?_
    refine lv_goto (tgt := 158) hx hb dL_ends_154 (by decide) ?_
    refine lv_iload_n hx hb dL_ends_158 rfl (lv_at hl 3 rfl) ?_
    refine lv_bipush (v := (-9)) hx hb dL_ends_159 (by decide) ?_
    refine lv_icmp_ne (tgt := 168) hx hb dL_ends_161 (by decide) (fun h => absurd rfl h) (fun _ => ?_)
    refine lv_iconst (v := nI 1) hx hb dL_ends_164 (by decide) ?_
    refine lv_goto (tgt := 169) hx hb dL_ends_165 (by decide) ?_
    refine n_icmp_eq (a := 1) (b := 1) (tgt := 174) hx hb dL_ends_169 (by decide) (by decide) (by decide) (fun _ => ?_) (fun h => absurd h (by decide))
    refine lv_iload_n hx hb dL_ends_174 rfl (lv_at hl 3 rfl) ?_
    refine lv_bipush (v := (-9)) hx hb dL_ends_175 (by decide) ?_
    refine lv_icmp_ne (tgt := 237) hx hb dL_ends_177 (by decide) (fun h => absurd rfl h) (fun _ => ?_)
    refine lv_aload_n hx hb dL_ends_180 rfl (lv_at hl 4 rfl) ?_
    refine lv_iload_n hx hb dL_ends_181 rfl (lv_at hl 5 rfl) ?_
    refine callQ_i (As := [.int (bI false)]) (rest := []) (y_worst l D false  hPK) hC hK hN hP hD hS rfl rfl q659 md_X7_worst rfl hl.1 rfl (Nat.le_of_ble_eq_true rfl) dL_ends_182 ⟨Nat.le_of_ble_eq_true rfl, Nat.le_of_ble_eq_true rfl⟩ ⟨Nat.le_of_ble_eq_true rfl, Nat.le_of_ble_eq_true rfl⟩ (fun r w_182 H locs hq hP hD hS => ?_)
    obtain ⟨hPK, hr9⟩ := hq
    have hr9 : r = (-9) := hr9.trans (by rw [hg, ha]; exact cn_worst hCN)
    rw [hr9]
    refine lv_bipush (v := (-9)) hx hb dL_ends_185 (by decide) ?_
    refine lv_icmp_ne (tgt := 235) hx hb dL_ends_187 (by decide) (fun h => absurd rfl h) (fun _ => ?_)
    refine lv_aload_n hx hb dL_ends_190 rfl (lv_at hl 4 rfl) ?_
    refine lv_iload_n hx hb dL_ends_191 rfl (lv_at hl 5 rfl) ?_
    refine callQ_i (As := [.int (bI false)]) (rest := []) (y_hint l D false  hPK) hC hK hN hP hD hS rfl rfl q641 md_X7_hint rfl hl.1 rfl (Nat.le_of_ble_eq_true rfl) dL_ends_192 ⟨Nat.le_of_ble_eq_true rfl, Nat.le_of_ble_eq_true rfl⟩ ⟨Nat.le_of_ble_eq_true rfl, Nat.le_of_ble_eq_true rfl⟩ (fun r w_192 H locs hq hP hD hS => ?_)
    obtain ⟨hPK, hr9⟩ := hq
    have hr9 : r = (-9) := hr9.trans (congrArg cHint (cn_hix hg ha hCN))
    rw [hr9]
    refine lv_bipush (v := (-9)) hx hb dL_ends_195 (by decide) ?_
    refine lv_icmp_ne (tgt := 235) hx hb dL_ends_197 (by decide) (fun h => absurd rfl h) (fun _ => ?_)
    refine lv_aload_n hx hb dL_ends_200 rfl (lv_at hl 4 rfl) ?_
    refine lv_iload_n hx hb dL_ends_201 rfl (lv_at hl 5 rfl) ?_
    refine callQ_i (As := [.int (bI false)]) (rest := []) (y_follow_no l D false (fm_bad (cn_hix hg ha hCN)).1 hPK) hC hK hN hP hD hS rfl rfl q654 md_X7_follow rfl hl.1 rfl (Nat.le_of_ble_eq_true rfl) dL_ends_202 ⟨Nat.le_of_ble_eq_true rfl, Nat.le_of_ble_eq_true rfl⟩ ⟨Nat.le_of_ble_eq_true rfl, Nat.le_of_ble_eq_true rfl⟩ (fun r w_202 H locs hq hP hD hS => ?_)
    obtain ⟨hPK, hr9⟩ := hq
    have hr9 : r = (-2) := hr9.trans (fm_bad (cn_hix hg ha hCN)).2
    rw [hr9]
    refine lv_bipush (v := (-2)) hx hb dL_ends_205 (by decide) ?_
    refine lv_icmp_ne (tgt := 235) hx hb dL_ends_207 (by decide) (fun h => absurd rfl h) (fun _ => ?_)
    refine lv_aload_n hx hb dL_ends_210 rfl (lv_at hl 4 rfl) ?_
    refine lv_iload_n hx hb dL_ends_211 rfl (lv_at hl 5 rfl) ?_
    refine callQ_f (As := [.int (bI false)]) (rest := []) (y_mean l D false  hPK) hC hK hN hP hD hS rfl rfl q678 md_X7_mean rfl hl.1 rfl (Nat.le_of_ble_eq_true rfl) dL_ends_212 ⟨Nat.le_of_ble_eq_true rfl, Nat.le_of_ble_eq_true rfl⟩ ⟨Nat.le_of_ble_eq_true rfl, Nat.le_of_ble_eq_true rfl⟩ (fun r w_212 H locs hq hP hD hS => ?_)
    obtain ⟨hPK, hr9⟩ := hq
    have hr9 : r = 3212836864 := hr9.trans (by rw [hg, ha]; exact cn_mean hCN)
    rw [hr9]
    refine lv_ldcf hx hb hC.2.2.2.1 (hC.2.2.2.2 _ q683) dL_ends_215 ?_
    refine lv_fcmp hx hb dL_ends_217 ?_
    refine topi (y := nI 0) (by decide +kernel) ?_
    refine n_if_ne (a := 0) (tgt := 235) hx hb dL_ends_218 (by decide) (by decide) (fun h => absurd h (by decide)) (fun _ => ?_)
    refine lv_aload_n hx hb dL_ends_221 rfl (lv_at hl 4 rfl) ?_
    refine lv_iload_n hx hb dL_ends_222 rfl (lv_at hl 5 rfl) ?_
    refine callQ_i (As := [.int (bI false)]) (rest := []) (y_hardest_no l D false (cn_hdx hg ha hCN) hPK) hC hK hN hP hD hS rfl rfl q663 md_X7_hardest rfl hl.1 rfl (Nat.le_of_ble_eq_true rfl) dL_ends_223 ⟨Nat.le_of_ble_eq_true rfl, Nat.le_of_ble_eq_true rfl⟩ ⟨Nat.le_of_ble_eq_true rfl, Nat.le_of_ble_eq_true rfl⟩ (fun r w_223 H locs hq hP hD hS => ?_)
    obtain ⟨hPK, hr9⟩ := hq
    have hr9 : r = (-2) := hr9.trans (hr_none (cn_hdx hg ha hCN))
    rw [hr9]
    refine lv_bipush (v := (-2)) hx hb dL_ends_226 (by decide) ?_
    refine lv_icmp_ne (tgt := 235) hx hb dL_ends_228 (by decide) (fun h => absurd rfl h) (fun _ => ?_)
    refine lv_iconst (v := nI 1) hx hb dL_ends_231 (by decide) ?_
    refine lv_goto (tgt := 236) hx hb dL_ends_232 (by decide) ?_
    rw [hQ]
    subst hAe
    exact W.zret (v := nI 1) hx hb hr rfl (fun t9 ht hW => ⟨⟨_, w_223, rfl, ⟨rfl, t, hPK, rfl⟩, by rw [ht]; exact hP, hD⟩, hS.F ht⟩) hS.2.2 dL_ends_236
  · have _ : True := trivial
    have hCC := hE.2.2.2.2.2
    obtain ⟨dF, hdF⟩ := hCC.all false Rch_0
    obtain ⟨dO, hdO⟩ := hCC.all true Rch_0
    obtain ⟨wF, hwF⟩ := hCC.mx false
    obtain ⟨wO, hwO⟩ := hCC.mx true
    have hn1 : 1 ≤ ns := hCC.2.2.1
    have hn2 : ns ≤ 2000 := hCC.2.2.2.1
    have hdFn : dF < ns := hCC.lt hdF
    have hdOn : dO < ns := hCC.lt hdO
    have hle : dF ≤ wF := hwF.2 _ _ hdF
    have hwFn : wF < ns := by obtain ⟨xw, hxw⟩ := hwF.1; exact hCC.lt hxw
    have hwOn : wO < ns := by obtain ⟨xw, hxw⟩ := hwO.1; exact hCC.lt hxw
    have hcmp : dO ≤ dF := hCC.le hdF hdO
    obtain ⟨sc, hsc1, hsc2, hsc⟩ := hE.solved
    obtain ⟨mn, hmn, hmn1, hmn2⟩ := hE.mean hwF
    obtain ⟨mp, hmp1, hmp2, hmp⟩ := hE.places
    refine lv_aload_n hx hb dL_ends_0 rfl (lv_at hl 0 rfl) ?_
    refine lv_iload_n hx hb dL_ends_1 rfl (lv_at hl 1 rfl) ?_
    refine callQ_i (As := [.int (bI false)]) (rest := []) (y_distance l D false  hPK) hC hK hN hP hD hS rfl rfl q640 md_X7_distance rfl hl.1 rfl (Nat.le_of_ble_eq_true rfl) dL_ends_2 ⟨Nat.le_of_ble_eq_true rfl, Nat.le_of_ble_eq_true rfl⟩ ⟨Nat.le_of_ble_eq_true rfl, Nat.le_of_ble_eq_true rfl⟩ (fun r w_2 H locs hq hP hD hS => ?_)
    obtain ⟨hPK, hr9⟩ := hq
    have hr9 : r = nI dF := hr9.trans (hE.dist hdF)
    rw [hr9]
    refine lv_istore_n (lv' := [(3, .int (nI dF)), (0, .ref xo), (1, .int (bI false)), (2, .int (nI 6))]) hx hb dL_ends_5 rfl hl (by decide) rfl (fun ls hl => ?_)
    refine lv_aload_n hx hb dL_ends_6 rfl (lv_at hl 1 rfl) ?_
    refine lv_iload_n hx hb dL_ends_7 rfl (lv_at hl 2 rfl) ?_
    refine b_if_ne (z := false) (tgt := 15) hx hb dL_ends_8 (by decide) (fun h => absurd h (by decide)) (fun _ => ?_)
    refine lv_iconst (v := nI 1) hx hb dL_ends_11 (by decide) ?_
    refine lv_goto (tgt := 16) hx hb dL_ends_12 (by decide) ?_
    refine callQ_i (As := [.int (nI 1)]) (rest := []) (y_distance l D true  hPK) hC hK hN hP hD hS rfl rfl q640 md_X7_distance rfl hl.1 rfl (Nat.le_of_ble_eq_true rfl) dL_ends_16 ⟨Nat.le_of_ble_eq_true rfl, Nat.le_of_ble_eq_true rfl⟩ ⟨Nat.le_of_ble_eq_true rfl, Nat.le_of_ble_eq_true rfl⟩ (fun r w_16 H locs hq hP hD hS => ?_)
    obtain ⟨hPK, hr9⟩ := hq
    have hr9 : r = nI dO := hr9.trans (hE.dist hdO)
    rw [hr9]
    refine lv_istore (lv' := [(4, .int (nI dO)), (3, .int (nI dF)), (0, .ref xo), (1, .int (bI false)), (2, .int (nI 6))]) hx hb dL_ends_19 hl (by decide) rfl (fun ls hl => ?_)
    refine lv_aload_n hx hb dL_ends_21 rfl (lv_at hl 2 rfl) ?_
    refine callQ_i (As := []) (rest := []) (y_states l D   hPK) hC hK hN hP hD hS rfl rfl q477 md_X7_states rfl hl.1 rfl (Nat.le_of_ble_eq_true rfl) dL_ends_22 ⟨Nat.le_of_ble_eq_true rfl, Nat.le_of_ble_eq_true rfl⟩ ⟨Nat.le_of_ble_eq_true rfl, Nat.le_of_ble_eq_true rfl⟩ (fun r w_22 H locs hq hP hD hS => ?_)
    obtain ⟨hPK, hr9⟩ := hq
    have hr9 : r = nI ns := hr9.trans hE.states
    rw [hr9]
    refine lv_istore (lv' := [(5, .int (nI ns)), (4, .int (nI dO)), (3, .int (nI dF)), (0, .ref xo), (1, .int (bI false)), (2, .int (nI 6))]) hx hb dL_ends_25 hl (by decide) rfl (fun ls hl => ?_)
    refine lv_iload hx hb dL_ends_27 (lv_at hl 0 rfl) ?_
    refine lv_bipush (v := (-3)) hx hb dL_ends_29 (by decide) ?_
    refine lv_icmp_ne (tgt := 95) hx hb dL_ends_31 (by decide) (fun _ => ?_) (fun h9 => absurd h9 (nI_m3 (by omega)))
    refine lv_aload_n hx hb dL_ends_95 rfl (lv_at hl 3 rfl) ?_
    refine callQ_i (As := []) (rest := []) (y_solved l D   hPK) hC hK hN hP hD hS rfl rfl q632 md_X7_solved rfl hl.1 rfl (Nat.le_of_ble_eq_true rfl) dL_ends_96 ⟨Nat.le_of_ble_eq_true rfl, Nat.le_of_ble_eq_true rfl⟩ ⟨Nat.le_of_ble_eq_true rfl, Nat.le_of_ble_eq_true rfl⟩ (fun r w_96 H locs hq hP hD hS => ?_)
    obtain ⟨hPK, hr9⟩ := hq
    have hr9 : r = nI sc := hr9.trans hsc
    rw [hr9]
    refine lv_istore (lv' := [(6, .int (nI sc)), (5, .int (nI ns)), (4, .int (nI dO)), (3, .int (nI dF)), (0, .ref xo), (1, .int (bI false)), (2, .int (nI 6))]) hx hb dL_ends_99 hl (by decide) rfl (fun ls hl => ?_)
    refine lv_iload hx hb dL_ends_101 (lv_at hl 1 rfl) ?_
    refine lv_iconst (v := nI 1) hx hb dL_ends_103 (by decide) ?_
    refine n_icmp_lt (a := ns) (b := 1) (tgt := 172) hx hb dL_ends_104 (by decide) (by omega) (by omega) (fun h9 => absurd h9 (by omega)) (fun _ => ?_)
    refine lv_iload hx hb dL_ends_107 (lv_at hl 1 rfl) ?_
    refine lv_sipush (v := nI 2000) hx hb dL_ends_109 (by decide) ?_
    refine n_icmp_gt (a := ns) (b := 2000) (tgt := 172) hx hb dL_ends_112 (by decide) (by omega) (by omega) (fun h9 => absurd h9 (by omega)) (fun _ => ?_)
    refine lv_iload hx hb dL_ends_115 (lv_at hl 0 rfl) ?_
    refine lv_iload hx hb dL_ends_117 (lv_at hl 1 rfl) ?_
    refine n_icmp_gt (a := sc) (b := ns) (tgt := 172) hx hb dL_ends_119 (by decide) (by omega) (by omega) (fun h9 => absurd h9 (by omega)) (fun _ => ?_)
    refine lv_iload hx hb dL_ends_122 (lv_at hl 0 rfl) ?_
    refine n_if_ne (tgt := 131) hx hb dL_ends_124 (by decide) (by omega) (fun _ => ?_) (fun h9 => absurd h9 (by omega))
    refine lv_iconst (v := nI 0) hx hb dL_ends_131 (by decide) ?_
    refine lv_iload_n hx hb dL_ends_132 rfl (lv_at hl 3 rfl) ?_
    refine lv_bipush (v := (-9)) hx hb dL_ends_133 (by decide) ?_
    refine lv_icmp_ne (tgt := 142) hx hb dL_ends_135 (by decide) (fun _ => ?_) (fun h9 => absurd h9 (nI_m9 (by omega)))
    refine lv_iconst (v := nI 0) hx hb dL_ends_142 (by decide) ?_
    refine n_icmp_ne (a := 0) (b := 0) (tgt := 172) hx hb dL_ends_143 (by decide) (by decide) (by decide) (fun h => absurd h (by decide)) (fun _ => ?_)
    refine lv_iload hx hb dL_ends_146 (lv_at hl 2 rfl) ?_
    refine lv_bipush (v := (-9)) hx hb dL_ends_148 (by decide) ?_
    refine lv_icmp_ne (tgt := 157) hx hb dL_ends_150 (by decide) (fun _ => ?_) (fun h9 => absurd h9 (nI_m9 (by omega)))
    refine lv_iconst (v := nI 0) hx hb dL_ends_157 (by decide) ?_
    refine lv_iload_n hx hb dL_ends_158 rfl (lv_at hl 3 rfl) ?_
    refine lv_bipush (v := (-9)) hx hb dL_ends_159 (by decide) ?_
    refine lv_icmp_ne (tgt := 168) hx hb dL_ends_161 (by decide) (fun _ => ?_) (fun h9 => absurd h9 (nI_m9 (by omega)))
    refine lv_iconst (v := nI 0) hx hb dL_ends_168 (by decide) ?_
    refine n_icmp_eq (a := 0) (b := 0) (tgt := 174) hx hb dL_ends_169 (by decide) (by decide) (by decide) (fun _ => ?_) (fun h => absurd h (by decide))
    refine lv_iload_n hx hb dL_ends_174 rfl (lv_at hl 3 rfl) ?_
    refine lv_bipush (v := (-9)) hx hb dL_ends_175 (by decide) ?_
    refine lv_icmp_ne (tgt := 237) hx hb dL_ends_177 (by decide) (fun _ => ?_) (fun h9 => absurd h9 (nI_m9 (by omega)))
    refine lv_aload_n hx hb dL_ends_237 rfl (lv_at hl 4 rfl) ?_
    refine lv_iload_n hx hb dL_ends_238 rfl (lv_at hl 5 rfl) ?_
    refine callQ_i (As := [.int (bI false)]) (rest := []) (y_worst l D false  hPK) hC hK hN hP hD hS rfl rfl q659 md_X7_worst rfl hl.1 rfl (Nat.le_of_ble_eq_true rfl) dL_ends_239 ⟨Nat.le_of_ble_eq_true rfl, Nat.le_of_ble_eq_true rfl⟩ ⟨Nat.le_of_ble_eq_true rfl, Nat.le_of_ble_eq_true rfl⟩ (fun r w_239 H locs hq hP hD hS => ?_)
    obtain ⟨hPK, hr9⟩ := hq
    have hr9 : r = nI wF := hr9.trans (hE.worst hwF)
    rw [hr9]
    refine lv_istore (lv' := [(7, .int (nI wF)), (6, .int (nI sc)), (5, .int (nI ns)), (4, .int (nI dO)), (3, .int (nI dF)), (0, .ref xo), (1, .int (bI false)), (2, .int (nI 6))]) hx hb dL_ends_242 hl (by decide) rfl (fun ls hl => ?_)
    refine lv_aload_n hx hb dL_ends_244 rfl (lv_at hl 5 rfl) ?_
    refine lv_iload_n hx hb dL_ends_245 rfl (lv_at hl 6 rfl) ?_
    refine callQ_f (As := [.int (bI false)]) (rest := []) (y_mean l D false  hPK) hC hK hN hP hD hS rfl rfl q678 md_X7_mean rfl hl.1 rfl (Nat.le_of_ble_eq_true rfl) dL_ends_246 ⟨Nat.le_of_ble_eq_true rfl, Nat.le_of_ble_eq_true rfl⟩ ⟨Nat.le_of_ble_eq_true rfl, Nat.le_of_ble_eq_true rfl⟩ (fun r w_246 H locs hq hP hD hS => ?_)
    obtain ⟨hPK, hr9⟩ := hq
    have hr9 : r = mn := hr9.trans hmn
    rw [hr9]
    refine lv_fstore (lv' := [(8, .float mn), (7, .int (nI wF)), (6, .int (nI sc)), (5, .int (nI ns)), (4, .int (nI dO)), (3, .int (nI dF)), (0, .ref xo), (1, .int (bI false)), (2, .int (nI 6))]) hx hb dL_ends_249 hl (by decide) rfl (fun ls hl => ?_)
    refine lv_iload_n hx hb dL_ends_251 rfl (lv_at hl 5 rfl) ?_
    refine lv_iload hx hb dL_ends_252 (lv_at hl 1 rfl) ?_
    refine n_icmp_gt (a := dF) (b := wF) (tgt := 368) hx hb dL_ends_254 (by decide) (by omega) (by omega) (fun h9 => absurd h9 (by omega)) (fun _ => ?_)
    rcases Nat.eq_zero_or_pos dF with hz0 | hz0
    · have _ : True := trivial
      refine lv_iload_n hx hb dL_ends_257 rfl (lv_at hl 5 rfl) ?_
      refine n_if_ne (tgt := 265) hx hb dL_ends_258 (by decide) (by omega) (fun h9 => absurd h9 (by omega)) (fun _ => ?_)
      refine lv_iconst (v := nI 1) hx hb dL_ends_261 (by decide) ?_
      refine lv_goto (tgt := 266) hx hb dL_ends_262 (by decide) ?_
      refine lv_aload_n hx hb dL_ends_266 rfl (lv_at hl 6 rfl) ?_
      refine lv_bipush (v := nI 8) hx hb dL_ends_267 (by decide) ?_
      refine callQ_i (As := [.int (nI 8)]) (rest := [.int (nI 1)]) (y_frame l D (nI 8)  hPK) hC hK hN hP hD hS rfl rfl q389 md_X7_frame rfl hl.1 rfl (Nat.le_of_ble_eq_true rfl) dL_ends_269 ⟨Nat.le_of_ble_eq_true rfl, Nat.le_of_ble_eq_true rfl⟩ ⟨Nat.le_of_ble_eq_true rfl, Nat.le_of_ble_eq_true rfl⟩ (fun r w_269 H locs hq hP hD hS => ?_)
      obtain ⟨hPK, hr9⟩ := hq
      have hr9 : r = nI 1 := hr9.trans ((frx (k := 8) (by decide)).trans ((hE.at (z := false)).trans (if_pos (by rw [hdF, hz0]))))
      rw [hr9]
      refine lv_iconst (v := nI 1) hx hb dL_ends_272 (by decide) ?_
      refine n_icmp_ne (a := 1) (b := 1) (tgt := 280) hx hb dL_ends_273 (by decide) (by decide) (by decide) (fun h => absurd h (by decide)) (fun _ => ?_)
      refine lv_iconst (v := nI 1) hx hb dL_ends_276 (by decide) ?_
      refine lv_goto (tgt := 281) hx hb dL_ends_277 (by decide) ?_
      refine n_icmp_ne (a := 1) (b := 1) (tgt := 368) hx hb dL_ends_281 (by decide) (by decide) (by decide) (fun h => absurd h (by decide)) (fun _ => ?_)
      refine lv_iload_n hx hb dL_ends_284 rfl (lv_at hl 7 rfl) ?_
      refine b_if_eq (z := false) (tgt := 297) hx hb dL_ends_285 (by decide) (fun _ => ?_) (fun h => absurd h (by decide))
      refine lv_iload_n hx hb dL_ends_297 rfl (lv_at hl 5 rfl) ?_
      refine lv_iload hx hb dL_ends_298 (lv_at hl 4 rfl) ?_
      refine n_icmp_lt (a := dF) (b := dO) (tgt := 368) hx hb dL_ends_300 (by decide) (by omega) (by omega) (fun h9 => absurd h9 (by omega)) (fun _ => ?_)
      refine lv_fload hx hb dL_ends_303 (lv_at hl 0 rfl) ?_
      refine lv_iload hx hb dL_ends_305 (lv_at hl 1 rfl) ?_
      refine lv_i2f hx hb dL_ends_307 ?_
      refine lv_fcmp hx hb dL_ends_308 ?_
      refine lv_if_gt (tgt := 368) hx hb dL_ends_309 (by decide) (fun h9 => absurd h9 (cmp_l hmn1)) (fun _ => ?_)
      refine lv_fload hx hb dL_ends_312 (lv_at hl 0 rfl) ?_
      refine lv_fconst0 hx hb dL_ends_314 ?_
      refine lv_fcmp hx hb dL_ends_315 ?_
      refine lv_if_lt (tgt := 368) hx hb dL_ends_316 (by decide) (fun h9 => absurd h9 (cmp_g hmn2)) (fun _ => ?_)
      refine lv_aload_n hx hb dL_ends_319 rfl (lv_at hl 6 rfl) ?_
      refine lv_iload_n hx hb dL_ends_320 rfl (lv_at hl 7 rfl) ?_
      refine callQ_i (As := [.int (bI false)]) (rest := []) (y_hint l D false  hPK) hC hK hN hP hD hS rfl rfl q641 md_X7_hint rfl hl.1 rfl (Nat.le_of_ble_eq_true rfl) dL_ends_321 ⟨Nat.le_of_ble_eq_true rfl, Nat.le_of_ble_eq_true rfl⟩ ⟨Nat.le_of_ble_eq_true rfl, Nat.le_of_ble_eq_true rfl⟩ (fun r w_321 H locs hq hP hD hS => ?_)
      obtain ⟨hPK, hr9⟩ := hq
      have hr9 : r = (-9) := hr9.trans (hE.hint0 (by rw [hdF, hz0]))
      rw [hr9]
      refine lv_bipush (v := (-9)) hx hb dL_ends_324 (by decide) ?_
      refine lv_icmp_ne (tgt := 333) hx hb dL_ends_326 (by decide) (fun h => absurd rfl h) (fun _ => ?_)
      refine lv_iconst (v := nI 1) hx hb dL_ends_329 (by decide) ?_
      refine lv_goto (tgt := 334) hx hb dL_ends_330 (by decide) ?_
      refine lv_iload_n hx hb dL_ends_334 rfl (lv_at hl 5 rfl) ?_
      refine n_if_ne (tgt := 342) hx hb dL_ends_335 (by decide) (by omega) (fun h9 => absurd h9 (by omega)) (fun _ => ?_)
      refine lv_iconst (v := nI 1) hx hb dL_ends_338 (by decide) ?_
      refine lv_goto (tgt := 343) hx hb dL_ends_339 (by decide) ?_
      refine n_icmp_ne (a := 1) (b := 1) (tgt := 368) hx hb dL_ends_343 (by decide) (by decide) (by decide) (fun h => absurd h (by decide)) (fun _ => ?_)
      have L346 : ∀ (ws0 : va_W), (PK cI cJ cB xo ln tx t [] ws0) → ∀ (H : Heap) (locs : List Loc), va_P D vwCl (oW cI cJ cB ws0) H → va_D A (oW cI cJ cB ws0) → va_S A s.heap H locs → ∀ ls : Array Slot, lv_has ls 13 [(8, .float mn), (7, .int (nI wF)), (6, .int (nI sc)), (5, .int (nI ns)), (4, .int (nI dO)), (3, .int (nI dF)), (0, .ref xo), (1, .int (bI false)), (2, .int (nI 6))] → W p l e (rmC 8 0 0) s m args below meth c H locs 0 0 QQ (F0 m 346 ls []) := by
        intro ws0 hPK H locs hP hD hS ls hl
        refine lv_aload_n hx hb dL_ends_346 rfl (lv_at hl 6 rfl) ?_
        refine lv_aload_n hx hb dL_ends_347 rfl (lv_at hl 6 rfl) ?_
        refine lv_bipush (v := nI 6) hx hb dL_ends_348 (by decide) ?_
        refine callQ_i (As := [.int (nI 6)]) (rest := [.ref xo]) (y_frame l D (nI 6)  hPK) hC hK hN hP hD hS rfl rfl q389 md_X7_frame rfl hl.1 rfl (Nat.le_of_ble_eq_true rfl) dL_ends_350 ⟨Nat.le_of_ble_eq_true rfl, Nat.le_of_ble_eq_true rfl⟩ ⟨Nat.le_of_ble_eq_true rfl, Nat.le_of_ble_eq_true rfl⟩ (fun r w_350 H locs hq hP hD hS => ?_)
        obtain ⟨hPK, hr9⟩ := hq
        have hr9 : r = nI g := hr9.trans ((frx (k := 6) (by decide)).trans (congrArg gI hg))
        rw [hr9]
        refine callQ_i (As := [.int (nI g)]) (rest := []) (y_places l D (nI g)  hPK) hC hK hN hP hD hS rfl rfl q620 md_X7_places rfl hl.1 rfl (Nat.le_of_ble_eq_true rfl) dL_ends_353 ⟨Nat.le_of_ble_eq_true rfl, Nat.le_of_ble_eq_true rfl⟩ ⟨Nat.le_of_ble_eq_true rfl, Nat.le_of_ble_eq_true rfl⟩ (fun r w_353 H locs hq hP hD hS => ?_)
        obtain ⟨hPK, hr9⟩ := hq
        have hr9 : r = nI mp := hr9.trans hmp
        rw [hr9]
        refine lv_aload_n hx hb dL_ends_356 rfl (lv_at hl 6 rfl) ?_
        refine lv_bipush (v := nI 7) hx hb dL_ends_357 (by decide) ?_
        refine callQ_i (As := [.int (nI 7)]) (rest := [.int (nI mp)]) (y_frame l D (nI 7)  hPK) hC hK hN hP hD hS rfl rfl q389 md_X7_frame rfl hl.1 rfl (Nat.le_of_ble_eq_true rfl) dL_ends_359 ⟨Nat.le_of_ble_eq_true rfl, Nat.le_of_ble_eq_true rfl⟩ ⟨Nat.le_of_ble_eq_true rfl, Nat.le_of_ble_eq_true rfl⟩ (fun r w_359 H locs hq hP hD hS => ?_)
        obtain ⟨hPK, hr9⟩ := hq
        have hr9 : r = nI ap := hr9.trans ((frx (k := 7) (by decide)).trans (congrArg gI ha))
        rw [hr9]
        refine n_ishr hx hb dL_ends_362 (by omega) (by omega) ?_
        refine lv_iconst (v := nI 1) hx hb dL_ends_363 (by decide) ?_
        refine n_iand hx hb dL_ends_364  ?_
        refine topi (y := nI 1) (congrArg nI (bit_1.mpr hmp2)) ?_
        refine n_if_ne (a := 1) (tgt := 370) hx hb dL_ends_365 (by decide) (by decide) (fun _ => ?_) (fun h => absurd h (by decide))
        refine lv_iconst (v := nI 0) hx hb dL_ends_370 (by decide) ?_
        refine lv_istore (lv' := [(9, .int (nI 0)), (8, .float mn), (7, .int (nI wF)), (6, .int (nI sc)), (5, .int (nI ns)), (4, .int (nI dO)), (3, .int (nI dF)), (0, .ref xo), (1, .int (bI false)), (2, .int (nI 6))]) hx hb dL_ends_371 hl (by decide) rfl (fun ls hl => ?_)
        have L373 : ∀ (n : Nat) (bb : Nat) (ws0 : va_W), (bb ≤ tnb t) → (PK cI cJ cB xo ln tx t [] ws0) → (tnb t + 1 - bb) < n → ∀ (H : Heap) (locs : List Loc), va_P D vwCl (oW cI cJ cB ws0) H → va_D A (oW cI cJ cB ws0) → va_S A s.heap H locs → ∀ ls : Array Slot, lv_has ls 13 [(9, .int (nI bb)), (8, .float mn), (7, .int (nI wF)), (6, .int (nI sc)), (5, .int (nI ns)), (4, .int (nI dO)), (3, .int (nI dF)), (0, .ref xo), (1, .int (bI false)), (2, .int (nI 6))] → W p l e (rmC 8 0 0) s m args below meth c H locs 0 0 QQ (F0 m 373 ls []) := by
          intro n; induction n with
          | zero => intro bb ws0 hbb hPK hm; exact absurd hm (Nat.not_lt_zero _)
          | succ n ih373 =>
            intro bb ws0 hbb hPK hm373 H locs hP hD hS ls hl
            refine lv_iload hx hb dL_ends_373 (lv_at hl 0 rfl) ?_
            refine lv_aload_n hx hb dL_ends_375 rfl (lv_at hl 7 rfl) ?_
            refine lv_iconst (v := nI 2) hx hb dL_ends_376 (by decide) ?_
            refine callQ_i (As := [.int (nI 2)]) (rest := [.int (nI bb)]) (y_frame l D (nI 2)  hPK) hC hK hN hP hD hS rfl rfl q389 md_X7_frame rfl hl.1 rfl (Nat.le_of_ble_eq_true rfl) dL_ends_377 ⟨Nat.le_of_ble_eq_true rfl, Nat.le_of_ble_eq_true rfl⟩ ⟨Nat.le_of_ble_eq_true rfl, Nat.le_of_ble_eq_true rfl⟩ (fun r w_377 H locs hq hP hD hS => ?_)
            obtain ⟨hPK, hr9⟩ := hq
            have hr9 : r = nI (tnb t) := hr9.trans (frx (k := 2) (by decide))
            rw [hr9]
            refine n_icmp_ge (a := bb) (b := tnb t) (tgt := 439) hx hb dL_ends_380 (by decide) (by omega) (by omega) (fun c380 => ?_) (fun c380 => ?_)
            · have _ : True := trivial
              refine lv_aload_n hx hb dL_ends_439 rfl (lv_at hl 7 rfl) ?_
              refine lv_iload_n hx hb dL_ends_440 rfl (lv_at hl 8 rfl) ?_
              refine b_if_eq (z := false) (tgt := 448) hx hb dL_ends_441 (by decide) (fun _ => ?_) (fun h => absurd h (by decide))
              refine lv_iconst (v := nI 4) hx hb dL_ends_448 (by decide) ?_
              refine callQ_i (As := [.int (nI 4)]) (rest := []) (y_frame l D (nI 4)  hPK) hC hK hN hP hD hS rfl rfl q389 md_X7_frame rfl hl.1 rfl (Nat.le_of_ble_eq_true rfl) dL_ends_449 ⟨Nat.le_of_ble_eq_true rfl, Nat.le_of_ble_eq_true rfl⟩ ⟨Nat.le_of_ble_eq_true rfl, Nat.le_of_ble_eq_true rfl⟩ (fun r w_449 H locs hq hP hD hS => ?_)
              obtain ⟨hPK, hr9⟩ := hq
              have hr9 : r = tst t := hr9.trans (frx (k := 4) (by decide))
              rw [hr9]
              refine lv_istore (lv' := [(9, .int (tst t)), (8, .float mn), (7, .int (nI wF)), (6, .int (nI sc)), (5, .int (nI ns)), (4, .int (nI dO)), (3, .int (nI dF)), (0, .ref xo), (1, .int (bI false)), (2, .int (nI 6))]) hx hb dL_ends_452 hl (by decide) rfl (fun ls hl => ?_)
              refine lv_iload_n hx hb dL_ends_454 rfl (lv_at hl 6 rfl) ?_
              refine lv_istore (lv' := [(10, .int (nI dF)), (9, .int (tst t)), (8, .float mn), (7, .int (nI wF)), (6, .int (nI sc)), (5, .int (nI ns)), (4, .int (nI dO)), (3, .int (nI dF)), (0, .ref xo), (1, .int (bI false)), (2, .int (nI 6))]) hx hb dL_ends_455 hl (by decide) rfl (fun ls hl => ?_)
              have L569 : ∀ (t1 : BT) (ws1 : va_W), (ES t1 g ap ns F) → (frt t1 = frt t) → (PK cI cJ cB xo ln tx t1 [] ws1) → ∀ (H : Heap) (locs : List Loc), va_P D vwCl (oW cI cJ cB ws1) H → va_D A (oW cI cJ cB ws1) → va_S A s.heap H locs → ∀ ls : Array Slot, lv_has ls 13 [(0, .ref xo), (1, .int (bI false)), (5, .int (nI ns)), (7, .int (nI wF))] → W p l e (rmC 8 0 0) s m args below meth c H locs 0 0 QQ (F0 m 569 ls []) := by
                intro t1 ws1 hES hfr hPK H locs hP hD hS ls hl
                refine lv_aload_n hx hb dL_ends_569 rfl (lv_at hl 0 rfl) ?_
                obtain ⟨xh, hxh1, hxh2, hxh3, hxh4⟩ := hES.hard hwF
                refine lv_iload_n hx hb dL_ends_570 rfl (lv_at hl 1 rfl) ?_
                refine callQ_i (As := [.int (bI false)]) (rest := []) (y_hardest_go l D false (Nat.zero_le _) hxh1 hPK) hC hK hN hP hD hS rfl rfl q663 md_X7_hardest rfl hl.1 rfl (Nat.le_of_ble_eq_true rfl) dL_ends_571 ⟨Nat.le_of_ble_eq_true rfl, Nat.le_of_ble_eq_true rfl⟩ ⟨Nat.le_of_ble_eq_true rfl, Nat.le_of_ble_eq_true rfl⟩ (fun r w_571 H locs hq hP hD hS => ?_)
                obtain ⟨⟨ps2, hPK, hps⟩, hr9⟩ := hq
                have hES3 := hES.hd hPK.tv hxh4 hps
                have hr9 : r = nI wF := hr9.trans hxh2
                rw [hr9]
                refine lv_iload hx hb dL_ends_574 (lv_at hl 3 rfl) ?_
                refine n_icmp_ne (a := wF) (b := wF) (tgt := 641) hx hb dL_ends_576 (by decide) (by omega) (by omega) (fun h9 => absurd h9 (by omega)) (fun _ => ?_)
                refine lv_aload_n hx hb dL_ends_579 rfl (lv_at hl 0 rfl) ?_
                refine lv_iload_n hx hb dL_ends_580 rfl (lv_at hl 1 rfl) ?_
                refine callQ_i (As := [.int (bI false)]) (rest := []) (y_distance l D false  hPK) hC hK hN hP hD hS rfl rfl q640 md_X7_distance rfl hl.1 rfl (Nat.le_of_ble_eq_true rfl) dL_ends_581 ⟨Nat.le_of_ble_eq_true rfl, Nat.le_of_ble_eq_true rfl⟩ ⟨Nat.le_of_ble_eq_true rfl, Nat.le_of_ble_eq_true rfl⟩ (fun r w_581 H locs hq hP hD hS => ?_)
                obtain ⟨hPK, hr9⟩ := hq
                have hr9 : r = nI wF := hr9.trans (hES3.dist (by show F false (pkey ps2 (tnb t1)) = some wF; rw [hps]; exact hxh3))
                rw [hr9]
                refine lv_iload hx hb dL_ends_584 (lv_at hl 3 rfl) ?_
                refine n_icmp_ne (a := wF) (b := wF) (tgt := 641) hx hb dL_ends_586 (by decide) (by omega) (by omega) (fun h9 => absurd h9 (by omega)) (fun _ => ?_)
                refine lv_aload_n hx hb dL_ends_589 rfl (lv_at hl 0 rfl) ?_
                refine lv_iconst (v := nI 4) hx hb dL_ends_590 (by decide) ?_
                refine callQ_i (As := [.int (nI 4)]) (rest := []) (y_frame l D (nI 4)  hPK) hC hK hN hP hD hS rfl rfl q389 md_X7_frame rfl hl.1 rfl (Nat.le_of_ble_eq_true rfl) dL_ends_591 ⟨Nat.le_of_ble_eq_true rfl, Nat.le_of_ble_eq_true rfl⟩ ⟨Nat.le_of_ble_eq_true rfl, Nat.le_of_ble_eq_true rfl⟩ (fun r w_591 H locs hq hP hD hS => ?_)
                obtain ⟨hPK, hr9⟩ := hq
                have hr9 : r = nI 0 := hr9.trans (frx (k := 4) (by decide))
                rw [hr9]
                refine n_if_ne (a := 0) (tgt := 641) hx hb dL_ends_594 (by decide) (by decide) (fun h => absurd h (by decide)) (fun _ => ?_)
                refine lv_aload_n hx hb dL_ends_597 rfl (lv_at hl 0 rfl) ?_
                refine lv_iconst (v := nI 5) hx hb dL_ends_598 (by decide) ?_
                refine callQ_i (As := [.int (nI 5)]) (rest := []) (y_frame l D (nI 5)  hPK) hC hK hN hP hD hS rfl rfl q389 md_X7_frame rfl hl.1 rfl (Nat.le_of_ble_eq_true rfl) dL_ends_599 ⟨Nat.le_of_ble_eq_true rfl, Nat.le_of_ble_eq_true rfl⟩ ⟨Nat.le_of_ble_eq_true rfl, Nat.le_of_ble_eq_true rfl⟩ (fun r w_599 H locs hq hP hD hS => ?_)
                obtain ⟨hPK, hr9⟩ := hq
                have hr9 : r = nI 0 := hr9.trans (frx (k := 5) (by decide))
                rw [hr9]
                refine n_if_ne (a := 0) (tgt := 641) hx hb dL_ends_602 (by decide) (by decide) (fun h => absurd h (by decide)) (fun _ => ?_)
                refine lv_aload_n hx hb dL_ends_605 rfl (lv_at hl 0 rfl) ?_
                refine callQ_i (As := []) (rest := []) (y_states l D   hPK) hC hK hN hP hD hS rfl rfl q477 md_X7_states rfl hl.1 rfl (Nat.le_of_ble_eq_true rfl) dL_ends_606 ⟨Nat.le_of_ble_eq_true rfl, Nat.le_of_ble_eq_true rfl⟩ ⟨Nat.le_of_ble_eq_true rfl, Nat.le_of_ble_eq_true rfl⟩ (fun r w_606 H locs hq hP hD hS => ?_)
                obtain ⟨hPK, hr9⟩ := hq
                have hr9 : r = nI ns := hr9.trans hES3.states
                rw [hr9]
                refine lv_iload hx hb dL_ends_609 (lv_at hl 2 rfl) ?_
                refine n_icmp_ne (a := ns) (b := ns) (tgt := 641) hx hb dL_ends_611 (by decide) (by omega) (by omega) (fun h9 => absurd h9 (by omega)) (fun _ => ?_)
                refine lv_aload_n hx hb dL_ends_614 rfl (lv_at hl 0 rfl) ?_
                refine lv_iload_n hx hb dL_ends_615 rfl (lv_at hl 1 rfl) ?_
                refine b_if_ne (z := false) (tgt := 623) hx hb dL_ends_616 (by decide) (fun h => absurd h (by decide)) (fun _ => ?_)
                refine lv_iconst (v := nI 1) hx hb dL_ends_619 (by decide) ?_
                refine lv_goto (tgt := 624) hx hb dL_ends_620 (by decide) ?_
                refine callQ_i (As := [.int (nI 1)]) (rest := []) (y_worst l D true  hPK) hC hK hN hP hD hS rfl rfl q659 md_X7_worst rfl hl.1 rfl (Nat.le_of_ble_eq_true rfl) dL_ends_624 ⟨Nat.le_of_ble_eq_true rfl, Nat.le_of_ble_eq_true rfl⟩ ⟨Nat.le_of_ble_eq_true rfl, Nat.le_of_ble_eq_true rfl⟩ (fun r w_624 H locs hq hP hD hS => ?_)
                obtain ⟨hPK, hr9⟩ := hq
                have hr9 : r = nI wO := hr9.trans (hES3.worst hwO)
                rw [hr9]
                refine n_if_lt (tgt := 641) hx hb dL_ends_627 (by decide) (by omega) ?_
                refine lv_aload_n hx hb dL_ends_630 rfl (lv_at hl 0 rfl) ?_
                refine callQ_i (As := []) (rest := []) (y_undo l D   hPK) hC hK hN hP hD hS rfl rfl q528 md_X7_undo rfl hl.1 rfl (Nat.le_of_ble_eq_true rfl) dL_ends_631 ⟨Nat.le_of_ble_eq_true rfl, Nat.le_of_ble_eq_true rfl⟩ ⟨Nat.le_of_ble_eq_true rfl, Nat.le_of_ble_eq_true rfl⟩ (fun r w_631 H locs hq hP hD hS => ?_)
                obtain ⟨hPK, j9, hj9, hr9⟩ := hq
                have hr9 : r = nI j9 := hr9
                rw [hr9]
                refine n_if_lt (tgt := 641) hx hb dL_ends_634 (by decide) (by omega) ?_
                refine lv_iconst (v := nI 1) hx hb dL_ends_637 (by decide) ?_
                refine lv_goto (tgt := 642) hx hb dL_ends_638 (by decide) ?_
                rw [hQ]
                subst hAe
                exact W.zret (v := nI 1) hx hb hr rfl (fun t9 ht hW => ⟨⟨_, w_631, rfl, ⟨rfl, t1, hPK, hfr⟩, by rw [ht]; exact hP, hD⟩, hS.F ht⟩) hS.2.2 dL_ends_642
              have L457 : ∀ (n : Nat) (k1 : Nat) (t1 : BT) (ws1 : va_W), (ES t1 g ap ns F) → (F false (kyt t1) = some k1) → (frt t1 = frt t) → (PK cI cJ cB xo ln tx t1 [] ws1) → (k1 + 1) < n → ∀ (H : Heap) (locs : List Loc), va_P D vwCl (oW cI cJ cB ws1) H → va_D A (oW cI cJ cB ws1) → va_S A s.heap H locs → ∀ ls : Array Slot, lv_has ls 13 [(9, .int (tst t1)), (10, .int (nI k1)), (8, .float mn), (7, .int (nI wF)), (6, .int (nI sc)), (5, .int (nI ns)), (4, .int (nI dO)), (3, .int (nI dF)), (0, .ref xo), (1, .int (bI false)), (2, .int (nI 6))] → W p l e (rmC 8 0 0) s m args below meth c H locs 0 0 QQ (F0 m 457 ls []) := by
                intro n; induction n with
                | zero => intro k1 t1 ws1 hES hFk hfr hPK hm; exact absurd hm (Nat.not_lt_zero _)
                | succ n ih457 =>
                  intro k1 t1 ws1 hES hFk hfr hPK hm457 H locs hP hD hS ls hl
                  have hk19 : k1 < 2000 := Nat.lt_of_lt_of_le (hES.2.2.2.2.2.lt hFk) hn2
                  refine lv_iload hx hb dL_ends_457 (lv_at hl 1 rfl) ?_
                  refine n_if_le (tgt := 569) hx hb dL_ends_459 (by decide) (by omega) (fun c459 => ?_) (fun c459 => ?_)
                  · have _ : True := trivial
                    exact L569 t1 ws1 hES hfr hPK  _ _ hP hD hS _ (lv_sub hl [8, 9, 5, 3] rfl)
                  · have _ : True := trivial
                    refine lv_iload hx hb dL_ends_462 (lv_at hl 1 rfl) ?_
                    refine lv_iload_n hx hb dL_ends_464 rfl (lv_at hl 7 rfl) ?_
                    refine lv_iload_n hx hb dL_ends_465 rfl (lv_at hl 10 rfl) ?_
                    refine lv_isub hx hb dL_ends_466 ?_
                    refine lv_icmp_le (tgt := 569) hx hb dL_ends_467 (by decide) (fun c467 => ?_) (fun c467 => ?_)
                    · have _ : True := trivial
                      exact L569 t1 ws1 hES hfr hPK  _ _ hP hD hS _ (lv_sub hl [8, 9, 5, 3] rfl)
                    · have _ : True := trivial
                      obtain ⟨ek, hke⟩ : ∃ ek, k1 = ek + 1 := ⟨k1 - 1, by omega⟩
                      obtain ⟨b, q, km, hb7, hq24, hqp, hch, hfo, hfo2, hES2, hF2, hkm⟩ := hES.hint (e := ek) (by rw [← hke]; exact hFk)
                      have hpc1 := (TV_p hES.1 hb7).1
                      have hc1 := TV_c hES.1
                      have hn71 := TV_n hES.1
                      refine lv_aload_n hx hb dL_ends_470 rfl (lv_at hl 8 rfl) ?_
                      refine lv_iload_n hx hb dL_ends_471 rfl (lv_at hl 9 rfl) ?_
                      refine callQ_i (As := [.int (bI false)]) (rest := []) (y_hint l D false  hPK) hC hK hN hP hD hS rfl rfl q641 md_X7_hint rfl hl.1 rfl (Nat.le_of_ble_eq_true rfl) dL_ends_472 ⟨Nat.le_of_ble_eq_true rfl, Nat.le_of_ble_eq_true rfl⟩ ⟨Nat.le_of_ble_eq_true rfl, Nat.le_of_ble_eq_true rfl⟩ (fun r w_472 H locs hq hP hD hS => ?_)
                      obtain ⟨hPK, hr9⟩ := hq
                      have hr9 : r = nI (100 * b + q) := hr9.trans hch
                      rw [hr9]
                      refine lv_istore (lv' := [(11, .int (nI (100 * b + q))), (9, .int (tst t1)), (10, .int (nI k1)), (8, .float mn), (7, .int (nI wF)), (6, .int (nI sc)), (5, .int (nI ns)), (4, .int (nI dO)), (3, .int (nI dF)), (0, .ref xo), (1, .int (bI false)), (2, .int (nI 6))]) hx hb dL_ends_475 hl (by decide) rfl (fun ls hl => ?_)
                      refine lv_iload hx hb dL_ends_477 (lv_at hl 0 rfl) ?_
                      refine lv_bipush (v := nI 100) hx hb dL_ends_479 (by decide) ?_
                      refine n_idiv hx hb dL_ends_481 (by omega) (by omega) (by omega) ?_
                      refine topi (y := nI b) (congrArg nI (by omega)) ?_
                      refine lv_istore (lv' := [(12, .int (nI b)), (11, .int (nI (100 * b + q))), (9, .int (tst t1)), (10, .int (nI k1)), (8, .float mn), (7, .int (nI wF)), (6, .int (nI sc)), (5, .int (nI ns)), (4, .int (nI dO)), (3, .int (nI dF)), (0, .ref xo), (1, .int (bI false)), (2, .int (nI 6))]) hx hb dL_ends_482 hl (by decide) rfl (fun ls hl => ?_)
                      refine lv_aload_n hx hb dL_ends_484 rfl (lv_at hl 10 rfl) ?_
                      refine lv_iload hx hb dL_ends_485 (lv_at hl 0 rfl) ?_
                      refine lv_iconst (v := nI 0) hx hb dL_ends_487 (by decide) ?_
                      refine callQ_i (As := [.int (nI b), .int (nI 0)]) (rest := []) (y_block l D (nI b) (nI 0)  hPK) hC hK hN hP hD hS rfl rfl q421 md_X7_block rfl hl.1 rfl (Nat.le_of_ble_eq_true rfl) dL_ends_488 ⟨Nat.le_of_ble_eq_true rfl, Nat.le_of_ble_eq_true rfl⟩ ⟨Nat.le_of_ble_eq_true rfl, Nat.le_of_ble_eq_true rfl⟩ (fun r w_488 H locs hq hP hD hS => ?_)
                      obtain ⟨hPK, hr9⟩ := hq
                      have hr9 : r = nI (tps t1 b) := hr9.trans (blx (b := b) (k := 0) hb7 (TV_n hES.1) (by decide))
                      rw [hr9]
                      refine lv_iload hx hb dL_ends_491 (lv_at hl 1 rfl) ?_
                      refine lv_bipush (v := nI 100) hx hb dL_ends_493 (by decide) ?_
                      refine n_irem hx hb dL_ends_495 (by omega) (by omega) (by omega) ?_
                      refine topi (y := nI q) (congrArg nI (by omega)) ?_
                      refine n_icmp_eq (a := tps t1 b) (b := q) (tgt := 538) hx hb dL_ends_496 (by decide) (by omega) (by omega) (fun h9 => absurd h9 (by omega)) (fun _ => ?_)
                      refine lv_aload_n hx hb dL_ends_499 rfl (lv_at hl 10 rfl) ?_
                      refine lv_iload_n hx hb dL_ends_500 rfl (lv_at hl 11 rfl) ?_
                      refine callQ_i (As := [.int (bI false)]) (rest := []) (y_follow_go l D false (Nat.zero_le _) hfo hPK) hC hK hN hP hD hS rfl rfl q654 md_X7_follow rfl hl.1 rfl (Nat.le_of_ble_eq_true rfl) dL_ends_501 ⟨Nat.le_of_ble_eq_true rfl, Nat.le_of_ble_eq_true rfl⟩ ⟨Nat.le_of_ble_eq_true rfl, Nat.le_of_ble_eq_true rfl⟩ (fun r w_501 H locs hq hP hD hS => ?_)
                      obtain ⟨hPK, hr9⟩ := hq
                      have hPK := hPK.nil
                      have hr9 : r = nI ek := hr9.trans hfo2
                      rw [hr9]
                      refine lv_iload hx hb dL_ends_504 (lv_at hl 3 rfl) ?_
                      refine lv_iconst (v := nI 1) hx hb dL_ends_506 (by decide) ?_
                      refine n_isub hx hb dL_ends_507 (by omega) ?_
                      refine n_icmp_ne (a := ek) (b := k1 - 1) (tgt := 538) hx hb dL_ends_508 (by decide) (by omega) (by omega) (fun h9 => absurd h9 (by omega)) (fun _ => ?_)
                      refine lv_aload_n hx hb dL_ends_511 rfl (lv_at hl 10 rfl) ?_
                      refine lv_iload hx hb dL_ends_512 (lv_at hl 0 rfl) ?_
                      refine lv_iconst (v := nI 0) hx hb dL_ends_514 (by decide) ?_
                      refine callQ_i (As := [.int (nI b), .int (nI 0)]) (rest := []) (y_block l D (nI b) (nI 0)  hPK) hC hK hN hP hD hS rfl rfl q421 md_X7_block rfl hl.1 rfl (Nat.le_of_ble_eq_true rfl) dL_ends_515 ⟨Nat.le_of_ble_eq_true rfl, Nat.le_of_ble_eq_true rfl⟩ ⟨Nat.le_of_ble_eq_true rfl, Nat.le_of_ble_eq_true rfl⟩ (fun r w_515 H locs hq hP hD hS => ?_)
                      obtain ⟨hPK, hr9⟩ := hq
                      have hr9 : r = nI q := hr9.trans ((blx (b := b) (k := 0) hb7 (TV_n hES.1) (by decide)).trans (congrArg nI (up_eq _ _ _)))
                      rw [hr9]
                      refine lv_iload hx hb dL_ends_518 (lv_at hl 1 rfl) ?_
                      refine lv_bipush (v := nI 100) hx hb dL_ends_520 (by decide) ?_
                      refine n_irem hx hb dL_ends_522 (by omega) (by omega) (by omega) ?_
                      refine topi (y := nI q) (congrArg nI (by omega)) ?_
                      refine n_icmp_ne (a := q) (b := q) (tgt := 538) hx hb dL_ends_523 (by decide) (by omega) (by omega) (fun h9 => absurd h9 (by omega)) (fun _ => ?_)
                      refine lv_aload_n hx hb dL_ends_526 rfl (lv_at hl 10 rfl) ?_
                      refine lv_iload_n hx hb dL_ends_527 rfl (lv_at hl 11 rfl) ?_
                      refine callQ_i (As := [.int (bI false)]) (rest := []) (y_distance l D false  hPK) hC hK hN hP hD hS rfl rfl q640 md_X7_distance rfl hl.1 rfl (Nat.le_of_ble_eq_true rfl) dL_ends_528 ⟨Nat.le_of_ble_eq_true rfl, Nat.le_of_ble_eq_true rfl⟩ ⟨Nat.le_of_ble_eq_true rfl, Nat.le_of_ble_eq_true rfl⟩ (fun r w_528 H locs hq hP hD hS => ?_)
                      obtain ⟨hPK, hr9⟩ := hq
                      have hr9 : r = nI ek := hr9.trans (hES2.dist hF2)
                      rw [hr9]
                      refine lv_iload hx hb dL_ends_531 (lv_at hl 3 rfl) ?_
                      refine lv_iconst (v := nI 1) hx hb dL_ends_533 (by decide) ?_
                      refine n_isub hx hb dL_ends_534 (by omega) ?_
                      refine n_icmp_eq (a := ek) (b := k1 - 1) (tgt := 540) hx hb dL_ends_535 (by decide) (by omega) (by omega) (fun _ => ?_) (fun h9 => absurd h9 (by omega))
                      refine lv_iinc (v := tst (mvT t1 b q km false)) (lv' := [(9, .int (tst (mvT t1 b q km false))), (12, .int (nI b)), (11, .int (nI (100 * b + q))), (10, .int (nI k1)), (8, .float mn), (7, .int (nI wF)), (6, .int (nI sc)), (5, .int (nI ns)), (4, .int (nI dO)), (3, .int (nI dF)), (0, .ref xo), (1, .int (bI false)), (2, .int (nI 6))]) hx hb dL_ends_540 hl (k := 2) rfl (by rw [hkm rfl]; rfl) (by decide) rfl (fun ls hl => ?_)
                      refine lv_aload_n hx hb dL_ends_543 rfl (lv_at hl 10 rfl) ?_
                      refine lv_iload_n hx hb dL_ends_544 rfl (lv_at hl 11 rfl) ?_
                      refine b_if_eq (z := false) (tgt := 552) hx hb dL_ends_545 (by decide) (fun _ => ?_) (fun h => absurd h (by decide))
                      refine lv_iconst (v := nI 4) hx hb dL_ends_552 (by decide) ?_
                      refine callQ_i (As := [.int (nI 4)]) (rest := []) (y_frame l D (nI 4)  hPK) hC hK hN hP hD hS rfl rfl q389 md_X7_frame rfl hl.1 rfl (Nat.le_of_ble_eq_true rfl) dL_ends_553 ⟨Nat.le_of_ble_eq_true rfl, Nat.le_of_ble_eq_true rfl⟩ ⟨Nat.le_of_ble_eq_true rfl, Nat.le_of_ble_eq_true rfl⟩ (fun r w_553 H locs hq hP hD hS => ?_)
                      obtain ⟨hPK, hr9⟩ := hq
                      have hr9 : r = tst (mvT t1 b q km false) := hr9.trans (frx (k := 4) (by decide))
                      rw [hr9]
                      refine lv_iload hx hb dL_ends_556 (lv_at hl 0 rfl) ?_
                      refine lv_icmp_eq (tgt := 563) hx hb dL_ends_558 (by decide) (fun _ => ?_) (fun h9 => absurd rfl h9)
                      refine lv_iinc (v := nI ek) (lv' := [(10, .int (nI ek)), (9, .int (tst (mvT t1 b q km false))), (12, .int (nI b)), (11, .int (nI (100 * b + q))), (8, .float mn), (7, .int (nI wF)), (6, .int (nI sc)), (5, .int (nI ns)), (4, .int (nI dO)), (3, .int (nI dF)), (0, .ref xo), (1, .int (bI false)), (2, .int (nI 6))]) hx hb dL_ends_563 hl (k := 3) rfl (by rw [hke]; exact nI_dec ek) (by decide) rfl (fun ls hl => ?_)
                      refine lv_goto (tgt := 457) hx hb dL_ends_566 (by decide) ?_
                      exact ih457 ek (mvT t1 b q km false) w_553 hES2 hF2 hfr hPK (by omega) _ _ hP hD hS _ (lv_sub hl [1, 0, 4, 5, 6, 7, 8, 9, 10, 11, 12] rfl)
              exact L457 _ dF t w_449 hE hdF rfl hPK (Nat.lt_succ_self _) _ _ hP hD hS _ (lv_sub hl [1, 0, 2, 3, 4, 5, 6, 7, 8, 9, 10] rfl)
            · have _ : True := trivial
              refine lv_aload_n hx hb dL_ends_383 rfl (lv_at hl 7 rfl) ?_
              refine lv_iload hx hb dL_ends_384 (lv_at hl 0 rfl) ?_
              refine lv_iload_n hx hb dL_ends_386 rfl (lv_at hl 8 rfl) ?_
              rcases hE.without (b := bb) (by omega) hdF with ⟨hbg, hwo⟩ | ⟨hbg, hwo⟩ | ⟨hbg, ew, hew, hwo⟩
              · have _ : True := trivial
                refine callQ_i (As := [.int (nI bb), .int (bI false)]) (rest := []) (y_without l D (nI bb) false  hPK) hC hK hN hP hD hS rfl rfl q628 md_X7_without rfl hl.1 rfl (Nat.le_of_ble_eq_true rfl) dL_ends_387 ⟨Nat.le_of_ble_eq_true rfl, Nat.le_of_ble_eq_true rfl⟩ ⟨Nat.le_of_ble_eq_true rfl, Nat.le_of_ble_eq_true rfl⟩ (fun r w_387 H locs hq hP hD hS => ?_)
                obtain ⟨hPK, hr9⟩ := hq
                have hr9 : r = (-2) := hr9.trans hwo
                rw [hr9]
                refine lv_istore (lv' := [(10, .int (-2)), (9, .int (nI bb)), (8, .float mn), (7, .int (nI wF)), (6, .int (nI sc)), (5, .int (nI ns)), (4, .int (nI dO)), (3, .int (nI dF)), (0, .ref xo), (1, .int (bI false)), (2, .int (nI 6))]) hx hb dL_ends_390 hl (by decide) rfl (fun ls hl => ?_)
                refine lv_iload hx hb dL_ends_392 (lv_at hl 1 rfl) ?_
                refine lv_aload_n hx hb dL_ends_394 rfl (lv_at hl 8 rfl) ?_
                refine lv_bipush (v := nI 6) hx hb dL_ends_395 (by decide) ?_
                refine callQ_i (As := [.int (nI 6)]) (rest := [.int (nI bb)]) (y_frame l D (nI 6)  hPK) hC hK hN hP hD hS rfl rfl q389 md_X7_frame rfl hl.1 rfl (Nat.le_of_ble_eq_true rfl) dL_ends_397 ⟨Nat.le_of_ble_eq_true rfl, Nat.le_of_ble_eq_true rfl⟩ ⟨Nat.le_of_ble_eq_true rfl, Nat.le_of_ble_eq_true rfl⟩ (fun r w_397 H locs hq hP hD hS => ?_)
                obtain ⟨hPK, hr9⟩ := hq
                have hr9 : r = nI g := hr9.trans ((frx (k := 6) (by decide)).trans (congrArg gI hg))
                rw [hr9]
                refine n_icmp_ne (a := bb) (b := g) (tgt := 413) hx hb dL_ends_400 (by decide) (by omega) (by omega) (fun h9 => absurd h9 (by omega)) (fun _ => ?_)
                refine lv_iload hx hb dL_ends_403 (lv_at hl 0 rfl) ?_
                refine lv_bipush (v := (-2)) hx hb dL_ends_405 (by decide) ?_
                refine lv_icmp_eq (tgt := 433) hx hb dL_ends_407 (by decide) (fun _ => ?_) (fun h => absurd rfl h)
                refine lv_iinc (v := nI (bb + 1)) (lv' := [(9, .int (nI (bb + 1))), (10, .int (-2)), (8, .float mn), (7, .int (nI wF)), (6, .int (nI sc)), (5, .int (nI ns)), (4, .int (nI dO)), (3, .int (nI dF)), (0, .ref xo), (1, .int (bI false)), (2, .int (nI 6))]) hx hb dL_ends_433 hl (k := 1) rfl (nI_1 _) (by decide) rfl (fun ls hl => ?_)
                refine lv_goto (tgt := 373) hx hb dL_ends_436 (by decide) ?_
                exact ih373 (bb + 1) w_397 (by omega) hPK (by omega) _ _ hP hD hS _ (lv_sub hl [0, 2, 3, 4, 5, 6, 7, 8, 9, 10] rfl)
              · have _ : True := trivial
                refine callQ_i (As := [.int (nI bb), .int (bI false)]) (rest := []) (y_without l D (nI bb) false  hPK) hC hK hN hP hD hS rfl rfl q628 md_X7_without rfl hl.1 rfl (Nat.le_of_ble_eq_true rfl) dL_ends_387 ⟨Nat.le_of_ble_eq_true rfl, Nat.le_of_ble_eq_true rfl⟩ ⟨Nat.le_of_ble_eq_true rfl, Nat.le_of_ble_eq_true rfl⟩ (fun r w_387 H locs hq hP hD hS => ?_)
                obtain ⟨hPK, hr9⟩ := hq
                have hr9 : r = (-3) := hr9.trans hwo
                rw [hr9]
                refine lv_istore (lv' := [(10, .int (-3)), (9, .int (nI bb)), (8, .float mn), (7, .int (nI wF)), (6, .int (nI sc)), (5, .int (nI ns)), (4, .int (nI dO)), (3, .int (nI dF)), (0, .ref xo), (1, .int (bI false)), (2, .int (nI 6))]) hx hb dL_ends_390 hl (by decide) rfl (fun ls hl => ?_)
                refine lv_iload hx hb dL_ends_392 (lv_at hl 1 rfl) ?_
                refine lv_aload_n hx hb dL_ends_394 rfl (lv_at hl 8 rfl) ?_
                refine lv_bipush (v := nI 6) hx hb dL_ends_395 (by decide) ?_
                refine callQ_i (As := [.int (nI 6)]) (rest := [.int (nI bb)]) (y_frame l D (nI 6)  hPK) hC hK hN hP hD hS rfl rfl q389 md_X7_frame rfl hl.1 rfl (Nat.le_of_ble_eq_true rfl) dL_ends_397 ⟨Nat.le_of_ble_eq_true rfl, Nat.le_of_ble_eq_true rfl⟩ ⟨Nat.le_of_ble_eq_true rfl, Nat.le_of_ble_eq_true rfl⟩ (fun r w_397 H locs hq hP hD hS => ?_)
                obtain ⟨hPK, hr9⟩ := hq
                have hr9 : r = nI g := hr9.trans ((frx (k := 6) (by decide)).trans (congrArg gI hg))
                rw [hr9]
                refine n_icmp_ne (a := bb) (b := g) (tgt := 413) hx hb dL_ends_400 (by decide) (by omega) (by omega) (fun _ => ?_) (fun h9 => absurd h9 (by omega))
                refine lv_iload hx hb dL_ends_413 (lv_at hl 0 rfl) ?_
                refine lv_bipush (v := (-3)) hx hb dL_ends_415 (by decide) ?_
                refine lv_icmp_eq (tgt := 433) hx hb dL_ends_417 (by decide) (fun _ => ?_) (fun h => absurd rfl h)
                refine lv_iinc (v := nI (bb + 1)) (lv' := [(9, .int (nI (bb + 1))), (10, .int (-3)), (8, .float mn), (7, .int (nI wF)), (6, .int (nI sc)), (5, .int (nI ns)), (4, .int (nI dO)), (3, .int (nI dF)), (0, .ref xo), (1, .int (bI false)), (2, .int (nI 6))]) hx hb dL_ends_433 hl (k := 1) rfl (nI_1 _) (by decide) rfl (fun ls hl => ?_)
                refine lv_goto (tgt := 373) hx hb dL_ends_436 (by decide) ?_
                exact ih373 (bb + 1) w_397 (by omega) hPK (by omega) _ _ hP hD hS _ (lv_sub hl [0, 2, 3, 4, 5, 6, 7, 8, 9, 10] rfl)
              · have _ : True := trivial
                refine callQ_i (As := [.int (nI bb), .int (bI false)]) (rest := []) (y_without l D (nI bb) false  hPK) hC hK hN hP hD hS rfl rfl q628 md_X7_without rfl hl.1 rfl (Nat.le_of_ble_eq_true rfl) dL_ends_387 ⟨Nat.le_of_ble_eq_true rfl, Nat.le_of_ble_eq_true rfl⟩ ⟨Nat.le_of_ble_eq_true rfl, Nat.le_of_ble_eq_true rfl⟩ (fun r w_387 H locs hq hP hD hS => ?_)
                obtain ⟨hPK, hr9⟩ := hq
                have hr9 : r = nI ew := hr9.trans hwo
                rw [hr9]
                refine lv_istore (lv' := [(10, .int (nI ew)), (9, .int (nI bb)), (8, .float mn), (7, .int (nI wF)), (6, .int (nI sc)), (5, .int (nI ns)), (4, .int (nI dO)), (3, .int (nI dF)), (0, .ref xo), (1, .int (bI false)), (2, .int (nI 6))]) hx hb dL_ends_390 hl (by decide) rfl (fun ls hl => ?_)
                refine lv_iload hx hb dL_ends_392 (lv_at hl 1 rfl) ?_
                refine lv_aload_n hx hb dL_ends_394 rfl (lv_at hl 8 rfl) ?_
                refine lv_bipush (v := nI 6) hx hb dL_ends_395 (by decide) ?_
                refine callQ_i (As := [.int (nI 6)]) (rest := [.int (nI bb)]) (y_frame l D (nI 6)  hPK) hC hK hN hP hD hS rfl rfl q389 md_X7_frame rfl hl.1 rfl (Nat.le_of_ble_eq_true rfl) dL_ends_397 ⟨Nat.le_of_ble_eq_true rfl, Nat.le_of_ble_eq_true rfl⟩ ⟨Nat.le_of_ble_eq_true rfl, Nat.le_of_ble_eq_true rfl⟩ (fun r w_397 H locs hq hP hD hS => ?_)
                obtain ⟨hPK, hr9⟩ := hq
                have hr9 : r = nI g := hr9.trans ((frx (k := 6) (by decide)).trans (congrArg gI hg))
                rw [hr9]
                refine n_icmp_ne (a := bb) (b := g) (tgt := 413) hx hb dL_ends_400 (by decide) (by omega) (by omega) (fun _ => ?_) (fun h9 => absurd h9 (by omega))
                refine lv_iload hx hb dL_ends_413 (lv_at hl 0 rfl) ?_
                refine lv_bipush (v := (-3)) hx hb dL_ends_415 (by decide) ?_
                refine lv_icmp_eq (tgt := 433) hx hb dL_ends_417 (by decide) (fun h9 => absurd h9 (nI_m3 (by omega))) (fun _ => ?_)
                refine lv_iload hx hb dL_ends_420 (lv_at hl 0 rfl) ?_
                refine n_if_lt (tgt := 431) hx hb dL_ends_422 (by decide) (by omega) ?_
                refine lv_iload hx hb dL_ends_425 (lv_at hl 0 rfl) ?_
                refine lv_iload_n hx hb dL_ends_427 rfl (lv_at hl 7 rfl) ?_
                refine n_icmp_le (a := ew) (b := dF) (tgt := 433) hx hb dL_ends_428 (by decide) (by omega) (by omega) (fun _ => ?_) (fun h9 => absurd h9 (by omega))
                refine lv_iinc (v := nI (bb + 1)) (lv' := [(9, .int (nI (bb + 1))), (10, .int (nI ew)), (8, .float mn), (7, .int (nI wF)), (6, .int (nI sc)), (5, .int (nI ns)), (4, .int (nI dO)), (3, .int (nI dF)), (0, .ref xo), (1, .int (bI false)), (2, .int (nI 6))]) hx hb dL_ends_433 hl (k := 1) rfl (nI_1 _) (by decide) rfl (fun ls hl => ?_)
                refine lv_goto (tgt := 373) hx hb dL_ends_436 (by decide) ?_
                exact ih373 (bb + 1) w_397 (by omega) hPK (by omega) _ _ hP hD hS _ (lv_sub hl [0, 2, 3, 4, 5, 6, 7, 8, 9, 10] rfl)
        exact L373 _ 0 w_359 (by omega) hPK (Nat.lt_succ_self _) _ _ hP hD hS _ (lv_sub hl [0, 1, 2, 3, 4, 5, 6, 7, 8, 9] rfl)
      exact L346 w_321 hPK  _ _ hP hD hS _ (lv_sub hl [0, 1, 2, 3, 4, 5, 6, 7, 8] rfl)
    · have _ : True := trivial
      obtain ⟨bh, qh, kh, hbh, hqh, -, hch, -⟩ := hE.hint (e := dF - 1) (by rw [hdF]; congr 1; omega)
      refine lv_iload_n hx hb dL_ends_257 rfl (lv_at hl 5 rfl) ?_
      refine n_if_ne (tgt := 265) hx hb dL_ends_258 (by decide) (by omega) (fun _ => ?_) (fun h9 => absurd h9 (by omega))
      refine lv_iconst (v := nI 0) hx hb dL_ends_265 (by decide) ?_
      refine lv_aload_n hx hb dL_ends_266 rfl (lv_at hl 6 rfl) ?_
      refine lv_bipush (v := nI 8) hx hb dL_ends_267 (by decide) ?_
      refine callQ_i (As := [.int (nI 8)]) (rest := [.int (nI 0)]) (y_frame l D (nI 8)  hPK) hC hK hN hP hD hS rfl rfl q389 md_X7_frame rfl hl.1 rfl (Nat.le_of_ble_eq_true rfl) dL_ends_269 ⟨Nat.le_of_ble_eq_true rfl, Nat.le_of_ble_eq_true rfl⟩ ⟨Nat.le_of_ble_eq_true rfl, Nat.le_of_ble_eq_true rfl⟩ (fun r w_269 H locs hq hP hD hS => ?_)
      obtain ⟨hPK, hr9⟩ := hq
      have hr9 : r = nI 0 := hr9.trans ((frx (k := 8) (by decide)).trans ((hE.at (z := false)).trans (if_neg (by rw [hdF]; intro h9; have := Option.some.inj h9; omega))))
      rw [hr9]
      refine lv_iconst (v := nI 1) hx hb dL_ends_272 (by decide) ?_
      refine n_icmp_ne (a := 0) (b := 1) (tgt := 280) hx hb dL_ends_273 (by decide) (by decide) (by decide) (fun _ => ?_) (fun h => absurd h (by decide))
      refine lv_iconst (v := nI 0) hx hb dL_ends_280 (by decide) ?_
      refine n_icmp_ne (a := 0) (b := 0) (tgt := 368) hx hb dL_ends_281 (by decide) (by decide) (by decide) (fun h => absurd h (by decide)) (fun _ => ?_)
      refine lv_iload_n hx hb dL_ends_284 rfl (lv_at hl 7 rfl) ?_
      refine b_if_eq (z := false) (tgt := 297) hx hb dL_ends_285 (by decide) (fun _ => ?_) (fun h => absurd h (by decide))
      refine lv_iload_n hx hb dL_ends_297 rfl (lv_at hl 5 rfl) ?_
      refine lv_iload hx hb dL_ends_298 (lv_at hl 4 rfl) ?_
      refine n_icmp_lt (a := dF) (b := dO) (tgt := 368) hx hb dL_ends_300 (by decide) (by omega) (by omega) (fun h9 => absurd h9 (by omega)) (fun _ => ?_)
      refine lv_fload hx hb dL_ends_303 (lv_at hl 0 rfl) ?_
      refine lv_iload hx hb dL_ends_305 (lv_at hl 1 rfl) ?_
      refine lv_i2f hx hb dL_ends_307 ?_
      refine lv_fcmp hx hb dL_ends_308 ?_
      refine lv_if_gt (tgt := 368) hx hb dL_ends_309 (by decide) (fun h9 => absurd h9 (cmp_l hmn1)) (fun _ => ?_)
      refine lv_fload hx hb dL_ends_312 (lv_at hl 0 rfl) ?_
      refine lv_fconst0 hx hb dL_ends_314 ?_
      refine lv_fcmp hx hb dL_ends_315 ?_
      refine lv_if_lt (tgt := 368) hx hb dL_ends_316 (by decide) (fun h9 => absurd h9 (cmp_g hmn2)) (fun _ => ?_)
      refine lv_aload_n hx hb dL_ends_319 rfl (lv_at hl 6 rfl) ?_
      refine lv_iload_n hx hb dL_ends_320 rfl (lv_at hl 7 rfl) ?_
      refine callQ_i (As := [.int (bI false)]) (rest := []) (y_hint l D false  hPK) hC hK hN hP hD hS rfl rfl q641 md_X7_hint rfl hl.1 rfl (Nat.le_of_ble_eq_true rfl) dL_ends_321 ⟨Nat.le_of_ble_eq_true rfl, Nat.le_of_ble_eq_true rfl⟩ ⟨Nat.le_of_ble_eq_true rfl, Nat.le_of_ble_eq_true rfl⟩ (fun r w_321 H locs hq hP hD hS => ?_)
      obtain ⟨hPK, hr9⟩ := hq
      have hr9 : r = nI (100 * bh + qh) := hr9.trans hch
      rw [hr9]
      refine lv_bipush (v := (-9)) hx hb dL_ends_324 (by decide) ?_
      refine lv_icmp_ne (tgt := 333) hx hb dL_ends_326 (by decide) (fun _ => ?_) (fun h9 => absurd h9 (nI_m9 (by omega)))
      refine lv_iconst (v := nI 0) hx hb dL_ends_333 (by decide) ?_
      refine lv_iload_n hx hb dL_ends_334 rfl (lv_at hl 5 rfl) ?_
      refine n_if_ne (tgt := 342) hx hb dL_ends_335 (by decide) (by omega) (fun _ => ?_) (fun h9 => absurd h9 (by omega))
      refine lv_iconst (v := nI 0) hx hb dL_ends_342 (by decide) ?_
      refine n_icmp_ne (a := 0) (b := 0) (tgt := 368) hx hb dL_ends_343 (by decide) (by decide) (by decide) (fun h => absurd h (by decide)) (fun _ => ?_)
      have L346 : ∀ (ws0 : va_W), (PK cI cJ cB xo ln tx t [] ws0) → ∀ (H : Heap) (locs : List Loc), va_P D vwCl (oW cI cJ cB ws0) H → va_D A (oW cI cJ cB ws0) → va_S A s.heap H locs → ∀ ls : Array Slot, lv_has ls 13 [(8, .float mn), (7, .int (nI wF)), (6, .int (nI sc)), (5, .int (nI ns)), (4, .int (nI dO)), (3, .int (nI dF)), (0, .ref xo), (1, .int (bI false)), (2, .int (nI 6))] → W p l e (rmC 8 0 0) s m args below meth c H locs 0 0 QQ (F0 m 346 ls []) := by
        intro ws0 hPK H locs hP hD hS ls hl
        refine lv_aload_n hx hb dL_ends_346 rfl (lv_at hl 6 rfl) ?_
        refine lv_aload_n hx hb dL_ends_347 rfl (lv_at hl 6 rfl) ?_
        refine lv_bipush (v := nI 6) hx hb dL_ends_348 (by decide) ?_
        refine callQ_i (As := [.int (nI 6)]) (rest := [.ref xo]) (y_frame l D (nI 6)  hPK) hC hK hN hP hD hS rfl rfl q389 md_X7_frame rfl hl.1 rfl (Nat.le_of_ble_eq_true rfl) dL_ends_350 ⟨Nat.le_of_ble_eq_true rfl, Nat.le_of_ble_eq_true rfl⟩ ⟨Nat.le_of_ble_eq_true rfl, Nat.le_of_ble_eq_true rfl⟩ (fun r w_350 H locs hq hP hD hS => ?_)
        obtain ⟨hPK, hr9⟩ := hq
        have hr9 : r = nI g := hr9.trans ((frx (k := 6) (by decide)).trans (congrArg gI hg))
        rw [hr9]
        refine callQ_i (As := [.int (nI g)]) (rest := []) (y_places l D (nI g)  hPK) hC hK hN hP hD hS rfl rfl q620 md_X7_places rfl hl.1 rfl (Nat.le_of_ble_eq_true rfl) dL_ends_353 ⟨Nat.le_of_ble_eq_true rfl, Nat.le_of_ble_eq_true rfl⟩ ⟨Nat.le_of_ble_eq_true rfl, Nat.le_of_ble_eq_true rfl⟩ (fun r w_353 H locs hq hP hD hS => ?_)
        obtain ⟨hPK, hr9⟩ := hq
        have hr9 : r = nI mp := hr9.trans hmp
        rw [hr9]
        refine lv_aload_n hx hb dL_ends_356 rfl (lv_at hl 6 rfl) ?_
        refine lv_bipush (v := nI 7) hx hb dL_ends_357 (by decide) ?_
        refine callQ_i (As := [.int (nI 7)]) (rest := [.int (nI mp)]) (y_frame l D (nI 7)  hPK) hC hK hN hP hD hS rfl rfl q389 md_X7_frame rfl hl.1 rfl (Nat.le_of_ble_eq_true rfl) dL_ends_359 ⟨Nat.le_of_ble_eq_true rfl, Nat.le_of_ble_eq_true rfl⟩ ⟨Nat.le_of_ble_eq_true rfl, Nat.le_of_ble_eq_true rfl⟩ (fun r w_359 H locs hq hP hD hS => ?_)
        obtain ⟨hPK, hr9⟩ := hq
        have hr9 : r = nI ap := hr9.trans ((frx (k := 7) (by decide)).trans (congrArg gI ha))
        rw [hr9]
        refine n_ishr hx hb dL_ends_362 (by omega) (by omega) ?_
        refine lv_iconst (v := nI 1) hx hb dL_ends_363 (by decide) ?_
        refine n_iand hx hb dL_ends_364  ?_
        refine topi (y := nI 1) (congrArg nI (bit_1.mpr hmp2)) ?_
        refine n_if_ne (a := 1) (tgt := 370) hx hb dL_ends_365 (by decide) (by decide) (fun _ => ?_) (fun h => absurd h (by decide))
        refine lv_iconst (v := nI 0) hx hb dL_ends_370 (by decide) ?_
        refine lv_istore (lv' := [(9, .int (nI 0)), (8, .float mn), (7, .int (nI wF)), (6, .int (nI sc)), (5, .int (nI ns)), (4, .int (nI dO)), (3, .int (nI dF)), (0, .ref xo), (1, .int (bI false)), (2, .int (nI 6))]) hx hb dL_ends_371 hl (by decide) rfl (fun ls hl => ?_)
        have L373 : ∀ (n : Nat) (bb : Nat) (ws0 : va_W), (bb ≤ tnb t) → (PK cI cJ cB xo ln tx t [] ws0) → (tnb t + 1 - bb) < n → ∀ (H : Heap) (locs : List Loc), va_P D vwCl (oW cI cJ cB ws0) H → va_D A (oW cI cJ cB ws0) → va_S A s.heap H locs → ∀ ls : Array Slot, lv_has ls 13 [(9, .int (nI bb)), (8, .float mn), (7, .int (nI wF)), (6, .int (nI sc)), (5, .int (nI ns)), (4, .int (nI dO)), (3, .int (nI dF)), (0, .ref xo), (1, .int (bI false)), (2, .int (nI 6))] → W p l e (rmC 8 0 0) s m args below meth c H locs 0 0 QQ (F0 m 373 ls []) := by
          intro n; induction n with
          | zero => intro bb ws0 hbb hPK hm; exact absurd hm (Nat.not_lt_zero _)
          | succ n ih373 =>
            intro bb ws0 hbb hPK hm373 H locs hP hD hS ls hl
            refine lv_iload hx hb dL_ends_373 (lv_at hl 0 rfl) ?_
            refine lv_aload_n hx hb dL_ends_375 rfl (lv_at hl 7 rfl) ?_
            refine lv_iconst (v := nI 2) hx hb dL_ends_376 (by decide) ?_
            refine callQ_i (As := [.int (nI 2)]) (rest := [.int (nI bb)]) (y_frame l D (nI 2)  hPK) hC hK hN hP hD hS rfl rfl q389 md_X7_frame rfl hl.1 rfl (Nat.le_of_ble_eq_true rfl) dL_ends_377 ⟨Nat.le_of_ble_eq_true rfl, Nat.le_of_ble_eq_true rfl⟩ ⟨Nat.le_of_ble_eq_true rfl, Nat.le_of_ble_eq_true rfl⟩ (fun r w_377 H locs hq hP hD hS => ?_)
            obtain ⟨hPK, hr9⟩ := hq
            have hr9 : r = nI (tnb t) := hr9.trans (frx (k := 2) (by decide))
            rw [hr9]
            refine n_icmp_ge (a := bb) (b := tnb t) (tgt := 439) hx hb dL_ends_380 (by decide) (by omega) (by omega) (fun c380 => ?_) (fun c380 => ?_)
            · have _ : True := trivial
              refine lv_aload_n hx hb dL_ends_439 rfl (lv_at hl 7 rfl) ?_
              refine lv_iload_n hx hb dL_ends_440 rfl (lv_at hl 8 rfl) ?_
              refine b_if_eq (z := false) (tgt := 448) hx hb dL_ends_441 (by decide) (fun _ => ?_) (fun h => absurd h (by decide))
              refine lv_iconst (v := nI 4) hx hb dL_ends_448 (by decide) ?_
              refine callQ_i (As := [.int (nI 4)]) (rest := []) (y_frame l D (nI 4)  hPK) hC hK hN hP hD hS rfl rfl q389 md_X7_frame rfl hl.1 rfl (Nat.le_of_ble_eq_true rfl) dL_ends_449 ⟨Nat.le_of_ble_eq_true rfl, Nat.le_of_ble_eq_true rfl⟩ ⟨Nat.le_of_ble_eq_true rfl, Nat.le_of_ble_eq_true rfl⟩ (fun r w_449 H locs hq hP hD hS => ?_)
              obtain ⟨hPK, hr9⟩ := hq
              have hr9 : r = tst t := hr9.trans (frx (k := 4) (by decide))
              rw [hr9]
              refine lv_istore (lv' := [(9, .int (tst t)), (8, .float mn), (7, .int (nI wF)), (6, .int (nI sc)), (5, .int (nI ns)), (4, .int (nI dO)), (3, .int (nI dF)), (0, .ref xo), (1, .int (bI false)), (2, .int (nI 6))]) hx hb dL_ends_452 hl (by decide) rfl (fun ls hl => ?_)
              refine lv_iload_n hx hb dL_ends_454 rfl (lv_at hl 6 rfl) ?_
              refine lv_istore (lv' := [(10, .int (nI dF)), (9, .int (tst t)), (8, .float mn), (7, .int (nI wF)), (6, .int (nI sc)), (5, .int (nI ns)), (4, .int (nI dO)), (3, .int (nI dF)), (0, .ref xo), (1, .int (bI false)), (2, .int (nI 6))]) hx hb dL_ends_455 hl (by decide) rfl (fun ls hl => ?_)
              have L569 : ∀ (t1 : BT) (ws1 : va_W), (ES t1 g ap ns F) → (frt t1 = frt t) → (PK cI cJ cB xo ln tx t1 [] ws1) → ∀ (H : Heap) (locs : List Loc), va_P D vwCl (oW cI cJ cB ws1) H → va_D A (oW cI cJ cB ws1) → va_S A s.heap H locs → ∀ ls : Array Slot, lv_has ls 13 [(0, .ref xo), (1, .int (bI false)), (5, .int (nI ns)), (7, .int (nI wF))] → W p l e (rmC 8 0 0) s m args below meth c H locs 0 0 QQ (F0 m 569 ls []) := by
                intro t1 ws1 hES hfr hPK H locs hP hD hS ls hl
                refine lv_aload_n hx hb dL_ends_569 rfl (lv_at hl 0 rfl) ?_
                obtain ⟨xh, hxh1, hxh2, hxh3, hxh4⟩ := hES.hard hwF
                refine lv_iload_n hx hb dL_ends_570 rfl (lv_at hl 1 rfl) ?_
                refine callQ_i (As := [.int (bI false)]) (rest := []) (y_hardest_go l D false (Nat.zero_le _) hxh1 hPK) hC hK hN hP hD hS rfl rfl q663 md_X7_hardest rfl hl.1 rfl (Nat.le_of_ble_eq_true rfl) dL_ends_571 ⟨Nat.le_of_ble_eq_true rfl, Nat.le_of_ble_eq_true rfl⟩ ⟨Nat.le_of_ble_eq_true rfl, Nat.le_of_ble_eq_true rfl⟩ (fun r w_571 H locs hq hP hD hS => ?_)
                obtain ⟨⟨ps2, hPK, hps⟩, hr9⟩ := hq
                have hES3 := hES.hd hPK.tv hxh4 hps
                have hr9 : r = nI wF := hr9.trans hxh2
                rw [hr9]
                refine lv_iload hx hb dL_ends_574 (lv_at hl 3 rfl) ?_
                refine n_icmp_ne (a := wF) (b := wF) (tgt := 641) hx hb dL_ends_576 (by decide) (by omega) (by omega) (fun h9 => absurd h9 (by omega)) (fun _ => ?_)
                refine lv_aload_n hx hb dL_ends_579 rfl (lv_at hl 0 rfl) ?_
                refine lv_iload_n hx hb dL_ends_580 rfl (lv_at hl 1 rfl) ?_
                refine callQ_i (As := [.int (bI false)]) (rest := []) (y_distance l D false  hPK) hC hK hN hP hD hS rfl rfl q640 md_X7_distance rfl hl.1 rfl (Nat.le_of_ble_eq_true rfl) dL_ends_581 ⟨Nat.le_of_ble_eq_true rfl, Nat.le_of_ble_eq_true rfl⟩ ⟨Nat.le_of_ble_eq_true rfl, Nat.le_of_ble_eq_true rfl⟩ (fun r w_581 H locs hq hP hD hS => ?_)
                obtain ⟨hPK, hr9⟩ := hq
                have hr9 : r = nI wF := hr9.trans (hES3.dist (by show F false (pkey ps2 (tnb t1)) = some wF; rw [hps]; exact hxh3))
                rw [hr9]
                refine lv_iload hx hb dL_ends_584 (lv_at hl 3 rfl) ?_
                refine n_icmp_ne (a := wF) (b := wF) (tgt := 641) hx hb dL_ends_586 (by decide) (by omega) (by omega) (fun h9 => absurd h9 (by omega)) (fun _ => ?_)
                refine lv_aload_n hx hb dL_ends_589 rfl (lv_at hl 0 rfl) ?_
                refine lv_iconst (v := nI 4) hx hb dL_ends_590 (by decide) ?_
                refine callQ_i (As := [.int (nI 4)]) (rest := []) (y_frame l D (nI 4)  hPK) hC hK hN hP hD hS rfl rfl q389 md_X7_frame rfl hl.1 rfl (Nat.le_of_ble_eq_true rfl) dL_ends_591 ⟨Nat.le_of_ble_eq_true rfl, Nat.le_of_ble_eq_true rfl⟩ ⟨Nat.le_of_ble_eq_true rfl, Nat.le_of_ble_eq_true rfl⟩ (fun r w_591 H locs hq hP hD hS => ?_)
                obtain ⟨hPK, hr9⟩ := hq
                have hr9 : r = nI 0 := hr9.trans (frx (k := 4) (by decide))
                rw [hr9]
                refine n_if_ne (a := 0) (tgt := 641) hx hb dL_ends_594 (by decide) (by decide) (fun h => absurd h (by decide)) (fun _ => ?_)
                refine lv_aload_n hx hb dL_ends_597 rfl (lv_at hl 0 rfl) ?_
                refine lv_iconst (v := nI 5) hx hb dL_ends_598 (by decide) ?_
                refine callQ_i (As := [.int (nI 5)]) (rest := []) (y_frame l D (nI 5)  hPK) hC hK hN hP hD hS rfl rfl q389 md_X7_frame rfl hl.1 rfl (Nat.le_of_ble_eq_true rfl) dL_ends_599 ⟨Nat.le_of_ble_eq_true rfl, Nat.le_of_ble_eq_true rfl⟩ ⟨Nat.le_of_ble_eq_true rfl, Nat.le_of_ble_eq_true rfl⟩ (fun r w_599 H locs hq hP hD hS => ?_)
                obtain ⟨hPK, hr9⟩ := hq
                have hr9 : r = nI 0 := hr9.trans (frx (k := 5) (by decide))
                rw [hr9]
                refine n_if_ne (a := 0) (tgt := 641) hx hb dL_ends_602 (by decide) (by decide) (fun h => absurd h (by decide)) (fun _ => ?_)
                refine lv_aload_n hx hb dL_ends_605 rfl (lv_at hl 0 rfl) ?_
                refine callQ_i (As := []) (rest := []) (y_states l D   hPK) hC hK hN hP hD hS rfl rfl q477 md_X7_states rfl hl.1 rfl (Nat.le_of_ble_eq_true rfl) dL_ends_606 ⟨Nat.le_of_ble_eq_true rfl, Nat.le_of_ble_eq_true rfl⟩ ⟨Nat.le_of_ble_eq_true rfl, Nat.le_of_ble_eq_true rfl⟩ (fun r w_606 H locs hq hP hD hS => ?_)
                obtain ⟨hPK, hr9⟩ := hq
                have hr9 : r = nI ns := hr9.trans hES3.states
                rw [hr9]
                refine lv_iload hx hb dL_ends_609 (lv_at hl 2 rfl) ?_
                refine n_icmp_ne (a := ns) (b := ns) (tgt := 641) hx hb dL_ends_611 (by decide) (by omega) (by omega) (fun h9 => absurd h9 (by omega)) (fun _ => ?_)
                refine lv_aload_n hx hb dL_ends_614 rfl (lv_at hl 0 rfl) ?_
                refine lv_iload_n hx hb dL_ends_615 rfl (lv_at hl 1 rfl) ?_
                refine b_if_ne (z := false) (tgt := 623) hx hb dL_ends_616 (by decide) (fun h => absurd h (by decide)) (fun _ => ?_)
                refine lv_iconst (v := nI 1) hx hb dL_ends_619 (by decide) ?_
                refine lv_goto (tgt := 624) hx hb dL_ends_620 (by decide) ?_
                refine callQ_i (As := [.int (nI 1)]) (rest := []) (y_worst l D true  hPK) hC hK hN hP hD hS rfl rfl q659 md_X7_worst rfl hl.1 rfl (Nat.le_of_ble_eq_true rfl) dL_ends_624 ⟨Nat.le_of_ble_eq_true rfl, Nat.le_of_ble_eq_true rfl⟩ ⟨Nat.le_of_ble_eq_true rfl, Nat.le_of_ble_eq_true rfl⟩ (fun r w_624 H locs hq hP hD hS => ?_)
                obtain ⟨hPK, hr9⟩ := hq
                have hr9 : r = nI wO := hr9.trans (hES3.worst hwO)
                rw [hr9]
                refine n_if_lt (tgt := 641) hx hb dL_ends_627 (by decide) (by omega) ?_
                refine lv_aload_n hx hb dL_ends_630 rfl (lv_at hl 0 rfl) ?_
                refine callQ_i (As := []) (rest := []) (y_undo l D   hPK) hC hK hN hP hD hS rfl rfl q528 md_X7_undo rfl hl.1 rfl (Nat.le_of_ble_eq_true rfl) dL_ends_631 ⟨Nat.le_of_ble_eq_true rfl, Nat.le_of_ble_eq_true rfl⟩ ⟨Nat.le_of_ble_eq_true rfl, Nat.le_of_ble_eq_true rfl⟩ (fun r w_631 H locs hq hP hD hS => ?_)
                obtain ⟨hPK, j9, hj9, hr9⟩ := hq
                have hr9 : r = nI j9 := hr9
                rw [hr9]
                refine n_if_lt (tgt := 641) hx hb dL_ends_634 (by decide) (by omega) ?_
                refine lv_iconst (v := nI 1) hx hb dL_ends_637 (by decide) ?_
                refine lv_goto (tgt := 642) hx hb dL_ends_638 (by decide) ?_
                rw [hQ]
                subst hAe
                exact W.zret (v := nI 1) hx hb hr rfl (fun t9 ht hW => ⟨⟨_, w_631, rfl, ⟨rfl, t1, hPK, hfr⟩, by rw [ht]; exact hP, hD⟩, hS.F ht⟩) hS.2.2 dL_ends_642
              have L457 : ∀ (n : Nat) (k1 : Nat) (t1 : BT) (ws1 : va_W), (ES t1 g ap ns F) → (F false (kyt t1) = some k1) → (frt t1 = frt t) → (PK cI cJ cB xo ln tx t1 [] ws1) → (k1 + 1) < n → ∀ (H : Heap) (locs : List Loc), va_P D vwCl (oW cI cJ cB ws1) H → va_D A (oW cI cJ cB ws1) → va_S A s.heap H locs → ∀ ls : Array Slot, lv_has ls 13 [(9, .int (tst t1)), (10, .int (nI k1)), (8, .float mn), (7, .int (nI wF)), (6, .int (nI sc)), (5, .int (nI ns)), (4, .int (nI dO)), (3, .int (nI dF)), (0, .ref xo), (1, .int (bI false)), (2, .int (nI 6))] → W p l e (rmC 8 0 0) s m args below meth c H locs 0 0 QQ (F0 m 457 ls []) := by
                intro n; induction n with
                | zero => intro k1 t1 ws1 hES hFk hfr hPK hm; exact absurd hm (Nat.not_lt_zero _)
                | succ n ih457 =>
                  intro k1 t1 ws1 hES hFk hfr hPK hm457 H locs hP hD hS ls hl
                  have hk19 : k1 < 2000 := Nat.lt_of_lt_of_le (hES.2.2.2.2.2.lt hFk) hn2
                  refine lv_iload hx hb dL_ends_457 (lv_at hl 1 rfl) ?_
                  refine n_if_le (tgt := 569) hx hb dL_ends_459 (by decide) (by omega) (fun c459 => ?_) (fun c459 => ?_)
                  · have _ : True := trivial
                    exact L569 t1 ws1 hES hfr hPK  _ _ hP hD hS _ (lv_sub hl [8, 9, 5, 3] rfl)
                  · have _ : True := trivial
                    refine lv_iload hx hb dL_ends_462 (lv_at hl 1 rfl) ?_
                    refine lv_iload_n hx hb dL_ends_464 rfl (lv_at hl 7 rfl) ?_
                    refine lv_iload_n hx hb dL_ends_465 rfl (lv_at hl 10 rfl) ?_
                    refine lv_isub hx hb dL_ends_466 ?_
                    refine lv_icmp_le (tgt := 569) hx hb dL_ends_467 (by decide) (fun c467 => ?_) (fun c467 => ?_)
                    · have _ : True := trivial
                      exact L569 t1 ws1 hES hfr hPK  _ _ hP hD hS _ (lv_sub hl [8, 9, 5, 3] rfl)
                    · have _ : True := trivial
                      obtain ⟨ek, hke⟩ : ∃ ek, k1 = ek + 1 := ⟨k1 - 1, by omega⟩
                      obtain ⟨b, q, km, hb7, hq24, hqp, hch, hfo, hfo2, hES2, hF2, hkm⟩ := hES.hint (e := ek) (by rw [← hke]; exact hFk)
                      have hpc1 := (TV_p hES.1 hb7).1
                      have hc1 := TV_c hES.1
                      have hn71 := TV_n hES.1
                      refine lv_aload_n hx hb dL_ends_470 rfl (lv_at hl 8 rfl) ?_
                      refine lv_iload_n hx hb dL_ends_471 rfl (lv_at hl 9 rfl) ?_
                      refine callQ_i (As := [.int (bI false)]) (rest := []) (y_hint l D false  hPK) hC hK hN hP hD hS rfl rfl q641 md_X7_hint rfl hl.1 rfl (Nat.le_of_ble_eq_true rfl) dL_ends_472 ⟨Nat.le_of_ble_eq_true rfl, Nat.le_of_ble_eq_true rfl⟩ ⟨Nat.le_of_ble_eq_true rfl, Nat.le_of_ble_eq_true rfl⟩ (fun r w_472 H locs hq hP hD hS => ?_)
                      obtain ⟨hPK, hr9⟩ := hq
                      have hr9 : r = nI (100 * b + q) := hr9.trans hch
                      rw [hr9]
                      refine lv_istore (lv' := [(11, .int (nI (100 * b + q))), (9, .int (tst t1)), (10, .int (nI k1)), (8, .float mn), (7, .int (nI wF)), (6, .int (nI sc)), (5, .int (nI ns)), (4, .int (nI dO)), (3, .int (nI dF)), (0, .ref xo), (1, .int (bI false)), (2, .int (nI 6))]) hx hb dL_ends_475 hl (by decide) rfl (fun ls hl => ?_)
                      refine lv_iload hx hb dL_ends_477 (lv_at hl 0 rfl) ?_
                      refine lv_bipush (v := nI 100) hx hb dL_ends_479 (by decide) ?_
                      refine n_idiv hx hb dL_ends_481 (by omega) (by omega) (by omega) ?_
                      refine topi (y := nI b) (congrArg nI (by omega)) ?_
                      refine lv_istore (lv' := [(12, .int (nI b)), (11, .int (nI (100 * b + q))), (9, .int (tst t1)), (10, .int (nI k1)), (8, .float mn), (7, .int (nI wF)), (6, .int (nI sc)), (5, .int (nI ns)), (4, .int (nI dO)), (3, .int (nI dF)), (0, .ref xo), (1, .int (bI false)), (2, .int (nI 6))]) hx hb dL_ends_482 hl (by decide) rfl (fun ls hl => ?_)
                      refine lv_aload_n hx hb dL_ends_484 rfl (lv_at hl 10 rfl) ?_
                      refine lv_iload hx hb dL_ends_485 (lv_at hl 0 rfl) ?_
                      refine lv_iconst (v := nI 0) hx hb dL_ends_487 (by decide) ?_
                      refine callQ_i (As := [.int (nI b), .int (nI 0)]) (rest := []) (y_block l D (nI b) (nI 0)  hPK) hC hK hN hP hD hS rfl rfl q421 md_X7_block rfl hl.1 rfl (Nat.le_of_ble_eq_true rfl) dL_ends_488 ⟨Nat.le_of_ble_eq_true rfl, Nat.le_of_ble_eq_true rfl⟩ ⟨Nat.le_of_ble_eq_true rfl, Nat.le_of_ble_eq_true rfl⟩ (fun r w_488 H locs hq hP hD hS => ?_)
                      obtain ⟨hPK, hr9⟩ := hq
                      have hr9 : r = nI (tps t1 b) := hr9.trans (blx (b := b) (k := 0) hb7 (TV_n hES.1) (by decide))
                      rw [hr9]
                      refine lv_iload hx hb dL_ends_491 (lv_at hl 1 rfl) ?_
                      refine lv_bipush (v := nI 100) hx hb dL_ends_493 (by decide) ?_
                      refine n_irem hx hb dL_ends_495 (by omega) (by omega) (by omega) ?_
                      refine topi (y := nI q) (congrArg nI (by omega)) ?_
                      refine n_icmp_eq (a := tps t1 b) (b := q) (tgt := 538) hx hb dL_ends_496 (by decide) (by omega) (by omega) (fun h9 => absurd h9 (by omega)) (fun _ => ?_)
                      refine lv_aload_n hx hb dL_ends_499 rfl (lv_at hl 10 rfl) ?_
                      refine lv_iload_n hx hb dL_ends_500 rfl (lv_at hl 11 rfl) ?_
                      refine callQ_i (As := [.int (bI false)]) (rest := []) (y_follow_go l D false (Nat.zero_le _) hfo hPK) hC hK hN hP hD hS rfl rfl q654 md_X7_follow rfl hl.1 rfl (Nat.le_of_ble_eq_true rfl) dL_ends_501 ⟨Nat.le_of_ble_eq_true rfl, Nat.le_of_ble_eq_true rfl⟩ ⟨Nat.le_of_ble_eq_true rfl, Nat.le_of_ble_eq_true rfl⟩ (fun r w_501 H locs hq hP hD hS => ?_)
                      obtain ⟨hPK, hr9⟩ := hq
                      have hPK := hPK.nil
                      have hr9 : r = nI ek := hr9.trans hfo2
                      rw [hr9]
                      refine lv_iload hx hb dL_ends_504 (lv_at hl 3 rfl) ?_
                      refine lv_iconst (v := nI 1) hx hb dL_ends_506 (by decide) ?_
                      refine n_isub hx hb dL_ends_507 (by omega) ?_
                      refine n_icmp_ne (a := ek) (b := k1 - 1) (tgt := 538) hx hb dL_ends_508 (by decide) (by omega) (by omega) (fun h9 => absurd h9 (by omega)) (fun _ => ?_)
                      refine lv_aload_n hx hb dL_ends_511 rfl (lv_at hl 10 rfl) ?_
                      refine lv_iload hx hb dL_ends_512 (lv_at hl 0 rfl) ?_
                      refine lv_iconst (v := nI 0) hx hb dL_ends_514 (by decide) ?_
                      refine callQ_i (As := [.int (nI b), .int (nI 0)]) (rest := []) (y_block l D (nI b) (nI 0)  hPK) hC hK hN hP hD hS rfl rfl q421 md_X7_block rfl hl.1 rfl (Nat.le_of_ble_eq_true rfl) dL_ends_515 ⟨Nat.le_of_ble_eq_true rfl, Nat.le_of_ble_eq_true rfl⟩ ⟨Nat.le_of_ble_eq_true rfl, Nat.le_of_ble_eq_true rfl⟩ (fun r w_515 H locs hq hP hD hS => ?_)
                      obtain ⟨hPK, hr9⟩ := hq
                      have hr9 : r = nI q := hr9.trans ((blx (b := b) (k := 0) hb7 (TV_n hES.1) (by decide)).trans (congrArg nI (up_eq _ _ _)))
                      rw [hr9]
                      refine lv_iload hx hb dL_ends_518 (lv_at hl 1 rfl) ?_
                      refine lv_bipush (v := nI 100) hx hb dL_ends_520 (by decide) ?_
                      refine n_irem hx hb dL_ends_522 (by omega) (by omega) (by omega) ?_
                      refine topi (y := nI q) (congrArg nI (by omega)) ?_
                      refine n_icmp_ne (a := q) (b := q) (tgt := 538) hx hb dL_ends_523 (by decide) (by omega) (by omega) (fun h9 => absurd h9 (by omega)) (fun _ => ?_)
                      refine lv_aload_n hx hb dL_ends_526 rfl (lv_at hl 10 rfl) ?_
                      refine lv_iload_n hx hb dL_ends_527 rfl (lv_at hl 11 rfl) ?_
                      refine callQ_i (As := [.int (bI false)]) (rest := []) (y_distance l D false  hPK) hC hK hN hP hD hS rfl rfl q640 md_X7_distance rfl hl.1 rfl (Nat.le_of_ble_eq_true rfl) dL_ends_528 ⟨Nat.le_of_ble_eq_true rfl, Nat.le_of_ble_eq_true rfl⟩ ⟨Nat.le_of_ble_eq_true rfl, Nat.le_of_ble_eq_true rfl⟩ (fun r w_528 H locs hq hP hD hS => ?_)
                      obtain ⟨hPK, hr9⟩ := hq
                      have hr9 : r = nI ek := hr9.trans (hES2.dist hF2)
                      rw [hr9]
                      refine lv_iload hx hb dL_ends_531 (lv_at hl 3 rfl) ?_
                      refine lv_iconst (v := nI 1) hx hb dL_ends_533 (by decide) ?_
                      refine n_isub hx hb dL_ends_534 (by omega) ?_
                      refine n_icmp_eq (a := ek) (b := k1 - 1) (tgt := 540) hx hb dL_ends_535 (by decide) (by omega) (by omega) (fun _ => ?_) (fun h9 => absurd h9 (by omega))
                      refine lv_iinc (v := tst (mvT t1 b q km false)) (lv' := [(9, .int (tst (mvT t1 b q km false))), (12, .int (nI b)), (11, .int (nI (100 * b + q))), (10, .int (nI k1)), (8, .float mn), (7, .int (nI wF)), (6, .int (nI sc)), (5, .int (nI ns)), (4, .int (nI dO)), (3, .int (nI dF)), (0, .ref xo), (1, .int (bI false)), (2, .int (nI 6))]) hx hb dL_ends_540 hl (k := 2) rfl (by rw [hkm rfl]; rfl) (by decide) rfl (fun ls hl => ?_)
                      refine lv_aload_n hx hb dL_ends_543 rfl (lv_at hl 10 rfl) ?_
                      refine lv_iload_n hx hb dL_ends_544 rfl (lv_at hl 11 rfl) ?_
                      refine b_if_eq (z := false) (tgt := 552) hx hb dL_ends_545 (by decide) (fun _ => ?_) (fun h => absurd h (by decide))
                      refine lv_iconst (v := nI 4) hx hb dL_ends_552 (by decide) ?_
                      refine callQ_i (As := [.int (nI 4)]) (rest := []) (y_frame l D (nI 4)  hPK) hC hK hN hP hD hS rfl rfl q389 md_X7_frame rfl hl.1 rfl (Nat.le_of_ble_eq_true rfl) dL_ends_553 ⟨Nat.le_of_ble_eq_true rfl, Nat.le_of_ble_eq_true rfl⟩ ⟨Nat.le_of_ble_eq_true rfl, Nat.le_of_ble_eq_true rfl⟩ (fun r w_553 H locs hq hP hD hS => ?_)
                      obtain ⟨hPK, hr9⟩ := hq
                      have hr9 : r = tst (mvT t1 b q km false) := hr9.trans (frx (k := 4) (by decide))
                      rw [hr9]
                      refine lv_iload hx hb dL_ends_556 (lv_at hl 0 rfl) ?_
                      refine lv_icmp_eq (tgt := 563) hx hb dL_ends_558 (by decide) (fun _ => ?_) (fun h9 => absurd rfl h9)
                      refine lv_iinc (v := nI ek) (lv' := [(10, .int (nI ek)), (9, .int (tst (mvT t1 b q km false))), (12, .int (nI b)), (11, .int (nI (100 * b + q))), (8, .float mn), (7, .int (nI wF)), (6, .int (nI sc)), (5, .int (nI ns)), (4, .int (nI dO)), (3, .int (nI dF)), (0, .ref xo), (1, .int (bI false)), (2, .int (nI 6))]) hx hb dL_ends_563 hl (k := 3) rfl (by rw [hke]; exact nI_dec ek) (by decide) rfl (fun ls hl => ?_)
                      refine lv_goto (tgt := 457) hx hb dL_ends_566 (by decide) ?_
                      exact ih457 ek (mvT t1 b q km false) w_553 hES2 hF2 hfr hPK (by omega) _ _ hP hD hS _ (lv_sub hl [1, 0, 4, 5, 6, 7, 8, 9, 10, 11, 12] rfl)
              exact L457 _ dF t w_449 hE hdF rfl hPK (Nat.lt_succ_self _) _ _ hP hD hS _ (lv_sub hl [1, 0, 2, 3, 4, 5, 6, 7, 8, 9, 10] rfl)
            · have _ : True := trivial
              refine lv_aload_n hx hb dL_ends_383 rfl (lv_at hl 7 rfl) ?_
              refine lv_iload hx hb dL_ends_384 (lv_at hl 0 rfl) ?_
              refine lv_iload_n hx hb dL_ends_386 rfl (lv_at hl 8 rfl) ?_
              rcases hE.without (b := bb) (by omega) hdF with ⟨hbg, hwo⟩ | ⟨hbg, hwo⟩ | ⟨hbg, ew, hew, hwo⟩
              · have _ : True := trivial
                refine callQ_i (As := [.int (nI bb), .int (bI false)]) (rest := []) (y_without l D (nI bb) false  hPK) hC hK hN hP hD hS rfl rfl q628 md_X7_without rfl hl.1 rfl (Nat.le_of_ble_eq_true rfl) dL_ends_387 ⟨Nat.le_of_ble_eq_true rfl, Nat.le_of_ble_eq_true rfl⟩ ⟨Nat.le_of_ble_eq_true rfl, Nat.le_of_ble_eq_true rfl⟩ (fun r w_387 H locs hq hP hD hS => ?_)
                obtain ⟨hPK, hr9⟩ := hq
                have hr9 : r = (-2) := hr9.trans hwo
                rw [hr9]
                refine lv_istore (lv' := [(10, .int (-2)), (9, .int (nI bb)), (8, .float mn), (7, .int (nI wF)), (6, .int (nI sc)), (5, .int (nI ns)), (4, .int (nI dO)), (3, .int (nI dF)), (0, .ref xo), (1, .int (bI false)), (2, .int (nI 6))]) hx hb dL_ends_390 hl (by decide) rfl (fun ls hl => ?_)
                refine lv_iload hx hb dL_ends_392 (lv_at hl 1 rfl) ?_
                refine lv_aload_n hx hb dL_ends_394 rfl (lv_at hl 8 rfl) ?_
                refine lv_bipush (v := nI 6) hx hb dL_ends_395 (by decide) ?_
                refine callQ_i (As := [.int (nI 6)]) (rest := [.int (nI bb)]) (y_frame l D (nI 6)  hPK) hC hK hN hP hD hS rfl rfl q389 md_X7_frame rfl hl.1 rfl (Nat.le_of_ble_eq_true rfl) dL_ends_397 ⟨Nat.le_of_ble_eq_true rfl, Nat.le_of_ble_eq_true rfl⟩ ⟨Nat.le_of_ble_eq_true rfl, Nat.le_of_ble_eq_true rfl⟩ (fun r w_397 H locs hq hP hD hS => ?_)
                obtain ⟨hPK, hr9⟩ := hq
                have hr9 : r = nI g := hr9.trans ((frx (k := 6) (by decide)).trans (congrArg gI hg))
                rw [hr9]
                refine n_icmp_ne (a := bb) (b := g) (tgt := 413) hx hb dL_ends_400 (by decide) (by omega) (by omega) (fun h9 => absurd h9 (by omega)) (fun _ => ?_)
                refine lv_iload hx hb dL_ends_403 (lv_at hl 0 rfl) ?_
                refine lv_bipush (v := (-2)) hx hb dL_ends_405 (by decide) ?_
                refine lv_icmp_eq (tgt := 433) hx hb dL_ends_407 (by decide) (fun _ => ?_) (fun h => absurd rfl h)
                refine lv_iinc (v := nI (bb + 1)) (lv' := [(9, .int (nI (bb + 1))), (10, .int (-2)), (8, .float mn), (7, .int (nI wF)), (6, .int (nI sc)), (5, .int (nI ns)), (4, .int (nI dO)), (3, .int (nI dF)), (0, .ref xo), (1, .int (bI false)), (2, .int (nI 6))]) hx hb dL_ends_433 hl (k := 1) rfl (nI_1 _) (by decide) rfl (fun ls hl => ?_)
                refine lv_goto (tgt := 373) hx hb dL_ends_436 (by decide) ?_
                exact ih373 (bb + 1) w_397 (by omega) hPK (by omega) _ _ hP hD hS _ (lv_sub hl [0, 2, 3, 4, 5, 6, 7, 8, 9, 10] rfl)
              · have _ : True := trivial
                refine callQ_i (As := [.int (nI bb), .int (bI false)]) (rest := []) (y_without l D (nI bb) false  hPK) hC hK hN hP hD hS rfl rfl q628 md_X7_without rfl hl.1 rfl (Nat.le_of_ble_eq_true rfl) dL_ends_387 ⟨Nat.le_of_ble_eq_true rfl, Nat.le_of_ble_eq_true rfl⟩ ⟨Nat.le_of_ble_eq_true rfl, Nat.le_of_ble_eq_true rfl⟩ (fun r w_387 H locs hq hP hD hS => ?_)
                obtain ⟨hPK, hr9⟩ := hq
                have hr9 : r = (-3) := hr9.trans hwo
                rw [hr9]
                refine lv_istore (lv' := [(10, .int (-3)), (9, .int (nI bb)), (8, .float mn), (7, .int (nI wF)), (6, .int (nI sc)), (5, .int (nI ns)), (4, .int (nI dO)), (3, .int (nI dF)), (0, .ref xo), (1, .int (bI false)), (2, .int (nI 6))]) hx hb dL_ends_390 hl (by decide) rfl (fun ls hl => ?_)
                refine lv_iload hx hb dL_ends_392 (lv_at hl 1 rfl) ?_
                refine lv_aload_n hx hb dL_ends_394 rfl (lv_at hl 8 rfl) ?_
                refine lv_bipush (v := nI 6) hx hb dL_ends_395 (by decide) ?_
                refine callQ_i (As := [.int (nI 6)]) (rest := [.int (nI bb)]) (y_frame l D (nI 6)  hPK) hC hK hN hP hD hS rfl rfl q389 md_X7_frame rfl hl.1 rfl (Nat.le_of_ble_eq_true rfl) dL_ends_397 ⟨Nat.le_of_ble_eq_true rfl, Nat.le_of_ble_eq_true rfl⟩ ⟨Nat.le_of_ble_eq_true rfl, Nat.le_of_ble_eq_true rfl⟩ (fun r w_397 H locs hq hP hD hS => ?_)
                obtain ⟨hPK, hr9⟩ := hq
                have hr9 : r = nI g := hr9.trans ((frx (k := 6) (by decide)).trans (congrArg gI hg))
                rw [hr9]
                refine n_icmp_ne (a := bb) (b := g) (tgt := 413) hx hb dL_ends_400 (by decide) (by omega) (by omega) (fun _ => ?_) (fun h9 => absurd h9 (by omega))
                refine lv_iload hx hb dL_ends_413 (lv_at hl 0 rfl) ?_
                refine lv_bipush (v := (-3)) hx hb dL_ends_415 (by decide) ?_
                refine lv_icmp_eq (tgt := 433) hx hb dL_ends_417 (by decide) (fun _ => ?_) (fun h => absurd rfl h)
                refine lv_iinc (v := nI (bb + 1)) (lv' := [(9, .int (nI (bb + 1))), (10, .int (-3)), (8, .float mn), (7, .int (nI wF)), (6, .int (nI sc)), (5, .int (nI ns)), (4, .int (nI dO)), (3, .int (nI dF)), (0, .ref xo), (1, .int (bI false)), (2, .int (nI 6))]) hx hb dL_ends_433 hl (k := 1) rfl (nI_1 _) (by decide) rfl (fun ls hl => ?_)
                refine lv_goto (tgt := 373) hx hb dL_ends_436 (by decide) ?_
                exact ih373 (bb + 1) w_397 (by omega) hPK (by omega) _ _ hP hD hS _ (lv_sub hl [0, 2, 3, 4, 5, 6, 7, 8, 9, 10] rfl)
              · have _ : True := trivial
                refine callQ_i (As := [.int (nI bb), .int (bI false)]) (rest := []) (y_without l D (nI bb) false  hPK) hC hK hN hP hD hS rfl rfl q628 md_X7_without rfl hl.1 rfl (Nat.le_of_ble_eq_true rfl) dL_ends_387 ⟨Nat.le_of_ble_eq_true rfl, Nat.le_of_ble_eq_true rfl⟩ ⟨Nat.le_of_ble_eq_true rfl, Nat.le_of_ble_eq_true rfl⟩ (fun r w_387 H locs hq hP hD hS => ?_)
                obtain ⟨hPK, hr9⟩ := hq
                have hr9 : r = nI ew := hr9.trans hwo
                rw [hr9]
                refine lv_istore (lv' := [(10, .int (nI ew)), (9, .int (nI bb)), (8, .float mn), (7, .int (nI wF)), (6, .int (nI sc)), (5, .int (nI ns)), (4, .int (nI dO)), (3, .int (nI dF)), (0, .ref xo), (1, .int (bI false)), (2, .int (nI 6))]) hx hb dL_ends_390 hl (by decide) rfl (fun ls hl => ?_)
                refine lv_iload hx hb dL_ends_392 (lv_at hl 1 rfl) ?_
                refine lv_aload_n hx hb dL_ends_394 rfl (lv_at hl 8 rfl) ?_
                refine lv_bipush (v := nI 6) hx hb dL_ends_395 (by decide) ?_
                refine callQ_i (As := [.int (nI 6)]) (rest := [.int (nI bb)]) (y_frame l D (nI 6)  hPK) hC hK hN hP hD hS rfl rfl q389 md_X7_frame rfl hl.1 rfl (Nat.le_of_ble_eq_true rfl) dL_ends_397 ⟨Nat.le_of_ble_eq_true rfl, Nat.le_of_ble_eq_true rfl⟩ ⟨Nat.le_of_ble_eq_true rfl, Nat.le_of_ble_eq_true rfl⟩ (fun r w_397 H locs hq hP hD hS => ?_)
                obtain ⟨hPK, hr9⟩ := hq
                have hr9 : r = nI g := hr9.trans ((frx (k := 6) (by decide)).trans (congrArg gI hg))
                rw [hr9]
                refine n_icmp_ne (a := bb) (b := g) (tgt := 413) hx hb dL_ends_400 (by decide) (by omega) (by omega) (fun _ => ?_) (fun h9 => absurd h9 (by omega))
                refine lv_iload hx hb dL_ends_413 (lv_at hl 0 rfl) ?_
                refine lv_bipush (v := (-3)) hx hb dL_ends_415 (by decide) ?_
                refine lv_icmp_eq (tgt := 433) hx hb dL_ends_417 (by decide) (fun h9 => absurd h9 (nI_m3 (by omega))) (fun _ => ?_)
                refine lv_iload hx hb dL_ends_420 (lv_at hl 0 rfl) ?_
                refine n_if_lt (tgt := 431) hx hb dL_ends_422 (by decide) (by omega) ?_
                refine lv_iload hx hb dL_ends_425 (lv_at hl 0 rfl) ?_
                refine lv_iload_n hx hb dL_ends_427 rfl (lv_at hl 7 rfl) ?_
                refine n_icmp_le (a := ew) (b := dF) (tgt := 433) hx hb dL_ends_428 (by decide) (by omega) (by omega) (fun _ => ?_) (fun h9 => absurd h9 (by omega))
                refine lv_iinc (v := nI (bb + 1)) (lv' := [(9, .int (nI (bb + 1))), (10, .int (nI ew)), (8, .float mn), (7, .int (nI wF)), (6, .int (nI sc)), (5, .int (nI ns)), (4, .int (nI dO)), (3, .int (nI dF)), (0, .ref xo), (1, .int (bI false)), (2, .int (nI 6))]) hx hb dL_ends_433 hl (k := 1) rfl (nI_1 _) (by decide) rfl (fun ls hl => ?_)
                refine lv_goto (tgt := 373) hx hb dL_ends_436 (by decide) ?_
                exact ih373 (bb + 1) w_397 (by omega) hPK (by omega) _ _ hP hD hS _ (lv_sub hl [0, 2, 3, 4, 5, 6, 7, 8, 9, 10] rfl)
        exact L373 _ 0 w_359 (by omega) hPK (Nat.lt_succ_self _) _ _ hP hD hS _ (lv_sub hl [0, 1, 2, 3, 4, 5, 6, 7, 8, 9] rfl)
      exact L346 w_321 hPK  _ _ hP hD hS _ (lv_sub hl [0, 1, 2, 3, 4, 5, 6, 7, 8] rfl)
