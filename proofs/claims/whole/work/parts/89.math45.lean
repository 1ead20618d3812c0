/-! ===== the law's walk, case by case (written by lgen3.py) ===== -/
section LW
variable {p : Program} {l : Launch} {e : Env} {R : Room} {s : State} {m : MethodId} {args : Array Value} {below : List Frame} {meth : Method} {c : Code} {H : Heap} {locs : List Loc} {cells slots : Nat} {Q : State → Prop}
variable {cc : ByteArray} {pc : Nat} {ls : Array Slot} {rest : List Value} {A : Nat → Prop} {H0 : Heap}
theorem w_bz {x : Int32} (hx : p.tables.exec = Jvm.exec) (hb : c.code = cc) (d0 : decode cc pc = .ok (.ifCond .eq 7, 3)) (d1 : decode cc (pc + 3) = .ok (.iconst 1, 1)) (d2 : decode cc (pc + 4) = .ok (.goto 4, 3)) (d3 : decode cc (pc + 7) = .ok (.iconst 0, 1)) (k : W p l e R s m args below meth c H locs cells slots Q (F0 m (pc + 8) ls (.int (bI (decide (x ≠ 0))) :: rest))) : W p l e R s m args below meth c H locs cells slots Q (F0 m pc ls (.int x :: rest)) := by
  refine lv_if_eq (tgt := pc + 7) hx hb d0 (by omega) (fun h0 => ?_) (fun h0 => ?_)
  · refine lv_iconst (v := 0) hx hb d3 (by decide) ?_
    have e9 : bI (decide (x ≠ 0)) = 0 := by rw [h0]; decide
    rw [e9] at k
    exact k
  · refine lv_iconst (v := 1) hx hb d1 (by decide) ?_
    refine lv_goto (tgt := pc + 8) hx hb d2 (by omega) ?_
    have e9 : bI (decide (x ≠ 0)) = 1 := by
      rw [decide_eq_true h0]; rfl
    rw [e9] at k
    exact k
theorem w_arg {b L i k : Nat} {xs : Nat → Int32} {z : Int} (hx : p.tables.exec = Jvm.exec) (hb : c.code = cc) (hX : va_X b L xs s H0) (hbl : b < H0.size) (hbA : ¬ A b) (hS : va_S A H0 H locs) (h0 : ls[0]? = some (.val (.ref b))) (h3 : ls[3]? = some (.val (.int (nI (3 * i))))) (hk : 3 * i + k < L) (hL : L ≤ 1536) (hz : Int32.ofInt z = nI k) (d0 : decode cc pc = .ok (.aload_n 0, 1)) (d1 : decode cc (pc + 1) = .ok (.iload_n 3, 1)) (d2 : decode cc (pc + 2) = .ok (.iconst z, 1)) (d3 : decode cc (pc + 3) = .ok (.iadd, 1)) (d4 : decode cc (pc + 4) = .ok (.iaload, 1)) (kk : W p l e R s m args below meth c H locs cells slots Q (F0 m (pc + 5) ls (.int (xs (3 * i + k)) :: rest))) : W p l e R s m args below meth c H locs cells slots Q (F0 m pc ls rest) := by
  refine lv_aload_n hx hb d0 rfl h0 ?_
  refine lv_iload_n hx hb d1 rfl h3 ?_
  refine lv_iconst (v := nI k) hx hb d2 hz ?_
  refine lv_iadd hx hb d3 ?_
  rw [nI_add]
  refine va_sld hx hb hX hbl hbA hS (vp_in_nI hk (by omega)) d4 ?_
  rw [nI_clamp (by omega)]
  exact kk
end LW
def LCX (p : Program) (s : State) (m : MethodId) (c : Code) (args : Array Value) (D : va_G) (cI cJ cB : ClassId) (b L : Nat) (xs : Nat → Int32) (A : Nat → Prop) (H0 : Heap) (cells slots : Nat) : Prop := CallFix p m c code 8 s args lw_all RL ∧ va_K D vwCl (tyz cI cJ cB) s ∧ kN s ∧ va_X b L xs s H0 ∧ b < H0.size ∧ ¬ A b ∧ L ≤ 1536 ∧ cells + 0 ≤ room_1.cells ∧ slots + 0 ≤ room_1.slots
section LV2
variable {p : Program} {l : Launch} {e : Env} {s : State} {m : MethodId} {args : Array Value} {below : List Frame} {meth : Method} {c : Code} {H : Heap} {locs : List Loc} {cells slots : Nat} {Q : State → Prop}
variable {ls : Array Slot} {A : Nat → Prop} {H0 : Heap} {D : va_G} {cI cJ cB : ClassId} {b L i xo o : Nat} {xs : Nat → Int32} {WS : va_W}
theorem LJ.up {cI cJ cB : ClassId} {i xo o : Nat} {ws : va_W} (h : LJ cI cJ cB i xo o ws) : LJ cI cJ cB (i + 1) xo o ws := by
  obtain ⟨rd, ln, tx, t, shm, bwm, bhm, psm, s1, s2, hsz, hg, mpa, vo, h, h2, ho, ro, ys, yw, zs, wm, h0, hm, hL⟩ := h
  exact ⟨rd, ln, tx, t, shm, bwm, bhm, psm, s1, s2, hsz, hg, mpa, vo, h, h2, ho, ro, ys, yw, zs, wm, h0, hm, hL.up (Nat.le_succ i)⟩
theorem lcmp_self (x : Int64) : lg_cmp x x = 0 := by
  unfold lg_cmp
  rw [if_neg Int64.lt_irrefl, if_pos rfl]
set_option maxHeartbeats 4000000 in
set_option maxRecDepth 100000 in
theorem lc_type (hcx : LCX p s m c args D cI cJ cB b L xs A H0 cells slots) (h3 : 3 * i + 3 ≤ L) (h : LJ cI cJ cB i xo o WS) (hP : va_P D vwCl WS H) (hD : va_D A WS) (hS : va_S A H0 H locs) (hl : lv_has ls 8 [(0, .ref b), (1, .ref xo), (2, .ref o), (3, .int (nI (3 * i)))]) (kk : ∀ (w8 : va_W) (H : Heap) (locs : List Loc) (ls : Array Slot), LJE cI cJ cB (i + 1) xo o w8 → va_P D vwCl w8 H → va_D A w8 → va_S A H0 H locs → lv_has ls 8 [(0, .ref b), (1, .ref xo), (2, .ref o), (3, .int (nI (3 * i)))] → W p l e room_1 s m args below meth c H locs cells slots Q (F0 m 748 ls [])) : W p l e room_1 s m args below meth c H locs cells slots Q (F0 m 132 ls []) := by
  obtain ⟨hC, hK, hN, hX, hbl, hbA, hL, hfc, hfs⟩ := hcx
  obtain ⟨hx, hb, -, -, -⟩ := id hC
  have hi : i < 2 ^ 20 := by omega
  refine lv_aload_n hx hb dL_law_132 rfl (lv_at hl 1 rfl) ?_
  refine w_arg (k := 1) hx hb hX hbl hbA hS (lv_at hl 0 rfl) (lv_at hl 3 rfl) (by omega) hL (by decide) dL_law_133 dL_law_134 dL_law_135 dL_law_136 dL_law_137 ?_
  refine callQ_i (As := [.int (xs (3 * i + 1))]) (rest := []) (j_type l D (xs (3 * i + 1)) hi h) hC hK hN hP hD hS rfl rfl q300 md_X7_type rfl hl.1 rfl (Nat.le_of_ble_eq_true rfl) dL_law_138 ⟨Nat.le_of_ble_eq_true rfl, Nat.le_of_ble_eq_true rfl⟩ ⟨hfc, hfs⟩ (fun r w9 H locs hq hP hD hS => ?_)
  refine lv_aload_n hx hb dL_law_141 rfl (lv_at hl 2 rfl) ?_
  refine w_arg (k := 1) hx hb hX hbl hbA hS (lv_at hl 0 rfl) (lv_at hl 3 rfl) (by omega) hL (by decide) dL_law_142 dL_law_143 dL_law_144 dL_law_145 dL_law_146 ?_
  refine callQ_i (As := [.int (xs (3 * i + 1))]) (rest := [.int r]) hq hC hK hN hP hD hS rfl rfl q746 md_X8_type rfl hl.1 rfl (Nat.le_of_ble_eq_true rfl) dL_law_147 ⟨Nat.le_of_ble_eq_true rfl, Nat.le_of_ble_eq_true rfl⟩ ⟨hfc, hfs⟩ (fun r2 w8 H locs hq2 hP hD hS => ?_)
  obtain ⟨rfl, hj⟩ := hq2
  refine lv_icmp_eq (tgt := 748) hx hb dL_law_150 (by decide) (fun _ => ?_) (fun h9 => absurd rfl h9)
  exact kk w8 _ _ _ hj hP hD hS hl
set_option maxHeartbeats 4000000 in
set_option maxRecDepth 100000 in
theorem lc_clear (hcx : LCX p s m c args D cI cJ cB b L xs A H0 cells slots) (h3 : 3 * i + 3 ≤ L) (h : LJ cI cJ cB i xo o WS) (hP : va_P D vwCl WS H) (hD : va_D A WS) (hS : va_S A H0 H locs) (hl : lv_has ls 8 [(0, .ref b), (1, .ref xo), (2, .ref o), (3, .int (nI (3 * i)))]) (kk : ∀ (w8 : va_W) (H : Heap) (locs : List Loc) (ls : Array Slot), LJE cI cJ cB (i + 1) xo o w8 → va_P D vwCl w8 H → va_D A w8 → va_S A H0 H locs → lv_has ls 8 [(0, .ref b), (1, .ref xo), (2, .ref o), (3, .int (nI (3 * i)))] → W p l e room_1 s m args below meth c H locs cells slots Q (F0 m 748 ls [])) : W p l e room_1 s m args below meth c H locs cells slots Q (F0 m 155 ls []) := by
  obtain ⟨hC, hK, hN, hX, hbl, hbA, hL, hfc, hfs⟩ := hcx
  obtain ⟨hx, hb, -, -, -⟩ := id hC
  have hi : i < 2 ^ 20 := by omega
  refine lv_aload_n hx hb dL_law_155 rfl (lv_at hl 1 rfl) ?_
  refine callQ_i (As := []) (rest := []) (j_clear l D  hi h) hC hK hN hP hD hS rfl rfl q308 md_X7_clear rfl hl.1 rfl (Nat.le_of_ble_eq_true rfl) dL_law_156 ⟨Nat.le_of_ble_eq_true rfl, Nat.le_of_ble_eq_true rfl⟩ ⟨hfc, hfs⟩ (fun r w9 H locs hq hP hD hS => ?_)
  refine lv_aload_n hx hb dL_law_159 rfl (lv_at hl 2 rfl) ?_
  refine callQ_i (As := []) (rest := [.int r]) hq hC hK hN hP hD hS rfl rfl q753 md_X8_clear rfl hl.1 rfl (Nat.le_of_ble_eq_true rfl) dL_law_160 ⟨Nat.le_of_ble_eq_true rfl, Nat.le_of_ble_eq_true rfl⟩ ⟨hfc, hfs⟩ (fun r2 w8 H locs hq2 hP hD hS => ?_)
  obtain ⟨rfl, hj⟩ := hq2
  refine lv_icmp_eq (tgt := 748) hx hb dL_law_163 (by decide) (fun _ => ?_) (fun h9 => absurd rfl h9)
  exact kk w8 _ _ _ hj hP hD hS hl
set_option maxHeartbeats 4000000 in
set_option maxRecDepth 100000 in
theorem lc_read (hcx : LCX p s m c args D cI cJ cB b L xs A H0 cells slots) (h3 : 3 * i + 3 ≤ L) (h : LJ cI cJ cB i xo o WS) (hP : va_P D vwCl WS H) (hD : va_D A WS) (hS : va_S A H0 H locs) (hl : lv_has ls 8 [(0, .ref b), (1, .ref xo), (2, .ref o), (3, .int (nI (3 * i)))]) (kk : ∀ (w8 : va_W) (H : Heap) (locs : List Loc) (ls : Array Slot), LJE cI cJ cB (i + 1) xo o w8 → va_P D vwCl w8 H → va_D A w8 → va_S A H0 H locs → lv_has ls 8 [(0, .ref b), (1, .ref xo), (2, .ref o), (3, .int (nI (3 * i)))] → W p l e room_1 s m args below meth c H locs cells slots Q (F0 m 748 ls [])) : W p l e room_1 s m args below meth c H locs cells slots Q (F0 m 168 ls []) := by
  obtain ⟨hC, hK, hN, hX, hbl, hbA, hL, hfc, hfs⟩ := hcx
  obtain ⟨hx, hb, -, -, -⟩ := id hC
  have hi : i < 2 ^ 20 := by omega
  refine lv_aload_n hx hb dL_law_168 rfl (lv_at hl 1 rfl) ?_
  refine callQ_i (As := []) (rest := []) (j_read l D  hi h) hC hK hN hP hD hS rfl rfl q312 md_X7_read rfl hl.1 rfl (Nat.le_of_ble_eq_true rfl) dL_law_169 ⟨Nat.le_of_ble_eq_true rfl, Nat.le_of_ble_eq_true rfl⟩ ⟨hfc, hfs⟩ (fun r w9 H locs hq hP hD hS => ?_)
  refine lv_aload_n hx hb dL_law_172 rfl (lv_at hl 2 rfl) ?_
  refine callQ_i (As := []) (rest := [.int r]) hq hC hK hN hP hD hS rfl rfl q757 md_X8_read rfl hl.1 rfl (Nat.le_of_ble_eq_true rfl) dL_law_173 ⟨Nat.le_of_ble_eq_true rfl, Nat.le_of_ble_eq_true rfl⟩ ⟨hfc, hfs⟩ (fun r2 w8 H locs hq2 hP hD hS => ?_)
  obtain ⟨rfl, hj⟩ := hq2
  refine lv_icmp_eq (tgt := 748) hx hb dL_law_176 (by decide) (fun _ => ?_) (fun h9 => absurd rfl h9)
  exact kk w8 _ _ _ hj hP hD hS hl
set_option maxHeartbeats 4000000 in
set_option maxRecDepth 100000 in
theorem lc_frame (hcx : LCX p s m c args D cI cJ cB b L xs A H0 cells slots) (h3 : 3 * i + 3 ≤ L) (h : LJ cI cJ cB i xo o WS) (hP : va_P D vwCl WS H) (hD : va_D A WS) (hS : va_S A H0 H locs) (hl : lv_has ls 8 [(0, .ref b), (1, .ref xo), (2, .ref o), (3, .int (nI (3 * i)))]) (kk : ∀ (w8 : va_W) (H : Heap) (locs : List Loc) (ls : Array Slot), LJE cI cJ cB (i + 1) xo o w8 → va_P D vwCl w8 H → va_D A w8 → va_S A H0 H locs → lv_has ls 8 [(0, .ref b), (1, .ref xo), (2, .ref o), (3, .int (nI (3 * i)))] → W p l e room_1 s m args below meth c H locs cells slots Q (F0 m 748 ls [])) : W p l e room_1 s m args below meth c H locs cells slots Q (F0 m 181 ls []) := by
  obtain ⟨hC, hK, hN, hX, hbl, hbA, hL, hfc, hfs⟩ := hcx
  obtain ⟨hx, hb, -, -, -⟩ := id hC
  have hi : i < 2 ^ 20 := by omega
  refine lv_aload_n hx hb dL_law_181 rfl (lv_at hl 1 rfl) ?_
  refine w_arg (k := 1) hx hb hX hbl hbA hS (lv_at hl 0 rfl) (lv_at hl 3 rfl) (by omega) hL (by decide) dL_law_182 dL_law_183 dL_law_184 dL_law_185 dL_law_186 ?_
  refine callQ_i (As := [.int (xs (3 * i + 1))]) (rest := []) (j_frame l D (xs (3 * i + 1)) hi h) hC hK hN hP hD hS rfl rfl q398 md_X7_frame rfl hl.1 rfl (Nat.le_of_ble_eq_true rfl) dL_law_187 ⟨Nat.le_of_ble_eq_true rfl, Nat.le_of_ble_eq_true rfl⟩ ⟨hfc, hfs⟩ (fun r w9 H locs hq hP hD hS => ?_)
  refine lv_aload_n hx hb dL_law_190 rfl (lv_at hl 2 rfl) ?_
  refine w_arg (k := 1) hx hb hX hbl hbA hS (lv_at hl 0 rfl) (lv_at hl 3 rfl) (by omega) hL (by decide) dL_law_191 dL_law_192 dL_law_193 dL_law_194 dL_law_195 ?_
  refine callQ_i (As := [.int (xs (3 * i + 1))]) (rest := [.int r]) hq hC hK hN hP hD hS rfl rfl q788 md_X8_frame rfl hl.1 rfl (Nat.le_of_ble_eq_true rfl) dL_law_196 ⟨Nat.le_of_ble_eq_true rfl, Nat.le_of_ble_eq_true rfl⟩ ⟨hfc, hfs⟩ (fun r2 w8 H locs hq2 hP hD hS => ?_)
  obtain ⟨rfl, hj⟩ := hq2
  refine lv_icmp_eq (tgt := 748) hx hb dL_law_199 (by decide) (fun _ => ?_) (fun h9 => absurd rfl h9)
  exact kk w8 _ _ _ hj hP hD hS hl
set_option maxHeartbeats 4000000 in
set_option maxRecDepth 100000 in
theorem lc_cell (hcx : LCX p s m c args D cI cJ cB b L xs A H0 cells slots) (h3 : 3 * i + 3 ≤ L) (h : LJ cI cJ cB i xo o WS) (hP : va_P D vwCl WS H) (hD : va_D A WS) (hS : va_S A H0 H locs) (hl : lv_has ls 8 [(0, .ref b), (1, .ref xo), (2, .ref o), (3, .int (nI (3 * i)))]) (kk : ∀ (w8 : va_W) (H : Heap) (locs : List Loc) (ls : Array Slot), LJE cI cJ cB (i + 1) xo o w8 → va_P D vwCl w8 H → va_D A w8 → va_S A H0 H locs → lv_has ls 8 [(0, .ref b), (1, .ref xo), (2, .ref o), (3, .int (nI (3 * i)))] → W p l e room_1 s m args below meth c H locs cells slots Q (F0 m 748 ls [])) : W p l e room_1 s m args below meth c H locs cells slots Q (F0 m 204 ls []) := by
  obtain ⟨hC, hK, hN, hX, hbl, hbA, hL, hfc, hfs⟩ := hcx
  obtain ⟨hx, hb, -, -, -⟩ := id hC
  have hi : i < 2 ^ 20 := by omega
  refine lv_aload_n hx hb dL_law_204 rfl (lv_at hl 1 rfl) ?_
  refine w_arg (k := 1) hx hb hX hbl hbA hS (lv_at hl 0 rfl) (lv_at hl 3 rfl) (by omega) hL (by decide) dL_law_205 dL_law_206 dL_law_207 dL_law_208 dL_law_209 ?_
  refine callQ_i (As := [.int (xs (3 * i + 1))]) (rest := []) (j_cell l D (xs (3 * i + 1)) hi h) hC hK hN hP hD hS rfl rfl q421 md_X7_cell rfl hl.1 rfl (Nat.le_of_ble_eq_true rfl) dL_law_210 ⟨Nat.le_of_ble_eq_true rfl, Nat.le_of_ble_eq_true rfl⟩ ⟨hfc, hfs⟩ (fun r w9 H locs hq hP hD hS => ?_)
  refine lv_aload_n hx hb dL_law_213 rfl (lv_at hl 2 rfl) ?_
  refine w_arg (k := 1) hx hb hX hbl hbA hS (lv_at hl 0 rfl) (lv_at hl 3 rfl) (by omega) hL (by decide) dL_law_214 dL_law_215 dL_law_216 dL_law_217 dL_law_218 ?_
  refine callQ_i (As := [.int (xs (3 * i + 1))]) (rest := [.int r]) hq hC hK hN hP hD hS rfl rfl q823 md_X8_cell rfl hl.1 rfl (Nat.le_of_ble_eq_true rfl) dL_law_219 ⟨Nat.le_of_ble_eq_true rfl, Nat.le_of_ble_eq_true rfl⟩ ⟨hfc, hfs⟩ (fun r2 w8 H locs hq2 hP hD hS => ?_)
  obtain ⟨rfl, hj⟩ := hq2
  refine lv_icmp_eq (tgt := 748) hx hb dL_law_222 (by decide) (fun _ => ?_) (fun h9 => absurd rfl h9)
  exact kk w8 _ _ _ hj hP hD hS hl
set_option maxHeartbeats 4000000 in
set_option maxRecDepth 100000 in
theorem lc_block (hcx : LCX p s m c args D cI cJ cB b L xs A H0 cells slots) (h3 : 3 * i + 3 ≤ L) (h : LJ cI cJ cB i xo o WS) (hP : va_P D vwCl WS H) (hD : va_D A WS) (hS : va_S A H0 H locs) (hl : lv_has ls 8 [(0, .ref b), (1, .ref xo), (2, .ref o), (3, .int (nI (3 * i)))]) (kk : ∀ (w8 : va_W) (H : Heap) (locs : List Loc) (ls : Array Slot), LJE cI cJ cB (i + 1) xo o w8 → va_P D vwCl w8 H → va_D A w8 → va_S A H0 H locs → lv_has ls 8 [(0, .ref b), (1, .ref xo), (2, .ref o), (3, .int (nI (3 * i)))] → W p l e room_1 s m args below meth c H locs cells slots Q (F0 m 748 ls [])) : W p l e room_1 s m args below meth c H locs cells slots Q (F0 m 227 ls []) := by
  obtain ⟨hC, hK, hN, hX, hbl, hbA, hL, hfc, hfs⟩ := hcx
  obtain ⟨hx, hb, -, -, -⟩ := id hC
  have hi : i < 2 ^ 20 := by omega
  refine lv_aload_n hx hb dL_law_227 rfl (lv_at hl 1 rfl) ?_
  refine w_arg (k := 1) hx hb hX hbl hbA hS (lv_at hl 0 rfl) (lv_at hl 3 rfl) (by omega) hL (by decide) dL_law_228 dL_law_229 dL_law_230 dL_law_231 dL_law_232 ?_
  refine w_arg (k := 2) hx hb hX hbl hbA hS (lv_at hl 0 rfl) (lv_at hl 3 rfl) (by omega) hL (by decide) dL_law_233 dL_law_234 dL_law_235 dL_law_236 dL_law_237 ?_
  refine callQ_i (As := [.int (xs (3 * i + 1)), .int (xs (3 * i + 2))]) (rest := []) (j_block l D (xs (3 * i + 1)) (xs (3 * i + 2)) hi h) hC hK hN hP hD hS rfl rfl q430 md_X7_block rfl hl.1 rfl (Nat.le_of_ble_eq_true rfl) dL_law_238 ⟨Nat.le_of_ble_eq_true rfl, Nat.le_of_ble_eq_true rfl⟩ ⟨hfc, hfs⟩ (fun r w9 H locs hq hP hD hS => ?_)
  refine lv_aload_n hx hb dL_law_241 rfl (lv_at hl 2 rfl) ?_
  refine w_arg (k := 1) hx hb hX hbl hbA hS (lv_at hl 0 rfl) (lv_at hl 3 rfl) (by omega) hL (by decide) dL_law_242 dL_law_243 dL_law_244 dL_law_245 dL_law_246 ?_
  refine w_arg (k := 2) hx hb hX hbl hbA hS (lv_at hl 0 rfl) (lv_at hl 3 rfl) (by omega) hL (by decide) dL_law_247 dL_law_248 dL_law_249 dL_law_250 dL_law_251 ?_
  refine callQ_i (As := [.int (xs (3 * i + 1)), .int (xs (3 * i + 2))]) (rest := [.int r]) hq hC hK hN hP hD hS rfl rfl q831 md_X8_block rfl hl.1 rfl (Nat.le_of_ble_eq_true rfl) dL_law_252 ⟨Nat.le_of_ble_eq_true rfl, Nat.le_of_ble_eq_true rfl⟩ ⟨hfc, hfs⟩ (fun r2 w8 H locs hq2 hP hD hS => ?_)
  obtain ⟨rfl, hj⟩ := hq2
  refine lv_icmp_eq (tgt := 748) hx hb dL_law_255 (by decide) (fun _ => ?_) (fun h9 => absurd rfl h9)
  exact kk w8 _ _ _ hj hP hD hS hl
set_option maxHeartbeats 4000000 in
set_option maxRecDepth 100000 in
theorem lc_step (hcx : LCX p s m c args D cI cJ cB b L xs A H0 cells slots) (h3 : 3 * i + 3 ≤ L) (h : LJ cI cJ cB i xo o WS) (hP : va_P D vwCl WS H) (hD : va_D A WS) (hS : va_S A H0 H locs) (hl : lv_has ls 8 [(0, .ref b), (1, .ref xo), (2, .ref o), (3, .int (nI (3 * i)))]) (kk : ∀ (w8 : va_W) (H : Heap) (locs : List Loc) (ls : Array Slot), LJE cI cJ cB (i + 1) xo o w8 → va_P D vwCl w8 H → va_D A w8 → va_S A H0 H locs → lv_has ls 8 [(0, .ref b), (1, .ref xo), (2, .ref o), (3, .int (nI (3 * i)))] → W p l e room_1 s m args below meth c H locs cells slots Q (F0 m 748 ls [])) : W p l e room_1 s m args below meth c H locs cells slots Q (F0 m 260 ls []) := by
  obtain ⟨hC, hK, hN, hX, hbl, hbA, hL, hfc, hfs⟩ := hcx
  obtain ⟨hx, hb, -, -, -⟩ := id hC
  have hi : i < 2 ^ 20 := by omega
  refine lv_aload_n hx hb dL_law_260 rfl (lv_at hl 1 rfl) ?_
  refine w_arg (k := 1) hx hb hX hbl hbA hS (lv_at hl 0 rfl) (lv_at hl 3 rfl) (by omega) hL (by decide) dL_law_261 dL_law_262 dL_law_263 dL_law_264 dL_law_265 ?_
  refine w_arg (k := 2) hx hb hX hbl hbA hS (lv_at hl 0 rfl) (lv_at hl 3 rfl) (by omega) hL (by decide) dL_law_266 dL_law_267 dL_law_268 dL_law_269 dL_law_270 ?_
  refine callQ_i (As := [.int (xs (3 * i + 1)), .int (xs (3 * i + 2))]) (rest := []) (j_step l D (xs (3 * i + 1)) (xs (3 * i + 2)) hi h) hC hK hN hP hD hS rfl rfl q468 md_X7_step rfl hl.1 rfl (Nat.le_of_ble_eq_true rfl) dL_law_271 ⟨Nat.le_of_ble_eq_true rfl, Nat.le_of_ble_eq_true rfl⟩ ⟨hfc, hfs⟩ (fun r w9 H locs hq hP hD hS => ?_)
  refine lv_aload_n hx hb dL_law_274 rfl (lv_at hl 2 rfl) ?_
  refine w_arg (k := 1) hx hb hX hbl hbA hS (lv_at hl 0 rfl) (lv_at hl 3 rfl) (by omega) hL (by decide) dL_law_275 dL_law_276 dL_law_277 dL_law_278 dL_law_279 ?_
  refine w_arg (k := 2) hx hb hX hbl hbA hS (lv_at hl 0 rfl) (lv_at hl 3 rfl) (by omega) hL (by decide) dL_law_280 dL_law_281 dL_law_282 dL_law_283 dL_law_284 ?_
  refine callQ_i (As := [.int (xs (3 * i + 1)), .int (xs (3 * i + 2))]) (rest := [.int r]) hq hC hK hN hP hD hS rfl rfl q851 md_X8_step rfl hl.1 rfl (Nat.le_of_ble_eq_true rfl) dL_law_285 ⟨Nat.le_of_ble_eq_true rfl, Nat.le_of_ble_eq_true rfl⟩ ⟨hfc, hfs⟩ (fun r2 w8 H locs hq2 hP hD hS => ?_)
  obtain ⟨rfl, hj⟩ := hq2
  refine lv_icmp_eq (tgt := 748) hx hb dL_law_288 (by decide) (fun _ => ?_) (fun h9 => absurd rfl h9)
  exact kk w8 _ _ _ hj hP hD hS hl
set_option maxHeartbeats 4000000 in
set_option maxRecDepth 100000 in
theorem lc_slide (hcx : LCX p s m c args D cI cJ cB b L xs A H0 cells slots) (h3 : 3 * i + 3 ≤ L) (h : LJ cI cJ cB i xo o WS) (hP : va_P D vwCl WS H) (hD : va_D A WS) (hS : va_S A H0 H locs) (hl : lv_has ls 8 [(0, .ref b), (1, .ref xo), (2, .ref o), (3, .int (nI (3 * i)))]) (kk : ∀ (w8 : va_W) (H : Heap) (locs : List Loc) (ls : Array Slot), LJE cI cJ cB (i + 1) xo o w8 → va_P D vwCl w8 H → va_D A w8 → va_S A H0 H locs → lv_has ls 8 [(0, .ref b), (1, .ref xo), (2, .ref o), (3, .int (nI (3 * i)))] → W p l e room_1 s m args below meth c H locs cells slots Q (F0 m 748 ls [])) : W p l e room_1 s m args below meth c H locs cells slots Q (F0 m 293 ls []) := by
  obtain ⟨hC, hK, hN, hX, hbl, hbA, hL, hfc, hfs⟩ := hcx
  obtain ⟨hx, hb, -, -, -⟩ := id hC
  have hi : i < 2 ^ 20 := by omega
  refine lv_aload_n hx hb dL_law_293 rfl (lv_at hl 1 rfl) ?_
  refine w_arg (k := 1) hx hb hX hbl hbA hS (lv_at hl 0 rfl) (lv_at hl 3 rfl) (by omega) hL (by decide) dL_law_294 dL_law_295 dL_law_296 dL_law_297 dL_law_298 ?_
  refine w_arg (k := 2) hx hb hX hbl hbA hS (lv_at hl 0 rfl) (lv_at hl 3 rfl) (by omega) hL (by decide) dL_law_299 dL_law_300 dL_law_301 dL_law_302 dL_law_303 ?_
  refine callQ_i (As := [.int (xs (3 * i + 1)), .int (xs (3 * i + 2))]) (rest := []) (j_slide l D (xs (3 * i + 1)) (xs (3 * i + 2)) hi h) hC hK hN hP hD hS rfl rfl q477 md_X7_slide rfl hl.1 rfl (Nat.le_of_ble_eq_true rfl) dL_law_304 ⟨Nat.le_of_ble_eq_true rfl, Nat.le_of_ble_eq_true rfl⟩ ⟨hfc, hfs⟩ (fun r w9 H locs hq hP hD hS => ?_)
  refine lv_aload_n hx hb dL_law_307 rfl (lv_at hl 2 rfl) ?_
  refine w_arg (k := 1) hx hb hX hbl hbA hS (lv_at hl 0 rfl) (lv_at hl 3 rfl) (by omega) hL (by decide) dL_law_308 dL_law_309 dL_law_310 dL_law_311 dL_law_312 ?_
  refine w_arg (k := 2) hx hb hX hbl hbA hS (lv_at hl 0 rfl) (lv_at hl 3 rfl) (by omega) hL (by decide) dL_law_313 dL_law_314 dL_law_315 dL_law_316 dL_law_317 ?_
  refine callQ_i (As := [.int (xs (3 * i + 1)), .int (xs (3 * i + 2))]) (rest := [.int r]) hq hC hK hN hP hD hS rfl rfl q859 md_X8_slide rfl hl.1 rfl (Nat.le_of_ble_eq_true rfl) dL_law_318 ⟨Nat.le_of_ble_eq_true rfl, Nat.le_of_ble_eq_true rfl⟩ ⟨hfc, hfs⟩ (fun r2 w8 H locs hq2 hP hD hS => ?_)
  obtain ⟨rfl, hj⟩ := hq2
  refine lv_icmp_eq (tgt := 748) hx hb dL_law_321 (by decide) (fun _ => ?_) (fun h9 => absurd rfl h9)
  exact kk w8 _ _ _ hj hP hD hS hl
set_option maxHeartbeats 4000000 in
set_option maxRecDepth 100000 in
theorem lc_goal (hcx : LCX p s m c args D cI cJ cB b L xs A H0 cells slots) (h3 : 3 * i + 3 ≤ L) (h : LJ cI cJ cB i xo o WS) (hP : va_P D vwCl WS H) (hD : va_D A WS) (hS : va_S A H0 H locs) (hl : lv_has ls 8 [(0, .ref b), (1, .ref xo), (2, .ref o), (3, .int (nI (3 * i)))]) (kk : ∀ (w8 : va_W) (H : Heap) (locs : List Loc) (ls : Array Slot), LJE cI cJ cB (i + 1) xo o w8 → va_P D vwCl w8 H → va_D A w8 → va_S A H0 H locs → lv_has ls 8 [(0, .ref b), (1, .ref xo), (2, .ref o), (3, .int (nI (3 * i)))] → W p l e room_1 s m args below meth c H locs cells slots Q (F0 m 748 ls [])) : W p l e room_1 s m args below meth c H locs cells slots Q (F0 m 326 ls []) := by
  obtain ⟨hC, hK, hN, hX, hbl, hbA, hL, hfc, hfs⟩ := hcx
  obtain ⟨hx, hb, -, -, -⟩ := id hC
  have hi : i < 2 ^ 20 := by omega
  refine lv_aload_n hx hb dL_law_326 rfl (lv_at hl 1 rfl) ?_
  refine w_arg (k := 1) hx hb hX hbl hbA hS (lv_at hl 0 rfl) (lv_at hl 3 rfl) (by omega) hL (by decide) dL_law_327 dL_law_328 dL_law_329 dL_law_330 dL_law_331 ?_
  refine w_arg (k := 2) hx hb hX hbl hbA hS (lv_at hl 0 rfl) (lv_at hl 3 rfl) (by omega) hL (by decide) dL_law_332 dL_law_333 dL_law_334 dL_law_335 dL_law_336 ?_
  refine callQ_i (As := [.int (xs (3 * i + 1)), .int (xs (3 * i + 2))]) (rest := []) (j_goal l D (xs (3 * i + 1)) (xs (3 * i + 2)) hi h) hC hK hN hP hD hS rfl rfl q481 md_X7_goal rfl hl.1 rfl (Nat.le_of_ble_eq_true rfl) dL_law_337 ⟨Nat.le_of_ble_eq_true rfl, Nat.le_of_ble_eq_true rfl⟩ ⟨hfc, hfs⟩ (fun r w9 H locs hq hP hD hS => ?_)
  refine lv_aload_n hx hb dL_law_340 rfl (lv_at hl 2 rfl) ?_
  refine w_arg (k := 1) hx hb hX hbl hbA hS (lv_at hl 0 rfl) (lv_at hl 3 rfl) (by omega) hL (by decide) dL_law_341 dL_law_342 dL_law_343 dL_law_344 dL_law_345 ?_
  refine w_arg (k := 2) hx hb hX hbl hbA hS (lv_at hl 0 rfl) (lv_at hl 3 rfl) (by omega) hL (by decide) dL_law_346 dL_law_347 dL_law_348 dL_law_349 dL_law_350 ?_
  refine callQ_i (As := [.int (xs (3 * i + 1)), .int (xs (3 * i + 2))]) (rest := [.int r]) hq hC hK hN hP hD hS rfl rfl q863 md_X8_goal rfl hl.1 rfl (Nat.le_of_ble_eq_true rfl) dL_law_351 ⟨Nat.le_of_ble_eq_true rfl, Nat.le_of_ble_eq_true rfl⟩ ⟨hfc, hfs⟩ (fun r2 w8 H locs hq2 hP hD hS => ?_)
  obtain ⟨rfl, hj⟩ := hq2
  refine lv_icmp_eq (tgt := 748) hx hb dL_law_354 (by decide) (fun _ => ?_) (fun h9 => absurd rfl h9)
  exact kk w8 _ _ _ hj hP hD hS hl
set_option maxHeartbeats 4000000 in
set_option maxRecDepth 100000 in
theorem lc_states (hcx : LCX p s m c args D cI cJ cB b L xs A H0 cells slots) (h3 : 3 * i + 3 ≤ L) (h : LJ cI cJ cB i xo o WS) (hP : va_P D vwCl WS H) (hD : va_D A WS) (hS : va_S A H0 H locs) (hl : lv_has ls 8 [(0, .ref b), (1, .ref xo), (2, .ref o), (3, .int (nI (3 * i)))]) (kk : ∀ (w8 : va_W) (H : Heap) (locs : List Loc) (ls : Array Slot), LJE cI cJ cB (i + 1) xo o w8 → va_P D vwCl w8 H → va_D A w8 → va_S A H0 H locs → lv_has ls 8 [(0, .ref b), (1, .ref xo), (2, .ref o), (3, .int (nI (3 * i)))] → W p l e room_1 s m args below meth c H locs cells slots Q (F0 m 748 ls [])) : W p l e room_1 s m args below meth c H locs cells slots Q (F0 m 359 ls []) := by
  obtain ⟨hC, hK, hN, hX, hbl, hbA, hL, hfc, hfs⟩ := hcx
  obtain ⟨hx, hb, -, -, -⟩ := id hC
  have hi : i < 2 ^ 20 := by omega
  refine lv_aload_n hx hb dL_law_359 rfl (lv_at hl 1 rfl) ?_
  refine callQ_i (As := []) (rest := []) (j_states l D  hi h) hC hK hN hP hD hS rfl rfl q490 md_X7_states rfl hl.1 rfl (Nat.le_of_ble_eq_true rfl) dL_law_360 ⟨Nat.le_of_ble_eq_true rfl, Nat.le_of_ble_eq_true rfl⟩ ⟨hfc, hfs⟩ (fun r w9 H locs hq hP hD hS => ?_)
  refine lv_aload_n hx hb dL_law_363 rfl (lv_at hl 2 rfl) ?_
  refine callQ_i (As := []) (rest := [.int r]) hq hC hK hN hP hD hS rfl rfl q871 md_X8_states rfl hl.1 rfl (Nat.le_of_ble_eq_true rfl) dL_law_364 ⟨Nat.le_of_ble_eq_true rfl, Nat.le_of_ble_eq_true rfl⟩ ⟨hfc, hfs⟩ (fun r2 w8 H locs hq2 hP hD hS => ?_)
  obtain ⟨rfl, hj⟩ := hq2
  refine lv_icmp_eq (tgt := 748) hx hb dL_law_367 (by decide) (fun _ => ?_) (fun h9 => absurd rfl h9)
  exact kk w8 _ _ _ hj hP hD hS hl
set_option maxHeartbeats 4000000 in
set_option maxRecDepth 100000 in
theorem lc_solved (hcx : LCX p s m c args D cI cJ cB b L xs A H0 cells slots) (h3 : 3 * i + 3 ≤ L) (h : LJ cI cJ cB i xo o WS) (hP : va_P D vwCl WS H) (hD : va_D A WS) (hS : va_S A H0 H locs) (hl : lv_has ls 8 [(0, .ref b), (1, .ref xo), (2, .ref o), (3, .int (nI (3 * i)))]) (kk : ∀ (w8 : va_W) (H : Heap) (locs : List Loc) (ls : Array Slot), LJE cI cJ cB (i + 1) xo o w8 → va_P D vwCl w8 H → va_D A w8 → va_S A H0 H locs → lv_has ls 8 [(0, .ref b), (1, .ref xo), (2, .ref o), (3, .int (nI (3 * i)))] → W p l e room_1 s m args below meth c H locs cells slots Q (F0 m 748 ls [])) : W p l e room_1 s m args below meth c H locs cells slots Q (F0 m 372 ls []) := by
  obtain ⟨hC, hK, hN, hX, hbl, hbA, hL, hfc, hfs⟩ := hcx
  obtain ⟨hx, hb, -, -, -⟩ := id hC
  have hi : i < 2 ^ 20 := by omega
  refine lv_aload_n hx hb dL_law_372 rfl (lv_at hl 1 rfl) ?_
  refine callQ_i (As := []) (rest := []) (j_solved l D  hi h) hC hK hN hP hD hS rfl rfl q541 md_X7_solved rfl hl.1 rfl (Nat.le_of_ble_eq_true rfl) dL_law_373 ⟨Nat.le_of_ble_eq_true rfl, Nat.le_of_ble_eq_true rfl⟩ ⟨hfc, hfs⟩ (fun r w9 H locs hq hP hD hS => ?_)
  refine lv_aload_n hx hb dL_law_376 rfl (lv_at hl 2 rfl) ?_
  refine callQ_i (As := []) (rest := [.int r]) hq hC hK hN hP hD hS rfl rfl q892 md_X8_solved rfl hl.1 rfl (Nat.le_of_ble_eq_true rfl) dL_law_377 ⟨Nat.le_of_ble_eq_true rfl, Nat.le_of_ble_eq_true rfl⟩ ⟨hfc, hfs⟩ (fun r2 w8 H locs hq2 hP hD hS => ?_)
  obtain ⟨rfl, hj⟩ := hq2
  refine lv_icmp_eq (tgt := 748) hx hb dL_law_380 (by decide) (fun _ => ?_) (fun h9 => absurd rfl h9)
  exact kk w8 _ _ _ hj hP hD hS hl
set_option maxHeartbeats 4000000 in
set_option maxRecDepth 100000 in
theorem lc_distance (hcx : LCX p s m c args D cI cJ cB b L xs A H0 cells slots) (h3 : 3 * i + 3 ≤ L) (h : LJ cI cJ cB i xo o WS) (hP : va_P D vwCl WS H) (hD : va_D A WS) (hS : va_S A H0 H locs) (hl : lv_has ls 8 [(0, .ref b), (1, .ref xo), (2, .ref o), (3, .int (nI (3 * i)))]) (kk : ∀ (w8 : va_W) (H : Heap) (locs : List Loc) (ls : Array Slot), LJE cI cJ cB (i + 1) xo o w8 → va_P D vwCl w8 H → va_D A w8 → va_S A H0 H locs → lv_has ls 8 [(0, .ref b), (1, .ref xo), (2, .ref o), (3, .int (nI (3 * i)))] → W p l e room_1 s m args below meth c H locs cells slots Q (F0 m 748 ls [])) : W p l e room_1 s m args below meth c H locs cells slots Q (F0 m 385 ls []) := by
  obtain ⟨hC, hK, hN, hX, hbl, hbA, hL, hfc, hfs⟩ := hcx
  obtain ⟨hx, hb, -, -, -⟩ := id hC
  have hi : i < 2 ^ 20 := by omega
  refine lv_aload_n hx hb dL_law_385 rfl (lv_at hl 1 rfl) ?_
  refine w_arg (k := 1) hx hb hX hbl hbA hS (lv_at hl 0 rfl) (lv_at hl 3 rfl) (by omega) hL (by decide) dL_law_386 dL_law_387 dL_law_388 dL_law_389 dL_law_390 ?_
  refine w_bz hx hb dL_law_391 dL_law_394 dL_law_395 dL_law_398 ?_
  refine callQ_i (As := [.int (bI (decide ((xs (3 * i + 1)) ≠ 0)))]) (rest := []) (j_distance l D (decide (xs (3 * i + 1) ≠ 0)) hi h) hC hK hN hP hD hS rfl rfl q549 md_X7_distance rfl hl.1 rfl (Nat.le_of_ble_eq_true rfl) dL_law_399 ⟨Nat.le_of_ble_eq_true rfl, Nat.le_of_ble_eq_true rfl⟩ ⟨hfc, hfs⟩ (fun r w9 H locs hq hP hD hS => ?_)
  refine lv_aload_n hx hb dL_law_402 rfl (lv_at hl 2 rfl) ?_
  refine w_arg (k := 1) hx hb hX hbl hbA hS (lv_at hl 0 rfl) (lv_at hl 3 rfl) (by omega) hL (by decide) dL_law_403 dL_law_404 dL_law_405 dL_law_406 dL_law_407 ?_
  refine w_bz hx hb dL_law_408 dL_law_411 dL_law_412 dL_law_415 ?_
  refine callQ_i (As := [.int (bI (decide ((xs (3 * i + 1)) ≠ 0)))]) (rest := [.int r]) hq hC hK hN hP hD hS rfl rfl q896 md_X8_distance rfl hl.1 rfl (Nat.le_of_ble_eq_true rfl) dL_law_416 ⟨Nat.le_of_ble_eq_true rfl, Nat.le_of_ble_eq_true rfl⟩ ⟨hfc, hfs⟩ (fun r2 w8 H locs hq2 hP hD hS => ?_)
  obtain ⟨rfl, hj⟩ := hq2
  refine lv_icmp_eq (tgt := 748) hx hb dL_law_419 (by decide) (fun _ => ?_) (fun h9 => absurd rfl h9)
  exact kk w8 _ _ _ hj hP hD hS hl
set_option maxHeartbeats 4000000 in
set_option maxRecDepth 100000 in
theorem lc_hint (hcx : LCX p s m c args D cI cJ cB b L xs A H0 cells slots) (h3 : 3 * i + 3 ≤ L) (h : LJ cI cJ cB i xo o WS) (hP : va_P D vwCl WS H) (hD : va_D A WS) (hS : va_S A H0 H locs) (hl : lv_has ls 8 [(0, .ref b), (1, .ref xo), (2, .ref o), (3, .int (nI (3 * i)))]) (kk : ∀ (w8 : va_W) (H : Heap) (locs : List Loc) (ls : Array Slot), LJE cI cJ cB (i + 1) xo o w8 → va_P D vwCl w8 H → va_D A w8 → va_S A H0 H locs → lv_has ls 8 [(0, .ref b), (1, .ref xo), (2, .ref o), (3, .int (nI (3 * i)))] → W p l e room_1 s m args below meth c H locs cells slots Q (F0 m 748 ls [])) : W p l e room_1 s m args below meth c H locs cells slots Q (F0 m 424 ls []) := by
  obtain ⟨hC, hK, hN, hX, hbl, hbA, hL, hfc, hfs⟩ := hcx
  obtain ⟨hx, hb, -, -, -⟩ := id hC
  have hi : i < 2 ^ 20 := by omega
  refine lv_aload_n hx hb dL_law_424 rfl (lv_at hl 1 rfl) ?_
  refine w_arg (k := 1) hx hb hX hbl hbA hS (lv_at hl 0 rfl) (lv_at hl 3 rfl) (by omega) hL (by decide) dL_law_425 dL_law_426 dL_law_427 dL_law_428 dL_law_429 ?_
  refine w_bz hx hb dL_law_430 dL_law_433 dL_law_434 dL_law_437 ?_
  refine callQ_i (As := [.int (bI (decide ((xs (3 * i + 1)) ≠ 0)))]) (rest := []) (j_hint l D (decide (xs (3 * i + 1) ≠ 0)) hi h) hC hK hN hP hD hS rfl rfl q600 md_X7_hint rfl hl.1 rfl (Nat.le_of_ble_eq_true rfl) dL_law_438 ⟨Nat.le_of_ble_eq_true rfl, Nat.le_of_ble_eq_true rfl⟩ ⟨hfc, hfs⟩ (fun r w9 H locs hq hP hD hS => ?_)
  refine lv_aload_n hx hb dL_law_441 rfl (lv_at hl 2 rfl) ?_
  refine w_arg (k := 1) hx hb hX hbl hbA hS (lv_at hl 0 rfl) (lv_at hl 3 rfl) (by omega) hL (by decide) dL_law_442 dL_law_443 dL_law_444 dL_law_445 dL_law_446 ?_
  refine w_bz hx hb dL_law_447 dL_law_450 dL_law_451 dL_law_454 ?_
  refine callQ_i (As := [.int (bI (decide ((xs (3 * i + 1)) ≠ 0)))]) (rest := [.int r]) hq hC hK hN hP hD hS rfl rfl q920 md_X8_hint rfl hl.1 rfl (Nat.le_of_ble_eq_true rfl) dL_law_455 ⟨Nat.le_of_ble_eq_true rfl, Nat.le_of_ble_eq_true rfl⟩ ⟨hfc, hfs⟩ (fun r2 w8 H locs hq2 hP hD hS => ?_)
  obtain ⟨rfl, hj⟩ := hq2
  refine lv_icmp_eq (tgt := 748) hx hb dL_law_458 (by decide) (fun _ => ?_) (fun h9 => absurd rfl h9)
  exact kk w8 _ _ _ hj hP hD hS hl
set_option maxHeartbeats 4000000 in
set_option maxRecDepth 100000 in
theorem lc_follow (hcx : LCX p s m c args D cI cJ cB b L xs A H0 cells slots) (h3 : 3 * i + 3 ≤ L) (h : LJ cI cJ cB i xo o WS) (hP : va_P D vwCl WS H) (hD : va_D A WS) (hS : va_S A H0 H locs) (hl : lv_has ls 8 [(0, .ref b), (1, .ref xo), (2, .ref o), (3, .int (nI (3 * i)))]) (kk : ∀ (w8 : va_W) (H : Heap) (locs : List Loc) (ls : Array Slot), LJE cI cJ cB (i + 1) xo o w8 → va_P D vwCl w8 H → va_D A w8 → va_S A H0 H locs → lv_has ls 8 [(0, .ref b), (1, .ref xo), (2, .ref o), (3, .int (nI (3 * i)))] → W p l e room_1 s m args below meth c H locs cells slots Q (F0 m 748 ls [])) : W p l e room_1 s m args below meth c H locs cells slots Q (F0 m 463 ls []) := by
  obtain ⟨hC, hK, hN, hX, hbl, hbA, hL, hfc, hfs⟩ := hcx
  obtain ⟨hx, hb, -, -, -⟩ := id hC
  have hi : i < 2 ^ 20 := by omega
  refine lv_aload_n hx hb dL_law_463 rfl (lv_at hl 1 rfl) ?_
  refine w_arg (k := 1) hx hb hX hbl hbA hS (lv_at hl 0 rfl) (lv_at hl 3 rfl) (by omega) hL (by decide) dL_law_464 dL_law_465 dL_law_466 dL_law_467 dL_law_468 ?_
  refine w_bz hx hb dL_law_469 dL_law_472 dL_law_473 dL_law_476 ?_
  refine callQ_i (As := [.int (bI (decide ((xs (3 * i + 1)) ≠ 0)))]) (rest := []) (j_follow l D (decide (xs (3 * i + 1) ≠ 0)) hi h) hC hK hN hP hD hS rfl rfl q613 md_X7_follow rfl hl.1 rfl (Nat.le_of_ble_eq_true rfl) dL_law_477 ⟨Nat.le_of_ble_eq_true rfl, Nat.le_of_ble_eq_true rfl⟩ ⟨hfc, hfs⟩ (fun r w9 H locs hq hP hD hS => ?_)
  refine lv_aload_n hx hb dL_law_480 rfl (lv_at hl 2 rfl) ?_
  refine w_arg (k := 1) hx hb hX hbl hbA hS (lv_at hl 0 rfl) (lv_at hl 3 rfl) (by omega) hL (by decide) dL_law_481 dL_law_482 dL_law_483 dL_law_484 dL_law_485 ?_
  refine w_bz hx hb dL_law_486 dL_law_489 dL_law_490 dL_law_493 ?_
  refine callQ_i (As := [.int (bI (decide ((xs (3 * i + 1)) ≠ 0)))]) (rest := [.int r]) hq hC hK hN hP hD hS rfl rfl q928 md_X8_follow rfl hl.1 rfl (Nat.le_of_ble_eq_true rfl) dL_law_494 ⟨Nat.le_of_ble_eq_true rfl, Nat.le_of_ble_eq_true rfl⟩ ⟨hfc, hfs⟩ (fun r2 w8 H locs hq2 hP hD hS => ?_)
  obtain ⟨rfl, hj⟩ := hq2
  refine lv_icmp_eq (tgt := 748) hx hb dL_law_497 (by decide) (fun _ => ?_) (fun h9 => absurd rfl h9)
  exact kk w8 _ _ _ hj hP hD hS hl
set_option maxHeartbeats 4000000 in
set_option maxRecDepth 100000 in
theorem lc_worst (hcx : LCX p s m c args D cI cJ cB b L xs A H0 cells slots) (h3 : 3 * i + 3 ≤ L) (h : LJ cI cJ cB i xo o WS) (hP : va_P D vwCl WS H) (hD : va_D A WS) (hS : va_S A H0 H locs) (hl : lv_has ls 8 [(0, .ref b), (1, .ref xo), (2, .ref o), (3, .int (nI (3 * i)))]) (kk : ∀ (w8 : va_W) (H : Heap) (locs : List Loc) (ls : Array Slot), LJE cI cJ cB (i + 1) xo o w8 → va_P D vwCl w8 H → va_D A w8 → va_S A H0 H locs → lv_has ls 8 [(0, .ref b), (1, .ref xo), (2, .ref o), (3, .int (nI (3 * i)))] → W p l e room_1 s m args below meth c H locs cells slots Q (F0 m 748 ls [])) : W p l e room_1 s m args below meth c H locs cells slots Q (F0 m 502 ls []) := by
  obtain ⟨hC, hK, hN, hX, hbl, hbA, hL, hfc, hfs⟩ := hcx
  obtain ⟨hx, hb, -, -, -⟩ := id hC
  have hi : i < 2 ^ 20 := by omega
  refine lv_aload_n hx hb dL_law_502 rfl (lv_at hl 1 rfl) ?_
  refine w_arg (k := 1) hx hb hX hbl hbA hS (lv_at hl 0 rfl) (lv_at hl 3 rfl) (by omega) hL (by decide) dL_law_503 dL_law_504 dL_law_505 dL_law_506 dL_law_507 ?_
  refine w_bz hx hb dL_law_508 dL_law_511 dL_law_512 dL_law_515 ?_
  refine callQ_i (As := [.int (bI (decide ((xs (3 * i + 1)) ≠ 0)))]) (rest := []) (j_worst l D (decide (xs (3 * i + 1) ≠ 0)) hi h) hC hK hN hP hD hS rfl rfl q619 md_X7_worst rfl hl.1 rfl (Nat.le_of_ble_eq_true rfl) dL_law_516 ⟨Nat.le_of_ble_eq_true rfl, Nat.le_of_ble_eq_true rfl⟩ ⟨hfc, hfs⟩ (fun r w9 H locs hq hP hD hS => ?_)
  refine lv_aload_n hx hb dL_law_519 rfl (lv_at hl 2 rfl) ?_
  refine w_arg (k := 1) hx hb hX hbl hbA hS (lv_at hl 0 rfl) (lv_at hl 3 rfl) (by omega) hL (by decide) dL_law_520 dL_law_521 dL_law_522 dL_law_523 dL_law_524 ?_
  refine w_bz hx hb dL_law_525 dL_law_528 dL_law_529 dL_law_532 ?_
  refine callQ_i (As := [.int (bI (decide ((xs (3 * i + 1)) ≠ 0)))]) (rest := [.int r]) hq hC hK hN hP hD hS rfl rfl q932 md_X8_worst rfl hl.1 rfl (Nat.le_of_ble_eq_true rfl) dL_law_533 ⟨Nat.le_of_ble_eq_true rfl, Nat.le_of_ble_eq_true rfl⟩ ⟨hfc, hfs⟩ (fun r2 w8 H locs hq2 hP hD hS => ?_)
  obtain ⟨rfl, hj⟩ := hq2
  refine lv_icmp_eq (tgt := 748) hx hb dL_law_536 (by decide) (fun _ => ?_) (fun h9 => absurd rfl h9)
  exact kk w8 _ _ _ hj hP hD hS hl
set_option maxHeartbeats 4000000 in
set_option maxRecDepth 100000 in
theorem lc_hardest (hcx : LCX p s m c args D cI cJ cB b L xs A H0 cells slots) (h3 : 3 * i + 3 ≤ L) (h : LJ cI cJ cB i xo o WS) (hP : va_P D vwCl WS H) (hD : va_D A WS) (hS : va_S A H0 H locs) (hl : lv_has ls 8 [(0, .ref b), (1, .ref xo), (2, .ref o), (3, .int (nI (3 * i)))]) (kk : ∀ (w8 : va_W) (H : Heap) (locs : List Loc) (ls : Array Slot), LJE cI cJ cB (i + 1) xo o w8 → va_P D vwCl w8 H → va_D A w8 → va_S A H0 H locs → lv_has ls 8 [(0, .ref b), (1, .ref xo), (2, .ref o), (3, .int (nI (3 * i)))] → W p l e room_1 s m args below meth c H locs cells slots Q (F0 m 748 ls [])) : W p l e room_1 s m args below meth c H locs cells slots Q (F0 m 541 ls []) := by
  obtain ⟨hC, hK, hN, hX, hbl, hbA, hL, hfc, hfs⟩ := hcx
  obtain ⟨hx, hb, -, -, -⟩ := id hC
  have hi : i < 2 ^ 20 := by omega
  refine lv_aload_n hx hb dL_law_541 rfl (lv_at hl 1 rfl) ?_
  refine w_arg (k := 1) hx hb hX hbl hbA hS (lv_at hl 0 rfl) (lv_at hl 3 rfl) (by omega) hL (by decide) dL_law_542 dL_law_543 dL_law_544 dL_law_545 dL_law_546 ?_
  refine w_bz hx hb dL_law_547 dL_law_550 dL_law_551 dL_law_554 ?_
  refine callQ_i (As := [.int (bI (decide ((xs (3 * i + 1)) ≠ 0)))]) (rest := []) (j_hardest l D (decide (xs (3 * i + 1) ≠ 0)) hi h) hC hK hN hP hD hS rfl rfl q623 md_X7_hardest rfl hl.1 rfl (Nat.le_of_ble_eq_true rfl) dL_law_555 ⟨Nat.le_of_ble_eq_true rfl, Nat.le_of_ble_eq_true rfl⟩ ⟨hfc, hfs⟩ (fun r w9 H locs hq hP hD hS => ?_)
  refine lv_aload_n hx hb dL_law_558 rfl (lv_at hl 2 rfl) ?_
  refine w_arg (k := 1) hx hb hX hbl hbA hS (lv_at hl 0 rfl) (lv_at hl 3 rfl) (by omega) hL (by decide) dL_law_559 dL_law_560 dL_law_561 dL_law_562 dL_law_563 ?_
  refine w_bz hx hb dL_law_564 dL_law_567 dL_law_568 dL_law_571 ?_
  refine callQ_i (As := [.int (bI (decide ((xs (3 * i + 1)) ≠ 0)))]) (rest := [.int r]) hq hC hK hN hP hD hS rfl rfl q940 md_X8_hardest rfl hl.1 rfl (Nat.le_of_ble_eq_true rfl) dL_law_572 ⟨Nat.le_of_ble_eq_true rfl, Nat.le_of_ble_eq_true rfl⟩ ⟨hfc, hfs⟩ (fun r2 w8 H locs hq2 hP hD hS => ?_)
  obtain ⟨rfl, hj⟩ := hq2
  refine lv_icmp_eq (tgt := 748) hx hb dL_law_575 (by decide) (fun _ => ?_) (fun h9 => absurd rfl h9)
  exact kk w8 _ _ _ hj hP hD hS hl
set_option maxHeartbeats 4000000 in
set_option maxRecDepth 100000 in
theorem lc_mean (hcx : LCX p s m c args D cI cJ cB b L xs A H0 cells slots) (h3 : 3 * i + 3 ≤ L) (h : LJ cI cJ cB i xo o WS) (hP : va_P D vwCl WS H) (hD : va_D A WS) (hS : va_S A H0 H locs) (hl : lv_has ls 8 [(0, .ref b), (1, .ref xo), (2, .ref o), (3, .int (nI (3 * i)))]) (kk : ∀ (w8 : va_W) (H : Heap) (locs : List Loc) (ls : Array Slot), LJE cI cJ cB (i + 1) xo o w8 → va_P D vwCl w8 H → va_D A w8 → va_S A H0 H locs → lv_has ls 8 [(0, .ref b), (1, .ref xo), (2, .ref o), (3, .int (nI (3 * i)))] → W p l e room_1 s m args below meth c H locs cells slots Q (F0 m 748 ls [])) : W p l e room_1 s m args below meth c H locs cells slots Q (F0 m 580 ls []) := by
  obtain ⟨hC, hK, hN, hX, hbl, hbA, hL, hfc, hfs⟩ := hcx
  obtain ⟨hx, hb, -, -, -⟩ := id hC
  have hi : i < 2 ^ 20 := by omega
  refine lv_aload_n hx hb dL_law_580 rfl (lv_at hl 1 rfl) ?_
  refine w_arg (k := 1) hx hb hX hbl hbA hS (lv_at hl 0 rfl) (lv_at hl 3 rfl) (by omega) hL (by decide) dL_law_581 dL_law_582 dL_law_583 dL_law_584 dL_law_585 ?_
  refine w_bz hx hb dL_law_586 dL_law_589 dL_law_590 dL_law_593 ?_
  refine callQ_f (As := [.int (bI (decide ((xs (3 * i + 1)) ≠ 0)))]) (rest := []) (j_mean l D (decide (xs (3 * i + 1) ≠ 0)) hi h) hC hK hN hP hD hS rfl rfl q638 md_X7_mean rfl hl.1 rfl (Nat.le_of_ble_eq_true rfl) dL_law_594 ⟨Nat.le_of_ble_eq_true rfl, Nat.le_of_ble_eq_true rfl⟩ ⟨hfc, hfs⟩ (fun r w9 H locs hq hP hD hS => ?_)
  obtain ⟨hn9, hq⟩ := hq
  refine lv_f2d hx hb dL_law_597 (fl_f2d_n hn9) ?_
  refine lv_dstore (lv' := [(4, .double (FP.f2d r)), (0, .ref b), (1, .ref xo), (2, .ref o), (3, .int (nI (3 * i)))]) hx hb dL_law_598 hl (by decide) rfl (fun ls hl => ?_)
  refine lv_aload_n hx hb dL_law_600 rfl (lv_at hl 3 rfl) ?_
  refine w_arg (k := 1) hx hb hX hbl hbA hS (lv_at hl 1 rfl) (lv_at hl 4 rfl) (by omega) hL (by decide) dL_law_601 dL_law_602 dL_law_603 dL_law_604 dL_law_605 ?_
  refine w_bz hx hb dL_law_606 dL_law_609 dL_law_610 dL_law_613 ?_
  refine callQ_f (As := [.int (bI (decide ((xs (3 * i + 1)) ≠ 0)))]) (rest := []) hq hC hK hN hP hD hS rfl rfl q944 md_X8_mean rfl hl.1 rfl (Nat.le_of_ble_eq_true rfl) dL_law_614 ⟨Nat.le_of_ble_eq_true rfl, Nat.le_of_ble_eq_true rfl⟩ ⟨hfc, hfs⟩ (fun r2 w8 H locs hq2 hP hD hS => ?_)
  obtain ⟨rfl, hj⟩ := hq2
  refine lv_f2d hx hb dL_law_617 (fl_f2d_n hn9) ?_
  refine lv_dstore (lv' := [(6, .double (FP.f2d r2)), (4, .double (FP.f2d r2)), (0, .ref b), (1, .ref xo), (2, .ref o), (3, .int (nI (3 * i)))]) hx hb dL_law_618 hl (by decide) rfl (fun ls hl => ?_)
  refine lv_dload hx hb dL_law_620 (lv_at hl 1 rfl) ?_
  refine lv_dload hx hb dL_law_622 (lv_at hl 0 rfl) ?_
  refine lv_dcmp hx hb dL_law_624 ?_
  rw [fl_dcmp hn9]
  refine lv_if_eq (tgt := 646) hx hb dL_law_625 (by decide) (fun _ => ?_) (fun h9 => absurd rfl h9)
  refine lv_goto (tgt := 748) hx hb dL_law_646 (by decide) ?_
  exact kk w8 _ _ _ hj hP hD hS (lv_sub hl [2, 3, 4, 5] rfl)
set_option maxHeartbeats 4000000 in
set_option maxRecDepth 100000 in
theorem lc_places (hcx : LCX p s m c args D cI cJ cB b L xs A H0 cells slots) (h3 : 3 * i + 3 ≤ L) (h : LJ cI cJ cB i xo o WS) (hP : va_P D vwCl WS H) (hD : va_D A WS) (hS : va_S A H0 H locs) (hl : lv_has ls 8 [(0, .ref b), (1, .ref xo), (2, .ref o), (3, .int (nI (3 * i)))]) (kk : ∀ (w8 : va_W) (H : Heap) (locs : List Loc) (ls : Array Slot), LJE cI cJ cB (i + 1) xo o w8 → va_P D vwCl w8 H → va_D A w8 → va_S A H0 H locs → lv_has ls 8 [(0, .ref b), (1, .ref xo), (2, .ref o), (3, .int (nI (3 * i)))] → W p l e room_1 s m args below meth c H locs cells slots Q (F0 m 748 ls [])) : W p l e room_1 s m args below meth c H locs cells slots Q (F0 m 649 ls []) := by
  obtain ⟨hC, hK, hN, hX, hbl, hbA, hL, hfc, hfs⟩ := hcx
  obtain ⟨hx, hb, -, -, -⟩ := id hC
  have hi : i < 2 ^ 20 := by omega
  refine lv_aload_n hx hb dL_law_649 rfl (lv_at hl 1 rfl) ?_
  refine w_arg (k := 1) hx hb hX hbl hbA hS (lv_at hl 0 rfl) (lv_at hl 3 rfl) (by omega) hL (by decide) dL_law_650 dL_law_651 dL_law_652 dL_law_653 dL_law_654 ?_
  refine callQ_i (As := [.int (xs (3 * i + 1))]) (rest := []) (j_places l D (xs (3 * i + 1)) hi h) hC hK hN hP hD hS rfl rfl q643 md_X7_places rfl hl.1 rfl (Nat.le_of_ble_eq_true rfl) dL_law_655 ⟨Nat.le_of_ble_eq_true rfl, Nat.le_of_ble_eq_true rfl⟩ ⟨hfc, hfs⟩ (fun r w9 H locs hq hP hD hS => ?_)
  refine lv_aload_n hx hb dL_law_658 rfl (lv_at hl 2 rfl) ?_
  refine w_arg (k := 1) hx hb hX hbl hbA hS (lv_at hl 0 rfl) (lv_at hl 3 rfl) (by omega) hL (by decide) dL_law_659 dL_law_660 dL_law_661 dL_law_662 dL_law_663 ?_
  refine callQ_i (As := [.int (xs (3 * i + 1))]) (rest := [.int r]) hq hC hK hN hP hD hS rfl rfl q949 md_X8_places_ rfl hl.1 rfl (Nat.le_of_ble_eq_true rfl) dL_law_664 ⟨Nat.le_of_ble_eq_true rfl, Nat.le_of_ble_eq_true rfl⟩ ⟨hfc, hfs⟩ (fun r2 w8 H locs hq2 hP hD hS => ?_)
  obtain ⟨rfl, hj⟩ := hq2
  refine lv_icmp_eq (tgt := 748) hx hb dL_law_667 (by decide) (fun _ => ?_) (fun h9 => absurd rfl h9)
  exact kk w8 _ _ _ hj hP hD hS hl
set_option maxHeartbeats 4000000 in
set_option maxRecDepth 100000 in
theorem lc_without (hcx : LCX p s m c args D cI cJ cB b L xs A H0 cells slots) (h3 : 3 * i + 3 ≤ L) (h : LJ cI cJ cB i xo o WS) (hP : va_P D vwCl WS H) (hD : va_D A WS) (hS : va_S A H0 H locs) (hl : lv_has ls 8 [(0, .ref b), (1, .ref xo), (2, .ref o), (3, .int (nI (3 * i)))]) (kk : ∀ (w8 : va_W) (H : Heap) (locs : List Loc) (ls : Array Slot), LJE cI cJ cB (i + 1) xo o w8 → va_P D vwCl w8 H → va_D A w8 → va_S A H0 H locs → lv_has ls 8 [(0, .ref b), (1, .ref xo), (2, .ref o), (3, .int (nI (3 * i)))] → W p l e room_1 s m args below meth c H locs cells slots Q (F0 m 748 ls [])) : W p l e room_1 s m args below meth c H locs cells slots Q (F0 m 672 ls []) := by
  obtain ⟨hC, hK, hN, hX, hbl, hbA, hL, hfc, hfs⟩ := hcx
  obtain ⟨hx, hb, -, -, -⟩ := id hC
  have hi : i < 2 ^ 20 := by omega
  refine lv_aload_n hx hb dL_law_672 rfl (lv_at hl 1 rfl) ?_
  refine w_arg (k := 1) hx hb hX hbl hbA hS (lv_at hl 0 rfl) (lv_at hl 3 rfl) (by omega) hL (by decide) dL_law_673 dL_law_674 dL_law_675 dL_law_676 dL_law_677 ?_
  refine w_arg (k := 2) hx hb hX hbl hbA hS (lv_at hl 0 rfl) (lv_at hl 3 rfl) (by omega) hL (by decide) dL_law_678 dL_law_679 dL_law_680 dL_law_681 dL_law_682 ?_
  refine w_bz hx hb dL_law_683 dL_law_686 dL_law_687 dL_law_690 ?_
  refine callQ_i (As := [.int (xs (3 * i + 1)), .int (bI (decide ((xs (3 * i + 2)) ≠ 0)))]) (rest := []) (j_without l D (xs (3 * i + 1)) (decide (xs (3 * i + 2) ≠ 0)) hi h) hC hK hN hP hD hS rfl rfl q651 md_X7_without rfl hl.1 rfl (Nat.le_of_ble_eq_true rfl) dL_law_691 ⟨Nat.le_of_ble_eq_true rfl, Nat.le_of_ble_eq_true rfl⟩ ⟨hfc, hfs⟩ (fun r w9 H locs hq hP hD hS => ?_)
  refine lv_aload_n hx hb dL_law_694 rfl (lv_at hl 2 rfl) ?_
  refine w_arg (k := 1) hx hb hX hbl hbA hS (lv_at hl 0 rfl) (lv_at hl 3 rfl) (by omega) hL (by decide) dL_law_695 dL_law_696 dL_law_697 dL_law_698 dL_law_699 ?_
  refine w_arg (k := 2) hx hb hX hbl hbA hS (lv_at hl 0 rfl) (lv_at hl 3 rfl) (by omega) hL (by decide) dL_law_700 dL_law_701 dL_law_702 dL_law_703 dL_law_704 ?_
  refine w_bz hx hb dL_law_705 dL_law_708 dL_law_709 dL_law_712 ?_
  refine callQ_i (As := [.int (xs (3 * i + 1)), .int (bI (decide ((xs (3 * i + 2)) ≠ 0)))]) (rest := [.int r]) hq hC hK hN hP hD hS rfl rfl q953 md_X8_without rfl hl.1 rfl (Nat.le_of_ble_eq_true rfl) dL_law_713 ⟨Nat.le_of_ble_eq_true rfl, Nat.le_of_ble_eq_true rfl⟩ ⟨hfc, hfs⟩ (fun r2 w8 H locs hq2 hP hD hS => ?_)
  obtain ⟨rfl, hj⟩ := hq2
  refine lv_icmp_eq (tgt := 748) hx hb dL_law_716 (by decide) (fun _ => ?_) (fun h9 => absurd rfl h9)
  exact kk w8 _ _ _ hj hP hD hS hl
set_option maxHeartbeats 4000000 in
set_option maxRecDepth 100000 in
theorem lc_undo (hcx : LCX p s m c args D cI cJ cB b L xs A H0 cells slots) (h3 : 3 * i + 3 ≤ L) (h : LJ cI cJ cB i xo o WS) (hP : va_P D vwCl WS H) (hD : va_D A WS) (hS : va_S A H0 H locs) (hl : lv_has ls 8 [(0, .ref b), (1, .ref xo), (2, .ref o), (3, .int (nI (3 * i)))]) (kk : ∀ (w8 : va_W) (H : Heap) (locs : List Loc) (ls : Array Slot), LJE cI cJ cB (i + 1) xo o w8 → va_P D vwCl w8 H → va_D A w8 → va_S A H0 H locs → lv_has ls 8 [(0, .ref b), (1, .ref xo), (2, .ref o), (3, .int (nI (3 * i)))] → W p l e room_1 s m args below meth c H locs cells slots Q (F0 m 748 ls [])) : W p l e room_1 s m args below meth c H locs cells slots Q (F0 m 721 ls []) := by
  obtain ⟨hC, hK, hN, hX, hbl, hbA, hL, hfc, hfs⟩ := hcx
  obtain ⟨hx, hb, -, -, -⟩ := id hC
  have hi : i < 2 ^ 20 := by omega
  refine lv_aload_n hx hb dL_law_721 rfl (lv_at hl 1 rfl) ?_
  refine callQ_i (As := []) (rest := []) (j_undo l D  hi h) hC hK hN hP hD hS rfl rfl q655 md_X7_undo rfl hl.1 rfl (Nat.le_of_ble_eq_true rfl) dL_law_722 ⟨Nat.le_of_ble_eq_true rfl, Nat.le_of_ble_eq_true rfl⟩ ⟨hfc, hfs⟩ (fun r w9 H locs hq hP hD hS => ?_)
  refine lv_aload_n hx hb dL_law_725 rfl (lv_at hl 2 rfl) ?_
  refine callQ_i (As := []) (rest := [.int r]) hq hC hK hN hP hD hS rfl rfl q957 md_X8_undo rfl hl.1 rfl (Nat.le_of_ble_eq_true rfl) dL_law_726 ⟨Nat.le_of_ble_eq_true rfl, Nat.le_of_ble_eq_true rfl⟩ ⟨hfc, hfs⟩ (fun r2 w8 H locs hq2 hP hD hS => ?_)
  obtain ⟨rfl, hj⟩ := hq2
  refine lv_icmp_eq (tgt := 748) hx hb dL_law_729 (by decide) (fun _ => ?_) (fun h9 => absurd rfl h9)
  exact kk w8 _ _ _ hj hP hD hS hl
set_option maxHeartbeats 4000000 in
set_option maxRecDepth 100000 in
theorem lc_fingerprint (hcx : LCX p s m c args D cI cJ cB b L xs A H0 cells slots) (h3 : 3 * i + 3 ≤ L) (h : LJ cI cJ cB i xo o WS) (hP : va_P D vwCl WS H) (hD : va_D A WS) (hS : va_S A H0 H locs) (hl : lv_has ls 8 [(0, .ref b), (1, .ref xo), (2, .ref o), (3, .int (nI (3 * i)))]) (kk : ∀ (w8 : va_W) (H : Heap) (locs : List Loc) (ls : Array Slot), LJE cI cJ cB (i + 1) xo o w8 → va_P D vwCl w8 H → va_D A w8 → va_S A H0 H locs → lv_has ls 8 [(0, .ref b), (1, .ref xo), (2, .ref o), (3, .int (nI (3 * i)))] → W p l e room_1 s m args below meth c H locs cells slots Q (F0 m 748 ls [])) : W p l e room_1 s m args below meth c H locs cells slots Q (F0 m 734 ls []) := by
  obtain ⟨hC, hK, hN, hX, hbl, hbA, hL, hfc, hfs⟩ := hcx
  obtain ⟨hx, hb, -, -, -⟩ := id hC
  have hi : i < 2 ^ 20 := by omega
  refine lv_aload_n hx hb dL_law_734 rfl (lv_at hl 1 rfl) ?_
  refine callQ_l (As := []) (rest := []) (j_fingerprint l D  hi h) hC hK hN hP hD hS rfl rfl q663 md_X7_fingerprint rfl hl.1 rfl (Nat.le_of_ble_eq_true rfl) dL_law_735 ⟨Nat.le_of_ble_eq_true rfl, Nat.le_of_ble_eq_true rfl⟩ ⟨hfc, hfs⟩ (fun r w9 H locs hq hP hD hS => ?_)
  refine lv_aload_n hx hb dL_law_738 rfl (lv_at hl 2 rfl) ?_
  refine callQ_l (As := []) (rest := [.long r]) hq hC hK hN hP hD hS rfl rfl q961 md_X8_fingerprint rfl hl.1 rfl (Nat.le_of_ble_eq_true rfl) dL_law_739 ⟨Nat.le_of_ble_eq_true rfl, Nat.le_of_ble_eq_true rfl⟩ ⟨hfc, hfs⟩ (fun r2 w8 H locs hq2 hP hD hS => ?_)
  obtain ⟨rfl, hj⟩ := hq2
  refine W.lcmp hx hb dL_law_742 ?_
  refine lv_if_eq (tgt := 748) hx hb dL_law_743 (by decide) (fun _ => ?_) (fun h9 => absurd (lcmp_self _) h9)
  exact kk w8 _ _ _ hj hP hD hS hl
end LV2
