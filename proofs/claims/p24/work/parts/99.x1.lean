/-! THE CLAIM OUT OF ONE WALK OF THE LAW'S BODY. Your part is whole_start (and what it stands on); all else here is the same for every law, but numbers. -/
def R_law : String := "SlidingBlocksLaw"
def lw_P (b : Addr) (xs : List Int32) (args : Array Value) (s : State) : Prop := args = #[.ref b] ∧ s.IntsAt b xs ∧ xs.length ≤ 260 ∧ (Jvm.Cond.and given_1 narrow_1).before args s = true
/-- what a walk over the start with the record d0 says of its end, said of the start itself -/
theorem lw_closed {s t : State} {o : Outcome} {d0 : Drawn} {L : List Loc} {k n : Nat} (hd0 : s.drawn.sameBut d0 lw_cs) (hv : ∃ v, o = .returned v) (hW : (s.setDrawn d0).WarmedH t.vm) (hs : (s.setDrawn d0).sameButNew ({ t with vm := s.vm } : State) L k n) : State.butDraws s t lw_cs (fun t1 => Framed s o t1 L k n) := by
  have h2 : t.drawn = d0 := congrArg State.drawn hs.1
  refine ⟨⟨hv, hW, State.sameButNew.setDrawn hs s.drawn⟩, ?_, by decide⟩
  rw [h2]
  exact hd0
def lw_Q (_ : Array Value) (s : State) (o : Outcome) (t : State) : Prop := o = .returned (some (.int 1)) ∧ State.butDraws s t lw_cs (fun t1 => Framed s o t1 [] 600000 7302250)
def lw_Z (below : List Frame) (a : Array Value) (s : State) : State → Prop := fun t => ∃ o, t.status = .running ∧ Ended t below o ∧ lw_Q a s o t
/-- the law's own end, with 1 on the stack, nothing written that was there before, its room as the claim has it; d0: the record of draws at this point (at the entry s.drawn: begin with 'refine W.base ?_' and 'have hd0 := Drawn.sameBut.refl s.drawn lw_cs') -/
theorem lw_ret {p : Program} {l : Launch} {e : Env} {s : State} {m : MethodId} {below : List Frame} {meth : Method} {c : Code} {b : Nat} {d0 : Drawn} (hd0 : s.drawn.sameBut d0 lw_cs) (hx : p.tables.exec = Jvm.exec) (hb : c.code = code) (hr : meth.sig.returnType = ret) (hlocks : meth.locks = false) {pc : Nat} {H : Heap} {ls : Array Slot} (hdg : decode code pc = .ok (.ireturn, 1)) : W p l e room_1 (s.setDrawn d0) m #[Value.ref b] below meth c H [] 600000 7302250 (lw_Z below #[Value.ref b] s) (F0 m pc ls [.int 1]) := by
  intro T hT X
  obtain ⟨fs, hret, hrun, hended, hW, hframe⟩ := X.leave (v := some (.int 1)) (hlocks := hlocks) (fun h => by rw [hr] at h; cases h)
  have hmeth' : T.vm.method? m = some meth := X.method'
  refine ⟨T.setFrames fs, ?_, .returned (some (.int 1)), hrun, hended, rfl, lw_closed hd0 ⟨_, rfl⟩ hW hframe⟩
  jvm_step X.here [X.here.top, hx, hb, hdg, hmeth', hr, ret, narrow_b1]
  (try refine ⟨rfl, ?_⟩); (try refine ⟨rfl, ?_⟩)
  first | (intro acts; rw [hret _ acts rfl rfl rfl]) | rw [hret _ _ rfl rfl rfl]
  exact Steps.refl _
/-- what holds at the law's entry: the machine, the code, the tables' words (any of lw_tbl by 'hts w (by decide +kernel)'), the script of L ints xs at the cell b, what the Statement gives of the start (any of its parts by flat_of_before) -/
def lw_At (p : Program) (s : State) (m : MethodId) (meth : Method) (c : Code) (b L : Nat) (xs : Nat → Int32) : Prop :=
  p.tables.exec = Jvm.exec ∧ c.code = code ∧ meth.sig.returnType = ret ∧ c.maxLocals = 17 ∧ s.vm.findClass R_law = some m.cls ∧ (∀ w ∈ lw_tbl, w.before #[Value.ref b] s = true) ∧ va_X b L xs s s.heap ∧ b < s.heap.size ∧ meth.locks = false ∧ (Jvm.Cond.and given_1 narrow_1).before #[Value.ref b] s = true
-- ===== YOUR PART BEGINS =====
set_option maxHeartbeats 16000000 in
set_option maxRecDepth 100000 in
/-- YOUR PART: from the entry, for every script of at most 260 ints, the law comes to its end with true ('hflags': the launch's flags, for a law that throws: no stack traces) -/
theorem whole_start {p : Program} {e : Env} {s : State} {m : MethodId} {below : List Frame} {meth : Method} {c : Code} (l : Launch) (hflags : l.flags = flags0) {b L : Nat} {xs : Nat → Int32} (hL : L ≤ 260) (C0 : lw_At p s m meth c b L xs) : W p l e room_1 s m #[Value.ref b] below meth c s.heap [] 0 0 (lw_Z below #[Value.ref b] s) (entryFrame m ([Value.ref b] : List Value).toArray 17) := by
  obtain ⟨hx, hb, hr, hml, hown, hts0, hX, hbl, hlocks, hgv⟩ := id C0
  have hts : ∀ w ∈ lw_all, w.before #[Value.ref b] s = true := fun w h => hts0 w (lw_all_tbl h)
  have hbA : ¬ (fun q : Nat => s.heap.size ≤ q) b := Nat.not_le.mpr hbl
  obtain ⟨c0, i0, hk0⟩ := u_known (C := RX0) (T := TX0) (N := 18) (n := 18) hts inA_X0 (hts _ q58)
  obtain ⟨c1, i1, hk1⟩ := u_known (C := RX1) (T := TX1) (N := 8) (n := 8) hts inA_X1 (hts _ q208)
  obtain ⟨c2, i2, hk2⟩ := u_known (C := RX2) (T := TX2) (N := 3) (n := 3) hts inA_X2 (hts _ q150)
  obtain ⟨c3, i3, hk3⟩ := u_known (C := RX3) (T := TX3) (N := 2) (n := 2) hts inA_X3 (hts _ q169)
  obtain ⟨c4, i4, hk4⟩ := u_known (C := RX4) (T := TX4) (N := 3) (n := 3) hts inA_X4 (hts _ q183)
  obtain ⟨c5, i5, hk5⟩ := u_known (C := RX5) (T := TX5) (N := 9) (n := 9) hts inA_X5 (hts _ q202)
  obtain ⟨c6, i6, hk6⟩ := u_known (C := RX6) (T := TX6) (N := 9) (n := 9) hts inA_X6 (hts _ q22)
  obtain ⟨c7, i7, hk7⟩ := u_known (C := RX7) (T := TX7) (N := 8) (n := 8) hts inA_X7 (hts _ q14)
  obtain ⟨D, hKc⟩ : ∃ D : va_G, ∀ (k : Nat) (q : vw_C), vwCl[k]? = some q → u_Kn s q.1 q.2.1 q.2.2 (D.1 k) (D.2 k) := by
    refine ⟨(fun k => (([c0, c1, c2, c3, c4, c5, c6, c7] : List ClassId)[k]?).getD c0, fun k => (([i0, i1, i2, i3, i4, i5, i6, i7] : List (Nat → Nat))[k]?).getD i0), ?_⟩
    intro k q hq
    match k, hq with
    | 0, hq => cases hq; exact hk0
    | 1, hq => cases hq; exact hk1
    | 2, hq => cases hq; exact hk2
    | 3, hq => cases hq; exact hk3
    | 4, hq => cases hq; exact hk4
    | 5, hq => cases hq; exact hk5
    | 6, hq => cases hq; exact hk6
    | 7, hq => cases hq; exact hk7
    | k + 8, hq => simp [vwCl] at hq
  have hK0 : va_K D vwCl [] s := ⟨hKc, fun k q h => by simp at h⟩
  have hO : va_AO "SlidingBlocks$Board" s := va_AO.of (hts0 _ q156)
  obtain ⟨cI, cJ, cB, hK⟩ := tyz_ex hK0 (hts _ q56) (hts _ q241) hO
  have hN : kN s := fun q hq => va_Nw.of rfl (hts0 _ (lw_nq_tbl q hq))
  have hC : CallFix p m c code 17 s #[Value.ref b] lw_all RL := ⟨hx, hb, hml, hown, hts⟩
  have hA : ∀ q : Nat, s.heap.size ≤ q → (fun q : Nat => s.heap.size ≤ q) q := fun _ h => h
  have hS : va_S (fun q : Nat => s.heap.size ≤ q) s.heap s.heap [] := va_S.rf
  have hP : va_P D vwCl [] s.heap := fun k q h => by simp at h
  have hD : va_D (fun q : Nat => s.heap.size ≤ q) [] := ⟨fun i j p q h => by simp at h, fun k q h => by simp at h⟩
  generalize hAe : (fun q : Nat => s.heap.size ≤ q) = A at hA hS hD hbA
  have hl := lv_entry ([.ref b]) (n := 17) (Nat.le_of_ble_eq_true rfl)
  rw [lg_entry_eq]
  generalize (lg_sl ([.ref b]) ++ List.replicate (17 - (lg_sl ([.ref b])).length) Slot.unset).toArray = ls at hl ⊢
  have hl : lv_has ls 17 [(0, .ref b)] := hl
  refine W_gen (fun QQ hQ => ?_)
  show W p l e room_1 s m #[Value.ref b] below meth c s.heap [] 0 0 QQ (F0 m 0 ls [])
  refine w_new (ci := 7) (fs := [.null, .null, .null, .null, .null, .null, .null, .int (nI 0)]) hC hK hP hD hS hA inA_X7 tyX7_ok q13 q14 q1 rfl (fun j hj => by rcases (show j = 0 ∨ j = 1 ∨ j = 2 ∨ j = 3 ∨ j = 4 ∨ j = 5 ∨ j = 6 ∨ j = 7 by omega) with rfl | rfl | rfl | rfl | rfl | rfl | rfl | rfl <;> rfl) (c1 := 1) (s1 := 8) rfl rfl (Nat.le_of_ble_eq_true rfl) (Nat.le_of_ble_eq_true rfl) dL_law_0 (fun xo H hP hD hS => ?_)
  refine lv_dup hx hb dL_law_3 rfl ?_
  refine w_ctor (pre := []) (As := []) (rest := [.ref xo]) hC hO hK hN hP hD hS hA (c_X7_init l D cI cJ cB xo H.size) q15 md_X7_init rfl hl.1 rfl (Nat.le_of_ble_eq_true rfl) dL_law_4 ⟨Nat.le_of_ble_eq_true rfl, Nat.le_of_ble_eq_true rfl⟩ (c1 := 90) (s1 := 28972) rfl rfl (Nat.le_of_ble_eq_true rfl) (Nat.le_of_ble_eq_true rfl) (fun u H locs hpost hP hD hS => ?_)
  obtain ⟨k1, k2, k3, k4, k5, k6, k7, k8, k9, k10, k11, k12, k13, k14, k15, k16, k17, k18, k19, k20, k21, k22, k23, k24, k25, k26, k27, k28, k29, k30, k31, k32, k33, k34, k35, k36, k37, k38, k39, k40, k41, k42, k43, k44, k45, k46, k47, k48, k49, k50, k51, k52, k53, k54, k55, k56, k57, k58, k59, k60, k61, k62, k63, k64, k65, k66, k67, k68, k69, k70, k71, k72, k73, k74, k75, k76, k77, k78, k79, k80, k81, k82, k83, k84, k85, k86, k87, k88, k89, rfl⟩ := hpost
  refine lv_astore_n (lv' := [(1, .ref xo), (0, .ref b)]) hx hb dL_law_7 rfl hl (by decide) rfl (fun ls hl => ?_)
  obtain ⟨ws0, hI, hPK⟩ := law_ini cI cJ cB xo k1 k2 k3 k4 k5 k6 k7 k8 k9 k10 k11 k12 k13 k14 k15 k16 k17 k18 k19 k20 k21 k22 k23 k24 k25 k26 k27 k28 k29 k30 k31 k32 k33 k34 k35 k36 k37 k38 k39 k40 k41 k42 k43 k44 k45 k46 k47 k48 k49 k50 k51 k52 k53 k54 k55 k56 k57 k58 k59 k60 k61 k62 k63 k64 k65 k66 k67 k68 k69 k70 k71 k72 k73 k74 k75 k76 k77 k78 k79 k80 k81 k82 k83 k84 k85 k86 k87 k88 k89
  have hP := hI.1 D _ hP
  have hD := hI.2 _ hD
  clear hI
  refine lv_aload_n hx hb dL_law_8 rfl (lv_at hl 0 rfl) ?_
  refine callQ_i (As := []) (rest := []) (y_undo0 l D   hPK) hC hK hN hP hD hS rfl rfl q528 md_X7_undo rfl hl.1 rfl (Nat.le_of_ble_eq_true rfl) dL_law_9 ⟨Nat.le_of_ble_eq_true rfl, Nat.le_of_ble_eq_true rfl⟩ ⟨Nat.le_of_ble_eq_true rfl, Nat.le_of_ble_eq_true rfl⟩ (fun r w_9 H locs hq hP hD hS => ?_)
  obtain ⟨hPK, hr9⟩ := hq
  have hPK := hPK.pk
  have hr9 : r = (-9) := hr9
  rw [hr9]
  refine lv_bipush (v := (-9)) hx hb dL_law_12 (by decide) ?_
  refine lv_icmp_ne (tgt := 68) hx hb dL_law_14 (by decide) (fun h => absurd rfl h) (fun _ => ?_)
  refine lv_aload_n hx hb dL_law_17 rfl (lv_at hl 0 rfl) ?_
  refine lv_iconst (v := nI 0) hx hb dL_law_18 (by decide) ?_
  refine callQ_i (As := [.int (nI 0)]) (rest := []) (y_frame l D (nI 0)  hPK) hC hK hN hP hD hS rfl rfl q389 md_X7_frame rfl hl.1 rfl (Nat.le_of_ble_eq_true rfl) dL_law_19 ⟨Nat.le_of_ble_eq_true rfl, Nat.le_of_ble_eq_true rfl⟩ ⟨Nat.le_of_ble_eq_true rfl, Nat.le_of_ble_eq_true rfl⟩ (fun r w_19 H locs hq hP hD hS => ?_)
  obtain ⟨hPK, hr9⟩ := hq
  have hr9 : r = nI 1 := hr9.trans (frx (k := 0) (by decide))
  rw [hr9]
  refine lv_iconst (v := nI 1) hx hb dL_law_22 (by decide) ?_
  refine n_icmp_ne (a := 1) (b := 1) (tgt := 68) hx hb dL_law_23 (by decide) (by decide) (by decide) (fun h => absurd h (by decide)) (fun _ => ?_)
  refine lv_aload_n hx hb dL_law_26 rfl (lv_at hl 0 rfl) ?_
  refine lv_iconst (v := nI 2) hx hb dL_law_27 (by decide) ?_
  refine callQ_i (As := [.int (nI 2)]) (rest := []) (y_frame l D (nI 2)  hPK) hC hK hN hP hD hS rfl rfl q389 md_X7_frame rfl hl.1 rfl (Nat.le_of_ble_eq_true rfl) dL_law_28 ⟨Nat.le_of_ble_eq_true rfl, Nat.le_of_ble_eq_true rfl⟩ ⟨Nat.le_of_ble_eq_true rfl, Nat.le_of_ble_eq_true rfl⟩ (fun r w_28 H locs hq hP hD hS => ?_)
  obtain ⟨hPK, hr9⟩ := hq
  have hr9 : r = nI 0 := hr9.trans (frx (k := 2) (by decide))
  rw [hr9]
  refine n_if_ne (a := 0) (tgt := 68) hx hb dL_law_31 (by decide) (by decide) (fun h => absurd h (by decide)) (fun _ => ?_)
  refine lv_aload_n hx hb dL_law_34 rfl (lv_at hl 0 rfl) ?_
  refine lv_iconst (v := nI 3) hx hb dL_law_35 (by decide) ?_
  refine callQ_i (As := [.int (nI 3)]) (rest := []) (y_frame l D (nI 3)  hPK) hC hK hN hP hD hS rfl rfl q389 md_X7_frame rfl hl.1 rfl (Nat.le_of_ble_eq_true rfl) dL_law_36 ⟨Nat.le_of_ble_eq_true rfl, Nat.le_of_ble_eq_true rfl⟩ ⟨Nat.le_of_ble_eq_true rfl, Nat.le_of_ble_eq_true rfl⟩ (fun r w_36 H locs hq hP hD hS => ?_)
  obtain ⟨hPK, hr9⟩ := hq
  have hr9 : r = nI 1 := hr9.trans ((frx (k := 3) (by decide)).trans T0_free)
  rw [hr9]
  refine lv_iconst (v := nI 1) hx hb dL_law_39 (by decide) ?_
  refine n_icmp_ne (a := 1) (b := 1) (tgt := 68) hx hb dL_law_40 (by decide) (by decide) (by decide) (fun h => absurd h (by decide)) (fun _ => ?_)
  refine lv_aload_n hx hb dL_law_43 rfl (lv_at hl 0 rfl) ?_
  refine lv_iconst (v := nI 0) hx hb dL_law_44 (by decide) ?_
  refine callQ_i (As := [.int (nI 0)]) (rest := []) (y_cell l D (nI 0)  hPK) hC hK hN hP hD hS rfl rfl q412 md_X7_cell rfl hl.1 rfl (Nat.le_of_ble_eq_true rfl) dL_law_45 ⟨Nat.le_of_ble_eq_true rfl, Nat.le_of_ble_eq_true rfl⟩ ⟨Nat.le_of_ble_eq_true rfl, Nat.le_of_ble_eq_true rfl⟩ (fun r w_45 H locs hq hP hD hS => ?_)
  obtain ⟨hPK, hr9⟩ := hq
  have hr9 : r = (-9) := hr9.trans T0_cell
  rw [hr9]
  refine lv_bipush (v := (-9)) hx hb dL_law_48 (by decide) ?_
  refine lv_icmp_ne (tgt := 68) hx hb dL_law_50 (by decide) (fun h => absurd rfl h) (fun _ => ?_)
  refine lv_aload_n hx hb dL_law_53 rfl (lv_at hl 0 rfl) ?_
  refine callQ_i (As := []) (rest := []) (y_states l D   hPK) hC hK hN hP hD hS rfl rfl q477 md_X7_states rfl hl.1 rfl (Nat.le_of_ble_eq_true rfl) dL_law_54 ⟨Nat.le_of_ble_eq_true rfl, Nat.le_of_ble_eq_true rfl⟩ ⟨Nat.le_of_ble_eq_true rfl, Nat.le_of_ble_eq_true rfl⟩ (fun r w_54 H locs hq hP hD hS => ?_)
  obtain ⟨hPK, hr9⟩ := hq
  have hr9 : r = nI 1 := hr9.trans T0_states
  rw [hr9]
  refine lv_iconst (v := nI 1) hx hb dL_law_57 (by decide) ?_
  refine n_icmp_ne (a := 1) (b := 1) (tgt := 68) hx hb dL_law_58 (by decide) (by decide) (by decide) (fun h => absurd h (by decide)) (fun _ => ?_)
  refine lv_aload_n hx hb dL_law_61 rfl (lv_at hl 0 rfl) ?_
  refine w_stS_i (As := [.ref xo]) (rest := []) hC hO hK hN hP hD hS hA (c_L_fails l D cI cJ cB H.size (by omega) hPK) q544 md_L_fails rfl hl.1 rfl (Nat.le_of_ble_eq_true rfl) dL_law_62 ⟨Nat.le_of_ble_eq_true rfl, Nat.le_of_ble_eq_true rfl⟩ (c1 := 90) (s1 := 28972) rfl rfl (Nat.le_of_ble_eq_true rfl) (Nat.le_of_ble_eq_true rfl) (fun r w_62 H locs hq hP hD hS => ?_)
  obtain ⟨hr9, hPK⟩ := hq
  have hr9 : r = bI true := hr9
  rw [hr9]
  refine b_if_ne (z := true) (tgt := 70) hx hb dL_law_65 (by decide) (fun _ => ?_) (fun h => absurd h (by decide))
  refine lv_iconst (v := nI 2) hx hb dL_law_70 (by decide) ?_
  refine lv_aload_n hx hb dL_law_71 rfl (lv_at hl 1 rfl) ?_
  refine lv_iconst (v := nI 0) hx hb dL_law_72 (by decide) ?_
  refine w_stE_i (pr := fun _ => True) (As := [.ref b, .int (nI 0)]) (rest := [.int (nI 2)]) hX hbl hbA hC hO hK hN hP hD hS hA (c_L_cell l D cI cJ cB (ws := []) H.size (k := 0) (b0 := b) (L0 := L) (xs := xs) (by omega) (by omega)) q536 md_L_cell rfl hl.1 rfl (Nat.le_of_ble_eq_true rfl) dL_law_73 ⟨Nat.le_of_ble_eq_true rfl, Nat.le_of_ble_eq_true rfl⟩ (Nat.le_of_ble_eq_true rfl) (Nat.le_of_ble_eq_true rfl) (fun r_73 H locs hr9 hP hD hS => ?_)
  refine lv_iconst (v := nI 3) hx hb dL_law_76 (by decide) ?_
  refine w_stE_i (pr := fun r => ∃ j, j < 3 ∧ r = nI j) (As := [.int r_73, .int (nI 3)]) (rest := [.int (nI 2)]) hX hbl hbA hC hO hK hN hP hD hS hA (c_L_up l D cI cJ cB (ws := []) H.size (x := r_73) (mo := 3) (b0 := b) (L0 := L) (xs := xs) (by omega) (by omega)) q540 md_L_up rfl hl.1 rfl (Nat.le_of_ble_eq_true rfl) dL_law_77 ⟨Nat.le_of_ble_eq_true rfl, Nat.le_of_ble_eq_true rfl⟩ (Nat.le_of_ble_eq_true rfl) (Nat.le_of_ble_eq_true rfl) (fun r_77 H locs hr9 hP hD hS => ?_)
  obtain ⟨a1, a1l, rfl⟩ := hr9
  obtain ⟨wv, hwv⟩ : ∃ v, v = 2 + a1 := ⟨_, rfl⟩
  refine n_iadd hx hb dL_law_80  ?_
  refine topi (y := nI wv) (congrArg nI hwv.symm) ?_
  refine lv_istore_n (lv' := [(2, .int (nI wv)), (1, .ref xo), (0, .ref b)]) hx hb dL_law_81 rfl hl (by decide) rfl (fun ls hl => ?_)
  refine lv_iconst (v := nI 2) hx hb dL_law_82 (by decide) ?_
  refine lv_aload_n hx hb dL_law_83 rfl (lv_at hl 2 rfl) ?_
  refine lv_iconst (v := nI 0) hx hb dL_law_84 (by decide) ?_
  refine w_stE_i (pr := fun _ => True) (As := [.ref b, .int (nI 0)]) (rest := [.int (nI 2)]) hX hbl hbA hC hO hK hN hP hD hS hA (c_L_cell l D cI cJ cB (ws := []) H.size (k := 0) (b0 := b) (L0 := L) (xs := xs) (by omega) (by omega)) q536 md_L_cell rfl hl.1 rfl (Nat.le_of_ble_eq_true rfl) dL_law_85 ⟨Nat.le_of_ble_eq_true rfl, Nat.le_of_ble_eq_true rfl⟩ (Nat.le_of_ble_eq_true rfl) (Nat.le_of_ble_eq_true rfl) (fun r_85 H locs hr9 hP hD hS => ?_)
  refine lv_iconst (v := nI 2) hx hb dL_law_88 (by decide) ?_
  refine lv_ishr hx hb dL_law_89 ?_
  refine lv_iconst (v := nI 2) hx hb dL_law_90 (by decide) ?_
  refine w_stE_i (pr := fun r => ∃ j, j < 2 ∧ r = nI j) (As := [.int (r_85 >>> ((nI 2) &&& 31)), .int (nI 2)]) (rest := [.int (nI 2)]) hX hbl hbA hC hO hK hN hP hD hS hA (c_L_up l D cI cJ cB (ws := []) H.size (x := r_85 >>> ((nI 2) &&& 31)) (mo := 2) (b0 := b) (L0 := L) (xs := xs) (by omega) (by omega)) q540 md_L_up rfl hl.1 rfl (Nat.le_of_ble_eq_true rfl) dL_law_91 ⟨Nat.le_of_ble_eq_true rfl, Nat.le_of_ble_eq_true rfl⟩ (Nat.le_of_ble_eq_true rfl) (Nat.le_of_ble_eq_true rfl) (fun r_91 H locs hr9 hP hD hS => ?_)
  obtain ⟨a2, a2l, rfl⟩ := hr9
  obtain ⟨hv, hhv⟩ : ∃ v, v = 2 + a2 := ⟨_, rfl⟩
  have hwh : wv * hv ≤ 12 := Nat.le_trans (Nat.mul_le_mul (show wv ≤ 4 by omega) (show hv ≤ 3 by omega)) (by omega)
  have hwh4 : 4 ≤ wv * hv := Nat.le_trans (show 4 ≤ 2 * 2 by omega) (Nat.mul_le_mul (show 2 ≤ wv by omega) (show 2 ≤ hv by omega))
  refine n_iadd hx hb dL_law_94  ?_
  refine topi (y := nI hv) (congrArg nI hhv.symm) ?_
  refine lv_istore_n (lv' := [(3, .int (nI hv)), (2, .int (nI wv)), (1, .ref xo), (0, .ref b)]) hx hb dL_law_95 rfl hl (by decide) rfl (fun ls hl => ?_)
  refine lv_aload_n hx hb dL_law_96 rfl (lv_at hl 2 rfl) ?_
  refine lv_aload_n hx hb dL_law_97 rfl (lv_at hl 3 rfl) ?_
  refine lv_iload_n hx hb dL_law_98 rfl (lv_at hl 1 rfl) ?_
  refine lv_iload_n hx hb dL_law_99 rfl (lv_at hl 0 rfl) ?_
  refine w_stL_i (As := [.ref xo, .ref b, .int (nI wv), .int (nI hv)]) (rest := []) hX hbl hbA hC hO hK hN hP hD hS hA (c_L_frame l D cI cJ cB H.size (by omega) (by omega) hL (fun _ => (by show (0 : Nat) < 2 ^ 20; decide)) hPK) q684 md_L_frame rfl hl.1 rfl (Nat.le_of_ble_eq_true rfl) dL_law_100 ⟨Nat.le_of_ble_eq_true rfl, Nat.le_of_ble_eq_true rfl⟩ (c1 := 91) (s1 := 28996) rfl rfl (Nat.le_of_ble_eq_true rfl) (Nat.le_of_ble_eq_true rfl) (fun r w_100 H locs hq hP hD hS => ?_)
  obtain ⟨nn, ln1, tx1, cl, hr9, hn5, hln1, htx1, hrd, hPK⟩ := hq
  have hr9 : r = nI nn := hr9
  rw [hr9]
  refine lv_istore (lv' := [(4, .int (nI nn)), (3, .int (nI hv)), (2, .int (nI wv)), (1, .ref xo), (0, .ref b)]) hx hb dL_law_103 hl (by decide) rfl (fun ls hl => ?_)
  refine lv_aload_n hx hb dL_law_105 rfl (lv_at hl 3 rfl) ?_
  refine callQ_i (As := []) (rest := []) (y_read l D  hln1 htx1 rfl hrd hPK) hC hK hN hP hD hS rfl rfl q303 md_X7_read rfl hl.1 rfl (Nat.le_of_ble_eq_true rfl) dL_law_106 ⟨Nat.le_of_ble_eq_true rfl, Nat.le_of_ble_eq_true rfl⟩ ⟨Nat.le_of_ble_eq_true rfl, Nat.le_of_ble_eq_true rfl⟩ (fun r w_106 H locs hq hP hD hS => ?_)
  obtain ⟨⟨t, hPK, ht1, ht2, ht3, ht4, ht5⟩, hr9⟩ := hq
  have hr9 : r = nI nn := hr9
  rw [hr9]
  refine lv_iload hx hb dL_law_109 (lv_at hl 0 rfl) ?_
  refine n_icmp_ne (a := nn) (b := nn) (tgt := 163) hx hb dL_law_111 (by decide) (by omega) (by omega) (fun h9 => absurd h9 (by omega)) (fun _ => ?_)
  refine lv_aload_n hx hb dL_law_114 rfl (lv_at hl 3 rfl) ?_
  refine callQ_i (As := []) (rest := []) (y_clear l D   hPK) hC hK hN hP hD hS rfl rfl q299 md_X7_clear rfl hl.1 rfl (Nat.le_of_ble_eq_true rfl) dL_law_115 ⟨Nat.le_of_ble_eq_true rfl, Nat.le_of_ble_eq_true rfl⟩ ⟨Nat.le_of_ble_eq_true rfl, Nat.le_of_ble_eq_true rfl⟩ (fun r w_115 H locs hq hP hD hS => ?_)
  obtain ⟨hPK, hr9⟩ := hq
  have hr9 : r = nI 0 := hr9
  rw [hr9]
  refine n_if_ne (a := 0) (tgt := 163) hx hb dL_law_118 (by decide) (by decide) (fun h => absurd h (by decide)) (fun _ => ?_)
  refine lv_aload_n hx hb dL_law_121 rfl (lv_at hl 3 rfl) ?_
  refine lv_iconst (v := nI 2) hx hb dL_law_122 (by decide) ?_
  refine callQ_i (As := [.int (nI 2)]) (rest := []) (y_frame l D (nI 2)  hPK) hC hK hN hP hD hS rfl rfl q389 md_X7_frame rfl hl.1 rfl (Nat.le_of_ble_eq_true rfl) dL_law_123 ⟨Nat.le_of_ble_eq_true rfl, Nat.le_of_ble_eq_true rfl⟩ ⟨Nat.le_of_ble_eq_true rfl, Nat.le_of_ble_eq_true rfl⟩ (fun r w_123 H locs hq hP hD hS => ?_)
  obtain ⟨hPK, hr9⟩ := hq
  have hr9 : r = nI nn := hr9.trans ((frx (k := 2) (by decide)).trans (congrArg nI ht3))
  rw [hr9]
  refine lv_iload hx hb dL_law_126 (lv_at hl 0 rfl) ?_
  refine n_icmp_ne (a := nn) (b := nn) (tgt := 163) hx hb dL_law_128 (by decide) (by omega) (by omega) (fun h9 => absurd h9 (by omega)) (fun _ => ?_)
  refine lv_aload_n hx hb dL_law_131 rfl (lv_at hl 3 rfl) ?_
  refine lv_iconst (v := nI 0) hx hb dL_law_132 (by decide) ?_
  refine callQ_i (As := [.int (nI 0)]) (rest := []) (y_frame l D (nI 0)  hPK) hC hK hN hP hD hS rfl rfl q389 md_X7_frame rfl hl.1 rfl (Nat.le_of_ble_eq_true rfl) dL_law_133 ⟨Nat.le_of_ble_eq_true rfl, Nat.le_of_ble_eq_true rfl⟩ ⟨Nat.le_of_ble_eq_true rfl, Nat.le_of_ble_eq_true rfl⟩ (fun r w_133 H locs hq hP hD hS => ?_)
  obtain ⟨hPK, hr9⟩ := hq
  have hr9 : r = nI wv := hr9.trans ((frx (k := 0) (by decide)).trans (congrArg nI ht1))
  rw [hr9]
  refine lv_iload_n hx hb dL_law_136 rfl (lv_at hl 2 rfl) ?_
  refine n_icmp_ne (a := wv) (b := wv) (tgt := 163) hx hb dL_law_137 (by decide) (by omega) (by omega) (fun h9 => absurd h9 (by omega)) (fun _ => ?_)
  refine lv_aload_n hx hb dL_law_140 rfl (lv_at hl 3 rfl) ?_
  refine lv_iconst (v := nI 1) hx hb dL_law_141 (by decide) ?_
  refine callQ_i (As := [.int (nI 1)]) (rest := []) (y_frame l D (nI 1)  hPK) hC hK hN hP hD hS rfl rfl q389 md_X7_frame rfl hl.1 rfl (Nat.le_of_ble_eq_true rfl) dL_law_142 ⟨Nat.le_of_ble_eq_true rfl, Nat.le_of_ble_eq_true rfl⟩ ⟨Nat.le_of_ble_eq_true rfl, Nat.le_of_ble_eq_true rfl⟩ (fun r w_142 H locs hq hP hD hS => ?_)
  obtain ⟨hPK, hr9⟩ := hq
  have hr9 : r = nI hv := hr9.trans ((frx (k := 1) (by decide)).trans (congrArg nI ht2))
  rw [hr9]
  refine lv_iload_n hx hb dL_law_145 rfl (lv_at hl 1 rfl) ?_
  refine n_icmp_ne (a := hv) (b := hv) (tgt := 163) hx hb dL_law_146 (by decide) (by omega) (by omega) (fun h9 => absurd h9 (by omega)) (fun _ => ?_)
  refine lv_aload_n hx hb dL_law_149 rfl (lv_at hl 3 rfl) ?_
  refine w_stS_i (As := [.ref xo]) (rest := []) hC hO hK hN hP hD hS hA (c_L_agrees l D cI cJ cB H.size hPK) q690 md_L_agrees rfl hl.1 rfl (Nat.le_of_ble_eq_true rfl) dL_law_150 ⟨Nat.le_of_ble_eq_true rfl, Nat.le_of_ble_eq_true rfl⟩ (c1 := 92) (s1 := 29004) rfl rfl (Nat.le_of_ble_eq_true rfl) (Nat.le_of_ble_eq_true rfl) (fun r w_150 H locs hq hP hD hS => ?_)
  obtain ⟨hr9, hPK⟩ := hq
  have hr9 : r = bI true := hr9
  rw [hr9]
  refine b_if_eq (z := true) (tgt := 163) hx hb dL_law_153 (by decide) (fun h => absurd h (by decide)) (fun _ => ?_)
  refine lv_aload_n hx hb dL_law_156 rfl (lv_at hl 3 rfl) ?_
  refine w_stS_i (As := [.ref xo]) (rest := []) hC hO hK hN hP hD hS hA (c_L_fails l D cI cJ cB H.size (by omega) hPK) q544 md_L_fails rfl hl.1 rfl (Nat.le_of_ble_eq_true rfl) dL_law_157 ⟨Nat.le_of_ble_eq_true rfl, Nat.le_of_ble_eq_true rfl⟩ (c1 := 92) (s1 := 29004) rfl rfl (Nat.le_of_ble_eq_true rfl) (Nat.le_of_ble_eq_true rfl) (fun r w_157 H locs hq hP hD hS => ?_)
  obtain ⟨hr9, hPK⟩ := hq
  have hr9 : r = bI true := hr9
  rw [hr9]
  refine b_if_ne (z := true) (tgt := 165) hx hb dL_law_160 (by decide) (fun _ => ?_) (fun h => absurd h (by decide))
  refine lv_iconst (v := nI 0) hx hb dL_law_165 (by decide) ?_
  refine lv_istore (lv' := [(5, .int (nI 0)), (4, .int (nI nn)), (3, .int (nI hv)), (2, .int (nI wv)), (1, .ref xo), (0, .ref b)]) hx hb dL_law_166 hl (by decide) rfl (fun ls hl => ?_)
  have L489 : ∀ (t1 : BT) (ws1 : va_W), (PK cI cJ cB xo 0 tx1 t1 [] ws1) → ∀ (H : Heap) (locs : List Loc), va_P D vwCl (oW cI cJ cB ws1) H → va_D A (oW cI cJ cB ws1) → va_S A s.heap H locs → ∀ ls : Array Slot, lv_has ls 17 [(1, .ref xo)] → W p l e room_1 s m #[Value.ref b] below meth c H locs 92 29004 QQ (F0 m 489 ls []) := by
    intro t1 ws1 hPK H locs hP hD hS ls hl
    refine lv_aload_n hx hb dL_law_489 rfl (lv_at hl 0 rfl) ?_
    refine w_stS_i (As := [.ref xo]) (rest := []) hC hO hK hN hP hD hS hA (c_L_agrees l D cI cJ cB H.size hPK) q690 md_L_agrees rfl hl.1 rfl (Nat.le_of_ble_eq_true rfl) dL_law_490 ⟨Nat.le_of_ble_eq_true rfl, Nat.le_of_ble_eq_true rfl⟩ (c1 := 93) (s1 := 29012) rfl rfl (Nat.le_of_ble_eq_true rfl) (Nat.le_of_ble_eq_true rfl) (fun r w_490 H locs hq hP hD hS => ?_)
    obtain ⟨hr9, hPK⟩ := hq
    have hr9 : r = bI true := hr9
    rw [hr9]
    refine b_if_eq (z := true) (tgt := 507) hx hb dL_law_493 (by decide) (fun h => absurd h (by decide)) (fun _ => ?_)
    refine lv_aload_n hx hb dL_law_496 rfl (lv_at hl 0 rfl) ?_
    refine w_stS_i (As := [.ref xo]) (rest := []) hC hO hK hN hP hD hS hA (c_L_fails l D cI cJ cB H.size (by omega) hPK) q544 md_L_fails rfl hl.1 rfl (Nat.le_of_ble_eq_true rfl) dL_law_497 ⟨Nat.le_of_ble_eq_true rfl, Nat.le_of_ble_eq_true rfl⟩ (c1 := 93) (s1 := 29012) rfl rfl (Nat.le_of_ble_eq_true rfl) (Nat.le_of_ble_eq_true rfl) (fun r w_497 H locs hq hP hD hS => ?_)
    obtain ⟨hr9, hPK⟩ := hq
    have hr9 : r = bI true := hr9
    rw [hr9]
    refine b_if_eq (z := true) (tgt := 507) hx hb dL_law_500 (by decide) (fun h => absurd h (by decide)) (fun _ => ?_)
    refine lv_iconst (v := nI 1) hx hb dL_law_503 (by decide) ?_
    refine topi (y := 1) rfl ?_
    refine lv_goto (tgt := 508) hx hb dL_law_504 (by decide) ?_
    rw [hQ]
    subst hAe
    refine va_forget (fun q hq => hS.2.2 q hq) ?_
    refine W.widen (k := 600000) (n := 7302250) (Nat.le_of_ble_eq_true rfl) (Nat.le_of_ble_eq_true rfl) ?_
    refine W.base ?_
    exact lw_ret (Drawn.sameBut.refl s.drawn lw_cs) hx hb hr hlocks dL_law_508
  have L168 : ∀ (n : Nat) (kq : Nat) (t1 : BT) (ws1 : va_W), (kq ≤ 4) → (twd t1 = wv ∧ thd t1 = hv ∧ tnb t1 = nn) → (PK cI cJ cB xo 0 tx1 t1 [] ws1) → (5 - kq) < n → ∀ (H : Heap) (locs : List Loc), va_P D vwCl (oW cI cJ cB ws1) H → va_D A (oW cI cJ cB ws1) → va_S A s.heap H locs → ∀ ls : Array Slot, lv_has ls 17 [(5, .int (nI kq)), (4, .int (nI nn)), (3, .int (nI hv)), (2, .int (nI wv)), (1, .ref xo), (0, .ref b)] → W p l e room_1 s m #[Value.ref b] below meth c H locs 92 29004 QQ (F0 m 168 ls []) := by
    intro n; induction n with
    | zero => intro kq t1 ws1 hkq hf1 hPK hm; exact absurd hm (Nat.not_lt_zero _)
    | succ n ih168 =>
      intro kq t1 ws1 hkq hf1 hPK hm168 H locs hP hD hS ls hl
      obtain ⟨hwd1, hhd1, hnb1⟩ := hf1
      have hT1 : TVt t1 := hPK.tv
      have hn7 : tnb t1 ≤ 7 := TV_n hT1
      refine lv_iload hx hb dL_law_168 (lv_at hl 0 rfl) ?_
      refine lv_iconst (v := nI 4) hx hb dL_law_170 (by decide) ?_
      refine n_icmp_ge (a := kq) (b := 4) (tgt := 489) hx hb dL_law_171 (by decide) (by omega) (by omega) (fun c171 => ?_) (fun c171 => ?_)
      · have _ : True := trivial
        exact L489 t1 ws1 hPK  _ _ hP hD hS _ (lv_sub hl [4] rfl)
      · have _ : True := trivial
        refine lv_iload hx hb dL_law_174 (lv_at hl 1 rfl) ?_
        refine n_if_le (tgt := 489) hx hb dL_law_176 (by decide) (by omega) (fun c176 => ?_) (fun c176 => ?_)
        · have _ : True := trivial
          exact L489 t1 ws1 hPK  _ _ hP hD hS _ (lv_sub hl [4] rfl)
        · have _ : True := trivial
          refine lv_aload_n hx hb dL_law_179 rfl (lv_at hl 5 rfl) ?_
          refine lv_bipush (v := nI 8) hx hb dL_law_180 (by decide) ?_
          refine lv_iload hx hb dL_law_182 (lv_at hl 0 rfl) ?_
          refine n_iadd hx hb dL_law_184  ?_
          refine w_stE_i (pr := fun _ => True) (As := [.ref b, .int (nI (8 + kq))]) (rest := []) hX hbl hbA hC hO hK hN hP hD hS hA (c_L_cell l D cI cJ cB (ws := []) H.size (k := 8 + kq) (b0 := b) (L0 := L) (xs := xs) (by omega) (by omega)) q536 md_L_cell rfl hl.1 rfl (Nat.le_of_ble_eq_true rfl) dL_law_185 ⟨Nat.le_of_ble_eq_true rfl, Nat.le_of_ble_eq_true rfl⟩ (Nat.le_of_ble_eq_true rfl) (Nat.le_of_ble_eq_true rfl) (fun r_185 H locs hr9 hP hD hS => ?_)
          refine lv_istore (lv' := [(6, .int r_185), (5, .int (nI kq)), (4, .int (nI nn)), (3, .int (nI hv)), (2, .int (nI wv)), (1, .ref xo), (0, .ref b)]) hx hb dL_law_188 hl (by decide) rfl (fun ls hl => ?_)
          refine lv_iload hx hb dL_law_190 (lv_at hl 0 rfl) ?_
          refine lv_iload hx hb dL_law_192 (lv_at hl 2 rfl) ?_
          refine w_stE_i (pr := fun r => ∃ j, j < nn ∧ r = nI j) (As := [.int r_185, .int (nI nn)]) (rest := []) hX hbl hbA hC hO hK hN hP hD hS hA (c_L_up l D cI cJ cB (ws := []) H.size (x := r_185) (mo := nn) (b0 := b) (L0 := L) (xs := xs) (by omega) (by omega)) q540 md_L_up rfl hl.1 rfl (Nat.le_of_ble_eq_true rfl) dL_law_194 ⟨Nat.le_of_ble_eq_true rfl, Nat.le_of_ble_eq_true rfl⟩ (Nat.le_of_ble_eq_true rfl) (Nat.le_of_ble_eq_true rfl) (fun r_194 H locs hr9 hP hD hS => ?_)
          obtain ⟨bb, bbl, rfl⟩ := hr9
          refine lv_istore (lv' := [(7, .int (nI bb)), (6, .int r_185), (5, .int (nI kq)), (4, .int (nI nn)), (3, .int (nI hv)), (2, .int (nI wv)), (1, .ref xo), (0, .ref b)]) hx hb dL_law_197 hl (by decide) rfl (fun ls hl => ?_)
          have hb7 : bb < tnb t1 := by omega
          refine lv_iload hx hb dL_law_199 (lv_at hl 1 rfl) ?_
          refine lv_iconst (v := nI 4) hx hb dL_law_201 (by decide) ?_
          refine lv_ishr hx hb dL_law_202 ?_
          refine lv_iload_n hx hb dL_law_203 rfl (lv_at hl 5 rfl) ?_
          refine lv_iload_n hx hb dL_law_204 rfl (lv_at hl 4 rfl) ?_
          refine n_imul hx hb dL_law_205  ?_
          refine w_stE_i (pr := fun r => ∃ j, j < wv * hv ∧ r = nI j) (As := [.int (r_185 >>> ((nI 4) &&& 31)), .int (nI (wv * hv))]) (rest := []) hX hbl hbA hC hO hK hN hP hD hS hA (c_L_up l D cI cJ cB (ws := []) H.size (x := r_185 >>> ((nI 4) &&& 31)) (mo := (wv * hv)) (b0 := b) (L0 := L) (xs := xs) (by omega) (by omega)) q540 md_L_up rfl hl.1 rfl (Nat.le_of_ble_eq_true rfl) dL_law_206 ⟨Nat.le_of_ble_eq_true rfl, Nat.le_of_ble_eq_true rfl⟩ (Nat.le_of_ble_eq_true rfl) (Nat.le_of_ble_eq_true rfl) (fun r_206 H locs hr9 hP hD hS => ?_)
          obtain ⟨pl, pll, rfl⟩ := hr9
          refine lv_istore (lv' := [(8, .int (nI pl)), (7, .int (nI bb)), (6, .int r_185), (5, .int (nI kq)), (4, .int (nI nn)), (3, .int (nI hv)), (2, .int (nI wv)), (1, .ref xo), (0, .ref b)]) hx hb dL_law_209 hl (by decide) rfl (fun ls hl => ?_)
          have L350 : ∀ (t2 : BT) (ws2 : va_W), (twd t2 = wv ∧ thd t2 = hv ∧ tnb t2 = nn) → (PK cI cJ cB xo 0 tx1 t2 [] ws2) → ∀ (H : Heap) (locs : List Loc), va_P D vwCl (oW cI cJ cB ws2) H → va_D A (oW cI cJ cB ws2) → va_S A s.heap H locs → ∀ ls : Array Slot, lv_has ls 17 [(8, .int (nI pl)), (7, .int (nI bb)), (6, .int r_185), (5, .int (nI kq)), (4, .int (nI nn)), (3, .int (nI hv)), (2, .int (nI wv)), (1, .ref xo), (0, .ref b)] → W p l e room_1 s m #[Value.ref b] below meth c H locs 92 29004 QQ (F0 m 350 ls []) := by
            intro t2 ws2 hf2 hPK H locs hP hD hS ls hl
            refine lv_aload_n hx hb dL_law_350 rfl (lv_at hl 7 rfl) ?_
            refine lv_iconst (v := nI 4) hx hb dL_law_351 (by decide) ?_
            refine callQ_i (As := [.int (nI 4)]) (rest := []) (y_frame l D (nI 4)  hPK) hC hK hN hP hD hS rfl rfl q389 md_X7_frame rfl hl.1 rfl (Nat.le_of_ble_eq_true rfl) dL_law_352 ⟨Nat.le_of_ble_eq_true rfl, Nat.le_of_ble_eq_true rfl⟩ ⟨Nat.le_of_ble_eq_true rfl, Nat.le_of_ble_eq_true rfl⟩ (fun r w_352 H locs hq hP hD hS => ?_)
            obtain ⟨hPK, hr9⟩ := hq
            have hr9 : r = tst t2 := hr9.trans (frx (k := 4) (by decide))
            rw [hr9]
            refine lv_istore (lv' := [(11, .int (tst t2)), (8, .int (nI pl)), (7, .int (nI bb)), (6, .int r_185), (5, .int (nI kq)), (4, .int (nI nn)), (3, .int (nI hv)), (2, .int (nI wv)), (1, .ref xo), (0, .ref b)]) hx hb dL_law_355 hl (by decide) rfl (fun ls hl => ?_)
            refine lv_aload_n hx hb dL_law_357 rfl (lv_at hl 8 rfl) ?_
            refine lv_iconst (v := nI 5) hx hb dL_law_358 (by decide) ?_
            refine callQ_i (As := [.int (nI 5)]) (rest := []) (y_frame l D (nI 5)  hPK) hC hK hN hP hD hS rfl rfl q389 md_X7_frame rfl hl.1 rfl (Nat.le_of_ble_eq_true rfl) dL_law_359 ⟨Nat.le_of_ble_eq_true rfl, Nat.le_of_ble_eq_true rfl⟩ ⟨Nat.le_of_ble_eq_true rfl, Nat.le_of_ble_eq_true rfl⟩ (fun r w_359 H locs hq hP hD hS => ?_)
            obtain ⟨hPK, hr9⟩ := hq
            have hr9 : r = tsl t2 := hr9.trans (frx (k := 5) (by decide))
            rw [hr9]
            refine lv_istore (lv' := [(12, .int (tsl t2)), (11, .int (tst t2)), (8, .int (nI pl)), (7, .int (nI bb)), (6, .int r_185), (5, .int (nI kq)), (4, .int (nI nn)), (3, .int (nI hv)), (2, .int (nI wv)), (1, .ref xo), (0, .ref b)]) hx hb dL_law_362 hl (by decide) rfl (fun ls hl => ?_)
            refine lv_iconst (v := -1) hx hb dL_law_364 (by decide) ?_
            refine lv_istore (lv' := [(13, .int (-1)), (12, .int (tsl t2)), (11, .int (tst t2)), (8, .int (nI pl)), (7, .int (nI bb)), (6, .int r_185), (5, .int (nI kq)), (4, .int (nI nn)), (3, .int (nI hv)), (2, .int (nI wv)), (1, .ref xo), (0, .ref b)]) hx hb dL_law_365 hl (by decide) rfl (fun ls hl => ?_)
            refine lv_iconst (v := nI 0) hx hb dL_law_367 (by decide) ?_
            refine lv_istore (lv' := [(14, .int (nI 0)), (13, .int (-1)), (12, .int (tsl t2)), (11, .int (tst t2)), (8, .int (nI pl)), (7, .int (nI bb)), (6, .int r_185), (5, .int (nI kq)), (4, .int (nI nn)), (3, .int (nI hv)), (2, .int (nI wv)), (1, .ref xo), (0, .ref b)]) hx hb dL_law_368 hl (by decide) rfl (fun ls hl => ?_)
            have L370 : ∀ (n : Nat) (ij : Nat) (t3 : BT) (lo : Option Nat) (ws3 : va_W), (ij ≤ 5) → (twd t3 = wv ∧ thd t3 = hv ∧ tnb t3 = nn) → (∀ d, lo = some d → tlb t3 = some d ∧ d < 7) → (PK cI cJ cB xo 0 tx1 t3 [] ws3) → (6 - ij) < n → ∀ (H : Heap) (locs : List Loc), va_P D vwCl (oW cI cJ cB ws3) H → va_D A (oW cI cJ cB ws3) → va_S A s.heap H locs → ∀ ls : Array Slot, lv_has ls 17 [(11, .int (tst t3)), (12, .int (tsl t3)), (13, .int (oI lo)), (14, .int (nI ij)), (8, .int (nI pl)), (7, .int (nI bb)), (6, .int r_185), (5, .int (nI kq)), (4, .int (nI nn)), (3, .int (nI hv)), (2, .int (nI wv)), (1, .ref xo), (0, .ref b)] → W p l e room_1 s m #[Value.ref b] below meth c H locs 92 29004 QQ (F0 m 370 ls []) := by
              intro n; induction n with
              | zero => intro ij t3 lo ws3 hij hf3 hlo hPK hm; exact absurd hm (Nat.not_lt_zero _)
              | succ n ih370 =>
                intro ij t3 lo ws3 hij hf3 hlo hPK hm370 H locs hP hD hS ls hl
                have hT3 : TVt t3 := hPK.tv
                have hn73 : tnb t3 ≤ 7 := TV_n hT3
                have hnb3 := hf3.2.2
                refine lv_iload hx hb dL_law_370 (lv_at hl 3 rfl) ?_
                refine lv_iconst (v := nI 5) hx hb dL_law_372 (by decide) ?_
                refine n_icmp_ge (a := ij) (b := 5) (tgt := 483) hx hb dL_law_373 (by decide) (by omega) (by omega) (fun c373 => ?_) (fun c373 => ?_)
                · have _ : True := trivial
                  refine lv_iinc (v := nI (kq + 1)) (lv' := [(5, .int (nI (kq + 1))), (11, .int (tst t3)), (12, .int (tsl t3)), (13, .int (oI lo)), (14, .int (nI ij)), (8, .int (nI pl)), (7, .int (nI bb)), (6, .int r_185), (4, .int (nI nn)), (3, .int (nI hv)), (2, .int (nI wv)), (1, .ref xo), (0, .ref b)]) hx hb dL_law_483 hl (k := 7) rfl (nI_1 _) (by decide) rfl (fun ls hl => ?_)
                  refine lv_goto (tgt := 168) hx hb dL_law_486 (by decide) ?_
                  exact ih168 (kq + 1) t3 ws3 (by omega) hf3 hPK (by omega) _ _ hP hD hS _ (lv_sub hl [0, 8, 9, 10, 11, 12] rfl)
                · have _ : True := trivial
                  refine lv_iload hx hb dL_law_376 (lv_at hl 6 rfl) ?_
                  refine lv_iconst (v := nI 3) hx hb dL_law_378 (by decide) ?_
                  refine lv_iload hx hb dL_law_379 (lv_at hl 3 rfl) ?_
                  refine n_imul hx hb dL_law_381  ?_
                  refine lv_ishr hx hb dL_law_382 ?_
                  refine lv_iload hx hb dL_law_383 (lv_at hl 8 rfl) ?_
                  refine w_stE_i (pr := fun r => ∃ j, j < nn ∧ r = nI j) (As := [.int (r_185 >>> ((nI (3 * ij)) &&& 31)), .int (nI nn)]) (rest := []) hX hbl hbA hC hO hK hN hP hD hS hA (c_L_up l D cI cJ cB (ws := []) H.size (x := r_185 >>> ((nI (3 * ij)) &&& 31)) (mo := nn) (b0 := b) (L0 := L) (xs := xs) (by omega) (by omega)) q540 md_L_up rfl hl.1 rfl (Nat.le_of_ble_eq_true rfl) dL_law_385 ⟨Nat.le_of_ble_eq_true rfl, Nat.le_of_ble_eq_true rfl⟩ (Nat.le_of_ble_eq_true rfl) (Nat.le_of_ble_eq_true rfl) (fun r_385 H locs hr9 hP hD hS => ?_)
                  obtain ⟨cb, cbl, rfl⟩ := hr9
                  refine lv_istore (lv' := [(15, .int (nI cb)), (11, .int (tst t3)), (12, .int (tsl t3)), (13, .int (oI lo)), (14, .int (nI ij)), (8, .int (nI pl)), (7, .int (nI bb)), (6, .int r_185), (5, .int (nI kq)), (4, .int (nI nn)), (3, .int (nI hv)), (2, .int (nI wv)), (1, .ref xo), (0, .ref b)]) hx hb dL_law_388 hl (by decide) rfl (fun ls hl => ?_)
                  refine lv_iload hx hb dL_law_390 (lv_at hl 7 rfl) ?_
                  refine lv_iconst (v := nI 5) hx hb dL_law_392 (by decide) ?_
                  refine lv_iconst (v := nI 3) hx hb dL_law_393 (by decide) ?_
                  refine lv_iload hx hb dL_law_394 (lv_at hl 4 rfl) ?_
                  refine n_imul hx hb dL_law_396  ?_
                  refine n_iadd hx hb dL_law_397  ?_
                  refine lv_ishr hx hb dL_law_398 ?_
                  refine lv_iconst (v := nI 3) hx hb dL_law_399 (by decide) ?_
                  obtain ⟨dd, hdd4, hdd⟩ := and3 (r_185 >>> (nI (5 + 3 * ij) &&& 31))
                  refine lv_iand hx hb dL_law_400 ?_
                  refine topi (y := nI dd) hdd ?_
                  refine lv_istore (lv' := [(16, .int (nI dd)), (15, .int (nI cb)), (11, .int (tst t3)), (12, .int (tsl t3)), (13, .int (oI lo)), (14, .int (nI ij)), (8, .int (nI pl)), (7, .int (nI bb)), (6, .int r_185), (5, .int (nI kq)), (4, .int (nI nn)), (3, .int (nI hv)), (2, .int (nI wv)), (1, .ref xo), (0, .ref b)]) hx hb dL_law_401 hl (by decide) rfl (fun ls hl => ?_)
                  have hcb : cb < tnb t3 := by omega
                  rcases hm : mv4 t3 cb dd with _ | qq
                  · have _ : True := trivial
                    have hcb : cb < tnb t3 := by omega
                    refine lv_aload_n hx hb dL_law_403 rfl (lv_at hl 13 rfl) ?_
                    refine lv_iload hx hb dL_law_404 (lv_at hl 1 rfl) ?_
                    refine lv_iload hx hb dL_law_406 (lv_at hl 0 rfl) ?_
                    refine callQ_i (As := [.int (nI cb), .int (nI dd)]) (rest := []) (y_step_no l D (nI cb) (nI dd) (stm_0 hcb hn73 hdd4 hm) hPK) hC hK hN hP hD hS rfl rfl q459 md_X7_step rfl hl.1 rfl (Nat.le_of_ble_eq_true rfl) dL_law_408 ⟨Nat.le_of_ble_eq_true rfl, Nat.le_of_ble_eq_true rfl⟩ ⟨Nat.le_of_ble_eq_true rfl, Nat.le_of_ble_eq_true rfl⟩ (fun r w_408 H locs hq hP hD hS => ?_)
                    obtain ⟨hPK, hr9⟩ := hq
                    have hr9 : r = (-2) := hr9.trans (str_0 hcb hn73 hdd4 hm)
                    rw [hr9]
                    refine lv_if_lt (tgt := 455) hx hb dL_law_411 (by decide) (fun _ => ?_) (fun h => absurd (by decide) h)
                    refine lv_aload_n hx hb dL_law_455 rfl (lv_at hl 13 rfl) ?_
                    refine lv_iconst (v := nI 4) hx hb dL_law_456 (by decide) ?_
                    refine callQ_i (As := [.int (nI 4)]) (rest := []) (y_frame l D (nI 4)  hPK) hC hK hN hP hD hS rfl rfl q389 md_X7_frame rfl hl.1 rfl (Nat.le_of_ble_eq_true rfl) dL_law_457 ⟨Nat.le_of_ble_eq_true rfl, Nat.le_of_ble_eq_true rfl⟩ ⟨Nat.le_of_ble_eq_true rfl, Nat.le_of_ble_eq_true rfl⟩ (fun r w_457 H locs hq hP hD hS => ?_)
                    obtain ⟨hPK, hr9⟩ := hq
                    have hr9 : r = tst t3 := hr9.trans (frx (k := 4) (by decide))
                    rw [hr9]
                    refine lv_iload hx hb dL_law_460 (lv_at hl 2 rfl) ?_
                    refine lv_icmp_ne (tgt := 475) hx hb dL_law_462 (by decide) (fun h9 => absurd h9 (fun h => h rfl)) (fun _ => ?_)
                    refine lv_aload_n hx hb dL_law_465 rfl (lv_at hl 13 rfl) ?_
                    refine lv_iconst (v := nI 5) hx hb dL_law_466 (by decide) ?_
                    refine callQ_i (As := [.int (nI 5)]) (rest := []) (y_frame l D (nI 5)  hPK) hC hK hN hP hD hS rfl rfl q389 md_X7_frame rfl hl.1 rfl (Nat.le_of_ble_eq_true rfl) dL_law_467 ⟨Nat.le_of_ble_eq_true rfl, Nat.le_of_ble_eq_true rfl⟩ ⟨Nat.le_of_ble_eq_true rfl, Nat.le_of_ble_eq_true rfl⟩ (fun r w_467 H locs hq hP hD hS => ?_)
                    obtain ⟨hPK, hr9⟩ := hq
                    have hr9 : r = tsl t3 := hr9.trans (frx (k := 5) (by decide))
                    rw [hr9]
                    refine lv_iload hx hb dL_law_470 (lv_at hl 3 rfl) ?_
                    refine lv_icmp_eq (tgt := 477) hx hb dL_law_472 (by decide) (fun _ => ?_) (fun h9 => absurd rfl h9)
                    refine lv_iinc (v := nI (ij + 1)) (lv' := [(14, .int (nI (ij + 1))), (16, .int (nI dd)), (15, .int (nI cb)), (11, .int (tst t3)), (12, .int (tsl t3)), (13, .int (oI lo)), (8, .int (nI pl)), (7, .int (nI bb)), (6, .int r_185), (5, .int (nI kq)), (4, .int (nI nn)), (3, .int (nI hv)), (2, .int (nI wv)), (1, .ref xo), (0, .ref b)]) hx hb dL_law_477 hl (k := 5) rfl (nI_1 _) (by decide) rfl (fun ls hl => ?_)
                    refine lv_goto (tgt := 370) hx hb dL_law_480 (by decide) ?_
                    exact ih370 (ij + 1) t3 lo w_467 (by omega) hf3 hlo hPK (by omega) _ _ hP hD hS _ (lv_sub hl [3, 4, 5, 0, 6, 7, 8, 9, 10, 11, 12, 13, 14] rfl)
                  · have _ : True := trivial
                    have hq24 : qq < 24 := mv4_lt hT3 hcb hm
                    have hcb : cb < tnb t3 := by omega
                    refine lv_aload_n hx hb dL_law_403 rfl (lv_at hl 13 rfl) ?_
                    refine lv_iload hx hb dL_law_404 (lv_at hl 1 rfl) ?_
                    refine lv_iload hx hb dL_law_406 (lv_at hl 0 rfl) ?_
                    refine callQ_i (As := [.int (nI cb), .int (nI dd)]) (rest := []) (y_step_go l D (nI cb) (nI dd) (Nat.zero_le _) (stm_1 hcb hn73 hdd4 hm) hPK) hC hK hN hP hD hS rfl rfl q459 md_X7_step rfl hl.1 rfl (Nat.le_of_ble_eq_true rfl) dL_law_408 ⟨Nat.le_of_ble_eq_true rfl, Nat.le_of_ble_eq_true rfl⟩ ⟨Nat.le_of_ble_eq_true rfl, Nat.le_of_ble_eq_true rfl⟩ (fun r w_408 H locs hq hP hD hS => ?_)
                    obtain ⟨hPK, hr9⟩ := hq
                    have hPK := hPK.nil
                    have hr9 : r = nI qq := hr9.trans (str_1 hcb hn73 hdd4 hm)
                    rw [hr9]
                    refine n_if_lt (tgt := 455) hx hb dL_law_411 (by decide) (by omega) ?_
                    refine lv_iinc (v := tst (mvT t3 cb qq 1 false)) (lv' := [(11, .int (tst (mvT t3 cb qq 1 false))), (16, .int (nI dd)), (15, .int (nI cb)), (12, .int (tsl t3)), (13, .int (oI lo)), (14, .int (nI ij)), (8, .int (nI pl)), (7, .int (nI bb)), (6, .int r_185), (5, .int (nI kq)), (4, .int (nI nn)), (3, .int (nI hv)), (2, .int (nI wv)), (1, .ref xo), (0, .ref b)]) hx hb dL_law_414 hl (k := 2) rfl rfl (by decide) rfl (fun ls hl => ?_)
                    rcases lo with _ | d
                    · have _ : True := trivial
                      refine lv_iload hx hb dL_law_417 (lv_at hl 3 rfl) ?_
                      refine lv_iload hx hb dL_law_419 (lv_at hl 4 rfl) ?_
                      refine lv_iload hx hb dL_law_421 (lv_at hl 2 rfl) ?_
                      refine lv_icmp_ne (tgt := 430) hx hb dL_law_423 (by decide) (fun _ => ?_) (fun h9 => absurd h9 (m1_ne (by omega)))
                      refine lv_iconst (v := nI 1) hx hb dL_law_430 (by decide) ?_
                      refine lv_iadd hx hb dL_law_431 ?_
                      refine lv_istore (lv' := [(12, .int ((tsl t3) + (nI 1))), (11, .int (tst (mvT t3 cb qq 1 false))), (16, .int (nI dd)), (15, .int (nI cb)), (13, .int (-1)), (14, .int (nI ij)), (8, .int (nI pl)), (7, .int (nI bb)), (6, .int r_185), (5, .int (nI kq)), (4, .int (nI nn)), (3, .int (nI hv)), (2, .int (nI wv)), (1, .ref xo), (0, .ref b)]) hx hb dL_law_432 hl (by decide) rfl (fun ls hl => ?_)
                      refine lv_iload hx hb dL_law_434 (lv_at hl 4 rfl) ?_
                      refine lv_if_ge (tgt := 447) hx hb dL_law_436 (by decide) (fun h => absurd h (by decide)) (fun _ => ?_)
                      refine lv_aload_n hx hb dL_law_439 rfl (lv_at hl 13 rfl) ?_
                      refine lv_iconst (v := nI 5) hx hb dL_law_440 (by decide) ?_
                      refine callQ_i (As := [.int (nI 5)]) (rest := []) (y_frame l D (nI 5)  hPK) hC hK hN hP hD hS rfl rfl q389 md_X7_frame rfl hl.1 rfl (Nat.le_of_ble_eq_true rfl) dL_law_441 ⟨Nat.le_of_ble_eq_true rfl, Nat.le_of_ble_eq_true rfl⟩ ⟨Nat.le_of_ble_eq_true rfl, Nat.le_of_ble_eq_true rfl⟩ (fun r w_441 H locs hq hP hD hS => ?_)
                      obtain ⟨hPK, hr9⟩ := hq
                      have hr9 : r = tsl (mvT t3 cb qq 1 false) := hr9.trans (frx (k := 5) (by decide))
                      rw [hr9]
                      refine lv_goto (tgt := 449) hx hb dL_law_444 (by decide) ?_
                      refine lv_istore (lv' := [(12, .int (tsl (mvT t3 cb qq 1 false))), (11, .int (tst (mvT t3 cb qq 1 false))), (16, .int (nI dd)), (15, .int (nI cb)), (13, .int (-1)), (14, .int (nI ij)), (8, .int (nI pl)), (7, .int (nI bb)), (6, .int r_185), (5, .int (nI kq)), (4, .int (nI nn)), (3, .int (nI hv)), (2, .int (nI wv)), (1, .ref xo), (0, .ref b)]) hx hb dL_law_449 hl (by decide) rfl (fun ls hl => ?_)
                      refine lv_iload hx hb dL_law_451 (lv_at hl 3 rfl) ?_
                      refine lv_istore (lv' := [(13, .int (nI cb)), (12, .int (tsl (mvT t3 cb qq 1 false))), (11, .int (tst (mvT t3 cb qq 1 false))), (16, .int (nI dd)), (15, .int (nI cb)), (14, .int (nI ij)), (8, .int (nI pl)), (7, .int (nI bb)), (6, .int r_185), (5, .int (nI kq)), (4, .int (nI nn)), (3, .int (nI hv)), (2, .int (nI wv)), (1, .ref xo), (0, .ref b)]) hx hb dL_law_453 hl (by decide) rfl (fun ls hl => ?_)
                      refine lv_aload_n hx hb dL_law_455 rfl (lv_at hl 13 rfl) ?_
                      refine lv_iconst (v := nI 4) hx hb dL_law_456 (by decide) ?_
                      refine callQ_i (As := [.int (nI 4)]) (rest := []) (y_frame l D (nI 4)  hPK) hC hK hN hP hD hS rfl rfl q389 md_X7_frame rfl hl.1 rfl (Nat.le_of_ble_eq_true rfl) dL_law_457 ⟨Nat.le_of_ble_eq_true rfl, Nat.le_of_ble_eq_true rfl⟩ ⟨Nat.le_of_ble_eq_true rfl, Nat.le_of_ble_eq_true rfl⟩ (fun r w_457 H locs hq hP hD hS => ?_)
                      obtain ⟨hPK, hr9⟩ := hq
                      have hr9 : r = tst (mvT t3 cb qq 1 false) := hr9.trans (frx (k := 4) (by decide))
                      rw [hr9]
                      refine lv_iload hx hb dL_law_460 (lv_at hl 2 rfl) ?_
                      refine lv_icmp_ne (tgt := 475) hx hb dL_law_462 (by decide) (fun h9 => absurd h9 (fun h => h rfl)) (fun _ => ?_)
                      refine lv_aload_n hx hb dL_law_465 rfl (lv_at hl 13 rfl) ?_
                      refine lv_iconst (v := nI 5) hx hb dL_law_466 (by decide) ?_
                      refine callQ_i (As := [.int (nI 5)]) (rest := []) (y_frame l D (nI 5)  hPK) hC hK hN hP hD hS rfl rfl q389 md_X7_frame rfl hl.1 rfl (Nat.le_of_ble_eq_true rfl) dL_law_467 ⟨Nat.le_of_ble_eq_true rfl, Nat.le_of_ble_eq_true rfl⟩ ⟨Nat.le_of_ble_eq_true rfl, Nat.le_of_ble_eq_true rfl⟩ (fun r w_467 H locs hq hP hD hS => ?_)
                      obtain ⟨hPK, hr9⟩ := hq
                      have hr9 : r = tsl (mvT t3 cb qq 1 false) := hr9.trans (frx (k := 5) (by decide))
                      rw [hr9]
                      refine lv_iload hx hb dL_law_470 (lv_at hl 1 rfl) ?_
                      refine lv_icmp_eq (tgt := 477) hx hb dL_law_472 (by decide) (fun _ => ?_) (fun h9 => absurd rfl h9)
                      refine lv_iinc (v := nI (ij + 1)) (lv' := [(14, .int (nI (ij + 1))), (13, .int (nI cb)), (12, .int (tsl (mvT t3 cb qq 1 false))), (11, .int (tst (mvT t3 cb qq 1 false))), (16, .int (nI dd)), (15, .int (nI cb)), (8, .int (nI pl)), (7, .int (nI bb)), (6, .int r_185), (5, .int (nI kq)), (4, .int (nI nn)), (3, .int (nI hv)), (2, .int (nI wv)), (1, .ref xo), (0, .ref b)]) hx hb dL_law_477 hl (k := 5) rfl (nI_1 _) (by decide) rfl (fun ls hl => ?_)
                      refine lv_goto (tgt := 370) hx hb dL_law_480 (by decide) ?_
                      exact ih370 (ij + 1) (mvT t3 cb qq 1 false) (some cb) w_467 (by omega) hf3 (fun d h => by cases h; exact ⟨rfl, by omega⟩) hPK (by omega) _ _ hP hD hS _ (lv_sub hl [3, 2, 1, 0, 6, 7, 8, 9, 10, 11, 12, 13, 14] rfl)
                    · have _ : True := trivial
                      obtain ⟨hlb, hd7⟩ := hlo d rfl
                      refine lv_iload hx hb dL_law_417 (lv_at hl 3 rfl) ?_
                      refine lv_iload hx hb dL_law_419 (lv_at hl 4 rfl) ?_
                      refine lv_iload hx hb dL_law_421 (lv_at hl 2 rfl) ?_
                      refine n_icmp_ne (a := d) (b := cb) (tgt := 430) hx hb dL_law_423 (by decide) (by omega) (by omega) (fun c423 => ?_) (fun c423 => ?_)
                      · have _ : True := trivial
                        refine lv_iconst (v := nI 1) hx hb dL_law_430 (by decide) ?_
                        refine lv_iadd hx hb dL_law_431 ?_
                        refine topi (y := tsl (mvT t3 cb qq 1 false)) (mvs_ne hlb c423) ?_
                        refine lv_istore (lv' := [(12, .int (tsl (mvT t3 cb qq 1 false))), (11, .int (tst (mvT t3 cb qq 1 false))), (16, .int (nI dd)), (15, .int (nI cb)), (13, .int (nI d)), (14, .int (nI ij)), (8, .int (nI pl)), (7, .int (nI bb)), (6, .int r_185), (5, .int (nI kq)), (4, .int (nI nn)), (3, .int (nI hv)), (2, .int (nI wv)), (1, .ref xo), (0, .ref b)]) hx hb dL_law_432 hl (by decide) rfl (fun ls hl => ?_)
                        refine lv_iload hx hb dL_law_434 (lv_at hl 4 rfl) ?_
                        refine n_if_ge (tgt := 447) hx hb dL_law_436 (by decide) (by omega) ?_
                        refine lv_iload hx hb dL_law_447 (lv_at hl 0 rfl) ?_
                        refine lv_istore (lv' := [(12, .int (tsl (mvT t3 cb qq 1 false))), (11, .int (tst (mvT t3 cb qq 1 false))), (16, .int (nI dd)), (15, .int (nI cb)), (13, .int (nI d)), (14, .int (nI ij)), (8, .int (nI pl)), (7, .int (nI bb)), (6, .int r_185), (5, .int (nI kq)), (4, .int (nI nn)), (3, .int (nI hv)), (2, .int (nI wv)), (1, .ref xo), (0, .ref b)]) hx hb dL_law_449 hl (by decide) rfl (fun ls hl => ?_)
                        refine lv_iload hx hb dL_law_451 (lv_at hl 3 rfl) ?_
                        refine lv_istore (lv' := [(13, .int (nI cb)), (12, .int (tsl (mvT t3 cb qq 1 false))), (11, .int (tst (mvT t3 cb qq 1 false))), (16, .int (nI dd)), (15, .int (nI cb)), (14, .int (nI ij)), (8, .int (nI pl)), (7, .int (nI bb)), (6, .int r_185), (5, .int (nI kq)), (4, .int (nI nn)), (3, .int (nI hv)), (2, .int (nI wv)), (1, .ref xo), (0, .ref b)]) hx hb dL_law_453 hl (by decide) rfl (fun ls hl => ?_)
                        refine lv_aload_n hx hb dL_law_455 rfl (lv_at hl 13 rfl) ?_
                        refine lv_iconst (v := nI 4) hx hb dL_law_456 (by decide) ?_
                        refine callQ_i (As := [.int (nI 4)]) (rest := []) (y_frame l D (nI 4)  hPK) hC hK hN hP hD hS rfl rfl q389 md_X7_frame rfl hl.1 rfl (Nat.le_of_ble_eq_true rfl) dL_law_457 ⟨Nat.le_of_ble_eq_true rfl, Nat.le_of_ble_eq_true rfl⟩ ⟨Nat.le_of_ble_eq_true rfl, Nat.le_of_ble_eq_true rfl⟩ (fun r w_457 H locs hq hP hD hS => ?_)
                        obtain ⟨hPK, hr9⟩ := hq
                        have hr9 : r = tst (mvT t3 cb qq 1 false) := hr9.trans (frx (k := 4) (by decide))
                        rw [hr9]
                        refine lv_iload hx hb dL_law_460 (lv_at hl 2 rfl) ?_
                        refine lv_icmp_ne (tgt := 475) hx hb dL_law_462 (by decide) (fun h9 => absurd h9 (fun h => h rfl)) (fun _ => ?_)
                        refine lv_aload_n hx hb dL_law_465 rfl (lv_at hl 13 rfl) ?_
                        refine lv_iconst (v := nI 5) hx hb dL_law_466 (by decide) ?_
                        refine callQ_i (As := [.int (nI 5)]) (rest := []) (y_frame l D (nI 5)  hPK) hC hK hN hP hD hS rfl rfl q389 md_X7_frame rfl hl.1 rfl (Nat.le_of_ble_eq_true rfl) dL_law_467 ⟨Nat.le_of_ble_eq_true rfl, Nat.le_of_ble_eq_true rfl⟩ ⟨Nat.le_of_ble_eq_true rfl, Nat.le_of_ble_eq_true rfl⟩ (fun r w_467 H locs hq hP hD hS => ?_)
                        obtain ⟨hPK, hr9⟩ := hq
                        have hr9 : r = tsl (mvT t3 cb qq 1 false) := hr9.trans (frx (k := 5) (by decide))
                        rw [hr9]
                        refine lv_iload hx hb dL_law_470 (lv_at hl 1 rfl) ?_
                        refine lv_icmp_eq (tgt := 477) hx hb dL_law_472 (by decide) (fun _ => ?_) (fun h9 => absurd rfl h9)
                        refine lv_iinc (v := nI (ij + 1)) (lv' := [(14, .int (nI (ij + 1))), (13, .int (nI cb)), (12, .int (tsl (mvT t3 cb qq 1 false))), (11, .int (tst (mvT t3 cb qq 1 false))), (16, .int (nI dd)), (15, .int (nI cb)), (8, .int (nI pl)), (7, .int (nI bb)), (6, .int r_185), (5, .int (nI kq)), (4, .int (nI nn)), (3, .int (nI hv)), (2, .int (nI wv)), (1, .ref xo), (0, .ref b)]) hx hb dL_law_477 hl (k := 5) rfl (nI_1 _) (by decide) rfl (fun ls hl => ?_)
                        refine lv_goto (tgt := 370) hx hb dL_law_480 (by decide) ?_
                        exact ih370 (ij + 1) (mvT t3 cb qq 1 false) (some cb) w_467 (by omega) hf3 (fun d h => by cases h; exact ⟨rfl, by omega⟩) hPK (by omega) _ _ hP hD hS _ (lv_sub hl [3, 2, 1, 0, 6, 7, 8, 9, 10, 11, 12, 13, 14] rfl)
                      · have _ : True := trivial
                        refine lv_iconst (v := nI 0) hx hb dL_law_426 (by decide) ?_
                        refine lv_goto (tgt := 431) hx hb dL_law_427 (by decide) ?_
                        refine lv_iadd hx hb dL_law_431 ?_
                        refine topi (y := tsl (mvT t3 cb qq 1 false)) (mvs_eq hlb c423) ?_
                        refine lv_istore (lv' := [(12, .int (tsl (mvT t3 cb qq 1 false))), (11, .int (tst (mvT t3 cb qq 1 false))), (16, .int (nI dd)), (15, .int (nI cb)), (13, .int (nI d)), (14, .int (nI ij)), (8, .int (nI pl)), (7, .int (nI bb)), (6, .int r_185), (5, .int (nI kq)), (4, .int (nI nn)), (3, .int (nI hv)), (2, .int (nI wv)), (1, .ref xo), (0, .ref b)]) hx hb dL_law_432 hl (by decide) rfl (fun ls hl => ?_)
                        refine lv_iload hx hb dL_law_434 (lv_at hl 4 rfl) ?_
                        refine n_if_ge (tgt := 447) hx hb dL_law_436 (by decide) (by omega) ?_
                        refine lv_iload hx hb dL_law_447 (lv_at hl 0 rfl) ?_
                        refine lv_istore (lv' := [(12, .int (tsl (mvT t3 cb qq 1 false))), (11, .int (tst (mvT t3 cb qq 1 false))), (16, .int (nI dd)), (15, .int (nI cb)), (13, .int (nI d)), (14, .int (nI ij)), (8, .int (nI pl)), (7, .int (nI bb)), (6, .int r_185), (5, .int (nI kq)), (4, .int (nI nn)), (3, .int (nI hv)), (2, .int (nI wv)), (1, .ref xo), (0, .ref b)]) hx hb dL_law_449 hl (by decide) rfl (fun ls hl => ?_)
                        refine lv_iload hx hb dL_law_451 (lv_at hl 3 rfl) ?_
                        refine lv_istore (lv' := [(13, .int (nI cb)), (12, .int (tsl (mvT t3 cb qq 1 false))), (11, .int (tst (mvT t3 cb qq 1 false))), (16, .int (nI dd)), (15, .int (nI cb)), (14, .int (nI ij)), (8, .int (nI pl)), (7, .int (nI bb)), (6, .int r_185), (5, .int (nI kq)), (4, .int (nI nn)), (3, .int (nI hv)), (2, .int (nI wv)), (1, .ref xo), (0, .ref b)]) hx hb dL_law_453 hl (by decide) rfl (fun ls hl => ?_)
                        refine lv_aload_n hx hb dL_law_455 rfl (lv_at hl 13 rfl) ?_
                        refine lv_iconst (v := nI 4) hx hb dL_law_456 (by decide) ?_
                        refine callQ_i (As := [.int (nI 4)]) (rest := []) (y_frame l D (nI 4)  hPK) hC hK hN hP hD hS rfl rfl q389 md_X7_frame rfl hl.1 rfl (Nat.le_of_ble_eq_true rfl) dL_law_457 ⟨Nat.le_of_ble_eq_true rfl, Nat.le_of_ble_eq_true rfl⟩ ⟨Nat.le_of_ble_eq_true rfl, Nat.le_of_ble_eq_true rfl⟩ (fun r w_457 H locs hq hP hD hS => ?_)
                        obtain ⟨hPK, hr9⟩ := hq
                        have hr9 : r = tst (mvT t3 cb qq 1 false) := hr9.trans (frx (k := 4) (by decide))
                        rw [hr9]
                        refine lv_iload hx hb dL_law_460 (lv_at hl 2 rfl) ?_
                        refine lv_icmp_ne (tgt := 475) hx hb dL_law_462 (by decide) (fun h9 => absurd h9 (fun h => h rfl)) (fun _ => ?_)
                        refine lv_aload_n hx hb dL_law_465 rfl (lv_at hl 13 rfl) ?_
                        refine lv_iconst (v := nI 5) hx hb dL_law_466 (by decide) ?_
                        refine callQ_i (As := [.int (nI 5)]) (rest := []) (y_frame l D (nI 5)  hPK) hC hK hN hP hD hS rfl rfl q389 md_X7_frame rfl hl.1 rfl (Nat.le_of_ble_eq_true rfl) dL_law_467 ⟨Nat.le_of_ble_eq_true rfl, Nat.le_of_ble_eq_true rfl⟩ ⟨Nat.le_of_ble_eq_true rfl, Nat.le_of_ble_eq_true rfl⟩ (fun r w_467 H locs hq hP hD hS => ?_)
                        obtain ⟨hPK, hr9⟩ := hq
                        have hr9 : r = tsl (mvT t3 cb qq 1 false) := hr9.trans (frx (k := 5) (by decide))
                        rw [hr9]
                        refine lv_iload hx hb dL_law_470 (lv_at hl 1 rfl) ?_
                        refine lv_icmp_eq (tgt := 477) hx hb dL_law_472 (by decide) (fun _ => ?_) (fun h9 => absurd rfl h9)
                        refine lv_iinc (v := nI (ij + 1)) (lv' := [(14, .int (nI (ij + 1))), (13, .int (nI cb)), (12, .int (tsl (mvT t3 cb qq 1 false))), (11, .int (tst (mvT t3 cb qq 1 false))), (16, .int (nI dd)), (15, .int (nI cb)), (8, .int (nI pl)), (7, .int (nI bb)), (6, .int r_185), (5, .int (nI kq)), (4, .int (nI nn)), (3, .int (nI hv)), (2, .int (nI wv)), (1, .ref xo), (0, .ref b)]) hx hb dL_law_477 hl (k := 5) rfl (nI_1 _) (by decide) rfl (fun ls hl => ?_)
                        refine lv_goto (tgt := 370) hx hb dL_law_480 (by decide) ?_
                        exact ih370 (ij + 1) (mvT t3 cb qq 1 false) (some cb) w_467 (by omega) hf3 (fun d h => by cases h; exact ⟨rfl, by omega⟩) hPK (by omega) _ _ hP hD hS _ (lv_sub hl [3, 2, 1, 0, 6, 7, 8, 9, 10, 11, 12, 13, 14] rfl)
            exact L370 _ 0 t2 none w_359 (by omega) hf2 (fun d h => by cases h) hPK (Nat.lt_succ_self _) _ _ hP hD hS _ (lv_sub hl [3, 2, 1, 0, 4, 5, 6, 7, 8, 9, 10, 11, 12] rfl)
          rcases gl_4 hT1 hwd1 hhd1 hb7 pll with ⟨hi1, hi2, hgm, hat, hgr⟩ | ⟨hi1, hi2, hgm, hat, hgr⟩ | ⟨hi1, hgm, hgr⟩ | ⟨hi1, hi2, hgm, hgr⟩
          · have _ : True := trivial
            refine lv_aload_n hx hb dL_law_211 rfl (lv_at hl 7 rfl) ?_
            refine lv_iload hx hb dL_law_212 (lv_at hl 1 rfl) ?_
            refine lv_iload hx hb dL_law_214 (lv_at hl 0 rfl) ?_
            refine callQ_i (As := [.int (nI bb), .int (nI pl)]) (rest := []) (y_goal_go l D (nI bb) (nI pl) (Nat.zero_le _) hgm hPK) hC hK hN hP hD hS rfl rfl q468 md_X7_goal rfl hl.1 rfl (Nat.le_of_ble_eq_true rfl) dL_law_216 ⟨Nat.le_of_ble_eq_true rfl, Nat.le_of_ble_eq_true rfl⟩ ⟨Nat.le_of_ble_eq_true rfl, Nat.le_of_ble_eq_true rfl⟩ (fun r w_216 H locs hq hP hD hS => ?_)
            obtain ⟨hPK, hr9⟩ := hq
            have hPK := hPK.nil
            have hr9 : r = nI 1 := hr9.trans hgr
            rw [hr9]
            refine lv_istore (lv' := [(9, .int (nI 1)), (8, .int (nI pl)), (7, .int (nI bb)), (6, .int r_185), (5, .int (nI kq)), (4, .int (nI nn)), (3, .int (nI hv)), (2, .int (nI wv)), (1, .ref xo), (0, .ref b)]) hx hb dL_law_219 hl (by decide) rfl (fun ls hl => ?_)
            have hpw := Nat.mod_le pl wv
            have hpv := Nat.div_le_self pl wv
            have hbw9 : tbw t1 bb ≤ 6 := by have h9 := (hT1.1.2.2.2.2.2.2.2 bb hb7).2.1; have := (TV_w hT1).2.1; omega
            have hbh9 : tbh t1 bb ≤ 6 := by have h9 := (hT1.1.2.2.2.2.2.2.2 bb hb7).2.2.2.1; have := (TV_w hT1).2.2.2; omega
            have hps9 := (TV_p hT1 hb7).1
            have hc249 := TV_c hT1
            refine lv_iload hx hb dL_law_221 (lv_at hl 1 rfl) ?_
            refine lv_iload_n hx hb dL_law_223 rfl (lv_at hl 7 rfl) ?_
            refine n_irem hx hb dL_law_224 (by omega) (by omega) (by omega) ?_
            refine lv_aload_n hx hb dL_law_225 rfl (lv_at hl 8 rfl) ?_
            refine lv_iload hx hb dL_law_226 (lv_at hl 2 rfl) ?_
            refine lv_iconst (v := nI 2) hx hb dL_law_228 (by decide) ?_
            refine callQ_i (As := [.int (nI bb), .int (nI 2)]) (rest := [.int (nI (pl % wv))]) (y_block l D (nI bb) (nI 2)  hPK) hC hK hN hP hD hS rfl rfl q421 md_X7_block rfl hl.1 rfl (Nat.le_of_ble_eq_true rfl) dL_law_229 ⟨Nat.le_of_ble_eq_true rfl, Nat.le_of_ble_eq_true rfl⟩ ⟨Nat.le_of_ble_eq_true rfl, Nat.le_of_ble_eq_true rfl⟩ (fun r w_229 H locs hq hP hD hS => ?_)
            obtain ⟨hPK, hr9⟩ := hq
            have hr9 : r = nI (tbw t1 bb) := hr9.trans (blx (b := bb) (k := 2) hb7 hn7 (by decide))
            rw [hr9]
            refine n_iadd hx hb dL_law_232  ?_
            refine lv_iload_n hx hb dL_law_233 rfl (lv_at hl 7 rfl) ?_
            refine n_icmp_gt (a := (pl % wv) + (tbw t1 bb)) (b := wv) (tgt := 257) hx hb dL_law_234 (by decide) (by omega) (by omega) (fun h9 => absurd h9 (by omega)) (fun _ => ?_)
            refine lv_iload hx hb dL_law_237 (lv_at hl 1 rfl) ?_
            refine lv_iload_n hx hb dL_law_239 rfl (lv_at hl 7 rfl) ?_
            refine n_idiv hx hb dL_law_240 (by omega) (by omega) (by omega) ?_
            refine lv_aload_n hx hb dL_law_241 rfl (lv_at hl 8 rfl) ?_
            refine lv_iload hx hb dL_law_242 (lv_at hl 2 rfl) ?_
            refine lv_iconst (v := nI 3) hx hb dL_law_244 (by decide) ?_
            refine callQ_i (As := [.int (nI bb), .int (nI 3)]) (rest := [.int (nI (pl / wv))]) (y_block l D (nI bb) (nI 3)  hPK) hC hK hN hP hD hS rfl rfl q421 md_X7_block rfl hl.1 rfl (Nat.le_of_ble_eq_true rfl) dL_law_245 ⟨Nat.le_of_ble_eq_true rfl, Nat.le_of_ble_eq_true rfl⟩ ⟨Nat.le_of_ble_eq_true rfl, Nat.le_of_ble_eq_true rfl⟩ (fun r w_245 H locs hq hP hD hS => ?_)
            obtain ⟨hPK, hr9⟩ := hq
            have hr9 : r = nI (tbh t1 bb) := hr9.trans (blx (b := bb) (k := 3) hb7 hn7 (by decide))
            rw [hr9]
            refine n_iadd hx hb dL_law_248  ?_
            refine lv_iload_n hx hb dL_law_249 rfl (lv_at hl 6 rfl) ?_
            refine n_icmp_gt (a := (pl / wv) + (tbh t1 bb)) (b := hv) (tgt := 257) hx hb dL_law_250 (by decide) (by omega) (by omega) (fun h9 => absurd h9 (by omega)) (fun _ => ?_)
            refine lv_iconst (v := nI 1) hx hb dL_law_253 (by decide) ?_
            refine lv_goto (tgt := 258) hx hb dL_law_254 (by decide) ?_
            refine lv_istore (lv' := [(10, .int (nI 1)), (9, .int (nI 1)), (8, .int (nI pl)), (7, .int (nI bb)), (6, .int r_185), (5, .int (nI kq)), (4, .int (nI nn)), (3, .int (nI hv)), (2, .int (nI wv)), (1, .ref xo), (0, .ref b)]) hx hb dL_law_258 hl (by decide) rfl (fun ls hl => ?_)
            refine lv_iload hx hb dL_law_260 (lv_at hl 1 rfl) ?_
            refine lv_iload hx hb dL_law_262 (lv_at hl 0 rfl) ?_
            refine n_if_ne (a := 1) (tgt := 271) hx hb dL_law_264 (by decide) (by decide) (fun _ => ?_) (fun h => absurd h (by decide))
            refine lv_aload_n hx hb dL_law_271 rfl (lv_at hl 9 rfl) ?_
            refine lv_iload hx hb dL_law_272 (lv_at hl 3 rfl) ?_
            refine lv_iconst (v := nI 0) hx hb dL_law_274 (by decide) ?_
            refine callQ_i (As := [.int (nI bb), .int (nI 0)]) (rest := [.int (nI 1)]) (y_block l D (nI bb) (nI 0)  hPK) hC hK hN hP hD hS rfl rfl q421 md_X7_block rfl hl.1 rfl (Nat.le_of_ble_eq_true rfl) dL_law_275 ⟨Nat.le_of_ble_eq_true rfl, Nat.le_of_ble_eq_true rfl⟩ ⟨Nat.le_of_ble_eq_true rfl, Nat.le_of_ble_eq_true rfl⟩ (fun r w_275 H locs hq hP hD hS => ?_)
            obtain ⟨hPK, hr9⟩ := hq
            have hr9 : r = nI (tps t1 bb) := hr9.trans (blx (b := bb) (k := 0) hb7 hn7 (by decide))
            rw [hr9]
            refine lv_iload hx hb dL_law_278 (lv_at hl 2 rfl) ?_
            refine n_icmp_ne (a := tps t1 bb) (b := pl) (tgt := 287) hx hb dL_law_280 (by decide) (by omega) (by omega) (fun h9 => absurd h9 (by omega)) (fun _ => ?_)
            refine lv_iconst (v := nI 1) hx hb dL_law_283 (by decide) ?_
            refine lv_goto (tgt := 288) hx hb dL_law_284 (by decide) ?_
            refine n_icmp_ne (a := 1) (b := 1) (tgt := 348) hx hb dL_law_288 (by decide) (by decide) (by decide) (fun h => absurd h (by decide)) (fun _ => ?_)
            refine lv_iload hx hb dL_law_291 (lv_at hl 0 rfl) ?_
            refine n_if_eq (a := 1) (tgt := 318) hx hb dL_law_293 (by decide) (by decide) (fun h => absurd h (by decide)) (fun _ => ?_)
            refine lv_aload_n hx hb dL_law_296 rfl (lv_at hl 9 rfl) ?_
            refine lv_bipush (v := nI 6) hx hb dL_law_297 (by decide) ?_
            refine callQ_i (As := [.int (nI 6)]) (rest := []) (y_frame l D (nI 6)  hPK) hC hK hN hP hD hS rfl rfl q389 md_X7_frame rfl hl.1 rfl (Nat.le_of_ble_eq_true rfl) dL_law_299 ⟨Nat.le_of_ble_eq_true rfl, Nat.le_of_ble_eq_true rfl⟩ ⟨Nat.le_of_ble_eq_true rfl, Nat.le_of_ble_eq_true rfl⟩ (fun r w_299 H locs hq hP hD hS => ?_)
            obtain ⟨hPK, hr9⟩ := hq
            have hr9 : r = nI bb := hr9.trans (frx (k := 6) (by decide))
            rw [hr9]
            refine lv_iload hx hb dL_law_302 (lv_at hl 3 rfl) ?_
            refine n_icmp_ne (a := bb) (b := bb) (tgt := 348) hx hb dL_law_304 (by decide) (by omega) (by omega) (fun h9 => absurd h9 (by omega)) (fun _ => ?_)
            refine lv_aload_n hx hb dL_law_307 rfl (lv_at hl 9 rfl) ?_
            refine lv_bipush (v := nI 7) hx hb dL_law_308 (by decide) ?_
            refine callQ_i (As := [.int (nI 7)]) (rest := []) (y_frame l D (nI 7)  hPK) hC hK hN hP hD hS rfl rfl q389 md_X7_frame rfl hl.1 rfl (Nat.le_of_ble_eq_true rfl) dL_law_310 ⟨Nat.le_of_ble_eq_true rfl, Nat.le_of_ble_eq_true rfl⟩ ⟨Nat.le_of_ble_eq_true rfl, Nat.le_of_ble_eq_true rfl⟩ (fun r w_310 H locs hq hP hD hS => ?_)
            obtain ⟨hPK, hr9⟩ := hq
            have hr9 : r = nI pl := hr9.trans (frx (k := 7) (by decide))
            rw [hr9]
            refine lv_iload hx hb dL_law_313 (lv_at hl 2 rfl) ?_
            refine n_icmp_ne (a := pl) (b := pl) (tgt := 348) hx hb dL_law_315 (by decide) (by omega) (by omega) (fun h9 => absurd h9 (by omega)) (fun _ => ?_)
            refine lv_iload hx hb dL_law_318 (lv_at hl 0 rfl) ?_
            refine n_if_eq (a := 1) (tgt := 350) hx hb dL_law_320 (by decide) (by decide) (fun h => absurd h (by decide)) (fun _ => ?_)
            refine lv_aload_n hx hb dL_law_323 rfl (lv_at hl 9 rfl) ?_
            refine lv_iload hx hb dL_law_324 (lv_at hl 4 rfl) ?_
            refine lv_bipush (v := nI 10) hx hb dL_law_326 (by decide) ?_
            refine lv_ishr hx hb dL_law_328 ?_
            refine lv_iconst (v := nI 1) hx hb dL_law_329 (by decide) ?_
            obtain ⟨z1, hz1l, hz1⟩ := and1 (r_185 >>> (nI 10 &&& 31))
            refine lv_iand hx hb dL_law_330 ?_
            refine topi (y := nI z1) hz1 ?_
            refine lv_iconst (v := nI 1) hx hb dL_law_331 (by decide) ?_
            refine n_icmp_ne (a := z1) (b := 1) (tgt := 339) hx hb dL_law_332 (by decide) (by omega) (by omega) (fun c332 => ?_) (fun c332 => ?_)
            · have _ : True := trivial
              refine lv_iconst (v := nI 0) hx hb dL_law_339 (by decide) ?_
              refine topi (y := bI false) rfl ?_
              refine lv_bipush (v := nI 6) hx hb dL_law_340 (by decide) ?_
              refine w_stS_i (As := [.ref xo, .int (bI false), .int (nI 6)]) (rest := []) hC hO hK hN hP hD hS hA (c_L_ends_false l D cI cJ cB H.size hPK rfl rfl) q693 md_L_ends rfl hl.1 rfl (Nat.le_of_ble_eq_true rfl) dL_law_342 ⟨Nat.le_of_ble_eq_true rfl, Nat.le_of_ble_eq_true rfl⟩ (c1 := 92) (s1 := 29004) rfl rfl (Nat.le_of_ble_eq_true rfl) (Nat.le_of_ble_eq_true rfl) (fun r w_342 H locs hq hP hD hS => ?_)
              obtain ⟨hr9, t2, hPK, hfr⟩ := hq
              have hr9 : r = bI true := hr9
              rw [hr9]
              refine b_if_ne (z := true) (tgt := 350) hx hb dL_law_345 (by decide) (fun _ => ?_) (fun h => absurd h (by decide))
              exact L350 t2 w_342 (fr_3 hfr hwd1 hhd1 hnb1) hPK  _ _ hP hD hS _ (lv_sub hl [2, 3, 4, 5, 6, 7, 8, 9, 10] rfl)
            · have _ : True := trivial
              refine lv_iconst (v := nI 1) hx hb dL_law_335 (by decide) ?_
              refine topi (y := bI true) rfl ?_
              refine lv_goto (tgt := 340) hx hb dL_law_336 (by decide) ?_
              refine lv_bipush (v := nI 6) hx hb dL_law_340 (by decide) ?_
              refine w_stS_i (As := [.ref xo, .int (bI true), .int (nI 6)]) (rest := []) hC hO hK hN hP hD hS hA (c_L_ends_true l D cI cJ cB H.size hPK rfl rfl) q693 md_L_ends rfl hl.1 rfl (Nat.le_of_ble_eq_true rfl) dL_law_342 ⟨Nat.le_of_ble_eq_true rfl, Nat.le_of_ble_eq_true rfl⟩ (c1 := 92) (s1 := 29004) rfl rfl (Nat.le_of_ble_eq_true rfl) (Nat.le_of_ble_eq_true rfl) (fun r w_342 H locs hq hP hD hS => ?_)
              obtain ⟨hr9, t2, hPK, hfr⟩ := hq
              have hr9 : r = bI true := hr9
              rw [hr9]
              refine b_if_ne (z := true) (tgt := 350) hx hb dL_law_345 (by decide) (fun _ => ?_) (fun h => absurd h (by decide))
              exact L350 t2 w_342 (fr_3 hfr hwd1 hhd1 hnb1) hPK  _ _ hP hD hS _ (lv_sub hl [2, 3, 4, 5, 6, 7, 8, 9, 10] rfl)
          · have _ : True := trivial
            refine lv_aload_n hx hb dL_law_211 rfl (lv_at hl 7 rfl) ?_
            refine lv_iload hx hb dL_law_212 (lv_at hl 1 rfl) ?_
            refine lv_iload hx hb dL_law_214 (lv_at hl 0 rfl) ?_
            refine callQ_i (As := [.int (nI bb), .int (nI pl)]) (rest := []) (y_goal_go l D (nI bb) (nI pl) (Nat.zero_le _) hgm hPK) hC hK hN hP hD hS rfl rfl q468 md_X7_goal rfl hl.1 rfl (Nat.le_of_ble_eq_true rfl) dL_law_216 ⟨Nat.le_of_ble_eq_true rfl, Nat.le_of_ble_eq_true rfl⟩ ⟨Nat.le_of_ble_eq_true rfl, Nat.le_of_ble_eq_true rfl⟩ (fun r w_216 H locs hq hP hD hS => ?_)
            obtain ⟨hPK, hr9⟩ := hq
            have hPK := hPK.nil
            have hr9 : r = nI 0 := hr9.trans hgr
            rw [hr9]
            refine lv_istore (lv' := [(9, .int (nI 0)), (8, .int (nI pl)), (7, .int (nI bb)), (6, .int r_185), (5, .int (nI kq)), (4, .int (nI nn)), (3, .int (nI hv)), (2, .int (nI wv)), (1, .ref xo), (0, .ref b)]) hx hb dL_law_219 hl (by decide) rfl (fun ls hl => ?_)
            have hpw := Nat.mod_le pl wv
            have hpv := Nat.div_le_self pl wv
            have hbw9 : tbw t1 bb ≤ 6 := by have h9 := (hT1.1.2.2.2.2.2.2.2 bb hb7).2.1; have := (TV_w hT1).2.1; omega
            have hbh9 : tbh t1 bb ≤ 6 := by have h9 := (hT1.1.2.2.2.2.2.2.2 bb hb7).2.2.2.1; have := (TV_w hT1).2.2.2; omega
            have hps9 := (TV_p hT1 hb7).1
            have hc249 := TV_c hT1
            refine lv_iload hx hb dL_law_221 (lv_at hl 1 rfl) ?_
            refine lv_iload_n hx hb dL_law_223 rfl (lv_at hl 7 rfl) ?_
            refine n_irem hx hb dL_law_224 (by omega) (by omega) (by omega) ?_
            refine lv_aload_n hx hb dL_law_225 rfl (lv_at hl 8 rfl) ?_
            refine lv_iload hx hb dL_law_226 (lv_at hl 2 rfl) ?_
            refine lv_iconst (v := nI 2) hx hb dL_law_228 (by decide) ?_
            refine callQ_i (As := [.int (nI bb), .int (nI 2)]) (rest := [.int (nI (pl % wv))]) (y_block l D (nI bb) (nI 2)  hPK) hC hK hN hP hD hS rfl rfl q421 md_X7_block rfl hl.1 rfl (Nat.le_of_ble_eq_true rfl) dL_law_229 ⟨Nat.le_of_ble_eq_true rfl, Nat.le_of_ble_eq_true rfl⟩ ⟨Nat.le_of_ble_eq_true rfl, Nat.le_of_ble_eq_true rfl⟩ (fun r w_229 H locs hq hP hD hS => ?_)
            obtain ⟨hPK, hr9⟩ := hq
            have hr9 : r = nI (tbw t1 bb) := hr9.trans (blx (b := bb) (k := 2) hb7 hn7 (by decide))
            rw [hr9]
            refine n_iadd hx hb dL_law_232  ?_
            refine lv_iload_n hx hb dL_law_233 rfl (lv_at hl 7 rfl) ?_
            refine n_icmp_gt (a := (pl % wv) + (tbw t1 bb)) (b := wv) (tgt := 257) hx hb dL_law_234 (by decide) (by omega) (by omega) (fun h9 => absurd h9 (by omega)) (fun _ => ?_)
            refine lv_iload hx hb dL_law_237 (lv_at hl 1 rfl) ?_
            refine lv_iload_n hx hb dL_law_239 rfl (lv_at hl 7 rfl) ?_
            refine n_idiv hx hb dL_law_240 (by omega) (by omega) (by omega) ?_
            refine lv_aload_n hx hb dL_law_241 rfl (lv_at hl 8 rfl) ?_
            refine lv_iload hx hb dL_law_242 (lv_at hl 2 rfl) ?_
            refine lv_iconst (v := nI 3) hx hb dL_law_244 (by decide) ?_
            refine callQ_i (As := [.int (nI bb), .int (nI 3)]) (rest := [.int (nI (pl / wv))]) (y_block l D (nI bb) (nI 3)  hPK) hC hK hN hP hD hS rfl rfl q421 md_X7_block rfl hl.1 rfl (Nat.le_of_ble_eq_true rfl) dL_law_245 ⟨Nat.le_of_ble_eq_true rfl, Nat.le_of_ble_eq_true rfl⟩ ⟨Nat.le_of_ble_eq_true rfl, Nat.le_of_ble_eq_true rfl⟩ (fun r w_245 H locs hq hP hD hS => ?_)
            obtain ⟨hPK, hr9⟩ := hq
            have hr9 : r = nI (tbh t1 bb) := hr9.trans (blx (b := bb) (k := 3) hb7 hn7 (by decide))
            rw [hr9]
            refine n_iadd hx hb dL_law_248  ?_
            refine lv_iload_n hx hb dL_law_249 rfl (lv_at hl 6 rfl) ?_
            refine n_icmp_gt (a := (pl / wv) + (tbh t1 bb)) (b := hv) (tgt := 257) hx hb dL_law_250 (by decide) (by omega) (by omega) (fun h9 => absurd h9 (by omega)) (fun _ => ?_)
            refine lv_iconst (v := nI 1) hx hb dL_law_253 (by decide) ?_
            refine lv_goto (tgt := 258) hx hb dL_law_254 (by decide) ?_
            refine lv_istore (lv' := [(10, .int (nI 1)), (9, .int (nI 0)), (8, .int (nI pl)), (7, .int (nI bb)), (6, .int r_185), (5, .int (nI kq)), (4, .int (nI nn)), (3, .int (nI hv)), (2, .int (nI wv)), (1, .ref xo), (0, .ref b)]) hx hb dL_law_258 hl (by decide) rfl (fun ls hl => ?_)
            refine lv_iload hx hb dL_law_260 (lv_at hl 1 rfl) ?_
            refine lv_iload hx hb dL_law_262 (lv_at hl 0 rfl) ?_
            refine n_if_ne (a := 1) (tgt := 271) hx hb dL_law_264 (by decide) (by decide) (fun _ => ?_) (fun h => absurd h (by decide))
            refine lv_aload_n hx hb dL_law_271 rfl (lv_at hl 9 rfl) ?_
            refine lv_iload hx hb dL_law_272 (lv_at hl 3 rfl) ?_
            refine lv_iconst (v := nI 0) hx hb dL_law_274 (by decide) ?_
            refine callQ_i (As := [.int (nI bb), .int (nI 0)]) (rest := [.int (nI 0)]) (y_block l D (nI bb) (nI 0)  hPK) hC hK hN hP hD hS rfl rfl q421 md_X7_block rfl hl.1 rfl (Nat.le_of_ble_eq_true rfl) dL_law_275 ⟨Nat.le_of_ble_eq_true rfl, Nat.le_of_ble_eq_true rfl⟩ ⟨Nat.le_of_ble_eq_true rfl, Nat.le_of_ble_eq_true rfl⟩ (fun r w_275 H locs hq hP hD hS => ?_)
            obtain ⟨hPK, hr9⟩ := hq
            have hr9 : r = nI (tps t1 bb) := hr9.trans (blx (b := bb) (k := 0) hb7 hn7 (by decide))
            rw [hr9]
            refine lv_iload hx hb dL_law_278 (lv_at hl 2 rfl) ?_
            refine n_icmp_ne (a := tps t1 bb) (b := pl) (tgt := 287) hx hb dL_law_280 (by decide) (by omega) (by omega) (fun _ => ?_) (fun h9 => absurd h9 (by omega))
            refine lv_iconst (v := nI 0) hx hb dL_law_287 (by decide) ?_
            refine n_icmp_ne (a := 0) (b := 0) (tgt := 348) hx hb dL_law_288 (by decide) (by decide) (by decide) (fun h => absurd h (by decide)) (fun _ => ?_)
            refine lv_iload hx hb dL_law_291 (lv_at hl 0 rfl) ?_
            refine n_if_eq (a := 1) (tgt := 318) hx hb dL_law_293 (by decide) (by decide) (fun h => absurd h (by decide)) (fun _ => ?_)
            refine lv_aload_n hx hb dL_law_296 rfl (lv_at hl 9 rfl) ?_
            refine lv_bipush (v := nI 6) hx hb dL_law_297 (by decide) ?_
            refine callQ_i (As := [.int (nI 6)]) (rest := []) (y_frame l D (nI 6)  hPK) hC hK hN hP hD hS rfl rfl q389 md_X7_frame rfl hl.1 rfl (Nat.le_of_ble_eq_true rfl) dL_law_299 ⟨Nat.le_of_ble_eq_true rfl, Nat.le_of_ble_eq_true rfl⟩ ⟨Nat.le_of_ble_eq_true rfl, Nat.le_of_ble_eq_true rfl⟩ (fun r w_299 H locs hq hP hD hS => ?_)
            obtain ⟨hPK, hr9⟩ := hq
            have hr9 : r = nI bb := hr9.trans (frx (k := 6) (by decide))
            rw [hr9]
            refine lv_iload hx hb dL_law_302 (lv_at hl 3 rfl) ?_
            refine n_icmp_ne (a := bb) (b := bb) (tgt := 348) hx hb dL_law_304 (by decide) (by omega) (by omega) (fun h9 => absurd h9 (by omega)) (fun _ => ?_)
            refine lv_aload_n hx hb dL_law_307 rfl (lv_at hl 9 rfl) ?_
            refine lv_bipush (v := nI 7) hx hb dL_law_308 (by decide) ?_
            refine callQ_i (As := [.int (nI 7)]) (rest := []) (y_frame l D (nI 7)  hPK) hC hK hN hP hD hS rfl rfl q389 md_X7_frame rfl hl.1 rfl (Nat.le_of_ble_eq_true rfl) dL_law_310 ⟨Nat.le_of_ble_eq_true rfl, Nat.le_of_ble_eq_true rfl⟩ ⟨Nat.le_of_ble_eq_true rfl, Nat.le_of_ble_eq_true rfl⟩ (fun r w_310 H locs hq hP hD hS => ?_)
            obtain ⟨hPK, hr9⟩ := hq
            have hr9 : r = nI pl := hr9.trans (frx (k := 7) (by decide))
            rw [hr9]
            refine lv_iload hx hb dL_law_313 (lv_at hl 2 rfl) ?_
            refine n_icmp_ne (a := pl) (b := pl) (tgt := 348) hx hb dL_law_315 (by decide) (by omega) (by omega) (fun h9 => absurd h9 (by omega)) (fun _ => ?_)
            refine lv_iload hx hb dL_law_318 (lv_at hl 0 rfl) ?_
            refine n_if_eq (a := 1) (tgt := 350) hx hb dL_law_320 (by decide) (by decide) (fun h => absurd h (by decide)) (fun _ => ?_)
            refine lv_aload_n hx hb dL_law_323 rfl (lv_at hl 9 rfl) ?_
            refine lv_iload hx hb dL_law_324 (lv_at hl 4 rfl) ?_
            refine lv_bipush (v := nI 10) hx hb dL_law_326 (by decide) ?_
            refine lv_ishr hx hb dL_law_328 ?_
            refine lv_iconst (v := nI 1) hx hb dL_law_329 (by decide) ?_
            obtain ⟨z1, hz1l, hz1⟩ := and1 (r_185 >>> (nI 10 &&& 31))
            refine lv_iand hx hb dL_law_330 ?_
            refine topi (y := nI z1) hz1 ?_
            refine lv_iconst (v := nI 1) hx hb dL_law_331 (by decide) ?_
            refine n_icmp_ne (a := z1) (b := 1) (tgt := 339) hx hb dL_law_332 (by decide) (by omega) (by omega) (fun c332 => ?_) (fun c332 => ?_)
            · have _ : True := trivial
              refine lv_iconst (v := nI 0) hx hb dL_law_339 (by decide) ?_
              refine topi (y := bI false) rfl ?_
              refine lv_bipush (v := nI 6) hx hb dL_law_340 (by decide) ?_
              refine w_stS_i (As := [.ref xo, .int (bI false), .int (nI 6)]) (rest := []) hC hO hK hN hP hD hS hA (c_L_ends_false l D cI cJ cB H.size hPK rfl rfl) q693 md_L_ends rfl hl.1 rfl (Nat.le_of_ble_eq_true rfl) dL_law_342 ⟨Nat.le_of_ble_eq_true rfl, Nat.le_of_ble_eq_true rfl⟩ (c1 := 92) (s1 := 29004) rfl rfl (Nat.le_of_ble_eq_true rfl) (Nat.le_of_ble_eq_true rfl) (fun r w_342 H locs hq hP hD hS => ?_)
              obtain ⟨hr9, t2, hPK, hfr⟩ := hq
              have hr9 : r = bI true := hr9
              rw [hr9]
              refine b_if_ne (z := true) (tgt := 350) hx hb dL_law_345 (by decide) (fun _ => ?_) (fun h => absurd h (by decide))
              exact L350 t2 w_342 (fr_3 hfr hwd1 hhd1 hnb1) hPK  _ _ hP hD hS _ (lv_sub hl [2, 3, 4, 5, 6, 7, 8, 9, 10] rfl)
            · have _ : True := trivial
              refine lv_iconst (v := nI 1) hx hb dL_law_335 (by decide) ?_
              refine topi (y := bI true) rfl ?_
              refine lv_goto (tgt := 340) hx hb dL_law_336 (by decide) ?_
              refine lv_bipush (v := nI 6) hx hb dL_law_340 (by decide) ?_
              refine w_stS_i (As := [.ref xo, .int (bI true), .int (nI 6)]) (rest := []) hC hO hK hN hP hD hS hA (c_L_ends_true l D cI cJ cB H.size hPK rfl rfl) q693 md_L_ends rfl hl.1 rfl (Nat.le_of_ble_eq_true rfl) dL_law_342 ⟨Nat.le_of_ble_eq_true rfl, Nat.le_of_ble_eq_true rfl⟩ (c1 := 92) (s1 := 29004) rfl rfl (Nat.le_of_ble_eq_true rfl) (Nat.le_of_ble_eq_true rfl) (fun r w_342 H locs hq hP hD hS => ?_)
              obtain ⟨hr9, t2, hPK, hfr⟩ := hq
              have hr9 : r = bI true := hr9
              rw [hr9]
              refine b_if_ne (z := true) (tgt := 350) hx hb dL_law_345 (by decide) (fun _ => ?_) (fun h => absurd h (by decide))
              exact L350 t2 w_342 (fr_3 hfr hwd1 hhd1 hnb1) hPK  _ _ hP hD hS _ (lv_sub hl [2, 3, 4, 5, 6, 7, 8, 9, 10] rfl)
          · have _ : True := trivial
            refine lv_aload_n hx hb dL_law_211 rfl (lv_at hl 7 rfl) ?_
            refine lv_iload hx hb dL_law_212 (lv_at hl 1 rfl) ?_
            refine lv_iload hx hb dL_law_214 (lv_at hl 0 rfl) ?_
            refine callQ_i (As := [.int (nI bb), .int (nI pl)]) (rest := []) (y_goal_no l D (nI bb) (nI pl) hgm hPK) hC hK hN hP hD hS rfl rfl q468 md_X7_goal rfl hl.1 rfl (Nat.le_of_ble_eq_true rfl) dL_law_216 ⟨Nat.le_of_ble_eq_true rfl, Nat.le_of_ble_eq_true rfl⟩ ⟨Nat.le_of_ble_eq_true rfl, Nat.le_of_ble_eq_true rfl⟩ (fun r w_216 H locs hq hP hD hS => ?_)
            obtain ⟨hPK, hr9⟩ := hq
            have hr9 : r = (-1) := hr9.trans hgr
            rw [hr9]
            refine lv_istore (lv' := [(9, .int (-1)), (8, .int (nI pl)), (7, .int (nI bb)), (6, .int r_185), (5, .int (nI kq)), (4, .int (nI nn)), (3, .int (nI hv)), (2, .int (nI wv)), (1, .ref xo), (0, .ref b)]) hx hb dL_law_219 hl (by decide) rfl (fun ls hl => ?_)
            have hpw := Nat.mod_le pl wv
            have hpv := Nat.div_le_self pl wv
            have hbw9 : tbw t1 bb ≤ 6 := by have h9 := (hT1.1.2.2.2.2.2.2.2 bb hb7).2.1; have := (TV_w hT1).2.1; omega
            have hbh9 : tbh t1 bb ≤ 6 := by have h9 := (hT1.1.2.2.2.2.2.2.2 bb hb7).2.2.2.1; have := (TV_w hT1).2.2.2; omega
            have hps9 := (TV_p hT1 hb7).1
            have hc249 := TV_c hT1
            refine lv_iload hx hb dL_law_221 (lv_at hl 1 rfl) ?_
            refine lv_iload_n hx hb dL_law_223 rfl (lv_at hl 7 rfl) ?_
            refine n_irem hx hb dL_law_224 (by omega) (by omega) (by omega) ?_
            refine lv_aload_n hx hb dL_law_225 rfl (lv_at hl 8 rfl) ?_
            refine lv_iload hx hb dL_law_226 (lv_at hl 2 rfl) ?_
            refine lv_iconst (v := nI 2) hx hb dL_law_228 (by decide) ?_
            refine callQ_i (As := [.int (nI bb), .int (nI 2)]) (rest := [.int (nI (pl % wv))]) (y_block l D (nI bb) (nI 2)  hPK) hC hK hN hP hD hS rfl rfl q421 md_X7_block rfl hl.1 rfl (Nat.le_of_ble_eq_true rfl) dL_law_229 ⟨Nat.le_of_ble_eq_true rfl, Nat.le_of_ble_eq_true rfl⟩ ⟨Nat.le_of_ble_eq_true rfl, Nat.le_of_ble_eq_true rfl⟩ (fun r w_229 H locs hq hP hD hS => ?_)
            obtain ⟨hPK, hr9⟩ := hq
            have hr9 : r = nI (tbw t1 bb) := hr9.trans (blx (b := bb) (k := 2) hb7 hn7 (by decide))
            rw [hr9]
            refine n_iadd hx hb dL_law_232  ?_
            refine lv_iload_n hx hb dL_law_233 rfl (lv_at hl 7 rfl) ?_
            refine n_icmp_gt (a := (pl % wv) + (tbw t1 bb)) (b := wv) (tgt := 257) hx hb dL_law_234 (by decide) (by omega) (by omega) (fun _ => ?_) (fun h9 => absurd h9 (by omega))
            refine lv_iconst (v := nI 0) hx hb dL_law_257 (by decide) ?_
            refine lv_istore (lv' := [(10, .int (nI 0)), (9, .int (-1)), (8, .int (nI pl)), (7, .int (nI bb)), (6, .int r_185), (5, .int (nI kq)), (4, .int (nI nn)), (3, .int (nI hv)), (2, .int (nI wv)), (1, .ref xo), (0, .ref b)]) hx hb dL_law_258 hl (by decide) rfl (fun ls hl => ?_)
            refine lv_iload hx hb dL_law_260 (lv_at hl 1 rfl) ?_
            refine lv_iload hx hb dL_law_262 (lv_at hl 0 rfl) ?_
            refine n_if_ne (a := 0) (tgt := 271) hx hb dL_law_264 (by decide) (by decide) (fun h => absurd h (by decide)) (fun _ => ?_)
            refine lv_iconst (v := -1) hx hb dL_law_267 (by decide) ?_
            refine lv_goto (tgt := 288) hx hb dL_law_268 (by decide) ?_
            refine lv_icmp_ne (tgt := 348) hx hb dL_law_288 (by decide) (fun h => absurd rfl h) (fun _ => ?_)
            refine lv_iload hx hb dL_law_291 (lv_at hl 0 rfl) ?_
            refine n_if_eq (a := 0) (tgt := 318) hx hb dL_law_293 (by decide) (by decide) (fun _ => ?_) (fun h => absurd h (by decide))
            refine lv_iload hx hb dL_law_318 (lv_at hl 0 rfl) ?_
            refine n_if_eq (a := 0) (tgt := 350) hx hb dL_law_320 (by decide) (by decide) (fun _ => ?_) (fun h => absurd h (by decide))
            exact L350 t1 w_229 ⟨hwd1, hhd1, hnb1⟩ hPK  _ _ hP hD hS _ (lv_sub hl [2, 3, 4, 5, 6, 7, 8, 9, 10] rfl)
          · have _ : True := trivial
            refine lv_aload_n hx hb dL_law_211 rfl (lv_at hl 7 rfl) ?_
            refine lv_iload hx hb dL_law_212 (lv_at hl 1 rfl) ?_
            refine lv_iload hx hb dL_law_214 (lv_at hl 0 rfl) ?_
            refine callQ_i (As := [.int (nI bb), .int (nI pl)]) (rest := []) (y_goal_no l D (nI bb) (nI pl) hgm hPK) hC hK hN hP hD hS rfl rfl q468 md_X7_goal rfl hl.1 rfl (Nat.le_of_ble_eq_true rfl) dL_law_216 ⟨Nat.le_of_ble_eq_true rfl, Nat.le_of_ble_eq_true rfl⟩ ⟨Nat.le_of_ble_eq_true rfl, Nat.le_of_ble_eq_true rfl⟩ (fun r w_216 H locs hq hP hD hS => ?_)
            obtain ⟨hPK, hr9⟩ := hq
            have hr9 : r = (-1) := hr9.trans hgr
            rw [hr9]
            refine lv_istore (lv' := [(9, .int (-1)), (8, .int (nI pl)), (7, .int (nI bb)), (6, .int r_185), (5, .int (nI kq)), (4, .int (nI nn)), (3, .int (nI hv)), (2, .int (nI wv)), (1, .ref xo), (0, .ref b)]) hx hb dL_law_219 hl (by decide) rfl (fun ls hl => ?_)
            have hpw := Nat.mod_le pl wv
            have hpv := Nat.div_le_self pl wv
            have hbw9 : tbw t1 bb ≤ 6 := by have h9 := (hT1.1.2.2.2.2.2.2.2 bb hb7).2.1; have := (TV_w hT1).2.1; omega
            have hbh9 : tbh t1 bb ≤ 6 := by have h9 := (hT1.1.2.2.2.2.2.2.2 bb hb7).2.2.2.1; have := (TV_w hT1).2.2.2; omega
            have hps9 := (TV_p hT1 hb7).1
            have hc249 := TV_c hT1
            refine lv_iload hx hb dL_law_221 (lv_at hl 1 rfl) ?_
            refine lv_iload_n hx hb dL_law_223 rfl (lv_at hl 7 rfl) ?_
            refine n_irem hx hb dL_law_224 (by omega) (by omega) (by omega) ?_
            refine lv_aload_n hx hb dL_law_225 rfl (lv_at hl 8 rfl) ?_
            refine lv_iload hx hb dL_law_226 (lv_at hl 2 rfl) ?_
            refine lv_iconst (v := nI 2) hx hb dL_law_228 (by decide) ?_
            refine callQ_i (As := [.int (nI bb), .int (nI 2)]) (rest := [.int (nI (pl % wv))]) (y_block l D (nI bb) (nI 2)  hPK) hC hK hN hP hD hS rfl rfl q421 md_X7_block rfl hl.1 rfl (Nat.le_of_ble_eq_true rfl) dL_law_229 ⟨Nat.le_of_ble_eq_true rfl, Nat.le_of_ble_eq_true rfl⟩ ⟨Nat.le_of_ble_eq_true rfl, Nat.le_of_ble_eq_true rfl⟩ (fun r w_229 H locs hq hP hD hS => ?_)
            obtain ⟨hPK, hr9⟩ := hq
            have hr9 : r = nI (tbw t1 bb) := hr9.trans (blx (b := bb) (k := 2) hb7 hn7 (by decide))
            rw [hr9]
            refine n_iadd hx hb dL_law_232  ?_
            refine lv_iload_n hx hb dL_law_233 rfl (lv_at hl 7 rfl) ?_
            refine n_icmp_gt (a := (pl % wv) + (tbw t1 bb)) (b := wv) (tgt := 257) hx hb dL_law_234 (by decide) (by omega) (by omega) (fun h9 => absurd h9 (by omega)) (fun _ => ?_)
            refine lv_iload hx hb dL_law_237 (lv_at hl 1 rfl) ?_
            refine lv_iload_n hx hb dL_law_239 rfl (lv_at hl 7 rfl) ?_
            refine n_idiv hx hb dL_law_240 (by omega) (by omega) (by omega) ?_
            refine lv_aload_n hx hb dL_law_241 rfl (lv_at hl 8 rfl) ?_
            refine lv_iload hx hb dL_law_242 (lv_at hl 2 rfl) ?_
            refine lv_iconst (v := nI 3) hx hb dL_law_244 (by decide) ?_
            refine callQ_i (As := [.int (nI bb), .int (nI 3)]) (rest := [.int (nI (pl / wv))]) (y_block l D (nI bb) (nI 3)  hPK) hC hK hN hP hD hS rfl rfl q421 md_X7_block rfl hl.1 rfl (Nat.le_of_ble_eq_true rfl) dL_law_245 ⟨Nat.le_of_ble_eq_true rfl, Nat.le_of_ble_eq_true rfl⟩ ⟨Nat.le_of_ble_eq_true rfl, Nat.le_of_ble_eq_true rfl⟩ (fun r w_245 H locs hq hP hD hS => ?_)
            obtain ⟨hPK, hr9⟩ := hq
            have hr9 : r = nI (tbh t1 bb) := hr9.trans (blx (b := bb) (k := 3) hb7 hn7 (by decide))
            rw [hr9]
            refine n_iadd hx hb dL_law_248  ?_
            refine lv_iload_n hx hb dL_law_249 rfl (lv_at hl 6 rfl) ?_
            refine n_icmp_gt (a := (pl / wv) + (tbh t1 bb)) (b := hv) (tgt := 257) hx hb dL_law_250 (by decide) (by omega) (by omega) (fun _ => ?_) (fun h9 => absurd h9 (by omega))
            refine lv_iconst (v := nI 0) hx hb dL_law_257 (by decide) ?_
            refine lv_istore (lv' := [(10, .int (nI 0)), (9, .int (-1)), (8, .int (nI pl)), (7, .int (nI bb)), (6, .int r_185), (5, .int (nI kq)), (4, .int (nI nn)), (3, .int (nI hv)), (2, .int (nI wv)), (1, .ref xo), (0, .ref b)]) hx hb dL_law_258 hl (by decide) rfl (fun ls hl => ?_)
            refine lv_iload hx hb dL_law_260 (lv_at hl 1 rfl) ?_
            refine lv_iload hx hb dL_law_262 (lv_at hl 0 rfl) ?_
            refine n_if_ne (a := 0) (tgt := 271) hx hb dL_law_264 (by decide) (by decide) (fun h => absurd h (by decide)) (fun _ => ?_)
            refine lv_iconst (v := -1) hx hb dL_law_267 (by decide) ?_
            refine lv_goto (tgt := 288) hx hb dL_law_268 (by decide) ?_
            refine lv_icmp_ne (tgt := 348) hx hb dL_law_288 (by decide) (fun h => absurd rfl h) (fun _ => ?_)
            refine lv_iload hx hb dL_law_291 (lv_at hl 0 rfl) ?_
            refine n_if_eq (a := 0) (tgt := 318) hx hb dL_law_293 (by decide) (by decide) (fun _ => ?_) (fun h => absurd h (by decide))
            refine lv_iload hx hb dL_law_318 (lv_at hl 0 rfl) ?_
            refine n_if_eq (a := 0) (tgt := 350) hx hb dL_law_320 (by decide) (by decide) (fun _ => ?_) (fun h => absurd h (by decide))
            exact L350 t1 w_245 ⟨hwd1, hhd1, hnb1⟩ hPK  _ _ hP hD hS _ (lv_sub hl [2, 3, 4, 5, 6, 7, 8, 9, 10] rfl)
  exact L168 _ 0 t w_157 (by omega) ⟨ht1, ht2, ht3⟩ hPK (Nat.lt_succ_self _) _ _ hP hD hS _ (lv_sub hl [0, 1, 2, 3, 4, 5] rfl)
