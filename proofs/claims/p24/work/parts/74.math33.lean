/-! ===== constructors: cells that come ===== -/
def rmC (d k n : Nat) : Room := { frames := d, cells := k, slots := n, locals := 40 * d }
def pN (D : va_G) (tys : List (ClassId × FieldType)) (ws : va_W) (sz : Nat) (U : State) : Prop := U.heap.size = sz ∧ va_AO "SlidingBlocks$Board" U ∧ pB D tys ws U
def nB (D : va_G) (A : Nat → Prop) (u : va_W) (t : State) : Prop := va_P D vwCl u t.heap ∧ va_D A u
theorem pN_blind {av : List Value} {D : va_G} {tys : List (ClassId × FieldType)} {ws : va_W} {sz : Nat} : FrameBlind (va_Pc av (pN D tys ws sz)) := fun a U g mk q => by
  obtain ⟨h0, h5, h6, h1, h2, h3, h4⟩ := q
  exact ⟨h0, h5, va_AO.moved (u := U) (U := U.calling g mk a) (Vm.Alike.refl U.vm) h6, va_K.moved (u := U) (U := U.calling g mk a) (Vm.Alike.refl U.vm) h1, kN.same (s := U) (U := U.calling g mk a) rfl h2, h3, h4⟩
theorem va_P_reQ {D : va_G} {cl : List vw_C} {ws ws1 : va_W} {H : Heap} (k : Nat) {a : Nat} {cA : ClassId} {n : Nat} {f g : Nat → Option Nat} (hP : va_P D cl ws H) (he : ws[k]? = some (a, .inl (cA, n, .inr (.inr (.inr (.inr f)))))) (h : ∀ j, j < n → f j = g j) (hw : ws.set k (a, .inl (cA, n, .inr (.inr (.inr (.inr g))))) = ws1) : va_P D cl ws1 H := by
  subst hw
  intro j q hq
  by_cases e : j = k
  · subst e
    rw [List.getElem?_set_self (List.getElem?_eq_some_iff.mp he).1] at hq
    cases hq
    have h1 := hP j _ he
    show H[a]? = some (vp_cell cA (n, .inr (.inr (.inr (.inr g)))))
    have h2 : vp_cell cA (n, .inr (.inr (.inr (.inr g)))) = vp_cell cA (n, .inr (.inr (.inr (.inr f)))) := by
      rw [vp_cell_q, vp_cell_q]
      unfold arrV
      congr 1
      refine Array.ext (by simp) (fun i h3 h4 => ?_)
      simp only [Array.getElem_ofFn]
      rw [h i (by simpa using h3)]
    rw [h2]
    exact h1
  · rw [List.getElem?_set_ne (Ne.symm e)] at hq
    exact hP j q hq
section NW
variable {p : Program} {l : Launch} {e : Env} {R : Room} {s : State} {m : MethodId} {args : Array Value} {below : List Frame} {meth : Method} {c : Code} {H : Heap} {locs : List Loc} {cells slots : Nat} {Q : State → Prop}
variable {cc : ByteArray} {pc nL : Nat} {ls : Array Slot} {st rest As : List Value} {D : va_G} {A : Nat → Prop} {cI cJ cB : ClassId} {pre wc ws : va_W} {H0 : Heap} {own : String} {y : MethodName} {cy : ByteArray} {nY d' n index ci k9 n9 : Nat} {a b : Addr} {fs : List Value} {c1 s1 : Nat}
theorem w_objInit (hC : CallFix p m c cc nL s args lw_all own) (hsz : ls.size = nL) {idx : Nat} (hlk : Cond.methodLink own idx Lib.objectInit ∈ lw_all) (hi : Cond.instanceMethod Lib.objectInit ∈ lw_all) (hco : Cond.code Lib.objectInit ⟨#[0xb1]⟩ 1 none ∈ lw_all) (hd : decode cc pc = .ok (.invokespecial idx, 3)) (hf : 1 ≤ R.frames) (hlo : 12 ≤ R.locals)
    (kk : W p l e R s m args below meth c H locs cells slots Q (F0 m (pc + 3) ls [])) : W p l e R s m args below meth c H locs cells slots Q (F0 m pc ls [.ref a]) := by
  refine W.objInit hC.1 hC.2.1 hC.2.2.2.1 (hC.2.2.2.2 _ hlk) (hC.2.2.2.2 _ hi) (hC.2.2.2.2 _ hco) rfl (by rw [hC.2.2.1]; exact hsz) rfl hd hf hlo ?_
  exact kk
theorem w_newI (hC : CallFix p m c cc nL s args lw_all own) (hK : va_K D vwCl (tyz cI cJ cB) s) (hP : va_P D vwCl ws H) (hD : va_D A ws) (hS : va_S A H0 H locs) (hA : ∀ q, H0.size ≤ q → A q) (ha : Cond.arrayClass .int ∈ lw_all) {N : Nat} (hN : N < 2 ^ 31) (hby : N * componentBytes .int ≤ 536870912) (h1 : cells + 1 = c1) (h2 : slots + N = s1) (hc : c1 ≤ R.cells) (hs : s1 ≤ R.slots) (hdg : decode cc pc = .ok (.newarray .int, 2))
    (kk : ∀ (q : Nat) (H1 : Heap), va_P D vwCl (ws ++ [(q, .inl (cI, N, .inl (fun _ => nI 0)))]) H1 → va_D A (ws ++ [(q, .inl (cI, N, .inl (fun _ => nI 0)))]) → va_S A H0 H1 locs → W p l e R s m args below meth c H1 locs c1 s1 Q (F0 m (pc + 2) ls (.ref q :: rest))) : W p l e R s m args below meth c H locs cells slots Q (F0 m pc ls (.int (nI N) :: rest)) := by
  subst h1; subst h2
  refine va_newa (atype := .int) (D := D) (cl := vwCl) (a0 := (N, .inl (fun _ => nI 0))) (ty := .int) hC.1 hC.2.1 (hC.2.2.2.2 _ ha) rfl hK hP hD hS hA (fun _ => rfl) (fun h => absurd h (nI_pos hN)) (nI_clamp hN) hby hc hs hdg (fun q cA H1 hK1 hP1 hD1 hS1 => ?_)
  have e1 : cA = cI := Option.some.inj ((va_nm_int (hK1.2 3 _ rfl).2).symm.trans (va_nm_int (hK1.2 0 _ rfl).2))
  subst e1
  exact kk q H1 hP1 hD1 hS1
theorem w_newJ (hC : CallFix p m c cc nL s args lw_all own) (hK : va_K D vwCl (tyz cI cJ cB) s) (hP : va_P D vwCl ws H) (hD : va_D A ws) (hS : va_S A H0 H locs) (hA : ∀ q, H0.size ≤ q → A q) (ha : Cond.arrayClass .long ∈ lw_all) {N : Nat} (hN : N < 2 ^ 31) (hby : N * componentBytes .long ≤ 536870912) (h1 : cells + 1 = c1) (h2 : slots + N = s1) (hc : c1 ≤ R.cells) (hs : s1 ≤ R.slots) (hdg : decode cc pc = .ok (.newarray .long, 2))
    (kk : ∀ (q : Nat) (H1 : Heap), va_P D vwCl (ws ++ [(q, .inl (cJ, N, .inr (.inl (fun _ => lN 0))))]) H1 → va_D A (ws ++ [(q, .inl (cJ, N, .inr (.inl (fun _ => lN 0))))]) → va_S A H0 H1 locs → W p l e R s m args below meth c H1 locs c1 s1 Q (F0 m (pc + 2) ls (.ref q :: rest))) : W p l e R s m args below meth c H locs cells slots Q (F0 m pc ls (.int (nI N) :: rest)) := by
  subst h1; subst h2
  refine va_newa (atype := .long) (D := D) (cl := vwCl) (a0 := (N, .inr (.inl (fun _ => lN 0)))) (ty := .long) hC.1 hC.2.1 (hC.2.2.2.2 _ ha) rfl hK hP hD hS hA (fun _ => rfl) (fun h => absurd h (nI_pos hN)) (nI_clamp hN) hby hc hs hdg (fun q cA H1 hK1 hP1 hD1 hS1 => ?_)
  have e1 : cA = cJ := Option.some.inj ((va_nm_long (hK1.2 3 _ rfl).2).symm.trans (va_nm_long (hK1.2 1 _ rfl).2))
  subst e1
  exact kk q H1 hP1 hD1 hS1
theorem w_newQ (hC : CallFix p m c cc nL s args lw_all own) (hK : va_K D vwCl (tyz cI cJ cB) s) (hP : va_P D vwCl ws H) (hD : va_D A ws) (hS : va_S A H0 H locs) (hA : ∀ q, H0.size ≤ q → A q) (hcl : Cond.classLink own index "SlidingBlocks$Board" ∈ lw_all) (ha : va_AO "SlidingBlocks$Board" s) {N : Nat} (hN : N < 2 ^ 31) (hby : N * 4 ≤ 536870912) (h1 : cells + 1 = c1) (h2 : slots + N = s1) (hc : c1 ≤ R.cells) (hs : s1 ≤ R.slots) (hdg : decode cc pc = .ok (.anewarray index, 3))
    (kk : ∀ (q : Nat) (H1 : Heap), va_P D vwCl (ws ++ [(q, .inl (cB, N, .inr (.inr (.inr (.inr (fun _ => none))))))]) H1 → va_D A (ws ++ [(q, .inl (cB, N, .inr (.inr (.inr (.inr (fun _ => none))))))]) → va_S A H0 H1 locs → W p l e R s m args below meth c H1 locs c1 s1 Q (F0 m (pc + 3) ls (.ref q :: rest))) : W p l e R s m args below meth c H locs cells slots Q (F0 m pc ls (.int (nI N) :: rest)) := by
  subst h1; subst h2
  refine va_newq (C := "SlidingBlocks$Board") hC.1 hC.2.1 hC.2.2.2.1 (hC.2.2.2.2 _ hcl) ha hK hP hD hS hA (fun h => absurd h (nI_pos hN)) (nI_clamp hN) hby hc hs hdg (fun q cA H1 hK1 hP1 hD1 hS1 => ?_)
  have e1 : cA = cB := by
    obtain ⟨-, -, -, -, -, h3⟩ := (hK1.2 3 _ rfl).2
    obtain ⟨-, -, -, -, -, h4⟩ := (hK1.2 2 _ rfl).2
    exact Option.some.inj (h3.symm.trans h4)
  subst e1
  exact kk q H1 hP1 hD1 hS1
theorem w_new {C : String} {T : u_T} {N : Nat} {ty : Nat → FieldType} (hC : CallFix p m c cc nL s args lw_all own) (hK : va_K D vwCl (tyz cI cJ cB) s) (hP : va_P D vwCl ws H) (hD : va_D A ws) (hS : va_S A H0 H locs) (hA : ∀ q, H0.size ≤ q → A q) (hin : ∀ w ∈ u_ws C T N, w ∈ lw_all) (hty : ∀ k, k < N → parseFieldDescriptor (T k).2.2.1 = some (ty k)) (hcl : Cond.classLink own index C ∈ lw_all) (hinst : Cond.instantiable C N ∈ lw_all) (hini : Cond.initialized C ∈ lw_all) (hc9 : vwCl[ci]? = some (C, T, N)) {fs : List Value} (hfs : ∀ j, j < N → defaultValue (ty j) = vp_V fs j) (h1 : cells + 1 = c1) (h2 : slots + N = s1) (hc : c1 ≤ R.cells) (hs : s1 ≤ R.slots) (hdg : decode cc pc = .ok (.new index, 3))
    (kk : ∀ (q : Nat) (H1 : Heap), va_P D vwCl (ws ++ [(q, .inr (ci, fs))]) H1 → va_D A (ws ++ [(q, .inr (ci, fs))]) → va_S A H0 H1 locs → W p l e R s m args below meth c H1 locs c1 s1 Q (F0 m (pc + 3) ls (.ref q :: rest))) : W p l e R s m args below meth c H locs cells slots Q (F0 m pc ls rest) := by
  subst h1; subst h2
  exact va_new hC.1 hC.2.1 hC.2.2.2.2 hin ty hty hC.2.2.2.1 (hC.2.2.2.2 _ hcl) (hC.2.2.2.2 _ hinst) (hC.2.2.2.2 _ hini) hK hP hD hS hA hc9 hfs hc hs hdg kk
theorem pre_join {H1 : Heap} {u : va_W} {o : va_E} (hP : va_P D vwCl (pre ++ [(b, o)]) H) (hD : va_D A (pre ++ [(b, o)])) (hS : va_S A H0 H locs) (hA : ∀ q, H0.size ≤ q → A q) (hk : ∀ q : Nat, q < H.size → ¬ va_A [(b, o)] H.size q → H1[q]? = H[q]?) (hP1 : va_P D vwCl u H1) (hD1 : va_D (va_A [(b, o)] H.size) u) : va_P D vwCl (pre ++ u) H1 ∧ va_D A (pre ++ u) := by
  have hL : (pre ++ [(b, o)])[pre.length]? = some (b, o) := by rw [List.getElem?_append_right (Nat.le_refl _)]; simp
  have hpre : ∀ (k : Nat) (q : Nat × va_E), pre[k]? = some q → (pre ++ [(b, o)])[k]? = some q := fun k q h => by rw [List.getElem?_append_left (List.getElem?_eq_some_iff.mp h).1]; exact h
  have hne : ∀ (k : Nat) (q : Nat × va_E), pre[k]? = some q → ¬ va_A [(b, o)] H.size q.1 := by
    rintro k q h (⟨j, e, h2⟩ | h2)
    · have hj : j = 0 := by
        have := (List.getElem?_eq_some_iff.mp h2).1
        simp at this; exact this
      subst hj
      have h3 : (b, o) = (q.1, e) := by simpa using h2
      have h4 := hD.1 k pre.length q (b, o) (hpre k q h) hL (by rw [h3])
      have := (List.getElem?_eq_some_iff.mp h).1
      omega
    · exact absurd (va_at_lt (hP k q (hpre k q h))) (Nat.not_lt.mpr h2)
  have hfr : ∀ q, va_A [(b, o)] H.size q → A q := by
    rintro q (⟨j, e, h2⟩ | h2)
    · have hj : j = 0 := by
        have := (List.getElem?_eq_some_iff.mp h2).1
        simp at this; exact this
      subst hj
      have h3 : (b, o) = (q, e) := by simpa using h2
      have := hD.2 _ _ hL
      rw [h3] at this
      exact this
    · exact hA q (Nat.le_trans hS.1 h2)
  refine ⟨fun k q h => ?_, fun i j x z hx hz hxz => ?_, fun k q h => ?_⟩
  · by_cases hkl : k < pre.length
    · rw [List.getElem?_append_left hkl] at h
      have h1 := hP k q (hpre k q h)
      exact h1.kept (hk q.1 (va_at_lt h1) (hne k q h))
    · rw [List.getElem?_append_right (Nat.not_lt.mp hkl)] at h
      exact hP1 _ _ h
  · by_cases hi : i < pre.length <;> by_cases hj : j < pre.length
    · rw [List.getElem?_append_left hi] at hx
      rw [List.getElem?_append_left hj] at hz
      exact hD.1 _ _ _ _ (hpre _ _ hx) (hpre _ _ hz) hxz
    · rw [List.getElem?_append_left hi] at hx
      rw [List.getElem?_append_right (Nat.not_lt.mp hj)] at hz
      exact absurd (by rw [hxz]; exact hD1.2 _ _ hz) (hne _ _ hx)
    · rw [List.getElem?_append_right (Nat.not_lt.mp hi)] at hx
      rw [List.getElem?_append_left hj] at hz
      exact absurd (by rw [← hxz]; exact hD1.2 _ _ hx) (hne _ _ hz)
    · rw [List.getElem?_append_right (Nat.not_lt.mp hi)] at hx
      rw [List.getElem?_append_right (Nat.not_lt.mp hj)] at hz
      have := hD1.1 _ _ _ _ hx hz hxz
      omega
  · by_cases hkl : k < pre.length
    · rw [List.getElem?_append_left hkl] at h
      exact hD.2 _ _ (hpre _ _ h)
    · rw [List.getElem?_append_right (Nat.not_lt.mp hkl)] at h
      exact hfr _ (hD1.2 _ _ h)
theorem last_P {o : va_E} (hP : va_P D vwCl (pre ++ [(b, o)]) H) : va_P D vwCl [(b, o)] H := fun k q h => by
  have hj : k = 0 := by
    have := (List.getElem?_eq_some_iff.mp h).1
    simp at this; exact this
  subst hj
  have h3 : (b, o) = q := by simpa using h
  subst h3
  exact hP pre.length _ (by rw [List.getElem?_append_right (Nat.le_refl _)]; simp)
theorem last_D {o : va_E} (hD : va_D A (pre ++ [(b, o)])) : va_D (fun _ => True) [(b, o)] := ⟨fun i j x z hx hz _ => by
  have h1 := (List.getElem?_eq_some_iff.mp hx).1
  have h2 := (List.getElem?_eq_some_iff.mp hz).1
  simp at h1 h2
  omega, fun _ _ _ => trivial⟩
theorem pN_ok {tys : List (ClassId × FieldType)} (hO : va_AO "SlidingBlocks$Board" s) (hK : va_K D vwCl tys s) (hN : kN s) (hP : va_P D vwCl ws H) (hD : va_D A ws) (U : State) (hU : U.heap = H) (hW : s.WarmedH U.vm) : pN D tys ws H.size U := ⟨by rw [hU], va_AO.moved hW.alike hO, pB_ok hK hN hP hD U hU hW⟩
def mdI (y : MethodName) (cy : ByteArray) (nY n : Nat) : Prop := Cond.code y cy nY none ∈ lw_all ∧ Cond.instanceMethod y ∈ lw_all ∧ Cond.initialized y.cls ∈ lw_all ∧ y.name = "<init>" ∧ (y.cls ≠ "java/lang/invoke/MethodHandle" ∧ y.cls ≠ "java/lang/invoke/VarHandle" ∧ (parseMethodDescriptor y.desc).map (fun d => d.parameters.length) = some n)
theorem w_ctor {o : va_E} {post : va_W → Prop} (hC : CallFix p m c cc nL s args lw_all own) (hO : va_AO "SlidingBlocks$Board" s) (hK : va_K D vwCl (tyz cI cJ cB) s) (hN : kN s) (hP : va_P D vwCl (pre ++ [(b, o)]) H) (hD : va_D A (pre ++ [(b, o)])) (hS : va_S A H0 H locs) (hA : ∀ q, H0.size ≤ q → A q)
    (hM : Met l y (Cond.code y cy nY none :: lw_all) (rmC d' k9 n9) (va_Pc (.ref b :: As) (pN D (tyz cI cJ cB) [(b, o)] H.size)) (va_Qv post (nB D (va_A [(b, o)] H.size)) (va_A [(b, o)] H.size)) k9 n9 (va_A [(b, o)] H.size)) (hlk : Cond.methodLink own index y ∈ lw_all) (md : mdI y cy nY n) (hAs : As.length = n) (hls : ls.size = nL) (hst : st = As.reverse ++ .ref b :: rest) (hW : (rest.map fun v => v.category).sum ≤ 8) (hdg : decode cc pc = .ok (.invokespecial index, 3)) (hR : d' + 1 ≤ R.frames ∧ 8 + (nY + 11) + 40 * d' ≤ R.locals) (h1 : cells + k9 = c1) (h2 : slots + n9 = s1) (hc : c1 ≤ R.cells) (hs : s1 ≤ R.slots)
    (kk : ∀ (u : va_W) (H1 : Heap) (locs1 : List Loc), post u → va_P D vwCl (pre ++ u) H1 → va_D A (pre ++ u) → va_S A H0 H1 locs1 → W p l e R s m args below meth c H1 locs1 c1 s1 Q (F0 m (pc + 3) ls rest)) : W p l e R s m args below meth c H locs cells slots Q (F0 m pc ls st) := by
  subst h1; subst h2
  obtain ⟨m1, m2, m3, m4, m5⟩ := md
  have hts := hC.2.2.2.2
  have hF : ∀ q, va_A [(b, o)] H.size q → A q := va_free (wc := [(b, o)]) hD hS hA [pre.length] (by simp)
  refine va_callv (va_runI (As := As) (rest := rest) hC hM (cwI n hts (words_all m1) rfl rfl rfl (hts _ m3) (hts _ hlk) (hts _ m2) m4 m5 hR) ⟨pN_blind, fun U hU hW => ⟨rfl, pN_ok hO hK hN (last_P hP) (last_D hD) U hU hW⟩⟩ rfl hAs hls hst (lv_room hW) hdg ⟨hc, hs⟩) hS (fun q _ h => hF q h) hF (fun u t H1 locs1 ht hvm hp hB hz hk hS1 => ?_)
  obtain ⟨hP1, hD1⟩ := hB
  rw [ht] at hP1
  obtain ⟨h3, h4⟩ := pre_join hP hD hS hA hk hP1 hD1
  exact kk u H1 locs1 hp h3 h4 hS1
theorem w_ctorN {o : va_E} {host : String} {post : va_W → Prop} (hC : CallFix p m c cc nL s args lw_all own) (hO : va_AO "SlidingBlocks$Board" s) (hK : va_K D vwCl (tyz cI cJ cB) s) (hN : kN s) (hP : va_P D vwCl (pre ++ [(b, o)]) H) (hD : va_D A (pre ++ [(b, o)])) (hS : va_S A H0 H locs) (hA : ∀ q, H0.size ≤ q → A q)
    (hM : Met l y (Cond.code y cy nY none :: lw_all) (rmC d' k9 n9) (va_Pc (.ref b :: As) (pN D (tyz cI cJ cB) [(b, o)] H.size)) (va_Qv post (nB D (va_A [(b, o)] H.size)) (va_A [(b, o)] H.size)) k9 n9 (va_A [(b, o)] H.size)) (hlk : (own, index, y, host) ∈ lw_nq) (md : mdI y cy nY n) (hAs : As.length = n) (hls : ls.size = nL) (hst : st = As.reverse ++ .ref b :: rest) (hW : (rest.map fun v => v.category).sum ≤ 8) (hdg : decode cc pc = .ok (.invokespecial index, 3)) (hR : d' + 1 ≤ R.frames ∧ 8 + (nY + 11) + 40 * d' ≤ R.locals) (h1 : cells + k9 = c1) (h2 : slots + n9 = s1) (hc : c1 ≤ R.cells) (hs : s1 ≤ R.slots)
    (kk : ∀ (u : va_W) (H1 : Heap) (locs1 : List Loc), post u → va_P D vwCl (pre ++ u) H1 → va_D A (pre ++ u) → va_S A H0 H1 locs1 → W p l e R s m args below meth c H1 locs1 c1 s1 Q (F0 m (pc + 3) ls rest)) : W p l e R s m args below meth c H locs cells slots Q (F0 m pc ls st) := by
  subst h1; subst h2
  obtain ⟨m1, m2, m3, m4, m5⟩ := md
  have hts := hC.2.2.2.2
  have hF : ∀ q, va_A [(b, o)] H.size q → A q := va_free (wc := [(b, o)]) hD hS hA [pre.length] (by simp)
  refine va_callv (va_runIN (As := As) (rest := rest) (host := host) hC hM ⟨va_cnB n hts (words_all m1) rfl rfl rfl (hN _ hlk) (hts _ m3) m5 hR, m4, hts _ m2⟩ ⟨pN_blind, fun U hU hW => ⟨rfl, pN_ok hO hK hN (last_P hP) (last_D hD) U hU hW⟩⟩ rfl hAs hls hst (lv_room hW) hdg ⟨hc, hs⟩) hS (fun q _ h => hF q h) hF (fun u t H1 locs1 ht hvm hp hB hz hk hS1 => ?_)
  obtain ⟨hP1, hD1⟩ := hB
  rw [ht] at hP1
  obtain ⟨h3, h4⟩ := pre_join hP hD hS hA hk hP1 hD1
  exact kk u H1 locs1 hp h3 h4 hS1
end NW
