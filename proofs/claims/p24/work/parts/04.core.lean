/-! ===== my own layer: contracts over one list of cells; nothing is made ===== -/
def rmN (d : Nat) : Room := { frames := d, cells := 0, slots := 0, locals := 40 * d }
def aW (ws : va_W) : Nat → Prop := fun q => ∃ (k : Nat) (e : va_E), ws[k]? = some (q, e)
/-- the words of the nest, of a state -/
def kN (U : State) : Prop := ∀ q ∈ lw_nq, va_Nw (.methodLinkNest q.1 q.2.1 q.2.2.1 q.2.2.2) U
theorem kN.warm {s U : State} (hW : s.WarmedH U.vm) (h : kN s) : kN U := fun q hq => va_Nw.warmM hW (h q hq)
theorem kN.same {s U : State} (hv : s.vm = U.vm) (h : kN s) : kN U := fun q hq => va_Nw.same rfl hv (h q hq)
def adr (ws : va_W) : List Nat := ws.map (fun q => q.1)
def pB (D : va_G) (tys : List (ClassId × FieldType)) (ws : va_W) (U : State) : Prop := va_K D vwCl tys U ∧ kN U ∧ va_P D vwCl ws U.heap ∧ va_D (fun _ => True) ws
def gB (D : va_G) (ws : va_W) (ws' : va_W) (t : State) : Prop := va_P D vwCl ws' t.heap ∧ adr ws' = adr ws
theorem pB_blind {av : List Value} {D : va_G} {tys : List (ClassId × FieldType)} {ws : va_W} : FrameBlind (va_Pc av (pB D tys ws)) := fun a U g mk q => by
  obtain ⟨h0, h1, h2, h3, h4⟩ := q
  exact ⟨h0, va_K.moved (u := U) (U := U.calling g mk a) (Vm.Alike.refl U.vm) h1, kN.same (s := U) (U := U.calling g mk a) rfl h2, h3, h4⟩
theorem pB_ok {D : va_G} {tys : List (ClassId × FieldType)} {ws : va_W} {s : State} {H : Heap} {A : Nat → Prop} (hK : va_K D vwCl tys s) (hN : kN s) (hP : va_P D vwCl ws H) (hD : va_D A ws) (U : State) (hU : U.heap = H) (hW : s.WarmedH U.vm) : pB D tys ws U :=
  ⟨va_K.moved hW.alike hK, kN.warm hW hN, by rw [hU]; exact hP, hD.weaken (fun _ _ _ _ => trivial)⟩
/-- cells put back at their places -/
def wput : va_W → List Nat → va_W → va_W
  | ws, i :: is, e :: es => wput (ws.set i e) is es
  | ws, [], _ => ws
  | ws, _ :: _, [] => ws
theorem wput_len : ∀ (is : List Nat) (w1 ws : va_W), (wput ws is w1).length = ws.length
  | [], _, _ => by simp [wput]
  | _ :: _, [], _ => by simp [wput]
  | i :: is, e :: es, ws => by simp [wput, wput_len is es]
theorem wput_not : ∀ (is : List Nat) (w1 ws : va_W) (k : Nat), k ∉ is → (wput ws is w1)[k]? = ws[k]?
  | [], _, _, _, _ => by simp [wput]
  | _ :: _, [], _, _, _ => by simp [wput]
  | i :: is, e :: es, ws, k, h => by
    rw [wput, wput_not is es _ k (fun h1 => h (List.mem_cons_of_mem _ h1)), List.getElem?_set_ne (fun h1 => h (by rw [h1]; exact List.mem_cons_self))]
theorem wput_in : ∀ (is : List Nat) (w1 ws : va_W), is.Nodup → w1.length = is.length → (∀ i ∈ is, i < ws.length) → ∀ (j k : Nat), is[j]? = some k → (wput ws is w1)[k]? = w1[j]?
  | [], _, _, _, _, _, j, k, h => by simp at h
  | _ :: _, [], _, _, hl, _, _, _, _ => by simp at hl
  | i :: is, e :: es, ws, hn, hl, hb, j, k, h => by
    rw [List.nodup_cons] at hn
    cases j with
    | zero =>
      have hk : i = k := by simpa using h
      subst hk
      rw [wput, wput_not is es _ i hn.1, List.getElem?_set_self (hb i List.mem_cons_self)]
      rfl
    | succ j =>
      rw [wput, wput_in is es _ hn.2 (by simpa using hl) (fun x hx => by rw [List.length_set]; exact hb x (List.mem_cons_of_mem _ hx)) j k (by simpa using h)]
      rfl
theorem va_D_adr {A : Nat → Prop} {ws ws' : va_W} (h : adr ws' = adr ws) (hD : va_D A ws) : va_D A ws' := by
  have key : ∀ (k : Nat) (q : Nat × va_E), ws'[k]? = some q → ∃ q', ws[k]? = some q' ∧ q'.1 = q.1 := fun k q hk => by
    have h1 : (adr ws')[k]? = some q.1 := by unfold adr; rw [List.getElem?_map, hk]; rfl
    rw [h] at h1
    unfold adr at h1
    rw [List.getElem?_map] at h1
    obtain ⟨q', h2, h3⟩ := Option.map_eq_some_iff.mp h1
    exact ⟨q', h2, h3⟩
  refine ⟨fun i j x y hx hy hxy => ?_, fun k q hk => ?_⟩
  · obtain ⟨x', h1, h2⟩ := key i x hx
    obtain ⟨y', h3, h4⟩ := key j y hy
    exact hD.1 i j x' y' h1 h3 (by rw [h2, h4]; exact hxy)
  · obtain ⟨q', h1, h2⟩ := key k q hk
    rw [← h2]
    exact hD.2 k q' h1
theorem va_at_lt {D : va_G} {cl : List vw_C} {q : Nat × va_E} {H : Heap} (h : va_at D cl q H) : q.1 < H.size := by
  obtain ⟨a, e⟩ := q
  cases e with
  | inl x => exact (Array.getElem?_eq_some_iff.mp h).1
  | inr o =>
    obtain ⟨r, h1, cell, h2, -⟩ := h
    exact (Array.getElem?_eq_some_iff.mp h2).1
theorem picked {ws wc : va_W} {is : List Nat} (hC : is.map (fun i => ws[i]?) = wc.map some) : wc.length = is.length ∧ (∀ i ∈ is, i < ws.length) ∧ ∀ (j i : Nat), is[j]? = some i → ws[i]? = wc[j]? := by
  have hlen : wc.length = is.length := by
    have := congrArg List.length hC
    simpa using this.symm
  have hget : ∀ (j i : Nat), is[j]? = some i → ws[i]? = wc[j]? := fun j i h => by
    have h1 : (is.map (fun i => ws[i]?))[j]? = some (ws[i]?) := by rw [List.getElem?_map, h]; rfl
    rw [hC, List.getElem?_map] at h1
    obtain ⟨x, h2, h3⟩ := Option.map_eq_some_iff.mp h1
    rw [h2, ← h3]
  refine ⟨hlen, fun i hi => ?_, hget⟩
  obtain ⟨j, hj⟩ := List.getElem?_of_mem hi
  have h1 := hget j i hj
  have hjl : j < wc.length := by rw [hlen]; exact (List.getElem?_eq_some_iff.mp hj).1
  rw [List.getElem?_eq_getElem hjl] at h1
  exact (List.getElem?_eq_some_iff.mp h1).1
theorem wput_ok {A0 : Nat → Prop} {D : va_G} {ws wc w1 : va_W} {H H1 : Heap} {is : List Nat} (hP : va_P D vwCl ws H) (hD : va_D A0 ws) (hC : is.map (fun i => ws[i]?) = wc.map some) (hn : is.Nodup) (hk : ∀ q : Nat, q < H.size → ¬ aW wc q → H1[q]? = H[q]?) (hP1 : va_P D vwCl w1 H1) (ha : adr w1 = adr wc) : va_P D vwCl (wput ws is w1) H1 ∧ va_D A0 (wput ws is w1) := by
  obtain ⟨hl, hb, hg⟩ := picked hC
  have hl1 : w1.length = is.length := by
    have h := congrArg List.length ha
    unfold adr at h
    rw [List.length_map, List.length_map] at h
    rw [h, hl]
  have hadr : adr (wput ws is w1) = adr ws := by
    unfold adr
    refine List.ext_getElem? (fun k => ?_)
    rw [List.getElem?_map, List.getElem?_map]
    by_cases hk : k ∈ is
    · obtain ⟨j, hj⟩ := List.getElem?_of_mem hk
      rw [wput_in is w1 ws hn hl1 hb j k hj, hg j k hj]
      have h := congrArg (fun l : List Nat => l[j]?) ha
      unfold adr at h
      simpa using h
    · rw [wput_not is w1 ws k hk]
  refine ⟨fun k q hq => ?_, va_D_adr hadr hD⟩
  by_cases hki : k ∈ is
  · obtain ⟨j, hj⟩ := List.getElem?_of_mem hki
    rw [wput_in is w1 ws hn hl1 hb j k hj] at hq
    exact hP1 j q hq
  · rw [wput_not is w1 ws k hki] at hq
    refine (hP k q hq).kept (hk q.1 (va_at_lt (hP k q hq)) ?_)
    rintro ⟨j, e, he⟩
    have hjl : j < is.length := by rw [← hl]; exact (List.getElem?_eq_some_iff.mp he).1
    have h1 := hg j is[j] (List.getElem?_eq_getElem hjl)
    rw [he] at h1
    have h2 := hD.1 is[j] k _ _ h1 hq rfl
    exact hki (by rw [← h2]; exact List.getElem_mem hjl)
theorem aW_sub {A0 : Nat → Prop} {ws wc : va_W} {is : List Nat} (hD : va_D A0 ws) (hC : is.map (fun i => ws[i]?) = wc.map some) : ∀ q, aW wc q → A0 q := by
  obtain ⟨hl, -, hg⟩ := picked hC
  rintro q ⟨j, e, he⟩
  have hjl : j < is.length := by rw [← hl]; exact (List.getElem?_eq_some_iff.mp he).1
  have h1 := hg j is[j] (List.getElem?_eq_getElem hjl)
  rw [he] at h1
  exact hD.2 _ _ h1
/-- the methods' facts that a call needs of the tables -/
def mdS (y : MethodName) (cy : ByteArray) (nY : Nat) (rt : Option FieldType) (n : Nat) : Prop := Cond.code y cy nY rt ∈ lw_all ∧ Cond.static y ∈ lw_all ∧ Cond.initialized y.cls ∈ lw_all ∧ (y.cls ≠ "java/lang/invoke/MethodHandle" ∧ y.cls ≠ "java/lang/invoke/VarHandle" ∧ (parseMethodDescriptor y.desc).map (fun d => d.parameters.length) = some n)
def mdV (y : MethodName) (cy : ByteArray) (nY : Nat) (rt : Option FieldType) (n : Nat) (C : String) : Prop := Cond.code y cy nY rt ∈ lw_all ∧ Cond.instanceMethod y ∈ lw_all ∧ Cond.selects C y y ∈ lw_all ∧ Cond.initialized y.cls ∈ lw_all ∧ (y.cls ≠ "java/lang/invoke/MethodHandle" ∧ y.cls ≠ "java/lang/invoke/VarHandle" ∧ (parseMethodDescriptor y.desc).map (fun d => d.parameters.length) = some n)
theorem words_all {y : MethodName} {cy : ByteArray} {nY : Nat} {rt : Option FieldType} (hc : Cond.code y cy nY rt ∈ lw_all) : GoodIn lw_all (Cond.code y cy nY rt :: lw_all) := lw_goodIn (List.forall_mem_cons.mpr ⟨hc, fun _ h => h⟩)
theorem sub_P {D : va_G} {WS ws : va_W} {H : Heap} {is : List Nat} (hP : va_P D vwCl WS H) (hsub : is.map (fun i => WS[i]?) = ws.map some) : va_P D vwCl ws H := hP.sub is (by
  have := congrArg (List.filterMap id) hsub
  simpa [List.filterMap_map, Function.comp_def] using this)
theorem sub_D {A : Nat → Prop} {WS ws : va_W} {is : List Nat} (hD : va_D A WS) (hsub : is.map (fun i => WS[i]?) = ws.map some) (hn : is.Nodup) : va_D A ws := by
  obtain ⟨hl, hb, hg⟩ := picked hsub
  refine ⟨fun i j x y hx hy hxy => ?_, fun k q hk => ?_⟩
  · have hi : i < is.length := by rw [← hl]; exact (List.getElem?_eq_some_iff.mp hx).1
    have hj : j < is.length := by rw [← hl]; exact (List.getElem?_eq_some_iff.mp hy).1
    have h1 := hg i is[i] (List.getElem?_eq_getElem hi)
    have h2 := hg j is[j] (List.getElem?_eq_getElem hj)
    rw [hx] at h1
    rw [hy] at h2
    have h3 := hD.1 _ _ _ _ h1 h2 hxy
    rcases Nat.lt_trichotomy i j with h | h | h
    · exact absurd h3 (List.pairwise_iff_getElem.mp hn i j hi hj h)
    · exact h
    · exact absurd h3.symm (List.pairwise_iff_getElem.mp hn j i hj hi h)
  · have hi : k < is.length := by rw [← hl]; exact (List.getElem?_eq_some_iff.mp hk).1
    have h1 := hg k is[k] (List.getElem?_eq_getElem hi)
    rw [hk] at h1
    exact hD.2 _ _ h1
section KC
variable {p : Program} {l : Launch} {e : Env} {R : Room} {s : State} {m : MethodId} {args : Array Value} {below : List Frame} {meth : Method} {c : Code} {H : Heap} {locs : List Loc} {cells slots : Nat} {Q : State → Prop}
variable {cc : ByteArray} {pc nL : Nat} {ls : Array Slot} {st rest As : List Value} {D : va_G} {A : Nat → Prop} {tys : List (ClassId × FieldType)} {WS ws : va_W} {H0 : Heap} {own C : String} {is : List Nat} {y : MethodName} {cy : ByteArray} {nY d' n index ci : Nat} {rt : Option FieldType} {free : Addr → Prop} {Qc : Array Value → State → Outcome → State → Prop} {b : Addr} {fs : List Value}
theorem rnS (hC : CallFix p m c cc nL s args lw_all own) (hK : va_K D vwCl tys s) (hN : kN s) (hP : va_P D vwCl WS H) (hD : va_D A WS) (hsub : is.map (fun i => WS[i]?) = ws.map some) (hn : is.Nodup)
    (hM : Met l y (Cond.code y cy nY rt :: lw_all) (rmN d') (va_Pc As (pB D tys ws)) Qc 0 0 free) (hlk : Cond.methodLink own index y ∈ lw_all) (md : mdS y cy nY rt n) (hAs : As.length = n) (hls : ls.size = nL) (hst : st = As.reverse ++ rest) (hW : (rest.map fun v => v.category).sum ≤ 8) (hdg : decode cc pc = .ok (.invokestatic index, 3)) (hR : d' + 1 ≤ R.frames ∧ 8 + (nY + 11) + 40 * d' ≤ R.locals) (hf : cells + 0 ≤ R.cells ∧ slots + 0 ≤ R.slots) :
    va_Run p l e R s m args below meth c H locs cells slots 0 0 (F0 m pc ls st) rest (Qc As.toArray) free := by
  obtain ⟨m1, m2, m3, m4⟩ := md
  have hts := hC.2.2.2.2
  exact va_runS (As := As) (rest := rest) hC hM ⟨callB_of n hts (words_all m1) rfl rfl rfl (hts _ m3) (hts _ hlk) m4 hR, hts _ m2⟩ ⟨pB_blind, fun U hU hW => ⟨rfl, pB_ok hK hN (sub_P hP hsub) (sub_D hD hsub hn) U hU hW⟩⟩ rfl hAs hls hst (lv_room hW) hdg hf
theorem rnN {host : String} (hC : CallFix p m c cc nL s args lw_all own) (hK : va_K D vwCl tys s) (hN : kN s) (hP : va_P D vwCl WS H) (hD : va_D A WS) (hsub : is.map (fun i => WS[i]?) = ws.map some) (hn : is.Nodup)
    (hM : Met l y (Cond.code y cy nY rt :: lw_all) (rmN d') (va_Pc As (pB D tys ws)) Qc 0 0 free) (hlk : (own, index, y, host) ∈ lw_nq) (md : mdS y cy nY rt n) (hAs : As.length = n) (hls : ls.size = nL) (hst : st = As.reverse ++ rest) (hW : (rest.map fun v => v.category).sum ≤ 8) (hdg : decode cc pc = .ok (.invokestatic index, 3)) (hR : d' + 1 ≤ R.frames ∧ 8 + (nY + 11) + 40 * d' ≤ R.locals) (hf : cells + 0 ≤ R.cells ∧ slots + 0 ≤ R.slots) :
    va_Run p l e R s m args below meth c H locs cells slots 0 0 (F0 m pc ls st) rest (Qc As.toArray) free := by
  obtain ⟨m1, m2, m3, m4⟩ := md
  have hts := hC.2.2.2.2
  exact va_runSN (As := As) (rest := rest) (host := host) hC hM ⟨va_cnB n hts (words_all m1) rfl rfl rfl (hN _ hlk) (hts _ m3) m4 hR, hts _ m2, trivial⟩ ⟨pB_blind, fun U hU hW => ⟨rfl, pB_ok hK hN (sub_P hP hsub) (sub_D hD hsub hn) U hU hW⟩⟩ rfl hAs hls hst (lv_room hW) hdg hf
theorem rnV {q : vw_C} {q0 : Nat} (hC : CallFix p m c cc nL s args lw_all own) (hK : va_K D vwCl tys s) (hN : kN s) (hP : va_P D vwCl WS H) (hD : va_D A WS) (hsub : is.map (fun i => WS[i]?) = ws.map some) (hn : is.Nodup)
    (hrc : vwCl[ci]? = some q) (hrq : WS[q0]? = some (b, .inr (ci, fs))) (hqc : q.1 = C) (hM : Met l y (Cond.code y cy nY rt :: lw_all) (rmN d') (va_Pc (.ref b :: As) (pB D tys ws)) Qc 0 0 free) (hlk : Cond.methodLink own index y ∈ lw_all) (md : mdV y cy nY rt n C) (hAs : As.length = n) (hls : ls.size = nL) (hst : st = As.reverse ++ .ref b :: rest) (hW : (rest.map fun v => v.category).sum ≤ 8) (hdg : decode cc pc = .ok (.invokevirtual index, 3)) (hR : d' + 1 ≤ R.frames ∧ 8 + (nY + 11) + 40 * d' ≤ R.locals) (hf : cells + 0 ≤ R.cells ∧ slots + 0 ≤ R.slots) :
    va_Run p l e R s m args below meth c H locs cells slots 0 0 (F0 m pc ls st) rest (Qc (Value.ref b :: As).toArray) free := by
  obtain ⟨m1, m2, m3, m4, m5⟩ := md
  have hts := hC.2.2.2.2
  have hrv := va_recv hK hP hrc hrq
  rw [hqc] at hrv
  exact va_runV (As := As) (rest := rest) hC hM ⟨callB_of n hts (words_all m1) rfl rfl rfl (hts _ m4) (hts _ hlk) m5 hR, hts _ m2, hts _ m3⟩ ⟨pB_blind, hrv, fun U hU hW => ⟨rfl, pB_ok hK hN (sub_P hP hsub) (sub_D hD hsub hn) U hU hW⟩⟩ rfl hAs hls hst (lv_room hW) hdg hf
theorem kk_i {a : Array Value} {post : Int32 → va_W → Prop} (hr : va_Run p l e R s m args below meth c H locs cells slots 0 0 (F0 m pc ls st) rest (va_Qi post (gB D ws) (aW ws) a) (aW ws)) (hP : va_P D vwCl WS H) (hD : va_D A WS) (hS : va_S A H0 H locs) (hsub : is.map (fun i => WS[i]?) = ws.map some) (hn : is.Nodup)
    (kk : ∀ (r : Int32) (ws' : va_W) (H1 : Heap) (locs1 : List Loc), post r ws' → va_P D vwCl (wput WS is ws') H1 → va_D A (wput WS is ws') → va_S A H0 H1 locs1 → W p l e R s m args below meth c H1 locs1 cells slots Q (F0 m (pc + 3) ls (.int r :: rest))) : W p l e R s m args below meth c H locs cells slots Q (F0 m pc ls st) := by
  refine va_calli hr hS (fun q _ h => aW_sub hD hsub q h) (fun q h => aW_sub hD hsub q h) (fun r u t H1 locs1 ht hvm hp hB hz hk hS1 => ?_)
  obtain ⟨h1, h2⟩ := hB
  rw [ht] at h1
  obtain ⟨hP1, hD1⟩ := wput_ok hP hD hsub hn hk h1 h2
  exact kk r u H1 locs1 hp hP1 hD1 hS1
theorem kk_l {a : Array Value} {post : Int64 → va_W → Prop} (hr : va_Run p l e R s m args below meth c H locs cells slots 0 0 (F0 m pc ls st) rest (va_Ql post (gB D ws) (aW ws) a) (aW ws)) (hP : va_P D vwCl WS H) (hD : va_D A WS) (hS : va_S A H0 H locs) (hsub : is.map (fun i => WS[i]?) = ws.map some) (hn : is.Nodup)
    (kk : ∀ (r : Int64) (ws' : va_W) (H1 : Heap) (locs1 : List Loc), post r ws' → va_P D vwCl (wput WS is ws') H1 → va_D A (wput WS is ws') → va_S A H0 H1 locs1 → W p l e R s m args below meth c H1 locs1 cells slots Q (F0 m (pc + 3) ls (.long r :: rest))) : W p l e R s m args below meth c H locs cells slots Q (F0 m pc ls st) := by
  refine va_calll hr hS (fun q _ h => aW_sub hD hsub q h) (fun q h => aW_sub hD hsub q h) (fun r u t H1 locs1 ht hvm hp hB hz hk hS1 => ?_)
  obtain ⟨h1, h2⟩ := hB
  rw [ht] at h1
  obtain ⟨hP1, hD1⟩ := wput_ok hP hD hsub hn hk h1 h2
  exact kk r u H1 locs1 hp hP1 hD1 hS1
theorem kk_f {a : Array Value} {post : UInt32 → va_W → Prop} (hr : va_Run p l e R s m args below meth c H locs cells slots 0 0 (F0 m pc ls st) rest (va_Qf post (gB D ws) (aW ws) a) (aW ws)) (hP : va_P D vwCl WS H) (hD : va_D A WS) (hS : va_S A H0 H locs) (hsub : is.map (fun i => WS[i]?) = ws.map some) (hn : is.Nodup)
    (kk : ∀ (r : UInt32) (ws' : va_W) (H1 : Heap) (locs1 : List Loc), post r ws' → va_P D vwCl (wput WS is ws') H1 → va_D A (wput WS is ws') → va_S A H0 H1 locs1 → W p l e R s m args below meth c H1 locs1 cells slots Q (F0 m (pc + 3) ls (.float r :: rest))) : W p l e R s m args below meth c H locs cells slots Q (F0 m pc ls st) := by
  refine va_callf hr hS (fun q _ h => aW_sub hD hsub q h) (fun q h => aW_sub hD hsub q h) (fun r u t H1 locs1 ht hvm hp hB hz hk hS1 => ?_)
  obtain ⟨h1, h2⟩ := hB
  rw [ht] at h1
  obtain ⟨hP1, hD1⟩ := wput_ok hP hD hsub hn hk h1 h2
  exact kk r u H1 locs1 hp hP1 hD1 hS1
theorem kk_v {a : Array Value} {post : va_W → Prop} (hr : va_Run p l e R s m args below meth c H locs cells slots 0 0 (F0 m pc ls st) rest (va_Qv post (gB D ws) (aW ws) a) (aW ws)) (hP : va_P D vwCl WS H) (hD : va_D A WS) (hS : va_S A H0 H locs) (hsub : is.map (fun i => WS[i]?) = ws.map some) (hn : is.Nodup)
    (kk : ∀ (ws' : va_W) (H1 : Heap) (locs1 : List Loc), post ws' → va_P D vwCl (wput WS is ws') H1 → va_D A (wput WS is ws') → va_S A H0 H1 locs1 → W p l e R s m args below meth c H1 locs1 cells slots Q (F0 m (pc + 3) ls (rest))) : W p l e R s m args below meth c H locs cells slots Q (F0 m pc ls st) := by
  refine va_callv hr hS (fun q _ h => aW_sub hD hsub q h) (fun q h => aW_sub hD hsub q h) (fun  u t H1 locs1 ht hvm hp hB hz hk hS1 => ?_)
  obtain ⟨h1, h2⟩ := hB
  rw [ht] at h1
  obtain ⟨hP1, hD1⟩ := wput_ok hP hD hsub hn hk h1 h2
  exact kk  u H1 locs1 hp hP1 hD1 hS1
theorem kk_q {a : Array Value} {post : Option Nat → va_W → Prop} (hr : va_Run p l e R s m args below meth c H locs cells slots 0 0 (F0 m pc ls st) rest (va_Qq post (gB D ws) (aW ws) a) (aW ws)) (hP : va_P D vwCl WS H) (hD : va_D A WS) (hS : va_S A H0 H locs) (hsub : is.map (fun i => WS[i]?) = ws.map some) (hn : is.Nodup)
    (kk : ∀ (r : Option Nat) (ws' : va_W) (H1 : Heap) (locs1 : List Loc), post r ws' → va_P D vwCl (wput WS is ws') H1 → va_D A (wput WS is ws') → va_S A H0 H1 locs1 → W p l e R s m args below meth c H1 locs1 cells slots Q (F0 m (pc + 3) ls (va_rf r :: rest))) : W p l e R s m args below meth c H locs cells slots Q (F0 m pc ls st) := by
  refine va_callq hr hS (fun q _ h => aW_sub hD hsub q h) (fun q h => aW_sub hD hsub q h) (fun r u t H1 locs1 ht hvm hp hB hz hk hS1 => ?_)
  obtain ⟨h1, h2⟩ := hB
  rw [ht] at h1
  obtain ⟨hP1, hD1⟩ := wput_ok hP hD hsub hn hk h1 h2
  exact kk r u H1 locs1 hp hP1 hD1 hS1
theorem callS_i {post : Int32 → va_W → Prop} (is : List Nat) (hC : CallFix p m c cc nL s args lw_all own) (hK : va_K D vwCl tys s) (hN : kN s) (hP : va_P D vwCl WS H) (hD : va_D A WS) (hsub : is.map (fun i => WS[i]?) = ws.map some) (hn : is.Nodup) (hS : va_S A H0 H locs) (hM : Met l y (Cond.code y cy nY rt :: lw_all) (rmN d') (va_Pc As (pB D tys ws)) (va_Qi post (gB D ws) (aW ws)) 0 0 (aW ws)) (hlk : Cond.methodLink own index y ∈ lw_all) (md : mdS y cy nY rt n) (hAs : As.length = n) (hls : ls.size = nL) (hst : st = As.reverse ++ rest) (hW : (rest.map fun v => v.category).sum ≤ 8) (hdg : decode cc pc = .ok (.invokestatic index, 3)) (hR : d' + 1 ≤ R.frames ∧ 8 + (nY + 11) + 40 * d' ≤ R.locals) (hf : cells + 0 ≤ R.cells ∧ slots + 0 ≤ R.slots)
    (kk : ∀ (r : Int32) (ws' : va_W) (H1 : Heap) (locs1 : List Loc), post r ws' → va_P D vwCl (wput WS is ws') H1 → va_D A (wput WS is ws') → va_S A H0 H1 locs1 → W p l e R s m args below meth c H1 locs1 cells slots Q (F0 m (pc + 3) ls (.int r :: rest))) : W p l e R s m args below meth c H locs cells slots Q (F0 m pc ls st) :=
  kk_i (rnS hC hK hN hP hD hsub hn hM hlk md hAs hls hst hW hdg hR hf) hP hD hS hsub hn kk
theorem callS_l {post : Int64 → va_W → Prop} (is : List Nat) (hC : CallFix p m c cc nL s args lw_all own) (hK : va_K D vwCl tys s) (hN : kN s) (hP : va_P D vwCl WS H) (hD : va_D A WS) (hsub : is.map (fun i => WS[i]?) = ws.map some) (hn : is.Nodup) (hS : va_S A H0 H locs) (hM : Met l y (Cond.code y cy nY rt :: lw_all) (rmN d') (va_Pc As (pB D tys ws)) (va_Ql post (gB D ws) (aW ws)) 0 0 (aW ws)) (hlk : Cond.methodLink own index y ∈ lw_all) (md : mdS y cy nY rt n) (hAs : As.length = n) (hls : ls.size = nL) (hst : st = As.reverse ++ rest) (hW : (rest.map fun v => v.category).sum ≤ 8) (hdg : decode cc pc = .ok (.invokestatic index, 3)) (hR : d' + 1 ≤ R.frames ∧ 8 + (nY + 11) + 40 * d' ≤ R.locals) (hf : cells + 0 ≤ R.cells ∧ slots + 0 ≤ R.slots)
    (kk : ∀ (r : Int64) (ws' : va_W) (H1 : Heap) (locs1 : List Loc), post r ws' → va_P D vwCl (wput WS is ws') H1 → va_D A (wput WS is ws') → va_S A H0 H1 locs1 → W p l e R s m args below meth c H1 locs1 cells slots Q (F0 m (pc + 3) ls (.long r :: rest))) : W p l e R s m args below meth c H locs cells slots Q (F0 m pc ls st) :=
  kk_l (rnS hC hK hN hP hD hsub hn hM hlk md hAs hls hst hW hdg hR hf) hP hD hS hsub hn kk
theorem callS_v {post : va_W → Prop} (is : List Nat) (hC : CallFix p m c cc nL s args lw_all own) (hK : va_K D vwCl tys s) (hN : kN s) (hP : va_P D vwCl WS H) (hD : va_D A WS) (hsub : is.map (fun i => WS[i]?) = ws.map some) (hn : is.Nodup) (hS : va_S A H0 H locs) (hM : Met l y (Cond.code y cy nY rt :: lw_all) (rmN d') (va_Pc As (pB D tys ws)) (va_Qv post (gB D ws) (aW ws)) 0 0 (aW ws)) (hlk : Cond.methodLink own index y ∈ lw_all) (md : mdS y cy nY rt n) (hAs : As.length = n) (hls : ls.size = nL) (hst : st = As.reverse ++ rest) (hW : (rest.map fun v => v.category).sum ≤ 8) (hdg : decode cc pc = .ok (.invokestatic index, 3)) (hR : d' + 1 ≤ R.frames ∧ 8 + (nY + 11) + 40 * d' ≤ R.locals) (hf : cells + 0 ≤ R.cells ∧ slots + 0 ≤ R.slots)
    (kk : ∀ (ws' : va_W) (H1 : Heap) (locs1 : List Loc), post ws' → va_P D vwCl (wput WS is ws') H1 → va_D A (wput WS is ws') → va_S A H0 H1 locs1 → W p l e R s m args below meth c H1 locs1 cells slots Q (F0 m (pc + 3) ls (rest))) : W p l e R s m args below meth c H locs cells slots Q (F0 m pc ls st) :=
  kk_v (rnS hC hK hN hP hD hsub hn hM hlk md hAs hls hst hW hdg hR hf) hP hD hS hsub hn kk
theorem callN_i {host : String} {post : Int32 → va_W → Prop} (is : List Nat) (hC : CallFix p m c cc nL s args lw_all own) (hK : va_K D vwCl tys s) (hN : kN s) (hP : va_P D vwCl WS H) (hD : va_D A WS) (hsub : is.map (fun i => WS[i]?) = ws.map some) (hn : is.Nodup) (hS : va_S A H0 H locs) (hM : Met l y (Cond.code y cy nY rt :: lw_all) (rmN d') (va_Pc As (pB D tys ws)) (va_Qi post (gB D ws) (aW ws)) 0 0 (aW ws)) (hlk : (own, index, y, host) ∈ lw_nq) (md : mdS y cy nY rt n) (hAs : As.length = n) (hls : ls.size = nL) (hst : st = As.reverse ++ rest) (hW : (rest.map fun v => v.category).sum ≤ 8) (hdg : decode cc pc = .ok (.invokestatic index, 3)) (hR : d' + 1 ≤ R.frames ∧ 8 + (nY + 11) + 40 * d' ≤ R.locals) (hf : cells + 0 ≤ R.cells ∧ slots + 0 ≤ R.slots)
    (kk : ∀ (r : Int32) (ws' : va_W) (H1 : Heap) (locs1 : List Loc), post r ws' → va_P D vwCl (wput WS is ws') H1 → va_D A (wput WS is ws') → va_S A H0 H1 locs1 → W p l e R s m args below meth c H1 locs1 cells slots Q (F0 m (pc + 3) ls (.int r :: rest))) : W p l e R s m args below meth c H locs cells slots Q (F0 m pc ls st) :=
  kk_i (rnN hC hK hN hP hD hsub hn hM hlk md hAs hls hst hW hdg hR hf) hP hD hS hsub hn kk
theorem callN_l {host : String} {post : Int64 → va_W → Prop} (is : List Nat) (hC : CallFix p m c cc nL s args lw_all own) (hK : va_K D vwCl tys s) (hN : kN s) (hP : va_P D vwCl WS H) (hD : va_D A WS) (hsub : is.map (fun i => WS[i]?) = ws.map some) (hn : is.Nodup) (hS : va_S A H0 H locs) (hM : Met l y (Cond.code y cy nY rt :: lw_all) (rmN d') (va_Pc As (pB D tys ws)) (va_Ql post (gB D ws) (aW ws)) 0 0 (aW ws)) (hlk : (own, index, y, host) ∈ lw_nq) (md : mdS y cy nY rt n) (hAs : As.length = n) (hls : ls.size = nL) (hst : st = As.reverse ++ rest) (hW : (rest.map fun v => v.category).sum ≤ 8) (hdg : decode cc pc = .ok (.invokestatic index, 3)) (hR : d' + 1 ≤ R.frames ∧ 8 + (nY + 11) + 40 * d' ≤ R.locals) (hf : cells + 0 ≤ R.cells ∧ slots + 0 ≤ R.slots)
    (kk : ∀ (r : Int64) (ws' : va_W) (H1 : Heap) (locs1 : List Loc), post r ws' → va_P D vwCl (wput WS is ws') H1 → va_D A (wput WS is ws') → va_S A H0 H1 locs1 → W p l e R s m args below meth c H1 locs1 cells slots Q (F0 m (pc + 3) ls (.long r :: rest))) : W p l e R s m args below meth c H locs cells slots Q (F0 m pc ls st) :=
  kk_l (rnN hC hK hN hP hD hsub hn hM hlk md hAs hls hst hW hdg hR hf) hP hD hS hsub hn kk
theorem callN_v {host : String} {post : va_W → Prop} (is : List Nat) (hC : CallFix p m c cc nL s args lw_all own) (hK : va_K D vwCl tys s) (hN : kN s) (hP : va_P D vwCl WS H) (hD : va_D A WS) (hsub : is.map (fun i => WS[i]?) = ws.map some) (hn : is.Nodup) (hS : va_S A H0 H locs) (hM : Met l y (Cond.code y cy nY rt :: lw_all) (rmN d') (va_Pc As (pB D tys ws)) (va_Qv post (gB D ws) (aW ws)) 0 0 (aW ws)) (hlk : (own, index, y, host) ∈ lw_nq) (md : mdS y cy nY rt n) (hAs : As.length = n) (hls : ls.size = nL) (hst : st = As.reverse ++ rest) (hW : (rest.map fun v => v.category).sum ≤ 8) (hdg : decode cc pc = .ok (.invokestatic index, 3)) (hR : d' + 1 ≤ R.frames ∧ 8 + (nY + 11) + 40 * d' ≤ R.locals) (hf : cells + 0 ≤ R.cells ∧ slots + 0 ≤ R.slots)
    (kk : ∀ (ws' : va_W) (H1 : Heap) (locs1 : List Loc), post ws' → va_P D vwCl (wput WS is ws') H1 → va_D A (wput WS is ws') → va_S A H0 H1 locs1 → W p l e R s m args below meth c H1 locs1 cells slots Q (F0 m (pc + 3) ls (rest))) : W p l e R s m args below meth c H locs cells slots Q (F0 m pc ls st) :=
  kk_v (rnN hC hK hN hP hD hsub hn hM hlk md hAs hls hst hW hdg hR hf) hP hD hS hsub hn kk
theorem callV_i {q : vw_C} {post : Int32 → va_W → Prop} (is : List Nat) (hC : CallFix p m c cc nL s args lw_all own) (hK : va_K D vwCl tys s) (hN : kN s) (hP : va_P D vwCl WS H) (hD : va_D A WS) (hsub : is.map (fun i => WS[i]?) = ws.map some) (hn : is.Nodup) (hS : va_S A H0 H locs) (q0 : Nat) (hrc : vwCl[ci]? = some q) (hrq : WS[q0]? = some (b, .inr (ci, fs))) (hqc : q.1 = C) (hM : Met l y (Cond.code y cy nY rt :: lw_all) (rmN d') (va_Pc (.ref b :: As) (pB D tys ws)) (va_Qi post (gB D ws) (aW ws)) 0 0 (aW ws)) (hlk : Cond.methodLink own index y ∈ lw_all) (md : mdV y cy nY rt n C) (hAs : As.length = n) (hls : ls.size = nL) (hst : st = As.reverse ++ .ref b :: rest) (hW : (rest.map fun v => v.category).sum ≤ 8) (hdg : decode cc pc = .ok (.invokevirtual index, 3)) (hR : d' + 1 ≤ R.frames ∧ 8 + (nY + 11) + 40 * d' ≤ R.locals) (hf : cells + 0 ≤ R.cells ∧ slots + 0 ≤ R.slots)
    (kk : ∀ (r : Int32) (ws' : va_W) (H1 : Heap) (locs1 : List Loc), post r ws' → va_P D vwCl (wput WS is ws') H1 → va_D A (wput WS is ws') → va_S A H0 H1 locs1 → W p l e R s m args below meth c H1 locs1 cells slots Q (F0 m (pc + 3) ls (.int r :: rest))) : W p l e R s m args below meth c H locs cells slots Q (F0 m pc ls st) :=
  kk_i (rnV hC hK hN hP hD hsub hn hrc hrq hqc hM hlk md hAs hls hst hW hdg hR hf) hP hD hS hsub hn kk
theorem callV_l {q : vw_C} {post : Int64 → va_W → Prop} (is : List Nat) (hC : CallFix p m c cc nL s args lw_all own) (hK : va_K D vwCl tys s) (hN : kN s) (hP : va_P D vwCl WS H) (hD : va_D A WS) (hsub : is.map (fun i => WS[i]?) = ws.map some) (hn : is.Nodup) (hS : va_S A H0 H locs) (q0 : Nat) (hrc : vwCl[ci]? = some q) (hrq : WS[q0]? = some (b, .inr (ci, fs))) (hqc : q.1 = C) (hM : Met l y (Cond.code y cy nY rt :: lw_all) (rmN d') (va_Pc (.ref b :: As) (pB D tys ws)) (va_Ql post (gB D ws) (aW ws)) 0 0 (aW ws)) (hlk : Cond.methodLink own index y ∈ lw_all) (md : mdV y cy nY rt n C) (hAs : As.length = n) (hls : ls.size = nL) (hst : st = As.reverse ++ .ref b :: rest) (hW : (rest.map fun v => v.category).sum ≤ 8) (hdg : decode cc pc = .ok (.invokevirtual index, 3)) (hR : d' + 1 ≤ R.frames ∧ 8 + (nY + 11) + 40 * d' ≤ R.locals) (hf : cells + 0 ≤ R.cells ∧ slots + 0 ≤ R.slots)
    (kk : ∀ (r : Int64) (ws' : va_W) (H1 : Heap) (locs1 : List Loc), post r ws' → va_P D vwCl (wput WS is ws') H1 → va_D A (wput WS is ws') → va_S A H0 H1 locs1 → W p l e R s m args below meth c H1 locs1 cells slots Q (F0 m (pc + 3) ls (.long r :: rest))) : W p l e R s m args below meth c H locs cells slots Q (F0 m pc ls st) :=
  kk_l (rnV hC hK hN hP hD hsub hn hrc hrq hqc hM hlk md hAs hls hst hW hdg hR hf) hP hD hS hsub hn kk
theorem callV_f {q : vw_C} {post : UInt32 → va_W → Prop} (is : List Nat) (hC : CallFix p m c cc nL s args lw_all own) (hK : va_K D vwCl tys s) (hN : kN s) (hP : va_P D vwCl WS H) (hD : va_D A WS) (hsub : is.map (fun i => WS[i]?) = ws.map some) (hn : is.Nodup) (hS : va_S A H0 H locs) (q0 : Nat) (hrc : vwCl[ci]? = some q) (hrq : WS[q0]? = some (b, .inr (ci, fs))) (hqc : q.1 = C) (hM : Met l y (Cond.code y cy nY rt :: lw_all) (rmN d') (va_Pc (.ref b :: As) (pB D tys ws)) (va_Qf post (gB D ws) (aW ws)) 0 0 (aW ws)) (hlk : Cond.methodLink own index y ∈ lw_all) (md : mdV y cy nY rt n C) (hAs : As.length = n) (hls : ls.size = nL) (hst : st = As.reverse ++ .ref b :: rest) (hW : (rest.map fun v => v.category).sum ≤ 8) (hdg : decode cc pc = .ok (.invokevirtual index, 3)) (hR : d' + 1 ≤ R.frames ∧ 8 + (nY + 11) + 40 * d' ≤ R.locals) (hf : cells + 0 ≤ R.cells ∧ slots + 0 ≤ R.slots)
    (kk : ∀ (r : UInt32) (ws' : va_W) (H1 : Heap) (locs1 : List Loc), post r ws' → va_P D vwCl (wput WS is ws') H1 → va_D A (wput WS is ws') → va_S A H0 H1 locs1 → W p l e R s m args below meth c H1 locs1 cells slots Q (F0 m (pc + 3) ls (.float r :: rest))) : W p l e R s m args below meth c H locs cells slots Q (F0 m pc ls st) :=
  kk_f (rnV hC hK hN hP hD hsub hn hrc hrq hqc hM hlk md hAs hls hst hW hdg hR hf) hP hD hS hsub hn kk
theorem callV_v {q : vw_C} {post : va_W → Prop} (is : List Nat) (hC : CallFix p m c cc nL s args lw_all own) (hK : va_K D vwCl tys s) (hN : kN s) (hP : va_P D vwCl WS H) (hD : va_D A WS) (hsub : is.map (fun i => WS[i]?) = ws.map some) (hn : is.Nodup) (hS : va_S A H0 H locs) (q0 : Nat) (hrc : vwCl[ci]? = some q) (hrq : WS[q0]? = some (b, .inr (ci, fs))) (hqc : q.1 = C) (hM : Met l y (Cond.code y cy nY rt :: lw_all) (rmN d') (va_Pc (.ref b :: As) (pB D tys ws)) (va_Qv post (gB D ws) (aW ws)) 0 0 (aW ws)) (hlk : Cond.methodLink own index y ∈ lw_all) (md : mdV y cy nY rt n C) (hAs : As.length = n) (hls : ls.size = nL) (hst : st = As.reverse ++ .ref b :: rest) (hW : (rest.map fun v => v.category).sum ≤ 8) (hdg : decode cc pc = .ok (.invokevirtual index, 3)) (hR : d' + 1 ≤ R.frames ∧ 8 + (nY + 11) + 40 * d' ≤ R.locals) (hf : cells + 0 ≤ R.cells ∧ slots + 0 ≤ R.slots)
    (kk : ∀ (ws' : va_W) (H1 : Heap) (locs1 : List Loc), post ws' → va_P D vwCl (wput WS is ws') H1 → va_D A (wput WS is ws') → va_S A H0 H1 locs1 → W p l e R s m args below meth c H1 locs1 cells slots Q (F0 m (pc + 3) ls (rest))) : W p l e R s m args below meth c H locs cells slots Q (F0 m pc ls st) :=
  kk_v (rnV hC hK hN hP hD hsub hn hrc hrq hqc hM hlk md hAs hls hst hW hdg hR hf) hP hD hS hsub hn kk
theorem callV_q {q : vw_C} {post : Option Nat → va_W → Prop} (is : List Nat) (hC : CallFix p m c cc nL s args lw_all own) (hK : va_K D vwCl tys s) (hN : kN s) (hP : va_P D vwCl WS H) (hD : va_D A WS) (hsub : is.map (fun i => WS[i]?) = ws.map some) (hn : is.Nodup) (hS : va_S A H0 H locs) (q0 : Nat) (hrc : vwCl[ci]? = some q) (hrq : WS[q0]? = some (b, .inr (ci, fs))) (hqc : q.1 = C) (hM : Met l y (Cond.code y cy nY rt :: lw_all) (rmN d') (va_Pc (.ref b :: As) (pB D tys ws)) (va_Qq post (gB D ws) (aW ws)) 0 0 (aW ws)) (hlk : Cond.methodLink own index y ∈ lw_all) (md : mdV y cy nY rt n C) (hAs : As.length = n) (hls : ls.size = nL) (hst : st = As.reverse ++ .ref b :: rest) (hW : (rest.map fun v => v.category).sum ≤ 8) (hdg : decode cc pc = .ok (.invokevirtual index, 3)) (hR : d' + 1 ≤ R.frames ∧ 8 + (nY + 11) + 40 * d' ≤ R.locals) (hf : cells + 0 ≤ R.cells ∧ slots + 0 ≤ R.slots)
    (kk : ∀ (r : Option Nat) (ws' : va_W) (H1 : Heap) (locs1 : List Loc), post r ws' → va_P D vwCl (wput WS is ws') H1 → va_D A (wput WS is ws') → va_S A H0 H1 locs1 → W p l e R s m args below meth c H1 locs1 cells slots Q (F0 m (pc + 3) ls (va_rf r :: rest))) : W p l e R s m args below meth c H locs cells slots Q (F0 m pc ls st) :=
  kk_q (rnV hC hK hN hP hD hsub hn hrc hrq hqc hM hlk md hAs hls hst hW hdg hR hf) hP hD hS hsub hn kk
end KC
