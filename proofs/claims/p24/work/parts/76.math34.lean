/-! ===== the law's world: order does not matter ===== -/
theorem mem_get {α : Type} {x : α} {w : List α} (h : x ∈ w) : ∃ k : Nat, w[k]? = some x := List.getElem?_of_mem h
theorem va_P_mem {D : va_G} {ws : va_W} {H : Heap} : va_P D vwCl ws H ↔ ∀ q ∈ ws, va_at D vwCl q H := ⟨fun h q hq => by
  obtain ⟨k, hk⟩ := mem_get hq
  exact h k q hk, fun h k q hk => h q (List.mem_of_getElem? hk)⟩
theorem va_P_perm {D : va_G} {ws w2 : va_W} {H : Heap} (hp : ws.Perm w2) (h : va_P D vwCl ws H) : va_P D vwCl w2 H := va_P_mem.mpr fun q hq => va_P_mem.mp h q (hp.mem_iff.mpr hq)
theorem va_D_iff {A : Nat → Prop} {ws : va_W} : va_D A ws ↔ (adr ws).Nodup ∧ ∀ q ∈ ws, A q.1 := by
  unfold adr
  constructor
  · rintro ⟨h1, h2⟩
    refine ⟨List.pairwise_iff_getElem.mpr fun i j hi hj hij he => ?_, fun q hq => ?_⟩
    · rw [List.length_map] at hi hj
      rw [List.getElem_map, List.getElem_map] at he
      have := h1 i j _ _ (List.getElem?_eq_getElem hi) (List.getElem?_eq_getElem hj) he
      omega
    · obtain ⟨k, hk⟩ := mem_get hq
      exact h2 k q hk
  · rintro ⟨h1, h2⟩
    refine ⟨fun i j x y hx hy hxy => ?_, fun k q hk => h2 q (List.mem_of_getElem? hk)⟩
    obtain ⟨hi, hx1⟩ := List.getElem?_eq_some_iff.mp hx
    obtain ⟨hj, hy1⟩ := List.getElem?_eq_some_iff.mp hy
    have hn := List.pairwise_iff_getElem.mp h1
    have hi2 : i < (ws.map (fun q => q.1)).length := by rw [List.length_map]; exact hi
    have hj2 : j < (ws.map (fun q => q.1)).length := by rw [List.length_map]; exact hj
    have he : (ws.map (fun q => q.1))[i] = (ws.map (fun q => q.1))[j] := by rw [List.getElem_map, List.getElem_map, hx1, hy1]; exact hxy
    rcases Nat.lt_trichotomy i j with h | h | h
    · exact absurd he (hn i j hi2 hj2 h)
    · exact h
    · exact absurd he.symm (hn j i hj2 hi2 h)
theorem va_D_perm {A : Nat → Prop} {ws w2 : va_W} (hp : ws.Perm w2) (h : va_D A ws) : va_D A w2 := by
  obtain ⟨h1, h2⟩ := va_D_iff.mp h
  exact va_D_iff.mpr ⟨((hp.map (fun q : Nat × va_E => q.1)).nodup_iff).mp h1, fun q hq => h2 q (hp.mem_iff.mpr hq)⟩
theorem adr_append (a b : va_W) : adr (a ++ b) = adr a ++ adr b := List.map_append
theorem aW_mem {ws : va_W} {q : Nat} : aW ws q ↔ q ∈ adr ws := by
  constructor
  · rintro ⟨k, e, h⟩
    exact List.mem_map.mpr ⟨(q, e), List.mem_of_getElem? h, rfl⟩
  · intro h
    obtain ⟨x, hx, rfl⟩ := List.mem_map.mp h
    obtain ⟨k, hk⟩ := mem_get hx
    exact ⟨k, x.2, hk⟩
theorem app_ok {A0 : Nat → Prop} {D : va_G} {wc wr w1 : va_W} {H H1 : Heap} (hP : va_P D vwCl (wc ++ wr) H) (hD : va_D A0 (wc ++ wr)) (hk : ∀ q : Nat, q < H.size → ¬ aW wc q → H1[q]? = H[q]?) (hP1 : va_P D vwCl w1 H1) (ha : adr w1 = adr wc) : va_P D vwCl (w1 ++ wr) H1 ∧ va_D A0 (w1 ++ wr) := by
  obtain ⟨hn, hA⟩ := va_D_iff.mp hD
  rw [adr_append] at hn
  have hdis := (List.nodup_append.mp hn).2.2
  refine ⟨va_P_mem.mpr fun q hq => ?_, va_D_adr (by rw [adr_append, adr_append, ha]) hD⟩
  rcases List.mem_append.mp hq with h | h
  · exact va_P_mem.mp hP1 q h
  · have h1 := va_P_mem.mp hP q (List.mem_append_right _ h)
    refine h1.kept (hk q.1 (va_at_lt h1) fun h2 => ?_)
    exact hdis _ (aW_mem.mp h2) _ (List.mem_map.mpr ⟨q, h, rfl⟩) rfl
theorem app_sub {A0 : Nat → Prop} {wc wr : va_W} (hD : va_D A0 (wc ++ wr)) : ∀ q, aW wc q → A0 q := fun q h => by
  obtain ⟨x, hx, rfl⟩ := List.mem_map.mp (aW_mem.mp h)
  exact (va_D_iff.mp hD).2 x (List.mem_append_left _ hx)
theorem app_D {A0 : Nat → Prop} {wc wr : va_W} (hD : va_D A0 (wc ++ wr)) : va_D A0 wc := by
  obtain ⟨hn, hA⟩ := va_D_iff.mp hD
  rw [adr_append] at hn
  exact va_D_iff.mpr ⟨(List.nodup_append.mp hn).1, fun q hq => hA q (List.mem_append_left _ hq)⟩
theorem app_P {D : va_G} {wc wr : va_W} {H : Heap} (hP : va_P D vwCl (wc ++ wr) H) : va_P D vwCl wc H := va_P_mem.mpr fun q hq => va_P_mem.mp hP q (List.mem_append_left _ hq)
theorem perm_cnt {ws w2 : va_W} (h : ∀ (i : DecidableEq (Nat × va_E)) (a : Nat × va_E), List.count a ws = List.count a w2) : ws.Perm w2 := by
  haveI i : DecidableEq (Nat × va_E) := fun a b => Classical.propDecidable (a = b)
  exact List.perm_iff_count.mpr (fun a => h i a)
theorem perm_try (a b c d e : va_W) : (a ++ (b ++ (c ++ (d ++ e)))).Perm ((e ++ b) ++ (d ++ (a ++ c))) := perm_cnt fun i x => by simp only [List.count_append]; omega
section LC
variable {p : Program} {l : Launch} {e : Env} {R : Room} {s : State} {m : MethodId} {args : Array Value} {below : List Frame} {meth : Method} {c : Code} {H : Heap} {locs : List Loc} {cells slots : Nat} {Q : State → Prop}
variable {cc : ByteArray} {pc nL : Nat} {ls : Array Slot} {st rest As : List Value} {D : va_G} {A : Nat → Prop} {tys : List (ClassId × FieldType)} {WS wc wr : va_W} {H0 : Heap} {own C : String} {y : MethodName} {cy : ByteArray} {nY d' n index ci : Nat} {rt : Option FieldType} {free : Addr → Prop} {Qc : Array Value → State → Outcome → State → Prop} {b : Addr} {fs : List Value}
theorem rnL {q : vw_C} (hC : CallFix p m c cc nL s args lw_all own) (hK : va_K D vwCl tys s) (hN : kN s) (hP : va_P D vwCl WS H) (hD : va_D A WS) (hp : WS.Perm (wc ++ wr)) (hrc : vwCl[ci]? = some q) (hrq : (b, .inr (ci, fs)) ∈ wc) (hqc : q.1 = C) (hM : Met l y (Cond.code y cy nY rt :: lw_all) (rmN d') (va_Pc (.ref b :: As) (pB D tys wc)) Qc 0 0 free) (hlk : Cond.methodLink own index y ∈ lw_all) (md : mdV y cy nY rt n C) (hAs : As.length = n) (hls : ls.size = nL) (hst : st = As.reverse ++ .ref b :: rest) (hW : (rest.map fun v => v.category).sum ≤ 8) (hdg : decode cc pc = .ok (.invokevirtual index, 3)) (hR : d' + 1 ≤ R.frames ∧ 8 + (nY + 11) + 40 * d' ≤ R.locals) (hf : cells + 0 ≤ R.cells ∧ slots + 0 ≤ R.slots) :
    va_Run p l e R s m args below meth c H locs cells slots 0 0 (F0 m pc ls st) rest (Qc (Value.ref b :: As).toArray) free := by
  obtain ⟨m1, m2, m3, m4, m5⟩ := md
  have hts := hC.2.2.2.2
  have hPc := app_P (va_P_perm hp hP)
  have hDc := app_D (va_D_perm hp hD)
  obtain ⟨k, hk⟩ := mem_get hrq
  have hrv := va_recv hK hPc hrc hk
  rw [hqc] at hrv
  exact va_runV (As := As) (rest := rest) hC hM ⟨callB_of n hts (words_all m1) rfl rfl rfl (hts _ m4) (hts _ hlk) m5 hR, hts _ m2, hts _ m3⟩ ⟨pB_blind, hrv, fun U hU hW => ⟨rfl, pB_ok hK hN hPc hDc U hU hW⟩⟩ rfl hAs hls hst (lv_room hW) hdg hf
theorem callL_i {q : vw_C} {post : Int32 → va_W → Prop} (wc wr : va_W) (hC : CallFix p m c cc nL s args lw_all own) (hK : va_K D vwCl tys s) (hN : kN s) (hP : va_P D vwCl WS H) (hD : va_D A WS) (hp : WS.Perm (wc ++ wr)) (hS : va_S A H0 H locs) (hrc : vwCl[ci]? = some q) (hrq : (b, .inr (ci, fs)) ∈ wc) (hqc : q.1 = C) (hM : Met l y (Cond.code y cy nY rt :: lw_all) (rmN d') (va_Pc (.ref b :: As) (pB D tys wc)) (va_Qi post (gB D wc) (aW wc)) 0 0 (aW wc)) (hlk : Cond.methodLink own index y ∈ lw_all) (md : mdV y cy nY rt n C) (hAs : As.length = n) (hls : ls.size = nL) (hst : st = As.reverse ++ .ref b :: rest) (hW : (rest.map fun v => v.category).sum ≤ 8) (hdg : decode cc pc = .ok (.invokevirtual index, 3)) (hR : d' + 1 ≤ R.frames ∧ 8 + (nY + 11) + 40 * d' ≤ R.locals) (hf : cells + 0 ≤ R.cells ∧ slots + 0 ≤ R.slots)
    (kk : ∀ (r : Int32) (w1 : va_W) (H1 : Heap) (locs1 : List Loc), post r w1 → va_P D vwCl (w1 ++ wr) H1 → va_D A (w1 ++ wr) → va_S A H0 H1 locs1 → W p l e R s m args below meth c H1 locs1 cells slots Q (F0 m (pc + 3) ls (.int r :: rest))) : W p l e R s m args below meth c H locs cells slots Q (F0 m pc ls st) := by
  have hPp := va_P_perm hp hP
  have hDp := va_D_perm hp hD
  refine va_calli (rnL (wc := wc) (wr := wr) hC hK hN hP hD hp hrc hrq hqc hM hlk md hAs hls hst hW hdg hR hf) hS (fun q _ h => app_sub hDp q h) (fun q h => app_sub hDp q h) (fun r u t H1 locs1 ht hvm hp1 hB hz hk hS1 => ?_)
  obtain ⟨h1, h2⟩ := hB
  rw [ht] at h1
  obtain ⟨hP1, hD1⟩ := app_ok hPp hDp hk h1 h2
  exact kk r u H1 locs1 hp1 hP1 hD1 hS1
theorem callL_l {q : vw_C} {post : Int64 → va_W → Prop} (wc wr : va_W) (hC : CallFix p m c cc nL s args lw_all own) (hK : va_K D vwCl tys s) (hN : kN s) (hP : va_P D vwCl WS H) (hD : va_D A WS) (hp : WS.Perm (wc ++ wr)) (hS : va_S A H0 H locs) (hrc : vwCl[ci]? = some q) (hrq : (b, .inr (ci, fs)) ∈ wc) (hqc : q.1 = C) (hM : Met l y (Cond.code y cy nY rt :: lw_all) (rmN d') (va_Pc (.ref b :: As) (pB D tys wc)) (va_Ql post (gB D wc) (aW wc)) 0 0 (aW wc)) (hlk : Cond.methodLink own index y ∈ lw_all) (md : mdV y cy nY rt n C) (hAs : As.length = n) (hls : ls.size = nL) (hst : st = As.reverse ++ .ref b :: rest) (hW : (rest.map fun v => v.category).sum ≤ 8) (hdg : decode cc pc = .ok (.invokevirtual index, 3)) (hR : d' + 1 ≤ R.frames ∧ 8 + (nY + 11) + 40 * d' ≤ R.locals) (hf : cells + 0 ≤ R.cells ∧ slots + 0 ≤ R.slots)
    (kk : ∀ (r : Int64) (w1 : va_W) (H1 : Heap) (locs1 : List Loc), post r w1 → va_P D vwCl (w1 ++ wr) H1 → va_D A (w1 ++ wr) → va_S A H0 H1 locs1 → W p l e R s m args below meth c H1 locs1 cells slots Q (F0 m (pc + 3) ls (.long r :: rest))) : W p l e R s m args below meth c H locs cells slots Q (F0 m pc ls st) := by
  have hPp := va_P_perm hp hP
  have hDp := va_D_perm hp hD
  refine va_calll (rnL (wc := wc) (wr := wr) hC hK hN hP hD hp hrc hrq hqc hM hlk md hAs hls hst hW hdg hR hf) hS (fun q _ h => app_sub hDp q h) (fun q h => app_sub hDp q h) (fun r u t H1 locs1 ht hvm hp1 hB hz hk hS1 => ?_)
  obtain ⟨h1, h2⟩ := hB
  rw [ht] at h1
  obtain ⟨hP1, hD1⟩ := app_ok hPp hDp hk h1 h2
  exact kk r u H1 locs1 hp1 hP1 hD1 hS1
theorem callL_f {q : vw_C} {post : UInt32 → va_W → Prop} (wc wr : va_W) (hC : CallFix p m c cc nL s args lw_all own) (hK : va_K D vwCl tys s) (hN : kN s) (hP : va_P D vwCl WS H) (hD : va_D A WS) (hp : WS.Perm (wc ++ wr)) (hS : va_S A H0 H locs) (hrc : vwCl[ci]? = some q) (hrq : (b, .inr (ci, fs)) ∈ wc) (hqc : q.1 = C) (hM : Met l y (Cond.code y cy nY rt :: lw_all) (rmN d') (va_Pc (.ref b :: As) (pB D tys wc)) (va_Qf post (gB D wc) (aW wc)) 0 0 (aW wc)) (hlk : Cond.methodLink own index y ∈ lw_all) (md : mdV y cy nY rt n C) (hAs : As.length = n) (hls : ls.size = nL) (hst : st = As.reverse ++ .ref b :: rest) (hW : (rest.map fun v => v.category).sum ≤ 8) (hdg : decode cc pc = .ok (.invokevirtual index, 3)) (hR : d' + 1 ≤ R.frames ∧ 8 + (nY + 11) + 40 * d' ≤ R.locals) (hf : cells + 0 ≤ R.cells ∧ slots + 0 ≤ R.slots)
    (kk : ∀ (r : UInt32) (w1 : va_W) (H1 : Heap) (locs1 : List Loc), post r w1 → va_P D vwCl (w1 ++ wr) H1 → va_D A (w1 ++ wr) → va_S A H0 H1 locs1 → W p l e R s m args below meth c H1 locs1 cells slots Q (F0 m (pc + 3) ls (.float r :: rest))) : W p l e R s m args below meth c H locs cells slots Q (F0 m pc ls st) := by
  have hPp := va_P_perm hp hP
  have hDp := va_D_perm hp hD
  refine va_callf (rnL (wc := wc) (wr := wr) hC hK hN hP hD hp hrc hrq hqc hM hlk md hAs hls hst hW hdg hR hf) hS (fun q _ h => app_sub hDp q h) (fun q h => app_sub hDp q h) (fun r u t H1 locs1 ht hvm hp1 hB hz hk hS1 => ?_)
  obtain ⟨h1, h2⟩ := hB
  rw [ht] at h1
  obtain ⟨hP1, hD1⟩ := app_ok hPp hDp hk h1 h2
  exact kk r u H1 locs1 hp1 hP1 hD1 hS1
theorem callL_v {q : vw_C} {post : va_W → Prop} (wc wr : va_W) (hC : CallFix p m c cc nL s args lw_all own) (hK : va_K D vwCl tys s) (hN : kN s) (hP : va_P D vwCl WS H) (hD : va_D A WS) (hp : WS.Perm (wc ++ wr)) (hS : va_S A H0 H locs) (hrc : vwCl[ci]? = some q) (hrq : (b, .inr (ci, fs)) ∈ wc) (hqc : q.1 = C) (hM : Met l y (Cond.code y cy nY rt :: lw_all) (rmN d') (va_Pc (.ref b :: As) (pB D tys wc)) (va_Qv post (gB D wc) (aW wc)) 0 0 (aW wc)) (hlk : Cond.methodLink own index y ∈ lw_all) (md : mdV y cy nY rt n C) (hAs : As.length = n) (hls : ls.size = nL) (hst : st = As.reverse ++ .ref b :: rest) (hW : (rest.map fun v => v.category).sum ≤ 8) (hdg : decode cc pc = .ok (.invokevirtual index, 3)) (hR : d' + 1 ≤ R.frames ∧ 8 + (nY + 11) + 40 * d' ≤ R.locals) (hf : cells + 0 ≤ R.cells ∧ slots + 0 ≤ R.slots)
    (kk : ∀ (w1 : va_W) (H1 : Heap) (locs1 : List Loc), post w1 → va_P D vwCl (w1 ++ wr) H1 → va_D A (w1 ++ wr) → va_S A H0 H1 locs1 → W p l e R s m args below meth c H1 locs1 cells slots Q (F0 m (pc + 3) ls rest)) : W p l e R s m args below meth c H locs cells slots Q (F0 m pc ls st) := by
  have hPp := va_P_perm hp hP
  have hDp := va_D_perm hp hD
  refine va_callv (rnL (wc := wc) (wr := wr) hC hK hN hP hD hp hrc hrq hqc hM hlk md hAs hls hst hW hdg hR hf) hS (fun q _ h => app_sub hDp q h) (fun q h => app_sub hDp q h) (fun u t H1 locs1 ht hvm hp1 hB hz hk hS1 => ?_)
  obtain ⟨h1, h2⟩ := hB
  rw [ht] at h1
  obtain ⟨hP1, hD1⟩ := app_ok hPp hDp hk h1 h2
  exact kk u H1 locs1 hp1 hP1 hD1 hS1
end LC
