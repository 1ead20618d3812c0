section CP7
variable {p : Program} {l : Launch} {e : Env} {R : Room} {s : State} {m : MethodId} {args : Array Value} {below : List Frame} {meth : Method} {c : Code} {H : Heap} {locs : List Loc} {cells slots : Nat} {Q : State → Prop}
variable {cc : ByteArray} {pc nL : Nat} {ls : Array Slot} {rest : List Value} {D : va_G} {A : Nat → Prop} {tys : List (ClassId × FieldType)} {ws : va_W} {H0 : Heap} {own : String} {index : Nat}
theorem n_copy7 (hC : CallFix p m c cc nL s args lw_all own) (hls : ls.size = nL) (hK : va_K D vwCl tys s) (hP : va_P D vwCl ws H) (hD : va_D A ws) (hS : va_S A H0 H locs) (q0 q1 : Nat) {a0 a : Nat} {c0 : ClassId} {f g : Nat → Int32} (ha0 : ws[q0]? = some (a0, .inl (c0, 7, .inl f))) (ha1 : ws[q1]? = some (a, .inl (c0, 7, .inl g))) (ht : tys[0]? = some (c0, .int)) (hlk : Cond.methodLink own index arraycopyName ∈ lw_all) {ws1 : va_W} (hw : ws.set q1 (a, .inl (c0, 7, .inl f)) = ws1)
    (hframes : 1 ≤ R.frames) (hlocals : (rest.map fun v => v.category).sum + (nativeFrameWords "java/lang/System" "arraycopy" 5 + 11) ≤ R.locals) (hdg : decode cc pc = .ok (.invokestatic index, 3))
    (kk : ∀ (H1 : Heap) (locs1 : List Loc), va_P D vwCl ws1 H1 → va_D A ws1 → va_S A H0 H1 locs1 → W p l e R s m args below meth c H1 locs1 cells slots Q (F0 m (pc + 3) ls rest)) : W p l e R s m args below meth c H locs cells slots Q (F0 m pc ls (.int (nI 7) :: .int (nI 0) :: .ref a :: .int (nI 0) :: .ref a0 :: rest)) := by
  subst hw
  refine va_copyi hC.1 hC.2.1 (hC.2.2.1.trans hls.symm) hC.2.2.2.1 (hC.2.2.2.2 _ hlk) (hC.2.2.2.2 _ q387) (hC.2.2.2.2 _ q386) (hC.2.2.2.2 _ q10) hK hP hD hS q0 q1 0 0 ha0 ha1 ht ht rfl (by decide) (by decide) (by decide) (by decide) (by decide) (fun i _ => rfl) hframes hlocals hdg (fun H1 locs1 h1 h2 h3 => ?_)
  have hq : q1 < ws.length := (List.getElem?_eq_some_iff.mp ha1).1
  refine kk H1 locs1 (va_P_reI q1 h1 (List.getElem?_set_self hq) (fun j hj => ?_) (List.set_set ..)) (va_D_adr ?_ h2) h3
  · show (if _ ∧ _ then _ else _) = f j
    rw [if_pos ⟨Nat.zero_le _, by show j < 0 + 7; omega⟩]
    show f (0 + (j - 0)) = f j
    rw [Nat.zero_add, Nat.sub_zero]
  · unfold adr
    rw [List.map_set, List.map_set]
theorem n_aald (hx : p.tables.exec = Jvm.exec) (hb : c.code = cc) (hK : va_K D vwCl tys s) (hP : va_P D vwCl ws H) (q0 t0 : Nat) {ad : Nat} {cA : ClassId} {C : String} {n i : Nat} {f : Nat → Option Nat} (he : ws[q0]? = some (ad, .inl (cA, n, .inr (.inr (.inr (.inr f)))))) (ht : tys[t0]? = some (cA, .object C)) (hi : i < n) (hn : n < 2 ^ 31) (hdg : decode cc pc = .ok (.aaload, 1))
    (k : W p l e R s m args below meth c H locs cells slots Q (F0 m (pc + 1) ls (va_rf (f i) :: rest))) : W p l e R s m args below meth c H locs cells slots Q (F0 m pc ls (.int (nI i) :: .ref ad :: rest)) :=
  va_aldq hx hb hK hP q0 t0 he ht (vp_in_nI hi hn) hdg (by rw [nI_cl hi hn]; exact k)
end CP7
/-! ===== a history of boards ===== -/
abbrev BT : Type := Nat × Nat × Nat × Nat × Nat × Int32 × Int32 × Option Nat × Option Nat × Option Nat × (Nat → Nat) × (Nat → Nat) × (Nat → Nat) × (Nat → Nat)
abbrev tse (t : BT) : Nat := t.1
abbrev twd (t : BT) : Nat := t.2.1
abbrev thd (t : BT) : Nat := t.2.2.1
abbrev tnb (t : BT) : Nat := t.2.2.2.1
abbrev twl (t : BT) : Nat := t.2.2.2.2.1
abbrev tst (t : BT) : Int32 := t.2.2.2.2.2.1
abbrev tsl (t : BT) : Int32 := t.2.2.2.2.2.2.1
abbrev tgl (t : BT) : Option Nat := t.2.2.2.2.2.2.2.1
abbrev taq (t : BT) : Option Nat := t.2.2.2.2.2.2.2.2.1
abbrev tlb (t : BT) : Option Nat := t.2.2.2.2.2.2.2.2.2.1
abbrev tsh (t : BT) : Nat → Nat := t.2.2.2.2.2.2.2.2.2.2.1
abbrev tbw (t : BT) : Nat → Nat := t.2.2.2.2.2.2.2.2.2.2.2.1
abbrev tbh (t : BT) : Nat → Nat := t.2.2.2.2.2.2.2.2.2.2.2.2.1
abbrev tps (t : BT) : Nat → Nat := t.2.2.2.2.2.2.2.2.2.2.2.2.2
abbrev bTW (cI cJ cB : ClassId) (x : Nat → Nat) (t : BT) : va_W := bW cI cJ cB (x 0) (x 1) (x 2) (x 3) (x 4) (nI (tse t)) (nI (twd t)) (nI (thd t)) (nI (twl t)) (nI (tnb t)) (nI (topv (twd t))) (nI (rcv (twd t) (thd t))) (nI (btv (twd t) (thd t))) (nI (lcv (twd t) (thd t))) (gI (tgl t)) (gI (taq t)) (tst t) (tsl t) (gI (tlb t)) (fun zz => nI (tsh t zz)) (fun zz => nI (tbw t zz)) (fun zz => nI (tbh t zz)) (fun zz => nI (tps t zz))
abbrev hBs (cI cJ cB : ClassId) (xb : Nat → Nat → Nat) (Dd : Nat → BT) : va_W := bTW cI cJ cB (xb 0) (Dd 0) ++ (bTW cI cJ cB (xb 1) (Dd 1) ++ (bTW cI cJ cB (xb 2) (Dd 2) ++ (bTW cI cJ cB (xb 3) (Dd 3) ++ (bTW cI cJ cB (xb 4) (Dd 4) ++ (bTW cI cJ cB (xb 5) (Dd 5) ++ (bTW cI cJ cB (xb 6) (Dd 6) ++ (bTW cI cJ cB (xb 7) (Dd 7) ++ (bTW cI cJ cB (xb 8) (Dd 8) ++ bTW cI cJ cB (xb 9) (Dd 9)))))))))
abbrev hiW (cI cJ cB : ClassId) (ho hka : Nat) (hfi hsz : Int32) (xb : Nat → Nat → Nat) (Dd : Nat → BT) : va_W := (ho, .inr (2, [.ref hka, .int hfi, .int hsz])) :: (hka, .inl (cB, 10, .inr (.inr (.inr (.inr (fun k => some (xb k 0))))))) :: hBs cI cJ cB xb Dd
abbrev tup (se wd hd nb wl : Nat) (st sl : Int32) (gl aq lb : Option Nat) (sh bw bh ps : Nat → Nat) : BT := (se, wd, hd, nb, wl, st, sl, gl, aq, lb, sh, bw, bh, ps)
def hpu {α : Type} (h : Nat → α) (pm : Nat) (v : α) : Nat → α := if pm = 10 then (fun i => if i < 9 then h (i + 1) else v) else (fun i => if i < pm then h i else v)
theorem ring_keep {α : Type} {Dd : Nat → α} {fi sz f1 s1 : Nat} {v : α} (hf : fi < 10) (hs : sz ≤ 10) (h : (sz < 10 ∧ f1 = fi ∧ s1 = sz) ∨ (sz = 10 ∧ f1 = (fi + 1) % 10 ∧ s1 = 9)) : f1 < 10 ∧ s1 + 1 = hcnt sz ∧ ∀ j, j < hcnt sz → va_up Dd ((f1 + s1) % 10) v ((f1 + j) % 10) = hpu (fun j => Dd ((fi + j) % 10)) sz v j := by
  rcases h with ⟨h1, rfl, rfl⟩ | ⟨rfl, rfl, rfl⟩
  · have e : hcnt s1 = s1 + 1 := if_neg (by omega)
    refine ⟨hf, e.symm, fun j hj => ?_⟩
    rw [e] at hj
    unfold hpu
    rw [if_neg (by omega)]
    by_cases c : j < s1
    · simp only [if_pos c]
      rw [up_ne Dd (by omega)]
    · simp only [if_neg c]
      rw [show j = s1 by omega, up_eq]
  · have e : hcnt 10 = 10 := rfl
    refine ⟨Nat.mod_lt _ (by decide), rfl, fun j hj => ?_⟩
    rw [e] at hj
    unfold hpu
    rw [if_pos rfl]
    by_cases c : j < 9
    · simp only [if_pos c]
      rw [up_ne Dd (by omega)]
      congr 1
      omega
    · simp only [if_neg c]
      rw [show j = 9 by omega, up_eq]
theorem Met.imp {l : Launch} {y : MethodName} {ws : List Cond} {rm : Room} {Pc Pc' : Array Value → State → Prop} {Qc Qc' : Array Value → State → Outcome → State → Prop} {mc ms : Nat} {free free' : Addr → Prop} (h : Met l y ws rm Pc Qc mc ms free) (hP : ∀ a s, Pc' a s → Pc a s) (hQ : ∀ a s o t, Pc' a s → Qc a s o t → Qc' a s o t) (hF : ∀ q, free q → free' q) : Met l y ws rm Pc' Qc' mc ms free' := by
  intro p e ha hc hk s m args below hf happ hP' hK
  obtain ⟨n, o, h1, h2, h3, h4, L, h5, h6⟩ := h p e ha hc hk s m args below hf happ (hP _ _ hP') hK
  exact ⟨n, o, h1, h2, h3, hQ _ _ _ _ hP' h4, L, h5, fun q hq => hF _ (h6 q hq)⟩
/-! ===== a world with a tail ===== -/
def tl (n k : Nat) : List Nat := (List.range k).map (fun i => n + i)
theorem tl_len (n k : Nat) : (tl n k).length = k := by unfold tl; simp
theorem tl_get {n k j : Nat} (h : j < k) : (tl n k)[j]? = some (n + j) := by unfold tl; simp [h]
theorem tl_mem {n k x : Nat} (h : x ∈ tl n k) : n ≤ x ∧ x < n + k := by
  unfold tl at h
  obtain ⟨i, hi, rfl⟩ := List.mem_map.mp h
  have := List.mem_range.mp hi
  omega
theorem tl_s (n k : Nat) : tl n (k + 1) = n :: tl (n + 1) k := by
  unfold tl
  rw [List.range_succ_eq_map]
  simp [List.map_map, Function.comp_def]
  intro i _
  omega
theorem tl_pick {pre HW bd : va_W} {js : List Nat} {n : Nat} (hn : pre.length = n) (h : js.map (fun i => pre[i]?) = bd.map some) : (js ++ tl n HW.length).map (fun i => (pre ++ HW)[i]?) = (bd ++ HW).map some := by
  have hb := (picked h).2.1
  rw [List.map_append, List.map_append]
  congr 1
  · rw [← h]
    refine List.map_congr_left (fun i hi => ?_)
    rw [List.getElem?_append_left (hb i hi)]
  · refine List.ext_getElem? (fun j => ?_)
    rw [List.getElem?_map, List.getElem?_map]
    by_cases hj : j < HW.length
    · rw [tl_get hj]
      show some ((pre ++ HW)[n + j]?) = _
      rw [List.getElem?_append_right (by omega), show n + j - pre.length = j by omega, List.getElem?_eq_getElem hj]
      rfl
    · rw [List.getElem?_eq_none (by rw [tl_len]; omega), List.getElem?_eq_none (by omega)]
      rfl
theorem tl_nodup {js : List Nat} {n k : Nat} (h1 : ∀ i ∈ js, i < n) (h2 : js.Nodup) : (js ++ tl n k).Nodup := by
  rw [List.nodup_append]
  refine ⟨h2, ?_, fun a ha b hb => ?_⟩
  · unfold tl
    exact List.pairwise_map.mpr (List.nodup_range.imp (fun h e => h (by omega)))
  · have := h1 a ha
    have := tl_mem hb
    omega
theorem tl_set {pre HW : va_W} {i : Nat} {e : Nat × va_E} (h : i < pre.length) : (pre ++ HW).set i e = pre.set i e ++ HW := List.set_append_left _ _ h
theorem tl_put0 : ∀ (HW HW2 pre : va_W) (n : Nat), pre.length = n → HW2.length = HW.length → wput (pre ++ HW) (tl n HW.length) HW2 = pre ++ HW2
  | [], HW2, pre, n, _, h2 => by
    have : HW2 = [] := List.length_eq_zero_iff.mp h2
    subst this
    rfl
  | a :: HW, [], pre, n, _, h2 => by cases h2
  | a :: HW, b :: HW2, pre, n, h1, h2 => by
    show wput (pre ++ a :: HW) (tl n (HW.length + 1)) (b :: HW2) = _
    rw [tl_s, wput]
    have e : (pre ++ a :: HW).set n b = (pre ++ [b]) ++ HW := by
      rw [List.set_append_right _ _ (by omega), show n - pre.length = 0 by omega]
      simp
    rw [e, tl_put0 HW HW2 (pre ++ [b]) (n + 1) (by simp; omega) (by simpa using h2)]
    simp
theorem tl_put {HW HW2 : va_W} {n : Nat} (hk : HW2.length = HW.length) : ∀ (js : List Nat) (bd pre : va_W), pre.length = n → (∀ i ∈ js, i < n) → js.length = bd.length → wput (pre ++ HW) (js ++ tl n HW.length) (bd ++ HW2) = wput pre js bd ++ HW2
  | [], [], pre, h1, _, _ => by
    show wput (pre ++ HW) (tl n HW.length) HW2 = wput pre [] [] ++ HW2
    rw [tl_put0 HW HW2 pre n h1 hk]
    rfl
  | [], _ :: _, _, _, _, h => by cases h
  | _ :: _, [], _, _, _, h => by cases h
  | i :: js, b :: bd, pre, h1, h2, h3 => by
    show wput ((pre ++ HW).set i b) (js ++ tl n HW.length) (bd ++ HW2) = wput (pre.set i b) js bd ++ HW2
    rw [tl_set (by rw [h1]; exact h2 i List.mem_cons_self)]
    exact tl_put hk js bd (pre.set i b) (by rw [List.length_set]; exact h1) (fun j hj => h2 j (List.mem_cons_of_mem _ hj)) (by simpa using h3)
theorem tl_P {D : va_G} {cl : List vw_C} {H : Heap} {pre HW HW2 bd new : va_W} {js : List Nat} {n : Nat} (h : va_P D cl (wput (pre ++ HW) (js ++ tl n HW.length) (bd ++ HW2)) H) (hn : pre.length = n) (hj : ∀ i ∈ js, i < n) (hl : js.length = bd.length) (hk : HW2.length = HW.length) (he : wput pre js bd = new) : va_P D cl (new ++ HW2) H := by
  rw [tl_put hk js bd pre hn hj hl, he] at h
  exact h
theorem tl_D {A : Nat → Prop} {pre HW HW2 bd new : va_W} {js : List Nat} {n : Nat} (h : va_D A (wput (pre ++ HW) (js ++ tl n HW.length) (bd ++ HW2))) (hn : pre.length = n) (hj : ∀ i ∈ js, i < n) (hl : js.length = bd.length) (hk : HW2.length = HW.length) (he : wput pre js bd = new) : va_D A (new ++ HW2) := by
  rw [tl_put hk js bd pre hn hj hl, he] at h
  exact h
/-- the cells of a history with the boards hg, the oldest first -/
def HWp (cI cJ cB : ClassId) (ho sz : Nat) (hg : Nat → BT) (HW : va_W) : Prop := ∃ hka hfi xb Dd, HW = hiW cI cJ cB ho hka (nI hfi) (nI sz) xb Dd ∧ hfi < 10 ∧ sz ≤ 10 ∧ ∀ j, j < sz → Dd ((hfi + j) % 10) = hg j
theorem hpu_c {α : Type} {h h2 : Nat → α} {pm : Nat} {v : α} (hm : pm ≤ 10) (he : ∀ j, j < pm → h j = h2 j) : ∀ j, j < hcnt pm → hpu h pm v j = hpu h2 pm v j := fun j hj => by
  unfold hcnt at hj
  unfold hpu
  split
  · dsimp only
    split
    · rw [he _ (by omega)]
    · rfl
  · dsimp only
    split
    · rw [he _ (by omega)]
    · rfl
theorem adr_len {a b : va_W} (h : adr a = adr b) : a.length = b.length := by
  have := congrArg List.length h
  unfold adr at this
  rwa [List.length_map, List.length_map] at this
theorem adr_app {a b c d : va_W} (h1 : adr a = adr b) (h2 : adr c = adr d) : adr (a ++ c) = adr (b ++ d) := by
  unfold adr at *
  rw [List.map_append, List.map_append, h1, h2]
