/-! ===== p24: rows of the law's own calls ===== -/
def pL (D : va_G) (tys : List (ClassId × FieldType)) (ws : va_W) (sz b L : Nat) (xs : Nat → Int32) (U : State) : Prop := (va_X b L xs U U.heap ∧ b < sz ∧ ∀ (k : Nat) (e : va_E), ws[k]? ≠ some (b, e)) ∧ pN D tys ws sz U
theorem pL_blind {av : List Value} {D : va_G} {tys : List (ClassId × FieldType)} {ws : va_W} {sz b L : Nat} {xs : Nat → Int32} : FrameBlind (va_Pc av (pL D tys ws sz b L xs)) := fun a U g mk q => by
  obtain ⟨h0, ⟨h7, h8, h9⟩, h5, h6, h1, h2, h3, h4⟩ := q
  exact ⟨h0, ⟨va_X.moved (u := U) (U := U.calling g mk a) (Vm.Alike.refl U.vm) h7, h8, h9⟩, h5, va_AO.moved (u := U) (U := U.calling g mk a) (Vm.Alike.refl U.vm) h6, va_K.moved (u := U) (U := U.calling g mk a) (Vm.Alike.refl U.vm) h1, kN.same (s := U) (U := U.calling g mk a) rfl h2, h3, h4⟩
theorem lcmp_self (x : Int64) : lg_cmp x x = 0 := by
  unfold lg_cmp
  rw [if_neg Int64.lt_irrefl, if_pos rfl]
theorem va_D_nil {A : Nat → Prop} : va_D A [] := ⟨fun i j p q h => by simp at h, fun k q h => by simp at h⟩
theorem va_P_nil {D : va_G} {H : Heap} : va_P D vwCl [] H := fun k q h => by simp at h
section LR
variable {p : Program} {l : Launch} {e : Env} {R : Room} {s : State} {m : MethodId} {args : Array Value} {below : List Frame} {meth : Method} {c : Code} {H : Heap} {locs : List Loc} {cells slots : Nat} {Q : State → Prop}
variable {cc : ByteArray} {pc nL : Nat} {ls : Array Slot} {st rest As : List Value} {D : va_G} {A : Nat → Prop} {cI cJ cB : ClassId} {ws : va_W} {H0 : Heap} {own : String} {y : MethodName} {cy : ByteArray} {nY d' n index k9 n9 b L : Nat} {xs : Nat → Int32} {rt : Option FieldType} {c1 s1 : Nat}
theorem pL_ok {tys : List (ClassId × FieldType)} (hX : va_X b L xs s H0) (hbl : b < H0.size) (hbA : ¬ A b) (hS : va_S A H0 H locs) (hO : va_AO "SlidingBlocks$Board" s) (hK : va_K D vwCl tys s) (hN : kN s) (hP : va_P D vwCl ws H) (hD : va_D A ws) (U : State) (hU : U.heap = H) (hW : s.WarmedH U.vm) : pL D tys ws H.size b L xs U :=
  ⟨⟨by rw [hU]; exact va_X.moved hW.alike (hX.kept (hS.2.1 b hbl hbA)), Nat.lt_of_lt_of_le hbl hS.1, fun k e h => hbA (hD.2 k _ h)⟩, pN_ok hO hK hN hP hD U hU hW⟩
theorem va_AF {H1 : Heap} (hD : va_D A ws) (hS : va_S A H0 H1 locs) (hA : ∀ q, H0.size ≤ q → A q) : ∀ q, va_A ws H1.size q → A q := by
  rintro q (⟨k, e, h⟩ | h)
  · exact hD.2 k _ h
  · exact hA q (Nat.le_trans hS.1 h)
theorem w_stS_i {post : Int32 → va_W → Prop} (hC : CallFix p m c cc nL s args lw_all own) (hO : va_AO "SlidingBlocks$Board" s) (hK : va_K D vwCl (tyz cI cJ cB) s) (hN : kN s) (hP : va_P D vwCl ws H) (hD : va_D A ws) (hS : va_S A H0 H locs) (hA : ∀ q, H0.size ≤ q → A q)
    (hM : Met l y (Cond.code y cy nY rt :: lw_all) (rmC d' k9 n9) (va_Pc As (pN D (tyz cI cJ cB) ws H.size)) (va_Qi post (nB D (va_A ws H.size)) (va_A ws H.size)) k9 n9 (va_A ws H.size)) (hlk : Cond.methodLink own index y ∈ lw_all) (md : mdS y cy nY rt n) (hAs : As.length = n) (hls : ls.size = nL) (hst : st = As.reverse ++ rest) (hW : (rest.map fun v => v.category).sum ≤ 8) (hdg : decode cc pc = .ok (.invokestatic index, 3)) (hR : d' + 1 ≤ R.frames ∧ 8 + (nY + 11) + 40 * d' ≤ R.locals) (h1 : cells + k9 = c1) (h2 : slots + n9 = s1) (hc : c1 ≤ R.cells) (hs : s1 ≤ R.slots)
    (kk : ∀ (r : Int32) (u : va_W) (H1 : Heap) (locs1 : List Loc), post r u → va_P D vwCl u H1 → va_D A u → va_S A H0 H1 locs1 → W p l e R s m args below meth c H1 locs1 c1 s1 Q (F0 m (pc + 3) ls (.int r :: rest))) : W p l e R s m args below meth c H locs cells slots Q (F0 m pc ls st) := by
  subst h1; subst h2
  obtain ⟨m1, m2, m3, m4⟩ := md
  have hts := hC.2.2.2.2
  have hF := va_AF hD hS hA
  refine va_calli (va_runS (As := As) (rest := rest) hC hM ⟨callB_of n hts (words_all m1) rfl rfl rfl (hts _ m3) (hts _ hlk) m4 hR, hts _ m2⟩ ⟨pN_blind, fun U hU hW => ⟨rfl, pN_ok hO hK hN hP hD U hU hW⟩⟩ rfl hAs hls hst (lv_room hW) hdg ⟨hc, hs⟩) hS (fun q _ h => hF q h) hF (fun r u t H1 locs1 ht hvm hp hB hz hk hS1 => ?_)
  obtain ⟨hP1, hD1⟩ := hB
  rw [ht] at hP1
  exact kk r u H1 locs1 hp hP1 ⟨hD1.1, fun k q h => hF _ (hD1.2 k q h)⟩ hS1
theorem w_stL_i {post : Int32 → va_W → Prop} (hX : va_X b L xs s H0) (hbl : b < H0.size) (hbA : ¬ A b) (hC : CallFix p m c cc nL s args lw_all own) (hO : va_AO "SlidingBlocks$Board" s) (hK : va_K D vwCl (tyz cI cJ cB) s) (hN : kN s) (hP : va_P D vwCl ws H) (hD : va_D A ws) (hS : va_S A H0 H locs) (hA : ∀ q, H0.size ≤ q → A q)
    (hM : Met l y (Cond.code y cy nY rt :: lw_all) (rmC d' k9 n9) (va_Pc As (pL D (tyz cI cJ cB) ws H.size b L xs)) (va_Qi post (nB D (va_A ws H.size)) (va_A ws H.size)) k9 n9 (va_A ws H.size)) (hlk : Cond.methodLink own index y ∈ lw_all) (md : mdS y cy nY rt n) (hAs : As.length = n) (hls : ls.size = nL) (hst : st = As.reverse ++ rest) (hW : (rest.map fun v => v.category).sum ≤ 8) (hdg : decode cc pc = .ok (.invokestatic index, 3)) (hR : d' + 1 ≤ R.frames ∧ 8 + (nY + 11) + 40 * d' ≤ R.locals) (h1 : cells + k9 = c1) (h2 : slots + n9 = s1) (hc : c1 ≤ R.cells) (hs : s1 ≤ R.slots)
    (kk : ∀ (r : Int32) (u : va_W) (H1 : Heap) (locs1 : List Loc), post r u → va_P D vwCl u H1 → va_D A u → va_S A H0 H1 locs1 → W p l e R s m args below meth c H1 locs1 c1 s1 Q (F0 m (pc + 3) ls (.int r :: rest))) : W p l e R s m args below meth c H locs cells slots Q (F0 m pc ls st) := by
  subst h1; subst h2
  obtain ⟨m1, m2, m3, m4⟩ := md
  have hts := hC.2.2.2.2
  have hF := va_AF hD hS hA
  refine va_calli (va_runS (As := As) (rest := rest) hC hM ⟨callB_of n hts (words_all m1) rfl rfl rfl (hts _ m3) (hts _ hlk) m4 hR, hts _ m2⟩ ⟨pL_blind, fun U hU hW => ⟨rfl, pL_ok hX hbl hbA hS hO hK hN hP hD U hU hW⟩⟩ rfl hAs hls hst (lv_room hW) hdg ⟨hc, hs⟩) hS (fun q _ h => hF q h) hF (fun r u t H1 locs1 ht hvm hp hB hz hk hS1 => ?_)
  obtain ⟨hP1, hD1⟩ := hB
  rw [ht] at hP1
  exact kk r u H1 locs1 hp hP1 ⟨hD1.1, fun k q h => hF _ (hD1.2 k q h)⟩ hS1
/-- a call that keeps all cells: of the script alone -/
theorem w_stE_i {pr : Int32 → Prop} (hX : va_X b L xs s H0) (hbl : b < H0.size) (hbA : ¬ A b) (hC : CallFix p m c cc nL s args lw_all own) (hO : va_AO "SlidingBlocks$Board" s) (hK : va_K D vwCl (tyz cI cJ cB) s) (hN : kN s) (hP : va_P D vwCl ws H) (hD : va_D A ws) (hS : va_S A H0 H locs) (hA : ∀ q, H0.size ≤ q → A q)
    (hM : Met l y (Cond.code y cy nY rt :: lw_all) (rmC d' 0 0) (va_Pc As (pL D (tyz cI cJ cB) [] H.size b L xs)) (va_Qi (fun r _ => pr r) (nB D (va_A [] H.size)) (va_A [] H.size)) 0 0 (va_A [] H.size)) (hlk : Cond.methodLink own index y ∈ lw_all) (md : mdS y cy nY rt n) (hAs : As.length = n) (hls : ls.size = nL) (hst : st = As.reverse ++ rest) (hW : (rest.map fun v => v.category).sum ≤ 8) (hdg : decode cc pc = .ok (.invokestatic index, 3)) (hR : d' + 1 ≤ R.frames ∧ 8 + (nY + 11) + 40 * d' ≤ R.locals) (hc : cells ≤ R.cells) (hs : slots ≤ R.slots)
    (kk : ∀ (r : Int32) (H1 : Heap) (locs1 : List Loc), pr r → va_P D vwCl ws H1 → va_D A ws → va_S A H0 H1 locs1 → W p l e R s m args below meth c H1 locs1 cells slots Q (F0 m (pc + 3) ls (.int r :: rest))) : W p l e R s m args below meth c H locs cells slots Q (F0 m pc ls st) := by
  obtain ⟨m1, m2, m3, m4⟩ := md
  have hts := hC.2.2.2.2
  have hF := va_AF (ws := []) va_D_nil hS hA
  refine va_calli (va_runS (As := As) (rest := rest) hC hM ⟨callB_of n hts (words_all m1) rfl rfl rfl (hts _ m3) (hts _ hlk) m4 hR, hts _ m2⟩ ⟨pL_blind, fun U hU hW => ⟨rfl, pL_ok hX hbl hbA hS hO hK hN va_P_nil va_D_nil U hU hW⟩⟩ rfl hAs hls hst (lv_room hW) hdg ⟨hc, hs⟩) hS (fun q _ h => hF q h) hF (fun r u t H1 locs1 ht hvm hp hB hz hk hS1 => ?_)
  refine kk r H1 locs1 hp (fun k q h => ?_) hD hS1
  have h1 := hP k q h
  refine h1.kept (hk q.1 (va_at_lt h1) ?_)
  rintro (⟨j, e, h2⟩ | h2)
  · simp at h2
  · exact absurd (va_at_lt h1) (Nat.not_lt.mpr h2)
end LR
