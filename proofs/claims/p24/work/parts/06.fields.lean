/-! field rows: one for each link; facts of methods for calls -/
theorem inA_X0 : ∀ w ∈ wsX00, w ∈ lw_all := by decide +kernel
theorem inA_X1 : ∀ w ∈ wsX10, w ∈ lw_all := by decide +kernel
theorem inA_X2 : ∀ w ∈ wsX20, w ∈ lw_all := by decide +kernel
theorem inA_X3 : ∀ w ∈ wsX30, w ∈ lw_all := by decide +kernel
theorem inA_X4 : ∀ w ∈ wsX40, w ∈ lw_all := by decide +kernel
theorem inA_X5 : ∀ w ∈ wsX50, w ∈ lw_all := by decide +kernel
theorem inA_X6 : ∀ w ∈ wsX60, w ∈ lw_all := by decide +kernel
theorem inA_X7 : ∀ w ∈ wsX70, w ∈ lw_all := by decide +kernel
theorem inA_X8 : ∀ w ∈ wsX80, w ∈ lw_all := by decide +kernel
section FR
variable {p : Program} {l : Launch} {e : Env} {R : Room} {s : State} {m : MethodId} {args : Array Value} {below : List Frame} {meth : Method} {c : Code} {H : Heap} {locs : List Loc} {cells slots : Nat} {Q : State → Prop}
variable {cc : ByteArray} {pc nL : Nat} {ls : Array Slot} {rest : List Value} {D : va_G} {A : Nat → Prop} {tys : List (ClassId × FieldType)} {ws : va_W} {H0 : Heap} {a : Nat} {fs : List Value} {v : Value}
theorem gf_X6_9 (hC : CallFix p m c cc nL s args lw_all RX6) (hK : va_K D vwCl tys s) (hP : va_P D vwCl ws H) (q0 : Nat) (he : ws[q0]? = some (a, .inr (6, fs))) (hv : fs[0]? = some v) (hdg : decode cc pc = .ok (.getfield 9, 3))
    (kk : W p l e R s m args below meth c H locs cells slots Q (F0 m (pc + 3) ls (v :: rest))) : W p l e R s m args below meth c H locs cells slots Q (F0 m pc ls (.ref a :: rest)) :=
  va_get hC.1 hC.2.1 hC.2.2.2.2 inA_X6 hC.2.2.2.1 hK hP q0 he rfl 0 (by decide) (hC.2.2.2.2 _ q27) (fun _ h => h) hv hdg kk
theorem gf_X6_15 (hC : CallFix p m c cc nL s args lw_all RX6) (hK : va_K D vwCl tys s) (hP : va_P D vwCl ws H) (q0 : Nat) (he : ws[q0]? = some (a, .inr (6, fs))) (hv : fs[1]? = some v) (hdg : decode cc pc = .ok (.getfield 15, 3))
    (kk : W p l e R s m args below meth c H locs cells slots Q (F0 m (pc + 3) ls (v :: rest))) : W p l e R s m args below meth c H locs cells slots Q (F0 m pc ls (.ref a :: rest)) :=
  va_get hC.1 hC.2.1 hC.2.2.2.2 inA_X6 hC.2.2.2.1 hK hP q0 he rfl 1 (by decide) (hC.2.2.2.2 _ q28) (fun _ h => h) hv hdg kk
theorem pf_X6_15 (hC : CallFix p m c cc nL s args lw_all RX6) (hK : va_K D vwCl tys s) (hP : va_P D vwCl ws H) (hD : va_D A ws) (hS : va_S A H0 H locs) (q0 : Nat) {x : Int32} (he : ws[q0]? = some (a, .inr (6, fs))) (hl : 1 < fs.length) {ws1 : va_W} (hw : ws.set q0 (a, .inr (6, fs.set 1 (.int x))) = ws1) (hdg : decode cc pc = .ok (.putfield 15, 3))
    (kk : ∀ (H1 : Heap) (locs1 : List Loc), va_P D vwCl ws1 H1 → va_D A ws1 → va_S A H0 H1 locs1 → W p l e R s m args below meth c H1 locs1 cells slots Q (F0 m (pc + 3) ls rest)) : W p l e R s m args below meth c H locs cells slots Q (F0 m pc ls (.int x :: .ref a :: rest)) := by
  subst hw
  exact va_put hC.1 hC.2.1 hC.2.2.2.2 inA_X6 tyX6 tyX6_ok nmX6 hC.2.2.2.1 hK hP hD hS q0 he rfl 1 (by decide) (hC.2.2.2.2 _ q28) (fun _ h => h) rfl (ty := .int) (by decide +kernel) rfl rfl hl hdg kk
theorem gf_X7_63 (hC : CallFix p m c cc nL s args lw_all RX7) (hK : va_K D vwCl tys s) (hP : va_P D vwCl ws H) (q0 : Nat) (he : ws[q0]? = some (a, .inr (6, fs))) (hv : fs[1]? = some v) (hdg : decode cc pc = .ok (.getfield 63, 3))
    (kk : W p l e R s m args below meth c H locs cells slots Q (F0 m (pc + 3) ls (v :: rest))) : W p l e R s m args below meth c H locs cells slots Q (F0 m pc ls (.ref a :: rest)) :=
  va_get hC.1 hC.2.1 hC.2.2.2.2 inA_X6 hC.2.2.2.1 hK hP q0 he rfl 1 (by decide) (hC.2.2.2.2 _ q29) (fun _ h => h) hv hdg kk
theorem pf_X7_63 (hC : CallFix p m c cc nL s args lw_all RX7) (hK : va_K D vwCl tys s) (hP : va_P D vwCl ws H) (hD : va_D A ws) (hS : va_S A H0 H locs) (q0 : Nat) {x : Int32} (he : ws[q0]? = some (a, .inr (6, fs))) (hl : 1 < fs.length) {ws1 : va_W} (hw : ws.set q0 (a, .inr (6, fs.set 1 (.int x))) = ws1) (hdg : decode cc pc = .ok (.putfield 63, 3))
    (kk : ∀ (H1 : Heap) (locs1 : List Loc), va_P D vwCl ws1 H1 → va_D A ws1 → va_S A H0 H1 locs1 → W p l e R s m args below meth c H1 locs1 cells slots Q (F0 m (pc + 3) ls rest)) : W p l e R s m args below meth c H locs cells slots Q (F0 m pc ls (.int x :: .ref a :: rest)) := by
  subst hw
  exact va_put hC.1 hC.2.1 hC.2.2.2.2 inA_X6 tyX6 tyX6_ok nmX6 hC.2.2.2.1 hK hP hD hS q0 he rfl 1 (by decide) (hC.2.2.2.2 _ q29) (fun _ h => h) rfl (ty := .int) (by decide +kernel) rfl rfl hl hdg kk
theorem gf_X6_19 (hC : CallFix p m c cc nL s args lw_all RX6) (hK : va_K D vwCl tys s) (hP : va_P D vwCl ws H) (q0 : Nat) (he : ws[q0]? = some (a, .inr (6, fs))) (hv : fs[2]? = some v) (hdg : decode cc pc = .ok (.getfield 19, 3))
    (kk : W p l e R s m args below meth c H locs cells slots Q (F0 m (pc + 3) ls (v :: rest))) : W p l e R s m args below meth c H locs cells slots Q (F0 m pc ls (.ref a :: rest)) :=
  va_get hC.1 hC.2.1 hC.2.2.2.2 inA_X6 hC.2.2.2.1 hK hP q0 he rfl 2 (by decide) (hC.2.2.2.2 _ q30) (fun _ h => h) hv hdg kk
theorem gf_X6_22 (hC : CallFix p m c cc nL s args lw_all RX6) (hK : va_K D vwCl tys s) (hP : va_P D vwCl ws H) (q0 : Nat) (he : ws[q0]? = some (a, .inr (6, fs))) (hv : fs[3]? = some v) (hdg : decode cc pc = .ok (.getfield 22, 3))
    (kk : W p l e R s m args below meth c H locs cells slots Q (F0 m (pc + 3) ls (v :: rest))) : W p l e R s m args below meth c H locs cells slots Q (F0 m pc ls (.ref a :: rest)) :=
  va_get hC.1 hC.2.1 hC.2.2.2.2 inA_X6 hC.2.2.2.1 hK hP q0 he rfl 3 (by decide) (hC.2.2.2.2 _ q31) (fun _ h => h) hv hdg kk
theorem pf_X6_22 (hC : CallFix p m c cc nL s args lw_all RX6) (hK : va_K D vwCl tys s) (hP : va_P D vwCl ws H) (hD : va_D A ws) (hS : va_S A H0 H locs) (q0 : Nat) {x : Int32} (he : ws[q0]? = some (a, .inr (6, fs))) (hl : 3 < fs.length) {ws1 : va_W} (hw : ws.set q0 (a, .inr (6, fs.set 3 (.int x))) = ws1) (hdg : decode cc pc = .ok (.putfield 22, 3))
    (kk : ∀ (H1 : Heap) (locs1 : List Loc), va_P D vwCl ws1 H1 → va_D A ws1 → va_S A H0 H1 locs1 → W p l e R s m args below meth c H1 locs1 cells slots Q (F0 m (pc + 3) ls rest)) : W p l e R s m args below meth c H locs cells slots Q (F0 m pc ls (.int x :: .ref a :: rest)) := by
  subst hw
  exact va_put hC.1 hC.2.1 hC.2.2.2.2 inA_X6 tyX6 tyX6_ok nmX6 hC.2.2.2.1 hK hP hD hS q0 he rfl 3 (by decide) (hC.2.2.2.2 _ q31) (fun _ h => h) rfl (ty := .int) (by decide +kernel) rfl rfl hl hdg kk
theorem gf_X6_25 (hC : CallFix p m c cc nL s args lw_all RX6) (hK : va_K D vwCl tys s) (hP : va_P D vwCl ws H) (q0 : Nat) (he : ws[q0]? = some (a, .inr (6, fs))) (hv : fs[4]? = some v) (hdg : decode cc pc = .ok (.getfield 25, 3))
    (kk : W p l e R s m args below meth c H locs cells slots Q (F0 m (pc + 3) ls (v :: rest))) : W p l e R s m args below meth c H locs cells slots Q (F0 m pc ls (.ref a :: rest)) :=
  va_get hC.1 hC.2.1 hC.2.2.2.2 inA_X6 hC.2.2.2.1 hK hP q0 he rfl 4 (by decide) (hC.2.2.2.2 _ q32) (fun _ h => h) hv hdg kk
theorem gf_X6_28 (hC : CallFix p m c cc nL s args lw_all RX6) (hK : va_K D vwCl tys s) (hP : va_P D vwCl ws H) (q0 : Nat) (he : ws[q0]? = some (a, .inr (6, fs))) (hv : fs[5]? = some v) (hdg : decode cc pc = .ok (.getfield 28, 3))
    (kk : W p l e R s m args below meth c H locs cells slots Q (F0 m (pc + 3) ls (v :: rest))) : W p l e R s m args below meth c H locs cells slots Q (F0 m pc ls (.ref a :: rest)) :=
  va_get hC.1 hC.2.1 hC.2.2.2.2 inA_X6 hC.2.2.2.1 hK hP q0 he rfl 5 (by decide) (hC.2.2.2.2 _ q33) (fun _ h => h) hv hdg kk
theorem pf_X6_28 (hC : CallFix p m c cc nL s args lw_all RX6) (hK : va_K D vwCl tys s) (hP : va_P D vwCl ws H) (hD : va_D A ws) (hS : va_S A H0 H locs) (q0 : Nat) {x : Int32} (he : ws[q0]? = some (a, .inr (6, fs))) (hl : 5 < fs.length) {ws1 : va_W} (hw : ws.set q0 (a, .inr (6, fs.set 5 (.int x))) = ws1) (hdg : decode cc pc = .ok (.putfield 28, 3))
    (kk : ∀ (H1 : Heap) (locs1 : List Loc), va_P D vwCl ws1 H1 → va_D A ws1 → va_S A H0 H1 locs1 → W p l e R s m args below meth c H1 locs1 cells slots Q (F0 m (pc + 3) ls rest)) : W p l e R s m args below meth c H locs cells slots Q (F0 m pc ls (.int x :: .ref a :: rest)) := by
  subst hw
  exact va_put hC.1 hC.2.1 hC.2.2.2.2 inA_X6 tyX6 tyX6_ok nmX6 hC.2.2.2.1 hK hP hD hS q0 he rfl 5 (by decide) (hC.2.2.2.2 _ q33) (fun _ h => h) rfl (ty := .int) (by decide +kernel) rfl rfl hl hdg kk
theorem gf_X6_31 (hC : CallFix p m c cc nL s args lw_all RX6) (hK : va_K D vwCl tys s) (hP : va_P D vwCl ws H) (q0 : Nat) (he : ws[q0]? = some (a, .inr (6, fs))) (hv : fs[6]? = some v) (hdg : decode cc pc = .ok (.getfield 31, 3))
    (kk : W p l e R s m args below meth c H locs cells slots Q (F0 m (pc + 3) ls (v :: rest))) : W p l e R s m args below meth c H locs cells slots Q (F0 m pc ls (.ref a :: rest)) :=
  va_get hC.1 hC.2.1 hC.2.2.2.2 inA_X6 hC.2.2.2.1 hK hP q0 he rfl 6 (by decide) (hC.2.2.2.2 _ q34) (fun _ h => h) hv hdg kk
theorem pf_X6_31 (hC : CallFix p m c cc nL s args lw_all RX6) (hK : va_K D vwCl tys s) (hP : va_P D vwCl ws H) (hD : va_D A ws) (hS : va_S A H0 H locs) (q0 : Nat) {x : Int32} (he : ws[q0]? = some (a, .inr (6, fs))) (hl : 6 < fs.length) {ws1 : va_W} (hw : ws.set q0 (a, .inr (6, fs.set 6 (.int x))) = ws1) (hdg : decode cc pc = .ok (.putfield 31, 3))
    (kk : ∀ (H1 : Heap) (locs1 : List Loc), va_P D vwCl ws1 H1 → va_D A ws1 → va_S A H0 H1 locs1 → W p l e R s m args below meth c H1 locs1 cells slots Q (F0 m (pc + 3) ls rest)) : W p l e R s m args below meth c H locs cells slots Q (F0 m pc ls (.int x :: .ref a :: rest)) := by
  subst hw
  exact va_put hC.1 hC.2.1 hC.2.2.2.2 inA_X6 tyX6 tyX6_ok nmX6 hC.2.2.2.1 hK hP hD hS q0 he rfl 6 (by decide) (hC.2.2.2.2 _ q34) (fun _ h => h) rfl (ty := .int) (by decide +kernel) rfl rfl hl hdg kk
theorem gf_X6_34 (hC : CallFix p m c cc nL s args lw_all RX6) (hK : va_K D vwCl tys s) (hP : va_P D vwCl ws H) (q0 : Nat) (he : ws[q0]? = some (a, .inr (6, fs))) (hv : fs[7]? = some v) (hdg : decode cc pc = .ok (.getfield 34, 3))
    (kk : W p l e R s m args below meth c H locs cells slots Q (F0 m (pc + 3) ls (v :: rest))) : W p l e R s m args below meth c H locs cells slots Q (F0 m pc ls (.ref a :: rest)) :=
  va_get hC.1 hC.2.1 hC.2.2.2.2 inA_X6 hC.2.2.2.1 hK hP q0 he rfl 7 (by decide) (hC.2.2.2.2 _ q35) (fun _ h => h) hv hdg kk
theorem pf_X6_34 (hC : CallFix p m c cc nL s args lw_all RX6) (hK : va_K D vwCl tys s) (hP : va_P D vwCl ws H) (hD : va_D A ws) (hS : va_S A H0 H locs) (q0 : Nat) {x : Int32} (he : ws[q0]? = some (a, .inr (6, fs))) (hl : 7 < fs.length) {ws1 : va_W} (hw : ws.set q0 (a, .inr (6, fs.set 7 (.int x))) = ws1) (hdg : decode cc pc = .ok (.putfield 34, 3))
    (kk : ∀ (H1 : Heap) (locs1 : List Loc), va_P D vwCl ws1 H1 → va_D A ws1 → va_S A H0 H1 locs1 → W p l e R s m args below meth c H1 locs1 cells slots Q (F0 m (pc + 3) ls rest)) : W p l e R s m args below meth c H locs cells slots Q (F0 m pc ls (.int x :: .ref a :: rest)) := by
  subst hw
  exact va_put hC.1 hC.2.1 hC.2.2.2.2 inA_X6 tyX6 tyX6_ok nmX6 hC.2.2.2.1 hK hP hD hS q0 he rfl 7 (by decide) (hC.2.2.2.2 _ q35) (fun _ h => h) rfl (ty := .int) (by decide +kernel) rfl rfl hl hdg kk
theorem gf_X6_37 (hC : CallFix p m c cc nL s args lw_all RX6) (hK : va_K D vwCl tys s) (hP : va_P D vwCl ws H) (q0 : Nat) (he : ws[q0]? = some (a, .inr (6, fs))) (hv : fs[8]? = some v) (hdg : decode cc pc = .ok (.getfield 37, 3))
    (kk : W p l e R s m args below meth c H locs cells slots Q (F0 m (pc + 3) ls (v :: rest))) : W p l e R s m args below meth c H locs cells slots Q (F0 m pc ls (.ref a :: rest)) :=
  va_get hC.1 hC.2.1 hC.2.2.2.2 inA_X6 hC.2.2.2.1 hK hP q0 he rfl 8 (by decide) (hC.2.2.2.2 _ q36) (fun _ h => h) hv hdg kk
theorem pf_X6_37 (hC : CallFix p m c cc nL s args lw_all RX6) (hK : va_K D vwCl tys s) (hP : va_P D vwCl ws H) (hD : va_D A ws) (hS : va_S A H0 H locs) (q0 : Nat) {x : Int32} (he : ws[q0]? = some (a, .inr (6, fs))) (hl : 8 < fs.length) {ws1 : va_W} (hw : ws.set q0 (a, .inr (6, fs.set 8 (.int x))) = ws1) (hdg : decode cc pc = .ok (.putfield 37, 3))
    (kk : ∀ (H1 : Heap) (locs1 : List Loc), va_P D vwCl ws1 H1 → va_D A ws1 → va_S A H0 H1 locs1 → W p l e R s m args below meth c H1 locs1 cells slots Q (F0 m (pc + 3) ls rest)) : W p l e R s m args below meth c H locs cells slots Q (F0 m pc ls (.int x :: .ref a :: rest)) := by
  subst hw
  exact va_put hC.1 hC.2.1 hC.2.2.2.2 inA_X6 tyX6 tyX6_ok nmX6 hC.2.2.2.1 hK hP hD hS q0 he rfl 8 (by decide) (hC.2.2.2.2 _ q36) (fun _ h => h) rfl (ty := .int) (by decide +kernel) rfl rfl hl hdg kk
theorem gf_X0_9 (hC : CallFix p m c cc nL s args lw_all RX0) (hK : va_K D vwCl tys s) (hP : va_P D vwCl ws H) (q0 : Nat) (he : ws[q0]? = some (a, .inr (0, fs))) (hv : fs[0]? = some v) (hdg : decode cc pc = .ok (.getfield 9, 3))
    (kk : W p l e R s m args below meth c H locs cells slots Q (F0 m (pc + 3) ls (v :: rest))) : W p l e R s m args below meth c H locs cells slots Q (F0 m pc ls (.ref a :: rest)) :=
  va_get hC.1 hC.2.1 hC.2.2.2.2 inA_X0 hC.2.2.2.1 hK hP q0 he rfl 0 (by decide) (hC.2.2.2.2 _ q71) (fun _ h => h) hv hdg kk
theorem pf_X0_9 (hC : CallFix p m c cc nL s args lw_all RX0) (hK : va_K D vwCl tys s) (hP : va_P D vwCl ws H) (hD : va_D A ws) (hS : va_S A H0 H locs) (q0 : Nat) {x : Int32} (he : ws[q0]? = some (a, .inr (0, fs))) (hl : 0 < fs.length) {ws1 : va_W} (hw : ws.set q0 (a, .inr (0, fs.set 0 (.int x))) = ws1) (hdg : decode cc pc = .ok (.putfield 9, 3))
    (kk : ∀ (H1 : Heap) (locs1 : List Loc), va_P D vwCl ws1 H1 → va_D A ws1 → va_S A H0 H1 locs1 → W p l e R s m args below meth c H1 locs1 cells slots Q (F0 m (pc + 3) ls rest)) : W p l e R s m args below meth c H locs cells slots Q (F0 m pc ls (.int x :: .ref a :: rest)) := by
  subst hw
  exact va_put hC.1 hC.2.1 hC.2.2.2.2 inA_X0 tyX0 tyX0_ok nmX0 hC.2.2.2.1 hK hP hD hS q0 he rfl 0 (by decide) (hC.2.2.2.2 _ q71) (fun _ h => h) rfl (ty := .int) (by decide +kernel) rfl rfl hl hdg kk
theorem gf_X5_48 (hC : CallFix p m c cc nL s args lw_all RX5) (hK : va_K D vwCl tys s) (hP : va_P D vwCl ws H) (q0 : Nat) (he : ws[q0]? = some (a, .inr (0, fs))) (hv : fs[0]? = some v) (hdg : decode cc pc = .ok (.getfield 48, 3))
    (kk : W p l e R s m args below meth c H locs cells slots Q (F0 m (pc + 3) ls (v :: rest))) : W p l e R s m args below meth c H locs cells slots Q (F0 m pc ls (.ref a :: rest)) :=
  va_get hC.1 hC.2.1 hC.2.2.2.2 inA_X0 hC.2.2.2.1 hK hP q0 he rfl 0 (by decide) (hC.2.2.2.2 _ q72) (fun _ h => h) hv hdg kk
theorem pf_X5_48 (hC : CallFix p m c cc nL s args lw_all RX5) (hK : va_K D vwCl tys s) (hP : va_P D vwCl ws H) (hD : va_D A ws) (hS : va_S A H0 H locs) (q0 : Nat) {x : Int32} (he : ws[q0]? = some (a, .inr (0, fs))) (hl : 0 < fs.length) {ws1 : va_W} (hw : ws.set q0 (a, .inr (0, fs.set 0 (.int x))) = ws1) (hdg : decode cc pc = .ok (.putfield 48, 3))
    (kk : ∀ (H1 : Heap) (locs1 : List Loc), va_P D vwCl ws1 H1 → va_D A ws1 → va_S A H0 H1 locs1 → W p l e R s m args below meth c H1 locs1 cells slots Q (F0 m (pc + 3) ls rest)) : W p l e R s m args below meth c H locs cells slots Q (F0 m pc ls (.int x :: .ref a :: rest)) := by
  subst hw
  exact va_put hC.1 hC.2.1 hC.2.2.2.2 inA_X0 tyX0 tyX0_ok nmX0 hC.2.2.2.1 hK hP hD hS q0 he rfl 0 (by decide) (hC.2.2.2.2 _ q72) (fun _ h => h) rfl (ty := .int) (by decide +kernel) rfl rfl hl hdg kk
theorem gf_X7_74 (hC : CallFix p m c cc nL s args lw_all RX7) (hK : va_K D vwCl tys s) (hP : va_P D vwCl ws H) (q0 : Nat) (he : ws[q0]? = some (a, .inr (0, fs))) (hv : fs[0]? = some v) (hdg : decode cc pc = .ok (.getfield 74, 3))
    (kk : W p l e R s m args below meth c H locs cells slots Q (F0 m (pc + 3) ls (v :: rest))) : W p l e R s m args below meth c H locs cells slots Q (F0 m pc ls (.ref a :: rest)) :=
  va_get hC.1 hC.2.1 hC.2.2.2.2 inA_X0 hC.2.2.2.1 hK hP q0 he rfl 0 (by decide) (hC.2.2.2.2 _ q73) (fun _ h => h) hv hdg kk
theorem pf_X7_74 (hC : CallFix p m c cc nL s args lw_all RX7) (hK : va_K D vwCl tys s) (hP : va_P D vwCl ws H) (hD : va_D A ws) (hS : va_S A H0 H locs) (q0 : Nat) {x : Int32} (he : ws[q0]? = some (a, .inr (0, fs))) (hl : 0 < fs.length) {ws1 : va_W} (hw : ws.set q0 (a, .inr (0, fs.set 0 (.int x))) = ws1) (hdg : decode cc pc = .ok (.putfield 74, 3))
    (kk : ∀ (H1 : Heap) (locs1 : List Loc), va_P D vwCl ws1 H1 → va_D A ws1 → va_S A H0 H1 locs1 → W p l e R s m args below meth c H1 locs1 cells slots Q (F0 m (pc + 3) ls rest)) : W p l e R s m args below meth c H locs cells slots Q (F0 m pc ls (.int x :: .ref a :: rest)) := by
  subst hw
  exact va_put hC.1 hC.2.1 hC.2.2.2.2 inA_X0 tyX0 tyX0_ok nmX0 hC.2.2.2.1 hK hP hD hS q0 he rfl 0 (by decide) (hC.2.2.2.2 _ q73) (fun _ h => h) rfl (ty := .int) (by decide +kernel) rfl rfl hl hdg kk
theorem gf_X0_32 (hC : CallFix p m c cc nL s args lw_all RX0) (hK : va_K D vwCl tys s) (hP : va_P D vwCl ws H) (q0 : Nat) (he : ws[q0]? = some (a, .inr (0, fs))) (hv : fs[1]? = some v) (hdg : decode cc pc = .ok (.getfield 32, 3))
    (kk : W p l e R s m args below meth c H locs cells slots Q (F0 m (pc + 3) ls (v :: rest))) : W p l e R s m args below meth c H locs cells slots Q (F0 m pc ls (.ref a :: rest)) :=
  va_get hC.1 hC.2.1 hC.2.2.2.2 inA_X0 hC.2.2.2.1 hK hP q0 he rfl 1 (by decide) (hC.2.2.2.2 _ q74) (fun _ h => h) hv hdg kk
theorem pf_X0_32 (hC : CallFix p m c cc nL s args lw_all RX0) (hK : va_K D vwCl tys s) (hP : va_P D vwCl ws H) (hD : va_D A ws) (hS : va_S A H0 H locs) (q0 : Nat) {x : Int32} (he : ws[q0]? = some (a, .inr (0, fs))) (hl : 1 < fs.length) {ws1 : va_W} (hw : ws.set q0 (a, .inr (0, fs.set 1 (.int x))) = ws1) (hdg : decode cc pc = .ok (.putfield 32, 3))
    (kk : ∀ (H1 : Heap) (locs1 : List Loc), va_P D vwCl ws1 H1 → va_D A ws1 → va_S A H0 H1 locs1 → W p l e R s m args below meth c H1 locs1 cells slots Q (F0 m (pc + 3) ls rest)) : W p l e R s m args below meth c H locs cells slots Q (F0 m pc ls (.int x :: .ref a :: rest)) := by
  subst hw
  exact va_put hC.1 hC.2.1 hC.2.2.2.2 inA_X0 tyX0 tyX0_ok nmX0 hC.2.2.2.1 hK hP hD hS q0 he rfl 1 (by decide) (hC.2.2.2.2 _ q74) (fun _ h => h) rfl (ty := .int) (by decide +kernel) rfl rfl hl hdg kk
theorem gf_X7_83 (hC : CallFix p m c cc nL s args lw_all RX7) (hK : va_K D vwCl tys s) (hP : va_P D vwCl ws H) (q0 : Nat) (he : ws[q0]? = some (a, .inr (0, fs))) (hv : fs[1]? = some v) (hdg : decode cc pc = .ok (.getfield 83, 3))
    (kk : W p l e R s m args below meth c H locs cells slots Q (F0 m (pc + 3) ls (v :: rest))) : W p l e R s m args below meth c H locs cells slots Q (F0 m pc ls (.ref a :: rest)) :=
  va_get hC.1 hC.2.1 hC.2.2.2.2 inA_X0 hC.2.2.2.1 hK hP q0 he rfl 1 (by decide) (hC.2.2.2.2 _ q75) (fun _ h => h) hv hdg kk
theorem pf_X7_83 (hC : CallFix p m c cc nL s args lw_all RX7) (hK : va_K D vwCl tys s) (hP : va_P D vwCl ws H) (hD : va_D A ws) (hS : va_S A H0 H locs) (q0 : Nat) {x : Int32} (he : ws[q0]? = some (a, .inr (0, fs))) (hl : 1 < fs.length) {ws1 : va_W} (hw : ws.set q0 (a, .inr (0, fs.set 1 (.int x))) = ws1) (hdg : decode cc pc = .ok (.putfield 83, 3))
    (kk : ∀ (H1 : Heap) (locs1 : List Loc), va_P D vwCl ws1 H1 → va_D A ws1 → va_S A H0 H1 locs1 → W p l e R s m args below meth c H1 locs1 cells slots Q (F0 m (pc + 3) ls rest)) : W p l e R s m args below meth c H locs cells slots Q (F0 m pc ls (.int x :: .ref a :: rest)) := by
  subst hw
  exact va_put hC.1 hC.2.1 hC.2.2.2.2 inA_X0 tyX0 tyX0_ok nmX0 hC.2.2.2.1 hK hP hD hS q0 he rfl 1 (by decide) (hC.2.2.2.2 _ q75) (fun _ h => h) rfl (ty := .int) (by decide +kernel) rfl rfl hl hdg kk
theorem gf_X0_35 (hC : CallFix p m c cc nL s args lw_all RX0) (hK : va_K D vwCl tys s) (hP : va_P D vwCl ws H) (q0 : Nat) (he : ws[q0]? = some (a, .inr (0, fs))) (hv : fs[2]? = some v) (hdg : decode cc pc = .ok (.getfield 35, 3))
    (kk : W p l e R s m args below meth c H locs cells slots Q (F0 m (pc + 3) ls (v :: rest))) : W p l e R s m args below meth c H locs cells slots Q (F0 m pc ls (.ref a :: rest)) :=
  va_get hC.1 hC.2.1 hC.2.2.2.2 inA_X0 hC.2.2.2.1 hK hP q0 he rfl 2 (by decide) (hC.2.2.2.2 _ q76) (fun _ h => h) hv hdg kk
theorem pf_X0_35 (hC : CallFix p m c cc nL s args lw_all RX0) (hK : va_K D vwCl tys s) (hP : va_P D vwCl ws H) (hD : va_D A ws) (hS : va_S A H0 H locs) (q0 : Nat) {x : Int32} (he : ws[q0]? = some (a, .inr (0, fs))) (hl : 2 < fs.length) {ws1 : va_W} (hw : ws.set q0 (a, .inr (0, fs.set 2 (.int x))) = ws1) (hdg : decode cc pc = .ok (.putfield 35, 3))
    (kk : ∀ (H1 : Heap) (locs1 : List Loc), va_P D vwCl ws1 H1 → va_D A ws1 → va_S A H0 H1 locs1 → W p l e R s m args below meth c H1 locs1 cells slots Q (F0 m (pc + 3) ls rest)) : W p l e R s m args below meth c H locs cells slots Q (F0 m pc ls (.int x :: .ref a :: rest)) := by
  subst hw
  exact va_put hC.1 hC.2.1 hC.2.2.2.2 inA_X0 tyX0 tyX0_ok nmX0 hC.2.2.2.1 hK hP hD hS q0 he rfl 2 (by decide) (hC.2.2.2.2 _ q76) (fun _ h => h) rfl (ty := .int) (by decide +kernel) rfl rfl hl hdg kk
theorem gf_X7_86 (hC : CallFix p m c cc nL s args lw_all RX7) (hK : va_K D vwCl tys s) (hP : va_P D vwCl ws H) (q0 : Nat) (he : ws[q0]? = some (a, .inr (0, fs))) (hv : fs[2]? = some v) (hdg : decode cc pc = .ok (.getfield 86, 3))
    (kk : W p l e R s m args below meth c H locs cells slots Q (F0 m (pc + 3) ls (v :: rest))) : W p l e R s m args below meth c H locs cells slots Q (F0 m pc ls (.ref a :: rest)) :=
  va_get hC.1 hC.2.1 hC.2.2.2.2 inA_X0 hC.2.2.2.1 hK hP q0 he rfl 2 (by decide) (hC.2.2.2.2 _ q77) (fun _ h => h) hv hdg kk
theorem pf_X7_86 (hC : CallFix p m c cc nL s args lw_all RX7) (hK : va_K D vwCl tys s) (hP : va_P D vwCl ws H) (hD : va_D A ws) (hS : va_S A H0 H locs) (q0 : Nat) {x : Int32} (he : ws[q0]? = some (a, .inr (0, fs))) (hl : 2 < fs.length) {ws1 : va_W} (hw : ws.set q0 (a, .inr (0, fs.set 2 (.int x))) = ws1) (hdg : decode cc pc = .ok (.putfield 86, 3))
    (kk : ∀ (H1 : Heap) (locs1 : List Loc), va_P D vwCl ws1 H1 → va_D A ws1 → va_S A H0 H1 locs1 → W p l e R s m args below meth c H1 locs1 cells slots Q (F0 m (pc + 3) ls rest)) : W p l e R s m args below meth c H locs cells slots Q (F0 m pc ls (.int x :: .ref a :: rest)) := by
  subst hw
  exact va_put hC.1 hC.2.1 hC.2.2.2.2 inA_X0 tyX0 tyX0_ok nmX0 hC.2.2.2.1 hK hP hD hS q0 he rfl 2 (by decide) (hC.2.2.2.2 _ q77) (fun _ h => h) rfl (ty := .int) (by decide +kernel) rfl rfl hl hdg kk
theorem gf_X0_38 (hC : CallFix p m c cc nL s args lw_all RX0) (hK : va_K D vwCl tys s) (hP : va_P D vwCl ws H) (q0 : Nat) (he : ws[q0]? = some (a, .inr (0, fs))) (hv : fs[3]? = some v) (hdg : decode cc pc = .ok (.getfield 38, 3))
    (kk : W p l e R s m args below meth c H locs cells slots Q (F0 m (pc + 3) ls (v :: rest))) : W p l e R s m args below meth c H locs cells slots Q (F0 m pc ls (.ref a :: rest)) :=
  va_get hC.1 hC.2.1 hC.2.2.2.2 inA_X0 hC.2.2.2.1 hK hP q0 he rfl 3 (by decide) (hC.2.2.2.2 _ q78) (fun _ h => h) hv hdg kk
theorem pf_X0_38 (hC : CallFix p m c cc nL s args lw_all RX0) (hK : va_K D vwCl tys s) (hP : va_P D vwCl ws H) (hD : va_D A ws) (hS : va_S A H0 H locs) (q0 : Nat) {x : Int32} (he : ws[q0]? = some (a, .inr (0, fs))) (hl : 3 < fs.length) {ws1 : va_W} (hw : ws.set q0 (a, .inr (0, fs.set 3 (.int x))) = ws1) (hdg : decode cc pc = .ok (.putfield 38, 3))
    (kk : ∀ (H1 : Heap) (locs1 : List Loc), va_P D vwCl ws1 H1 → va_D A ws1 → va_S A H0 H1 locs1 → W p l e R s m args below meth c H1 locs1 cells slots Q (F0 m (pc + 3) ls rest)) : W p l e R s m args below meth c H locs cells slots Q (F0 m pc ls (.int x :: .ref a :: rest)) := by
  subst hw
  exact va_put hC.1 hC.2.1 hC.2.2.2.2 inA_X0 tyX0 tyX0_ok nmX0 hC.2.2.2.1 hK hP hD hS q0 he rfl 3 (by decide) (hC.2.2.2.2 _ q78) (fun _ h => h) rfl (ty := .int) (by decide +kernel) rfl rfl hl hdg kk
theorem gf_X5_108 (hC : CallFix p m c cc nL s args lw_all RX5) (hK : va_K D vwCl tys s) (hP : va_P D vwCl ws H) (q0 : Nat) (he : ws[q0]? = some (a, .inr (0, fs))) (hv : fs[3]? = some v) (hdg : decode cc pc = .ok (.getfield 108, 3))
    (kk : W p l e R s m args below meth c H locs cells slots Q (F0 m (pc + 3) ls (v :: rest))) : W p l e R s m args below meth c H locs cells slots Q (F0 m pc ls (.ref a :: rest)) :=
  va_get hC.1 hC.2.1 hC.2.2.2.2 inA_X0 hC.2.2.2.1 hK hP q0 he rfl 3 (by decide) (hC.2.2.2.2 _ q79) (fun _ h => h) hv hdg kk
theorem pf_X5_108 (hC : CallFix p m c cc nL s args lw_all RX5) (hK : va_K D vwCl tys s) (hP : va_P D vwCl ws H) (hD : va_D A ws) (hS : va_S A H0 H locs) (q0 : Nat) {x : Int32} (he : ws[q0]? = some (a, .inr (0, fs))) (hl : 3 < fs.length) {ws1 : va_W} (hw : ws.set q0 (a, .inr (0, fs.set 3 (.int x))) = ws1) (hdg : decode cc pc = .ok (.putfield 108, 3))
    (kk : ∀ (H1 : Heap) (locs1 : List Loc), va_P D vwCl ws1 H1 → va_D A ws1 → va_S A H0 H1 locs1 → W p l e R s m args below meth c H1 locs1 cells slots Q (F0 m (pc + 3) ls rest)) : W p l e R s m args below meth c H locs cells slots Q (F0 m pc ls (.int x :: .ref a :: rest)) := by
  subst hw
  exact va_put hC.1 hC.2.1 hC.2.2.2.2 inA_X0 tyX0 tyX0_ok nmX0 hC.2.2.2.1 hK hP hD hS q0 he rfl 3 (by decide) (hC.2.2.2.2 _ q79) (fun _ h => h) rfl (ty := .int) (by decide +kernel) rfl rfl hl hdg kk
theorem gf_X7_118 (hC : CallFix p m c cc nL s args lw_all RX7) (hK : va_K D vwCl tys s) (hP : va_P D vwCl ws H) (q0 : Nat) (he : ws[q0]? = some (a, .inr (0, fs))) (hv : fs[3]? = some v) (hdg : decode cc pc = .ok (.getfield 118, 3))
    (kk : W p l e R s m args below meth c H locs cells slots Q (F0 m (pc + 3) ls (v :: rest))) : W p l e R s m args below meth c H locs cells slots Q (F0 m pc ls (.ref a :: rest)) :=
  va_get hC.1 hC.2.1 hC.2.2.2.2 inA_X0 hC.2.2.2.1 hK hP q0 he rfl 3 (by decide) (hC.2.2.2.2 _ q80) (fun _ h => h) hv hdg kk
theorem pf_X7_118 (hC : CallFix p m c cc nL s args lw_all RX7) (hK : va_K D vwCl tys s) (hP : va_P D vwCl ws H) (hD : va_D A ws) (hS : va_S A H0 H locs) (q0 : Nat) {x : Int32} (he : ws[q0]? = some (a, .inr (0, fs))) (hl : 3 < fs.length) {ws1 : va_W} (hw : ws.set q0 (a, .inr (0, fs.set 3 (.int x))) = ws1) (hdg : decode cc pc = .ok (.putfield 118, 3))
    (kk : ∀ (H1 : Heap) (locs1 : List Loc), va_P D vwCl ws1 H1 → va_D A ws1 → va_S A H0 H1 locs1 → W p l e R s m args below meth c H1 locs1 cells slots Q (F0 m (pc + 3) ls rest)) : W p l e R s m args below meth c H locs cells slots Q (F0 m pc ls (.int x :: .ref a :: rest)) := by
  subst hw
  exact va_put hC.1 hC.2.1 hC.2.2.2.2 inA_X0 tyX0 tyX0_ok nmX0 hC.2.2.2.1 hK hP hD hS q0 he rfl 3 (by decide) (hC.2.2.2.2 _ q80) (fun _ h => h) rfl (ty := .int) (by decide +kernel) rfl rfl hl hdg kk
theorem gf_X6_79 (hC : CallFix p m c cc nL s args lw_all RX6) (hK : va_K D vwCl tys s) (hP : va_P D vwCl ws H) (q0 : Nat) (he : ws[q0]? = some (a, .inr (0, fs))) (hv : fs[3]? = some v) (hdg : decode cc pc = .ok (.getfield 79, 3))
    (kk : W p l e R s m args below meth c H locs cells slots Q (F0 m (pc + 3) ls (v :: rest))) : W p l e R s m args below meth c H locs cells slots Q (F0 m pc ls (.ref a :: rest)) :=
  va_get hC.1 hC.2.1 hC.2.2.2.2 inA_X0 hC.2.2.2.1 hK hP q0 he rfl 3 (by decide) (hC.2.2.2.2 _ q81) (fun _ h => h) hv hdg kk
theorem pf_X6_79 (hC : CallFix p m c cc nL s args lw_all RX6) (hK : va_K D vwCl tys s) (hP : va_P D vwCl ws H) (hD : va_D A ws) (hS : va_S A H0 H locs) (q0 : Nat) {x : Int32} (he : ws[q0]? = some (a, .inr (0, fs))) (hl : 3 < fs.length) {ws1 : va_W} (hw : ws.set q0 (a, .inr (0, fs.set 3 (.int x))) = ws1) (hdg : decode cc pc = .ok (.putfield 79, 3))
    (kk : ∀ (H1 : Heap) (locs1 : List Loc), va_P D vwCl ws1 H1 → va_D A ws1 → va_S A H0 H1 locs1 → W p l e R s m args below meth c H1 locs1 cells slots Q (F0 m (pc + 3) ls rest)) : W p l e R s m args below meth c H locs cells slots Q (F0 m pc ls (.int x :: .ref a :: rest)) := by
  subst hw
  exact va_put hC.1 hC.2.1 hC.2.2.2.2 inA_X0 tyX0 tyX0_ok nmX0 hC.2.2.2.1 hK hP hD hS q0 he rfl 3 (by decide) (hC.2.2.2.2 _ q81) (fun _ h => h) rfl (ty := .int) (by decide +kernel) rfl rfl hl hdg kk
theorem gf_X0_41 (hC : CallFix p m c cc nL s args lw_all RX0) (hK : va_K D vwCl tys s) (hP : va_P D vwCl ws H) (q0 : Nat) (he : ws[q0]? = some (a, .inr (0, fs))) (hv : fs[4]? = some v) (hdg : decode cc pc = .ok (.getfield 41, 3))
    (kk : W p l e R s m args below meth c H locs cells slots Q (F0 m (pc + 3) ls (v :: rest))) : W p l e R s m args below meth c H locs cells slots Q (F0 m pc ls (.ref a :: rest)) :=
  va_get hC.1 hC.2.1 hC.2.2.2.2 inA_X0 hC.2.2.2.1 hK hP q0 he rfl 4 (by decide) (hC.2.2.2.2 _ q82) (fun _ h => h) hv hdg kk
theorem pf_X0_41 (hC : CallFix p m c cc nL s args lw_all RX0) (hK : va_K D vwCl tys s) (hP : va_P D vwCl ws H) (hD : va_D A ws) (hS : va_S A H0 H locs) (q0 : Nat) {x : Int32} (he : ws[q0]? = some (a, .inr (0, fs))) (hl : 4 < fs.length) {ws1 : va_W} (hw : ws.set q0 (a, .inr (0, fs.set 4 (.int x))) = ws1) (hdg : decode cc pc = .ok (.putfield 41, 3))
    (kk : ∀ (H1 : Heap) (locs1 : List Loc), va_P D vwCl ws1 H1 → va_D A ws1 → va_S A H0 H1 locs1 → W p l e R s m args below meth c H1 locs1 cells slots Q (F0 m (pc + 3) ls rest)) : W p l e R s m args below meth c H locs cells slots Q (F0 m pc ls (.int x :: .ref a :: rest)) := by
  subst hw
  exact va_put hC.1 hC.2.1 hC.2.2.2.2 inA_X0 tyX0 tyX0_ok nmX0 hC.2.2.2.1 hK hP hD hS q0 he rfl 4 (by decide) (hC.2.2.2.2 _ q82) (fun _ h => h) rfl (ty := .int) (by decide +kernel) rfl rfl hl hdg kk
theorem gf_X1_56 (hC : CallFix p m c cc nL s args lw_all RX1) (hK : va_K D vwCl tys s) (hP : va_P D vwCl ws H) (q0 : Nat) (he : ws[q0]? = some (a, .inr (0, fs))) (hv : fs[4]? = some v) (hdg : decode cc pc = .ok (.getfield 56, 3))
    (kk : W p l e R s m args below meth c H locs cells slots Q (F0 m (pc + 3) ls (v :: rest))) : W p l e R s m args below meth c H locs cells slots Q (F0 m pc ls (.ref a :: rest)) :=
  va_get hC.1 hC.2.1 hC.2.2.2.2 inA_X0 hC.2.2.2.1 hK hP q0 he rfl 4 (by decide) (hC.2.2.2.2 _ q83) (fun _ h => h) hv hdg kk
theorem pf_X1_56 (hC : CallFix p m c cc nL s args lw_all RX1) (hK : va_K D vwCl tys s) (hP : va_P D vwCl ws H) (hD : va_D A ws) (hS : va_S A H0 H locs) (q0 : Nat) {x : Int32} (he : ws[q0]? = some (a, .inr (0, fs))) (hl : 4 < fs.length) {ws1 : va_W} (hw : ws.set q0 (a, .inr (0, fs.set 4 (.int x))) = ws1) (hdg : decode cc pc = .ok (.putfield 56, 3))
    (kk : ∀ (H1 : Heap) (locs1 : List Loc), va_P D vwCl ws1 H1 → va_D A ws1 → va_S A H0 H1 locs1 → W p l e R s m args below meth c H1 locs1 cells slots Q (F0 m (pc + 3) ls rest)) : W p l e R s m args below meth c H locs cells slots Q (F0 m pc ls (.int x :: .ref a :: rest)) := by
  subst hw
  exact va_put hC.1 hC.2.1 hC.2.2.2.2 inA_X0 tyX0 tyX0_ok nmX0 hC.2.2.2.1 hK hP hD hS q0 he rfl 4 (by decide) (hC.2.2.2.2 _ q83) (fun _ h => h) rfl (ty := .int) (by decide +kernel) rfl rfl hl hdg kk
theorem gf_X5_80 (hC : CallFix p m c cc nL s args lw_all RX5) (hK : va_K D vwCl tys s) (hP : va_P D vwCl ws H) (q0 : Nat) (he : ws[q0]? = some (a, .inr (0, fs))) (hv : fs[4]? = some v) (hdg : decode cc pc = .ok (.getfield 80, 3))
    (kk : W p l e R s m args below meth c H locs cells slots Q (F0 m (pc + 3) ls (v :: rest))) : W p l e R s m args below meth c H locs cells slots Q (F0 m pc ls (.ref a :: rest)) :=
  va_get hC.1 hC.2.1 hC.2.2.2.2 inA_X0 hC.2.2.2.1 hK hP q0 he rfl 4 (by decide) (hC.2.2.2.2 _ q84) (fun _ h => h) hv hdg kk
theorem pf_X5_80 (hC : CallFix p m c cc nL s args lw_all RX5) (hK : va_K D vwCl tys s) (hP : va_P D vwCl ws H) (hD : va_D A ws) (hS : va_S A H0 H locs) (q0 : Nat) {x : Int32} (he : ws[q0]? = some (a, .inr (0, fs))) (hl : 4 < fs.length) {ws1 : va_W} (hw : ws.set q0 (a, .inr (0, fs.set 4 (.int x))) = ws1) (hdg : decode cc pc = .ok (.putfield 80, 3))
    (kk : ∀ (H1 : Heap) (locs1 : List Loc), va_P D vwCl ws1 H1 → va_D A ws1 → va_S A H0 H1 locs1 → W p l e R s m args below meth c H1 locs1 cells slots Q (F0 m (pc + 3) ls rest)) : W p l e R s m args below meth c H locs cells slots Q (F0 m pc ls (.int x :: .ref a :: rest)) := by
  subst hw
  exact va_put hC.1 hC.2.1 hC.2.2.2.2 inA_X0 tyX0 tyX0_ok nmX0 hC.2.2.2.1 hK hP hD hS q0 he rfl 4 (by decide) (hC.2.2.2.2 _ q84) (fun _ h => h) rfl (ty := .int) (by decide +kernel) rfl rfl hl hdg kk
theorem gf_X7_80 (hC : CallFix p m c cc nL s args lw_all RX7) (hK : va_K D vwCl tys s) (hP : va_P D vwCl ws H) (q0 : Nat) (he : ws[q0]? = some (a, .inr (0, fs))) (hv : fs[4]? = some v) (hdg : decode cc pc = .ok (.getfield 80, 3))
    (kk : W p l e R s m args below meth c H locs cells slots Q (F0 m (pc + 3) ls (v :: rest))) : W p l e R s m args below meth c H locs cells slots Q (F0 m pc ls (.ref a :: rest)) :=
  va_get hC.1 hC.2.1 hC.2.2.2.2 inA_X0 hC.2.2.2.1 hK hP q0 he rfl 4 (by decide) (hC.2.2.2.2 _ q85) (fun _ h => h) hv hdg kk
theorem pf_X7_80 (hC : CallFix p m c cc nL s args lw_all RX7) (hK : va_K D vwCl tys s) (hP : va_P D vwCl ws H) (hD : va_D A ws) (hS : va_S A H0 H locs) (q0 : Nat) {x : Int32} (he : ws[q0]? = some (a, .inr (0, fs))) (hl : 4 < fs.length) {ws1 : va_W} (hw : ws.set q0 (a, .inr (0, fs.set 4 (.int x))) = ws1) (hdg : decode cc pc = .ok (.putfield 80, 3))
    (kk : ∀ (H1 : Heap) (locs1 : List Loc), va_P D vwCl ws1 H1 → va_D A ws1 → va_S A H0 H1 locs1 → W p l e R s m args below meth c H1 locs1 cells slots Q (F0 m (pc + 3) ls rest)) : W p l e R s m args below meth c H locs cells slots Q (F0 m pc ls (.int x :: .ref a :: rest)) := by
  subst hw
  exact va_put hC.1 hC.2.1 hC.2.2.2.2 inA_X0 tyX0 tyX0_ok nmX0 hC.2.2.2.1 hK hP hD hS q0 he rfl 4 (by decide) (hC.2.2.2.2 _ q85) (fun _ h => h) rfl (ty := .int) (by decide +kernel) rfl rfl hl hdg kk
theorem gf_X0_44 (hC : CallFix p m c cc nL s args lw_all RX0) (hK : va_K D vwCl tys s) (hP : va_P D vwCl ws H) (q0 : Nat) (he : ws[q0]? = some (a, .inr (0, fs))) (hv : fs[5]? = some v) (hdg : decode cc pc = .ok (.getfield 44, 3))
    (kk : W p l e R s m args below meth c H locs cells slots Q (F0 m (pc + 3) ls (v :: rest))) : W p l e R s m args below meth c H locs cells slots Q (F0 m pc ls (.ref a :: rest)) :=
  va_get hC.1 hC.2.1 hC.2.2.2.2 inA_X0 hC.2.2.2.1 hK hP q0 he rfl 5 (by decide) (hC.2.2.2.2 _ q86) (fun _ h => h) hv hdg kk
theorem pf_X0_44 (hC : CallFix p m c cc nL s args lw_all RX0) (hK : va_K D vwCl tys s) (hP : va_P D vwCl ws H) (hD : va_D A ws) (hS : va_S A H0 H locs) (q0 : Nat) {x : Int32} (he : ws[q0]? = some (a, .inr (0, fs))) (hl : 5 < fs.length) {ws1 : va_W} (hw : ws.set q0 (a, .inr (0, fs.set 5 (.int x))) = ws1) (hdg : decode cc pc = .ok (.putfield 44, 3))
    (kk : ∀ (H1 : Heap) (locs1 : List Loc), va_P D vwCl ws1 H1 → va_D A ws1 → va_S A H0 H1 locs1 → W p l e R s m args below meth c H1 locs1 cells slots Q (F0 m (pc + 3) ls rest)) : W p l e R s m args below meth c H locs cells slots Q (F0 m pc ls (.int x :: .ref a :: rest)) := by
  subst hw
  exact va_put hC.1 hC.2.1 hC.2.2.2.2 inA_X0 tyX0 tyX0_ok nmX0 hC.2.2.2.1 hK hP hD hS q0 he rfl 5 (by decide) (hC.2.2.2.2 _ q86) (fun _ h => h) rfl (ty := .int) (by decide +kernel) rfl rfl hl hdg kk
theorem gf_X0_47 (hC : CallFix p m c cc nL s args lw_all RX0) (hK : va_K D vwCl tys s) (hP : va_P D vwCl ws H) (q0 : Nat) (he : ws[q0]? = some (a, .inr (0, fs))) (hv : fs[6]? = some v) (hdg : decode cc pc = .ok (.getfield 47, 3))
    (kk : W p l e R s m args below meth c H locs cells slots Q (F0 m (pc + 3) ls (v :: rest))) : W p l e R s m args below meth c H locs cells slots Q (F0 m pc ls (.ref a :: rest)) :=
  va_get hC.1 hC.2.1 hC.2.2.2.2 inA_X0 hC.2.2.2.1 hK hP q0 he rfl 6 (by decide) (hC.2.2.2.2 _ q87) (fun _ h => h) hv hdg kk
theorem pf_X0_47 (hC : CallFix p m c cc nL s args lw_all RX0) (hK : va_K D vwCl tys s) (hP : va_P D vwCl ws H) (hD : va_D A ws) (hS : va_S A H0 H locs) (q0 : Nat) {x : Int32} (he : ws[q0]? = some (a, .inr (0, fs))) (hl : 6 < fs.length) {ws1 : va_W} (hw : ws.set q0 (a, .inr (0, fs.set 6 (.int x))) = ws1) (hdg : decode cc pc = .ok (.putfield 47, 3))
    (kk : ∀ (H1 : Heap) (locs1 : List Loc), va_P D vwCl ws1 H1 → va_D A ws1 → va_S A H0 H1 locs1 → W p l e R s m args below meth c H1 locs1 cells slots Q (F0 m (pc + 3) ls rest)) : W p l e R s m args below meth c H locs cells slots Q (F0 m pc ls (.int x :: .ref a :: rest)) := by
  subst hw
  exact va_put hC.1 hC.2.1 hC.2.2.2.2 inA_X0 tyX0 tyX0_ok nmX0 hC.2.2.2.1 hK hP hD hS q0 he rfl 6 (by decide) (hC.2.2.2.2 _ q87) (fun _ h => h) rfl (ty := .int) (by decide +kernel) rfl rfl hl hdg kk
theorem gf_X0_50 (hC : CallFix p m c cc nL s args lw_all RX0) (hK : va_K D vwCl tys s) (hP : va_P D vwCl ws H) (q0 : Nat) (he : ws[q0]? = some (a, .inr (0, fs))) (hv : fs[7]? = some v) (hdg : decode cc pc = .ok (.getfield 50, 3))
    (kk : W p l e R s m args below meth c H locs cells slots Q (F0 m (pc + 3) ls (v :: rest))) : W p l e R s m args below meth c H locs cells slots Q (F0 m pc ls (.ref a :: rest)) :=
  va_get hC.1 hC.2.1 hC.2.2.2.2 inA_X0 hC.2.2.2.1 hK hP q0 he rfl 7 (by decide) (hC.2.2.2.2 _ q88) (fun _ h => h) hv hdg kk
theorem pf_X0_50 (hC : CallFix p m c cc nL s args lw_all RX0) (hK : va_K D vwCl tys s) (hP : va_P D vwCl ws H) (hD : va_D A ws) (hS : va_S A H0 H locs) (q0 : Nat) {x : Int32} (he : ws[q0]? = some (a, .inr (0, fs))) (hl : 7 < fs.length) {ws1 : va_W} (hw : ws.set q0 (a, .inr (0, fs.set 7 (.int x))) = ws1) (hdg : decode cc pc = .ok (.putfield 50, 3))
    (kk : ∀ (H1 : Heap) (locs1 : List Loc), va_P D vwCl ws1 H1 → va_D A ws1 → va_S A H0 H1 locs1 → W p l e R s m args below meth c H1 locs1 cells slots Q (F0 m (pc + 3) ls rest)) : W p l e R s m args below meth c H locs cells slots Q (F0 m pc ls (.int x :: .ref a :: rest)) := by
  subst hw
  exact va_put hC.1 hC.2.1 hC.2.2.2.2 inA_X0 tyX0 tyX0_ok nmX0 hC.2.2.2.1 hK hP hD hS q0 he rfl 7 (by decide) (hC.2.2.2.2 _ q88) (fun _ h => h) rfl (ty := .int) (by decide +kernel) rfl rfl hl hdg kk
theorem gf_X0_53 (hC : CallFix p m c cc nL s args lw_all RX0) (hK : va_K D vwCl tys s) (hP : va_P D vwCl ws H) (q0 : Nat) (he : ws[q0]? = some (a, .inr (0, fs))) (hv : fs[8]? = some v) (hdg : decode cc pc = .ok (.getfield 53, 3))
    (kk : W p l e R s m args below meth c H locs cells slots Q (F0 m (pc + 3) ls (v :: rest))) : W p l e R s m args below meth c H locs cells slots Q (F0 m pc ls (.ref a :: rest)) :=
  va_get hC.1 hC.2.1 hC.2.2.2.2 inA_X0 hC.2.2.2.1 hK hP q0 he rfl 8 (by decide) (hC.2.2.2.2 _ q89) (fun _ h => h) hv hdg kk
theorem pf_X0_53 (hC : CallFix p m c cc nL s args lw_all RX0) (hK : va_K D vwCl tys s) (hP : va_P D vwCl ws H) (hD : va_D A ws) (hS : va_S A H0 H locs) (q0 : Nat) {x : Int32} (he : ws[q0]? = some (a, .inr (0, fs))) (hl : 8 < fs.length) {ws1 : va_W} (hw : ws.set q0 (a, .inr (0, fs.set 8 (.int x))) = ws1) (hdg : decode cc pc = .ok (.putfield 53, 3))
    (kk : ∀ (H1 : Heap) (locs1 : List Loc), va_P D vwCl ws1 H1 → va_D A ws1 → va_S A H0 H1 locs1 → W p l e R s m args below meth c H1 locs1 cells slots Q (F0 m (pc + 3) ls rest)) : W p l e R s m args below meth c H locs cells slots Q (F0 m pc ls (.int x :: .ref a :: rest)) := by
  subst hw
  exact va_put hC.1 hC.2.1 hC.2.2.2.2 inA_X0 tyX0 tyX0_ok nmX0 hC.2.2.2.1 hK hP hD hS q0 he rfl 8 (by decide) (hC.2.2.2.2 _ q89) (fun _ h => h) rfl (ty := .int) (by decide +kernel) rfl rfl hl hdg kk
theorem gf_X0_15 (hC : CallFix p m c cc nL s args lw_all RX0) (hK : va_K D vwCl tys s) (hP : va_P D vwCl ws H) (q0 : Nat) (he : ws[q0]? = some (a, .inr (0, fs))) (hv : fs[9]? = some v) (hdg : decode cc pc = .ok (.getfield 15, 3))
    (kk : W p l e R s m args below meth c H locs cells slots Q (F0 m (pc + 3) ls (v :: rest))) : W p l e R s m args below meth c H locs cells slots Q (F0 m pc ls (.ref a :: rest)) :=
  va_get hC.1 hC.2.1 hC.2.2.2.2 inA_X0 hC.2.2.2.1 hK hP q0 he rfl 9 (by decide) (hC.2.2.2.2 _ q90) (fun _ h => h) hv hdg kk
theorem gf_X3_18 (hC : CallFix p m c cc nL s args lw_all RX3) (hK : va_K D vwCl tys s) (hP : va_P D vwCl ws H) (q0 : Nat) (he : ws[q0]? = some (a, .inr (0, fs))) (hv : fs[9]? = some v) (hdg : decode cc pc = .ok (.getfield 18, 3))
    (kk : W p l e R s m args below meth c H locs cells slots Q (F0 m (pc + 3) ls (v :: rest))) : W p l e R s m args below meth c H locs cells slots Q (F0 m pc ls (.ref a :: rest)) :=
  va_get hC.1 hC.2.1 hC.2.2.2.2 inA_X0 hC.2.2.2.1 hK hP q0 he rfl 9 (by decide) (hC.2.2.2.2 _ q91) (fun _ h => h) hv hdg kk
theorem gf_X5_83 (hC : CallFix p m c cc nL s args lw_all RX5) (hK : va_K D vwCl tys s) (hP : va_P D vwCl ws H) (q0 : Nat) (he : ws[q0]? = some (a, .inr (0, fs))) (hv : fs[9]? = some v) (hdg : decode cc pc = .ok (.getfield 83, 3))
    (kk : W p l e R s m args below meth c H locs cells slots Q (F0 m (pc + 3) ls (v :: rest))) : W p l e R s m args below meth c H locs cells slots Q (F0 m pc ls (.ref a :: rest)) :=
  va_get hC.1 hC.2.1 hC.2.2.2.2 inA_X0 hC.2.2.2.1 hK hP q0 he rfl 9 (by decide) (hC.2.2.2.2 _ q92) (fun _ h => h) hv hdg kk
theorem gf_X7_135 (hC : CallFix p m c cc nL s args lw_all RX7) (hK : va_K D vwCl tys s) (hP : va_P D vwCl ws H) (q0 : Nat) (he : ws[q0]? = some (a, .inr (0, fs))) (hv : fs[9]? = some v) (hdg : decode cc pc = .ok (.getfield 135, 3))
    (kk : W p l e R s m args below meth c H locs cells slots Q (F0 m (pc + 3) ls (v :: rest))) : W p l e R s m args below meth c H locs cells slots Q (F0 m pc ls (.ref a :: rest)) :=
  va_get hC.1 hC.2.1 hC.2.2.2.2 inA_X0 hC.2.2.2.1 hK hP q0 he rfl 9 (by decide) (hC.2.2.2.2 _ q93) (fun _ h => h) hv hdg kk
theorem gf_X0_19 (hC : CallFix p m c cc nL s args lw_all RX0) (hK : va_K D vwCl tys s) (hP : va_P D vwCl ws H) (q0 : Nat) (he : ws[q0]? = some (a, .inr (0, fs))) (hv : fs[10]? = some v) (hdg : decode cc pc = .ok (.getfield 19, 3))
    (kk : W p l e R s m args below meth c H locs cells slots Q (F0 m (pc + 3) ls (v :: rest))) : W p l e R s m args below meth c H locs cells slots Q (F0 m pc ls (.ref a :: rest)) :=
  va_get hC.1 hC.2.1 hC.2.2.2.2 inA_X0 hC.2.2.2.1 hK hP q0 he rfl 10 (by decide) (hC.2.2.2.2 _ q94) (fun _ h => h) hv hdg kk
theorem gf_X7_138 (hC : CallFix p m c cc nL s args lw_all RX7) (hK : va_K D vwCl tys s) (hP : va_P D vwCl ws H) (q0 : Nat) (he : ws[q0]? = some (a, .inr (0, fs))) (hv : fs[10]? = some v) (hdg : decode cc pc = .ok (.getfield 138, 3))
    (kk : W p l e R s m args below meth c H locs cells slots Q (F0 m (pc + 3) ls (v :: rest))) : W p l e R s m args below meth c H locs cells slots Q (F0 m pc ls (.ref a :: rest)) :=
  va_get hC.1 hC.2.1 hC.2.2.2.2 inA_X0 hC.2.2.2.1 hK hP q0 he rfl 10 (by decide) (hC.2.2.2.2 _ q95) (fun _ h => h) hv hdg kk
theorem gf_X0_22 (hC : CallFix p m c cc nL s args lw_all RX0) (hK : va_K D vwCl tys s) (hP : va_P D vwCl ws H) (q0 : Nat) (he : ws[q0]? = some (a, .inr (0, fs))) (hv : fs[11]? = some v) (hdg : decode cc pc = .ok (.getfield 22, 3))
    (kk : W p l e R s m args below meth c H locs cells slots Q (F0 m (pc + 3) ls (v :: rest))) : W p l e R s m args below meth c H locs cells slots Q (F0 m pc ls (.ref a :: rest)) :=
  va_get hC.1 hC.2.1 hC.2.2.2.2 inA_X0 hC.2.2.2.1 hK hP q0 he rfl 11 (by decide) (hC.2.2.2.2 _ q96) (fun _ h => h) hv hdg kk
theorem gf_X7_141 (hC : CallFix p m c cc nL s args lw_all RX7) (hK : va_K D vwCl tys s) (hP : va_P D vwCl ws H) (q0 : Nat) (he : ws[q0]? = some (a, .inr (0, fs))) (hv : fs[11]? = some v) (hdg : decode cc pc = .ok (.getfield 141, 3))
    (kk : W p l e R s m args below meth c H locs cells slots Q (F0 m (pc + 3) ls (v :: rest))) : W p l e R s m args below meth c H locs cells slots Q (F0 m pc ls (.ref a :: rest)) :=
  va_get hC.1 hC.2.1 hC.2.2.2.2 inA_X0 hC.2.2.2.1 hK hP q0 he rfl 11 (by decide) (hC.2.2.2.2 _ q97) (fun _ h => h) hv hdg kk
theorem gf_X0_25 (hC : CallFix p m c cc nL s args lw_all RX0) (hK : va_K D vwCl tys s) (hP : va_P D vwCl ws H) (q0 : Nat) (he : ws[q0]? = some (a, .inr (0, fs))) (hv : fs[12]? = some v) (hdg : decode cc pc = .ok (.getfield 25, 3))
    (kk : W p l e R s m args below meth c H locs cells slots Q (F0 m (pc + 3) ls (v :: rest))) : W p l e R s m args below meth c H locs cells slots Q (F0 m pc ls (.ref a :: rest)) :=
  va_get hC.1 hC.2.1 hC.2.2.2.2 inA_X0 hC.2.2.2.1 hK hP q0 he rfl 12 (by decide) (hC.2.2.2.2 _ q98) (fun _ h => h) hv hdg kk
theorem gf_X3_35 (hC : CallFix p m c cc nL s args lw_all RX3) (hK : va_K D vwCl tys s) (hP : va_P D vwCl ws H) (q0 : Nat) (he : ws[q0]? = some (a, .inr (0, fs))) (hv : fs[12]? = some v) (hdg : decode cc pc = .ok (.getfield 35, 3))
    (kk : W p l e R s m args below meth c H locs cells slots Q (F0 m (pc + 3) ls (v :: rest))) : W p l e R s m args below meth c H locs cells slots Q (F0 m pc ls (.ref a :: rest)) :=
  va_get hC.1 hC.2.1 hC.2.2.2.2 inA_X0 hC.2.2.2.1 hK hP q0 he rfl 12 (by decide) (hC.2.2.2.2 _ q99) (fun _ h => h) hv hdg kk
theorem gf_X7_127 (hC : CallFix p m c cc nL s args lw_all RX7) (hK : va_K D vwCl tys s) (hP : va_P D vwCl ws H) (q0 : Nat) (he : ws[q0]? = some (a, .inr (0, fs))) (hv : fs[12]? = some v) (hdg : decode cc pc = .ok (.getfield 127, 3))
    (kk : W p l e R s m args below meth c H locs cells slots Q (F0 m (pc + 3) ls (v :: rest))) : W p l e R s m args below meth c H locs cells slots Q (F0 m pc ls (.ref a :: rest)) :=
  va_get hC.1 hC.2.1 hC.2.2.2.2 inA_X0 hC.2.2.2.1 hK hP q0 he rfl 12 (by decide) (hC.2.2.2.2 _ q100) (fun _ h => h) hv hdg kk
theorem gf_X0_60 (hC : CallFix p m c cc nL s args lw_all RX0) (hK : va_K D vwCl tys s) (hP : va_P D vwCl ws H) (q0 : Nat) (he : ws[q0]? = some (a, .inr (0, fs))) (hv : fs[13]? = some v) (hdg : decode cc pc = .ok (.getfield 60, 3))
    (kk : W p l e R s m args below meth c H locs cells slots Q (F0 m (pc + 3) ls (v :: rest))) : W p l e R s m args below meth c H locs cells slots Q (F0 m pc ls (.ref a :: rest)) :=
  va_get hC.1 hC.2.1 hC.2.2.2.2 inA_X0 hC.2.2.2.1 hK hP q0 he rfl 13 (by decide) (hC.2.2.2.2 _ q101) (fun _ h => h) hv hdg kk
theorem pf_X0_60 (hC : CallFix p m c cc nL s args lw_all RX0) (hK : va_K D vwCl tys s) (hP : va_P D vwCl ws H) (hD : va_D A ws) (hS : va_S A H0 H locs) (q0 : Nat) {x : Int32} (he : ws[q0]? = some (a, .inr (0, fs))) (hl : 13 < fs.length) {ws1 : va_W} (hw : ws.set q0 (a, .inr (0, fs.set 13 (.int x))) = ws1) (hdg : decode cc pc = .ok (.putfield 60, 3))
    (kk : ∀ (H1 : Heap) (locs1 : List Loc), va_P D vwCl ws1 H1 → va_D A ws1 → va_S A H0 H1 locs1 → W p l e R s m args below meth c H1 locs1 cells slots Q (F0 m (pc + 3) ls rest)) : W p l e R s m args below meth c H locs cells slots Q (F0 m pc ls (.int x :: .ref a :: rest)) := by
  subst hw
  exact va_put hC.1 hC.2.1 hC.2.2.2.2 inA_X0 tyX0 tyX0_ok nmX0 hC.2.2.2.1 hK hP hD hS q0 he rfl 13 (by decide) (hC.2.2.2.2 _ q101) (fun _ h => h) rfl (ty := .int) (by decide +kernel) rfl rfl hl hdg kk
theorem gf_X1_39 (hC : CallFix p m c cc nL s args lw_all RX1) (hK : va_K D vwCl tys s) (hP : va_P D vwCl ws H) (q0 : Nat) (he : ws[q0]? = some (a, .inr (0, fs))) (hv : fs[13]? = some v) (hdg : decode cc pc = .ok (.getfield 39, 3))
    (kk : W p l e R s m args below meth c H locs cells slots Q (F0 m (pc + 3) ls (v :: rest))) : W p l e R s m args below meth c H locs cells slots Q (F0 m pc ls (.ref a :: rest)) :=
  va_get hC.1 hC.2.1 hC.2.2.2.2 inA_X0 hC.2.2.2.1 hK hP q0 he rfl 13 (by decide) (hC.2.2.2.2 _ q102) (fun _ h => h) hv hdg kk
theorem pf_X1_39 (hC : CallFix p m c cc nL s args lw_all RX1) (hK : va_K D vwCl tys s) (hP : va_P D vwCl ws H) (hD : va_D A ws) (hS : va_S A H0 H locs) (q0 : Nat) {x : Int32} (he : ws[q0]? = some (a, .inr (0, fs))) (hl : 13 < fs.length) {ws1 : va_W} (hw : ws.set q0 (a, .inr (0, fs.set 13 (.int x))) = ws1) (hdg : decode cc pc = .ok (.putfield 39, 3))
    (kk : ∀ (H1 : Heap) (locs1 : List Loc), va_P D vwCl ws1 H1 → va_D A ws1 → va_S A H0 H1 locs1 → W p l e R s m args below meth c H1 locs1 cells slots Q (F0 m (pc + 3) ls rest)) : W p l e R s m args below meth c H locs cells slots Q (F0 m pc ls (.int x :: .ref a :: rest)) := by
  subst hw
  exact va_put hC.1 hC.2.1 hC.2.2.2.2 inA_X0 tyX0 tyX0_ok nmX0 hC.2.2.2.1 hK hP hD hS q0 he rfl 13 (by decide) (hC.2.2.2.2 _ q102) (fun _ h => h) rfl (ty := .int) (by decide +kernel) rfl rfl hl hdg kk
theorem gf_X7_105 (hC : CallFix p m c cc nL s args lw_all RX7) (hK : va_K D vwCl tys s) (hP : va_P D vwCl ws H) (q0 : Nat) (he : ws[q0]? = some (a, .inr (0, fs))) (hv : fs[13]? = some v) (hdg : decode cc pc = .ok (.getfield 105, 3))
    (kk : W p l e R s m args below meth c H locs cells slots Q (F0 m (pc + 3) ls (v :: rest))) : W p l e R s m args below meth c H locs cells slots Q (F0 m pc ls (.ref a :: rest)) :=
  va_get hC.1 hC.2.1 hC.2.2.2.2 inA_X0 hC.2.2.2.1 hK hP q0 he rfl 13 (by decide) (hC.2.2.2.2 _ q103) (fun _ h => h) hv hdg kk
theorem pf_X7_105 (hC : CallFix p m c cc nL s args lw_all RX7) (hK : va_K D vwCl tys s) (hP : va_P D vwCl ws H) (hD : va_D A ws) (hS : va_S A H0 H locs) (q0 : Nat) {x : Int32} (he : ws[q0]? = some (a, .inr (0, fs))) (hl : 13 < fs.length) {ws1 : va_W} (hw : ws.set q0 (a, .inr (0, fs.set 13 (.int x))) = ws1) (hdg : decode cc pc = .ok (.putfield 105, 3))
    (kk : ∀ (H1 : Heap) (locs1 : List Loc), va_P D vwCl ws1 H1 → va_D A ws1 → va_S A H0 H1 locs1 → W p l e R s m args below meth c H1 locs1 cells slots Q (F0 m (pc + 3) ls rest)) : W p l e R s m args below meth c H locs cells slots Q (F0 m pc ls (.int x :: .ref a :: rest)) := by
  subst hw
  exact va_put hC.1 hC.2.1 hC.2.2.2.2 inA_X0 tyX0 tyX0_ok nmX0 hC.2.2.2.1 hK hP hD hS q0 he rfl 13 (by decide) (hC.2.2.2.2 _ q103) (fun _ h => h) rfl (ty := .int) (by decide +kernel) rfl rfl hl hdg kk
theorem gf_X0_63 (hC : CallFix p m c cc nL s args lw_all RX0) (hK : va_K D vwCl tys s) (hP : va_P D vwCl ws H) (q0 : Nat) (he : ws[q0]? = some (a, .inr (0, fs))) (hv : fs[14]? = some v) (hdg : decode cc pc = .ok (.getfield 63, 3))
    (kk : W p l e R s m args below meth c H locs cells slots Q (F0 m (pc + 3) ls (v :: rest))) : W p l e R s m args below meth c H locs cells slots Q (F0 m pc ls (.ref a :: rest)) :=
  va_get hC.1 hC.2.1 hC.2.2.2.2 inA_X0 hC.2.2.2.1 hK hP q0 he rfl 14 (by decide) (hC.2.2.2.2 _ q104) (fun _ h => h) hv hdg kk
theorem pf_X0_63 (hC : CallFix p m c cc nL s args lw_all RX0) (hK : va_K D vwCl tys s) (hP : va_P D vwCl ws H) (hD : va_D A ws) (hS : va_S A H0 H locs) (q0 : Nat) {x : Int32} (he : ws[q0]? = some (a, .inr (0, fs))) (hl : 14 < fs.length) {ws1 : va_W} (hw : ws.set q0 (a, .inr (0, fs.set 14 (.int x))) = ws1) (hdg : decode cc pc = .ok (.putfield 63, 3))
    (kk : ∀ (H1 : Heap) (locs1 : List Loc), va_P D vwCl ws1 H1 → va_D A ws1 → va_S A H0 H1 locs1 → W p l e R s m args below meth c H1 locs1 cells slots Q (F0 m (pc + 3) ls rest)) : W p l e R s m args below meth c H locs cells slots Q (F0 m pc ls (.int x :: .ref a :: rest)) := by
  subst hw
  exact va_put hC.1 hC.2.1 hC.2.2.2.2 inA_X0 tyX0 tyX0_ok nmX0 hC.2.2.2.1 hK hP hD hS q0 he rfl 14 (by decide) (hC.2.2.2.2 _ q104) (fun _ h => h) rfl (ty := .int) (by decide +kernel) rfl rfl hl hdg kk
theorem gf_X1_42 (hC : CallFix p m c cc nL s args lw_all RX1) (hK : va_K D vwCl tys s) (hP : va_P D vwCl ws H) (q0 : Nat) (he : ws[q0]? = some (a, .inr (0, fs))) (hv : fs[14]? = some v) (hdg : decode cc pc = .ok (.getfield 42, 3))
    (kk : W p l e R s m args below meth c H locs cells slots Q (F0 m (pc + 3) ls (v :: rest))) : W p l e R s m args below meth c H locs cells slots Q (F0 m pc ls (.ref a :: rest)) :=
  va_get hC.1 hC.2.1 hC.2.2.2.2 inA_X0 hC.2.2.2.1 hK hP q0 he rfl 14 (by decide) (hC.2.2.2.2 _ q105) (fun _ h => h) hv hdg kk
theorem pf_X1_42 (hC : CallFix p m c cc nL s args lw_all RX1) (hK : va_K D vwCl tys s) (hP : va_P D vwCl ws H) (hD : va_D A ws) (hS : va_S A H0 H locs) (q0 : Nat) {x : Int32} (he : ws[q0]? = some (a, .inr (0, fs))) (hl : 14 < fs.length) {ws1 : va_W} (hw : ws.set q0 (a, .inr (0, fs.set 14 (.int x))) = ws1) (hdg : decode cc pc = .ok (.putfield 42, 3))
    (kk : ∀ (H1 : Heap) (locs1 : List Loc), va_P D vwCl ws1 H1 → va_D A ws1 → va_S A H0 H1 locs1 → W p l e R s m args below meth c H1 locs1 cells slots Q (F0 m (pc + 3) ls rest)) : W p l e R s m args below meth c H locs cells slots Q (F0 m pc ls (.int x :: .ref a :: rest)) := by
  subst hw
  exact va_put hC.1 hC.2.1 hC.2.2.2.2 inA_X0 tyX0 tyX0_ok nmX0 hC.2.2.2.1 hK hP hD hS q0 he rfl 14 (by decide) (hC.2.2.2.2 _ q105) (fun _ h => h) rfl (ty := .int) (by decide +kernel) rfl rfl hl hdg kk
theorem gf_X7_108 (hC : CallFix p m c cc nL s args lw_all RX7) (hK : va_K D vwCl tys s) (hP : va_P D vwCl ws H) (q0 : Nat) (he : ws[q0]? = some (a, .inr (0, fs))) (hv : fs[14]? = some v) (hdg : decode cc pc = .ok (.getfield 108, 3))
    (kk : W p l e R s m args below meth c H locs cells slots Q (F0 m (pc + 3) ls (v :: rest))) : W p l e R s m args below meth c H locs cells slots Q (F0 m pc ls (.ref a :: rest)) :=
  va_get hC.1 hC.2.1 hC.2.2.2.2 inA_X0 hC.2.2.2.1 hK hP q0 he rfl 14 (by decide) (hC.2.2.2.2 _ q106) (fun _ h => h) hv hdg kk
theorem pf_X7_108 (hC : CallFix p m c cc nL s args lw_all RX7) (hK : va_K D vwCl tys s) (hP : va_P D vwCl ws H) (hD : va_D A ws) (hS : va_S A H0 H locs) (q0 : Nat) {x : Int32} (he : ws[q0]? = some (a, .inr (0, fs))) (hl : 14 < fs.length) {ws1 : va_W} (hw : ws.set q0 (a, .inr (0, fs.set 14 (.int x))) = ws1) (hdg : decode cc pc = .ok (.putfield 108, 3))
    (kk : ∀ (H1 : Heap) (locs1 : List Loc), va_P D vwCl ws1 H1 → va_D A ws1 → va_S A H0 H1 locs1 → W p l e R s m args below meth c H1 locs1 cells slots Q (F0 m (pc + 3) ls rest)) : W p l e R s m args below meth c H locs cells slots Q (F0 m pc ls (.int x :: .ref a :: rest)) := by
  subst hw
  exact va_put hC.1 hC.2.1 hC.2.2.2.2 inA_X0 tyX0 tyX0_ok nmX0 hC.2.2.2.1 hK hP hD hS q0 he rfl 14 (by decide) (hC.2.2.2.2 _ q106) (fun _ h => h) rfl (ty := .int) (by decide +kernel) rfl rfl hl hdg kk
theorem gf_X0_66 (hC : CallFix p m c cc nL s args lw_all RX0) (hK : va_K D vwCl tys s) (hP : va_P D vwCl ws H) (q0 : Nat) (he : ws[q0]? = some (a, .inr (0, fs))) (hv : fs[15]? = some v) (hdg : decode cc pc = .ok (.getfield 66, 3))
    (kk : W p l e R s m args below meth c H locs cells slots Q (F0 m (pc + 3) ls (v :: rest))) : W p l e R s m args below meth c H locs cells slots Q (F0 m pc ls (.ref a :: rest)) :=
  va_get hC.1 hC.2.1 hC.2.2.2.2 inA_X0 hC.2.2.2.1 hK hP q0 he rfl 15 (by decide) (hC.2.2.2.2 _ q107) (fun _ h => h) hv hdg kk
theorem pf_X0_66 (hC : CallFix p m c cc nL s args lw_all RX0) (hK : va_K D vwCl tys s) (hP : va_P D vwCl ws H) (hD : va_D A ws) (hS : va_S A H0 H locs) (q0 : Nat) {x : Int32} (he : ws[q0]? = some (a, .inr (0, fs))) (hl : 15 < fs.length) {ws1 : va_W} (hw : ws.set q0 (a, .inr (0, fs.set 15 (.int x))) = ws1) (hdg : decode cc pc = .ok (.putfield 66, 3))
    (kk : ∀ (H1 : Heap) (locs1 : List Loc), va_P D vwCl ws1 H1 → va_D A ws1 → va_S A H0 H1 locs1 → W p l e R s m args below meth c H1 locs1 cells slots Q (F0 m (pc + 3) ls rest)) : W p l e R s m args below meth c H locs cells slots Q (F0 m pc ls (.int x :: .ref a :: rest)) := by
  subst hw
  exact va_put hC.1 hC.2.1 hC.2.2.2.2 inA_X0 tyX0 tyX0_ok nmX0 hC.2.2.2.1 hK hP hD hS q0 he rfl 15 (by decide) (hC.2.2.2.2 _ q107) (fun _ h => h) rfl (ty := .int) (by decide +kernel) rfl rfl hl hdg kk
theorem gf_X7_99 (hC : CallFix p m c cc nL s args lw_all RX7) (hK : va_K D vwCl tys s) (hP : va_P D vwCl ws H) (q0 : Nat) (he : ws[q0]? = some (a, .inr (0, fs))) (hv : fs[15]? = some v) (hdg : decode cc pc = .ok (.getfield 99, 3))
    (kk : W p l e R s m args below meth c H locs cells slots Q (F0 m (pc + 3) ls (v :: rest))) : W p l e R s m args below meth c H locs cells slots Q (F0 m pc ls (.ref a :: rest)) :=
  va_get hC.1 hC.2.1 hC.2.2.2.2 inA_X0 hC.2.2.2.1 hK hP q0 he rfl 15 (by decide) (hC.2.2.2.2 _ q108) (fun _ h => h) hv hdg kk
theorem pf_X7_99 (hC : CallFix p m c cc nL s args lw_all RX7) (hK : va_K D vwCl tys s) (hP : va_P D vwCl ws H) (hD : va_D A ws) (hS : va_S A H0 H locs) (q0 : Nat) {x : Int32} (he : ws[q0]? = some (a, .inr (0, fs))) (hl : 15 < fs.length) {ws1 : va_W} (hw : ws.set q0 (a, .inr (0, fs.set 15 (.int x))) = ws1) (hdg : decode cc pc = .ok (.putfield 99, 3))
    (kk : ∀ (H1 : Heap) (locs1 : List Loc), va_P D vwCl ws1 H1 → va_D A ws1 → va_S A H0 H1 locs1 → W p l e R s m args below meth c H1 locs1 cells slots Q (F0 m (pc + 3) ls rest)) : W p l e R s m args below meth c H locs cells slots Q (F0 m pc ls (.int x :: .ref a :: rest)) := by
  subst hw
  exact va_put hC.1 hC.2.1 hC.2.2.2.2 inA_X0 tyX0 tyX0_ok nmX0 hC.2.2.2.1 hK hP hD hS q0 he rfl 15 (by decide) (hC.2.2.2.2 _ q108) (fun _ h => h) rfl (ty := .int) (by decide +kernel) rfl rfl hl hdg kk
theorem gf_X0_69 (hC : CallFix p m c cc nL s args lw_all RX0) (hK : va_K D vwCl tys s) (hP : va_P D vwCl ws H) (q0 : Nat) (he : ws[q0]? = some (a, .inr (0, fs))) (hv : fs[16]? = some v) (hdg : decode cc pc = .ok (.getfield 69, 3))
    (kk : W p l e R s m args below meth c H locs cells slots Q (F0 m (pc + 3) ls (v :: rest))) : W p l e R s m args below meth c H locs cells slots Q (F0 m pc ls (.ref a :: rest)) :=
  va_get hC.1 hC.2.1 hC.2.2.2.2 inA_X0 hC.2.2.2.1 hK hP q0 he rfl 16 (by decide) (hC.2.2.2.2 _ q109) (fun _ h => h) hv hdg kk
theorem pf_X0_69 (hC : CallFix p m c cc nL s args lw_all RX0) (hK : va_K D vwCl tys s) (hP : va_P D vwCl ws H) (hD : va_D A ws) (hS : va_S A H0 H locs) (q0 : Nat) {x : Int32} (he : ws[q0]? = some (a, .inr (0, fs))) (hl : 16 < fs.length) {ws1 : va_W} (hw : ws.set q0 (a, .inr (0, fs.set 16 (.int x))) = ws1) (hdg : decode cc pc = .ok (.putfield 69, 3))
    (kk : ∀ (H1 : Heap) (locs1 : List Loc), va_P D vwCl ws1 H1 → va_D A ws1 → va_S A H0 H1 locs1 → W p l e R s m args below meth c H1 locs1 cells slots Q (F0 m (pc + 3) ls rest)) : W p l e R s m args below meth c H locs cells slots Q (F0 m pc ls (.int x :: .ref a :: rest)) := by
  subst hw
  exact va_put hC.1 hC.2.1 hC.2.2.2.2 inA_X0 tyX0 tyX0_ok nmX0 hC.2.2.2.1 hK hP hD hS q0 he rfl 16 (by decide) (hC.2.2.2.2 _ q109) (fun _ h => h) rfl (ty := .int) (by decide +kernel) rfl rfl hl hdg kk
theorem gf_X7_102 (hC : CallFix p m c cc nL s args lw_all RX7) (hK : va_K D vwCl tys s) (hP : va_P D vwCl ws H) (q0 : Nat) (he : ws[q0]? = some (a, .inr (0, fs))) (hv : fs[16]? = some v) (hdg : decode cc pc = .ok (.getfield 102, 3))
    (kk : W p l e R s m args below meth c H locs cells slots Q (F0 m (pc + 3) ls (v :: rest))) : W p l e R s m args below meth c H locs cells slots Q (F0 m pc ls (.ref a :: rest)) :=
  va_get hC.1 hC.2.1 hC.2.2.2.2 inA_X0 hC.2.2.2.1 hK hP q0 he rfl 16 (by decide) (hC.2.2.2.2 _ q110) (fun _ h => h) hv hdg kk
theorem pf_X7_102 (hC : CallFix p m c cc nL s args lw_all RX7) (hK : va_K D vwCl tys s) (hP : va_P D vwCl ws H) (hD : va_D A ws) (hS : va_S A H0 H locs) (q0 : Nat) {x : Int32} (he : ws[q0]? = some (a, .inr (0, fs))) (hl : 16 < fs.length) {ws1 : va_W} (hw : ws.set q0 (a, .inr (0, fs.set 16 (.int x))) = ws1) (hdg : decode cc pc = .ok (.putfield 102, 3))
    (kk : ∀ (H1 : Heap) (locs1 : List Loc), va_P D vwCl ws1 H1 → va_D A ws1 → va_S A H0 H1 locs1 → W p l e R s m args below meth c H1 locs1 cells slots Q (F0 m (pc + 3) ls rest)) : W p l e R s m args below meth c H locs cells slots Q (F0 m pc ls (.int x :: .ref a :: rest)) := by
  subst hw
  exact va_put hC.1 hC.2.1 hC.2.2.2.2 inA_X0 tyX0 tyX0_ok nmX0 hC.2.2.2.1 hK hP hD hS q0 he rfl 16 (by decide) (hC.2.2.2.2 _ q110) (fun _ h => h) rfl (ty := .int) (by decide +kernel) rfl rfl hl hdg kk
theorem gf_X0_72 (hC : CallFix p m c cc nL s args lw_all RX0) (hK : va_K D vwCl tys s) (hP : va_P D vwCl ws H) (q0 : Nat) (he : ws[q0]? = some (a, .inr (0, fs))) (hv : fs[17]? = some v) (hdg : decode cc pc = .ok (.getfield 72, 3))
    (kk : W p l e R s m args below meth c H locs cells slots Q (F0 m (pc + 3) ls (v :: rest))) : W p l e R s m args below meth c H locs cells slots Q (F0 m pc ls (.ref a :: rest)) :=
  va_get hC.1 hC.2.1 hC.2.2.2.2 inA_X0 hC.2.2.2.1 hK hP q0 he rfl 17 (by decide) (hC.2.2.2.2 _ q111) (fun _ h => h) hv hdg kk
theorem pf_X0_72 (hC : CallFix p m c cc nL s args lw_all RX0) (hK : va_K D vwCl tys s) (hP : va_P D vwCl ws H) (hD : va_D A ws) (hS : va_S A H0 H locs) (q0 : Nat) {x : Int32} (he : ws[q0]? = some (a, .inr (0, fs))) (hl : 17 < fs.length) {ws1 : va_W} (hw : ws.set q0 (a, .inr (0, fs.set 17 (.int x))) = ws1) (hdg : decode cc pc = .ok (.putfield 72, 3))
    (kk : ∀ (H1 : Heap) (locs1 : List Loc), va_P D vwCl ws1 H1 → va_D A ws1 → va_S A H0 H1 locs1 → W p l e R s m args below meth c H1 locs1 cells slots Q (F0 m (pc + 3) ls rest)) : W p l e R s m args below meth c H locs cells slots Q (F0 m pc ls (.int x :: .ref a :: rest)) := by
  subst hw
  exact va_put hC.1 hC.2.1 hC.2.2.2.2 inA_X0 tyX0 tyX0_ok nmX0 hC.2.2.2.1 hK hP hD hS q0 he rfl 17 (by decide) (hC.2.2.2.2 _ q111) (fun _ h => h) rfl (ty := .int) (by decide +kernel) rfl rfl hl hdg kk
theorem gf_X2_11 (hC : CallFix p m c cc nL s args lw_all RX2) (hK : va_K D vwCl tys s) (hP : va_P D vwCl ws H) (q0 : Nat) (he : ws[q0]? = some (a, .inr (2, fs))) (hv : fs[0]? = some v) (hdg : decode cc pc = .ok (.getfield 11, 3))
    (kk : W p l e R s m args below meth c H locs cells slots Q (F0 m (pc + 3) ls (v :: rest))) : W p l e R s m args below meth c H locs cells slots Q (F0 m pc ls (.ref a :: rest)) :=
  va_get hC.1 hC.2.1 hC.2.2.2.2 inA_X2 hC.2.2.2.1 hK hP q0 he rfl 0 (by decide) (hC.2.2.2.2 _ q158) (fun _ h => h) hv hdg kk
theorem gf_X2_17 (hC : CallFix p m c cc nL s args lw_all RX2) (hK : va_K D vwCl tys s) (hP : va_P D vwCl ws H) (q0 : Nat) (he : ws[q0]? = some (a, .inr (2, fs))) (hv : fs[1]? = some v) (hdg : decode cc pc = .ok (.getfield 17, 3))
    (kk : W p l e R s m args below meth c H locs cells slots Q (F0 m (pc + 3) ls (v :: rest))) : W p l e R s m args below meth c H locs cells slots Q (F0 m pc ls (.ref a :: rest)) :=
  va_get hC.1 hC.2.1 hC.2.2.2.2 inA_X2 hC.2.2.2.1 hK hP q0 he rfl 1 (by decide) (hC.2.2.2.2 _ q159) (fun _ h => h) hv hdg kk
theorem pf_X2_17 (hC : CallFix p m c cc nL s args lw_all RX2) (hK : va_K D vwCl tys s) (hP : va_P D vwCl ws H) (hD : va_D A ws) (hS : va_S A H0 H locs) (q0 : Nat) {x : Int32} (he : ws[q0]? = some (a, .inr (2, fs))) (hl : 1 < fs.length) {ws1 : va_W} (hw : ws.set q0 (a, .inr (2, fs.set 1 (.int x))) = ws1) (hdg : decode cc pc = .ok (.putfield 17, 3))
    (kk : ∀ (H1 : Heap) (locs1 : List Loc), va_P D vwCl ws1 H1 → va_D A ws1 → va_S A H0 H1 locs1 → W p l e R s m args below meth c H1 locs1 cells slots Q (F0 m (pc + 3) ls rest)) : W p l e R s m args below meth c H locs cells slots Q (F0 m pc ls (.int x :: .ref a :: rest)) := by
  subst hw
  exact va_put hC.1 hC.2.1 hC.2.2.2.2 inA_X2 tyX2 tyX2_ok nmX2 hC.2.2.2.1 hK hP hD hS q0 he rfl 1 (by decide) (hC.2.2.2.2 _ q159) (fun _ h => h) rfl (ty := .int) (by decide +kernel) rfl rfl hl hdg kk
theorem gf_X2_21 (hC : CallFix p m c cc nL s args lw_all RX2) (hK : va_K D vwCl tys s) (hP : va_P D vwCl ws H) (q0 : Nat) (he : ws[q0]? = some (a, .inr (2, fs))) (hv : fs[2]? = some v) (hdg : decode cc pc = .ok (.getfield 21, 3))
    (kk : W p l e R s m args below meth c H locs cells slots Q (F0 m (pc + 3) ls (v :: rest))) : W p l e R s m args below meth c H locs cells slots Q (F0 m pc ls (.ref a :: rest)) :=
  va_get hC.1 hC.2.1 hC.2.2.2.2 inA_X2 hC.2.2.2.1 hK hP q0 he rfl 2 (by decide) (hC.2.2.2.2 _ q160) (fun _ h => h) hv hdg kk
theorem pf_X2_21 (hC : CallFix p m c cc nL s args lw_all RX2) (hK : va_K D vwCl tys s) (hP : va_P D vwCl ws H) (hD : va_D A ws) (hS : va_S A H0 H locs) (q0 : Nat) {x : Int32} (he : ws[q0]? = some (a, .inr (2, fs))) (hl : 2 < fs.length) {ws1 : va_W} (hw : ws.set q0 (a, .inr (2, fs.set 2 (.int x))) = ws1) (hdg : decode cc pc = .ok (.putfield 21, 3))
    (kk : ∀ (H1 : Heap) (locs1 : List Loc), va_P D vwCl ws1 H1 → va_D A ws1 → va_S A H0 H1 locs1 → W p l e R s m args below meth c H1 locs1 cells slots Q (F0 m (pc + 3) ls rest)) : W p l e R s m args below meth c H locs cells slots Q (F0 m pc ls (.int x :: .ref a :: rest)) := by
  subst hw
  exact va_put hC.1 hC.2.1 hC.2.2.2.2 inA_X2 tyX2 tyX2_ok nmX2 hC.2.2.2.1 hK hP hD hS q0 he rfl 2 (by decide) (hC.2.2.2.2 _ q160) (fun _ h => h) rfl (ty := .int) (by decide +kernel) rfl rfl hl hdg kk
theorem gf_X3_9 (hC : CallFix p m c cc nL s args lw_all RX3) (hK : va_K D vwCl tys s) (hP : va_P D vwCl ws H) (q0 : Nat) (he : ws[q0]? = some (a, .inr (3, fs))) (hv : fs[0]? = some v) (hdg : decode cc pc = .ok (.getfield 9, 3))
    (kk : W p l e R s m args below meth c H locs cells slots Q (F0 m (pc + 3) ls (v :: rest))) : W p l e R s m args below meth c H locs cells slots Q (F0 m pc ls (.ref a :: rest)) :=
  va_get hC.1 hC.2.1 hC.2.2.2.2 inA_X3 hC.2.2.2.1 hK hP q0 he rfl 0 (by decide) (hC.2.2.2.2 _ q174) (fun _ h => h) hv hdg kk
theorem gf_X7_161 (hC : CallFix p m c cc nL s args lw_all RX7) (hK : va_K D vwCl tys s) (hP : va_P D vwCl ws H) (q0 : Nat) (he : ws[q0]? = some (a, .inr (3, fs))) (hv : fs[0]? = some v) (hdg : decode cc pc = .ok (.getfield 161, 3))
    (kk : W p l e R s m args below meth c H locs cells slots Q (F0 m (pc + 3) ls (v :: rest))) : W p l e R s m args below meth c H locs cells slots Q (F0 m pc ls (.ref a :: rest)) :=
  va_get hC.1 hC.2.1 hC.2.2.2.2 inA_X3 hC.2.2.2.1 hK hP q0 he rfl 0 (by decide) (hC.2.2.2.2 _ q175) (fun _ h => h) hv hdg kk
theorem gf_X3_15 (hC : CallFix p m c cc nL s args lw_all RX3) (hK : va_K D vwCl tys s) (hP : va_P D vwCl ws H) (q0 : Nat) (he : ws[q0]? = some (a, .inr (3, fs))) (hv : fs[1]? = some v) (hdg : decode cc pc = .ok (.getfield 15, 3))
    (kk : W p l e R s m args below meth c H locs cells slots Q (F0 m (pc + 3) ls (v :: rest))) : W p l e R s m args below meth c H locs cells slots Q (F0 m pc ls (.ref a :: rest)) :=
  va_get hC.1 hC.2.1 hC.2.2.2.2 inA_X3 hC.2.2.2.1 hK hP q0 he rfl 1 (by decide) (hC.2.2.2.2 _ q176) (fun _ h => h) hv hdg kk
theorem gf_X4_9 (hC : CallFix p m c cc nL s args lw_all RX4) (hK : va_K D vwCl tys s) (hP : va_P D vwCl ws H) (q0 : Nat) (he : ws[q0]? = some (a, .inr (4, fs))) (hv : fs[0]? = some v) (hdg : decode cc pc = .ok (.getfield 9, 3))
    (kk : W p l e R s m args below meth c H locs cells slots Q (F0 m (pc + 3) ls (v :: rest))) : W p l e R s m args below meth c H locs cells slots Q (F0 m pc ls (.ref a :: rest)) :=
  va_get hC.1 hC.2.1 hC.2.2.2.2 inA_X4 hC.2.2.2.1 hK hP q0 he rfl 0 (by decide) (hC.2.2.2.2 _ q188) (fun _ h => h) hv hdg kk
theorem gf_X1_47 (hC : CallFix p m c cc nL s args lw_all RX1) (hK : va_K D vwCl tys s) (hP : va_P D vwCl ws H) (q0 : Nat) (he : ws[q0]? = some (a, .inr (4, fs))) (hv : fs[0]? = some v) (hdg : decode cc pc = .ok (.getfield 47, 3))
    (kk : W p l e R s m args below meth c H locs cells slots Q (F0 m (pc + 3) ls (v :: rest))) : W p l e R s m args below meth c H locs cells slots Q (F0 m pc ls (.ref a :: rest)) :=
  va_get hC.1 hC.2.1 hC.2.2.2.2 inA_X4 hC.2.2.2.1 hK hP q0 he rfl 0 (by decide) (hC.2.2.2.2 _ q189) (fun _ h => h) hv hdg kk
theorem gf_X4_15 (hC : CallFix p m c cc nL s args lw_all RX4) (hK : va_K D vwCl tys s) (hP : va_P D vwCl ws H) (q0 : Nat) (he : ws[q0]? = some (a, .inr (4, fs))) (hv : fs[1]? = some v) (hdg : decode cc pc = .ok (.getfield 15, 3))
    (kk : W p l e R s m args below meth c H locs cells slots Q (F0 m (pc + 3) ls (v :: rest))) : W p l e R s m args below meth c H locs cells slots Q (F0 m pc ls (.ref a :: rest)) :=
  va_get hC.1 hC.2.1 hC.2.2.2.2 inA_X4 hC.2.2.2.1 hK hP q0 he rfl 1 (by decide) (hC.2.2.2.2 _ q190) (fun _ h => h) hv hdg kk
theorem gf_X1_78 (hC : CallFix p m c cc nL s args lw_all RX1) (hK : va_K D vwCl tys s) (hP : va_P D vwCl ws H) (q0 : Nat) (he : ws[q0]? = some (a, .inr (4, fs))) (hv : fs[1]? = some v) (hdg : decode cc pc = .ok (.getfield 78, 3))
    (kk : W p l e R s m args below meth c H locs cells slots Q (F0 m (pc + 3) ls (v :: rest))) : W p l e R s m args below meth c H locs cells slots Q (F0 m pc ls (.ref a :: rest)) :=
  va_get hC.1 hC.2.1 hC.2.2.2.2 inA_X4 hC.2.2.2.1 hK hP q0 he rfl 1 (by decide) (hC.2.2.2.2 _ q191) (fun _ h => h) hv hdg kk
theorem gf_X4_18 (hC : CallFix p m c cc nL s args lw_all RX4) (hK : va_K D vwCl tys s) (hP : va_P D vwCl ws H) (q0 : Nat) (he : ws[q0]? = some (a, .inr (4, fs))) (hv : fs[2]? = some v) (hdg : decode cc pc = .ok (.getfield 18, 3))
    (kk : W p l e R s m args below meth c H locs cells slots Q (F0 m (pc + 3) ls (v :: rest))) : W p l e R s m args below meth c H locs cells slots Q (F0 m pc ls (.ref a :: rest)) :=
  va_get hC.1 hC.2.1 hC.2.2.2.2 inA_X4 hC.2.2.2.1 hK hP q0 he rfl 2 (by decide) (hC.2.2.2.2 _ q192) (fun _ h => h) hv hdg kk
theorem gf_X1_107 (hC : CallFix p m c cc nL s args lw_all RX1) (hK : va_K D vwCl tys s) (hP : va_P D vwCl ws H) (q0 : Nat) (he : ws[q0]? = some (a, .inr (4, fs))) (hv : fs[2]? = some v) (hdg : decode cc pc = .ok (.getfield 107, 3))
    (kk : W p l e R s m args below meth c H locs cells slots Q (F0 m (pc + 3) ls (v :: rest))) : W p l e R s m args below meth c H locs cells slots Q (F0 m pc ls (.ref a :: rest)) :=
  va_get hC.1 hC.2.1 hC.2.2.2.2 inA_X4 hC.2.2.2.1 hK hP q0 he rfl 2 (by decide) (hC.2.2.2.2 _ q193) (fun _ h => h) hv hdg kk
theorem gf_X1_31 (hC : CallFix p m c cc nL s args lw_all RX1) (hK : va_K D vwCl tys s) (hP : va_P D vwCl ws H) (q0 : Nat) (he : ws[q0]? = some (a, .inr (1, fs))) (hv : fs[0]? = some v) (hdg : decode cc pc = .ok (.getfield 31, 3))
    (kk : W p l e R s m args below meth c H locs cells slots Q (F0 m (pc + 3) ls (v :: rest))) : W p l e R s m args below meth c H locs cells slots Q (F0 m pc ls (.ref a :: rest)) :=
  va_get hC.1 hC.2.1 hC.2.2.2.2 inA_X1 hC.2.2.2.1 hK hP q0 he rfl 0 (by decide) (hC.2.2.2.2 _ q213) (fun _ h => h) hv hdg kk
theorem gf_X1_35 (hC : CallFix p m c cc nL s args lw_all RX1) (hK : va_K D vwCl tys s) (hP : va_P D vwCl ws H) (q0 : Nat) (he : ws[q0]? = some (a, .inr (1, fs))) (hv : fs[1]? = some v) (hdg : decode cc pc = .ok (.getfield 35, 3))
    (kk : W p l e R s m args below meth c H locs cells slots Q (F0 m (pc + 3) ls (v :: rest))) : W p l e R s m args below meth c H locs cells slots Q (F0 m pc ls (.ref a :: rest)) :=
  va_get hC.1 hC.2.1 hC.2.2.2.2 inA_X1 hC.2.2.2.1 hK hP q0 he rfl 1 (by decide) (hC.2.2.2.2 _ q214) (fun _ h => h) hv hdg kk
theorem gf_X1_9 (hC : CallFix p m c cc nL s args lw_all RX1) (hK : va_K D vwCl tys s) (hP : va_P D vwCl ws H) (q0 : Nat) (he : ws[q0]? = some (a, .inr (1, fs))) (hv : fs[2]? = some v) (hdg : decode cc pc = .ok (.getfield 9, 3))
    (kk : W p l e R s m args below meth c H locs cells slots Q (F0 m (pc + 3) ls (v :: rest))) : W p l e R s m args below meth c H locs cells slots Q (F0 m pc ls (.ref a :: rest)) :=
  va_get hC.1 hC.2.1 hC.2.2.2.2 inA_X1 hC.2.2.2.1 hK hP q0 he rfl 2 (by decide) (hC.2.2.2.2 _ q215) (fun _ h => h) hv hdg kk
theorem gf_X5_124 (hC : CallFix p m c cc nL s args lw_all RX5) (hK : va_K D vwCl tys s) (hP : va_P D vwCl ws H) (q0 : Nat) (he : ws[q0]? = some (a, .inr (1, fs))) (hv : fs[2]? = some v) (hdg : decode cc pc = .ok (.getfield 124, 3))
    (kk : W p l e R s m args below meth c H locs cells slots Q (F0 m (pc + 3) ls (v :: rest))) : W p l e R s m args below meth c H locs cells slots Q (F0 m pc ls (.ref a :: rest)) :=
  va_get hC.1 hC.2.1 hC.2.2.2.2 inA_X1 hC.2.2.2.1 hK hP q0 he rfl 2 (by decide) (hC.2.2.2.2 _ q216) (fun _ h => h) hv hdg kk
theorem gf_X1_15 (hC : CallFix p m c cc nL s args lw_all RX1) (hK : va_K D vwCl tys s) (hP : va_P D vwCl ws H) (q0 : Nat) (he : ws[q0]? = some (a, .inr (1, fs))) (hv : fs[3]? = some v) (hdg : decode cc pc = .ok (.getfield 15, 3))
    (kk : W p l e R s m args below meth c H locs cells slots Q (F0 m (pc + 3) ls (v :: rest))) : W p l e R s m args below meth c H locs cells slots Q (F0 m pc ls (.ref a :: rest)) :=
  va_get hC.1 hC.2.1 hC.2.2.2.2 inA_X1 hC.2.2.2.1 hK hP q0 he rfl 3 (by decide) (hC.2.2.2.2 _ q217) (fun _ h => h) hv hdg kk
theorem pf_X1_15 (hC : CallFix p m c cc nL s args lw_all RX1) (hK : va_K D vwCl tys s) (hP : va_P D vwCl ws H) (hD : va_D A ws) (hS : va_S A H0 H locs) (q0 : Nat) {x : Int32} (he : ws[q0]? = some (a, .inr (1, fs))) (hl : 3 < fs.length) {ws1 : va_W} (hw : ws.set q0 (a, .inr (1, fs.set 3 (.int x))) = ws1) (hdg : decode cc pc = .ok (.putfield 15, 3))
    (kk : ∀ (H1 : Heap) (locs1 : List Loc), va_P D vwCl ws1 H1 → va_D A ws1 → va_S A H0 H1 locs1 → W p l e R s m args below meth c H1 locs1 cells slots Q (F0 m (pc + 3) ls rest)) : W p l e R s m args below meth c H locs cells slots Q (F0 m pc ls (.int x :: .ref a :: rest)) := by
  subst hw
  exact va_put hC.1 hC.2.1 hC.2.2.2.2 inA_X1 tyX1 tyX1_ok nmX1 hC.2.2.2.1 hK hP hD hS q0 he rfl 3 (by decide) (hC.2.2.2.2 _ q217) (fun _ h => h) rfl (ty := .int) (by decide +kernel) rfl rfl hl hdg kk
theorem gf_X1_19 (hC : CallFix p m c cc nL s args lw_all RX1) (hK : va_K D vwCl tys s) (hP : va_P D vwCl ws H) (q0 : Nat) (he : ws[q0]? = some (a, .inr (1, fs))) (hv : fs[4]? = some v) (hdg : decode cc pc = .ok (.getfield 19, 3))
    (kk : W p l e R s m args below meth c H locs cells slots Q (F0 m (pc + 3) ls (v :: rest))) : W p l e R s m args below meth c H locs cells slots Q (F0 m pc ls (.ref a :: rest)) :=
  va_get hC.1 hC.2.1 hC.2.2.2.2 inA_X1 hC.2.2.2.1 hK hP q0 he rfl 4 (by decide) (hC.2.2.2.2 _ q218) (fun _ h => h) hv hdg kk
theorem pf_X1_19 (hC : CallFix p m c cc nL s args lw_all RX1) (hK : va_K D vwCl tys s) (hP : va_P D vwCl ws H) (hD : va_D A ws) (hS : va_S A H0 H locs) (q0 : Nat) {x : Int32} (he : ws[q0]? = some (a, .inr (1, fs))) (hl : 4 < fs.length) {ws1 : va_W} (hw : ws.set q0 (a, .inr (1, fs.set 4 (.int x))) = ws1) (hdg : decode cc pc = .ok (.putfield 19, 3))
    (kk : ∀ (H1 : Heap) (locs1 : List Loc), va_P D vwCl ws1 H1 → va_D A ws1 → va_S A H0 H1 locs1 → W p l e R s m args below meth c H1 locs1 cells slots Q (F0 m (pc + 3) ls rest)) : W p l e R s m args below meth c H locs cells slots Q (F0 m pc ls (.int x :: .ref a :: rest)) := by
  subst hw
  exact va_put hC.1 hC.2.1 hC.2.2.2.2 inA_X1 tyX1 tyX1_ok nmX1 hC.2.2.2.1 hK hP hD hS q0 he rfl 4 (by decide) (hC.2.2.2.2 _ q218) (fun _ h => h) rfl (ty := .int) (by decide +kernel) rfl rfl hl hdg kk
theorem gf_X1_22 (hC : CallFix p m c cc nL s args lw_all RX1) (hK : va_K D vwCl tys s) (hP : va_P D vwCl ws H) (q0 : Nat) (he : ws[q0]? = some (a, .inr (1, fs))) (hv : fs[5]? = some v) (hdg : decode cc pc = .ok (.getfield 22, 3))
    (kk : W p l e R s m args below meth c H locs cells slots Q (F0 m (pc + 3) ls (v :: rest))) : W p l e R s m args below meth c H locs cells slots Q (F0 m pc ls (.ref a :: rest)) :=
  va_get hC.1 hC.2.1 hC.2.2.2.2 inA_X1 hC.2.2.2.1 hK hP q0 he rfl 5 (by decide) (hC.2.2.2.2 _ q219) (fun _ h => h) hv hdg kk
theorem pf_X1_22 (hC : CallFix p m c cc nL s args lw_all RX1) (hK : va_K D vwCl tys s) (hP : va_P D vwCl ws H) (hD : va_D A ws) (hS : va_S A H0 H locs) (q0 : Nat) {x : Int32} (he : ws[q0]? = some (a, .inr (1, fs))) (hl : 5 < fs.length) {ws1 : va_W} (hw : ws.set q0 (a, .inr (1, fs.set 5 (.int x))) = ws1) (hdg : decode cc pc = .ok (.putfield 22, 3))
    (kk : ∀ (H1 : Heap) (locs1 : List Loc), va_P D vwCl ws1 H1 → va_D A ws1 → va_S A H0 H1 locs1 → W p l e R s m args below meth c H1 locs1 cells slots Q (F0 m (pc + 3) ls rest)) : W p l e R s m args below meth c H locs cells slots Q (F0 m pc ls (.int x :: .ref a :: rest)) := by
  subst hw
  exact va_put hC.1 hC.2.1 hC.2.2.2.2 inA_X1 tyX1 tyX1_ok nmX1 hC.2.2.2.1 hK hP hD hS q0 he rfl 5 (by decide) (hC.2.2.2.2 _ q219) (fun _ h => h) rfl (ty := .int) (by decide +kernel) rfl rfl hl hdg kk
theorem gf_X1_25 (hC : CallFix p m c cc nL s args lw_all RX1) (hK : va_K D vwCl tys s) (hP : va_P D vwCl ws H) (q0 : Nat) (he : ws[q0]? = some (a, .inr (1, fs))) (hv : fs[6]? = some v) (hdg : decode cc pc = .ok (.getfield 25, 3))
    (kk : W p l e R s m args below meth c H locs cells slots Q (F0 m (pc + 3) ls (v :: rest))) : W p l e R s m args below meth c H locs cells slots Q (F0 m pc ls (.ref a :: rest)) :=
  va_get hC.1 hC.2.1 hC.2.2.2.2 inA_X1 hC.2.2.2.1 hK hP q0 he rfl 6 (by decide) (hC.2.2.2.2 _ q220) (fun _ h => h) hv hdg kk
theorem pf_X1_25 (hC : CallFix p m c cc nL s args lw_all RX1) (hK : va_K D vwCl tys s) (hP : va_P D vwCl ws H) (hD : va_D A ws) (hS : va_S A H0 H locs) (q0 : Nat) {x : Int32} (he : ws[q0]? = some (a, .inr (1, fs))) (hl : 6 < fs.length) {ws1 : va_W} (hw : ws.set q0 (a, .inr (1, fs.set 6 (.int x))) = ws1) (hdg : decode cc pc = .ok (.putfield 25, 3))
    (kk : ∀ (H1 : Heap) (locs1 : List Loc), va_P D vwCl ws1 H1 → va_D A ws1 → va_S A H0 H1 locs1 → W p l e R s m args below meth c H1 locs1 cells slots Q (F0 m (pc + 3) ls rest)) : W p l e R s m args below meth c H locs cells slots Q (F0 m pc ls (.int x :: .ref a :: rest)) := by
  subst hw
  exact va_put hC.1 hC.2.1 hC.2.2.2.2 inA_X1 tyX1 tyX1_ok nmX1 hC.2.2.2.1 hK hP hD hS q0 he rfl 6 (by decide) (hC.2.2.2.2 _ q220) (fun _ h => h) rfl (ty := .int) (by decide +kernel) rfl rfl hl hdg kk
theorem gf_X7_222 (hC : CallFix p m c cc nL s args lw_all RX7) (hK : va_K D vwCl tys s) (hP : va_P D vwCl ws H) (q0 : Nat) (he : ws[q0]? = some (a, .inr (1, fs))) (hv : fs[6]? = some v) (hdg : decode cc pc = .ok (.getfield 222, 3))
    (kk : W p l e R s m args below meth c H locs cells slots Q (F0 m (pc + 3) ls (v :: rest))) : W p l e R s m args below meth c H locs cells slots Q (F0 m pc ls (.ref a :: rest)) :=
  va_get hC.1 hC.2.1 hC.2.2.2.2 inA_X1 hC.2.2.2.1 hK hP q0 he rfl 6 (by decide) (hC.2.2.2.2 _ q221) (fun _ h => h) hv hdg kk
theorem pf_X7_222 (hC : CallFix p m c cc nL s args lw_all RX7) (hK : va_K D vwCl tys s) (hP : va_P D vwCl ws H) (hD : va_D A ws) (hS : va_S A H0 H locs) (q0 : Nat) {x : Int32} (he : ws[q0]? = some (a, .inr (1, fs))) (hl : 6 < fs.length) {ws1 : va_W} (hw : ws.set q0 (a, .inr (1, fs.set 6 (.int x))) = ws1) (hdg : decode cc pc = .ok (.putfield 222, 3))
    (kk : ∀ (H1 : Heap) (locs1 : List Loc), va_P D vwCl ws1 H1 → va_D A ws1 → va_S A H0 H1 locs1 → W p l e R s m args below meth c H1 locs1 cells slots Q (F0 m (pc + 3) ls rest)) : W p l e R s m args below meth c H locs cells slots Q (F0 m pc ls (.int x :: .ref a :: rest)) := by
  subst hw
  exact va_put hC.1 hC.2.1 hC.2.2.2.2 inA_X1 tyX1 tyX1_ok nmX1 hC.2.2.2.1 hK hP hD hS q0 he rfl 6 (by decide) (hC.2.2.2.2 _ q221) (fun _ h => h) rfl (ty := .int) (by decide +kernel) rfl rfl hl hdg kk
theorem gf_X1_28 (hC : CallFix p m c cc nL s args lw_all RX1) (hK : va_K D vwCl tys s) (hP : va_P D vwCl ws H) (q0 : Nat) (he : ws[q0]? = some (a, .inr (1, fs))) (hv : fs[7]? = some v) (hdg : decode cc pc = .ok (.getfield 28, 3))
    (kk : W p l e R s m args below meth c H locs cells slots Q (F0 m (pc + 3) ls (v :: rest))) : W p l e R s m args below meth c H locs cells slots Q (F0 m pc ls (.ref a :: rest)) :=
  va_get hC.1 hC.2.1 hC.2.2.2.2 inA_X1 hC.2.2.2.1 hK hP q0 he rfl 7 (by decide) (hC.2.2.2.2 _ q222) (fun _ h => h) hv hdg kk
theorem pf_X1_28 (hC : CallFix p m c cc nL s args lw_all RX1) (hK : va_K D vwCl tys s) (hP : va_P D vwCl ws H) (hD : va_D A ws) (hS : va_S A H0 H locs) (q0 : Nat) {x : Int32} (he : ws[q0]? = some (a, .inr (1, fs))) (hl : 7 < fs.length) {ws1 : va_W} (hw : ws.set q0 (a, .inr (1, fs.set 7 (.int x))) = ws1) (hdg : decode cc pc = .ok (.putfield 28, 3))
    (kk : ∀ (H1 : Heap) (locs1 : List Loc), va_P D vwCl ws1 H1 → va_D A ws1 → va_S A H0 H1 locs1 → W p l e R s m args below meth c H1 locs1 cells slots Q (F0 m (pc + 3) ls rest)) : W p l e R s m args below meth c H locs cells slots Q (F0 m pc ls (.int x :: .ref a :: rest)) := by
  subst hw
  exact va_put hC.1 hC.2.1 hC.2.2.2.2 inA_X1 tyX1 tyX1_ok nmX1 hC.2.2.2.1 hK hP hD hS q0 he rfl 7 (by decide) (hC.2.2.2.2 _ q222) (fun _ h => h) rfl (ty := .int) (by decide +kernel) rfl rfl hl hdg kk
theorem gf_X7_253 (hC : CallFix p m c cc nL s args lw_all RX7) (hK : va_K D vwCl tys s) (hP : va_P D vwCl ws H) (q0 : Nat) (he : ws[q0]? = some (a, .inr (1, fs))) (hv : fs[7]? = some v) (hdg : decode cc pc = .ok (.getfield 253, 3))
    (kk : W p l e R s m args below meth c H locs cells slots Q (F0 m (pc + 3) ls (v :: rest))) : W p l e R s m args below meth c H locs cells slots Q (F0 m pc ls (.ref a :: rest)) :=
  va_get hC.1 hC.2.1 hC.2.2.2.2 inA_X1 hC.2.2.2.1 hK hP q0 he rfl 7 (by decide) (hC.2.2.2.2 _ q223) (fun _ h => h) hv hdg kk
theorem pf_X7_253 (hC : CallFix p m c cc nL s args lw_all RX7) (hK : va_K D vwCl tys s) (hP : va_P D vwCl ws H) (hD : va_D A ws) (hS : va_S A H0 H locs) (q0 : Nat) {x : Int32} (he : ws[q0]? = some (a, .inr (1, fs))) (hl : 7 < fs.length) {ws1 : va_W} (hw : ws.set q0 (a, .inr (1, fs.set 7 (.int x))) = ws1) (hdg : decode cc pc = .ok (.putfield 253, 3))
    (kk : ∀ (H1 : Heap) (locs1 : List Loc), va_P D vwCl ws1 H1 → va_D A ws1 → va_S A H0 H1 locs1 → W p l e R s m args below meth c H1 locs1 cells slots Q (F0 m (pc + 3) ls rest)) : W p l e R s m args below meth c H locs cells slots Q (F0 m pc ls (.int x :: .ref a :: rest)) := by
  subst hw
  exact va_put hC.1 hC.2.1 hC.2.2.2.2 inA_X1 tyX1 tyX1_ok nmX1 hC.2.2.2.1 hK hP hD hS q0 he rfl 7 (by decide) (hC.2.2.2.2 _ q223) (fun _ h => h) rfl (ty := .int) (by decide +kernel) rfl rfl hl hdg kk
theorem gf_X5_9 (hC : CallFix p m c cc nL s args lw_all RX5) (hK : va_K D vwCl tys s) (hP : va_P D vwCl ws H) (q0 : Nat) (he : ws[q0]? = some (a, .inr (5, fs))) (hv : fs[0]? = some v) (hdg : decode cc pc = .ok (.getfield 9, 3))
    (kk : W p l e R s m args below meth c H locs cells slots Q (F0 m (pc + 3) ls (v :: rest))) : W p l e R s m args below meth c H locs cells slots Q (F0 m pc ls (.ref a :: rest)) :=
  va_get hC.1 hC.2.1 hC.2.2.2.2 inA_X5 hC.2.2.2.1 hK hP q0 he rfl 0 (by decide) (hC.2.2.2.2 _ q242) (fun _ h => h) hv hdg kk
theorem gf_X1_84 (hC : CallFix p m c cc nL s args lw_all RX1) (hK : va_K D vwCl tys s) (hP : va_P D vwCl ws H) (q0 : Nat) (he : ws[q0]? = some (a, .inr (5, fs))) (hv : fs[0]? = some v) (hdg : decode cc pc = .ok (.getfield 84, 3))
    (kk : W p l e R s m args below meth c H locs cells slots Q (F0 m (pc + 3) ls (v :: rest))) : W p l e R s m args below meth c H locs cells slots Q (F0 m pc ls (.ref a :: rest)) :=
  va_get hC.1 hC.2.1 hC.2.2.2.2 inA_X5 hC.2.2.2.1 hK hP q0 he rfl 0 (by decide) (hC.2.2.2.2 _ q243) (fun _ h => h) hv hdg kk
theorem gf_X5_15 (hC : CallFix p m c cc nL s args lw_all RX5) (hK : va_K D vwCl tys s) (hP : va_P D vwCl ws H) (q0 : Nat) (he : ws[q0]? = some (a, .inr (5, fs))) (hv : fs[1]? = some v) (hdg : decode cc pc = .ok (.getfield 15, 3))
    (kk : W p l e R s m args below meth c H locs cells slots Q (F0 m (pc + 3) ls (v :: rest))) : W p l e R s m args below meth c H locs cells slots Q (F0 m pc ls (.ref a :: rest)) :=
  va_get hC.1 hC.2.1 hC.2.2.2.2 inA_X5 hC.2.2.2.1 hK hP q0 he rfl 1 (by decide) (hC.2.2.2.2 _ q244) (fun _ h => h) hv hdg kk
theorem gf_X5_19 (hC : CallFix p m c cc nL s args lw_all RX5) (hK : va_K D vwCl tys s) (hP : va_P D vwCl ws H) (q0 : Nat) (he : ws[q0]? = some (a, .inr (5, fs))) (hv : fs[2]? = some v) (hdg : decode cc pc = .ok (.getfield 19, 3))
    (kk : W p l e R s m args below meth c H locs cells slots Q (F0 m (pc + 3) ls (v :: rest))) : W p l e R s m args below meth c H locs cells slots Q (F0 m pc ls (.ref a :: rest)) :=
  va_get hC.1 hC.2.1 hC.2.2.2.2 inA_X5 hC.2.2.2.1 hK hP q0 he rfl 2 (by decide) (hC.2.2.2.2 _ q245) (fun _ h => h) hv hdg kk
theorem gf_X5_41 (hC : CallFix p m c cc nL s args lw_all RX5) (hK : va_K D vwCl tys s) (hP : va_P D vwCl ws H) (q0 : Nat) (he : ws[q0]? = some (a, .inr (5, fs))) (hv : fs[3]? = some v) (hdg : decode cc pc = .ok (.getfield 41, 3))
    (kk : W p l e R s m args below meth c H locs cells slots Q (F0 m (pc + 3) ls (v :: rest))) : W p l e R s m args below meth c H locs cells slots Q (F0 m pc ls (.ref a :: rest)) :=
  va_get hC.1 hC.2.1 hC.2.2.2.2 inA_X5 hC.2.2.2.1 hK hP q0 he rfl 3 (by decide) (hC.2.2.2.2 _ q246) (fun _ h => h) hv hdg kk
theorem gf_X5_45 (hC : CallFix p m c cc nL s args lw_all RX5) (hK : va_K D vwCl tys s) (hP : va_P D vwCl ws H) (q0 : Nat) (he : ws[q0]? = some (a, .inr (5, fs))) (hv : fs[4]? = some v) (hdg : decode cc pc = .ok (.getfield 45, 3))
    (kk : W p l e R s m args below meth c H locs cells slots Q (F0 m (pc + 3) ls (v :: rest))) : W p l e R s m args below meth c H locs cells slots Q (F0 m pc ls (.ref a :: rest)) :=
  va_get hC.1 hC.2.1 hC.2.2.2.2 inA_X5 hC.2.2.2.1 hK hP q0 he rfl 4 (by decide) (hC.2.2.2.2 _ q247) (fun _ h => h) hv hdg kk
theorem gf_X5_22 (hC : CallFix p m c cc nL s args lw_all RX5) (hK : va_K D vwCl tys s) (hP : va_P D vwCl ws H) (q0 : Nat) (he : ws[q0]? = some (a, .inr (5, fs))) (hv : fs[5]? = some v) (hdg : decode cc pc = .ok (.getfield 22, 3))
    (kk : W p l e R s m args below meth c H locs cells slots Q (F0 m (pc + 3) ls (v :: rest))) : W p l e R s m args below meth c H locs cells slots Q (F0 m pc ls (.ref a :: rest)) :=
  va_get hC.1 hC.2.1 hC.2.2.2.2 inA_X5 hC.2.2.2.1 hK hP q0 he rfl 5 (by decide) (hC.2.2.2.2 _ q248) (fun _ h => h) hv hdg kk
theorem pf_X5_22 (hC : CallFix p m c cc nL s args lw_all RX5) (hK : va_K D vwCl tys s) (hP : va_P D vwCl ws H) (hD : va_D A ws) (hS : va_S A H0 H locs) (q0 : Nat) {x : Int32} (he : ws[q0]? = some (a, .inr (5, fs))) (hl : 5 < fs.length) {ws1 : va_W} (hw : ws.set q0 (a, .inr (5, fs.set 5 (.int x))) = ws1) (hdg : decode cc pc = .ok (.putfield 22, 3))
    (kk : ∀ (H1 : Heap) (locs1 : List Loc), va_P D vwCl ws1 H1 → va_D A ws1 → va_S A H0 H1 locs1 → W p l e R s m args below meth c H1 locs1 cells slots Q (F0 m (pc + 3) ls rest)) : W p l e R s m args below meth c H locs cells slots Q (F0 m pc ls (.int x :: .ref a :: rest)) := by
  subst hw
  exact va_put hC.1 hC.2.1 hC.2.2.2.2 inA_X5 tyX5 tyX5_ok nmX5 hC.2.2.2.1 hK hP hD hS q0 he rfl 5 (by decide) (hC.2.2.2.2 _ q248) (fun _ h => h) rfl (ty := .int) (by decide +kernel) rfl rfl hl hdg kk
theorem gf_X1_81 (hC : CallFix p m c cc nL s args lw_all RX1) (hK : va_K D vwCl tys s) (hP : va_P D vwCl ws H) (q0 : Nat) (he : ws[q0]? = some (a, .inr (5, fs))) (hv : fs[5]? = some v) (hdg : decode cc pc = .ok (.getfield 81, 3))
    (kk : W p l e R s m args below meth c H locs cells slots Q (F0 m (pc + 3) ls (v :: rest))) : W p l e R s m args below meth c H locs cells slots Q (F0 m pc ls (.ref a :: rest)) :=
  va_get hC.1 hC.2.1 hC.2.2.2.2 inA_X5 hC.2.2.2.1 hK hP q0 he rfl 5 (by decide) (hC.2.2.2.2 _ q249) (fun _ h => h) hv hdg kk
theorem pf_X1_81 (hC : CallFix p m c cc nL s args lw_all RX1) (hK : va_K D vwCl tys s) (hP : va_P D vwCl ws H) (hD : va_D A ws) (hS : va_S A H0 H locs) (q0 : Nat) {x : Int32} (he : ws[q0]? = some (a, .inr (5, fs))) (hl : 5 < fs.length) {ws1 : va_W} (hw : ws.set q0 (a, .inr (5, fs.set 5 (.int x))) = ws1) (hdg : decode cc pc = .ok (.putfield 81, 3))
    (kk : ∀ (H1 : Heap) (locs1 : List Loc), va_P D vwCl ws1 H1 → va_D A ws1 → va_S A H0 H1 locs1 → W p l e R s m args below meth c H1 locs1 cells slots Q (F0 m (pc + 3) ls rest)) : W p l e R s m args below meth c H locs cells slots Q (F0 m pc ls (.int x :: .ref a :: rest)) := by
  subst hw
  exact va_put hC.1 hC.2.1 hC.2.2.2.2 inA_X5 tyX5 tyX5_ok nmX5 hC.2.2.2.1 hK hP hD hS q0 he rfl 5 (by decide) (hC.2.2.2.2 _ q249) (fun _ h => h) rfl (ty := .int) (by decide +kernel) rfl rfl hl hdg kk
theorem gf_X7_176 (hC : CallFix p m c cc nL s args lw_all RX7) (hK : va_K D vwCl tys s) (hP : va_P D vwCl ws H) (q0 : Nat) (he : ws[q0]? = some (a, .inr (5, fs))) (hv : fs[5]? = some v) (hdg : decode cc pc = .ok (.getfield 176, 3))
    (kk : W p l e R s m args below meth c H locs cells slots Q (F0 m (pc + 3) ls (v :: rest))) : W p l e R s m args below meth c H locs cells slots Q (F0 m pc ls (.ref a :: rest)) :=
  va_get hC.1 hC.2.1 hC.2.2.2.2 inA_X5 hC.2.2.2.1 hK hP q0 he rfl 5 (by decide) (hC.2.2.2.2 _ q250) (fun _ h => h) hv hdg kk
theorem pf_X7_176 (hC : CallFix p m c cc nL s args lw_all RX7) (hK : va_K D vwCl tys s) (hP : va_P D vwCl ws H) (hD : va_D A ws) (hS : va_S A H0 H locs) (q0 : Nat) {x : Int32} (he : ws[q0]? = some (a, .inr (5, fs))) (hl : 5 < fs.length) {ws1 : va_W} (hw : ws.set q0 (a, .inr (5, fs.set 5 (.int x))) = ws1) (hdg : decode cc pc = .ok (.putfield 176, 3))
    (kk : ∀ (H1 : Heap) (locs1 : List Loc), va_P D vwCl ws1 H1 → va_D A ws1 → va_S A H0 H1 locs1 → W p l e R s m args below meth c H1 locs1 cells slots Q (F0 m (pc + 3) ls rest)) : W p l e R s m args below meth c H locs cells slots Q (F0 m pc ls (.int x :: .ref a :: rest)) := by
  subst hw
  exact va_put hC.1 hC.2.1 hC.2.2.2.2 inA_X5 tyX5 tyX5_ok nmX5 hC.2.2.2.1 hK hP hD hS q0 he rfl 5 (by decide) (hC.2.2.2.2 _ q250) (fun _ h => h) rfl (ty := .int) (by decide +kernel) rfl rfl hl hdg kk
theorem gf_X5_26 (hC : CallFix p m c cc nL s args lw_all RX5) (hK : va_K D vwCl tys s) (hP : va_P D vwCl ws H) (q0 : Nat) (he : ws[q0]? = some (a, .inr (5, fs))) (hv : fs[6]? = some v) (hdg : decode cc pc = .ok (.getfield 26, 3))
    (kk : W p l e R s m args below meth c H locs cells slots Q (F0 m (pc + 3) ls (v :: rest))) : W p l e R s m args below meth c H locs cells slots Q (F0 m pc ls (.ref a :: rest)) :=
  va_get hC.1 hC.2.1 hC.2.2.2.2 inA_X5 hC.2.2.2.1 hK hP q0 he rfl 6 (by decide) (hC.2.2.2.2 _ q251) (fun _ h => h) hv hdg kk
theorem pf_X5_26 (hC : CallFix p m c cc nL s args lw_all RX5) (hK : va_K D vwCl tys s) (hP : va_P D vwCl ws H) (hD : va_D A ws) (hS : va_S A H0 H locs) (q0 : Nat) {x : Int32} (he : ws[q0]? = some (a, .inr (5, fs))) (hn : narrow .boolean (.int x) = .int x) (hfit : fits .boolean (.int x) = true) (hl : 6 < fs.length) {ws1 : va_W} (hw : ws.set q0 (a, .inr (5, fs.set 6 (.int x))) = ws1) (hdg : decode cc pc = .ok (.putfield 26, 3))
    (kk : ∀ (H1 : Heap) (locs1 : List Loc), va_P D vwCl ws1 H1 → va_D A ws1 → va_S A H0 H1 locs1 → W p l e R s m args below meth c H1 locs1 cells slots Q (F0 m (pc + 3) ls rest)) : W p l e R s m args below meth c H locs cells slots Q (F0 m pc ls (.int x :: .ref a :: rest)) := by
  subst hw
  exact va_put hC.1 hC.2.1 hC.2.2.2.2 inA_X5 tyX5 tyX5_ok nmX5 hC.2.2.2.1 hK hP hD hS q0 he rfl 6 (by decide) (hC.2.2.2.2 _ q251) (fun _ h => h) rfl (ty := .boolean) (by decide +kernel) hn hfit hl hdg kk
theorem gf_X7_172 (hC : CallFix p m c cc nL s args lw_all RX7) (hK : va_K D vwCl tys s) (hP : va_P D vwCl ws H) (q0 : Nat) (he : ws[q0]? = some (a, .inr (5, fs))) (hv : fs[6]? = some v) (hdg : decode cc pc = .ok (.getfield 172, 3))
    (kk : W p l e R s m args below meth c H locs cells slots Q (F0 m (pc + 3) ls (v :: rest))) : W p l e R s m args below meth c H locs cells slots Q (F0 m pc ls (.ref a :: rest)) :=
  va_get hC.1 hC.2.1 hC.2.2.2.2 inA_X5 hC.2.2.2.1 hK hP q0 he rfl 6 (by decide) (hC.2.2.2.2 _ q252) (fun _ h => h) hv hdg kk
theorem pf_X7_172 (hC : CallFix p m c cc nL s args lw_all RX7) (hK : va_K D vwCl tys s) (hP : va_P D vwCl ws H) (hD : va_D A ws) (hS : va_S A H0 H locs) (q0 : Nat) {x : Int32} (he : ws[q0]? = some (a, .inr (5, fs))) (hn : narrow .boolean (.int x) = .int x) (hfit : fits .boolean (.int x) = true) (hl : 6 < fs.length) {ws1 : va_W} (hw : ws.set q0 (a, .inr (5, fs.set 6 (.int x))) = ws1) (hdg : decode cc pc = .ok (.putfield 172, 3))
    (kk : ∀ (H1 : Heap) (locs1 : List Loc), va_P D vwCl ws1 H1 → va_D A ws1 → va_S A H0 H1 locs1 → W p l e R s m args below meth c H1 locs1 cells slots Q (F0 m (pc + 3) ls rest)) : W p l e R s m args below meth c H locs cells slots Q (F0 m pc ls (.int x :: .ref a :: rest)) := by
  subst hw
  exact va_put hC.1 hC.2.1 hC.2.2.2.2 inA_X5 tyX5 tyX5_ok nmX5 hC.2.2.2.1 hK hP hD hS q0 he rfl 6 (by decide) (hC.2.2.2.2 _ q252) (fun _ h => h) rfl (ty := .boolean) (by decide +kernel) hn hfit hl hdg kk
theorem gf_X5_30 (hC : CallFix p m c cc nL s args lw_all RX5) (hK : va_K D vwCl tys s) (hP : va_P D vwCl ws H) (q0 : Nat) (he : ws[q0]? = some (a, .inr (5, fs))) (hv : fs[7]? = some v) (hdg : decode cc pc = .ok (.getfield 30, 3))
    (kk : W p l e R s m args below meth c H locs cells slots Q (F0 m (pc + 3) ls (v :: rest))) : W p l e R s m args below meth c H locs cells slots Q (F0 m pc ls (.ref a :: rest)) :=
  va_get hC.1 hC.2.1 hC.2.2.2.2 inA_X5 hC.2.2.2.1 hK hP q0 he rfl 7 (by decide) (hC.2.2.2.2 _ q253) (fun _ h => h) hv hdg kk
theorem pf_X5_30 (hC : CallFix p m c cc nL s args lw_all RX5) (hK : va_K D vwCl tys s) (hP : va_P D vwCl ws H) (hD : va_D A ws) (hS : va_S A H0 H locs) (q0 : Nat) {x : Int32} (he : ws[q0]? = some (a, .inr (5, fs))) (hl : 7 < fs.length) {ws1 : va_W} (hw : ws.set q0 (a, .inr (5, fs.set 7 (.int x))) = ws1) (hdg : decode cc pc = .ok (.putfield 30, 3))
    (kk : ∀ (H1 : Heap) (locs1 : List Loc), va_P D vwCl ws1 H1 → va_D A ws1 → va_S A H0 H1 locs1 → W p l e R s m args below meth c H1 locs1 cells slots Q (F0 m (pc + 3) ls rest)) : W p l e R s m args below meth c H locs cells slots Q (F0 m pc ls (.int x :: .ref a :: rest)) := by
  subst hw
  exact va_put hC.1 hC.2.1 hC.2.2.2.2 inA_X5 tyX5 tyX5_ok nmX5 hC.2.2.2.1 hK hP hD hS q0 he rfl 7 (by decide) (hC.2.2.2.2 _ q253) (fun _ h => h) rfl (ty := .int) (by decide +kernel) rfl rfl hl hdg kk
theorem gf_X5_33 (hC : CallFix p m c cc nL s args lw_all RX5) (hK : va_K D vwCl tys s) (hP : va_P D vwCl ws H) (q0 : Nat) (he : ws[q0]? = some (a, .inr (5, fs))) (hv : fs[8]? = some v) (hdg : decode cc pc = .ok (.getfield 33, 3))
    (kk : W p l e R s m args below meth c H locs cells slots Q (F0 m (pc + 3) ls (v :: rest))) : W p l e R s m args below meth c H locs cells slots Q (F0 m pc ls (.ref a :: rest)) :=
  va_get hC.1 hC.2.1 hC.2.2.2.2 inA_X5 hC.2.2.2.1 hK hP q0 he rfl 8 (by decide) (hC.2.2.2.2 _ q254) (fun _ h => h) hv hdg kk
theorem pf_X5_33 (hC : CallFix p m c cc nL s args lw_all RX5) (hK : va_K D vwCl tys s) (hP : va_P D vwCl ws H) (hD : va_D A ws) (hS : va_S A H0 H locs) (q0 : Nat) {x : Int32} (he : ws[q0]? = some (a, .inr (5, fs))) (hl : 8 < fs.length) {ws1 : va_W} (hw : ws.set q0 (a, .inr (5, fs.set 8 (.int x))) = ws1) (hdg : decode cc pc = .ok (.putfield 33, 3))
    (kk : ∀ (H1 : Heap) (locs1 : List Loc), va_P D vwCl ws1 H1 → va_D A ws1 → va_S A H0 H1 locs1 → W p l e R s m args below meth c H1 locs1 cells slots Q (F0 m (pc + 3) ls rest)) : W p l e R s m args below meth c H locs cells slots Q (F0 m pc ls (.int x :: .ref a :: rest)) := by
  subst hw
  exact va_put hC.1 hC.2.1 hC.2.2.2.2 inA_X5 tyX5 tyX5_ok nmX5 hC.2.2.2.1 hK hP hD hS q0 he rfl 8 (by decide) (hC.2.2.2.2 _ q254) (fun _ h => h) rfl (ty := .int) (by decide +kernel) rfl rfl hl hdg kk
theorem gf_X7_10 (hC : CallFix p m c cc nL s args lw_all RX7) (hK : va_K D vwCl tys s) (hP : va_P D vwCl ws H) (q0 : Nat) (he : ws[q0]? = some (a, .inr (7, fs))) (hv : fs[0]? = some v) (hdg : decode cc pc = .ok (.getfield 10, 3))
    (kk : W p l e R s m args below meth c H locs cells slots Q (F0 m (pc + 3) ls (v :: rest))) : W p l e R s m args below meth c H locs cells slots Q (F0 m pc ls (.ref a :: rest)) :=
  va_get hC.1 hC.2.1 hC.2.2.2.2 inA_X7 hC.2.2.2.1 hK hP q0 he rfl 0 (by decide) (hC.2.2.2.2 _ q274) (fun _ h => h) hv hdg kk
theorem gf_X7_19 (hC : CallFix p m c cc nL s args lw_all RX7) (hK : va_K D vwCl tys s) (hP : va_P D vwCl ws H) (q0 : Nat) (he : ws[q0]? = some (a, .inr (7, fs))) (hv : fs[1]? = some v) (hdg : decode cc pc = .ok (.getfield 19, 3))
    (kk : W p l e R s m args below meth c H locs cells slots Q (F0 m (pc + 3) ls (v :: rest))) : W p l e R s m args below meth c H locs cells slots Q (F0 m pc ls (.ref a :: rest)) :=
  va_get hC.1 hC.2.1 hC.2.2.2.2 inA_X7 hC.2.2.2.1 hK hP q0 he rfl 1 (by decide) (hC.2.2.2.2 _ q275) (fun _ h => h) hv hdg kk
theorem gf_X7_23 (hC : CallFix p m c cc nL s args lw_all RX7) (hK : va_K D vwCl tys s) (hP : va_P D vwCl ws H) (q0 : Nat) (he : ws[q0]? = some (a, .inr (7, fs))) (hv : fs[2]? = some v) (hdg : decode cc pc = .ok (.getfield 23, 3))
    (kk : W p l e R s m args below meth c H locs cells slots Q (F0 m (pc + 3) ls (v :: rest))) : W p l e R s m args below meth c H locs cells slots Q (F0 m pc ls (.ref a :: rest)) :=
  va_get hC.1 hC.2.1 hC.2.2.2.2 inA_X7 hC.2.2.2.1 hK hP q0 he rfl 2 (by decide) (hC.2.2.2.2 _ q276) (fun _ h => h) hv hdg kk
theorem gf_X7_29 (hC : CallFix p m c cc nL s args lw_all RX7) (hK : va_K D vwCl tys s) (hP : va_P D vwCl ws H) (q0 : Nat) (he : ws[q0]? = some (a, .inr (7, fs))) (hv : fs[3]? = some v) (hdg : decode cc pc = .ok (.getfield 29, 3))
    (kk : W p l e R s m args below meth c H locs cells slots Q (F0 m (pc + 3) ls (v :: rest))) : W p l e R s m args below meth c H locs cells slots Q (F0 m pc ls (.ref a :: rest)) :=
  va_get hC.1 hC.2.1 hC.2.2.2.2 inA_X7 hC.2.2.2.1 hK hP q0 he rfl 3 (by decide) (hC.2.2.2.2 _ q277) (fun _ h => h) hv hdg kk
theorem gf_X7_36 (hC : CallFix p m c cc nL s args lw_all RX7) (hK : va_K D vwCl tys s) (hP : va_P D vwCl ws H) (q0 : Nat) (he : ws[q0]? = some (a, .inr (7, fs))) (hv : fs[4]? = some v) (hdg : decode cc pc = .ok (.getfield 36, 3))
    (kk : W p l e R s m args below meth c H locs cells slots Q (F0 m (pc + 3) ls (v :: rest))) : W p l e R s m args below meth c H locs cells slots Q (F0 m pc ls (.ref a :: rest)) :=
  va_get hC.1 hC.2.1 hC.2.2.2.2 inA_X7 hC.2.2.2.1 hK hP q0 he rfl 4 (by decide) (hC.2.2.2.2 _ q278) (fun _ h => h) hv hdg kk
theorem gf_X7_48 (hC : CallFix p m c cc nL s args lw_all RX7) (hK : va_K D vwCl tys s) (hP : va_P D vwCl ws H) (q0 : Nat) (he : ws[q0]? = some (a, .inr (7, fs))) (hv : fs[5]? = some v) (hdg : decode cc pc = .ok (.getfield 48, 3))
    (kk : W p l e R s m args below meth c H locs cells slots Q (F0 m (pc + 3) ls (v :: rest))) : W p l e R s m args below meth c H locs cells slots Q (F0 m pc ls (.ref a :: rest)) :=
  va_get hC.1 hC.2.1 hC.2.2.2.2 inA_X7 hC.2.2.2.1 hK hP q0 he rfl 5 (by decide) (hC.2.2.2.2 _ q279) (fun _ h => h) hv hdg kk
theorem gf_X7_52 (hC : CallFix p m c cc nL s args lw_all RX7) (hK : va_K D vwCl tys s) (hP : va_P D vwCl ws H) (q0 : Nat) (he : ws[q0]? = some (a, .inr (7, fs))) (hv : fs[6]? = some v) (hdg : decode cc pc = .ok (.getfield 52, 3))
    (kk : W p l e R s m args below meth c H locs cells slots Q (F0 m (pc + 3) ls (v :: rest))) : W p l e R s m args below meth c H locs cells slots Q (F0 m pc ls (.ref a :: rest)) :=
  va_get hC.1 hC.2.1 hC.2.2.2.2 inA_X7 hC.2.2.2.1 hK hP q0 he rfl 6 (by decide) (hC.2.2.2.2 _ q280) (fun _ h => h) hv hdg kk
theorem gf_X7_55 (hC : CallFix p m c cc nL s args lw_all RX7) (hK : va_K D vwCl tys s) (hP : va_P D vwCl ws H) (q0 : Nat) (he : ws[q0]? = some (a, .inr (7, fs))) (hv : fs[7]? = some v) (hdg : decode cc pc = .ok (.getfield 55, 3))
    (kk : W p l e R s m args below meth c H locs cells slots Q (F0 m (pc + 3) ls (v :: rest))) : W p l e R s m args below meth c H locs cells slots Q (F0 m pc ls (.ref a :: rest)) :=
  va_get hC.1 hC.2.1 hC.2.2.2.2 inA_X7 hC.2.2.2.1 hK hP q0 he rfl 7 (by decide) (hC.2.2.2.2 _ q281) (fun _ h => h) hv hdg kk
theorem pf_X7_55 (hC : CallFix p m c cc nL s args lw_all RX7) (hK : va_K D vwCl tys s) (hP : va_P D vwCl ws H) (hD : va_D A ws) (hS : va_S A H0 H locs) (q0 : Nat) {x : Int32} (he : ws[q0]? = some (a, .inr (7, fs))) (hl : 7 < fs.length) {ws1 : va_W} (hw : ws.set q0 (a, .inr (7, fs.set 7 (.int x))) = ws1) (hdg : decode cc pc = .ok (.putfield 55, 3))
    (kk : ∀ (H1 : Heap) (locs1 : List Loc), va_P D vwCl ws1 H1 → va_D A ws1 → va_S A H0 H1 locs1 → W p l e R s m args below meth c H1 locs1 cells slots Q (F0 m (pc + 3) ls rest)) : W p l e R s m args below meth c H locs cells slots Q (F0 m pc ls (.int x :: .ref a :: rest)) := by
  subst hw
  exact va_put hC.1 hC.2.1 hC.2.2.2.2 inA_X7 tyX7 tyX7_ok nmX7 hC.2.2.2.1 hK hP hD hS q0 he rfl 7 (by decide) (hC.2.2.2.2 _ q281) (fun _ h => h) rfl (ty := .int) (by decide +kernel) rfl rfl hl hdg kk
end FR
theorem md_X0_empty : mdV yX0_empty cX0_empty 4 none 2 RX0 := ⟨q66, q64, q65, q3, by decide +kernel⟩
theorem md_X0_forgetMoves : mdV yX0_forgetMoves cX0_forgetMoves 1 none 0 RX0 := ⟨q70, q68, q69, q3, by decide +kernel⟩
theorem md_X7_clear : mdV yX7_clear cX7_clear 2 (some .int) 0 RX7 := ⟨q302, q300, q301, q1, by decide +kernel⟩
theorem md_X7_read : mdV yX7_read cX7_read 2 (some .int) 0 RX7 := ⟨q306, q304, q305, q1, by decide +kernel⟩
theorem md_X6_parse : mdV yX6_parse cX6_parse 4 (some .int) 1 RX6 := ⟨q310, q308, q309, q2, by decide +kernel⟩
theorem md_X6_startParse : mdV yX6_startParse cX6_startParse 1 none 0 RX6 := ⟨q314, q313, qp0, q2, by decide +kernel⟩
theorem md_X6_endRow : mdV yX6_endRow cX6_endRow 1 (some .boolean) 0 RX6 := ⟨q318, q317, qp1, q2, by decide +kernel⟩
theorem md_X6_isRowWhole : mdV yX6_isRowWhole cX6_isRowWhole 1 (some .boolean) 0 RX6 := ⟨q322, q321, qp2, q2, by decide +kernel⟩
theorem md_X6_addCell : mdV yX6_addCell cX6_addCell 4 (some .boolean) 1 RX6 := ⟨q326, q325, qp3, q2, by decide +kernel⟩
theorem md_X6_contentOf : mdV yX6_contentOf cX6_contentOf 3 (some .int) 1 RX6 := ⟨q330, q329, qp4, q2, by decide +kernel⟩
theorem md_X7_at : mdS yX7_at cX7_at 2 (some .int) 2 := ⟨q333, q332, q1, by decide +kernel⟩
theorem md_X7_put : mdS yX7_put cX7_put 3 none 3 := ⟨q336, q335, q1, by decide +kernel⟩
theorem md_X6_fill : mdV yX6_fill cX6_fill 4 (some .int) 1 RX6 := ⟨q340, q339, qp5, q2, by decide +kernel⟩
theorem md_X6_cellsWith : mdV yX6_cellsWith cX6_cellsWith 4 (some .int) 1 RX6 := ⟨q345, q344, qp6, q2, by decide +kernel⟩
theorem md_X0_isJoined : mdV yX0_isJoined cX0_isJoined 6 (some .boolean) 1 RX0 := ⟨q349, q347, q348, q3, by decide +kernel⟩
theorem md_X6_firstCell : mdV yX6_firstCell cX6_firstCell 3 (some .int) 1 RX6 := ⟨q353, q352, qp7, q2, by decide +kernel⟩
theorem md_X6_textIndex : mdV yX6_textIndex cX6_textIndex 2 (some .int) 1 RX6 := ⟨q357, q356, qp8, q2, by decide +kernel⟩
theorem md_X0_add : mdV yX0_add cX0_add 8 none 1 RX0 := ⟨q361, q359, q360, q3, by decide +kernel⟩
theorem md_J9_min_7cf53 : mdS yJ9_min_7cf53 cJ9_min_7cf53 2 (some .int) 2 := ⟨q364, q363, q9, by decide +kernel⟩
theorem md_J9_max_7cf53 : mdS yJ9_max_7cf53 cJ9_max_7cf53 2 (some .int) 2 := ⟨q367, q366, q9, by decide +kernel⟩
theorem md_X2_keep : mdV yX2_keep cX2_keep 3 none 1 RX2 := ⟨q372, q370, q371, q4, by decide +kernel⟩
theorem md_X2_boardAt : mdV yX2_boardAt cX2_boardAt 3 (some (.object "SlidingBlocks$Board")) 1 RX2 := ⟨q376, q375, qp9, q4, by decide +kernel⟩
theorem md_X0_copy : mdV yX0_copy cX0_copy 2 none 1 RX0 := ⟨q380, q378, q379, q3, by decide +kernel⟩
theorem md_X7_copyRow : mdS yX7_copyRow cX7_copyRow 2 none 2 := ⟨q383, q382, q1, by decide +kernel⟩
theorem md_X7_frame : mdV yX7_frame cX7_frame 2 (some .int) 1 RX7 := ⟨q392, q390, q391, q1, by decide +kernel⟩
theorem md_X0_taken : mdV yX0_taken cX0_taken 3 (some .int) 0 RX0 := ⟨q396, q394, q395, q3, by decide +kernel⟩
theorem md_X0_cellsOf : mdV yX0_cellsOf cX0_cellsOf 2 (some .int) 1 RX0 := ⟨q400, q398, q399, q3, by decide +kernel⟩
theorem md_J6_bitCount_0f7a4 : mdS yJ6_bitCount_0f7a4 cJ6_bitCount_0f7a4 1 (some .int) 1 := ⟨q404, q403, q11, by decide +kernel⟩
theorem md_X0_atGoal : mdV yX0_atGoal cX0_atGoal 1 (some .boolean) 0 RX0 := ⟨q411, q409, q410, q3, by decide +kernel⟩
theorem md_X7_cell : mdV yX7_cell cX7_cell 4 (some .int) 1 RX7 := ⟨q415, q413, q414, q1, by decide +kernel⟩
theorem md_X0_hasCell : mdV yX0_hasCell cX0_hasCell 2 (some .boolean) 1 RX0 := ⟨q419, q417, q418, q3, by decide +kernel⟩
theorem md_X7_block : mdV yX7_block cX7_block 3 (some .int) 2 RX7 := ⟨q424, q422, q423, q1, by decide +kernel⟩
theorem md_X0_has : mdV yX0_has cX0_has 2 (some .boolean) 1 RX0 := ⟨q428, q426, q427, q3, by decide +kernel⟩
theorem md_X0_directionsOf : mdV yX0_directionsOf cX0_directionsOf 3 (some .int) 1 RX0 := ⟨q433, q431, q432, q3, by decide +kernel⟩
theorem md_X0_directions : mdV yX0_directions cX0_directions 4 (some .int) 2 RX0 := ⟨q438, q436, q437, q3, by decide +kernel⟩
theorem md_X3_spread : mdV yX3_spread cX3_spread 12 (some .int) 2 RX3 := ⟨q442, q440, q441, q5, by decide +kernel⟩
theorem md_J7_fill_53178 : mdS yJ7_fill_53178 cJ7_fill_53178 4 none 2 := ⟨q448, q447, q12, by decide +kernel⟩
theorem md_X0_offset : mdV yX0_offset cX0_offset 2 (some .int) 1 RX0 := ⟨q454, q452, q453, q3, by decide +kernel⟩
theorem md_X0_firstAlike : mdV yX0_firstAlike cX0_firstAlike 3 (some .int) 1 RX0 := ⟨q458, q456, q457, q3, by decide +kernel⟩
theorem md_X7_step : mdV yX7_step cX7_step 4 (some .int) 2 RX7 := ⟨q462, q460, q461, q1, by decide +kernel⟩
theorem md_X0_move : mdV yX0_move cX0_move 5 none 4 RX0 := ⟨q467, q465, q466, q3, by decide +kernel⟩
theorem md_X7_goal : mdV yX7_goal cX7_goal 3 (some .int) 2 RX7 := ⟨q471, q469, q470, q1, by decide +kernel⟩
theorem md_X0_fits : mdV yX0_fits cX0_fits 3 (some .boolean) 2 RX0 := ⟨q475, q473, q474, q3, by decide +kernel⟩
theorem md_X7_states : mdV yX7_states cX7_states 1 (some .int) 0 RX7 := ⟨q480, q478, q479, q1, by decide +kernel⟩
theorem md_X5_explore : mdV yX5_explore cX5_explore 4 none 2 RX5 := ⟨q484, q482, q483, q7, by decide +kernel⟩
theorem md_X1_forget : mdV yX1_forget cX1_forget 1 none 0 RX1 := ⟨q489, q487, q488, q8, by decide +kernel⟩
theorem md_X0_key : mdV yX0_key cX0_key 5 (some .long) 1 RX0 := ⟨q493, q491, q492, q3, by decide +kernel⟩
theorem md_X7_keyShift : mdS yX7_keyShift cX7_keyShift 1 (some .int) 1 := ⟨q496, q495, q1, by decide +kernel⟩
theorem md_X5_add : mdV yX5_add cX5_add 4 none 1 RX5 := ⟨q500, q499, qp10, q7, by decide +kernel⟩
theorem md_X5_slotOf : mdV yX5_slotOf cX5_slotOf 6 (some .int) 1 RX5 := ⟨q504, q503, qp11, q7, by decide +kernel⟩
theorem md_X7_put_ : mdS yX7_put_ cX7_put_ 4 none 3 := ⟨q509, q508, q1, by decide +kernel⟩
theorem md_X5_expand : mdV yX5_expand cX5_expand 11 none 2 RX5 := ⟨q514, q513, qp12, q7, by decide +kernel⟩
theorem md_X7_at_ : mdS yX7_at_ cX7_at_ 2 (some .long) 2 := ⟨q517, q516, q1, by decide +kernel⟩
theorem md_X5_takenIn : mdV yX5_takenIn cX5_takenIn 6 (some .int) 2 RX5 := ⟨q521, q520, qp13, q7, by decide +kernel⟩
theorem md_X7_placeIn : mdS yX7_placeIn cX7_placeIn 3 (some .int) 2 := ⟨q524, q523, q1, by decide +kernel⟩
theorem md_X7_undo : mdV yX7_undo cX7_undo 1 (some .int) 0 RX7 := ⟨q531, q529, q530, q1, by decide +kernel⟩
theorem md_X2_restore : mdV yX2_restore cX2_restore 3 (some .int) 1 RX2 := ⟨q535, q533, q534, q4, by decide +kernel⟩
theorem md_L_cell : mdS yL_cell cL_cell 2 (some .int) 2 := ⟨q538, q537, q0, by decide +kernel⟩
theorem md_L_up : mdS yL_up cL_up 2 (some .int) 2 := ⟨q542, q541, q0, by decide +kernel⟩
theorem md_L_fails : mdS yL_fails cL_fails 6 (some .boolean) 1 := ⟨q546, q545, q0, by decide +kernel⟩
theorem md_X7_fingerprint : mdV yX7_fingerprint cX7_fingerprint 5 (some .long) 0 RX7 := ⟨q550, q548, q549, q1, by decide +kernel⟩
theorem md_X7_distance : mdV yX7_distance cX7_distance 3 (some .int) 1 RX7 := ⟨q560, q558, q559, q1, by decide +kernel⟩
theorem md_X7_greatest : mdV yX7_greatest cX7_greatest 5 (some .int) 3 RX7 := ⟨q564, q563, qp14, q1, by decide +kernel⟩
theorem md_X5_distances : mdV yX5_distances cX5_distances 2 (some (.object "SlidingBlocks$Distances")) 1 RX5 := ⟨q568, q566, q567, q7, by decide +kernel⟩
theorem md_X1_measure : mdV yX1_measure cX1_measure 6 none 2 RX1 := ⟨q572, q570, q571, q8, by decide +kernel⟩
theorem md_X1_beginAtSolved : mdV yX1_beginAtSolved cX1_beginAtSolved 3 none 1 RX1 := ⟨q576, q575, qp15, q8, by decide +kernel⟩
theorem md_X1_reach : mdV yX1_reach cX1_reach 3 none 2 RX1 := ⟨q583, q582, qp16, q8, by decide +kernel⟩
theorem md_X5_canMove : mdV yX5_canMove cX5_canMove 3 (some .boolean) 2 RX5 := ⟨q589, q587, q588, q7, by decide +kernel⟩
theorem md_X1_slideFrom : mdV yX1_slideFrom cX1_slideFrom 12 none 4 RX1 := ⟨q593, q592, qp17, q8, by decide +kernel⟩
theorem md_X5_after : mdV yX5_after cX5_after 7 (some .int) 4 RX5 := ⟨q597, q595, q596, q7, by decide +kernel⟩
theorem md_X1_stepFrom : mdV yX1_stepFrom cX1_stepFrom 8 none 4 RX1 := ⟨q601, q600, qp18, q8, by decide +kernel⟩
theorem md_X5_farOf : mdV yX5_farOf cX5_farOf 5 (some .int) 2 RX5 := ⟨q606, q604, q605, q7, by decide +kernel⟩
theorem md_X7_type : mdV yX7_type cX7_type 2 (some .int) 1 RX7 := ⟨q611, q609, q610, q1, by decide +kernel⟩
theorem md_X6_append : mdV yX6_append cX6_append 2 (some .boolean) 1 RX6 := ⟨q615, q613, q614, q2, by decide +kernel⟩
theorem md_X7_slide : mdV yX7_slide cX7_slide 4 (some .int) 2 RX7 := ⟨q619, q617, q618, q1, by decide +kernel⟩
theorem md_X7_places : mdV yX7_places cX7_places 2 (some .int) 1 RX7 := ⟨q623, q621, q622, q1, by decide +kernel⟩
theorem md_X5_placesOf : mdV yX5_placesOf cX5_placesOf 4 (some .int) 1 RX5 := ⟨q627, q625, q626, q7, by decide +kernel⟩
theorem md_X7_without : mdV yX7_without cX7_without 4 (some .int) 2 RX7 := ⟨q631, q629, q630, q1, by decide +kernel⟩
theorem md_X7_solved : mdV yX7_solved cX7_solved 1 (some .int) 0 RX7 := ⟨q635, q633, q634, q1, by decide +kernel⟩
theorem md_X5_countAt : mdV yX5_countAt cX5_countAt 5 (some .int) 2 RX5 := ⟨q639, q637, q638, q7, by decide +kernel⟩
theorem md_X7_hint : mdV yX7_hint cX7_hint 6 (some .int) 1 RX7 := ⟨q644, q642, q643, q1, by decide +kernel⟩
theorem md_X7_nearerPlace : mdV yX7_nearerPlace cX7_nearerPlace 7 (some .int) 3 RX7 := ⟨q648, q647, qp19, q1, by decide +kernel⟩
theorem md_X0_keyAfter : mdV yX0_keyAfter cX0_keyAfter 3 (some .long) 2 RX0 := ⟨q652, q650, q651, q3, by decide +kernel⟩
theorem md_X7_follow : mdV yX7_follow cX7_follow 5 (some .int) 1 RX7 := ⟨q657, q655, q656, q1, by decide +kernel⟩
theorem md_X7_worst : mdV yX7_worst cX7_worst 2 (some .int) 1 RX7 := ⟨q662, q660, q661, q1, by decide +kernel⟩
theorem md_X7_hardest : mdV yX7_hardest cX7_hardest 3 (some .int) 1 RX7 := ⟨q666, q664, q665, q1, by decide +kernel⟩
theorem md_X5_firstFar : mdV yX5_firstFar cX5_firstFar 9 (some .long) 2 RX5 := ⟨q670, q668, q669, q7, by decide +kernel⟩
theorem md_X0_arrange : mdV yX0_arrange cX0_arrange 4 none 1 RX0 := ⟨q675, q673, q674, q3, by decide +kernel⟩
theorem md_X7_mean : mdV yX7_mean cX7_mean 2 (some .float) 1 RX7 := ⟨q681, q679, q680, q1, by decide +kernel⟩
theorem md_L_frame : mdS yL_frame cL_frame 15 (some .int) 4 := ⟨q686, q685, q0, by decide +kernel⟩
theorem md_L_fits : mdS yL_fits cL_fits 9 (some .boolean) 7 := ⟨q689, q688, q0, by decide +kernel⟩
theorem md_L_agrees : mdS yL_agrees cL_agrees 14 (some .boolean) 1 := ⟨q692, q691, q0, by decide +kernel⟩
theorem md_L_ends : mdS yL_ends cL_ends 13 (some .boolean) 3 := ⟨q695, q694, q0, by decide +kernel⟩
