/-! field rows: one for each link; facts of methods for calls -/
theorem inA_X0 : ∀ w ∈ wsX00, w ∈ lw_all := by decide +kernel
theorem inA_X1 : ∀ w ∈ wsX10, w ∈ lw_all := by decide +kernel
theorem inA_X2 : ∀ w ∈ wsX20, w ∈ lw_all := by decide +kernel
theorem inA_X3 : ∀ w ∈ wsX30, w ∈ lw_all := by decide +kernel
theorem inA_X4 : ∀ w ∈ wsX40, w ∈ lw_all := by decide +kernel
theorem inA_X5 : ∀ w ∈ wsX50, w ∈ lw_all := by decide +kernel
theorem inA_X6 : ∀ w ∈ wsX60, w ∈ lw_all := by decide +kernel
theorem inA_X7 : ∀ w ∈ wsX70, w ∈ lw_all := by decide +kernel
theorem inA_X8 : ∀ w ∈ wsX80, w ∈ lw_all := by decide +kernel
section FR
variable {p : Program} {l : Launch} {e : Env} {R : Room} {s : State} {m : MethodId} {args : Array Value} {below : List Frame} {meth : Method} {c : Code} {H : Heap} {locs : List Loc} {cells slots : Nat} {Q : State → Prop}
variable {cc : ByteArray} {pc nL : Nat} {ls : Array Slot} {rest : List Value} {D : va_G} {A : Nat → Prop} {tys : List (ClassId × FieldType)} {ws : va_W} {H0 : Heap} {a : Nat} {fs : List Value} {v : Value}
theorem gf_X6_9 (hC : CallFix p m c cc nL s args lw_all RX6) (hK : va_K D vwCl tys s) (hP : va_P D vwCl ws H) (q0 : Nat) (he : ws[q0]? = some (a, .inr (6, fs))) (hv : fs[0]? = some v) (hdg : decode cc pc = .ok (.getfield 9, 3))
    (kk : W p l e R s m args below meth c H locs cells slots Q (F0 m (pc + 3) ls (v :: rest))) : W p l e R s m args below meth c H locs cells slots Q (F0 m pc ls (.ref a :: rest)) :=
  va_get hC.1 hC.2.1 hC.2.2.2.2 inA_X6 hC.2.2.2.1 hK hP q0 he rfl 0 (by decide) (hC.2.2.2.2 _ q28) (fun _ h => h) hv hdg kk
theorem gf_X6_15 (hC : CallFix p m c cc nL s args lw_all RX6) (hK : va_K D vwCl tys s) (hP : va_P D vwCl ws H) (q0 : Nat) (he : ws[q0]? = some (a, .inr (6, fs))) (hv : fs[1]? = some v) (hdg : decode cc pc = .ok (.getfield 15, 3))
    (kk : W p l e R s m args below meth c H locs cells slots Q (F0 m (pc + 3) ls (v :: rest))) : W p l e R s m args below meth c H locs cells slots Q (F0 m pc ls (.ref a :: rest)) :=
  va_get hC.1 hC.2.1 hC.2.2.2.2 inA_X6 hC.2.2.2.1 hK hP q0 he rfl 1 (by decide) (hC.2.2.2.2 _ q29) (fun _ h => h) hv hdg kk
theorem pf_X6_15 (hC : CallFix p m c cc nL s args lw_all RX6) (hK : va_K D vwCl tys s) (hP : va_P D vwCl ws H) (hD : va_D A ws) (hS : va_S A H0 H locs) (q0 : Nat) {x : Int32} (he : ws[q0]? = some (a, .inr (6, fs))) (hl : 1 < fs.length) {ws1 : va_W} (hw : ws.set q0 (a, .inr (6, fs.set 1 (.int x))) = ws1) (hdg : decode cc pc = .ok (.putfield 15, 3))
    (kk : ∀ (H1 : Heap) (locs1 : List Loc), va_P D vwCl ws1 H1 → va_D A ws1 → va_S A H0 H1 locs1 → W p l e R s m args below meth c H1 locs1 cells slots Q (F0 m (pc + 3) ls rest)) : W p l e R s m args below meth c H locs cells slots Q (F0 m pc ls (.int x :: .ref a :: rest)) := by
  subst hw
  exact va_put hC.1 hC.2.1 hC.2.2.2.2 inA_X6 tyX6 tyX6_ok nmX6 hC.2.2.2.1 hK hP hD hS q0 he rfl 1 (by decide) (hC.2.2.2.2 _ q29) (fun _ h => h) rfl (ty := .int) (by decide +kernel) rfl rfl hl hdg kk
theorem gf_X7_63 (hC : CallFix p m c cc nL s args lw_all RX7) (hK : va_K D vwCl tys s) (hP : va_P D vwCl ws H) (q0 : Nat) (he : ws[q0]? = some (a, .inr (6, fs))) (hv : fs[1]? = some v) (hdg : decode cc pc = .ok (.getfield 63, 3))
    (kk : W p l e R s m args below meth c H locs cells slots Q (F0 m (pc + 3) ls (v :: rest))) : W p l e R s m args below meth c H locs cells slots Q (F0 m pc ls (.ref a :: rest)) :=
  va_get hC.1 hC.2.1 hC.2.2.2.2 inA_X6 hC.2.2.2.1 hK hP q0 he rfl 1 (by decide) (hC.2.2.2.2 _ q30) (fun _ h => h) hv hdg kk
theorem pf_X7_63 (hC : CallFix p m c cc nL s args lw_all RX7) (hK : va_K D vwCl tys s) (hP : va_P D vwCl ws H) (hD : va_D A ws) (hS : va_S A H0 H locs) (q0 : Nat) {x : Int32} (he : ws[q0]? = some (a, .inr (6, fs))) (hl : 1 < fs.length) {ws1 : va_W} (hw : ws.set q0 (a, .inr (6, fs.set 1 (.int x))) = ws1) (hdg : decode cc pc = .ok (.putfield 63, 3))
    (kk : ∀ (H1 : Heap) (locs1 : List Loc), va_P D vwCl ws1 H1 → va_D A ws1 → va_S A H0 H1 locs1 → W p l e R s m args below meth c H1 locs1 cells slots Q (F0 m (pc + 3) ls rest)) : W p l e R s m args below meth c H locs cells slots Q (F0 m pc ls (.int x :: .ref a :: rest)) := by
  subst hw
  exact va_put hC.1 hC.2.1 hC.2.2.2.2 inA_X6 tyX6 tyX6_ok nmX6 hC.2.2.2.1 hK hP hD hS q0 he rfl 1 (by decide) (hC.2.2.2.2 _ q30) (fun _ h => h) rfl (ty := .int) (by decide +kernel) rfl rfl hl hdg kk
theorem gf_X6_19 (hC : CallFix p m c cc nL s args lw_all RX6) (hK : va_K D vwCl tys s) (hP : va_P D vwCl ws H) (q0 : Nat) (he : ws[q0]? = some (a, .inr (6, fs))) (hv : fs[2]? = some v) (hdg : decode cc pc = .ok (.getfield 19, 3))
    (kk : W p l e R s m args below meth c H locs cells slots Q (F0 m (pc + 3) ls (v :: rest))) : W p l e R s m args below meth c H locs cells slots Q (F0 m pc ls (.ref a :: rest)) :=
  va_get hC.1 hC.2.1 hC.2.2.2.2 inA_X6 hC.2.2.2.1 hK hP q0 he rfl 2 (by decide) (hC.2.2.2.2 _ q31) (fun _ h => h) hv hdg kk
theorem gf_X6_22 (hC : CallFix p m c cc nL s args lw_all RX6) (hK : va_K D vwCl tys s) (hP : va_P D vwCl ws H) (q0 : Nat) (he : ws[q0]? = some (a, .inr (6, fs))) (hv : fs[3]? = some v) (hdg : decode cc pc = .ok (.getfield 22, 3))
    (kk : W p l e R s m args below meth c H locs cells slots Q (F0 m (pc + 3) ls (v :: rest))) : W p l e R s m args below meth c H locs cells slots Q (F0 m pc ls (.ref a :: rest)) :=
  va_get hC.1 hC.2.1 hC.2.2.2.2 inA_X6 hC.2.2.2.1 hK hP q0 he rfl 3 (by decide) (hC.2.2.2.2 _ q32) (fun _ h => h) hv hdg kk
theorem pf_X6_22 (hC : CallFix p m c cc nL s args lw_all RX6) (hK : va_K D vwCl tys s) (hP : va_P D vwCl ws H) (hD : va_D A ws) (hS : va_S A H0 H locs) (q0 : Nat) {x : Int32} (he : ws[q0]? = some (a, .inr (6, fs))) (hl : 3 < fs.length) {ws1 : va_W} (hw : ws.set q0 (a, .inr (6, fs.set 3 (.int x))) = ws1) (hdg : decode cc pc = .ok (.putfield 22, 3))
    (kk : ∀ (H1 : Heap) (locs1 : List Loc), va_P D vwCl ws1 H1 → va_D A ws1 → va_S A H0 H1 locs1 → W p l e R s m args below meth c H1 locs1 cells slots Q (F0 m (pc + 3) ls rest)) : W p l e R s m args below meth c H locs cells slots Q (F0 m pc ls (.int x :: .ref a :: rest)) := by
  subst hw
  exact va_put hC.1 hC.2.1 hC.2.2.2.2 inA_X6 tyX6 tyX6_ok nmX6 hC.2.2.2.1 hK hP hD hS q0 he rfl 3 (by decide) (hC.2.2.2.2 _ q32) (fun _ h => h) rfl (ty := .int) (by decide +kernel) rfl rfl hl hdg kk
theorem gf_X6_25 (hC : CallFix p m c cc nL s args lw_all RX6) (hK : va_K D vwCl tys s) (hP : va_P D vwCl ws H) (q0 : Nat) (he : ws[q0]? = some (a, .inr (6, fs))) (hv : fs[4]? = some v) (hdg : decode cc pc = .ok (.getfield 25, 3))
    (kk : W p l e R s m args below meth c H locs cells slots Q (F0 m (pc + 3) ls (v :: rest))) : W p l e R s m args below meth c H locs cells slots Q (F0 m pc ls (.ref a :: rest)) :=
  va_get hC.1 hC.2.1 hC.2.2.2.2 inA_X6 hC.2.2.2.1 hK hP q0 he rfl 4 (by decide) (hC.2.2.2.2 _ q33) (fun _ h => h) hv hdg kk
theorem gf_X6_28 (hC : CallFix p m c cc nL s args lw_all RX6) (hK : va_K D vwCl tys s) (hP : va_P D vwCl ws H) (q0 : Nat) (he : ws[q0]? = some (a, .inr (6, fs))) (hv : fs[5]? = some v) (hdg : decode cc pc = .ok (.getfield 28, 3))
    (kk : W p l e R s m args below meth c H locs cells slots Q (F0 m (pc + 3) ls (v :: rest))) : W p l e R s m args below meth c H locs cells slots Q (F0 m pc ls (.ref a :: rest)) :=
  va_get hC.1 hC.2.1 hC.2.2.2.2 inA_X6 hC.2.2.2.1 hK hP q0 he rfl 5 (by decide) (hC.2.2.2.2 _ q34) (fun _ h => h) hv hdg kk
theorem pf_X6_28 (hC : CallFix p m c cc nL s args lw_all RX6) (hK : va_K D vwCl tys s) (hP : va_P D vwCl ws H) (hD : va_D A ws) (hS : va_S A H0 H locs) (q0 : Nat) {x : Int32} (he : ws[q0]? = some (a, .inr (6, fs))) (hl : 5 < fs.length) {ws1 : va_W} (hw : ws.set q0 (a, .inr (6, fs.set 5 (.int x))) = ws1) (hdg : decode cc pc = .ok (.putfield 28, 3))
    (kk : ∀ (H1 : Heap) (locs1 : List Loc), va_P D vwCl ws1 H1 → va_D A ws1 → va_S A H0 H1 locs1 → W p l e R s m args below meth c H1 locs1 cells slots Q (F0 m (pc + 3) ls rest)) : W p l e R s m args below meth c H locs cells slots Q (F0 m pc ls (.int x :: .ref a :: rest)) := by
  subst hw
  exact va_put hC.1 hC.2.1 hC.2.2.2.2 inA_X6 tyX6 tyX6_ok nmX6 hC.2.2.2.1 hK hP hD hS q0 he rfl 5 (by decide) (hC.2.2.2.2 _ q34) (fun _ h => h) rfl (ty := .int) (by decide +kernel) rfl rfl hl hdg kk
theorem gf_X6_31 (hC : CallFix p m c cc nL s args lw_all RX6) (hK : va_K D vwCl tys s) (hP : va_P D vwCl ws H) (q0 : Nat) (he : ws[q0]? = some (a, .inr (6, fs))) (hv : fs[6]? = some v) (hdg : decode cc pc = .ok (.getfield 31, 3))
    (kk : W p l e R s m args below meth c H locs cells slots Q (F0 m (pc + 3) ls (v :: rest))) : W p l e R s m args below meth c H locs cells slots Q (F0 m pc ls (.ref a :: rest)) :=
  va_get hC.1 hC.2.1 hC.2.2.2.2 inA_X6 hC.2.2.2.1 hK hP q0 he rfl 6 (by decide) (hC.2.2.2.2 _ q35) (fun _ h => h) hv hdg kk
theorem pf_X6_31 (hC : CallFix p m c cc nL s args lw_all RX6) (hK : va_K D vwCl tys s) (hP : va_P D vwCl ws H) (hD : va_D A ws) (hS : va_S A H0 H locs) (q0 : Nat) {x : Int32} (he : ws[q0]? = some (a, .inr (6, fs))) (hl : 6 < fs.length) {ws1 : va_W} (hw : ws.set q0 (a, .inr (6, fs.set 6 (.int x))) = ws1) (hdg : decode cc pc = .ok (.putfield 31, 3))
    (kk : ∀ (H1 : Heap) (locs1 : List Loc), va_P D vwCl ws1 H1 → va_D A ws1 → va_S A H0 H1 locs1 → W p l e R s m args below meth c H1 locs1 cells slots Q (F0 m (pc + 3) ls rest)) : W p l e R s m args below meth c H locs cells slots Q (F0 m pc ls (.int x :: .ref a :: rest)) := by
  subst hw
  exact va_put hC.1 hC.2.1 hC.2.2.2.2 inA_X6 tyX6 tyX6_ok nmX6 hC.2.2.2.1 hK hP hD hS q0 he rfl 6 (by decide) (hC.2.2.2.2 _ q35) (fun _ h => h) rfl (ty := .int) (by decide +kernel) rfl rfl hl hdg kk
theorem gf_X6_34 (hC : CallFix p m c cc nL s args lw_all RX6) (hK : va_K D vwCl tys s) (hP : va_P D vwCl ws H) (q0 : Nat) (he : ws[q0]? = some (a, .inr (6, fs))) (hv : fs[7]? = some v) (hdg : decode cc pc = .ok (.getfield 34, 3))
    (kk : W p l e R s m args below meth c H locs cells slots Q (F0 m (pc + 3) ls (v :: rest))) : W p l e R s m args below meth c H locs cells slots Q (F0 m pc ls (.ref a :: rest)) :=
  va_get hC.1 hC.2.1 hC.2.2.2.2 inA_X6 hC.2.2.2.1 hK hP q0 he rfl 7 (by decide) (hC.2.2.2.2 _ q36) (fun _ h => h) hv hdg kk
theorem pf_X6_34 (hC : CallFix p m c cc nL s args lw_all RX6) (hK : va_K D vwCl tys s) (hP : va_P D vwCl ws H) (hD : va_D A ws) (hS : va_S A H0 H locs) (q0 : Nat) {x : Int32} (he : ws[q0]? = some (a, .inr (6, fs))) (hl : 7 < fs.length) {ws1 : va_W} (hw : ws.set q0 (a, .inr (6, fs.set 7 (.int x))) = ws1) (hdg : decode cc pc = .ok (.putfield 34, 3))
    (kk : ∀ (H1 : Heap) (locs1 : List Loc), va_P D vwCl ws1 H1 → va_D A ws1 → va_S A H0 H1 locs1 → W p l e R s m args below meth c H1 locs1 cells slots Q (F0 m (pc + 3) ls rest)) : W p l e R s m args below meth c H locs cells slots Q (F0 m pc ls (.int x :: .ref a :: rest)) := by
  subst hw
  exact va_put hC.1 hC.2.1 hC.2.2.2.2 inA_X6 tyX6 tyX6_ok nmX6 hC.2.2.2.1 hK hP hD hS q0 he rfl 7 (by decide) (hC.2.2.2.2 _ q36) (fun _ h => h) rfl (ty := .int) (by decide +kernel) rfl rfl hl hdg kk
theorem gf_X6_37 (hC : CallFix p m c cc nL s args lw_all RX6) (hK : va_K D vwCl tys s) (hP : va_P D vwCl ws H) (q0 : Nat) (he : ws[q0]? = some (a, .inr (6, fs))) (hv : fs[8]? = some v) (hdg : decode cc pc = .ok (.getfield 37, 3))
    (kk : W p l e R s m args below meth c H locs cells slots Q (F0 m (pc + 3) ls (v :: rest))) : W p l e R s m args below meth c H locs cells slots Q (F0 m pc ls (.ref a :: rest)) :=
  va_get hC.1 hC.2.1 hC.2.2.2.2 inA_X6 hC.2.2.2.1 hK hP q0 he rfl 8 (by decide) (hC.2.2.2.2 _ q37) (fun _ h => h) hv hdg kk
theorem pf_X6_37 (hC : CallFix p m c cc nL s args lw_all RX6) (hK : va_K D vwCl tys s) (hP : va_P D vwCl ws H) (hD : va_D A ws) (hS : va_S A H0 H locs) (q0 : Nat) {x : Int32} (he : ws[q0]? = some (a, .inr (6, fs))) (hl : 8 < fs.length) {ws1 : va_W} (hw : ws.set q0 (a, .inr (6, fs.set 8 (.int x))) = ws1) (hdg : decode cc pc = .ok (.putfield 37, 3))
    (kk : ∀ (H1 : Heap) (locs1 : List Loc), va_P D vwCl ws1 H1 → va_D A ws1 → va_S A H0 H1 locs1 → W p l e R s m args below meth c H1 locs1 cells slots Q (F0 m (pc + 3) ls rest)) : W p l e R s m args below meth c H locs cells slots Q (F0 m pc ls (.int x :: .ref a :: rest)) := by
  subst hw
  exact va_put hC.1 hC.2.1 hC.2.2.2.2 inA_X6 tyX6 tyX6_ok nmX6 hC.2.2.2.1 hK hP hD hS q0 he rfl 8 (by decide) (hC.2.2.2.2 _ q37) (fun _ h => h) rfl (ty := .int) (by decide +kernel) rfl rfl hl hdg kk
theorem gf_X0_9 (hC : CallFix p m c cc nL s args lw_all RX0) (hK : va_K D vwCl tys s) (hP : va_P D vwCl ws H) (q0 : Nat) (he : ws[q0]? = some (a, .inr (0, fs))) (hv : fs[0]? = some v) (hdg : decode cc pc = .ok (.getfield 9, 3))
    (kk : W p l e R s m args below meth c H locs cells slots Q (F0 m (pc + 3) ls (v :: rest))) : W p l e R s m args below meth c H locs cells slots Q (F0 m pc ls (.ref a :: rest)) :=
  va_get hC.1 hC.2.1 hC.2.2.2.2 inA_X0 hC.2.2.2.1 hK hP q0 he rfl 0 (by decide) (hC.2.2.2.2 _ q72) (fun _ h => h) hv hdg kk
theorem pf_X0_9 (hC : CallFix p m c cc nL s args lw_all RX0) (hK : va_K D vwCl tys s) (hP : va_P D vwCl ws H) (hD : va_D A ws) (hS : va_S A H0 H locs) (q0 : Nat) {x : Int32} (he : ws[q0]? = some (a, .inr (0, fs))) (hl : 0 < fs.length) {ws1 : va_W} (hw : ws.set q0 (a, .inr (0, fs.set 0 (.int x))) = ws1) (hdg : decode cc pc = .ok (.putfield 9, 3))
    (kk : ∀ (H1 : Heap) (locs1 : List Loc), va_P D vwCl ws1 H1 → va_D A ws1 → va_S A H0 H1 locs1 → W p l e R s m args below meth c H1 locs1 cells slots Q (F0 m (pc + 3) ls rest)) : W p l e R s m args below meth c H locs cells slots Q (F0 m pc ls (.int x :: .ref a :: rest)) := by
  subst hw
  exact va_put hC.1 hC.2.1 hC.2.2.2.2 inA_X0 tyX0 tyX0_ok nmX0 hC.2.2.2.1 hK hP hD hS q0 he rfl 0 (by decide) (hC.2.2.2.2 _ q72) (fun _ h => h) rfl (ty := .int) (by decide +kernel) rfl rfl hl hdg kk
theorem gf_X5_48 (hC : CallFix p m c cc nL s args lw_all RX5) (hK : va_K D vwCl tys s) (hP : va_P D vwCl ws H) (q0 : Nat) (he : ws[q0]? = some (a, .inr (0, fs))) (hv : fs[0]? = some v) (hdg : decode cc pc = .ok (.getfield 48, 3))
    (kk : W p l e R s m args below meth c H locs cells slots Q (F0 m (pc + 3) ls (v :: rest))) : W p l e R s m args below meth c H locs cells slots Q (F0 m pc ls (.ref a :: rest)) :=
  va_get hC.1 hC.2.1 hC.2.2.2.2 inA_X0 hC.2.2.2.1 hK hP q0 he rfl 0 (by decide) (hC.2.2.2.2 _ q73) (fun _ h => h) hv hdg kk
theorem pf_X5_48 (hC : CallFix p m c cc nL s args lw_all RX5) (hK : va_K D vwCl tys s) (hP : va_P D vwCl ws H) (hD : va_D A ws) (hS : va_S A H0 H locs) (q0 : Nat) {x : Int32} (he : ws[q0]? = some (a, .inr (0, fs))) (hl : 0 < fs.length) {ws1 : va_W} (hw : ws.set q0 (a, .inr (0, fs.set 0 (.int x))) = ws1) (hdg : decode cc pc = .ok (.putfield 48, 3))
    (kk : ∀ (H1 : Heap) (locs1 : List Loc), va_P D vwCl ws1 H1 → va_D A ws1 → va_S A H0 H1 locs1 → W p l e R s m args below meth c H1 locs1 cells slots Q (F0 m (pc + 3) ls rest)) : W p l e R s m args below meth c H locs cells slots Q (F0 m pc ls (.int x :: .ref a :: rest)) := by
  subst hw
  exact va_put hC.1 hC.2.1 hC.2.2.2.2 inA_X0 tyX0 tyX0_ok nmX0 hC.2.2.2.1 hK hP hD hS q0 he rfl 0 (by decide) (hC.2.2.2.2 _ q73) (fun _ h => h) rfl (ty := .int) (by decide +kernel) rfl rfl hl hdg kk
theorem gf_X7_74 (hC : CallFix p m c cc nL s args lw_all RX7) (hK : va_K D vwCl tys s) (hP : va_P D vwCl ws H) (q0 : Nat) (he : ws[q0]? = some (a, .inr (0, fs))) (hv : fs[0]? = some v) (hdg : decode cc pc = .ok (.getfield 74, 3))
    (kk : W p l e R s m args below meth c H locs cells slots Q (F0 m (pc + 3) ls (v :: rest))) : W p l e R s m args below meth c H locs cells slots Q (F0 m pc ls (.ref a :: rest)) :=
  va_get hC.1 hC.2.1 hC.2.2.2.2 inA_X0 hC.2.2.2.1 hK hP q0 he rfl 0 (by decide) (hC.2.2.2.2 _ q74) (fun _ h => h) hv hdg kk
theorem pf_X7_74 (hC : CallFix p m c cc nL s args lw_all RX7) (hK : va_K D vwCl tys s) (hP : va_P D vwCl ws H) (hD : va_D A ws) (hS : va_S A H0 H locs) (q0 : Nat) {x : Int32} (he : ws[q0]? = some (a, .inr (0, fs))) (hl : 0 < fs.length) {ws1 : va_W} (hw : ws.set q0 (a, .inr (0, fs.set 0 (.int x))) = ws1) (hdg : decode cc pc = .ok (.putfield 74, 3))
    (kk : ∀ (H1 : Heap) (locs1 : List Loc), va_P D vwCl ws1 H1 → va_D A ws1 → va_S A H0 H1 locs1 → W p l e R s m args below meth c H1 locs1 cells slots Q (F0 m (pc + 3) ls rest)) : W p l e R s m args below meth c H locs cells slots Q (F0 m pc ls (.int x :: .ref a :: rest)) := by
  subst hw
  exact va_put hC.1 hC.2.1 hC.2.2.2.2 inA_X0 tyX0 tyX0_ok nmX0 hC.2.2.2.1 hK hP hD hS q0 he rfl 0 (by decide) (hC.2.2.2.2 _ q74) (fun _ h => h) rfl (ty := .int) (by decide +kernel) rfl rfl hl hdg kk
theorem gf_X0_32 (hC : CallFix p m c cc nL s args lw_all RX0) (hK : va_K D vwCl tys s) (hP : va_P D vwCl ws H) (q0 : Nat) (he : ws[q0]? = some (a, .inr (0, fs))) (hv : fs[1]? = some v) (hdg : decode cc pc = .ok (.getfield 32, 3))
    (kk : W p l e R s m args below meth c H locs cells slots Q (F0 m (pc + 3) ls (v :: rest))) : W p l e R s m args below meth c H locs cells slots Q (F0 m pc ls (.ref a :: rest)) :=
  va_get hC.1 hC.2.1 hC.2.2.2.2 inA_X0 hC.2.2.2.1 hK hP q0 he rfl 1 (by decide) (hC.2.2.2.2 _ q75) (fun _ h => h) hv hdg kk
theorem pf_X0_32 (hC : CallFix p m c cc nL s args lw_all RX0) (hK : va_K D vwCl tys s) (hP : va_P D vwCl ws H) (hD : va_D A ws) (hS : va_S A H0 H locs) (q0 : Nat) {x : Int32} (he : ws[q0]? = some (a, .inr (0, fs))) (hl : 1 < fs.length) {ws1 : va_W} (hw : ws.set q0 (a, .inr (0, fs.set 1 (.int x))) = ws1) (hdg : decode cc pc = .ok (.putfield 32, 3))
    (kk : ∀ (H1 : Heap) (locs1 : List Loc), va_P D vwCl ws1 H1 → va_D A ws1 → va_S A H0 H1 locs1 → W p l e R s m args below meth c H1 locs1 cells slots Q (F0 m (pc + 3) ls rest)) : W p l e R s m args below meth c H locs cells slots Q (F0 m pc ls (.int x :: .ref a :: rest)) := by
  subst hw
  exact va_put hC.1 hC.2.1 hC.2.2.2.2 inA_X0 tyX0 tyX0_ok nmX0 hC.2.2.2.1 hK hP hD hS q0 he rfl 1 (by decide) (hC.2.2.2.2 _ q75) (fun _ h => h) rfl (ty := .int) (by decide +kernel) rfl rfl hl hdg kk
theorem gf_X7_83 (hC : CallFix p m c cc nL s args lw_all RX7) (hK : va_K D vwCl tys s) (hP : va_P D vwCl ws H) (q0 : Nat) (he : ws[q0]? = some (a, .inr (0, fs))) (hv : fs[1]? = some v) (hdg : decode cc pc = .ok (.getfield 83, 3))
    (kk : W p l e R s m args below meth c H locs cells slots Q (F0 m (pc + 3) ls (v :: rest))) : W p l e R s m args below meth c H locs cells slots Q (F0 m pc ls (.ref a :: rest)) :=
  va_get hC.1 hC.2.1 hC.2.2.2.2 inA_X0 hC.2.2.2.1 hK hP q0 he rfl 1 (by decide) (hC.2.2.2.2 _ q76) (fun _ h => h) hv hdg kk
theorem pf_X7_83 (hC : CallFix p m c cc nL s args lw_all RX7) (hK : va_K D vwCl tys s) (hP : va_P D vwCl ws H) (hD : va_D A ws) (hS : va_S A H0 H locs) (q0 : Nat) {x : Int32} (he : ws[q0]? = some (a, .inr (0, fs))) (hl : 1 < fs.length) {ws1 : va_W} (hw : ws.set q0 (a, .inr (0, fs.set 1 (.int x))) = ws1) (hdg : decode cc pc = .ok (.putfield 83, 3))
    (kk : ∀ (H1 : Heap) (locs1 : List Loc), va_P D vwCl ws1 H1 → va_D A ws1 → va_S A H0 H1 locs1 → W p l e R s m args below meth c H1 locs1 cells slots Q (F0 m (pc + 3) ls rest)) : W p l e R s m args below meth c H locs cells slots Q (F0 m pc ls (.int x :: .ref a :: rest)) := by
  subst hw
  exact va_put hC.1 hC.2.1 hC.2.2.2.2 inA_X0 tyX0 tyX0_ok nmX0 hC.2.2.2.1 hK hP hD hS q0 he rfl 1 (by decide) (hC.2.2.2.2 _ q76) (fun _ h => h) rfl (ty := .int) (by decide +kernel) rfl rfl hl hdg kk
theorem gf_X0_35 (hC : CallFix p m c cc nL s args lw_all RX0) (hK : va_K D vwCl tys s) (hP : va_P D vwCl ws H) (q0 : Nat) (he : ws[q0]? = some (a, .inr (0, fs))) (hv : fs[2]? = some v) (hdg : decode cc pc = .ok (.getfield 35, 3))
    (kk : W p l e R s m args below meth c H locs cells slots Q (F0 m (pc + 3) ls (v :: rest))) : W p l e R s m args below meth c H locs cells slots Q (F0 m pc ls (.ref a :: rest)) :=
  va_get hC.1 hC.2.1 hC.2.2.2.2 inA_X0 hC.2.2.2.1 hK hP q0 he rfl 2 (by decide) (hC.2.2.2.2 _ q77) (fun _ h => h) hv hdg kk
theorem pf_X0_35 (hC : CallFix p m c cc nL s args lw_all RX0) (hK : va_K D vwCl tys s) (hP : va_P D vwCl ws H) (hD : va_D A ws) (hS : va_S A H0 H locs) (q0 : Nat) {x : Int32} (he : ws[q0]? = some (a, .inr (0, fs))) (hl : 2 < fs.length) {ws1 : va_W} (hw : ws.set q0 (a, .inr (0, fs.set 2 (.int x))) = ws1) (hdg : decode cc pc = .ok (.putfield 35, 3))
    (kk : ∀ (H1 : Heap) (locs1 : List Loc), va_P D vwCl ws1 H1 → va_D A ws1 → va_S A H0 H1 locs1 → W p l e R s m args below meth c H1 locs1 cells slots Q (F0 m (pc + 3) ls rest)) : W p l e R s m args below meth c H locs cells slots Q (F0 m pc ls (.int x :: .ref a :: rest)) := by
  subst hw
  exact va_put hC.1 hC.2.1 hC.2.2.2.2 inA_X0 tyX0 tyX0_ok nmX0 hC.2.2.2.1 hK hP hD hS q0 he rfl 2 (by decide) (hC.2.2.2.2 _ q77) (fun _ h => h) rfl (ty := .int) (by decide +kernel) rfl rfl hl hdg kk
theorem gf_X7_86 (hC : CallFix p m c cc nL s args lw_all RX7) (hK : va_K D vwCl tys s) (hP : va_P D vwCl ws H) (q0 : Nat) (he : ws[q0]? = some (a, .inr (0, fs))) (hv : fs[2]? = some v) (hdg : decode cc pc = .ok (.getfield 86, 3))
    (kk : W p l e R s m args below meth c H locs cells slots Q (F0 m (pc + 3) ls (v :: rest))) : W p l e R s m args below meth c H locs cells slots Q (F0 m pc ls (.ref a :: rest)) :=
  va_get hC.1 hC.2.1 hC.2.2.2.2 inA_X0 hC.2.2.2.1 hK hP q0 he rfl 2 (by decide) (hC.2.2.2.2 _ q78) (fun _ h => h) hv hdg kk
theorem pf_X7_86 (hC : CallFix p m c cc nL s args lw_all RX7) (hK : va_K D vwCl tys s) (hP : va_P D vwCl ws H) (hD : va_D A ws) (hS : va_S A H0 H locs) (q0 : Nat) {x : Int32} (he : ws[q0]? = some (a, .inr (0, fs))) (hl : 2 < fs.length) {ws1 : va_W} (hw : ws.set q0 (a, .inr (0, fs.set 2 (.int x))) = ws1) (hdg : decode cc pc = .ok (.putfield 86, 3))
    (kk : ∀ (H1 : Heap) (locs1 : List Loc), va_P D vwCl ws1 H1 → va_D A ws1 → va_S A H0 H1 locs1 → W p l e R s m args below meth c H1 locs1 cells slots Q (F0 m (pc + 3) ls rest)) : W p l e R s m args below meth c H locs cells slots Q (F0 m pc ls (.int x :: .ref a :: rest)) := by
  subst hw
  exact va_put hC.1 hC.2.1 hC.2.2.2.2 inA_X0 tyX0 tyX0_ok nmX0 hC.2.2.2.1 hK hP hD hS q0 he rfl 2 (by decide) (hC.2.2.2.2 _ q78) (fun _ h => h) rfl (ty := .int) (by decide +kernel) rfl rfl hl hdg kk
theorem gf_X0_38 (hC : CallFix p m c cc nL s args lw_all RX0) (hK : va_K D vwCl tys s) (hP : va_P D vwCl ws H) (q0 : Nat) (he : ws[q0]? = some (a, .inr (0, fs))) (hv : fs[3]? = some v) (hdg : decode cc pc = .ok (.getfield 38, 3))
    (kk : W p l e R s m args below meth c H locs cells slots Q (F0 m (pc + 3) ls (v :: rest))) : W p l e R s m args below meth c H locs cells slots Q (F0 m pc ls (.ref a :: rest)) :=
  va_get hC.1 hC.2.1 hC.2.2.2.2 inA_X0 hC.2.2.2.1 hK hP q0 he rfl 3 (by decide) (hC.2.2.2.2 _ q79) (fun _ h => h) hv hdg kk
theorem pf_X0_38 (hC : CallFix p m c cc nL s args lw_all RX0) (hK : va_K D vwCl tys s) (hP : va_P D vwCl ws H) (hD : va_D A ws) (hS : va_S A H0 H locs) (q0 : Nat) {x : Int32} (he : ws[q0]? = some (a, .inr (0, fs))) (hl : 3 < fs.length) {ws1 : va_W} (hw : ws.set q0 (a, .inr (0, fs.set 3 (.int x))) = ws1) (hdg : decode cc pc = .ok (.putfield 38, 3))
    (kk : ∀ (H1 : Heap) (locs1 : List Loc), va_P D vwCl ws1 H1 → va_D A ws1 → va_S A H0 H1 locs1 → W p l e R s m args below meth c H1 locs1 cells slots Q (F0 m (pc + 3) ls rest)) : W p l e R s m args below meth c H locs cells slots Q (F0 m pc ls (.int x :: .ref a :: rest)) := by
  subst hw
  exact va_put hC.1 hC.2.1 hC.2.2.2.2 inA_X0 tyX0 tyX0_ok nmX0 hC.2.2.2.1 hK hP hD hS q0 he rfl 3 (by decide) (hC.2.2.2.2 _ q79) (fun _ h => h) rfl (ty := .int) (by decide +kernel) rfl rfl hl hdg kk
theorem gf_X5_108 (hC : CallFix p m c cc nL s args lw_all RX5) (hK : va_K D vwCl tys s) (hP : va_P D vwCl ws H) (q0 : Nat) (he : ws[q0]? = some (a, .inr (0, fs))) (hv : fs[3]? = some v) (hdg : decode cc pc = .ok (.getfield 108, 3))
    (kk : W p l e R s m args below meth c H locs cells slots Q (F0 m (pc + 3) ls (v :: rest))) : W p l e R s m args below meth c H locs cells slots Q (F0 m pc ls (.ref a :: rest)) :=
  va_get hC.1 hC.2.1 hC.2.2.2.2 inA_X0 hC.2.2.2.1 hK hP q0 he rfl 3 (by decide) (hC.2.2.2.2 _ q80) (fun _ h => h) hv hdg kk
theorem pf_X5_108 (hC : CallFix p m c cc nL s args lw_all RX5) (hK : va_K D vwCl tys s) (hP : va_P D vwCl ws H) (hD : va_D A ws) (hS : va_S A H0 H locs) (q0 : Nat) {x : Int32} (he : ws[q0]? = some (a, .inr (0, fs))) (hl : 3 < fs.length) {ws1 : va_W} (hw : ws.set q0 (a, .inr (0, fs.set 3 (.int x))) = ws1) (hdg : decode cc pc = .ok (.putfield 108, 3))
    (kk : ∀ (H1 : Heap) (locs1 : List Loc), va_P D vwCl ws1 H1 → va_D A ws1 → va_S A H0 H1 locs1 → W p l e R s m args below meth c H1 locs1 cells slots Q (F0 m (pc + 3) ls rest)) : W p l e R s m args below meth c H locs cells slots Q (F0 m pc ls (.int x :: .ref a :: rest)) := by
  subst hw
  exact va_put hC.1 hC.2.1 hC.2.2.2.2 inA_X0 tyX0 tyX0_ok nmX0 hC.2.2.2.1 hK hP hD hS q0 he rfl 3 (by decide) (hC.2.2.2.2 _ q80) (fun _ h => h) rfl (ty := .int) (by decide +kernel) rfl rfl hl hdg kk
theorem gf_X7_118 (hC : CallFix p m c cc nL s args lw_all RX7) (hK : va_K D vwCl tys s) (hP : va_P D vwCl ws H) (q0 : Nat) (he : ws[q0]? = some (a, .inr (0, fs))) (hv : fs[3]? = some v) (hdg : decode cc pc = .ok (.getfield 118, 3))
    (kk : W p l e R s m args below meth c H locs cells slots Q (F0 m (pc + 3) ls (v :: rest))) : W p l e R s m args below meth c H locs cells slots Q (F0 m pc ls (.ref a :: rest)) :=
  va_get hC.1 hC.2.1 hC.2.2.2.2 inA_X0 hC.2.2.2.1 hK hP q0 he rfl 3 (by decide) (hC.2.2.2.2 _ q81) (fun _ h => h) hv hdg kk
theorem pf_X7_118 (hC : CallFix p m c cc nL s args lw_all RX7) (hK : va_K D vwCl tys s) (hP : va_P D vwCl ws H) (hD : va_D A ws) (hS : va_S A H0 H locs) (q0 : Nat) {x : Int32} (he : ws[q0]? = some (a, .inr (0, fs))) (hl : 3 < fs.length) {ws1 : va_W} (hw : ws.set q0 (a, .inr (0, fs.set 3 (.int x))) = ws1) (hdg : decode cc pc = .ok (.putfield 118, 3))
    (kk : ∀ (H1 : Heap) (locs1 : List Loc), va_P D vwCl ws1 H1 → va_D A ws1 → va_S A H0 H1 locs1 → W p l e R s m args below meth c H1 locs1 cells slots Q (F0 m (pc + 3) ls rest)) : W p l e R s m args below meth c H locs cells slots Q (F0 m pc ls (.int x :: .ref a :: rest)) := by
  subst hw
  exact va_put hC.1 hC.2.1 hC.2.2.2.2 inA_X0 tyX0 tyX0_ok nmX0 hC.2.2.2.1 hK hP hD hS q0 he rfl 3 (by decide) (hC.2.2.2.2 _ q81) (fun _ h => h) rfl (ty := .int) (by decide +kernel) rfl rfl hl hdg kk
theorem gf_X6_79 (hC : CallFix p m c cc nL s args lw_all RX6) (hK : va_K D vwCl tys s) (hP : va_P D vwCl ws H) (q0 : Nat) (he : ws[q0]? = some (a, .inr (0, fs))) (hv : fs[3]? = some v) (hdg : decode cc pc = .ok (.getfield 79, 3))
    (kk : W p l e R s m args below meth c H locs cells slots Q (F0 m (pc + 3) ls (v :: rest))) : W p l e R s m args below meth c H locs cells slots Q (F0 m pc ls (.ref a :: rest)) :=
  va_get hC.1 hC.2.1 hC.2.2.2.2 inA_X0 hC.2.2.2.1 hK hP q0 he rfl 3 (by decide) (hC.2.2.2.2 _ q82) (fun _ h => h) hv hdg kk
theorem pf_X6_79 (hC : CallFix p m c cc nL s args lw_all RX6) (hK : va_K D vwCl tys s) (hP : va_P D vwCl ws H) (hD : va_D A ws) (hS : va_S A H0 H locs) (q0 : Nat) {x : Int32} (he : ws[q0]? = some (a, .inr (0, fs))) (hl : 3 < fs.length) {ws1 : va_W} (hw : ws.set q0 (a, .inr (0, fs.set 3 (.int x))) = ws1) (hdg : decode cc pc = .ok (.putfield 79, 3))
    (kk : ∀ (H1 : Heap) (locs1 : List Loc), va_P D vwCl ws1 H1 → va_D A ws1 → va_S A H0 H1 locs1 → W p l e R s m args below meth c H1 locs1 cells slots Q (F0 m (pc + 3) ls rest)) : W p l e R s m args below meth c H locs cells slots Q (F0 m pc ls (.int x :: .ref a :: rest)) := by
  subst hw
  exact va_put hC.1 hC.2.1 hC.2.2.2.2 inA_X0 tyX0 tyX0_ok nmX0 hC.2.2.2.1 hK hP hD hS q0 he rfl 3 (by decide) (hC.2.2.2.2 _ q82) (fun _ h => h) rfl (ty := .int) (by decide +kernel) rfl rfl hl hdg kk
theorem gf_X0_41 (hC : CallFix p m c cc nL s args lw_all RX0) (hK : va_K D vwCl tys s) (hP : va_P D vwCl ws H) (q0 : Nat) (he : ws[q0]? = some (a, .inr (0, fs))) (hv : fs[4]? = some v) (hdg : decode cc pc = .ok (.getfield 41, 3))
    (kk : W p l e R s m args below meth c H locs cells slots Q (F0 m (pc + 3) ls (v :: rest))) : W p l e R s m args below meth c H locs cells slots Q (F0 m pc ls (.ref a :: rest)) :=
  va_get hC.1 hC.2.1 hC.2.2.2.2 inA_X0 hC.2.2.2.1 hK hP q0 he rfl 4 (by decide) (hC.2.2.2.2 _ q83) (fun _ h => h) hv hdg kk
theorem pf_X0_41 (hC : CallFix p m c cc nL s args lw_all RX0) (hK : va_K D vwCl tys s) (hP : va_P D vwCl ws H) (hD : va_D A ws) (hS : va_S A H0 H locs) (q0 : Nat) {x : Int32} (he : ws[q0]? = some (a, .inr (0, fs))) (hl : 4 < fs.length) {ws1 : va_W} (hw : ws.set q0 (a, .inr (0, fs.set 4 (.int x))) = ws1) (hdg : decode cc pc = .ok (.putfield 41, 3))
    (kk : ∀ (H1 : Heap) (locs1 : List Loc), va_P D vwCl ws1 H1 → va_D A ws1 → va_S A H0 H1 locs1 → W p l e R s m args below meth c H1 locs1 cells slots Q (F0 m (pc + 3) ls rest)) : W p l e R s m args below meth c H locs cells slots Q (F0 m pc ls (.int x :: .ref a :: rest)) := by
  subst hw
  exact va_put hC.1 hC.2.1 hC.2.2.2.2 inA_X0 tyX0 tyX0_ok nmX0 hC.2.2.2.1 hK hP hD hS q0 he rfl 4 (by decide) (hC.2.2.2.2 _ q83) (fun _ h => h) rfl (ty := .int) (by decide +kernel) rfl rfl hl hdg kk
theorem gf_X1_56 (hC : CallFix p m c cc nL s args lw_all RX1) (hK : va_K D vwCl tys s) (hP : va_P D vwCl ws H) (q0 : Nat) (he : ws[q0]? = some (a, .inr (0, fs))) (hv : fs[4]? = some v) (hdg : decode cc pc = .ok (.getfield 56, 3))
    (kk : W p l e R s m args below meth c H locs cells slots Q (F0 m (pc + 3) ls (v :: rest))) : W p l e R s m args below meth c H locs cells slots Q (F0 m pc ls (.ref a :: rest)) :=
  va_get hC.1 hC.2.1 hC.2.2.2.2 inA_X0 hC.2.2.2.1 hK hP q0 he rfl 4 (by decide) (hC.2.2.2.2 _ q84) (fun _ h => h) hv hdg kk
theorem pf_X1_56 (hC : CallFix p m c cc nL s args lw_all RX1) (hK : va_K D vwCl tys s) (hP : va_P D vwCl ws H) (hD : va_D A ws) (hS : va_S A H0 H locs) (q0 : Nat) {x : Int32} (he : ws[q0]? = some (a, .inr (0, fs))) (hl : 4 < fs.length) {ws1 : va_W} (hw : ws.set q0 (a, .inr (0, fs.set 4 (.int x))) = ws1) (hdg : decode cc pc = .ok (.putfield 56, 3))
    (kk : ∀ (H1 : Heap) (locs1 : List Loc), va_P D vwCl ws1 H1 → va_D A ws1 → va_S A H0 H1 locs1 → W p l e R s m args below meth c H1 locs1 cells slots Q (F0 m (pc + 3) ls rest)) : W p l e R s m args below meth c H locs cells slots Q (F0 m pc ls (.int x :: .ref a :: rest)) := by
  subst hw
  exact va_put hC.1 hC.2.1 hC.2.2.2.2 inA_X0 tyX0 tyX0_ok nmX0 hC.2.2.2.1 hK hP hD hS q0 he rfl 4 (by decide) (hC.2.2.2.2 _ q84) (fun _ h => h) rfl (ty := .int) (by decide +kernel) rfl rfl hl hdg kk
theorem gf_X5_80 (hC : CallFix p m c cc nL s args lw_all RX5) (hK : va_K D vwCl tys s) (hP : va_P D vwCl ws H) (q0 : Nat) (he : ws[q0]? = some (a, .inr (0, fs))) (hv : fs[4]? = some v) (hdg : decode cc pc = .ok (.getfield 80, 3))
    (kk : W p l e R s m args below meth c H locs cells slots Q (F0 m (pc + 3) ls (v :: rest))) : W p l e R s m args below meth c H locs cells slots Q (F0 m pc ls (.ref a :: rest)) :=
  va_get hC.1 hC.2.1 hC.2.2.2.2 inA_X0 hC.2.2.2.1 hK hP q0 he rfl 4 (by decide) (hC.2.2.2.2 _ q85) (fun _ h => h) hv hdg kk
theorem pf_X5_80 (hC : CallFix p m c cc nL s args lw_all RX5) (hK : va_K D vwCl tys s) (hP : va_P D vwCl ws H) (hD : va_D A ws) (hS : va_S A H0 H locs) (q0 : Nat) {x : Int32} (he : ws[q0]? = some (a, .inr (0, fs))) (hl : 4 < fs.length) {ws1 : va_W} (hw : ws.set q0 (a, .inr (0, fs.set 4 (.int x))) = ws1) (hdg : decode cc pc = .ok (.putfield 80, 3))
    (kk : ∀ (H1 : Heap) (locs1 : List Loc), va_P D vwCl ws1 H1 → va_D A ws1 → va_S A H0 H1 locs1 → W p l e R s m args below meth c H1 locs1 cells slots Q (F0 m (pc + 3) ls rest)) : W p l e R s m args below meth c H locs cells slots Q (F0 m pc ls (.int x :: .ref a :: rest)) := by
  subst hw
  exact va_put hC.1 hC.2.1 hC.2.2.2.2 inA_X0 tyX0 tyX0_ok nmX0 hC.2.2.2.1 hK hP hD hS q0 he rfl 4 (by decide) (hC.2.2.2.2 _ q85) (fun _ h => h) rfl (ty := .int) (by decide +kernel) rfl rfl hl hdg kk
theorem gf_X7_80 (hC : CallFix p m c cc nL s args lw_all RX7) (hK : va_K D vwCl tys s) (hP : va_P D vwCl ws H) (q0 : Nat) (he : ws[q0]? = some (a, .inr (0, fs))) (hv : fs[4]? = some v) (hdg : decode cc pc = .ok (.getfield 80, 3))
    (kk : W p l e R s m args below meth c H locs cells slots Q (F0 m (pc + 3) ls (v :: rest))) : W p l e R s m args below meth c H locs cells slots Q (F0 m pc ls (.ref a :: rest)) :=
  va_get hC.1 hC.2.1 hC.2.2.2.2 inA_X0 hC.2.2.2.1 hK hP q0 he rfl 4 (by decide) (hC.2.2.2.2 _ q86) (fun _ h => h) hv hdg kk
theorem pf_X7_80 (hC : CallFix p m c cc nL s args lw_all RX7) (hK : va_K D vwCl tys s) (hP : va_P D vwCl ws H) (hD : va_D A ws) (hS : va_S A H0 H locs) (q0 : Nat) {x : Int32} (he : ws[q0]? = some (a, .inr (0, fs))) (hl : 4 < fs.length) {ws1 : va_W} (hw : ws.set q0 (a, .inr (0, fs.set 4 (.int x))) = ws1) (hdg : decode cc pc = .ok (.putfield 80, 3))
    (kk : ∀ (H1 : Heap) (locs1 : List Loc), va_P D vwCl ws1 H1 → va_D A ws1 → va_S A H0 H1 locs1 → W p l e R s m args below meth c H1 locs1 cells slots Q (F0 m (pc + 3) ls rest)) : W p l e R s m args below meth c H locs cells slots Q (F0 m pc ls (.int x :: .ref a :: rest)) := by
  subst hw
  exact va_put hC.1 hC.2.1 hC.2.2.2.2 inA_X0 tyX0 tyX0_ok nmX0 hC.2.2.2.1 hK hP hD hS q0 he rfl 4 (by decide) (hC.2.2.2.2 _ q86) (fun _ h => h) rfl (ty := .int) (by decide +kernel) rfl rfl hl hdg kk
theorem gf_X0_44 (hC : CallFix p m c cc nL s args lw_all RX0) (hK : va_K D vwCl tys s) (hP : va_P D vwCl ws H) (q0 : Nat) (he : ws[q0]? = some (a, .inr (0, fs))) (hv : fs[5]? = some v) (hdg : decode cc pc = .ok (.getfield 44, 3))
    (kk : W p l e R s m args below meth c H locs cells slots Q (F0 m (pc + 3) ls (v :: rest))) : W p l e R s m args below meth c H locs cells slots Q (F0 m pc ls (.ref a :: rest)) :=
  va_get hC.1 hC.2.1 hC.2.2.2.2 inA_X0 hC.2.2.2.1 hK hP q0 he rfl 5 (by decide) (hC.2.2.2.2 _ q87) (fun _ h => h) hv hdg kk
theorem pf_X0_44 (hC : CallFix p m c cc nL s args lw_all RX0) (hK : va_K D vwCl tys s) (hP : va_P D vwCl ws H) (hD : va_D A ws) (hS : va_S A H0 H locs) (q0 : Nat) {x : Int32} (he : ws[q0]? = some (a, .inr (0, fs))) (hl : 5 < fs.length) {ws1 : va_W} (hw : ws.set q0 (a, .inr (0, fs.set 5 (.int x))) = ws1) (hdg : decode cc pc = .ok (.putfield 44, 3))
    (kk : ∀ (H1 : Heap) (locs1 : List Loc), va_P D vwCl ws1 H1 → va_D A ws1 → va_S A H0 H1 locs1 → W p l e R s m args below meth c H1 locs1 cells slots Q (F0 m (pc + 3) ls rest)) : W p l e R s m args below meth c H locs cells slots Q (F0 m pc ls (.int x :: .ref a :: rest)) := by
  subst hw
  exact va_put hC.1 hC.2.1 hC.2.2.2.2 inA_X0 tyX0 tyX0_ok nmX0 hC.2.2.2.1 hK hP hD hS q0 he rfl 5 (by decide) (hC.2.2.2.2 _ q87) (fun _ h => h) rfl (ty := .int) (by decide +kernel) rfl rfl hl hdg kk
theorem gf_X0_47 (hC : CallFix p m c cc nL s args lw_all RX0) (hK : va_K D vwCl tys s) (hP : va_P D vwCl ws H) (q0 : Nat) (he : ws[q0]? = some (a, .inr (0, fs))) (hv : fs[6]? = some v) (hdg : decode cc pc = .ok (.getfield 47, 3))
    (kk : W p l e R s m args below meth c H locs cells slots Q (F0 m (pc + 3) ls (v :: rest))) : W p l e R s m args below meth c H locs cells slots Q (F0 m pc ls (.ref a :: rest)) :=
  va_get hC.1 hC.2.1 hC.2.2.2.2 inA_X0 hC.2.2.2.1 hK hP q0 he rfl 6 (by decide) (hC.2.2.2.2 _ q88) (fun _ h => h) hv hdg kk
theorem pf_X0_47 (hC : CallFix p m c cc nL s args lw_all RX0) (hK : va_K D vwCl tys s) (hP : va_P D vwCl ws H) (hD : va_D A ws) (hS : va_S A H0 H locs) (q0 : Nat) {x : Int32} (he : ws[q0]? = some (a, .inr (0, fs))) (hl : 6 < fs.length) {ws1 : va_W} (hw : ws.set q0 (a, .inr (0, fs.set 6 (.int x))) = ws1) (hdg : decode cc pc = .ok (.putfield 47, 3))
    (kk : ∀ (H1 : Heap) (locs1 : List Loc), va_P D vwCl ws1 H1 → va_D A ws1 → va_S A H0 H1 locs1 → W p l e R s m args below meth c H1 locs1 cells slots Q (F0 m (pc + 3) ls rest)) : W p l e R s m args below meth c H locs cells slots Q (F0 m pc ls (.int x :: .ref a :: rest)) := by
  subst hw
  exact va_put hC.1 hC.2.1 hC.2.2.2.2 inA_X0 tyX0 tyX0_ok nmX0 hC.2.2.2.1 hK hP hD hS q0 he rfl 6 (by decide) (hC.2.2.2.2 _ q88) (fun _ h => h) rfl (ty := .int) (by decide +kernel) rfl rfl hl hdg kk
theorem gf_X0_50 (hC : CallFix p m c cc nL s args lw_all RX0) (hK : va_K D vwCl tys s) (hP : va_P D vwCl ws H) (q0 : Nat) (he : ws[q0]? = some (a, .inr (0, fs))) (hv : fs[7]? = some v) (hdg : decode cc pc = .ok (.getfield 50, 3))
    (kk : W p l e R s m args below meth c H locs cells slots Q (F0 m (pc + 3) ls (v :: rest))) : W p l e R s m args below meth c H locs cells slots Q (F0 m pc ls (.ref a :: rest)) :=
  va_get hC.1 hC.2.1 hC.2.2.2.2 inA_X0 hC.2.2.2.1 hK hP q0 he rfl 7 (by decide) (hC.2.2.2.2 _ q89) (fun _ h => h) hv hdg kk
theorem pf_X0_50 (hC : CallFix p m c cc nL s args lw_all RX0) (hK : va_K D vwCl tys s) (hP : va_P D vwCl ws H) (hD : va_D A ws) (hS : va_S A H0 H locs) (q0 : Nat) {x : Int32} (he : ws[q0]? = some (a, .inr (0, fs))) (hl : 7 < fs.length) {ws1 : va_W} (hw : ws.set q0 (a, .inr (0, fs.set 7 (.int x))) = ws1) (hdg : decode cc pc = .ok (.putfield 50, 3))
    (kk : ∀ (H1 : Heap) (locs1 : List Loc), va_P D vwCl ws1 H1 → va_D A ws1 → va_S A H0 H1 locs1 → W p l e R s m args below meth c H1 locs1 cells slots Q (F0 m (pc + 3) ls rest)) : W p l e R s m args below meth c H locs cells slots Q (F0 m pc ls (.int x :: .ref a :: rest)) := by
  subst hw
  exact va_put hC.1 hC.2.1 hC.2.2.2.2 inA_X0 tyX0 tyX0_ok nmX0 hC.2.2.2.1 hK hP hD hS q0 he rfl 7 (by decide) (hC.2.2.2.2 _ q89) (fun _ h => h) rfl (ty := .int) (by decide +kernel) rfl rfl hl hdg kk
theorem gf_X0_53 (hC : CallFix p m c cc nL s args lw_all RX0) (hK : va_K D vwCl tys s) (hP : va_P D vwCl ws H) (q0 : Nat) (he : ws[q0]? = some (a, .inr (0, fs))) (hv : fs[8]? = some v) (hdg : decode cc pc = .ok (.getfield 53, 3))
    (kk : W p l e R s m args below meth c H locs cells slots Q (F0 m (pc + 3) ls (v :: rest))) : W p l e R s m args below meth c H locs cells slots Q (F0 m pc ls (.ref a :: rest)) :=
  va_get hC.1 hC.2.1 hC.2.2.2.2 inA_X0 hC.2.2.2.1 hK hP q0 he rfl 8 (by decide) (hC.2.2.2.2 _ q90) (fun _ h => h) hv hdg kk
theorem pf_X0_53 (hC : CallFix p m c cc nL s args lw_all RX0) (hK : va_K D vwCl tys s) (hP : va_P D vwCl ws H) (hD : va_D A ws) (hS : va_S A H0 H locs) (q0 : Nat) {x : Int32} (he : ws[q0]? = some (a, .inr (0, fs))) (hl : 8 < fs.length) {ws1 : va_W} (hw : ws.set q0 (a, .inr (0, fs.set 8 (.int x))) = ws1) (hdg : decode cc pc = .ok (.putfield 53, 3))
    (kk : ∀ (H1 : Heap) (locs1 : List Loc), va_P D vwCl ws1 H1 → va_D A ws1 → va_S A H0 H1 locs1 → W p l e R s m args below meth c H1 locs1 cells slots Q (F0 m (pc + 3) ls rest)) : W p l e R s m args below meth c H locs cells slots Q (F0 m pc ls (.int x :: .ref a :: rest)) := by
  subst hw
  exact va_put hC.1 hC.2.1 hC.2.2.2.2 inA_X0 tyX0 tyX0_ok nmX0 hC.2.2.2.1 hK hP hD hS q0 he rfl 8 (by decide) (hC.2.2.2.2 _ q90) (fun _ h => h) rfl (ty := .int) (by decide +kernel) rfl rfl hl hdg kk
theorem gf_X0_15 (hC : CallFix p m c cc nL s args lw_all RX0) (hK : va_K D vwCl tys s) (hP : va_P D vwCl ws H) (q0 : Nat) (he : ws[q0]? = some (a, .inr (0, fs))) (hv : fs[9]? = some v) (hdg : decode cc pc = .ok (.getfield 15, 3))
    (kk : W p l e R s m args below meth c H locs cells slots Q (F0 m (pc + 3) ls (v :: rest))) : W p l e R s m args below meth c H locs cells slots Q (F0 m pc ls (.ref a :: rest)) :=
  va_get hC.1 hC.2.1 hC.2.2.2.2 inA_X0 hC.2.2.2.1 hK hP q0 he rfl 9 (by decide) (hC.2.2.2.2 _ q91) (fun _ h => h) hv hdg kk
theorem gf_X3_18 (hC : CallFix p m c cc nL s args lw_all RX3) (hK : va_K D vwCl tys s) (hP : va_P D vwCl ws H) (q0 : Nat) (he : ws[q0]? = some (a, .inr (0, fs))) (hv : fs[9]? = some v) (hdg : decode cc pc = .ok (.getfield 18, 3))
    (kk : W p l e R s m args below meth c H locs cells slots Q (F0 m (pc + 3) ls (v :: rest))) : W p l e R s m args below meth c H locs cells slots Q (F0 m pc ls (.ref a :: rest)) :=
  va_get hC.1 hC.2.1 hC.2.2.2.2 inA_X0 hC.2.2.2.1 hK hP q0 he rfl 9 (by decide) (hC.2.2.2.2 _ q92) (fun _ h => h) hv hdg kk
theorem gf_X5_83 (hC : CallFix p m c cc nL s args lw_all RX5) (hK : va_K D vwCl tys s) (hP : va_P D vwCl ws H) (q0 : Nat) (he : ws[q0]? = some (a, .inr (0, fs))) (hv : fs[9]? = some v) (hdg : decode cc pc = .ok (.getfield 83, 3))
    (kk : W p l e R s m args below meth c H locs cells slots Q (F0 m (pc + 3) ls (v :: rest))) : W p l e R s m args below meth c H locs cells slots Q (F0 m pc ls (.ref a :: rest)) :=
  va_get hC.1 hC.2.1 hC.2.2.2.2 inA_X0 hC.2.2.2.1 hK hP q0 he rfl 9 (by decide) (hC.2.2.2.2 _ q93) (fun _ h => h) hv hdg kk
theorem gf_X7_135 (hC : CallFix p m c cc nL s args lw_all RX7) (hK : va_K D vwCl tys s) (hP : va_P D vwCl ws H) (q0 : Nat) (he : ws[q0]? = some (a, .inr (0, fs))) (hv : fs[9]? = some v) (hdg : decode cc pc = .ok (.getfield 135, 3))
    (kk : W p l e R s m args below meth c H locs cells slots Q (F0 m (pc + 3) ls (v :: rest))) : W p l e R s m args below meth c H locs cells slots Q (F0 m pc ls (.ref a :: rest)) :=
  va_get hC.1 hC.2.1 hC.2.2.2.2 inA_X0 hC.2.2.2.1 hK hP q0 he rfl 9 (by decide) (hC.2.2.2.2 _ q94) (fun _ h => h) hv hdg kk
theorem gf_X0_19 (hC : CallFix p m c cc nL s args lw_all RX0) (hK : va_K D vwCl tys s) (hP : va_P D vwCl ws H) (q0 : Nat) (he : ws[q0]? = some (a, .inr (0, fs))) (hv : fs[10]? = some v) (hdg : decode cc pc = .ok (.getfield 19, 3))
    (kk : W p l e R s m args below meth c H locs cells slots Q (F0 m (pc + 3) ls (v :: rest))) : W p l e R s m args below meth c H locs cells slots Q (F0 m pc ls (.ref a :: rest)) :=
  va_get hC.1 hC.2.1 hC.2.2.2.2 inA_X0 hC.2.2.2.1 hK hP q0 he rfl 10 (by decide) (hC.2.2.2.2 _ q95) (fun _ h => h) hv hdg kk
theorem gf_X7_138 (hC : CallFix p m c cc nL s args lw_all RX7) (hK : va_K D vwCl tys s) (hP : va_P D vwCl ws H) (q0 : Nat) (he : ws[q0]? = some (a, .inr (0, fs))) (hv : fs[10]? = some v) (hdg : decode cc pc = .ok (.getfield 138, 3))
    (kk : W p l e R s m args below meth c H locs cells slots Q (F0 m (pc + 3) ls (v :: rest))) : W p l e R s m args below meth c H locs cells slots Q (F0 m pc ls (.ref a :: rest)) :=
  va_get hC.1 hC.2.1 hC.2.2.2.2 inA_X0 hC.2.2.2.1 hK hP q0 he rfl 10 (by decide) (hC.2.2.2.2 _ q96) (fun _ h => h) hv hdg kk
theorem gf_X0_22 (hC : CallFix p m c cc nL s args lw_all RX0) (hK : va_K D vwCl tys s) (hP : va_P D vwCl ws H) (q0 : Nat) (he : ws[q0]? = some (a, .inr (0, fs))) (hv : fs[11]? = some v) (hdg : decode cc pc = .ok (.getfield 22, 3))
    (kk : W p l e R s m args below meth c H locs cells slots Q (F0 m (pc + 3) ls (v :: rest))) : W p l e R s m args below meth c H locs cells slots Q (F0 m pc ls (.ref a :: rest)) :=
  va_get hC.1 hC.2.1 hC.2.2.2.2 inA_X0 hC.2.2.2.1 hK hP q0 he rfl 11 (by decide) (hC.2.2.2.2 _ q97) (fun _ h => h) hv hdg kk
theorem gf_X7_141 (hC : CallFix p m c cc nL s args lw_all RX7) (hK : va_K D vwCl tys s) (hP : va_P D vwCl ws H) (q0 : Nat) (he : ws[q0]? = some (a, .inr (0, fs))) (hv : fs[11]? = some v) (hdg : decode cc pc = .ok (.getfield 141, 3))
    (kk : W p l e R s m args below meth c H locs cells slots Q (F0 m (pc + 3) ls (v :: rest))) : W p l e R s m args below meth c H locs cells slots Q (F0 m pc ls (.ref a :: rest)) :=
  va_get hC.1 hC.2.1 hC.2.2.2.2 inA_X0 hC.2.2.2.1 hK hP q0 he rfl 11 (by decide) (hC.2.2.2.2 _ q98) (fun _ h => h) hv hdg kk
theorem gf_X0_25 (hC : CallFix p m c cc nL s args lw_all RX0) (hK : va_K D vwCl tys s) (hP : va_P D vwCl ws H) (q0 : Nat) (he : ws[q0]? = some (a, .inr (0, fs))) (hv : fs[12]? = some v) (hdg : decode cc pc = .ok (.getfield 25, 3))
    (kk : W p l e R s m args below meth c H locs cells slots Q (F0 m (pc + 3) ls (v :: rest))) : W p l e R s m args below meth c H locs cells slots Q (F0 m pc ls (.ref a :: rest)) :=
  va_get hC.1 hC.2.1 hC.2.2.2.2 inA_X0 hC.2.2.2.1 hK hP q0 he rfl 12 (by decide) (hC.2.2.2.2 _ q99) (fun _ h => h) hv hdg kk
theorem gf_X3_35 (hC : CallFix p m c cc nL s args lw_all RX3) (hK : va_K D vwCl tys s) (hP : va_P D vwCl ws H) (q0 : Nat) (he : ws[q0]? = some (a, .inr (0, fs))) (hv : fs[12]? = some v) (hdg : decode cc pc = .ok (.getfield 35, 3))
    (kk : W p l e R s m args below meth c H locs cells slots Q (F0 m (pc + 3) ls (v :: rest))) : W p l e R s m args below meth c H locs cells slots Q (F0 m pc ls (.ref a :: rest)) :=
  va_get hC.1 hC.2.1 hC.2.2.2.2 inA_X0 hC.2.2.2.1 hK hP q0 he rfl 12 (by decide) (hC.2.2.2.2 _ q100) (fun _ h => h) hv hdg kk
theorem gf_X7_127 (hC : CallFix p m c cc nL s args lw_all RX7) (hK : va_K D vwCl tys s) (hP : va_P D vwCl ws H) (q0 : Nat) (he : ws[q0]? = some (a, .inr (0, fs))) (hv : fs[12]? = some v) (hdg : decode cc pc = .ok (.getfield 127, 3))
    (kk : W p l e R s m args below meth c H locs cells slots Q (F0 m (pc + 3) ls (v :: rest))) : W p l e R s m args below meth c H locs cells slots Q (F0 m pc ls (.ref a :: rest)) :=
  va_get hC.1 hC.2.1 hC.2.2.2.2 inA_X0 hC.2.2.2.1 hK hP q0 he rfl 12 (by decide) (hC.2.2.2.2 _ q101) (fun _ h => h) hv hdg kk
theorem gf_X0_60 (hC : CallFix p m c cc nL s args lw_all RX0) (hK : va_K D vwCl tys s) (hP : va_P D vwCl ws H) (q0 : Nat) (he : ws[q0]? = some (a, .inr (0, fs))) (hv : fs[13]? = some v) (hdg : decode cc pc = .ok (.getfield 60, 3))
    (kk : W p l e R s m args below meth c H locs cells slots Q (F0 m (pc + 3) ls (v :: rest))) : W p l e R s m args below meth c H locs cells slots Q (F0 m pc ls (.ref a :: rest)) :=
  va_get hC.1 hC.2.1 hC.2.2.2.2 inA_X0 hC.2.2.2.1 hK hP q0 he rfl 13 (by decide) (hC.2.2.2.2 _ q102) (fun _ h => h) hv hdg kk
theorem pf_X0_60 (hC : CallFix p m c cc nL s args lw_all RX0) (hK : va_K D vwCl tys s) (hP : va_P D vwCl ws H) (hD : va_D A ws) (hS : va_S A H0 H locs) (q0 : Nat) {x : Int32} (he : ws[q0]? = some (a, .inr (0, fs))) (hl : 13 < fs.length) {ws1 : va_W} (hw : ws.set q0 (a, .inr (0, fs.set 13 (.int x))) = ws1) (hdg : decode cc pc = .ok (.putfield 60, 3))
    (kk : ∀ (H1 : Heap) (locs1 : List Loc), va_P D vwCl ws1 H1 → va_D A ws1 → va_S A H0 H1 locs1 → W p l e R s m args below meth c H1 locs1 cells slots Q (F0 m (pc + 3) ls rest)) : W p l e R s m args below meth c H locs cells slots Q (F0 m pc ls (.int x :: .ref a :: rest)) := by
  subst hw
  exact va_put hC.1 hC.2.1 hC.2.2.2.2 inA_X0 tyX0 tyX0_ok nmX0 hC.2.2.2.1 hK hP hD hS q0 he rfl 13 (by decide) (hC.2.2.2.2 _ q102) (fun _ h => h) rfl (ty := .int) (by decide +kernel) rfl rfl hl hdg kk
theorem gf_X1_39 (hC : CallFix p m c cc nL s args lw_all RX1) (hK : va_K D vwCl tys s) (hP : va_P D vwCl ws H) (q0 : Nat) (he : ws[q0]? = some (a, .inr (0, fs))) (hv : fs[13]? = some v) (hdg : decode cc pc = .ok (.getfield 39, 3))
    (kk : W p l e R s m args below meth c H locs cells slots Q (F0 m (pc + 3) ls (v :: rest))) : W p l e R s m args below meth c H locs cells slots Q (F0 m pc ls (.ref a :: rest)) :=
  va_get hC.1 hC.2.1 hC.2.2.2.2 inA_X0 hC.2.2.2.1 hK hP q0 he rfl 13 (by decide) (hC.2.2.2.2 _ q103) (fun _ h => h) hv hdg kk
theorem pf_X1_39 (hC : CallFix p m c cc nL s args lw_all RX1) (hK : va_K D vwCl tys s) (hP : va_P D vwCl ws H) (hD : va_D A ws) (hS : va_S A H0 H locs) (q0 : Nat) {x : Int32} (he : ws[q0]? = some (a, .inr (0, fs))) (hl : 13 < fs.length) {ws1 : va_W} (hw : ws.set q0 (a, .inr (0, fs.set 13 (.int x))) = ws1) (hdg : decode cc pc = .ok (.putfield 39, 3))
    (kk : ∀ (H1 : Heap) (locs1 : List Loc), va_P D vwCl ws1 H1 → va_D A ws1 → va_S A H0 H1 locs1 → W p l e R s m args below meth c H1 locs1 cells slots Q (F0 m (pc + 3) ls rest)) : W p l e R s m args below meth c H locs cells slots Q (F0 m pc ls (.int x :: .ref a :: rest)) := by
  subst hw
  exact va_put hC.1 hC.2.1 hC.2.2.2.2 inA_X0 tyX0 tyX0_ok nmX0 hC.2.2.2.1 hK hP hD hS q0 he rfl 13 (by decide) (hC.2.2.2.2 _ q103) (fun _ h => h) rfl (ty := .int) (by decide +kernel) rfl rfl hl hdg kk
theorem gf_X7_105 (hC : CallFix p m c cc nL s args lw_all RX7) (hK : va_K D vwCl tys s) (hP : va_P D vwCl ws H) (q0 : Nat) (he : ws[q0]? = some (a, .inr (0, fs))) (hv : fs[13]? = some v) (hdg : decode cc pc = .ok (.getfield 105, 3))
    (kk : W p l e R s m args below meth c H locs cells slots Q (F0 m (pc + 3) ls (v :: rest))) : W p l e R s m args below meth c H locs cells slots Q (F0 m pc ls (.ref a :: rest)) :=
  va_get hC.1 hC.2.1 hC.2.2.2.2 inA_X0 hC.2.2.2.1 hK hP q0 he rfl 13 (by decide) (hC.2.2.2.2 _ q104) (fun _ h => h) hv hdg kk
theorem pf_X7_105 (hC : CallFix p m c cc nL s args lw_all RX7) (hK : va_K D vwCl tys s) (hP : va_P D vwCl ws H) (hD : va_D A ws) (hS : va_S A H0 H locs) (q0 : Nat) {x : Int32} (he : ws[q0]? = some (a, .inr (0, fs))) (hl : 13 < fs.length) {ws1 : va_W} (hw : ws.set q0 (a, .inr (0, fs.set 13 (.int x))) = ws1) (hdg : decode cc pc = .ok (.putfield 105, 3))
    (kk : ∀ (H1 : Heap) (locs1 : List Loc), va_P D vwCl ws1 H1 → va_D A ws1 → va_S A H0 H1 locs1 → W p l e R s m args below meth c H1 locs1 cells slots Q (F0 m (pc + 3) ls rest)) : W p l e R s m args below meth c H locs cells slots Q (F0 m pc ls (.int x :: .ref a :: rest)) := by
  subst hw
  exact va_put hC.1 hC.2.1 hC.2.2.2.2 inA_X0 tyX0 tyX0_ok nmX0 hC.2.2.2.1 hK hP hD hS q0 he rfl 13 (by decide) (hC.2.2.2.2 _ q104) (fun _ h => h) rfl (ty := .int) (by decide +kernel) rfl rfl hl hdg kk
theorem gf_X0_63 (hC : CallFix p m c cc nL s args lw_all RX0) (hK : va_K D vwCl tys s) (hP : va_P D vwCl ws H) (q0 : Nat) (he : ws[q0]? = some (a, .inr (0, fs))) (hv : fs[14]? = some v) (hdg : decode cc pc = .ok (.getfield 63, 3))
    (kk : W p l e R s m args below meth c H locs cells slots Q (F0 m (pc + 3) ls (v :: rest))) : W p l e R s m args below meth c H locs cells slots Q (F0 m pc ls (.ref a :: rest)) :=
  va_get hC.1 hC.2.1 hC.2.2.2.2 inA_X0 hC.2.2.2.1 hK hP q0 he rfl 14 (by decide) (hC.2.2.2.2 _ q105) (fun _ h => h) hv hdg kk
theorem pf_X0_63 (hC : CallFix p m c cc nL s args lw_all RX0) (hK : va_K D vwCl tys s) (hP : va_P D vwCl ws H) (hD : va_D A ws) (hS : va_S A H0 H locs) (q0 : Nat) {x : Int32} (he : ws[q0]? = some (a, .inr (0, fs))) (hl : 14 < fs.length) {ws1 : va_W} (hw : ws.set q0 (a, .inr (0, fs.set 14 (.int x))) = ws1) (hdg : decode cc pc = .ok (.putfield 63, 3))
    (kk : ∀ (H1 : Heap) (locs1 : List Loc), va_P D vwCl ws1 H1 → va_D A ws1 → va_S A H0 H1 locs1 → W p l e R s m args below meth c H1 locs1 cells slots Q (F0 m (pc + 3) ls rest)) : W p l e R s m args below meth c H locs cells slots Q (F0 m pc ls (.int x :: .ref a :: rest)) := by
  subst hw
  exact va_put hC.1 hC.2.1 hC.2.2.2.2 inA_X0 tyX0 tyX0_ok nmX0 hC.2.2.2.1 hK hP hD hS q0 he rfl 14 (by decide) (hC.2.2.2.2 _ q105) (fun _ h => h) rfl (ty := .int) (by decide +kernel) rfl rfl hl hdg kk
theorem gf_X1_42 (hC : CallFix p m c cc nL s args lw_all RX1) (hK : va_K D vwCl tys s) (hP : va_P D vwCl ws H) (q0 : Nat) (he : ws[q0]? = some (a, .inr (0, fs))) (hv : fs[14]? = some v) (hdg : decode cc pc = .ok (.getfield 42, 3))
    (kk : W p l e R s m args below meth c H locs cells slots Q (F0 m (pc + 3) ls (v :: rest))) : W p l e R s m args below meth c H locs cells slots Q (F0 m pc ls (.ref a :: rest)) :=
  va_get hC.1 hC.2.1 hC.2.2.2.2 inA_X0 hC.2.2.2.1 hK hP q0 he rfl 14 (by decide) (hC.2.2.2.2 _ q106) (fun _ h => h) hv hdg kk
theorem pf_X1_42 (hC : CallFix p m c cc nL s args lw_all RX1) (hK : va_K D vwCl tys s) (hP : va_P D vwCl ws H) (hD : va_D A ws) (hS : va_S A H0 H locs) (q0 : Nat) {x : Int32} (he : ws[q0]? = some (a, .inr (0, fs))) (hl : 14 < fs.length) {ws1 : va_W} (hw : ws.set q0 (a, .inr (0, fs.set 14 (.int x))) = ws1) (hdg : decode cc pc = .ok (.putfield 42, 3))
    (kk : ∀ (H1 : Heap) (locs1 : List Loc), va_P D vwCl ws1 H1 → va_D A ws1 → va_S A H0 H1 locs1 → W p l e R s m args below meth c H1 locs1 cells slots Q (F0 m (pc + 3) ls rest)) : W p l e R s m args below meth c H locs cells slots Q (F0 m pc ls (.int x :: .ref a :: rest)) := by
  subst hw
  exact va_put hC.1 hC.2.1 hC.2.2.2.2 inA_X0 tyX0 tyX0_ok nmX0 hC.2.2.2.1 hK hP hD hS q0 he rfl 14 (by decide) (hC.2.2.2.2 _ q106) (fun _ h => h) rfl (ty := .int) (by decide +kernel) rfl rfl hl hdg kk
theorem gf_X7_108 (hC : CallFix p m c cc nL s args lw_all RX7) (hK : va_K D vwCl tys s) (hP : va_P D vwCl ws H) (q0 : Nat) (he : ws[q0]? = some (a, .inr (0, fs))) (hv : fs[14]? = some v) (hdg : decode cc pc = .ok (.getfield 108, 3))
    (kk : W p l e R s m args below meth c H locs cells slots Q (F0 m (pc + 3) ls (v :: rest))) : W p l e R s m args below meth c H locs cells slots Q (F0 m pc ls (.ref a :: rest)) :=
  va_get hC.1 hC.2.1 hC.2.2.2.2 inA_X0 hC.2.2.2.1 hK hP q0 he rfl 14 (by decide) (hC.2.2.2.2 _ q107) (fun _ h => h) hv hdg kk
theorem pf_X7_108 (hC : CallFix p m c cc nL s args lw_all RX7) (hK : va_K D vwCl tys s) (hP : va_P D vwCl ws H) (hD : va_D A ws) (hS : va_S A H0 H locs) (q0 : Nat) {x : Int32} (he : ws[q0]? = some (a, .inr (0, fs))) (hl : 14 < fs.length) {ws1 : va_W} (hw : ws.set q0 (a, .inr (0, fs.set 14 (.int x))) = ws1) (hdg : decode cc pc = .ok (.putfield 108, 3))
    (kk : ∀ (H1 : Heap) (locs1 : List Loc), va_P D vwCl ws1 H1 → va_D A ws1 → va_S A H0 H1 locs1 → W p l e R s m args below meth c H1 locs1 cells slots Q (F0 m (pc + 3) ls rest)) : W p l e R s m args below meth c H locs cells slots Q (F0 m pc ls (.int x :: .ref a :: rest)) := by
  subst hw
  exact va_put hC.1 hC.2.1 hC.2.2.2.2 inA_X0 tyX0 tyX0_ok nmX0 hC.2.2.2.1 hK hP hD hS q0 he rfl 14 (by decide) (hC.2.2.2.2 _ q107) (fun _ h => h) rfl (ty := .int) (by decide +kernel) rfl rfl hl hdg kk
theorem gf_X0_66 (hC : CallFix p m c cc nL s args lw_all RX0) (hK : va_K D vwCl tys s) (hP : va_P D vwCl ws H) (q0 : Nat) (he : ws[q0]? = some (a, .inr (0, fs))) (hv : fs[15]? = some v) (hdg : decode cc pc = .ok (.getfield 66, 3))
    (kk : W p l e R s m args below meth c H locs cells slots Q (F0 m (pc + 3) ls (v :: rest))) : W p l e R s m args below meth c H locs cells slots Q (F0 m pc ls (.ref a :: rest)) :=
  va_get hC.1 hC.2.1 hC.2.2.2.2 inA_X0 hC.2.2.2.1 hK hP q0 he rfl 15 (by decide) (hC.2.2.2.2 _ q108) (fun _ h => h) hv hdg kk
theorem pf_X0_66 (hC : CallFix p m c cc nL s args lw_all RX0) (hK : va_K D vwCl tys s) (hP : va_P D vwCl ws H) (hD : va_D A ws) (hS : va_S A H0 H locs) (q0 : Nat) {x : Int32} (he : ws[q0]? = some (a, .inr (0, fs))) (hl : 15 < fs.length) {ws1 : va_W} (hw : ws.set q0 (a, .inr (0, fs.set 15 (.int x))) = ws1) (hdg : decode cc pc = .ok (.putfield 66, 3))
    (kk : ∀ (H1 : Heap) (locs1 : List Loc), va_P D vwCl ws1 H1 → va_D A ws1 → va_S A H0 H1 locs1 → W p l e R s m args below meth c H1 locs1 cells slots Q (F0 m (pc + 3) ls rest)) : W p l e R s m args below meth c H locs cells slots Q (F0 m pc ls (.int x :: .ref a :: rest)) := by
  subst hw
  exact va_put hC.1 hC.2.1 hC.2.2.2.2 inA_X0 tyX0 tyX0_ok nmX0 hC.2.2.2.1 hK hP hD hS q0 he rfl 15 (by decide) (hC.2.2.2.2 _ q108) (fun _ h => h) rfl (ty := .int) (by decide +kernel) rfl rfl hl hdg kk
theorem gf_X7_99 (hC : CallFix p m c cc nL s args lw_all RX7) (hK : va_K D vwCl tys s) (hP : va_P D vwCl ws H) (q0 : Nat) (he : ws[q0]? = some (a, .inr (0, fs))) (hv : fs[15]? = some v) (hdg : decode cc pc = .ok (.getfield 99, 3))
    (kk : W p l e R s m args below meth c H locs cells slots Q (F0 m (pc + 3) ls (v :: rest))) : W p l e R s m args below meth c H locs cells slots Q (F0 m pc ls (.ref a :: rest)) :=
  va_get hC.1 hC.2.1 hC.2.2.2.2 inA_X0 hC.2.2.2.1 hK hP q0 he rfl 15 (by decide) (hC.2.2.2.2 _ q109) (fun _ h => h) hv hdg kk
theorem pf_X7_99 (hC : CallFix p m c cc nL s args lw_all RX7) (hK : va_K D vwCl tys s) (hP : va_P D vwCl ws H) (hD : va_D A ws) (hS : va_S A H0 H locs) (q0 : Nat) {x : Int32} (he : ws[q0]? = some (a, .inr (0, fs))) (hl : 15 < fs.length) {ws1 : va_W} (hw : ws.set q0 (a, .inr (0, fs.set 15 (.int x))) = ws1) (hdg : decode cc pc = .ok (.putfield 99, 3))
    (kk : ∀ (H1 : Heap) (locs1 : List Loc), va_P D vwCl ws1 H1 → va_D A ws1 → va_S A H0 H1 locs1 → W p l e R s m args below meth c H1 locs1 cells slots Q (F0 m (pc + 3) ls rest)) : W p l e R s m args below meth c H locs cells slots Q (F0 m pc ls (.int x :: .ref a :: rest)) := by
  subst hw
  exact va_put hC.1 hC.2.1 hC.2.2.2.2 inA_X0 tyX0 tyX0_ok nmX0 hC.2.2.2.1 hK hP hD hS q0 he rfl 15 (by decide) (hC.2.2.2.2 _ q109) (fun _ h => h) rfl (ty := .int) (by decide +kernel) rfl rfl hl hdg kk
theorem gf_X0_69 (hC : CallFix p m c cc nL s args lw_all RX0) (hK : va_K D vwCl tys s) (hP : va_P D vwCl ws H) (q0 : Nat) (he : ws[q0]? = some (a, .inr (0, fs))) (hv : fs[16]? = some v) (hdg : decode cc pc = .ok (.getfield 69, 3))
    (kk : W p l e R s m args below meth c H locs cells slots Q (F0 m (pc + 3) ls (v :: rest))) : W p l e R s m args below meth c H locs cells slots Q (F0 m pc ls (.ref a :: rest)) :=
  va_get hC.1 hC.2.1 hC.2.2.2.2 inA_X0 hC.2.2.2.1 hK hP q0 he rfl 16 (by decide) (hC.2.2.2.2 _ q110) (fun _ h => h) hv hdg kk
theorem pf_X0_69 (hC : CallFix p m c cc nL s args lw_all RX0) (hK : va_K D vwCl tys s) (hP : va_P D vwCl ws H) (hD : va_D A ws) (hS : va_S A H0 H locs) (q0 : Nat) {x : Int32} (he : ws[q0]? = some (a, .inr (0, fs))) (hl : 16 < fs.length) {ws1 : va_W} (hw : ws.set q0 (a, .inr (0, fs.set 16 (.int x))) = ws1) (hdg : decode cc pc = .ok (.putfield 69, 3))
    (kk : ∀ (H1 : Heap) (locs1 : List Loc), va_P D vwCl ws1 H1 → va_D A ws1 → va_S A H0 H1 locs1 → W p l e R s m args below meth c H1 locs1 cells slots Q (F0 m (pc + 3) ls rest)) : W p l e R s m args below meth c H locs cells slots Q (F0 m pc ls (.int x :: .ref a :: rest)) := by
  subst hw
  exact va_put hC.1 hC.2.1 hC.2.2.2.2 inA_X0 tyX0 tyX0_ok nmX0 hC.2.2.2.1 hK hP hD hS q0 he rfl 16 (by decide) (hC.2.2.2.2 _ q110) (fun _ h => h) rfl (ty := .int) (by decide +kernel) rfl rfl hl hdg kk
theorem gf_X7_102 (hC : CallFix p m c cc nL s args lw_all RX7) (hK : va_K D vwCl tys s) (hP : va_P D vwCl ws H) (q0 : Nat) (he : ws[q0]? = some (a, .inr (0, fs))) (hv : fs[16]? = some v) (hdg : decode cc pc = .ok (.getfield 102, 3))
    (kk : W p l e R s m args below meth c H locs cells slots Q (F0 m (pc + 3) ls (v :: rest))) : W p l e R s m args below meth c H locs cells slots Q (F0 m pc ls (.ref a :: rest)) :=
  va_get hC.1 hC.2.1 hC.2.2.2.2 inA_X0 hC.2.2.2.1 hK hP q0 he rfl 16 (by decide) (hC.2.2.2.2 _ q111) (fun _ h => h) hv hdg kk
theorem pf_X7_102 (hC : CallFix p m c cc nL s args lw_all RX7) (hK : va_K D vwCl tys s) (hP : va_P D vwCl ws H) (hD : va_D A ws) (hS : va_S A H0 H locs) (q0 : Nat) {x : Int32} (he : ws[q0]? = some (a, .inr (0, fs))) (hl : 16 < fs.length) {ws1 : va_W} (hw : ws.set q0 (a, .inr (0, fs.set 16 (.int x))) = ws1) (hdg : decode cc pc = .ok (.putfield 102, 3))
    (kk : ∀ (H1 : Heap) (locs1 : List Loc), va_P D vwCl ws1 H1 → va_D A ws1 → va_S A H0 H1 locs1 → W p l e R s m args below meth c H1 locs1 cells slots Q (F0 m (pc + 3) ls rest)) : W p l e R s m args below meth c H locs cells slots Q (F0 m pc ls (.int x :: .ref a :: rest)) := by
  subst hw
  exact va_put hC.1 hC.2.1 hC.2.2.2.2 inA_X0 tyX0 tyX0_ok nmX0 hC.2.2.2.1 hK hP hD hS q0 he rfl 16 (by decide) (hC.2.2.2.2 _ q111) (fun _ h => h) rfl (ty := .int) (by decide +kernel) rfl rfl hl hdg kk
theorem gf_X0_72 (hC : CallFix p m c cc nL s args lw_all RX0) (hK : va_K D vwCl tys s) (hP : va_P D vwCl ws H) (q0 : Nat) (he : ws[q0]? = some (a, .inr (0, fs))) (hv : fs[17]? = some v) (hdg : decode cc pc = .ok (.getfield 72, 3))
    (kk : W p l e R s m args below meth c H locs cells slots Q (F0 m (pc + 3) ls (v :: rest))) : W p l e R s m args below meth c H locs cells slots Q (F0 m pc ls (.ref a :: rest)) :=
  va_get hC.1 hC.2.1 hC.2.2.2.2 inA_X0 hC.2.2.2.1 hK hP q0 he rfl 17 (by decide) (hC.2.2.2.2 _ q112) (fun _ h => h) hv hdg kk
theorem pf_X0_72 (hC : CallFix p m c cc nL s args lw_all RX0) (hK : va_K D vwCl tys s) (hP : va_P D vwCl ws H) (hD : va_D A ws) (hS : va_S A H0 H locs) (q0 : Nat) {x : Int32} (he : ws[q0]? = some (a, .inr (0, fs))) (hl : 17 < fs.length) {ws1 : va_W} (hw : ws.set q0 (a, .inr (0, fs.set 17 (.int x))) = ws1) (hdg : decode cc pc = .ok (.putfield 72, 3))
    (kk : ∀ (H1 : Heap) (locs1 : List Loc), va_P D vwCl ws1 H1 → va_D A ws1 → va_S A H0 H1 locs1 → W p l e R s m args below meth c H1 locs1 cells slots Q (F0 m (pc + 3) ls rest)) : W p l e R s m args below meth c H locs cells slots Q (F0 m pc ls (.int x :: .ref a :: rest)) := by
  subst hw
  exact va_put hC.1 hC.2.1 hC.2.2.2.2 inA_X0 tyX0 tyX0_ok nmX0 hC.2.2.2.1 hK hP hD hS q0 he rfl 17 (by decide) (hC.2.2.2.2 _ q112) (fun _ h => h) rfl (ty := .int) (by decide +kernel) rfl rfl hl hdg kk
theorem gf_X2_11 (hC : CallFix p m c cc nL s args lw_all RX2) (hK : va_K D vwCl tys s) (hP : va_P D vwCl ws H) (q0 : Nat) (he : ws[q0]? = some (a, .inr (2, fs))) (hv : fs[0]? = some v) (hdg : decode cc pc = .ok (.getfield 11, 3))
    (kk : W p l e R s m args below meth c H locs cells slots Q (F0 m (pc + 3) ls (v :: rest))) : W p l e R s m args below meth c H locs cells slots Q (F0 m pc ls (.ref a :: rest)) :=
  va_get hC.1 hC.2.1 hC.2.2.2.2 inA_X2 hC.2.2.2.1 hK hP q0 he rfl 0 (by decide) (hC.2.2.2.2 _ q159) (fun _ h => h) hv hdg kk
theorem gf_X2_17 (hC : CallFix p m c cc nL s args lw_all RX2) (hK : va_K D vwCl tys s) (hP : va_P D vwCl ws H) (q0 : Nat) (he : ws[q0]? = some (a, .inr (2, fs))) (hv : fs[1]? = some v) (hdg : decode cc pc = .ok (.getfield 17, 3))
    (kk : W p l e R s m args below meth c H locs cells slots Q (F0 m (pc + 3) ls (v :: rest))) : W p l e R s m args below meth c H locs cells slots Q (F0 m pc ls (.ref a :: rest)) :=
  va_get hC.1 hC.2.1 hC.2.2.2.2 inA_X2 hC.2.2.2.1 hK hP q0 he rfl 1 (by decide) (hC.2.2.2.2 _ q160) (fun _ h => h) hv hdg kk
theorem pf_X2_17 (hC : CallFix p m c cc nL s args lw_all RX2) (hK : va_K D vwCl tys s) (hP : va_P D vwCl ws H) (hD : va_D A ws) (hS : va_S A H0 H locs) (q0 : Nat) {x : Int32} (he : ws[q0]? = some (a, .inr (2, fs))) (hl : 1 < fs.length) {ws1 : va_W} (hw : ws.set q0 (a, .inr (2, fs.set 1 (.int x))) = ws1) (hdg : decode cc pc = .ok (.putfield 17, 3))
    (kk : ∀ (H1 : Heap) (locs1 : List Loc), va_P D vwCl ws1 H1 → va_D A ws1 → va_S A H0 H1 locs1 → W p l e R s m args below meth c H1 locs1 cells slots Q (F0 m (pc + 3) ls rest)) : W p l e R s m args below meth c H locs cells slots Q (F0 m pc ls (.int x :: .ref a :: rest)) := by
  subst hw
  exact va_put hC.1 hC.2.1 hC.2.2.2.2 inA_X2 tyX2 tyX2_ok nmX2 hC.2.2.2.1 hK hP hD hS q0 he rfl 1 (by decide) (hC.2.2.2.2 _ q160) (fun _ h => h) rfl (ty := .int) (by decide +kernel) rfl rfl hl hdg kk
theorem gf_X2_21 (hC : CallFix p m c cc nL s args lw_all RX2) (hK : va_K D vwCl tys s) (hP : va_P D vwCl ws H) (q0 : Nat) (he : ws[q0]? = some (a, .inr (2, fs))) (hv : fs[2]? = some v) (hdg : decode cc pc = .ok (.getfield 21, 3))
    (kk : W p l e R s m args below meth c H locs cells slots Q (F0 m (pc + 3) ls (v :: rest))) : W p l e R s m args below meth c H locs cells slots Q (F0 m pc ls (.ref a :: rest)) :=
  va_get hC.1 hC.2.1 hC.2.2.2.2 inA_X2 hC.2.2.2.1 hK hP q0 he rfl 2 (by decide) (hC.2.2.2.2 _ q161) (fun _ h => h) hv hdg kk
theorem pf_X2_21 (hC : CallFix p m c cc nL s args lw_all RX2) (hK : va_K D vwCl tys s) (hP : va_P D vwCl ws H) (hD : va_D A ws) (hS : va_S A H0 H locs) (q0 : Nat) {x : Int32} (he : ws[q0]? = some (a, .inr (2, fs))) (hl : 2 < fs.length) {ws1 : va_W} (hw : ws.set q0 (a, .inr (2, fs.set 2 (.int x))) = ws1) (hdg : decode cc pc = .ok (.putfield 21, 3))
    (kk : ∀ (H1 : Heap) (locs1 : List Loc), va_P D vwCl ws1 H1 → va_D A ws1 → va_S A H0 H1 locs1 → W p l e R s m args below meth c H1 locs1 cells slots Q (F0 m (pc + 3) ls rest)) : W p l e R s m args below meth c H locs cells slots Q (F0 m pc ls (.int x :: .ref a :: rest)) := by
  subst hw
  exact va_put hC.1 hC.2.1 hC.2.2.2.2 inA_X2 tyX2 tyX2_ok nmX2 hC.2.2.2.1 hK hP hD hS q0 he rfl 2 (by decide) (hC.2.2.2.2 _ q161) (fun _ h => h) rfl (ty := .int) (by decide +kernel) rfl rfl hl hdg kk
theorem gf_X3_9 (hC : CallFix p m c cc nL s args lw_all RX3) (hK : va_K D vwCl tys s) (hP : va_P D vwCl ws H) (q0 : Nat) (he : ws[q0]? = some (a, .inr (3, fs))) (hv : fs[0]? = some v) (hdg : decode cc pc = .ok (.getfield 9, 3))
    (kk : W p l e R s m args below meth c H locs cells slots Q (F0 m (pc + 3) ls (v :: rest))) : W p l e R s m args below meth c H locs cells slots Q (F0 m pc ls (.ref a :: rest)) :=
  va_get hC.1 hC.2.1 hC.2.2.2.2 inA_X3 hC.2.2.2.1 hK hP q0 he rfl 0 (by decide) (hC.2.2.2.2 _ q175) (fun _ h => h) hv hdg kk
theorem gf_X7_161 (hC : CallFix p m c cc nL s args lw_all RX7) (hK : va_K D vwCl tys s) (hP : va_P D vwCl ws H) (q0 : Nat) (he : ws[q0]? = some (a, .inr (3, fs))) (hv : fs[0]? = some v) (hdg : decode cc pc = .ok (.getfield 161, 3))
    (kk : W p l e R s m args below meth c H locs cells slots Q (F0 m (pc + 3) ls (v :: rest))) : W p l e R s m args below meth c H locs cells slots Q (F0 m pc ls (.ref a :: rest)) :=
  va_get hC.1 hC.2.1 hC.2.2.2.2 inA_X3 hC.2.2.2.1 hK hP q0 he rfl 0 (by decide) (hC.2.2.2.2 _ q176) (fun _ h => h) hv hdg kk
theorem gf_X3_15 (hC : CallFix p m c cc nL s args lw_all RX3) (hK : va_K D vwCl tys s) (hP : va_P D vwCl ws H) (q0 : Nat) (he : ws[q0]? = some (a, .inr (3, fs))) (hv : fs[1]? = some v) (hdg : decode cc pc = .ok (.getfield 15, 3))
    (kk : W p l e R s m args below meth c H locs cells slots Q (F0 m (pc + 3) ls (v :: rest))) : W p l e R s m args below meth c H locs cells slots Q (F0 m pc ls (.ref a :: rest)) :=
  va_get hC.1 hC.2.1 hC.2.2.2.2 inA_X3 hC.2.2.2.1 hK hP q0 he rfl 1 (by decide) (hC.2.2.2.2 _ q177) (fun _ h => h) hv hdg kk
theorem gf_X4_9 (hC : CallFix p m c cc nL s args lw_all RX4) (hK : va_K D vwCl tys s) (hP : va_P D vwCl ws H) (q0 : Nat) (he : ws[q0]? = some (a, .inr (4, fs))) (hv : fs[0]? = some v) (hdg : decode cc pc = .ok (.getfield 9, 3))
    (kk : W p l e R s m args below meth c H locs cells slots Q (F0 m (pc + 3) ls (v :: rest))) : W p l e R s m args below meth c H locs cells slots Q (F0 m pc ls (.ref a :: rest)) :=
  va_get hC.1 hC.2.1 hC.2.2.2.2 inA_X4 hC.2.2.2.1 hK hP q0 he rfl 0 (by decide) (hC.2.2.2.2 _ q189) (fun _ h => h) hv hdg kk
theorem gf_X1_47 (hC : CallFix p m c cc nL s args lw_all RX1) (hK : va_K D vwCl tys s) (hP : va_P D vwCl ws H) (q0 : Nat) (he : ws[q0]? = some (a, .inr (4, fs))) (hv : fs[0]? = some v) (hdg : decode cc pc = .ok (.getfield 47, 3))
    (kk : W p l e R s m args below meth c H locs cells slots Q (F0 m (pc + 3) ls (v :: rest))) : W p l e R s m args below meth c H locs cells slots Q (F0 m pc ls (.ref a :: rest)) :=
  va_get hC.1 hC.2.1 hC.2.2.2.2 inA_X4 hC.2.2.2.1 hK hP q0 he rfl 0 (by decide) (hC.2.2.2.2 _ q190) (fun _ h => h) hv hdg kk
theorem gf_X4_15 (hC : CallFix p m c cc nL s args lw_all RX4) (hK : va_K D vwCl tys s) (hP : va_P D vwCl ws H) (q0 : Nat) (he : ws[q0]? = some (a, .inr (4, fs))) (hv : fs[1]? = some v) (hdg : decode cc pc = .ok (.getfield 15, 3))
    (kk : W p l e R s m args below meth c H locs cells slots Q (F0 m (pc + 3) ls (v :: rest))) : W p l e R s m args below meth c H locs cells slots Q (F0 m pc ls (.ref a :: rest)) :=
  va_get hC.1 hC.2.1 hC.2.2.2.2 inA_X4 hC.2.2.2.1 hK hP q0 he rfl 1 (by decide) (hC.2.2.2.2 _ q191) (fun _ h => h) hv hdg kk
theorem gf_X1_78 (hC : CallFix p m c cc nL s args lw_all RX1) (hK : va_K D vwCl tys s) (hP : va_P D vwCl ws H) (q0 : Nat) (he : ws[q0]? = some (a, .inr (4, fs))) (hv : fs[1]? = some v) (hdg : decode cc pc = .ok (.getfield 78, 3))
    (kk : W p l e R s m args below meth c H locs cells slots Q (F0 m (pc + 3) ls (v :: rest))) : W p l e R s m args below meth c H locs cells slots Q (F0 m pc ls (.ref a :: rest)) :=
  va_get hC.1 hC.2.1 hC.2.2.2.2 inA_X4 hC.2.2.2.1 hK hP q0 he rfl 1 (by decide) (hC.2.2.2.2 _ q192) (fun _ h => h) hv hdg kk
theorem gf_X4_18 (hC : CallFix p m c cc nL s args lw_all RX4) (hK : va_K D vwCl tys s) (hP : va_P D vwCl ws H) (q0 : Nat) (he : ws[q0]? = some (a, .inr (4, fs))) (hv : fs[2]? = some v) (hdg : decode cc pc = .ok (.getfield 18, 3))
    (kk : W p l e R s m args below meth c H locs cells slots Q (F0 m (pc + 3) ls (v :: rest))) : W p l e R s m args below meth c H locs cells slots Q (F0 m pc ls (.ref a :: rest)) :=
  va_get hC.1 hC.2.1 hC.2.2.2.2 inA_X4 hC.2.2.2.1 hK hP q0 he rfl 2 (by decide) (hC.2.2.2.2 _ q193) (fun _ h => h) hv hdg kk
theorem gf_X1_107 (hC : CallFix p m c cc nL s args lw_all RX1) (hK : va_K D vwCl tys s) (hP : va_P D vwCl ws H) (q0 : Nat) (he : ws[q0]? = some (a, .inr (4, fs))) (hv : fs[2]? = some v) (hdg : decode cc pc = .ok (.getfield 107, 3))
    (kk : W p l e R s m args below meth c H locs cells slots Q (F0 m (pc + 3) ls (v :: rest))) : W p l e R s m args below meth c H locs cells slots Q (F0 m pc ls (.ref a :: rest)) :=
  va_get hC.1 hC.2.1 hC.2.2.2.2 inA_X4 hC.2.2.2.1 hK hP q0 he rfl 2 (by decide) (hC.2.2.2.2 _ q194) (fun _ h => h) hv hdg kk
theorem gf_X1_31 (hC : CallFix p m c cc nL s args lw_all RX1) (hK : va_K D vwCl tys s) (hP : va_P D vwCl ws H) (q0 : Nat) (he : ws[q0]? = some (a, .inr (1, fs))) (hv : fs[0]? = some v) (hdg : decode cc pc = .ok (.getfield 31, 3))
    (kk : W p l e R s m args below meth c H locs cells slots Q (F0 m (pc + 3) ls (v :: rest))) : W p l e R s m args below meth c H locs cells slots Q (F0 m pc ls (.ref a :: rest)) :=
  va_get hC.1 hC.2.1 hC.2.2.2.2 inA_X1 hC.2.2.2.1 hK hP q0 he rfl 0 (by decide) (hC.2.2.2.2 _ q214) (fun _ h => h) hv hdg kk
theorem gf_X1_35 (hC : CallFix p m c cc nL s args lw_all RX1) (hK : va_K D vwCl tys s) (hP : va_P D vwCl ws H) (q0 : Nat) (he : ws[q0]? = some (a, .inr (1, fs))) (hv : fs[1]? = some v) (hdg : decode cc pc = .ok (.getfield 35, 3))
    (kk : W p l e R s m args below meth c H locs cells slots Q (F0 m (pc + 3) ls (v :: rest))) : W p l e R s m args below meth c H locs cells slots Q (F0 m pc ls (.ref a :: rest)) :=
  va_get hC.1 hC.2.1 hC.2.2.2.2 inA_X1 hC.2.2.2.1 hK hP q0 he rfl 1 (by decide) (hC.2.2.2.2 _ q215) (fun _ h => h) hv hdg kk
theorem gf_X1_9 (hC : CallFix p m c cc nL s args lw_all RX1) (hK : va_K D vwCl tys s) (hP : va_P D vwCl ws H) (q0 : Nat) (he : ws[q0]? = some (a, .inr (1, fs))) (hv : fs[2]? = some v) (hdg : decode cc pc = .ok (.getfield 9, 3))
    (kk : W p l e R s m args below meth c H locs cells slots Q (F0 m (pc + 3) ls (v :: rest))) : W p l e R s m args below meth c H locs cells slots Q (F0 m pc ls (.ref a :: rest)) :=
  va_get hC.1 hC.2.1 hC.2.2.2.2 inA_X1 hC.2.2.2.1 hK hP q0 he rfl 2 (by decide) (hC.2.2.2.2 _ q216) (fun _ h => h) hv hdg kk
theorem gf_X5_124 (hC : CallFix p m c cc nL s args lw_all RX5) (hK : va_K D vwCl tys s) (hP : va_P D vwCl ws H) (q0 : Nat) (he : ws[q0]? = some (a, .inr (1, fs))) (hv : fs[2]? = some v) (hdg : decode cc pc = .ok (.getfield 124, 3))
    (kk : W p l e R s m args below meth c H locs cells slots Q (F0 m (pc + 3) ls (v :: rest))) : W p l e R s m args below meth c H locs cells slots Q (F0 m pc ls (.ref a :: rest)) :=
  va_get hC.1 hC.2.1 hC.2.2.2.2 inA_X1 hC.2.2.2.1 hK hP q0 he rfl 2 (by decide) (hC.2.2.2.2 _ q217) (fun _ h => h) hv hdg kk
theorem gf_X1_15 (hC : CallFix p m c cc nL s args lw_all RX1) (hK : va_K D vwCl tys s) (hP : va_P D vwCl ws H) (q0 : Nat) (he : ws[q0]? = some (a, .inr (1, fs))) (hv : fs[3]? = some v) (hdg : decode cc pc = .ok (.getfield 15, 3))
    (kk : W p l e R s m args below meth c H locs cells slots Q (F0 m (pc + 3) ls (v :: rest))) : W p l e R s m args below meth c H locs cells slots Q (F0 m pc ls (.ref a :: rest)) :=
  va_get hC.1 hC.2.1 hC.2.2.2.2 inA_X1 hC.2.2.2.1 hK hP q0 he rfl 3 (by decide) (hC.2.2.2.2 _ q218) (fun _ h => h) hv hdg kk
theorem pf_X1_15 (hC : CallFix p m c cc nL s args lw_all RX1) (hK : va_K D vwCl tys s) (hP : va_P D vwCl ws H) (hD : va_D A ws) (hS : va_S A H0 H locs) (q0 : Nat) {x : Int32} (he : ws[q0]? = some (a, .inr (1, fs))) (hl : 3 < fs.length) {ws1 : va_W} (hw : ws.set q0 (a, .inr (1, fs.set 3 (.int x))) = ws1) (hdg : decode cc pc = .ok (.putfield 15, 3))
    (kk : ∀ (H1 : Heap) (locs1 : List Loc), va_P D vwCl ws1 H1 → va_D A ws1 → va_S A H0 H1 locs1 → W p l e R s m args below meth c H1 locs1 cells slots Q (F0 m (pc + 3) ls rest)) : W p l e R s m args below meth c H locs cells slots Q (F0 m pc ls (.int x :: .ref a :: rest)) := by
  subst hw
  exact va_put hC.1 hC.2.1 hC.2.2.2.2 inA_X1 tyX1 tyX1_ok nmX1 hC.2.2.2.1 hK hP hD hS q0 he rfl 3 (by decide) (hC.2.2.2.2 _ q218) (fun _ h => h) rfl (ty := .int) (by decide +kernel) rfl rfl hl hdg kk
theorem gf_X1_19 (hC : CallFix p m c cc nL s args lw_all RX1) (hK : va_K D vwCl tys s) (hP : va_P D vwCl ws H) (q0 : Nat) (he : ws[q0]? = some (a, .inr (1, fs))) (hv : fs[4]? = some v) (hdg : decode cc pc = .ok (.getfield 19, 3))
    (kk : W p l e R s m args below meth c H locs cells slots Q (F0 m (pc + 3) ls (v :: rest))) : W p l e R s m args below meth c H locs cells slots Q (F0 m pc ls (.ref a :: rest)) :=
  va_get hC.1 hC.2.1 hC.2.2.2.2 inA_X1 hC.2.2.2.1 hK hP q0 he rfl 4 (by decide) (hC.2.2.2.2 _ q219) (fun _ h => h) hv hdg kk
theorem pf_X1_19 (hC : CallFix p m c cc nL s args lw_all RX1) (hK : va_K D vwCl tys s) (hP : va_P D vwCl ws H) (hD : va_D A ws) (hS : va_S A H0 H locs) (q0 : Nat) {x : Int32} (he : ws[q0]? = some (a, .inr (1, fs))) (hl : 4 < fs.length) {ws1 : va_W} (hw : ws.set q0 (a, .inr (1, fs.set 4 (.int x))) = ws1) (hdg : decode cc pc = .ok (.putfield 19, 3))
    (kk : ∀ (H1 : Heap) (locs1 : List Loc), va_P D vwCl ws1 H1 → va_D A ws1 → va_S A H0 H1 locs1 → W p l e R s m args below meth c H1 locs1 cells slots Q (F0 m (pc + 3) ls rest)) : W p l e R s m args below meth c H locs cells slots Q (F0 m pc ls (.int x :: .ref a :: rest)) := by
  subst hw
  exact va_put hC.1 hC.2.1 hC.2.2.2.2 inA_X1 tyX1 tyX1_ok nmX1 hC.2.2.2.1 hK hP hD hS q0 he rfl 4 (by decide) (hC.2.2.2.2 _ q219) (fun _ h => h) rfl (ty := .int) (by decide +kernel) rfl rfl hl hdg kk
theorem gf_X1_22 (hC : CallFix p m c cc nL s args lw_all RX1) (hK : va_K D vwCl tys s) (hP : va_P D vwCl ws H) (q0 : Nat) (he : ws[q0]? = some (a, .inr (1, fs))) (hv : fs[5]? = some v) (hdg : decode cc pc = .ok (.getfield 22, 3))
    (kk : W p l e R s m args below meth c H locs cells slots Q (F0 m (pc + 3) ls (v :: rest))) : W p l e R s m args below meth c H locs cells slots Q (F0 m pc ls (.ref a :: rest)) :=
  va_get hC.1 hC.2.1 hC.2.2.2.2 inA_X1 hC.2.2.2.1 hK hP q0 he rfl 5 (by decide) (hC.2.2.2.2 _ q220) (fun _ h => h) hv hdg kk
theorem pf_X1_22 (hC : CallFix p m c cc nL s args lw_all RX1) (hK : va_K D vwCl tys s) (hP : va_P D vwCl ws H) (hD : va_D A ws) (hS : va_S A H0 H locs) (q0 : Nat) {x : Int32} (he : ws[q0]? = some (a, .inr (1, fs))) (hl : 5 < fs.length) {ws1 : va_W} (hw : ws.set q0 (a, .inr (1, fs.set 5 (.int x))) = ws1) (hdg : decode cc pc = .ok (.putfield 22, 3))
    (kk : ∀ (H1 : Heap) (locs1 : List Loc), va_P D vwCl ws1 H1 → va_D A ws1 → va_S A H0 H1 locs1 → W p l e R s m args below meth c H1 locs1 cells slots Q (F0 m (pc + 3) ls rest)) : W p l e R s m args below meth c H locs cells slots Q (F0 m pc ls (.int x :: .ref a :: rest)) := by
  subst hw
  exact va_put hC.1 hC.2.1 hC.2.2.2.2 inA_X1 tyX1 tyX1_ok nmX1 hC.2.2.2.1 hK hP hD hS q0 he rfl 5 (by decide) (hC.2.2.2.2 _ q220) (fun _ h => h) rfl (ty := .int) (by decide +kernel) rfl rfl hl hdg kk
theorem gf_X1_25 (hC : CallFix p m c cc nL s args lw_all RX1) (hK : va_K D vwCl tys s) (hP : va_P D vwCl ws H) (q0 : Nat) (he : ws[q0]? = some (a, .inr (1, fs))) (hv : fs[6]? = some v) (hdg : decode cc pc = .ok (.getfield 25, 3))
    (kk : W p l e R s m args below meth c H locs cells slots Q (F0 m (pc + 3) ls (v :: rest))) : W p l e R s m args below meth c H locs cells slots Q (F0 m pc ls (.ref a :: rest)) :=
  va_get hC.1 hC.2.1 hC.2.2.2.2 inA_X1 hC.2.2.2.1 hK hP q0 he rfl 6 (by decide) (hC.2.2.2.2 _ q221) (fun _ h => h) hv hdg kk
theorem pf_X1_25 (hC : CallFix p m c cc nL s args lw_all RX1) (hK : va_K D vwCl tys s) (hP : va_P D vwCl ws H) (hD : va_D A ws) (hS : va_S A H0 H locs) (q0 : Nat) {x : Int32} (he : ws[q0]? = some (a, .inr (1, fs))) (hl : 6 < fs.length) {ws1 : va_W} (hw : ws.set q0 (a, .inr (1, fs.set 6 (.int x))) = ws1) (hdg : decode cc pc = .ok (.putfield 25, 3))
    (kk : ∀ (H1 : Heap) (locs1 : List Loc), va_P D vwCl ws1 H1 → va_D A ws1 → va_S A H0 H1 locs1 → W p l e R s m args below meth c H1 locs1 cells slots Q (F0 m (pc + 3) ls rest)) : W p l e R s m args below meth c H locs cells slots Q (F0 m pc ls (.int x :: .ref a :: rest)) := by
  subst hw
  exact va_put hC.1 hC.2.1 hC.2.2.2.2 inA_X1 tyX1 tyX1_ok nmX1 hC.2.2.2.1 hK hP hD hS q0 he rfl 6 (by decide) (hC.2.2.2.2 _ q221) (fun _ h => h) rfl (ty := .int) (by decide +kernel) rfl rfl hl hdg kk
theorem gf_X7_222 (hC : CallFix p m c cc nL s args lw_all RX7) (hK : va_K D vwCl tys s) (hP : va_P D vwCl ws H) (q0 : Nat) (he : ws[q0]? = some (a, .inr (1, fs))) (hv : fs[6]? = some v) (hdg : decode cc pc = .ok (.getfield 222, 3))
    (kk : W p l e R s m args below meth c H locs cells slots Q (F0 m (pc + 3) ls (v :: rest))) : W p l e R s m args below meth c H locs cells slots Q (F0 m pc ls (.ref a :: rest)) :=
  va_get hC.1 hC.2.1 hC.2.2.2.2 inA_X1 hC.2.2.2.1 hK hP q0 he rfl 6 (by decide) (hC.2.2.2.2 _ q222) (fun _ h => h) hv hdg kk
theorem pf_X7_222 (hC : CallFix p m c cc nL s args lw_all RX7) (hK : va_K D vwCl tys s) (hP : va_P D vwCl ws H) (hD : va_D A ws) (hS : va_S A H0 H locs) (q0 : Nat) {x : Int32} (he : ws[q0]? = some (a, .inr (1, fs))) (hl : 6 < fs.length) {ws1 : va_W} (hw : ws.set q0 (a, .inr (1, fs.set 6 (.int x))) = ws1) (hdg : decode cc pc = .ok (.putfield 222, 3))
    (kk : ∀ (H1 : Heap) (locs1 : List Loc), va_P D vwCl ws1 H1 → va_D A ws1 → va_S A H0 H1 locs1 → W p l e R s m args below meth c H1 locs1 cells slots Q (F0 m (pc + 3) ls rest)) : W p l e R s m args below meth c H locs cells slots Q (F0 m pc ls (.int x :: .ref a :: rest)) := by
  subst hw
  exact va_put hC.1 hC.2.1 hC.2.2.2.2 inA_X1 tyX1 tyX1_ok nmX1 hC.2.2.2.1 hK hP hD hS q0 he rfl 6 (by decide) (hC.2.2.2.2 _ q222) (fun _ h => h) rfl (ty := .int) (by decide +kernel) rfl rfl hl hdg kk
theorem gf_X1_28 (hC : CallFix p m c cc nL s args lw_all RX1) (hK : va_K D vwCl tys s) (hP : va_P D vwCl ws H) (q0 : Nat) (he : ws[q0]? = some (a, .inr (1, fs))) (hv : fs[7]? = some v) (hdg : decode cc pc = .ok (.getfield 28, 3))
    (kk : W p l e R s m args below meth c H locs cells slots Q (F0 m (pc + 3) ls (v :: rest))) : W p l e R s m args below meth c H locs cells slots Q (F0 m pc ls (.ref a :: rest)) :=
  va_get hC.1 hC.2.1 hC.2.2.2.2 inA_X1 hC.2.2.2.1 hK hP q0 he rfl 7 (by decide) (hC.2.2.2.2 _ q223) (fun _ h => h) hv hdg kk
theorem pf_X1_28 (hC : CallFix p m c cc nL s args lw_all RX1) (hK : va_K D vwCl tys s) (hP : va_P D vwCl ws H) (hD : va_D A ws) (hS : va_S A H0 H locs) (q0 : Nat) {x : Int32} (he : ws[q0]? = some (a, .inr (1, fs))) (hl : 7 < fs.length) {ws1 : va_W} (hw : ws.set q0 (a, .inr (1, fs.set 7 (.int x))) = ws1) (hdg : decode cc pc = .ok (.putfield 28, 3))
    (kk : ∀ (H1 : Heap) (locs1 : List Loc), va_P D vwCl ws1 H1 → va_D A ws1 → va_S A H0 H1 locs1 → W p l e R s m args below meth c H1 locs1 cells slots Q (F0 m (pc + 3) ls rest)) : W p l e R s m args below meth c H locs cells slots Q (F0 m pc ls (.int x :: .ref a :: rest)) := by
  subst hw
  exact va_put hC.1 hC.2.1 hC.2.2.2.2 inA_X1 tyX1 tyX1_ok nmX1 hC.2.2.2.1 hK hP hD hS q0 he rfl 7 (by decide) (hC.2.2.2.2 _ q223) (fun _ h => h) rfl (ty := .int) (by decide +kernel) rfl rfl hl hdg kk
theorem gf_X7_253 (hC : CallFix p m c cc nL s args lw_all RX7) (hK : va_K D vwCl tys s) (hP : va_P D vwCl ws H) (q0 : Nat) (he : ws[q0]? = some (a, .inr (1, fs))) (hv : fs[7]? = some v) (hdg : decode cc pc = .ok (.getfield 253, 3))
    (kk : W p l e R s m args below meth c H locs cells slots Q (F0 m (pc + 3) ls (v :: rest))) : W p l e R s m args below meth c H locs cells slots Q (F0 m pc ls (.ref a :: rest)) :=
  va_get hC.1 hC.2.1 hC.2.2.2.2 inA_X1 hC.2.2.2.1 hK hP q0 he rfl 7 (by decide) (hC.2.2.2.2 _ q224) (fun _ h => h) hv hdg kk
theorem pf_X7_253 (hC : CallFix p m c cc nL s args lw_all RX7) (hK : va_K D vwCl tys s) (hP : va_P D vwCl ws H) (hD : va_D A ws) (hS : va_S A H0 H locs) (q0 : Nat) {x : Int32} (he : ws[q0]? = some (a, .inr (1, fs))) (hl : 7 < fs.length) {ws1 : va_W} (hw : ws.set q0 (a, .inr (1, fs.set 7 (.int x))) = ws1) (hdg : decode cc pc = .ok (.putfield 253, 3))
    (kk : ∀ (H1 : Heap) (locs1 : List Loc), va_P D vwCl ws1 H1 → va_D A ws1 → va_S A H0 H1 locs1 → W p l e R s m args below meth c H1 locs1 cells slots Q (F0 m (pc + 3) ls rest)) : W p l e R s m args below meth c H locs cells slots Q (F0 m pc ls (.int x :: .ref a :: rest)) := by
  subst hw
  exact va_put hC.1 hC.2.1 hC.2.2.2.2 inA_X1 tyX1 tyX1_ok nmX1 hC.2.2.2.1 hK hP hD hS q0 he rfl 7 (by decide) (hC.2.2.2.2 _ q224) (fun _ h => h) rfl (ty := .int) (by decide +kernel) rfl rfl hl hdg kk
theorem gf_X5_9 (hC : CallFix p m c cc nL s args lw_all RX5) (hK : va_K D vwCl tys s) (hP : va_P D vwCl ws H) (q0 : Nat) (he : ws[q0]? = some (a, .inr (5, fs))) (hv : fs[0]? = some v) (hdg : decode cc pc = .ok (.getfield 9, 3))
    (kk : W p l e R s m args below meth c H locs cells slots Q (F0 m (pc + 3) ls (v :: rest))) : W p l e R s m args below meth c H locs cells slots Q (F0 m pc ls (.ref a :: rest)) :=
  va_get hC.1 hC.2.1 hC.2.2.2.2 inA_X5 hC.2.2.2.1 hK hP q0 he rfl 0 (by decide) (hC.2.2.2.2 _ q243) (fun _ h => h) hv hdg kk
theorem gf_X1_84 (hC : CallFix p m c cc nL s args lw_all RX1) (hK : va_K D vwCl tys s) (hP : va_P D vwCl ws H) (q0 : Nat) (he : ws[q0]? = some (a, .inr (5, fs))) (hv : fs[0]? = some v) (hdg : decode cc pc = .ok (.getfield 84, 3))
    (kk : W p l e R s m args below meth c H locs cells slots Q (F0 m (pc + 3) ls (v :: rest))) : W p l e R s m args below meth c H locs cells slots Q (F0 m pc ls (.ref a :: rest)) :=
  va_get hC.1 hC.2.1 hC.2.2.2.2 inA_X5 hC.2.2.2.1 hK hP q0 he rfl 0 (by decide) (hC.2.2.2.2 _ q244) (fun _ h => h) hv hdg kk
theorem gf_X5_15 (hC : CallFix p m c cc nL s args lw_all RX5) (hK : va_K D vwCl tys s) (hP : va_P D vwCl ws H) (q0 : Nat) (he : ws[q0]? = some (a, .inr (5, fs))) (hv : fs[1]? = some v) (hdg : decode cc pc = .ok (.getfield 15, 3))
    (kk : W p l e R s m args below meth c H locs cells slots Q (F0 m (pc + 3) ls (v :: rest))) : W p l e R s m args below meth c H locs cells slots Q (F0 m pc ls (.ref a :: rest)) :=
  va_get hC.1 hC.2.1 hC.2.2.2.2 inA_X5 hC.2.2.2.1 hK hP q0 he rfl 1 (by decide) (hC.2.2.2.2 _ q245) (fun _ h => h) hv hdg kk
theorem gf_X5_19 (hC : CallFix p m c cc nL s args lw_all RX5) (hK : va_K D vwCl tys s) (hP : va_P D vwCl ws H) (q0 : Nat) (he : ws[q0]? = some (a, .inr (5, fs))) (hv : fs[2]? = some v) (hdg : decode cc pc = .ok (.getfield 19, 3))
    (kk : W p l e R s m args below meth c H locs cells slots Q (F0 m (pc + 3) ls (v :: rest))) : W p l e R s m args below meth c H locs cells slots Q (F0 m pc ls (.ref a :: rest)) :=
  va_get hC.1 hC.2.1 hC.2.2.2.2 inA_X5 hC.2.2.2.1 hK hP q0 he rfl 2 (by decide) (hC.2.2.2.2 _ q246) (fun _ h => h) hv hdg kk
theorem gf_X5_41 (hC : CallFix p m c cc nL s args lw_all RX5) (hK : va_K D vwCl tys s) (hP : va_P D vwCl ws H) (q0 : Nat) (he : ws[q0]? = some (a, .inr (5, fs))) (hv : fs[3]? = some v) (hdg : decode cc pc = .ok (.getfield 41, 3))
    (kk : W p l e R s m args below meth c H locs cells slots Q (F0 m (pc + 3) ls (v :: rest))) : W p l e R s m args below meth c H locs cells slots Q (F0 m pc ls (.ref a :: rest)) :=
  va_get hC.1 hC.2.1 hC.2.2.2.2 inA_X5 hC.2.2.2.1 hK hP q0 he rfl 3 (by decide) (hC.2.2.2.2 _ q247) (fun _ h => h) hv hdg kk
theorem gf_X5_45 (hC : CallFix p m c cc nL s args lw_all RX5) (hK : va_K D vwCl tys s) (hP : va_P D vwCl ws H) (q0 : Nat) (he : ws[q0]? = some (a, .inr (5, fs))) (hv : fs[4]? = some v) (hdg : decode cc pc = .ok (.getfield 45, 3))
    (kk : W p l e R s m args below meth c H locs cells slots Q (F0 m (pc + 3) ls (v :: rest))) : W p l e R s m args below meth c H locs cells slots Q (F0 m pc ls (.ref a :: rest)) :=
  va_get hC.1 hC.2.1 hC.2.2.2.2 inA_X5 hC.2.2.2.1 hK hP q0 he rfl 4 (by decide) (hC.2.2.2.2 _ q248) (fun _ h => h) hv hdg kk
theorem gf_X5_22 (hC : CallFix p m c cc nL s args lw_all RX5) (hK : va_K D vwCl tys s) (hP : va_P D vwCl ws H) (q0 : Nat) (he : ws[q0]? = some (a, .inr (5, fs))) (hv : fs[5]? = some v) (hdg : decode cc pc = .ok (.getfield 22, 3))
    (kk : W p l e R s m args below meth c H locs cells slots Q (F0 m (pc + 3) ls (v :: rest))) : W p l e R s m args below meth c H locs cells slots Q (F0 m pc ls (.ref a :: rest)) :=
  va_get hC.1 hC.2.1 hC.2.2.2.2 inA_X5 hC.2.2.2.1 hK hP q0 he rfl 5 (by decide) (hC.2.2.2.2 _ q249) (fun _ h => h) hv hdg kk
theorem pf_X5_22 (hC : CallFix p m c cc nL s args lw_all RX5) (hK : va_K D vwCl tys s) (hP : va_P D vwCl ws H) (hD : va_D A ws) (hS : va_S A H0 H locs) (q0 : Nat) {x : Int32} (he : ws[q0]? = some (a, .inr (5, fs))) (hl : 5 < fs.length) {ws1 : va_W} (hw : ws.set q0 (a, .inr (5, fs.set 5 (.int x))) = ws1) (hdg : decode cc pc = .ok (.putfield 22, 3))
    (kk : ∀ (H1 : Heap) (locs1 : List Loc), va_P D vwCl ws1 H1 → va_D A ws1 → va_S A H0 H1 locs1 → W p l e R s m args below meth c H1 locs1 cells slots Q (F0 m (pc + 3) ls rest)) : W p l e R s m args below meth c H locs cells slots Q (F0 m pc ls (.int x :: .ref a :: rest)) := by
  subst hw
  exact va_put hC.1 hC.2.1 hC.2.2.2.2 inA_X5 tyX5 tyX5_ok nmX5 hC.2.2.2.1 hK hP hD hS q0 he rfl 5 (by decide) (hC.2.2.2.2 _ q249) (fun _ h => h) rfl (ty := .int) (by decide +kernel) rfl rfl hl hdg kk
theorem gf_X1_81 (hC : CallFix p m c cc nL s args lw_all RX1) (hK : va_K D vwCl tys s) (hP : va_P D vwCl ws H) (q0 : Nat) (he : ws[q0]? = some (a, .inr (5, fs))) (hv : fs[5]? = some v) (hdg : decode cc pc = .ok (.getfield 81, 3))
    (kk : W p l e R s m args below meth c H locs cells slots Q (F0 m (pc + 3) ls (v :: rest))) : W p l e R s m args below meth c H locs cells slots Q (F0 m pc ls (.ref a :: rest)) :=
  va_get hC.1 hC.2.1 hC.2.2.2.2 inA_X5 hC.2.2.2.1 hK hP q0 he rfl 5 (by decide) (hC.2.2.2.2 _ q250) (fun _ h => h) hv hdg kk
theorem pf_X1_81 (hC : CallFix p m c cc nL s args lw_all RX1) (hK : va_K D vwCl tys s) (hP : va_P D vwCl ws H) (hD : va_D A ws) (hS : va_S A H0 H locs) (q0 : Nat) {x : Int32} (he : ws[q0]? = some (a, .inr (5, fs))) (hl : 5 < fs.length) {ws1 : va_W} (hw : ws.set q0 (a, .inr (5, fs.set 5 (.int x))) = ws1) (hdg : decode cc pc = .ok (.putfield 81, 3))
    (kk : ∀ (H1 : Heap) (locs1 : List Loc), va_P D vwCl ws1 H1 → va_D A ws1 → va_S A H0 H1 locs1 → W p l e R s m args below meth c H1 locs1 cells slots Q (F0 m (pc + 3) ls rest)) : W p l e R s m args below meth c H locs cells slots Q (F0 m pc ls (.int x :: .ref a :: rest)) := by
  subst hw
  exact va_put hC.1 hC.2.1 hC.2.2.2.2 inA_X5 tyX5 tyX5_ok nmX5 hC.2.2.2.1 hK hP hD hS q0 he rfl 5 (by decide) (hC.2.2.2.2 _ q250) (fun _ h => h) rfl (ty := .int) (by decide +kernel) rfl rfl hl hdg kk
theorem gf_X7_176 (hC : CallFix p m c cc nL s args lw_all RX7) (hK : va_K D vwCl tys s) (hP : va_P D vwCl ws H) (q0 : Nat) (he : ws[q0]? = some (a, .inr (5, fs))) (hv : fs[5]? = some v) (hdg : decode cc pc = .ok (.getfield 176, 3))
    (kk : W p l e R s m args below meth c H locs cells slots Q (F0 m (pc + 3) ls (v :: rest))) : W p l e R s m args below meth c H locs cells slots Q (F0 m pc ls (.ref a :: rest)) :=
  va_get hC.1 hC.2.1 hC.2.2.2.2 inA_X5 hC.2.2.2.1 hK hP q0 he rfl 5 (by decide) (hC.2.2.2.2 _ q251) (fun _ h => h) hv hdg kk
theorem pf_X7_176 (hC : CallFix p m c cc nL s args lw_all RX7) (hK : va_K D vwCl tys s) (hP : va_P D vwCl ws H) (hD : va_D A ws) (hS : va_S A H0 H locs) (q0 : Nat) {x : Int32} (he : ws[q0]? = some (a, .inr (5, fs))) (hl : 5 < fs.length) {ws1 : va_W} (hw : ws.set q0 (a, .inr (5, fs.set 5 (.int x))) = ws1) (hdg : decode cc pc = .ok (.putfield 176, 3))
    (kk : ∀ (H1 : Heap) (locs1 : List Loc), va_P D vwCl ws1 H1 → va_D A ws1 → va_S A H0 H1 locs1 → W p l e R s m args below meth c H1 locs1 cells slots Q (F0 m (pc + 3) ls rest)) : W p l e R s m args below meth c H locs cells slots Q (F0 m pc ls (.int x :: .ref a :: rest)) := by
  subst hw
  exact va_put hC.1 hC.2.1 hC.2.2.2.2 inA_X5 tyX5 tyX5_ok nmX5 hC.2.2.2.1 hK hP hD hS q0 he rfl 5 (by decide) (hC.2.2.2.2 _ q251) (fun _ h => h) rfl (ty := .int) (by decide +kernel) rfl rfl hl hdg kk
theorem gf_X5_26 (hC : CallFix p m c cc nL s args lw_all RX5) (hK : va_K D vwCl tys s) (hP : va_P D vwCl ws H) (q0 : Nat) (he : ws[q0]? = some (a, .inr (5, fs))) (hv : fs[6]? = some v) (hdg : decode cc pc = .ok (.getfield 26, 3))
    (kk : W p l e R s m args below meth c H locs cells slots Q (F0 m (pc + 3) ls (v :: rest))) : W p l e R s m args below meth c H locs cells slots Q (F0 m pc ls (.ref a :: rest)) :=
  va_get hC.1 hC.2.1 hC.2.2.2.2 inA_X5 hC.2.2.2.1 hK hP q0 he rfl 6 (by decide) (hC.2.2.2.2 _ q252) (fun _ h => h) hv hdg kk
theorem pf_X5_26 (hC : CallFix p m c cc nL s args lw_all RX5) (hK : va_K D vwCl tys s) (hP : va_P D vwCl ws H) (hD : va_D A ws) (hS : va_S A H0 H locs) (q0 : Nat) {x : Int32} (he : ws[q0]? = some (a, .inr (5, fs))) (hn : narrow .boolean (.int x) = .int x) (hfit : fits .boolean (.int x) = true) (hl : 6 < fs.length) {ws1 : va_W} (hw : ws.set q0 (a, .inr (5, fs.set 6 (.int x))) = ws1) (hdg : decode cc pc = .ok (.putfield 26, 3))
    (kk : ∀ (H1 : Heap) (locs1 : List Loc), va_P D vwCl ws1 H1 → va_D A ws1 → va_S A H0 H1 locs1 → W p l e R s m args below meth c H1 locs1 cells slots Q (F0 m (pc + 3) ls rest)) : W p l e R s m args below meth c H locs cells slots Q (F0 m pc ls (.int x :: .ref a :: rest)) := by
  subst hw
  exact va_put hC.1 hC.2.1 hC.2.2.2.2 inA_X5 tyX5 tyX5_ok nmX5 hC.2.2.2.1 hK hP hD hS q0 he rfl 6 (by decide) (hC.2.2.2.2 _ q252) (fun _ h => h) rfl (ty := .boolean) (by decide +kernel) hn hfit hl hdg kk
theorem gf_X7_172 (hC : CallFix p m c cc nL s args lw_all RX7) (hK : va_K D vwCl tys s) (hP : va_P D vwCl ws H) (q0 : Nat) (he : ws[q0]? = some (a, .inr (5, fs))) (hv : fs[6]? = some v) (hdg : decode cc pc = .ok (.getfield 172, 3))
    (kk : W p l e R s m args below meth c H locs cells slots Q (F0 m (pc + 3) ls (v :: rest))) : W p l e R s m args below meth c H locs cells slots Q (F0 m pc ls (.ref a :: rest)) :=
  va_get hC.1 hC.2.1 hC.2.2.2.2 inA_X5 hC.2.2.2.1 hK hP q0 he rfl 6 (by decide) (hC.2.2.2.2 _ q253) (fun _ h => h) hv hdg kk
theorem pf_X7_172 (hC : CallFix p m c cc nL s args lw_all RX7) (hK : va_K D vwCl tys s) (hP : va_P D vwCl ws H) (hD : va_D A ws) (hS : va_S A H0 H locs) (q0 : Nat) {x : Int32} (he : ws[q0]? = some (a, .inr (5, fs))) (hn : narrow .boolean (.int x) = .int x) (hfit : fits .boolean (.int x) = true) (hl : 6 < fs.length) {ws1 : va_W} (hw : ws.set q0 (a, .inr (5, fs.set 6 (.int x))) = ws1) (hdg : decode cc pc = .ok (.putfield 172, 3))
    (kk : ∀ (H1 : Heap) (locs1 : List Loc), va_P D vwCl ws1 H1 → va_D A ws1 → va_S A H0 H1 locs1 → W p l e R s m args below meth c H1 locs1 cells slots Q (F0 m (pc + 3) ls rest)) : W p l e R s m args below meth c H locs cells slots Q (F0 m pc ls (.int x :: .ref a :: rest)) := by
  subst hw
  exact va_put hC.1 hC.2.1 hC.2.2.2.2 inA_X5 tyX5 tyX5_ok nmX5 hC.2.2.2.1 hK hP hD hS q0 he rfl 6 (by decide) (hC.2.2.2.2 _ q253) (fun _ h => h) rfl (ty := .boolean) (by decide +kernel) hn hfit hl hdg kk
theorem gf_X5_30 (hC : CallFix p m c cc nL s args lw_all RX5) (hK : va_K D vwCl tys s) (hP : va_P D vwCl ws H) (q0 : Nat) (he : ws[q0]? = some (a, .inr (5, fs))) (hv : fs[7]? = some v) (hdg : decode cc pc = .ok (.getfield 30, 3))
    (kk : W p l e R s m args below meth c H locs cells slots Q (F0 m (pc + 3) ls (v :: rest))) : W p l e R s m args below meth c H locs cells slots Q (F0 m pc ls (.ref a :: rest)) :=
  va_get hC.1 hC.2.1 hC.2.2.2.2 inA_X5 hC.2.2.2.1 hK hP q0 he rfl 7 (by decide) (hC.2.2.2.2 _ q254) (fun _ h => h) hv hdg kk
theorem pf_X5_30 (hC : CallFix p m c cc nL s args lw_all RX5) (hK : va_K D vwCl tys s) (hP : va_P D vwCl ws H) (hD : va_D A ws) (hS : va_S A H0 H locs) (q0 : Nat) {x : Int32} (he : ws[q0]? = some (a, .inr (5, fs))) (hl : 7 < fs.length) {ws1 : va_W} (hw : ws.set q0 (a, .inr (5, fs.set 7 (.int x))) = ws1) (hdg : decode cc pc = .ok (.putfield 30, 3))
    (kk : ∀ (H1 : Heap) (locs1 : List Loc), va_P D vwCl ws1 H1 → va_D A ws1 → va_S A H0 H1 locs1 → W p l e R s m args below meth c H1 locs1 cells slots Q (F0 m (pc + 3) ls rest)) : W p l e R s m args below meth c H locs cells slots Q (F0 m pc ls (.int x :: .ref a :: rest)) := by
  subst hw
  exact va_put hC.1 hC.2.1 hC.2.2.2.2 inA_X5 tyX5 tyX5_ok nmX5 hC.2.2.2.1 hK hP hD hS q0 he rfl 7 (by decide) (hC.2.2.2.2 _ q254) (fun _ h => h) rfl (ty := .int) (by decide +kernel) rfl rfl hl hdg kk
theorem gf_X5_33 (hC : CallFix p m c cc nL s args lw_all RX5) (hK : va_K D vwCl tys s) (hP : va_P D vwCl ws H) (q0 : Nat) (he : ws[q0]? = some (a, .inr (5, fs))) (hv : fs[8]? = some v) (hdg : decode cc pc = .ok (.getfield 33, 3))
    (kk : W p l e R s m args below meth c H locs cells slots Q (F0 m (pc + 3) ls (v :: rest))) : W p l e R s m args below meth c H locs cells slots Q (F0 m pc ls (.ref a :: rest)) :=
  va_get hC.1 hC.2.1 hC.2.2.2.2 inA_X5 hC.2.2.2.1 hK hP q0 he rfl 8 (by decide) (hC.2.2.2.2 _ q255) (fun _ h => h) hv hdg kk
theorem pf_X5_33 (hC : CallFix p m c cc nL s args lw_all RX5) (hK : va_K D vwCl tys s) (hP : va_P D vwCl ws H) (hD : va_D A ws) (hS : va_S A H0 H locs) (q0 : Nat) {x : Int32} (he : ws[q0]? = some (a, .inr (5, fs))) (hl : 8 < fs.length) {ws1 : va_W} (hw : ws.set q0 (a, .inr (5, fs.set 8 (.int x))) = ws1) (hdg : decode cc pc = .ok (.putfield 33, 3))
    (kk : ∀ (H1 : Heap) (locs1 : List Loc), va_P D vwCl ws1 H1 → va_D A ws1 → va_S A H0 H1 locs1 → W p l e R s m args below meth c H1 locs1 cells slots Q (F0 m (pc + 3) ls rest)) : W p l e R s m args below meth c H locs cells slots Q (F0 m pc ls (.int x :: .ref a :: rest)) := by
  subst hw
  exact va_put hC.1 hC.2.1 hC.2.2.2.2 inA_X5 tyX5 tyX5_ok nmX5 hC.2.2.2.1 hK hP hD hS q0 he rfl 8 (by decide) (hC.2.2.2.2 _ q255) (fun _ h => h) rfl (ty := .int) (by decide +kernel) rfl rfl hl hdg kk
theorem gf_X7_10 (hC : CallFix p m c cc nL s args lw_all RX7) (hK : va_K D vwCl tys s) (hP : va_P D vwCl ws H) (q0 : Nat) (he : ws[q0]? = some (a, .inr (7, fs))) (hv : fs[0]? = some v) (hdg : decode cc pc = .ok (.getfield 10, 3))
    (kk : W p l e R s m args below meth c H locs cells slots Q (F0 m (pc + 3) ls (v :: rest))) : W p l e R s m args below meth c H locs cells slots Q (F0 m pc ls (.ref a :: rest)) :=
  va_get hC.1 hC.2.1 hC.2.2.2.2 inA_X7 hC.2.2.2.1 hK hP q0 he rfl 0 (by decide) (hC.2.2.2.2 _ q275) (fun _ h => h) hv hdg kk
theorem gf_X7_19 (hC : CallFix p m c cc nL s args lw_all RX7) (hK : va_K D vwCl tys s) (hP : va_P D vwCl ws H) (q0 : Nat) (he : ws[q0]? = some (a, .inr (7, fs))) (hv : fs[1]? = some v) (hdg : decode cc pc = .ok (.getfield 19, 3))
    (kk : W p l e R s m args below meth c H locs cells slots Q (F0 m (pc + 3) ls (v :: rest))) : W p l e R s m args below meth c H locs cells slots Q (F0 m pc ls (.ref a :: rest)) :=
  va_get hC.1 hC.2.1 hC.2.2.2.2 inA_X7 hC.2.2.2.1 hK hP q0 he rfl 1 (by decide) (hC.2.2.2.2 _ q276) (fun _ h => h) hv hdg kk
theorem gf_X7_23 (hC : CallFix p m c cc nL s args lw_all RX7) (hK : va_K D vwCl tys s) (hP : va_P D vwCl ws H) (q0 : Nat) (he : ws[q0]? = some (a, .inr (7, fs))) (hv : fs[2]? = some v) (hdg : decode cc pc = .ok (.getfield 23, 3))
    (kk : W p l e R s m args below meth c H locs cells slots Q (F0 m (pc + 3) ls (v :: rest))) : W p l e R s m args below meth c H locs cells slots Q (F0 m pc ls (.ref a :: rest)) :=
  va_get hC.1 hC.2.1 hC.2.2.2.2 inA_X7 hC.2.2.2.1 hK hP q0 he rfl 2 (by decide) (hC.2.2.2.2 _ q277) (fun _ h => h) hv hdg kk
theorem gf_X7_29 (hC : CallFix p m c cc nL s args lw_all RX7) (hK : va_K D vwCl tys s) (hP : va_P D vwCl ws H) (q0 : Nat) (he : ws[q0]? = some (a, .inr (7, fs))) (hv : fs[3]? = some v) (hdg : decode cc pc = .ok (.getfield 29, 3))
    (kk : W p l e R s m args below meth c H locs cells slots Q (F0 m (pc + 3) ls (v :: rest))) : W p l e R s m args below meth c H locs cells slots Q (F0 m pc ls (.ref a :: rest)) :=
  va_get hC.1 hC.2.1 hC.2.2.2.2 inA_X7 hC.2.2.2.1 hK hP q0 he rfl 3 (by decide) (hC.2.2.2.2 _ q278) (fun _ h => h) hv hdg kk
theorem gf_X7_36 (hC : CallFix p m c cc nL s args lw_all RX7) (hK : va_K D vwCl tys s) (hP : va_P D vwCl ws H) (q0 : Nat) (he : ws[q0]? = some (a, .inr (7, fs))) (hv : fs[4]? = some v) (hdg : decode cc pc = .ok (.getfield 36, 3))
    (kk : W p l e R s m args below meth c H locs cells slots Q (F0 m (pc + 3) ls (v :: rest))) : W p l e R s m args below meth c H locs cells slots Q (F0 m pc ls (.ref a :: rest)) :=
  va_get hC.1 hC.2.1 hC.2.2.2.2 inA_X7 hC.2.2.2.1 hK hP q0 he rfl 4 (by decide) (hC.2.2.2.2 _ q279) (fun _ h => h) hv hdg kk
theorem gf_X7_48 (hC : CallFix p m c cc nL s args lw_all RX7) (hK : va_K D vwCl tys s) (hP : va_P D vwCl ws H) (q0 : Nat) (he : ws[q0]? = some (a, .inr (7, fs))) (hv : fs[5]? = some v) (hdg : decode cc pc = .ok (.getfield 48, 3))
    (kk : W p l e R s m args below meth c H locs cells slots Q (F0 m (pc + 3) ls (v :: rest))) : W p l e R s m args below meth c H locs cells slots Q (F0 m pc ls (.ref a :: rest)) :=
  va_get hC.1 hC.2.1 hC.2.2.2.2 inA_X7 hC.2.2.2.1 hK hP q0 he rfl 5 (by decide) (hC.2.2.2.2 _ q280) (fun _ h => h) hv hdg kk
theorem gf_X7_52 (hC : CallFix p m c cc nL s args lw_all RX7) (hK : va_K D vwCl tys s) (hP : va_P D vwCl ws H) (q0 : Nat) (he : ws[q0]? = some (a, .inr (7, fs))) (hv : fs[6]? = some v) (hdg : decode cc pc = .ok (.getfield 52, 3))
    (kk : W p l e R s m args below meth c H locs cells slots Q (F0 m (pc + 3) ls (v :: rest))) : W p l e R s m args below meth c H locs cells slots Q (F0 m pc ls (.ref a :: rest)) :=
  va_get hC.1 hC.2.1 hC.2.2.2.2 inA_X7 hC.2.2.2.1 hK hP q0 he rfl 6 (by decide) (hC.2.2.2.2 _ q281) (fun _ h => h) hv hdg kk
theorem gf_X7_55 (hC : CallFix p m c cc nL s args lw_all RX7) (hK : va_K D vwCl tys s) (hP : va_P D vwCl ws H) (q0 : Nat) (he : ws[q0]? = some (a, .inr (7, fs))) (hv : fs[7]? = some v) (hdg : decode cc pc = .ok (.getfield 55, 3))
    (kk : W p l e R s m args below meth c H locs cells slots Q (F0 m (pc + 3) ls (v :: rest))) : W p l e R s m args below meth c H locs cells slots Q (F0 m pc ls (.ref a :: rest)) :=
  va_get hC.1 hC.2.1 hC.2.2.2.2 inA_X7 hC.2.2.2.1 hK hP q0 he rfl 7 (by decide) (hC.2.2.2.2 _ q282) (fun _ h => h) hv hdg kk
theorem pf_X7_55 (hC : CallFix p m c cc nL s args lw_all RX7) (hK : va_K D vwCl tys s) (hP : va_P D vwCl ws H) (hD : va_D A ws) (hS : va_S A H0 H locs) (q0 : Nat) {x : Int32} (he : ws[q0]? = some (a, .inr (7, fs))) (hl : 7 < fs.length) {ws1 : va_W} (hw : ws.set q0 (a, .inr (7, fs.set 7 (.int x))) = ws1) (hdg : decode cc pc = .ok (.putfield 55, 3))
    (kk : ∀ (H1 : Heap) (locs1 : List Loc), va_P D vwCl ws1 H1 → va_D A ws1 → va_S A H0 H1 locs1 → W p l e R s m args below meth c H1 locs1 cells slots Q (F0 m (pc + 3) ls rest)) : W p l e R s m args below meth c H locs cells slots Q (F0 m pc ls (.int x :: .ref a :: rest)) := by
  subst hw
  exact va_put hC.1 hC.2.1 hC.2.2.2.2 inA_X7 tyX7 tyX7_ok nmX7 hC.2.2.2.1 hK hP hD hS q0 he rfl 7 (by decide) (hC.2.2.2.2 _ q282) (fun _ h => h) rfl (ty := .int) (by decide +kernel) rfl rfl hl hdg kk
theorem gf_X8_7 (hC : CallFix p m c cc nL s args lw_all RX8) (hK : va_K D vwCl tys s) (hP : va_P D vwCl ws H) (q0 : Nat) (he : ws[q0]? = some (a, .inr (8, fs))) (hv : fs[0]? = some v) (hdg : decode cc pc = .ok (.getfield 7, 3))
    (kk : W p l e R s m args below meth c H locs cells slots Q (F0 m (pc + 3) ls (v :: rest))) : W p l e R s m args below meth c H locs cells slots Q (F0 m pc ls (.ref a :: rest)) :=
  va_get hC.1 hC.2.1 hC.2.2.2.2 inA_X8 hC.2.2.2.1 hK hP q0 he rfl 0 (by decide) (hC.2.2.2.2 _ q679) (fun _ h => h) hv hdg kk
theorem gf_X8_13 (hC : CallFix p m c cc nL s args lw_all RX8) (hK : va_K D vwCl tys s) (hP : va_P D vwCl ws H) (q0 : Nat) (he : ws[q0]? = some (a, .inr (8, fs))) (hv : fs[1]? = some v) (hdg : decode cc pc = .ok (.getfield 13, 3))
    (kk : W p l e R s m args below meth c H locs cells slots Q (F0 m (pc + 3) ls (v :: rest))) : W p l e R s m args below meth c H locs cells slots Q (F0 m pc ls (.ref a :: rest)) :=
  va_get hC.1 hC.2.1 hC.2.2.2.2 inA_X8 hC.2.2.2.1 hK hP q0 he rfl 1 (by decide) (hC.2.2.2.2 _ q680) (fun _ h => h) hv hdg kk
theorem gf_X8_51 (hC : CallFix p m c cc nL s args lw_all RX8) (hK : va_K D vwCl tys s) (hP : va_P D vwCl ws H) (q0 : Nat) (he : ws[q0]? = some (a, .inr (8, fs))) (hv : fs[2]? = some v) (hdg : decode cc pc = .ok (.getfield 51, 3))
    (kk : W p l e R s m args below meth c H locs cells slots Q (F0 m (pc + 3) ls (v :: rest))) : W p l e R s m args below meth c H locs cells slots Q (F0 m pc ls (.ref a :: rest)) :=
  va_get hC.1 hC.2.1 hC.2.2.2.2 inA_X8 hC.2.2.2.1 hK hP q0 he rfl 2 (by decide) (hC.2.2.2.2 _ q681) (fun _ h => h) hv hdg kk
theorem pf_X8_51 (hC : CallFix p m c cc nL s args lw_all RX8) (hK : va_K D vwCl tys s) (hP : va_P D vwCl ws H) (hD : va_D A ws) (hS : va_S A H0 H locs) (q0 : Nat) {x : Int32} (he : ws[q0]? = some (a, .inr (8, fs))) (hl : 2 < fs.length) {ws1 : va_W} (hw : ws.set q0 (a, .inr (8, fs.set 2 (.int x))) = ws1) (hdg : decode cc pc = .ok (.putfield 51, 3))
    (kk : ∀ (H1 : Heap) (locs1 : List Loc), va_P D vwCl ws1 H1 → va_D A ws1 → va_S A H0 H1 locs1 → W p l e R s m args below meth c H1 locs1 cells slots Q (F0 m (pc + 3) ls rest)) : W p l e R s m args below meth c H locs cells slots Q (F0 m pc ls (.int x :: .ref a :: rest)) := by
  subst hw
  exact va_put hC.1 hC.2.1 hC.2.2.2.2 inA_X8 tyX8 tyX8_ok nmX8 hC.2.2.2.1 hK hP hD hS q0 he rfl 2 (by decide) (hC.2.2.2.2 _ q681) (fun _ h => h) rfl (ty := .int) (by decide +kernel) rfl rfl hl hdg kk
theorem gf_X8_16 (hC : CallFix p m c cc nL s args lw_all RX8) (hK : va_K D vwCl tys s) (hP : va_P D vwCl ws H) (q0 : Nat) (he : ws[q0]? = some (a, .inr (8, fs))) (hv : fs[3]? = some v) (hdg : decode cc pc = .ok (.getfield 16, 3))
    (kk : W p l e R s m args below meth c H locs cells slots Q (F0 m (pc + 3) ls (v :: rest))) : W p l e R s m args below meth c H locs cells slots Q (F0 m pc ls (.ref a :: rest)) :=
  va_get hC.1 hC.2.1 hC.2.2.2.2 inA_X8 hC.2.2.2.1 hK hP q0 he rfl 3 (by decide) (hC.2.2.2.2 _ q682) (fun _ h => h) hv hdg kk
theorem gf_X8_58 (hC : CallFix p m c cc nL s args lw_all RX8) (hK : va_K D vwCl tys s) (hP : va_P D vwCl ws H) (q0 : Nat) (he : ws[q0]? = some (a, .inr (8, fs))) (hv : fs[4]? = some v) (hdg : decode cc pc = .ok (.getfield 58, 3))
    (kk : W p l e R s m args below meth c H locs cells slots Q (F0 m (pc + 3) ls (v :: rest))) : W p l e R s m args below meth c H locs cells slots Q (F0 m pc ls (.ref a :: rest)) :=
  va_get hC.1 hC.2.1 hC.2.2.2.2 inA_X8 hC.2.2.2.1 hK hP q0 he rfl 4 (by decide) (hC.2.2.2.2 _ q683) (fun _ h => h) hv hdg kk
theorem pf_X8_58 (hC : CallFix p m c cc nL s args lw_all RX8) (hK : va_K D vwCl tys s) (hP : va_P D vwCl ws H) (hD : va_D A ws) (hS : va_S A H0 H locs) (q0 : Nat) {x : Int32} (he : ws[q0]? = some (a, .inr (8, fs))) (hl : 4 < fs.length) {ws1 : va_W} (hw : ws.set q0 (a, .inr (8, fs.set 4 (.int x))) = ws1) (hdg : decode cc pc = .ok (.putfield 58, 3))
    (kk : ∀ (H1 : Heap) (locs1 : List Loc), va_P D vwCl ws1 H1 → va_D A ws1 → va_S A H0 H1 locs1 → W p l e R s m args below meth c H1 locs1 cells slots Q (F0 m (pc + 3) ls rest)) : W p l e R s m args below meth c H locs cells slots Q (F0 m pc ls (.int x :: .ref a :: rest)) := by
  subst hw
  exact va_put hC.1 hC.2.1 hC.2.2.2.2 inA_X8 tyX8 tyX8_ok nmX8 hC.2.2.2.1 hK hP hD hS q0 he rfl 4 (by decide) (hC.2.2.2.2 _ q683) (fun _ h => h) rfl (ty := .int) (by decide +kernel) rfl rfl hl hdg kk
theorem gf_X8_61 (hC : CallFix p m c cc nL s args lw_all RX8) (hK : va_K D vwCl tys s) (hP : va_P D vwCl ws H) (q0 : Nat) (he : ws[q0]? = some (a, .inr (8, fs))) (hv : fs[5]? = some v) (hdg : decode cc pc = .ok (.getfield 61, 3))
    (kk : W p l e R s m args below meth c H locs cells slots Q (F0 m (pc + 3) ls (v :: rest))) : W p l e R s m args below meth c H locs cells slots Q (F0 m pc ls (.ref a :: rest)) :=
  va_get hC.1 hC.2.1 hC.2.2.2.2 inA_X8 hC.2.2.2.1 hK hP q0 he rfl 5 (by decide) (hC.2.2.2.2 _ q684) (fun _ h => h) hv hdg kk
theorem pf_X8_61 (hC : CallFix p m c cc nL s args lw_all RX8) (hK : va_K D vwCl tys s) (hP : va_P D vwCl ws H) (hD : va_D A ws) (hS : va_S A H0 H locs) (q0 : Nat) {x : Int32} (he : ws[q0]? = some (a, .inr (8, fs))) (hl : 5 < fs.length) {ws1 : va_W} (hw : ws.set q0 (a, .inr (8, fs.set 5 (.int x))) = ws1) (hdg : decode cc pc = .ok (.putfield 61, 3))
    (kk : ∀ (H1 : Heap) (locs1 : List Loc), va_P D vwCl ws1 H1 → va_D A ws1 → va_S A H0 H1 locs1 → W p l e R s m args below meth c H1 locs1 cells slots Q (F0 m (pc + 3) ls rest)) : W p l e R s m args below meth c H locs cells slots Q (F0 m pc ls (.int x :: .ref a :: rest)) := by
  subst hw
  exact va_put hC.1 hC.2.1 hC.2.2.2.2 inA_X8 tyX8 tyX8_ok nmX8 hC.2.2.2.1 hK hP hD hS q0 he rfl 5 (by decide) (hC.2.2.2.2 _ q684) (fun _ h => h) rfl (ty := .int) (by decide +kernel) rfl rfl hl hdg kk
theorem gf_X8_64 (hC : CallFix p m c cc nL s args lw_all RX8) (hK : va_K D vwCl tys s) (hP : va_P D vwCl ws H) (q0 : Nat) (he : ws[q0]? = some (a, .inr (8, fs))) (hv : fs[6]? = some v) (hdg : decode cc pc = .ok (.getfield 64, 3))
    (kk : W p l e R s m args below meth c H locs cells slots Q (F0 m (pc + 3) ls (v :: rest))) : W p l e R s m args below meth c H locs cells slots Q (F0 m pc ls (.ref a :: rest)) :=
  va_get hC.1 hC.2.1 hC.2.2.2.2 inA_X8 hC.2.2.2.1 hK hP q0 he rfl 6 (by decide) (hC.2.2.2.2 _ q685) (fun _ h => h) hv hdg kk
theorem pf_X8_64 (hC : CallFix p m c cc nL s args lw_all RX8) (hK : va_K D vwCl tys s) (hP : va_P D vwCl ws H) (hD : va_D A ws) (hS : va_S A H0 H locs) (q0 : Nat) {x : Int32} (he : ws[q0]? = some (a, .inr (8, fs))) (hl : 6 < fs.length) {ws1 : va_W} (hw : ws.set q0 (a, .inr (8, fs.set 6 (.int x))) = ws1) (hdg : decode cc pc = .ok (.putfield 64, 3))
    (kk : ∀ (H1 : Heap) (locs1 : List Loc), va_P D vwCl ws1 H1 → va_D A ws1 → va_S A H0 H1 locs1 → W p l e R s m args below meth c H1 locs1 cells slots Q (F0 m (pc + 3) ls rest)) : W p l e R s m args below meth c H locs cells slots Q (F0 m pc ls (.int x :: .ref a :: rest)) := by
  subst hw
  exact va_put hC.1 hC.2.1 hC.2.2.2.2 inA_X8 tyX8 tyX8_ok nmX8 hC.2.2.2.1 hK hP hD hS q0 he rfl 6 (by decide) (hC.2.2.2.2 _ q685) (fun _ h => h) rfl (ty := .int) (by decide +kernel) rfl rfl hl hdg kk
theorem gf_X8_67 (hC : CallFix p m c cc nL s args lw_all RX8) (hK : va_K D vwCl tys s) (hP : va_P D vwCl ws H) (q0 : Nat) (he : ws[q0]? = some (a, .inr (8, fs))) (hv : fs[7]? = some v) (hdg : decode cc pc = .ok (.getfield 67, 3))
    (kk : W p l e R s m args below meth c H locs cells slots Q (F0 m (pc + 3) ls (v :: rest))) : W p l e R s m args below meth c H locs cells slots Q (F0 m pc ls (.ref a :: rest)) :=
  va_get hC.1 hC.2.1 hC.2.2.2.2 inA_X8 hC.2.2.2.1 hK hP q0 he rfl 7 (by decide) (hC.2.2.2.2 _ q686) (fun _ h => h) hv hdg kk
theorem pf_X8_67 (hC : CallFix p m c cc nL s args lw_all RX8) (hK : va_K D vwCl tys s) (hP : va_P D vwCl ws H) (hD : va_D A ws) (hS : va_S A H0 H locs) (q0 : Nat) {x : Int32} (he : ws[q0]? = some (a, .inr (8, fs))) (hl : 7 < fs.length) {ws1 : va_W} (hw : ws.set q0 (a, .inr (8, fs.set 7 (.int x))) = ws1) (hdg : decode cc pc = .ok (.putfield 67, 3))
    (kk : ∀ (H1 : Heap) (locs1 : List Loc), va_P D vwCl ws1 H1 → va_D A ws1 → va_S A H0 H1 locs1 → W p l e R s m args below meth c H1 locs1 cells slots Q (F0 m (pc + 3) ls rest)) : W p l e R s m args below meth c H locs cells slots Q (F0 m pc ls (.int x :: .ref a :: rest)) := by
  subst hw
  exact va_put hC.1 hC.2.1 hC.2.2.2.2 inA_X8 tyX8 tyX8_ok nmX8 hC.2.2.2.1 hK hP hD hS q0 he rfl 7 (by decide) (hC.2.2.2.2 _ q686) (fun _ h => h) rfl (ty := .int) (by decide +kernel) rfl rfl hl hdg kk
theorem gf_X8_70 (hC : CallFix p m c cc nL s args lw_all RX8) (hK : va_K D vwCl tys s) (hP : va_P D vwCl ws H) (q0 : Nat) (he : ws[q0]? = some (a, .inr (8, fs))) (hv : fs[8]? = some v) (hdg : decode cc pc = .ok (.getfield 70, 3))
    (kk : W p l e R s m args below meth c H locs cells slots Q (F0 m (pc + 3) ls (v :: rest))) : W p l e R s m args below meth c H locs cells slots Q (F0 m pc ls (.ref a :: rest)) :=
  va_get hC.1 hC.2.1 hC.2.2.2.2 inA_X8 hC.2.2.2.1 hK hP q0 he rfl 8 (by decide) (hC.2.2.2.2 _ q687) (fun _ h => h) hv hdg kk
theorem pf_X8_70 (hC : CallFix p m c cc nL s args lw_all RX8) (hK : va_K D vwCl tys s) (hP : va_P D vwCl ws H) (hD : va_D A ws) (hS : va_S A H0 H locs) (q0 : Nat) {x : Int32} (he : ws[q0]? = some (a, .inr (8, fs))) (hl : 8 < fs.length) {ws1 : va_W} (hw : ws.set q0 (a, .inr (8, fs.set 8 (.int x))) = ws1) (hdg : decode cc pc = .ok (.putfield 70, 3))
    (kk : ∀ (H1 : Heap) (locs1 : List Loc), va_P D vwCl ws1 H1 → va_D A ws1 → va_S A H0 H1 locs1 → W p l e R s m args below meth c H1 locs1 cells slots Q (F0 m (pc + 3) ls rest)) : W p l e R s m args below meth c H locs cells slots Q (F0 m pc ls (.int x :: .ref a :: rest)) := by
  subst hw
  exact va_put hC.1 hC.2.1 hC.2.2.2.2 inA_X8 tyX8 tyX8_ok nmX8 hC.2.2.2.1 hK hP hD hS q0 he rfl 8 (by decide) (hC.2.2.2.2 _ q687) (fun _ h => h) rfl (ty := .int) (by decide +kernel) rfl rfl hl hdg kk
theorem gf_X8_19 (hC : CallFix p m c cc nL s args lw_all RX8) (hK : va_K D vwCl tys s) (hP : va_P D vwCl ws H) (q0 : Nat) (he : ws[q0]? = some (a, .inr (8, fs))) (hv : fs[9]? = some v) (hdg : decode cc pc = .ok (.getfield 19, 3))
    (kk : W p l e R s m args below meth c H locs cells slots Q (F0 m (pc + 3) ls (v :: rest))) : W p l e R s m args below meth c H locs cells slots Q (F0 m pc ls (.ref a :: rest)) :=
  va_get hC.1 hC.2.1 hC.2.2.2.2 inA_X8 hC.2.2.2.1 hK hP q0 he rfl 9 (by decide) (hC.2.2.2.2 _ q688) (fun _ h => h) hv hdg kk
theorem gf_X8_22 (hC : CallFix p m c cc nL s args lw_all RX8) (hK : va_K D vwCl tys s) (hP : va_P D vwCl ws H) (q0 : Nat) (he : ws[q0]? = some (a, .inr (8, fs))) (hv : fs[10]? = some v) (hdg : decode cc pc = .ok (.getfield 22, 3))
    (kk : W p l e R s m args below meth c H locs cells slots Q (F0 m (pc + 3) ls (v :: rest))) : W p l e R s m args below meth c H locs cells slots Q (F0 m pc ls (.ref a :: rest)) :=
  va_get hC.1 hC.2.1 hC.2.2.2.2 inA_X8 hC.2.2.2.1 hK hP q0 he rfl 10 (by decide) (hC.2.2.2.2 _ q689) (fun _ h => h) hv hdg kk
theorem gf_X8_25 (hC : CallFix p m c cc nL s args lw_all RX8) (hK : va_K D vwCl tys s) (hP : va_P D vwCl ws H) (q0 : Nat) (he : ws[q0]? = some (a, .inr (8, fs))) (hv : fs[11]? = some v) (hdg : decode cc pc = .ok (.getfield 25, 3))
    (kk : W p l e R s m args below meth c H locs cells slots Q (F0 m (pc + 3) ls (v :: rest))) : W p l e R s m args below meth c H locs cells slots Q (F0 m pc ls (.ref a :: rest)) :=
  va_get hC.1 hC.2.1 hC.2.2.2.2 inA_X8 hC.2.2.2.1 hK hP q0 he rfl 11 (by decide) (hC.2.2.2.2 _ q690) (fun _ h => h) hv hdg kk
theorem gf_X8_28 (hC : CallFix p m c cc nL s args lw_all RX8) (hK : va_K D vwCl tys s) (hP : va_P D vwCl ws H) (q0 : Nat) (he : ws[q0]? = some (a, .inr (8, fs))) (hv : fs[12]? = some v) (hdg : decode cc pc = .ok (.getfield 28, 3))
    (kk : W p l e R s m args below meth c H locs cells slots Q (F0 m (pc + 3) ls (v :: rest))) : W p l e R s m args below meth c H locs cells slots Q (F0 m pc ls (.ref a :: rest)) :=
  va_get hC.1 hC.2.1 hC.2.2.2.2 inA_X8 hC.2.2.2.1 hK hP q0 he rfl 12 (by decide) (hC.2.2.2.2 _ q691) (fun _ h => h) hv hdg kk
theorem pf_X8_28 (hC : CallFix p m c cc nL s args lw_all RX8) (hK : va_K D vwCl tys s) (hP : va_P D vwCl ws H) (hD : va_D A ws) (hS : va_S A H0 H locs) (q0 : Nat) {x : Int32} (he : ws[q0]? = some (a, .inr (8, fs))) (hl : 12 < fs.length) {ws1 : va_W} (hw : ws.set q0 (a, .inr (8, fs.set 12 (.int x))) = ws1) (hdg : decode cc pc = .ok (.putfield 28, 3))
    (kk : ∀ (H1 : Heap) (locs1 : List Loc), va_P D vwCl ws1 H1 → va_D A ws1 → va_S A H0 H1 locs1 → W p l e R s m args below meth c H1 locs1 cells slots Q (F0 m (pc + 3) ls rest)) : W p l e R s m args below meth c H locs cells slots Q (F0 m pc ls (.int x :: .ref a :: rest)) := by
  subst hw
  exact va_put hC.1 hC.2.1 hC.2.2.2.2 inA_X8 tyX8 tyX8_ok nmX8 hC.2.2.2.1 hK hP hD hS q0 he rfl 12 (by decide) (hC.2.2.2.2 _ q691) (fun _ h => h) rfl (ty := .int) (by decide +kernel) rfl rfl hl hdg kk
theorem gf_X8_32 (hC : CallFix p m c cc nL s args lw_all RX8) (hK : va_K D vwCl tys s) (hP : va_P D vwCl ws H) (q0 : Nat) (he : ws[q0]? = some (a, .inr (8, fs))) (hv : fs[13]? = some v) (hdg : decode cc pc = .ok (.getfield 32, 3))
    (kk : W p l e R s m args below meth c H locs cells slots Q (F0 m (pc + 3) ls (v :: rest))) : W p l e R s m args below meth c H locs cells slots Q (F0 m pc ls (.ref a :: rest)) :=
  va_get hC.1 hC.2.1 hC.2.2.2.2 inA_X8 hC.2.2.2.1 hK hP q0 he rfl 13 (by decide) (hC.2.2.2.2 _ q692) (fun _ h => h) hv hdg kk
theorem gf_X8_35 (hC : CallFix p m c cc nL s args lw_all RX8) (hK : va_K D vwCl tys s) (hP : va_P D vwCl ws H) (q0 : Nat) (he : ws[q0]? = some (a, .inr (8, fs))) (hv : fs[14]? = some v) (hdg : decode cc pc = .ok (.getfield 35, 3))
    (kk : W p l e R s m args below meth c H locs cells slots Q (F0 m (pc + 3) ls (v :: rest))) : W p l e R s m args below meth c H locs cells slots Q (F0 m pc ls (.ref a :: rest)) :=
  va_get hC.1 hC.2.1 hC.2.2.2.2 inA_X8 hC.2.2.2.1 hK hP q0 he rfl 14 (by decide) (hC.2.2.2.2 _ q693) (fun _ h => h) hv hdg kk
theorem gf_X8_38 (hC : CallFix p m c cc nL s args lw_all RX8) (hK : va_K D vwCl tys s) (hP : va_P D vwCl ws H) (q0 : Nat) (he : ws[q0]? = some (a, .inr (8, fs))) (hv : fs[15]? = some v) (hdg : decode cc pc = .ok (.getfield 38, 3))
    (kk : W p l e R s m args below meth c H locs cells slots Q (F0 m (pc + 3) ls (v :: rest))) : W p l e R s m args below meth c H locs cells slots Q (F0 m pc ls (.ref a :: rest)) :=
  va_get hC.1 hC.2.1 hC.2.2.2.2 inA_X8 hC.2.2.2.1 hK hP q0 he rfl 15 (by decide) (hC.2.2.2.2 _ q694) (fun _ h => h) hv hdg kk
theorem gf_X8_42 (hC : CallFix p m c cc nL s args lw_all RX8) (hK : va_K D vwCl tys s) (hP : va_P D vwCl ws H) (q0 : Nat) (he : ws[q0]? = some (a, .inr (8, fs))) (hv : fs[16]? = some v) (hdg : decode cc pc = .ok (.getfield 42, 3))
    (kk : W p l e R s m args below meth c H locs cells slots Q (F0 m (pc + 3) ls (v :: rest))) : W p l e R s m args below meth c H locs cells slots Q (F0 m pc ls (.ref a :: rest)) :=
  va_get hC.1 hC.2.1 hC.2.2.2.2 inA_X8 hC.2.2.2.1 hK hP q0 he rfl 16 (by decide) (hC.2.2.2.2 _ q695) (fun _ h => h) hv hdg kk
theorem gf_X8_45 (hC : CallFix p m c cc nL s args lw_all RX8) (hK : va_K D vwCl tys s) (hP : va_P D vwCl ws H) (q0 : Nat) (he : ws[q0]? = some (a, .inr (8, fs))) (hv : fs[17]? = some v) (hdg : decode cc pc = .ok (.getfield 45, 3))
    (kk : W p l e R s m args below meth c H locs cells slots Q (F0 m (pc + 3) ls (v :: rest))) : W p l e R s m args below meth c H locs cells slots Q (F0 m pc ls (.ref a :: rest)) :=
  va_get hC.1 hC.2.1 hC.2.2.2.2 inA_X8 hC.2.2.2.1 hK hP q0 he rfl 17 (by decide) (hC.2.2.2.2 _ q696) (fun _ h => h) hv hdg kk
theorem gf_X8_48 (hC : CallFix p m c cc nL s args lw_all RX8) (hK : va_K D vwCl tys s) (hP : va_P D vwCl ws H) (q0 : Nat) (he : ws[q0]? = some (a, .inr (8, fs))) (hv : fs[18]? = some v) (hdg : decode cc pc = .ok (.getfield 48, 3))
    (kk : W p l e R s m args below meth c H locs cells slots Q (F0 m (pc + 3) ls (v :: rest))) : W p l e R s m args below meth c H locs cells slots Q (F0 m pc ls (.ref a :: rest)) :=
  va_get hC.1 hC.2.1 hC.2.2.2.2 inA_X8 hC.2.2.2.1 hK hP q0 he rfl 18 (by decide) (hC.2.2.2.2 _ q697) (fun _ h => h) hv hdg kk
theorem gf_X8_125 (hC : CallFix p m c cc nL s args lw_all RX8) (hK : va_K D vwCl tys s) (hP : va_P D vwCl ws H) (q0 : Nat) (he : ws[q0]? = some (a, .inr (8, fs))) (hv : fs[19]? = some v) (hdg : decode cc pc = .ok (.getfield 125, 3))
    (kk : W p l e R s m args below meth c H locs cells slots Q (F0 m (pc + 3) ls (v :: rest))) : W p l e R s m args below meth c H locs cells slots Q (F0 m pc ls (.ref a :: rest)) :=
  va_get hC.1 hC.2.1 hC.2.2.2.2 inA_X8 hC.2.2.2.1 hK hP q0 he rfl 19 (by decide) (hC.2.2.2.2 _ q698) (fun _ h => h) hv hdg kk
theorem pf_X8_125 (hC : CallFix p m c cc nL s args lw_all RX8) (hK : va_K D vwCl tys s) (hP : va_P D vwCl ws H) (hD : va_D A ws) (hS : va_S A H0 H locs) (q0 : Nat) {x : Int32} (he : ws[q0]? = some (a, .inr (8, fs))) (hl : 19 < fs.length) {ws1 : va_W} (hw : ws.set q0 (a, .inr (8, fs.set 19 (.int x))) = ws1) (hdg : decode cc pc = .ok (.putfield 125, 3))
    (kk : ∀ (H1 : Heap) (locs1 : List Loc), va_P D vwCl ws1 H1 → va_D A ws1 → va_S A H0 H1 locs1 → W p l e R s m args below meth c H1 locs1 cells slots Q (F0 m (pc + 3) ls rest)) : W p l e R s m args below meth c H locs cells slots Q (F0 m pc ls (.int x :: .ref a :: rest)) := by
  subst hw
  exact va_put hC.1 hC.2.1 hC.2.2.2.2 inA_X8 tyX8 tyX8_ok nmX8 hC.2.2.2.1 hK hP hD hS q0 he rfl 19 (by decide) (hC.2.2.2.2 _ q698) (fun _ h => h) rfl (ty := .int) (by decide +kernel) rfl rfl hl hdg kk
theorem gf_X8_128 (hC : CallFix p m c cc nL s args lw_all RX8) (hK : va_K D vwCl tys s) (hP : va_P D vwCl ws H) (q0 : Nat) (he : ws[q0]? = some (a, .inr (8, fs))) (hv : fs[20]? = some v) (hdg : decode cc pc = .ok (.getfield 128, 3))
    (kk : W p l e R s m args below meth c H locs cells slots Q (F0 m (pc + 3) ls (v :: rest))) : W p l e R s m args below meth c H locs cells slots Q (F0 m pc ls (.ref a :: rest)) :=
  va_get hC.1 hC.2.1 hC.2.2.2.2 inA_X8 hC.2.2.2.1 hK hP q0 he rfl 20 (by decide) (hC.2.2.2.2 _ q699) (fun _ h => h) hv hdg kk
theorem pf_X8_128 (hC : CallFix p m c cc nL s args lw_all RX8) (hK : va_K D vwCl tys s) (hP : va_P D vwCl ws H) (hD : va_D A ws) (hS : va_S A H0 H locs) (q0 : Nat) {x : Int32} (he : ws[q0]? = some (a, .inr (8, fs))) (hn : narrow .boolean (.int x) = .int x) (hfit : fits .boolean (.int x) = true) (hl : 20 < fs.length) {ws1 : va_W} (hw : ws.set q0 (a, .inr (8, fs.set 20 (.int x))) = ws1) (hdg : decode cc pc = .ok (.putfield 128, 3))
    (kk : ∀ (H1 : Heap) (locs1 : List Loc), va_P D vwCl ws1 H1 → va_D A ws1 → va_S A H0 H1 locs1 → W p l e R s m args below meth c H1 locs1 cells slots Q (F0 m (pc + 3) ls rest)) : W p l e R s m args below meth c H locs cells slots Q (F0 m pc ls (.int x :: .ref a :: rest)) := by
  subst hw
  exact va_put hC.1 hC.2.1 hC.2.2.2.2 inA_X8 tyX8 tyX8_ok nmX8 hC.2.2.2.1 hK hP hD hS q0 he rfl 20 (by decide) (hC.2.2.2.2 _ q699) (fun _ h => h) rfl (ty := .boolean) (by decide +kernel) hn hfit hl hdg kk
theorem gf_X8_140 (hC : CallFix p m c cc nL s args lw_all RX8) (hK : va_K D vwCl tys s) (hP : va_P D vwCl ws H) (q0 : Nat) (he : ws[q0]? = some (a, .inr (8, fs))) (hv : fs[21]? = some v) (hdg : decode cc pc = .ok (.getfield 140, 3))
    (kk : W p l e R s m args below meth c H locs cells slots Q (F0 m (pc + 3) ls (v :: rest))) : W p l e R s m args below meth c H locs cells slots Q (F0 m pc ls (.ref a :: rest)) :=
  va_get hC.1 hC.2.1 hC.2.2.2.2 inA_X8 hC.2.2.2.1 hK hP q0 he rfl 21 (by decide) (hC.2.2.2.2 _ q700) (fun _ h => h) hv hdg kk
theorem pf_X8_140 (hC : CallFix p m c cc nL s args lw_all RX8) (hK : va_K D vwCl tys s) (hP : va_P D vwCl ws H) (hD : va_D A ws) (hS : va_S A H0 H locs) (q0 : Nat) {x : Int32} (he : ws[q0]? = some (a, .inr (8, fs))) (hl : 21 < fs.length) {ws1 : va_W} (hw : ws.set q0 (a, .inr (8, fs.set 21 (.int x))) = ws1) (hdg : decode cc pc = .ok (.putfield 140, 3))
    (kk : ∀ (H1 : Heap) (locs1 : List Loc), va_P D vwCl ws1 H1 → va_D A ws1 → va_S A H0 H1 locs1 → W p l e R s m args below meth c H1 locs1 cells slots Q (F0 m (pc + 3) ls rest)) : W p l e R s m args below meth c H locs cells slots Q (F0 m pc ls (.int x :: .ref a :: rest)) := by
  subst hw
  exact va_put hC.1 hC.2.1 hC.2.2.2.2 inA_X8 tyX8 tyX8_ok nmX8 hC.2.2.2.1 hK hP hD hS q0 he rfl 21 (by decide) (hC.2.2.2.2 _ q700) (fun _ h => h) rfl (ty := .int) (by decide +kernel) rfl rfl hl hdg kk
end FR
theorem md_X0_empty : mdV yX0_empty cX0_empty 4 none 2 RX0 := ⟨q67, q65, q66, q3, by decide +kernel⟩
theorem md_X0_forgetMoves : mdV yX0_forgetMoves cX0_forgetMoves 1 none 0 RX0 := ⟨q71, q69, q70, q3, by decide +kernel⟩
theorem md_X7_type : mdV yX7_type cX7_type 2 (some .int) 1 RX7 := ⟨q303, q301, q302, q1, by decide +kernel⟩
theorem md_X6_append : mdV yX6_append cX6_append 2 (some .boolean) 1 RX6 := ⟨q307, q305, q306, q2, by decide +kernel⟩
theorem md_X7_clear : mdV yX7_clear cX7_clear 2 (some .int) 0 RX7 := ⟨q311, q309, q310, q1, by decide +kernel⟩
theorem md_X7_read : mdV yX7_read cX7_read 2 (some .int) 0 RX7 := ⟨q315, q313, q314, q1, by decide +kernel⟩
theorem md_X6_parse : mdV yX6_parse cX6_parse 4 (some .int) 1 RX6 := ⟨q319, q317, q318, q2, by decide +kernel⟩
theorem md_X6_startParse : mdV yX6_startParse cX6_startParse 1 none 0 RX6 := ⟨q323, q322, qp0, q2, by decide +kernel⟩
theorem md_X6_endRow : mdV yX6_endRow cX6_endRow 1 (some .boolean) 0 RX6 := ⟨q327, q326, qp1, q2, by decide +kernel⟩
theorem md_X6_isRowWhole : mdV yX6_isRowWhole cX6_isRowWhole 1 (some .boolean) 0 RX6 := ⟨q331, q330, qp2, q2, by decide +kernel⟩
theorem md_X6_addCell : mdV yX6_addCell cX6_addCell 4 (some .boolean) 1 RX6 := ⟨q335, q334, qp3, q2, by decide +kernel⟩
theorem md_X6_contentOf : mdV yX6_contentOf cX6_contentOf 3 (some .int) 1 RX6 := ⟨q339, q338, qp4, q2, by decide +kernel⟩
theorem md_X7_at : mdS yX7_at cX7_at 2 (some .int) 2 := ⟨q342, q341, q1, by decide +kernel⟩
theorem md_X7_put : mdS yX7_put cX7_put 3 none 3 := ⟨q345, q344, q1, by decide +kernel⟩
theorem md_X6_fill : mdV yX6_fill cX6_fill 4 (some .int) 1 RX6 := ⟨q349, q348, qp5, q2, by decide +kernel⟩
theorem md_X6_cellsWith : mdV yX6_cellsWith cX6_cellsWith 4 (some .int) 1 RX6 := ⟨q354, q353, qp6, q2, by decide +kernel⟩
theorem md_X0_isJoined : mdV yX0_isJoined cX0_isJoined 6 (some .boolean) 1 RX0 := ⟨q358, q356, q357, q3, by decide +kernel⟩
theorem md_X6_firstCell : mdV yX6_firstCell cX6_firstCell 3 (some .int) 1 RX6 := ⟨q362, q361, qp7, q2, by decide +kernel⟩
theorem md_X6_textIndex : mdV yX6_textIndex cX6_textIndex 2 (some .int) 1 RX6 := ⟨q366, q365, qp8, q2, by decide +kernel⟩
theorem md_X0_add : mdV yX0_add cX0_add 8 none 1 RX0 := ⟨q370, q368, q369, q3, by decide +kernel⟩
theorem md_J9_min_7cf53 : mdS yJ9_min_7cf53 cJ9_min_7cf53 2 (some .int) 2 := ⟨q373, q372, q10, by decide +kernel⟩
theorem md_J9_max_7cf53 : mdS yJ9_max_7cf53 cJ9_max_7cf53 2 (some .int) 2 := ⟨q376, q375, q10, by decide +kernel⟩
theorem md_X2_keep : mdV yX2_keep cX2_keep 3 none 1 RX2 := ⟨q381, q379, q380, q4, by decide +kernel⟩
theorem md_X2_boardAt : mdV yX2_boardAt cX2_boardAt 3 (some (.object "SlidingBlocks$Board")) 1 RX2 := ⟨q385, q384, qp9, q4, by decide +kernel⟩
theorem md_X0_copy : mdV yX0_copy cX0_copy 2 none 1 RX0 := ⟨q389, q387, q388, q3, by decide +kernel⟩
theorem md_X7_copyRow : mdS yX7_copyRow cX7_copyRow 2 none 2 := ⟨q392, q391, q1, by decide +kernel⟩
theorem md_X7_frame : mdV yX7_frame cX7_frame 2 (some .int) 1 RX7 := ⟨q401, q399, q400, q1, by decide +kernel⟩
theorem md_X0_taken : mdV yX0_taken cX0_taken 3 (some .int) 0 RX0 := ⟨q405, q403, q404, q3, by decide +kernel⟩
theorem md_X0_cellsOf : mdV yX0_cellsOf cX0_cellsOf 2 (some .int) 1 RX0 := ⟨q409, q407, q408, q3, by decide +kernel⟩
theorem md_J6_bitCount_0f7a4 : mdS yJ6_bitCount_0f7a4 cJ6_bitCount_0f7a4 1 (some .int) 1 := ⟨q413, q412, q12, by decide +kernel⟩
theorem md_X0_atGoal : mdV yX0_atGoal cX0_atGoal 1 (some .boolean) 0 RX0 := ⟨q420, q418, q419, q3, by decide +kernel⟩
theorem md_X7_cell : mdV yX7_cell cX7_cell 4 (some .int) 1 RX7 := ⟨q424, q422, q423, q1, by decide +kernel⟩
theorem md_X0_hasCell : mdV yX0_hasCell cX0_hasCell 2 (some .boolean) 1 RX0 := ⟨q428, q426, q427, q3, by decide +kernel⟩
theorem md_X7_block : mdV yX7_block cX7_block 3 (some .int) 2 RX7 := ⟨q433, q431, q432, q1, by decide +kernel⟩
theorem md_X0_has : mdV yX0_has cX0_has 2 (some .boolean) 1 RX0 := ⟨q437, q435, q436, q3, by decide +kernel⟩
theorem md_X0_directionsOf : mdV yX0_directionsOf cX0_directionsOf 3 (some .int) 1 RX0 := ⟨q442, q440, q441, q3, by decide +kernel⟩
theorem md_X0_directions : mdV yX0_directions cX0_directions 4 (some .int) 2 RX0 := ⟨q447, q445, q446, q3, by decide +kernel⟩
theorem md_X3_spread : mdV yX3_spread cX3_spread 12 (some .int) 2 RX3 := ⟨q451, q449, q450, q5, by decide +kernel⟩
theorem md_J7_fill_53178 : mdS yJ7_fill_53178 cJ7_fill_53178 4 none 2 := ⟨q457, q456, q13, by decide +kernel⟩
theorem md_X0_offset : mdV yX0_offset cX0_offset 2 (some .int) 1 RX0 := ⟨q463, q461, q462, q3, by decide +kernel⟩
theorem md_X0_firstAlike : mdV yX0_firstAlike cX0_firstAlike 3 (some .int) 1 RX0 := ⟨q467, q465, q466, q3, by decide +kernel⟩
theorem md_X7_step : mdV yX7_step cX7_step 4 (some .int) 2 RX7 := ⟨q471, q469, q470, q1, by decide +kernel⟩
theorem md_X0_move : mdV yX0_move cX0_move 5 none 4 RX0 := ⟨q476, q474, q475, q3, by decide +kernel⟩
theorem md_X7_slide : mdV yX7_slide cX7_slide 4 (some .int) 2 RX7 := ⟨q480, q478, q479, q1, by decide +kernel⟩
theorem md_X7_goal : mdV yX7_goal cX7_goal 3 (some .int) 2 RX7 := ⟨q484, q482, q483, q1, by decide +kernel⟩
theorem md_X0_fits : mdV yX0_fits cX0_fits 3 (some .boolean) 2 RX0 := ⟨q488, q486, q487, q3, by decide +kernel⟩
theorem md_X7_states : mdV yX7_states cX7_states 1 (some .int) 0 RX7 := ⟨q493, q491, q492, q1, by decide +kernel⟩
theorem md_X5_explore : mdV yX5_explore cX5_explore 4 none 2 RX5 := ⟨q497, q495, q496, q7, by decide +kernel⟩
theorem md_X1_forget : mdV yX1_forget cX1_forget 1 none 0 RX1 := ⟨q502, q500, q501, q8, by decide +kernel⟩
theorem md_X0_key : mdV yX0_key cX0_key 5 (some .long) 1 RX0 := ⟨q506, q504, q505, q3, by decide +kernel⟩
theorem md_X7_keyShift : mdS yX7_keyShift cX7_keyShift 1 (some .int) 1 := ⟨q509, q508, q1, by decide +kernel⟩
theorem md_X5_add : mdV yX5_add cX5_add 4 none 1 RX5 := ⟨q513, q512, qp10, q7, by decide +kernel⟩
theorem md_X5_slotOf : mdV yX5_slotOf cX5_slotOf 6 (some .int) 1 RX5 := ⟨q517, q516, qp11, q7, by decide +kernel⟩
theorem md_X7_put_ : mdS yX7_put_ cX7_put_ 4 none 3 := ⟨q522, q521, q1, by decide +kernel⟩
theorem md_X5_expand : mdV yX5_expand cX5_expand 11 none 2 RX5 := ⟨q527, q526, qp12, q7, by decide +kernel⟩
theorem md_X7_at_ : mdS yX7_at_ cX7_at_ 2 (some .long) 2 := ⟨q530, q529, q1, by decide +kernel⟩
theorem md_X5_takenIn : mdV yX5_takenIn cX5_takenIn 6 (some .int) 2 RX5 := ⟨q534, q533, qp13, q7, by decide +kernel⟩
theorem md_X7_placeIn : mdS yX7_placeIn cX7_placeIn 3 (some .int) 2 := ⟨q537, q536, q1, by decide +kernel⟩
theorem md_X7_solved : mdV yX7_solved cX7_solved 1 (some .int) 0 RX7 := ⟨q544, q542, q543, q1, by decide +kernel⟩
theorem md_X5_countAt : mdV yX5_countAt cX5_countAt 5 (some .int) 2 RX5 := ⟨q548, q546, q547, q7, by decide +kernel⟩
theorem md_X7_distance : mdV yX7_distance cX7_distance 3 (some .int) 1 RX7 := ⟨q552, q550, q551, q1, by decide +kernel⟩
theorem md_X7_greatest : mdV yX7_greatest cX7_greatest 5 (some .int) 3 RX7 := ⟨q556, q555, qp14, q1, by decide +kernel⟩
theorem md_X5_distances : mdV yX5_distances cX5_distances 2 (some (.object "SlidingBlocks$Distances")) 1 RX5 := ⟨q560, q558, q559, q7, by decide +kernel⟩
theorem md_X1_measure : mdV yX1_measure cX1_measure 6 none 2 RX1 := ⟨q564, q562, q563, q8, by decide +kernel⟩
theorem md_X1_beginAtSolved : mdV yX1_beginAtSolved cX1_beginAtSolved 3 none 1 RX1 := ⟨q568, q567, qp15, q8, by decide +kernel⟩
theorem md_X1_reach : mdV yX1_reach cX1_reach 3 none 2 RX1 := ⟨q575, q574, qp16, q8, by decide +kernel⟩
theorem md_X5_canMove : mdV yX5_canMove cX5_canMove 3 (some .boolean) 2 RX5 := ⟨q581, q579, q580, q7, by decide +kernel⟩
theorem md_X1_slideFrom : mdV yX1_slideFrom cX1_slideFrom 12 none 4 RX1 := ⟨q585, q584, qp17, q8, by decide +kernel⟩
theorem md_X5_after : mdV yX5_after cX5_after 7 (some .int) 4 RX5 := ⟨q589, q587, q588, q7, by decide +kernel⟩
theorem md_X1_stepFrom : mdV yX1_stepFrom cX1_stepFrom 8 none 4 RX1 := ⟨q593, q592, qp18, q8, by decide +kernel⟩
theorem md_X5_farOf : mdV yX5_farOf cX5_farOf 5 (some .int) 2 RX5 := ⟨q598, q596, q597, q7, by decide +kernel⟩
theorem md_X7_hint : mdV yX7_hint cX7_hint 6 (some .int) 1 RX7 := ⟨q603, q601, q602, q1, by decide +kernel⟩
theorem md_X7_nearerPlace : mdV yX7_nearerPlace cX7_nearerPlace 7 (some .int) 3 RX7 := ⟨q607, q606, qp19, q1, by decide +kernel⟩
theorem md_X0_keyAfter : mdV yX0_keyAfter cX0_keyAfter 3 (some .long) 2 RX0 := ⟨q611, q609, q610, q3, by decide +kernel⟩
theorem md_X7_follow : mdV yX7_follow cX7_follow 5 (some .int) 1 RX7 := ⟨q616, q614, q615, q1, by decide +kernel⟩
theorem md_X7_worst : mdV yX7_worst cX7_worst 2 (some .int) 1 RX7 := ⟨q622, q620, q621, q1, by decide +kernel⟩
theorem md_X7_hardest : mdV yX7_hardest cX7_hardest 3 (some .int) 1 RX7 := ⟨q626, q624, q625, q1, by decide +kernel⟩
theorem md_X5_firstFar : mdV yX5_firstFar cX5_firstFar 9 (some .long) 2 RX5 := ⟨q630, q628, q629, q7, by decide +kernel⟩
theorem md_X0_arrange : mdV yX0_arrange cX0_arrange 4 none 1 RX0 := ⟨q635, q633, q634, q3, by decide +kernel⟩
theorem md_X7_mean : mdV yX7_mean cX7_mean 2 (some .float) 1 RX7 := ⟨q641, q639, q640, q1, by decide +kernel⟩
theorem md_X7_places : mdV yX7_places cX7_places 2 (some .int) 1 RX7 := ⟨q646, q644, q645, q1, by decide +kernel⟩
theorem md_X5_placesOf : mdV yX5_placesOf cX5_placesOf 4 (some .int) 1 RX5 := ⟨q650, q648, q649, q7, by decide +kernel⟩
theorem md_X7_without : mdV yX7_without cX7_without 4 (some .int) 2 RX7 := ⟨q654, q652, q653, q1, by decide +kernel⟩
theorem md_X7_undo : mdV yX7_undo cX7_undo 1 (some .int) 0 RX7 := ⟨q658, q656, q657, q1, by decide +kernel⟩
theorem md_X2_restore : mdV yX2_restore cX2_restore 3 (some .int) 1 RX2 := ⟨q662, q660, q661, q4, by decide +kernel⟩
theorem md_X7_fingerprint : mdV yX7_fingerprint cX7_fingerprint 5 (some .long) 0 RX7 := ⟨q666, q664, q665, q1, by decide +kernel⟩
theorem md_X8_type : mdV yX8_type cX8_type 2 (some .int) 1 RX8 := ⟨q749, q747, q748, q9, by decide +kernel⟩
theorem md_X8_in : mdS yX8_in cX8_in 3 (some .boolean) 3 := ⟨q752, q751, q9, by decide +kernel⟩
theorem md_X8_clear : mdV yX8_clear cX8_clear 2 (some .int) 0 RX8 := ⟨q756, q754, q755, q9, by decide +kernel⟩
theorem md_X8_read : mdV yX8_read cX8_read 3 (some .int) 0 RX8 := ⟨q760, q758, q759, q9, by decide +kernel⟩
theorem md_X8_wrongAt : mdV yX8_wrongAt cX8_wrongAt 3 (some .int) 0 RX8 := ⟨q764, q763, qp20, q9, by decide +kernel⟩
theorem md_X8_lays : mdV yX8_lays cX8_lays 6 (some .int) 0 RX8 := ⟨q768, q767, qp21, q9, by decide +kernel⟩
theorem md_X8_places : mdV yX8_places cX8_places 5 (some .boolean) 3 RX8 := ⟨q772, q771, qp22, q9, by decide +kernel⟩
theorem md_X8_isOne : mdV yX8_isOne cX8_isOne 4 (some .boolean) 1 RX8 := ⟨q776, q775, qp23, q9, by decide +kernel⟩
theorem md_X8_spreads : mdS yX8_spreads cX8_spreads 5 (some .int) 3 := ⟨q779, q778, q9, by decide +kernel⟩
theorem md_X8_act : mdV yX8_act cX8_act 2 none 0 RX8 := ⟨q783, q782, qp24, q9, by decide +kernel⟩
theorem md_X8_shapes : mdV yX8_shapes cX8_shapes 8 none 2 RX8 := ⟨q787, q786, qp25, q9, by decide +kernel⟩
theorem md_X8_frame : mdV yX8_frame cX8_frame 2 (some .int) 1 RX8 := ⟨q791, q789, q790, q9, by decide +kernel⟩
theorem md_X8_frameOf : mdV yX8_frameOf cX8_frameOf 2 (some .int) 1 RX8 := ⟨q795, q794, qp26, q9, by decide +kernel⟩
theorem md_X8_cells : mdV yX8_cells cX8_cells 1 (some .int) 0 RX8 := ⟨q799, q798, qp27, q9, by decide +kernel⟩
theorem md_X8_present : mdV yX8_present cX8_present 4 (some .long) 0 RX8 := ⟨q803, q802, qp28, q9, by decide +kernel⟩
theorem md_X8_with : mdS yX8_with cX8_with 5 (some .long) 3 := ⟨q806, q805, q9, by decide +kernel⟩
theorem md_X8_taken : mdV yX8_taken cX8_taken 6 (some .int) 2 RX8 := ⟨q812, q811, qp29, q9, by decide +kernel⟩
theorem md_X8_placeIn : mdS yX8_placeIn cX8_placeIn 3 (some .int) 2 := ⟨q815, q814, q9, by decide +kernel⟩
theorem md_X8_many : mdS yX8_many cX8_many 3 (some .int) 1 := ⟨q818, q817, q9, by decide +kernel⟩
theorem md_X8_isSolved : mdV yX8_isSolved cX8_isSolved 1 (some .boolean) 0 RX8 := ⟨q822, q821, qp30, q9, by decide +kernel⟩
theorem md_X8_cell : mdV yX8_cell cX8_cell 2 (some .int) 1 RX8 := ⟨q826, q824, q825, q9, by decide +kernel⟩
theorem md_X8_inCell : mdV yX8_inCell cX8_inCell 4 (some .int) 1 RX8 := ⟨q830, q829, qp31, q9, by decide +kernel⟩
theorem md_X8_block : mdV yX8_block cX8_block 3 (some .int) 2 RX8 := ⟨q834, q832, q833, q9, by decide +kernel⟩
theorem md_X8_isBlock : mdV yX8_isBlock cX8_isBlock 2 (some .boolean) 1 RX8 := ⟨q838, q837, qp32, q9, by decide +kernel⟩
theorem md_X8_told : mdV yX8_told cX8_told 7 (some .int) 2 RX8 := ⟨q842, q841, qp33, q9, by decide +kernel⟩
theorem md_X8_floods : mdV yX8_floods cX8_floods 9 none 2 RX8 := ⟨q846, q845, qp34, q9, by decide +kernel⟩
theorem md_X8_beside : mdV yX8_beside cX8_beside 7 (some .int) 3 RX8 := ⟨q850, q849, qp35, q9, by decide +kernel⟩
theorem md_X8_step : mdV yX8_step cX8_step 4 (some .int) 2 RX8 := ⟨q854, q852, q853, q9, by decide +kernel⟩
theorem md_X8_moves : mdV yX8_moves cX8_moves 5 none 4 RX8 := ⟨q858, q857, qp36, q9, by decide +kernel⟩
theorem md_X8_slide : mdV yX8_slide cX8_slide 3 (some .int) 2 RX8 := ⟨q862, q860, q861, q9, by decide +kernel⟩
theorem md_X8_goal : mdV yX8_goal cX8_goal 3 (some .int) 2 RX8 := ⟨q866, q864, q865, q9, by decide +kernel⟩
theorem md_X8_isInside : mdV yX8_isInside cX8_isInside 3 (some .boolean) 2 RX8 := ⟨q870, q869, qp37, q9, by decide +kernel⟩
theorem md_X8_states : mdV yX8_states cX8_states 1 (some .int) 0 RX8 := ⟨q874, q872, q873, q9, by decide +kernel⟩
theorem md_X8_stateMany : mdV yX8_stateMany cX8_stateMany 1 (some .int) 0 RX8 := ⟨q878, q877, qp38, q9, by decide +kernel⟩
theorem md_X8_explores : mdV yX8_explores cX8_explores 7 none 1 RX8 := ⟨q882, q881, qp39, q9, by decide +kernel⟩
theorem md_X8_finds : mdV yX8_finds cX8_finds 4 none 1 RX8 := ⟨q886, q885, qp40, q9, by decide +kernel⟩
theorem md_X8_slot : mdV yX8_slot cX8_slot 4 (some .int) 1 RX8 := ⟨q890, q889, qp41, q9, by decide +kernel⟩
theorem md_X8_solved : mdV yX8_solved cX8_solved 3 (some .int) 0 RX8 := ⟨q895, q893, q894, q9, by decide +kernel⟩
theorem md_X8_distance : mdV yX8_distance cX8_distance 2 (some .int) 1 RX8 := ⟨q899, q897, q898, q9, by decide +kernel⟩
theorem md_X8_distanceOf : mdV yX8_distanceOf cX8_distanceOf 3 (some .int) 1 RX8 := ⟨q903, q902, qp42, q9, by decide +kernel⟩
theorem md_X8_opens : mdV yX8_opens cX8_opens 3 (some .int) 2 RX8 := ⟨q907, q906, qp43, q9, by decide +kernel⟩
theorem md_X8_measures : mdV yX8_measures cX8_measures 7 none 1 RX8 := ⟨q911, q910, qp44, q9, by decide +kernel⟩
theorem md_X8_isMove : mdV yX8_isMove cX8_isMove 3 (some .boolean) 2 RX8 := ⟨q915, q914, qp45, q9, by decide +kernel⟩
theorem md_X8_reaches : mdV yX8_reaches cX8_reaches 5 none 2 RX8 := ⟨q919, q918, qp46, q9, by decide +kernel⟩
theorem md_X8_hint : mdV yX8_hint cX8_hint 2 (some .int) 1 RX8 := ⟨q923, q921, q922, q9, by decide +kernel⟩
theorem md_X8_hinted : mdV yX8_hinted cX8_hinted 5 (some .int) 1 RX8 := ⟨q927, q926, qp47, q9, by decide +kernel⟩
theorem md_X8_follow : mdV yX8_follow cX8_follow 4 (some .int) 1 RX8 := ⟨q931, q929, q930, q9, by decide +kernel⟩
theorem md_X8_worst : mdV yX8_worst cX8_worst 3 (some .int) 1 RX8 := ⟨q935, q933, q934, q9, by decide +kernel⟩
theorem md_X8_farthest : mdV yX8_farthest cX8_farthest 3 (some .int) 0 RX8 := ⟨q939, q938, qp48, q9, by decide +kernel⟩
theorem md_X8_hardest : mdV yX8_hardest cX8_hardest 5 (some .int) 1 RX8 := ⟨q943, q941, q942, q9, by decide +kernel⟩
theorem md_X8_mean : mdV yX8_mean cX8_mean 4 (some .float) 1 RX8 := ⟨q947, q945, q946, q9, by decide +kernel⟩
theorem md_X8_places_ : mdV yX8_places_ cX8_places_ 4 (some .int) 1 RX8 := ⟨q952, q950, q951, q9, by decide +kernel⟩
theorem md_X8_without : mdV yX8_without cX8_without 4 (some .int) 2 RX8 := ⟨q956, q954, q955, q9, by decide +kernel⟩
theorem md_X8_undo : mdV yX8_undo cX8_undo 2 (some .int) 0 RX8 := ⟨q960, q958, q959, q9, by decide +kernel⟩
theorem md_X8_fingerprint : mdV yX8_fingerprint cX8_fingerprint 5 (some .long) 0 RX8 := ⟨q964, q962, q963, q9, by decide +kernel⟩
