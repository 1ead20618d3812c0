/-! constructors (written by cgen.py) -/
section CF
variable {p : Program} {l : Launch} {e : Env} {R : Room} {s : State} {m : MethodId} {args : Array Value} {below : List Frame} {meth : Method} {c : Code} {H : Heap} {locs : List Loc} {cells slots : Nat} {Q : State → Prop}
variable {cc : ByteArray} {pc nL : Nat} {ls : Array Slot} {rest : List Value} {D : va_G} {A : Nat → Prop} {tys : List (ClassId × FieldType)} {ws : va_W} {H0 : Heap} {a : Nat} {fs : List Value} {v : Value}
theorem pF_X4_9 (hC : CallFix p m c cc nL s args lw_all RX4) (hK : va_K D vwCl tys s) (hP : va_P D vwCl ws H) (hD : va_D A ws) (hS : va_S A H0 H locs) (hin : meth.name = "<init>") (q0 : Nat) {v : Value} (he : ws[q0]? = some (a, .inr (4, fs))) (hn : narrow (.array .int) v = v) (hfit : fits (.array .int) v = true) (hl : 0 < fs.length) {ws1 : va_W} (hw : ws.set q0 (a, .inr (4, fs.set 0 v)) = ws1) (hdg : decode cc pc = .ok (.putfield 9, 3))
    (kk : ∀ (H1 : Heap) (locs1 : List Loc), va_P D vwCl ws1 H1 → va_D A ws1 → va_S A H0 H1 locs1 → W p l e R s m args below meth c H1 locs1 cells slots Q (F0 m (pc + 3) ls rest)) : W p l e R s m args below meth c H locs cells slots Q (F0 m pc ls (v :: .ref a :: rest)) := by
  subst hw
  exact va_putF hC.1 hC.2.1 hC.2.2.2.2 inA_X4 tyX4 tyX4_ok nmX4 hC.2.2.2.1 hK hP hD hS q0 he rfl 0 (by decide) (hC.2.2.2.2 _ q189) (fun _ h => h) rfl hin rfl (ty := (.array .int)) (by decide +kernel) hn hfit hl hdg kk
theorem pF_X4_15 (hC : CallFix p m c cc nL s args lw_all RX4) (hK : va_K D vwCl tys s) (hP : va_P D vwCl ws H) (hD : va_D A ws) (hS : va_S A H0 H locs) (hin : meth.name = "<init>") (q0 : Nat) {v : Value} (he : ws[q0]? = some (a, .inr (4, fs))) (hn : narrow (.array .int) v = v) (hfit : fits (.array .int) v = true) (hl : 1 < fs.length) {ws1 : va_W} (hw : ws.set q0 (a, .inr (4, fs.set 1 v)) = ws1) (hdg : decode cc pc = .ok (.putfield 15, 3))
    (kk : ∀ (H1 : Heap) (locs1 : List Loc), va_P D vwCl ws1 H1 → va_D A ws1 → va_S A H0 H1 locs1 → W p l e R s m args below meth c H1 locs1 cells slots Q (F0 m (pc + 3) ls rest)) : W p l e R s m args below meth c H locs cells slots Q (F0 m pc ls (v :: .ref a :: rest)) := by
  subst hw
  exact va_putF hC.1 hC.2.1 hC.2.2.2.2 inA_X4 tyX4 tyX4_ok nmX4 hC.2.2.2.1 hK hP hD hS q0 he rfl 1 (by decide) (hC.2.2.2.2 _ q191) (fun _ h => h) rfl hin rfl (ty := (.array .int)) (by decide +kernel) hn hfit hl hdg kk
theorem pF_X4_18 (hC : CallFix p m c cc nL s args lw_all RX4) (hK : va_K D vwCl tys s) (hP : va_P D vwCl ws H) (hD : va_D A ws) (hS : va_S A H0 H locs) (hin : meth.name = "<init>") (q0 : Nat) {v : Value} (he : ws[q0]? = some (a, .inr (4, fs))) (hn : narrow (.array .int) v = v) (hfit : fits (.array .int) v = true) (hl : 2 < fs.length) {ws1 : va_W} (hw : ws.set q0 (a, .inr (4, fs.set 2 v)) = ws1) (hdg : decode cc pc = .ok (.putfield 18, 3))
    (kk : ∀ (H1 : Heap) (locs1 : List Loc), va_P D vwCl ws1 H1 → va_D A ws1 → va_S A H0 H1 locs1 → W p l e R s m args below meth c H1 locs1 cells slots Q (F0 m (pc + 3) ls rest)) : W p l e R s m args below meth c H locs cells slots Q (F0 m pc ls (v :: .ref a :: rest)) := by
  subst hw
  exact va_putF hC.1 hC.2.1 hC.2.2.2.2 inA_X4 tyX4 tyX4_ok nmX4 hC.2.2.2.1 hK hP hD hS q0 he rfl 2 (by decide) (hC.2.2.2.2 _ q193) (fun _ h => h) rfl hin rfl (ty := (.array .int)) (by decide +kernel) hn hfit hl hdg kk
theorem pF_X6_9 (hC : CallFix p m c cc nL s args lw_all RX6) (hK : va_K D vwCl tys s) (hP : va_P D vwCl ws H) (hD : va_D A ws) (hS : va_S A H0 H locs) (hin : meth.name = "<init>") (q0 : Nat) {v : Value} (he : ws[q0]? = some (a, .inr (6, fs))) (hn : narrow (.array .int) v = v) (hfit : fits (.array .int) v = true) (hl : 0 < fs.length) {ws1 : va_W} (hw : ws.set q0 (a, .inr (6, fs.set 0 v)) = ws1) (hdg : decode cc pc = .ok (.putfield 9, 3))
    (kk : ∀ (H1 : Heap) (locs1 : List Loc), va_P D vwCl ws1 H1 → va_D A ws1 → va_S A H0 H1 locs1 → W p l e R s m args below meth c H1 locs1 cells slots Q (F0 m (pc + 3) ls rest)) : W p l e R s m args below meth c H locs cells slots Q (F0 m pc ls (v :: .ref a :: rest)) := by
  subst hw
  exact va_putF hC.1 hC.2.1 hC.2.2.2.2 inA_X6 tyX6 tyX6_ok nmX6 hC.2.2.2.1 hK hP hD hS q0 he rfl 0 (by decide) (hC.2.2.2.2 _ q28) (fun _ h => h) rfl hin rfl (ty := (.array .int)) (by decide +kernel) hn hfit hl hdg kk
theorem pF_X6_15 (hC : CallFix p m c cc nL s args lw_all RX6) (hK : va_K D vwCl tys s) (hP : va_P D vwCl ws H) (hD : va_D A ws) (hS : va_S A H0 H locs) (hin : meth.name = "<init>") (q0 : Nat) {v : Value} (he : ws[q0]? = some (a, .inr (6, fs))) (hn : narrow .int v = v) (hfit : fits .int v = true) (hl : 1 < fs.length) {ws1 : va_W} (hw : ws.set q0 (a, .inr (6, fs.set 1 v)) = ws1) (hdg : decode cc pc = .ok (.putfield 15, 3))
    (kk : ∀ (H1 : Heap) (locs1 : List Loc), va_P D vwCl ws1 H1 → va_D A ws1 → va_S A H0 H1 locs1 → W p l e R s m args below meth c H1 locs1 cells slots Q (F0 m (pc + 3) ls rest)) : W p l e R s m args below meth c H locs cells slots Q (F0 m pc ls (v :: .ref a :: rest)) := by
  subst hw
  exact va_put hC.1 hC.2.1 hC.2.2.2.2 inA_X6 tyX6 tyX6_ok nmX6 hC.2.2.2.1 hK hP hD hS q0 he rfl 1 (by decide) (hC.2.2.2.2 _ q29) (fun _ h => h) rfl (ty := .int) (by decide +kernel) hn hfit hl hdg kk
theorem pF_X6_19 (hC : CallFix p m c cc nL s args lw_all RX6) (hK : va_K D vwCl tys s) (hP : va_P D vwCl ws H) (hD : va_D A ws) (hS : va_S A H0 H locs) (hin : meth.name = "<init>") (q0 : Nat) {v : Value} (he : ws[q0]? = some (a, .inr (6, fs))) (hn : narrow (.array .int) v = v) (hfit : fits (.array .int) v = true) (hl : 2 < fs.length) {ws1 : va_W} (hw : ws.set q0 (a, .inr (6, fs.set 2 v)) = ws1) (hdg : decode cc pc = .ok (.putfield 19, 3))
    (kk : ∀ (H1 : Heap) (locs1 : List Loc), va_P D vwCl ws1 H1 → va_D A ws1 → va_S A H0 H1 locs1 → W p l e R s m args below meth c H1 locs1 cells slots Q (F0 m (pc + 3) ls rest)) : W p l e R s m args below meth c H locs cells slots Q (F0 m pc ls (v :: .ref a :: rest)) := by
  subst hw
  exact va_putF hC.1 hC.2.1 hC.2.2.2.2 inA_X6 tyX6 tyX6_ok nmX6 hC.2.2.2.1 hK hP hD hS q0 he rfl 2 (by decide) (hC.2.2.2.2 _ q31) (fun _ h => h) rfl hin rfl (ty := (.array .int)) (by decide +kernel) hn hfit hl hdg kk
theorem pF_X6_22 (hC : CallFix p m c cc nL s args lw_all RX6) (hK : va_K D vwCl tys s) (hP : va_P D vwCl ws H) (hD : va_D A ws) (hS : va_S A H0 H locs) (hin : meth.name = "<init>") (q0 : Nat) {v : Value} (he : ws[q0]? = some (a, .inr (6, fs))) (hn : narrow .int v = v) (hfit : fits .int v = true) (hl : 3 < fs.length) {ws1 : va_W} (hw : ws.set q0 (a, .inr (6, fs.set 3 v)) = ws1) (hdg : decode cc pc = .ok (.putfield 22, 3))
    (kk : ∀ (H1 : Heap) (locs1 : List Loc), va_P D vwCl ws1 H1 → va_D A ws1 → va_S A H0 H1 locs1 → W p l e R s m args below meth c H1 locs1 cells slots Q (F0 m (pc + 3) ls rest)) : W p l e R s m args below meth c H locs cells slots Q (F0 m pc ls (v :: .ref a :: rest)) := by
  subst hw
  exact va_put hC.1 hC.2.1 hC.2.2.2.2 inA_X6 tyX6 tyX6_ok nmX6 hC.2.2.2.1 hK hP hD hS q0 he rfl 3 (by decide) (hC.2.2.2.2 _ q32) (fun _ h => h) rfl (ty := .int) (by decide +kernel) hn hfit hl hdg kk
theorem pF_X6_25 (hC : CallFix p m c cc nL s args lw_all RX6) (hK : va_K D vwCl tys s) (hP : va_P D vwCl ws H) (hD : va_D A ws) (hS : va_S A H0 H locs) (hin : meth.name = "<init>") (q0 : Nat) {v : Value} (he : ws[q0]? = some (a, .inr (6, fs))) (hn : narrow (.array .int) v = v) (hfit : fits (.array .int) v = true) (hl : 4 < fs.length) {ws1 : va_W} (hw : ws.set q0 (a, .inr (6, fs.set 4 v)) = ws1) (hdg : decode cc pc = .ok (.putfield 25, 3))
    (kk : ∀ (H1 : Heap) (locs1 : List Loc), va_P D vwCl ws1 H1 → va_D A ws1 → va_S A H0 H1 locs1 → W p l e R s m args below meth c H1 locs1 cells slots Q (F0 m (pc + 3) ls rest)) : W p l e R s m args below meth c H locs cells slots Q (F0 m pc ls (v :: .ref a :: rest)) := by
  subst hw
  exact va_putF hC.1 hC.2.1 hC.2.2.2.2 inA_X6 tyX6 tyX6_ok nmX6 hC.2.2.2.1 hK hP hD hS q0 he rfl 4 (by decide) (hC.2.2.2.2 _ q33) (fun _ h => h) rfl hin rfl (ty := (.array .int)) (by decide +kernel) hn hfit hl hdg kk
theorem pF_X6_28 (hC : CallFix p m c cc nL s args lw_all RX6) (hK : va_K D vwCl tys s) (hP : va_P D vwCl ws H) (hD : va_D A ws) (hS : va_S A H0 H locs) (hin : meth.name = "<init>") (q0 : Nat) {v : Value} (he : ws[q0]? = some (a, .inr (6, fs))) (hn : narrow .int v = v) (hfit : fits .int v = true) (hl : 5 < fs.length) {ws1 : va_W} (hw : ws.set q0 (a, .inr (6, fs.set 5 v)) = ws1) (hdg : decode cc pc = .ok (.putfield 28, 3))
    (kk : ∀ (H1 : Heap) (locs1 : List Loc), va_P D vwCl ws1 H1 → va_D A ws1 → va_S A H0 H1 locs1 → W p l e R s m args below meth c H1 locs1 cells slots Q (F0 m (pc + 3) ls rest)) : W p l e R s m args below meth c H locs cells slots Q (F0 m pc ls (v :: .ref a :: rest)) := by
  subst hw
  exact va_put hC.1 hC.2.1 hC.2.2.2.2 inA_X6 tyX6 tyX6_ok nmX6 hC.2.2.2.1 hK hP hD hS q0 he rfl 5 (by decide) (hC.2.2.2.2 _ q34) (fun _ h => h) rfl (ty := .int) (by decide +kernel) hn hfit hl hdg kk
theorem pF_X6_31 (hC : CallFix p m c cc nL s args lw_all RX6) (hK : va_K D vwCl tys s) (hP : va_P D vwCl ws H) (hD : va_D A ws) (hS : va_S A H0 H locs) (hin : meth.name = "<init>") (q0 : Nat) {v : Value} (he : ws[q0]? = some (a, .inr (6, fs))) (hn : narrow .int v = v) (hfit : fits .int v = true) (hl : 6 < fs.length) {ws1 : va_W} (hw : ws.set q0 (a, .inr (6, fs.set 6 v)) = ws1) (hdg : decode cc pc = .ok (.putfield 31, 3))
    (kk : ∀ (H1 : Heap) (locs1 : List Loc), va_P D vwCl ws1 H1 → va_D A ws1 → va_S A H0 H1 locs1 → W p l e R s m args below meth c H1 locs1 cells slots Q (F0 m (pc + 3) ls rest)) : W p l e R s m args below meth c H locs cells slots Q (F0 m pc ls (v :: .ref a :: rest)) := by
  subst hw
  exact va_put hC.1 hC.2.1 hC.2.2.2.2 inA_X6 tyX6 tyX6_ok nmX6 hC.2.2.2.1 hK hP hD hS q0 he rfl 6 (by decide) (hC.2.2.2.2 _ q35) (fun _ h => h) rfl (ty := .int) (by decide +kernel) hn hfit hl hdg kk
theorem pF_X6_34 (hC : CallFix p m c cc nL s args lw_all RX6) (hK : va_K D vwCl tys s) (hP : va_P D vwCl ws H) (hD : va_D A ws) (hS : va_S A H0 H locs) (hin : meth.name = "<init>") (q0 : Nat) {v : Value} (he : ws[q0]? = some (a, .inr (6, fs))) (hn : narrow .int v = v) (hfit : fits .int v = true) (hl : 7 < fs.length) {ws1 : va_W} (hw : ws.set q0 (a, .inr (6, fs.set 7 v)) = ws1) (hdg : decode cc pc = .ok (.putfield 34, 3))
    (kk : ∀ (H1 : Heap) (locs1 : List Loc), va_P D vwCl ws1 H1 → va_D A ws1 → va_S A H0 H1 locs1 → W p l e R s m args below meth c H1 locs1 cells slots Q (F0 m (pc + 3) ls rest)) : W p l e R s m args below meth c H locs cells slots Q (F0 m pc ls (v :: .ref a :: rest)) := by
  subst hw
  exact va_put hC.1 hC.2.1 hC.2.2.2.2 inA_X6 tyX6 tyX6_ok nmX6 hC.2.2.2.1 hK hP hD hS q0 he rfl 7 (by decide) (hC.2.2.2.2 _ q36) (fun _ h => h) rfl (ty := .int) (by decide +kernel) hn hfit hl hdg kk
theorem pF_X6_37 (hC : CallFix p m c cc nL s args lw_all RX6) (hK : va_K D vwCl tys s) (hP : va_P D vwCl ws H) (hD : va_D A ws) (hS : va_S A H0 H locs) (hin : meth.name = "<init>") (q0 : Nat) {v : Value} (he : ws[q0]? = some (a, .inr (6, fs))) (hn : narrow .int v = v) (hfit : fits .int v = true) (hl : 8 < fs.length) {ws1 : va_W} (hw : ws.set q0 (a, .inr (6, fs.set 8 v)) = ws1) (hdg : decode cc pc = .ok (.putfield 37, 3))
    (kk : ∀ (H1 : Heap) (locs1 : List Loc), va_P D vwCl ws1 H1 → va_D A ws1 → va_S A H0 H1 locs1 → W p l e R s m args below meth c H1 locs1 cells slots Q (F0 m (pc + 3) ls rest)) : W p l e R s m args below meth c H locs cells slots Q (F0 m pc ls (v :: .ref a :: rest)) := by
  subst hw
  exact va_put hC.1 hC.2.1 hC.2.2.2.2 inA_X6 tyX6 tyX6_ok nmX6 hC.2.2.2.1 hK hP hD hS q0 he rfl 8 (by decide) (hC.2.2.2.2 _ q37) (fun _ h => h) rfl (ty := .int) (by decide +kernel) hn hfit hl hdg kk
theorem pF_X3_9 (hC : CallFix p m c cc nL s args lw_all RX3) (hK : va_K D vwCl tys s) (hP : va_P D vwCl ws H) (hD : va_D A ws) (hS : va_S A H0 H locs) (hin : meth.name = "<init>") (q0 : Nat) {v : Value} (he : ws[q0]? = some (a, .inr (3, fs))) (hn : narrow (.array .int) v = v) (hfit : fits (.array .int) v = true) (hl : 0 < fs.length) {ws1 : va_W} (hw : ws.set q0 (a, .inr (3, fs.set 0 v)) = ws1) (hdg : decode cc pc = .ok (.putfield 9, 3))
    (kk : ∀ (H1 : Heap) (locs1 : List Loc), va_P D vwCl ws1 H1 → va_D A ws1 → va_S A H0 H1 locs1 → W p l e R s m args below meth c H1 locs1 cells slots Q (F0 m (pc + 3) ls rest)) : W p l e R s m args below meth c H locs cells slots Q (F0 m pc ls (v :: .ref a :: rest)) := by
  subst hw
  exact va_putF hC.1 hC.2.1 hC.2.2.2.2 inA_X3 tyX3 tyX3_ok nmX3 hC.2.2.2.1 hK hP hD hS q0 he rfl 0 (by decide) (hC.2.2.2.2 _ q175) (fun _ h => h) rfl hin rfl (ty := (.array .int)) (by decide +kernel) hn hfit hl hdg kk
theorem pF_X3_15 (hC : CallFix p m c cc nL s args lw_all RX3) (hK : va_K D vwCl tys s) (hP : va_P D vwCl ws H) (hD : va_D A ws) (hS : va_S A H0 H locs) (hin : meth.name = "<init>") (q0 : Nat) {v : Value} (he : ws[q0]? = some (a, .inr (3, fs))) (hn : narrow (.array .int) v = v) (hfit : fits (.array .int) v = true) (hl : 1 < fs.length) {ws1 : va_W} (hw : ws.set q0 (a, .inr (3, fs.set 1 v)) = ws1) (hdg : decode cc pc = .ok (.putfield 15, 3))
    (kk : ∀ (H1 : Heap) (locs1 : List Loc), va_P D vwCl ws1 H1 → va_D A ws1 → va_S A H0 H1 locs1 → W p l e R s m args below meth c H1 locs1 cells slots Q (F0 m (pc + 3) ls rest)) : W p l e R s m args below meth c H locs cells slots Q (F0 m pc ls (v :: .ref a :: rest)) := by
  subst hw
  exact va_putF hC.1 hC.2.1 hC.2.2.2.2 inA_X3 tyX3 tyX3_ok nmX3 hC.2.2.2.1 hK hP hD hS q0 he rfl 1 (by decide) (hC.2.2.2.2 _ q177) (fun _ h => h) rfl hin rfl (ty := (.array .int)) (by decide +kernel) hn hfit hl hdg kk
theorem pF_X1_9 (hC : CallFix p m c cc nL s args lw_all RX1) (hK : va_K D vwCl tys s) (hP : va_P D vwCl ws H) (hD : va_D A ws) (hS : va_S A H0 H locs) (hin : meth.name = "<init>") (q0 : Nat) {v : Value} (he : ws[q0]? = some (a, .inr (1, fs))) (hn : narrow (.array .int) v = v) (hfit : fits (.array .int) v = true) (hl : 2 < fs.length) {ws1 : va_W} (hw : ws.set q0 (a, .inr (1, fs.set 2 v)) = ws1) (hdg : decode cc pc = .ok (.putfield 9, 3))
    (kk : ∀ (H1 : Heap) (locs1 : List Loc), va_P D vwCl ws1 H1 → va_D A ws1 → va_S A H0 H1 locs1 → W p l e R s m args below meth c H1 locs1 cells slots Q (F0 m (pc + 3) ls rest)) : W p l e R s m args below meth c H locs cells slots Q (F0 m pc ls (v :: .ref a :: rest)) := by
  subst hw
  exact va_putF hC.1 hC.2.1 hC.2.2.2.2 inA_X1 tyX1 tyX1_ok nmX1 hC.2.2.2.1 hK hP hD hS q0 he rfl 2 (by decide) (hC.2.2.2.2 _ q216) (fun _ h => h) rfl hin rfl (ty := (.array .int)) (by decide +kernel) hn hfit hl hdg kk
theorem pF_X1_15 (hC : CallFix p m c cc nL s args lw_all RX1) (hK : va_K D vwCl tys s) (hP : va_P D vwCl ws H) (hD : va_D A ws) (hS : va_S A H0 H locs) (hin : meth.name = "<init>") (q0 : Nat) {v : Value} (he : ws[q0]? = some (a, .inr (1, fs))) (hn : narrow .int v = v) (hfit : fits .int v = true) (hl : 3 < fs.length) {ws1 : va_W} (hw : ws.set q0 (a, .inr (1, fs.set 3 v)) = ws1) (hdg : decode cc pc = .ok (.putfield 15, 3))
    (kk : ∀ (H1 : Heap) (locs1 : List Loc), va_P D vwCl ws1 H1 → va_D A ws1 → va_S A H0 H1 locs1 → W p l e R s m args below meth c H1 locs1 cells slots Q (F0 m (pc + 3) ls rest)) : W p l e R s m args below meth c H locs cells slots Q (F0 m pc ls (v :: .ref a :: rest)) := by
  subst hw
  exact va_put hC.1 hC.2.1 hC.2.2.2.2 inA_X1 tyX1 tyX1_ok nmX1 hC.2.2.2.1 hK hP hD hS q0 he rfl 3 (by decide) (hC.2.2.2.2 _ q218) (fun _ h => h) rfl (ty := .int) (by decide +kernel) hn hfit hl hdg kk
theorem pF_X1_19 (hC : CallFix p m c cc nL s args lw_all RX1) (hK : va_K D vwCl tys s) (hP : va_P D vwCl ws H) (hD : va_D A ws) (hS : va_S A H0 H locs) (hin : meth.name = "<init>") (q0 : Nat) {v : Value} (he : ws[q0]? = some (a, .inr (1, fs))) (hn : narrow .int v = v) (hfit : fits .int v = true) (hl : 4 < fs.length) {ws1 : va_W} (hw : ws.set q0 (a, .inr (1, fs.set 4 v)) = ws1) (hdg : decode cc pc = .ok (.putfield 19, 3))
    (kk : ∀ (H1 : Heap) (locs1 : List Loc), va_P D vwCl ws1 H1 → va_D A ws1 → va_S A H0 H1 locs1 → W p l e R s m args below meth c H1 locs1 cells slots Q (F0 m (pc + 3) ls rest)) : W p l e R s m args below meth c H locs cells slots Q (F0 m pc ls (v :: .ref a :: rest)) := by
  subst hw
  exact va_put hC.1 hC.2.1 hC.2.2.2.2 inA_X1 tyX1 tyX1_ok nmX1 hC.2.2.2.1 hK hP hD hS q0 he rfl 4 (by decide) (hC.2.2.2.2 _ q219) (fun _ h => h) rfl (ty := .int) (by decide +kernel) hn hfit hl hdg kk
theorem pF_X1_22 (hC : CallFix p m c cc nL s args lw_all RX1) (hK : va_K D vwCl tys s) (hP : va_P D vwCl ws H) (hD : va_D A ws) (hS : va_S A H0 H locs) (hin : meth.name = "<init>") (q0 : Nat) {v : Value} (he : ws[q0]? = some (a, .inr (1, fs))) (hn : narrow .int v = v) (hfit : fits .int v = true) (hl : 5 < fs.length) {ws1 : va_W} (hw : ws.set q0 (a, .inr (1, fs.set 5 v)) = ws1) (hdg : decode cc pc = .ok (.putfield 22, 3))
    (kk : ∀ (H1 : Heap) (locs1 : List Loc), va_P D vwCl ws1 H1 → va_D A ws1 → va_S A H0 H1 locs1 → W p l e R s m args below meth c H1 locs1 cells slots Q (F0 m (pc + 3) ls rest)) : W p l e R s m args below meth c H locs cells slots Q (F0 m pc ls (v :: .ref a :: rest)) := by
  subst hw
  exact va_put hC.1 hC.2.1 hC.2.2.2.2 inA_X1 tyX1 tyX1_ok nmX1 hC.2.2.2.1 hK hP hD hS q0 he rfl 5 (by decide) (hC.2.2.2.2 _ q220) (fun _ h => h) rfl (ty := .int) (by decide +kernel) hn hfit hl hdg kk
theorem pF_X1_25 (hC : CallFix p m c cc nL s args lw_all RX1) (hK : va_K D vwCl tys s) (hP : va_P D vwCl ws H) (hD : va_D A ws) (hS : va_S A H0 H locs) (hin : meth.name = "<init>") (q0 : Nat) {v : Value} (he : ws[q0]? = some (a, .inr (1, fs))) (hn : narrow .int v = v) (hfit : fits .int v = true) (hl : 6 < fs.length) {ws1 : va_W} (hw : ws.set q0 (a, .inr (1, fs.set 6 v)) = ws1) (hdg : decode cc pc = .ok (.putfield 25, 3))
    (kk : ∀ (H1 : Heap) (locs1 : List Loc), va_P D vwCl ws1 H1 → va_D A ws1 → va_S A H0 H1 locs1 → W p l e R s m args below meth c H1 locs1 cells slots Q (F0 m (pc + 3) ls rest)) : W p l e R s m args below meth c H locs cells slots Q (F0 m pc ls (v :: .ref a :: rest)) := by
  subst hw
  exact va_put hC.1 hC.2.1 hC.2.2.2.2 inA_X1 tyX1 tyX1_ok nmX1 hC.2.2.2.1 hK hP hD hS q0 he rfl 6 (by decide) (hC.2.2.2.2 _ q221) (fun _ h => h) rfl (ty := .int) (by decide +kernel) hn hfit hl hdg kk
theorem pF_X1_28 (hC : CallFix p m c cc nL s args lw_all RX1) (hK : va_K D vwCl tys s) (hP : va_P D vwCl ws H) (hD : va_D A ws) (hS : va_S A H0 H locs) (hin : meth.name = "<init>") (q0 : Nat) {v : Value} (he : ws[q0]? = some (a, .inr (1, fs))) (hn : narrow .int v = v) (hfit : fits .int v = true) (hl : 7 < fs.length) {ws1 : va_W} (hw : ws.set q0 (a, .inr (1, fs.set 7 v)) = ws1) (hdg : decode cc pc = .ok (.putfield 28, 3))
    (kk : ∀ (H1 : Heap) (locs1 : List Loc), va_P D vwCl ws1 H1 → va_D A ws1 → va_S A H0 H1 locs1 → W p l e R s m args below meth c H1 locs1 cells slots Q (F0 m (pc + 3) ls rest)) : W p l e R s m args below meth c H locs cells slots Q (F0 m pc ls (v :: .ref a :: rest)) := by
  subst hw
  exact va_put hC.1 hC.2.1 hC.2.2.2.2 inA_X1 tyX1 tyX1_ok nmX1 hC.2.2.2.1 hK hP hD hS q0 he rfl 7 (by decide) (hC.2.2.2.2 _ q223) (fun _ h => h) rfl (ty := .int) (by decide +kernel) hn hfit hl hdg kk
theorem pF_X1_31 (hC : CallFix p m c cc nL s args lw_all RX1) (hK : va_K D vwCl tys s) (hP : va_P D vwCl ws H) (hD : va_D A ws) (hS : va_S A H0 H locs) (hin : meth.name = "<init>") (q0 : Nat) {v : Value} (he : ws[q0]? = some (a, .inr (1, fs))) (hn : narrow .boolean v = v) (hfit : fits .boolean v = true) (hl : 0 < fs.length) {ws1 : va_W} (hw : ws.set q0 (a, .inr (1, fs.set 0 v)) = ws1) (hdg : decode cc pc = .ok (.putfield 31, 3))
    (kk : ∀ (H1 : Heap) (locs1 : List Loc), va_P D vwCl ws1 H1 → va_D A ws1 → va_S A H0 H1 locs1 → W p l e R s m args below meth c H1 locs1 cells slots Q (F0 m (pc + 3) ls rest)) : W p l e R s m args below meth c H locs cells slots Q (F0 m pc ls (v :: .ref a :: rest)) := by
  subst hw
  exact va_putF hC.1 hC.2.1 hC.2.2.2.2 inA_X1 tyX1 tyX1_ok nmX1 hC.2.2.2.1 hK hP hD hS q0 he rfl 0 (by decide) (hC.2.2.2.2 _ q214) (fun _ h => h) rfl hin rfl (ty := .boolean) (by decide +kernel) hn hfit hl hdg kk
theorem pF_X1_35 (hC : CallFix p m c cc nL s args lw_all RX1) (hK : va_K D vwCl tys s) (hP : va_P D vwCl ws H) (hD : va_D A ws) (hS : va_S A H0 H locs) (hin : meth.name = "<init>") (q0 : Nat) {v : Value} (he : ws[q0]? = some (a, .inr (1, fs))) (hn : narrow (.object "SlidingBlocks$Scratch") v = v) (hfit : fits (.object "SlidingBlocks$Scratch") v = true) (hl : 1 < fs.length) {ws1 : va_W} (hw : ws.set q0 (a, .inr (1, fs.set 1 v)) = ws1) (hdg : decode cc pc = .ok (.putfield 35, 3))
    (kk : ∀ (H1 : Heap) (locs1 : List Loc), va_P D vwCl ws1 H1 → va_D A ws1 → va_S A H0 H1 locs1 → W p l e R s m args below meth c H1 locs1 cells slots Q (F0 m (pc + 3) ls rest)) : W p l e R s m args below meth c H locs cells slots Q (F0 m pc ls (v :: .ref a :: rest)) := by
  subst hw
  exact va_putF hC.1 hC.2.1 hC.2.2.2.2 inA_X1 tyX1 tyX1_ok nmX1 hC.2.2.2.1 hK hP hD hS q0 he rfl 1 (by decide) (hC.2.2.2.2 _ q215) (fun _ h => h) rfl hin rfl (ty := (.object "SlidingBlocks$Scratch")) (by decide +kernel) hn hfit hl hdg kk
end CF
set_option maxHeartbeats 4000000 in
set_option maxRecDepth 100000 in
theorem md_X4_init : mdI yX4_init cX4_init 1 0 := ⟨q187, q186, q6, rfl, by decide +kernel⟩
set_option maxHeartbeats 4000000 in
set_option maxRecDepth 100000 in
theorem c_X4_init (l : Launch) (D : va_G) (cI cJ cB : ClassId) (h0 sz : Nat)  : Met l yX4_init (Cond.code yX4_init cX4_init 1 none :: lw_all) (rmC 1 3 4024) (va_Pc [.ref h0] (pN D (tyz cI cJ cB) ([(h0, .inr (4, [.null, .null, .null]))] : va_W) sz)) (va_Qv (fun (w : va_W) => ∃ k1 : Nat, ∃ k2 : Nat, ∃ k3 : Nat, w = ([(h0, .inr (4, [.ref k1, .ref k2, .ref k3])), (k1, .inl (cI, 2000, .inl (fun _ => nI 0))), (k2, .inl (cI, 2000, .inl (fun _ => nI 0))), (k3, .inl (cI, 24, .inl (fun _ => nI 0)))] : va_W)) (nB D (va_A ([(h0, .inr (4, [.null, .null, .null]))] : va_W) sz)) (va_A ([(h0, .inr (4, [.null, .null, .null]))] : va_W) sz)) 3 4024 (va_A ([(h0, .inr (4, [.null, .null, .null]))] : va_W) sz) := by
  refine Met.ofW (cc := cX4_init) (maxL := 1) (ret := none) (by decide) rfl ?_
  intro p e s m args below meth c s₁ B hml hv
  obtain ⟨rfl, hsz, hK, hN, hP, hD0⟩ := hv
  subst hsz
  have hx := B.exec; have hb := B.bytes; have hr := B.returns; have hlocks := B.notSynchronized
  have hin : meth.name = "<init>" := (name_of_methodNamed B.named B.method).1
  have hts0 := atoms_spec (ws := Cond.code yX4_init cX4_init 1 none :: lw_all) B.pre
  have hC : CallFix p m c cX4_init 1 s _ lw_all RX4 := ⟨hx, hb, hml, findClass_of_methodNamed B.named, fun w h => hts0 w (List.mem_cons_of_mem _ h)⟩
  have hD := hD0.self (sz := s.heap.size)
  generalize hAe : va_A ([(h0, .inr (4, [.null, .null, .null]))] : va_W) s.heap.size = A at hD ⊢
  have hA : ∀ q : Nat, s.heap.size ≤ q → A q := fun q h => by rw [← hAe]; exact Or.inr h
  have hS : va_S A s.heap s.heap [] := va_S.rf
  have hl := lv_entry ([.ref h0]) (n := 1) (Nat.le_of_ble_eq_true rfl)
  rw [lg_entry_eq]
  generalize (lg_sl ([.ref h0]) ++ List.replicate (1 - (lg_sl ([.ref h0])).length) Slot.unset).toArray = ls at hl ⊢
  have hl : lv_has ls 1 [(0, .ref h0)] := hl
  generalize hav : ([.ref h0] : List Value).toArray = args at hC ⊢
  refine W_gen (fun QQ hQ => ?_)
  show W p l e (rmC 1 3 4024) s m args below meth c s.heap [] 0 0 QQ (F0 m 0 ls [])
  refine lv_aload_n hx hb dX4_init_0 rfl (lv_at hl 0 rfl) ?_
  refine w_objInit hC hl.1 q188 q20 q21 dX4_init_1 (Nat.le_of_ble_eq_true rfl) (Nat.le_of_ble_eq_true rfl) ?_
  refine lv_aload_n hx hb dX4_init_4 rfl (lv_at hl 0 rfl) ?_
  refine lv_sipush (v := nI 2000) hx hb dX4_init_5 (by decide) ?_
  refine w_newI hC hK hP hD hS hA q57 (by decide) (by decide) (c1 := 1) (s1 := 2000) rfl rfl (Nat.le_of_ble_eq_true rfl) (Nat.le_of_ble_eq_true rfl) dX4_init_8 (fun k1 H hP hD hS => ?_)
  have hP : va_P D vwCl ([(h0, .inr (4, [.null, .null, .null])), (k1, .inl (cI, 2000, .inl (fun _ => nI 0)))] : va_W) H := hP
  have hD : va_D A ([(h0, .inr (4, [.null, .null, .null])), (k1, .inl (cI, 2000, .inl (fun _ => nI 0)))] : va_W) := hD
  refine pF_X4_9 hC hK hP hD hS hin 0 rfl rfl rfl (Nat.le_of_ble_eq_true rfl) (ws1 := ([(h0, .inr (4, [.ref k1, .null, .null])), (k1, .inl (cI, 2000, .inl (fun _ => nI 0)))] : va_W)) rfl dX4_init_10 (fun H locs hP hD hS => ?_)
  refine lv_aload_n hx hb dX4_init_13 rfl (lv_at hl 0 rfl) ?_
  refine lv_sipush (v := nI 2000) hx hb dX4_init_14 (by decide) ?_
  refine w_newI hC hK hP hD hS hA q57 (by decide) (by decide) (c1 := 2) (s1 := 4000) rfl rfl (Nat.le_of_ble_eq_true rfl) (Nat.le_of_ble_eq_true rfl) dX4_init_17 (fun k2 H hP hD hS => ?_)
  have hP : va_P D vwCl ([(h0, .inr (4, [.ref k1, .null, .null])), (k1, .inl (cI, 2000, .inl (fun _ => nI 0))), (k2, .inl (cI, 2000, .inl (fun _ => nI 0)))] : va_W) H := hP
  have hD : va_D A ([(h0, .inr (4, [.ref k1, .null, .null])), (k1, .inl (cI, 2000, .inl (fun _ => nI 0))), (k2, .inl (cI, 2000, .inl (fun _ => nI 0)))] : va_W) := hD
  refine pF_X4_15 hC hK hP hD hS hin 0 rfl rfl rfl (Nat.le_of_ble_eq_true rfl) (ws1 := ([(h0, .inr (4, [.ref k1, .ref k2, .null])), (k1, .inl (cI, 2000, .inl (fun _ => nI 0))), (k2, .inl (cI, 2000, .inl (fun _ => nI 0)))] : va_W)) rfl dX4_init_19 (fun H locs hP hD hS => ?_)
  refine lv_aload_n hx hb dX4_init_22 rfl (lv_at hl 0 rfl) ?_
  refine lv_bipush (v := nI 24) hx hb dX4_init_23 (by decide) ?_
  refine w_newI hC hK hP hD hS hA q57 (by decide) (by decide) (c1 := 3) (s1 := 4024) rfl rfl (Nat.le_of_ble_eq_true rfl) (Nat.le_of_ble_eq_true rfl) dX4_init_25 (fun k3 H hP hD hS => ?_)
  have hP : va_P D vwCl ([(h0, .inr (4, [.ref k1, .ref k2, .null])), (k1, .inl (cI, 2000, .inl (fun _ => nI 0))), (k2, .inl (cI, 2000, .inl (fun _ => nI 0))), (k3, .inl (cI, 24, .inl (fun _ => nI 0)))] : va_W) H := hP
  have hD : va_D A ([(h0, .inr (4, [.ref k1, .ref k2, .null])), (k1, .inl (cI, 2000, .inl (fun _ => nI 0))), (k2, .inl (cI, 2000, .inl (fun _ => nI 0))), (k3, .inl (cI, 24, .inl (fun _ => nI 0)))] : va_W) := hD
  refine pF_X4_18 hC hK hP hD hS hin 0 rfl rfl rfl (Nat.le_of_ble_eq_true rfl) (ws1 := ([(h0, .inr (4, [.ref k1, .ref k2, .ref k3])), (k1, .inl (cI, 2000, .inl (fun _ => nI 0))), (k2, .inl (cI, 2000, .inl (fun _ => nI 0))), (k3, .inl (cI, 24, .inl (fun _ => nI 0)))] : va_W)) rfl dX4_init_27 (fun H locs hP hD hS => ?_)
  rw [hQ]
  exact W.vret hx hb hr (fun t9 ht hW => ⟨⟨_, rfl, ⟨k1, k2, k3, rfl⟩, by rw [ht]; exact hP, hD⟩, hS.F ht⟩) hS.2.2 dX4_init_30
set_option maxHeartbeats 4000000 in
set_option maxRecDepth 100000 in
theorem md_X6_init : mdI yX6_init cX6_init 1 0 := ⟨q26, q25, q2, rfl, by decide +kernel⟩
set_option maxHeartbeats 4000000 in
set_option maxRecDepth 100000 in
theorem c_X6_init (l : Launch) (D : va_G) (cI cJ cB : ClassId) (h0 sz : Nat)  : Met l yX6_init (Cond.code yX6_init cX6_init 1 none :: lw_all) (rmC 1 3 71) (va_Pc [.ref h0] (pN D (tyz cI cJ cB) ([(h0, .inr (6, [.null, .int (nI 0), .null, .int (nI 0), .null, .int (nI 0), .int (nI 0), .int (nI 0), .int (nI 0)]))] : va_W) sz)) (va_Qv (fun (w : va_W) => ∃ k1 : Nat, ∃ k2 : Nat, ∃ k3 : Nat, w = ([(h0, .inr (6, [.ref k1, .int (nI 0), .ref k2, .int (nI 0), .ref k3, .int (nI 0), .int (nI 0), .int (nI 1), .int (nI 0)])), (k1, .inl (cI, 40, .inl (fun _ => nI 0))), (k2, .inl (cI, 24, .inl (fun _ => nI 0))), (k3, .inl (cI, 7, .inl (fun _ => nI 0)))] : va_W)) (nB D (va_A ([(h0, .inr (6, [.null, .int (nI 0), .null, .int (nI 0), .null, .int (nI 0), .int (nI 0), .int (nI 0), .int (nI 0)]))] : va_W) sz)) (va_A ([(h0, .inr (6, [.null, .int (nI 0), .null, .int (nI 0), .null, .int (nI 0), .int (nI 0), .int (nI 0), .int (nI 0)]))] : va_W) sz)) 3 71 (va_A ([(h0, .inr (6, [.null, .int (nI 0), .null, .int (nI 0), .null, .int (nI 0), .int (nI 0), .int (nI 0), .int (nI 0)]))] : va_W) sz) := by
  refine Met.ofW (cc := cX6_init) (maxL := 1) (ret := none) (by decide) rfl ?_
  intro p e s m args below meth c s₁ B hml hv
  obtain ⟨rfl, hsz, hK, hN, hP, hD0⟩ := hv
  subst hsz
  have hx := B.exec; have hb := B.bytes; have hr := B.returns; have hlocks := B.notSynchronized
  have hin : meth.name = "<init>" := (name_of_methodNamed B.named B.method).1
  have hts0 := atoms_spec (ws := Cond.code yX6_init cX6_init 1 none :: lw_all) B.pre
  have hC : CallFix p m c cX6_init 1 s _ lw_all RX6 := ⟨hx, hb, hml, findClass_of_methodNamed B.named, fun w h => hts0 w (List.mem_cons_of_mem _ h)⟩
  have hD := hD0.self (sz := s.heap.size)
  generalize hAe : va_A ([(h0, .inr (6, [.null, .int (nI 0), .null, .int (nI 0), .null, .int (nI 0), .int (nI 0), .int (nI 0), .int (nI 0)]))] : va_W) s.heap.size = A at hD ⊢
  have hA : ∀ q : Nat, s.heap.size ≤ q → A q := fun q h => by rw [← hAe]; exact Or.inr h
  have hS : va_S A s.heap s.heap [] := va_S.rf
  have hl := lv_entry ([.ref h0]) (n := 1) (Nat.le_of_ble_eq_true rfl)
  rw [lg_entry_eq]
  generalize (lg_sl ([.ref h0]) ++ List.replicate (1 - (lg_sl ([.ref h0])).length) Slot.unset).toArray = ls at hl ⊢
  have hl : lv_has ls 1 [(0, .ref h0)] := hl
  generalize hav : ([.ref h0] : List Value).toArray = args at hC ⊢
  refine W_gen (fun QQ hQ => ?_)
  show W p l e (rmC 1 3 71) s m args below meth c s.heap [] 0 0 QQ (F0 m 0 ls [])
  refine lv_aload_n hx hb dX6_init_0 rfl (lv_at hl 0 rfl) ?_
  refine w_objInit hC hl.1 q27 q20 q21 dX6_init_1 (Nat.le_of_ble_eq_true rfl) (Nat.le_of_ble_eq_true rfl) ?_
  refine lv_aload_n hx hb dX6_init_4 rfl (lv_at hl 0 rfl) ?_
  refine lv_bipush (v := nI 40) hx hb dX6_init_5 (by decide) ?_
  refine w_newI hC hK hP hD hS hA q57 (by decide) (by decide) (c1 := 1) (s1 := 40) rfl rfl (Nat.le_of_ble_eq_true rfl) (Nat.le_of_ble_eq_true rfl) dX6_init_7 (fun k1 H hP hD hS => ?_)
  have hP : va_P D vwCl ([(h0, .inr (6, [.null, .int (nI 0), .null, .int (nI 0), .null, .int (nI 0), .int (nI 0), .int (nI 0), .int (nI 0)])), (k1, .inl (cI, 40, .inl (fun _ => nI 0)))] : va_W) H := hP
  have hD : va_D A ([(h0, .inr (6, [.null, .int (nI 0), .null, .int (nI 0), .null, .int (nI 0), .int (nI 0), .int (nI 0), .int (nI 0)])), (k1, .inl (cI, 40, .inl (fun _ => nI 0)))] : va_W) := hD
  refine pF_X6_9 hC hK hP hD hS hin 0 rfl rfl rfl (Nat.le_of_ble_eq_true rfl) (ws1 := ([(h0, .inr (6, [.ref k1, .int (nI 0), .null, .int (nI 0), .null, .int (nI 0), .int (nI 0), .int (nI 0), .int (nI 0)])), (k1, .inl (cI, 40, .inl (fun _ => nI 0)))] : va_W)) rfl dX6_init_9 (fun H locs hP hD hS => ?_)
  refine lv_aload_n hx hb dX6_init_12 rfl (lv_at hl 0 rfl) ?_
  refine lv_iconst (v := nI 0) hx hb dX6_init_13 (by decide) ?_
  refine pF_X6_15 hC hK hP hD hS hin 0 rfl rfl rfl (Nat.le_of_ble_eq_true rfl) (ws1 := ([(h0, .inr (6, [.ref k1, .int (nI 0), .null, .int (nI 0), .null, .int (nI 0), .int (nI 0), .int (nI 0), .int (nI 0)])), (k1, .inl (cI, 40, .inl (fun _ => nI 0)))] : va_W)) rfl dX6_init_14 (fun H locs hP hD hS => ?_)
  refine lv_aload_n hx hb dX6_init_17 rfl (lv_at hl 0 rfl) ?_
  refine lv_bipush (v := nI 24) hx hb dX6_init_18 (by decide) ?_
  refine w_newI hC hK hP hD hS hA q57 (by decide) (by decide) (c1 := 2) (s1 := 64) rfl rfl (Nat.le_of_ble_eq_true rfl) (Nat.le_of_ble_eq_true rfl) dX6_init_20 (fun k2 H hP hD hS => ?_)
  have hP : va_P D vwCl ([(h0, .inr (6, [.ref k1, .int (nI 0), .null, .int (nI 0), .null, .int (nI 0), .int (nI 0), .int (nI 0), .int (nI 0)])), (k1, .inl (cI, 40, .inl (fun _ => nI 0))), (k2, .inl (cI, 24, .inl (fun _ => nI 0)))] : va_W) H := hP
  have hD : va_D A ([(h0, .inr (6, [.ref k1, .int (nI 0), .null, .int (nI 0), .null, .int (nI 0), .int (nI 0), .int (nI 0), .int (nI 0)])), (k1, .inl (cI, 40, .inl (fun _ => nI 0))), (k2, .inl (cI, 24, .inl (fun _ => nI 0)))] : va_W) := hD
  refine pF_X6_19 hC hK hP hD hS hin 0 rfl rfl rfl (Nat.le_of_ble_eq_true rfl) (ws1 := ([(h0, .inr (6, [.ref k1, .int (nI 0), .ref k2, .int (nI 0), .null, .int (nI 0), .int (nI 0), .int (nI 0), .int (nI 0)])), (k1, .inl (cI, 40, .inl (fun _ => nI 0))), (k2, .inl (cI, 24, .inl (fun _ => nI 0)))] : va_W)) rfl dX6_init_22 (fun H locs hP hD hS => ?_)
  refine lv_aload_n hx hb dX6_init_25 rfl (lv_at hl 0 rfl) ?_
  refine lv_iconst (v := nI 0) hx hb dX6_init_26 (by decide) ?_
  refine pF_X6_22 hC hK hP hD hS hin 0 rfl rfl rfl (Nat.le_of_ble_eq_true rfl) (ws1 := ([(h0, .inr (6, [.ref k1, .int (nI 0), .ref k2, .int (nI 0), .null, .int (nI 0), .int (nI 0), .int (nI 0), .int (nI 0)])), (k1, .inl (cI, 40, .inl (fun _ => nI 0))), (k2, .inl (cI, 24, .inl (fun _ => nI 0)))] : va_W)) rfl dX6_init_27 (fun H locs hP hD hS => ?_)
  refine lv_aload_n hx hb dX6_init_30 rfl (lv_at hl 0 rfl) ?_
  refine lv_bipush (v := nI 7) hx hb dX6_init_31 (by decide) ?_
  refine w_newI hC hK hP hD hS hA q57 (by decide) (by decide) (c1 := 3) (s1 := 71) rfl rfl (Nat.le_of_ble_eq_true rfl) (Nat.le_of_ble_eq_true rfl) dX6_init_33 (fun k3 H hP hD hS => ?_)
  have hP : va_P D vwCl ([(h0, .inr (6, [.ref k1, .int (nI 0), .ref k2, .int (nI 0), .null, .int (nI 0), .int (nI 0), .int (nI 0), .int (nI 0)])), (k1, .inl (cI, 40, .inl (fun _ => nI 0))), (k2, .inl (cI, 24, .inl (fun _ => nI 0))), (k3, .inl (cI, 7, .inl (fun _ => nI 0)))] : va_W) H := hP
  have hD : va_D A ([(h0, .inr (6, [.ref k1, .int (nI 0), .ref k2, .int (nI 0), .null, .int (nI 0), .int (nI 0), .int (nI 0), .int (nI 0)])), (k1, .inl (cI, 40, .inl (fun _ => nI 0))), (k2, .inl (cI, 24, .inl (fun _ => nI 0))), (k3, .inl (cI, 7, .inl (fun _ => nI 0)))] : va_W) := hD
  refine pF_X6_25 hC hK hP hD hS hin 0 rfl rfl rfl (Nat.le_of_ble_eq_true rfl) (ws1 := ([(h0, .inr (6, [.ref k1, .int (nI 0), .ref k2, .int (nI 0), .ref k3, .int (nI 0), .int (nI 0), .int (nI 0), .int (nI 0)])), (k1, .inl (cI, 40, .inl (fun _ => nI 0))), (k2, .inl (cI, 24, .inl (fun _ => nI 0))), (k3, .inl (cI, 7, .inl (fun _ => nI 0)))] : va_W)) rfl dX6_init_35 (fun H locs hP hD hS => ?_)
  refine lv_aload_n hx hb dX6_init_38 rfl (lv_at hl 0 rfl) ?_
  refine lv_iconst (v := nI 0) hx hb dX6_init_39 (by decide) ?_
  refine pF_X6_28 hC hK hP hD hS hin 0 rfl rfl rfl (Nat.le_of_ble_eq_true rfl) (ws1 := ([(h0, .inr (6, [.ref k1, .int (nI 0), .ref k2, .int (nI 0), .ref k3, .int (nI 0), .int (nI 0), .int (nI 0), .int (nI 0)])), (k1, .inl (cI, 40, .inl (fun _ => nI 0))), (k2, .inl (cI, 24, .inl (fun _ => nI 0))), (k3, .inl (cI, 7, .inl (fun _ => nI 0)))] : va_W)) rfl dX6_init_40 (fun H locs hP hD hS => ?_)
  refine lv_aload_n hx hb dX6_init_43 rfl (lv_at hl 0 rfl) ?_
  refine lv_iconst (v := nI 0) hx hb dX6_init_44 (by decide) ?_
  refine pF_X6_31 hC hK hP hD hS hin 0 rfl rfl rfl (Nat.le_of_ble_eq_true rfl) (ws1 := ([(h0, .inr (6, [.ref k1, .int (nI 0), .ref k2, .int (nI 0), .ref k3, .int (nI 0), .int (nI 0), .int (nI 0), .int (nI 0)])), (k1, .inl (cI, 40, .inl (fun _ => nI 0))), (k2, .inl (cI, 24, .inl (fun _ => nI 0))), (k3, .inl (cI, 7, .inl (fun _ => nI 0)))] : va_W)) rfl dX6_init_45 (fun H locs hP hD hS => ?_)
  refine lv_aload_n hx hb dX6_init_48 rfl (lv_at hl 0 rfl) ?_
  refine lv_iconst (v := nI 1) hx hb dX6_init_49 (by decide) ?_
  refine pF_X6_34 hC hK hP hD hS hin 0 rfl rfl rfl (Nat.le_of_ble_eq_true rfl) (ws1 := ([(h0, .inr (6, [.ref k1, .int (nI 0), .ref k2, .int (nI 0), .ref k3, .int (nI 0), .int (nI 0), .int (nI 1), .int (nI 0)])), (k1, .inl (cI, 40, .inl (fun _ => nI 0))), (k2, .inl (cI, 24, .inl (fun _ => nI 0))), (k3, .inl (cI, 7, .inl (fun _ => nI 0)))] : va_W)) rfl dX6_init_50 (fun H locs hP hD hS => ?_)
  refine lv_aload_n hx hb dX6_init_53 rfl (lv_at hl 0 rfl) ?_
  refine lv_iconst (v := nI 0) hx hb dX6_init_54 (by decide) ?_
  refine pF_X6_37 hC hK hP hD hS hin 0 rfl rfl rfl (Nat.le_of_ble_eq_true rfl) (ws1 := ([(h0, .inr (6, [.ref k1, .int (nI 0), .ref k2, .int (nI 0), .ref k3, .int (nI 0), .int (nI 0), .int (nI 1), .int (nI 0)])), (k1, .inl (cI, 40, .inl (fun _ => nI 0))), (k2, .inl (cI, 24, .inl (fun _ => nI 0))), (k3, .inl (cI, 7, .inl (fun _ => nI 0)))] : va_W)) rfl dX6_init_55 (fun H locs hP hD hS => ?_)
  rw [hQ]
  exact W.vret hx hb hr (fun t9 ht hW => ⟨⟨_, rfl, ⟨k1, k2, k3, rfl⟩, by rw [ht]; exact hP, hD⟩, hS.F ht⟩) hS.2.2 dX6_init_58
set_option maxHeartbeats 4000000 in
set_option maxRecDepth 100000 in
theorem md_X3_init : mdI yX3_init cX3_init 1 0 := ⟨q173, q172, q5, rfl, by decide +kernel⟩
set_option maxHeartbeats 4000000 in
set_option maxRecDepth 100000 in
theorem c_X3_init (l : Launch) (D : va_G) (cI cJ cB : ClassId) (h0 sz : Nat)  : Met l yX3_init (Cond.code yX3_init cX3_init 1 none :: lw_all) (rmC 1 2 48) (va_Pc [.ref h0] (pN D (tyz cI cJ cB) ([(h0, .inr (3, [.null, .null]))] : va_W) sz)) (va_Qv (fun (w : va_W) => ∃ k1 : Nat, ∃ k2 : Nat, w = ([(h0, .inr (3, [.ref k1, .ref k2])), (k1, .inl (cI, 24, .inl (fun _ => nI 0))), (k2, .inl (cI, 24, .inl (fun _ => nI 0)))] : va_W)) (nB D (va_A ([(h0, .inr (3, [.null, .null]))] : va_W) sz)) (va_A ([(h0, .inr (3, [.null, .null]))] : va_W) sz)) 2 48 (va_A ([(h0, .inr (3, [.null, .null]))] : va_W) sz) := by
  refine Met.ofW (cc := cX3_init) (maxL := 1) (ret := none) (by decide) rfl ?_
  intro p e s m args below meth c s₁ B hml hv
  obtain ⟨rfl, hsz, hK, hN, hP, hD0⟩ := hv
  subst hsz
  have hx := B.exec; have hb := B.bytes; have hr := B.returns; have hlocks := B.notSynchronized
  have hin : meth.name = "<init>" := (name_of_methodNamed B.named B.method).1
  have hts0 := atoms_spec (ws := Cond.code yX3_init cX3_init 1 none :: lw_all) B.pre
  have hC : CallFix p m c cX3_init 1 s _ lw_all RX3 := ⟨hx, hb, hml, findClass_of_methodNamed B.named, fun w h => hts0 w (List.mem_cons_of_mem _ h)⟩
  have hD := hD0.self (sz := s.heap.size)
  generalize hAe : va_A ([(h0, .inr (3, [.null, .null]))] : va_W) s.heap.size = A at hD ⊢
  have hA : ∀ q : Nat, s.heap.size ≤ q → A q := fun q h => by rw [← hAe]; exact Or.inr h
  have hS : va_S A s.heap s.heap [] := va_S.rf
  have hl := lv_entry ([.ref h0]) (n := 1) (Nat.le_of_ble_eq_true rfl)
  rw [lg_entry_eq]
  generalize (lg_sl ([.ref h0]) ++ List.replicate (1 - (lg_sl ([.ref h0])).length) Slot.unset).toArray = ls at hl ⊢
  have hl : lv_has ls 1 [(0, .ref h0)] := hl
  generalize hav : ([.ref h0] : List Value).toArray = args at hC ⊢
  refine W_gen (fun QQ hQ => ?_)
  show W p l e (rmC 1 2 48) s m args below meth c s.heap [] 0 0 QQ (F0 m 0 ls [])
  refine lv_aload_n hx hb dX3_init_0 rfl (lv_at hl 0 rfl) ?_
  refine w_objInit hC hl.1 q174 q20 q21 dX3_init_1 (Nat.le_of_ble_eq_true rfl) (Nat.le_of_ble_eq_true rfl) ?_
  refine lv_aload_n hx hb dX3_init_4 rfl (lv_at hl 0 rfl) ?_
  refine lv_bipush (v := nI 24) hx hb dX3_init_5 (by decide) ?_
  refine w_newI hC hK hP hD hS hA q57 (by decide) (by decide) (c1 := 1) (s1 := 24) rfl rfl (Nat.le_of_ble_eq_true rfl) (Nat.le_of_ble_eq_true rfl) dX3_init_7 (fun k1 H hP hD hS => ?_)
  have hP : va_P D vwCl ([(h0, .inr (3, [.null, .null])), (k1, .inl (cI, 24, .inl (fun _ => nI 0)))] : va_W) H := hP
  have hD : va_D A ([(h0, .inr (3, [.null, .null])), (k1, .inl (cI, 24, .inl (fun _ => nI 0)))] : va_W) := hD
  refine pF_X3_9 hC hK hP hD hS hin 0 rfl rfl rfl (Nat.le_of_ble_eq_true rfl) (ws1 := ([(h0, .inr (3, [.ref k1, .null])), (k1, .inl (cI, 24, .inl (fun _ => nI 0)))] : va_W)) rfl dX3_init_9 (fun H locs hP hD hS => ?_)
  refine lv_aload_n hx hb dX3_init_12 rfl (lv_at hl 0 rfl) ?_
  refine lv_bipush (v := nI 24) hx hb dX3_init_13 (by decide) ?_
  refine w_newI hC hK hP hD hS hA q57 (by decide) (by decide) (c1 := 2) (s1 := 48) rfl rfl (Nat.le_of_ble_eq_true rfl) (Nat.le_of_ble_eq_true rfl) dX3_init_15 (fun k2 H hP hD hS => ?_)
  have hP : va_P D vwCl ([(h0, .inr (3, [.ref k1, .null])), (k1, .inl (cI, 24, .inl (fun _ => nI 0))), (k2, .inl (cI, 24, .inl (fun _ => nI 0)))] : va_W) H := hP
  have hD : va_D A ([(h0, .inr (3, [.ref k1, .null])), (k1, .inl (cI, 24, .inl (fun _ => nI 0))), (k2, .inl (cI, 24, .inl (fun _ => nI 0)))] : va_W) := hD
  refine pF_X3_15 hC hK hP hD hS hin 0 rfl rfl rfl (Nat.le_of_ble_eq_true rfl) (ws1 := ([(h0, .inr (3, [.ref k1, .ref k2])), (k1, .inl (cI, 24, .inl (fun _ => nI 0))), (k2, .inl (cI, 24, .inl (fun _ => nI 0)))] : va_W)) rfl dX3_init_17 (fun H locs hP hD hS => ?_)
  rw [hQ]
  exact W.vret hx hb hr (fun t9 ht hW => ⟨⟨_, rfl, ⟨k1, k2, rfl⟩, by rw [ht]; exact hP, hD⟩, hS.F ht⟩) hS.2.2 dX3_init_20
set_option maxHeartbeats 4000000 in
set_option maxRecDepth 100000 in
theorem md_X1_init : mdI yX1_init cX1_init 3 2 := ⟨q212, q211, q8, rfl, by decide +kernel⟩
set_option maxHeartbeats 4000000 in
set_option maxRecDepth 100000 in
theorem c_X1_init (l : Launch) (D : va_G) (cI cJ cB : ClassId) (h0 sz : Nat) (zz1 : Bool) (zz2 : Nat) : Met l yX1_init (Cond.code yX1_init cX1_init 3 none :: lw_all) (rmC 1 1 2000) (va_Pc [.ref h0, .int (bI zz1), .ref zz2] (pN D (tyz cI cJ cB) ([(h0, .inr (1, [.int (bI false), .null, .null, .int (nI 0), .int (nI 0), .int (nI 0), .int (nI 0), .int (nI 0)]))] : va_W) sz)) (va_Qv (fun (w : va_W) => ∃ k1 : Nat, w = ([(h0, .inr (1, [.int (bI zz1), .ref zz2, .ref k1, .int (gI none), .int (gI none), .int (nI 0), .int (nI 0), .int (gI none)])), (k1, .inl (cI, 2000, .inl (fun _ => nI 0)))] : va_W)) (nB D (va_A ([(h0, .inr (1, [.int (bI false), .null, .null, .int (nI 0), .int (nI 0), .int (nI 0), .int (nI 0), .int (nI 0)]))] : va_W) sz)) (va_A ([(h0, .inr (1, [.int (bI false), .null, .null, .int (nI 0), .int (nI 0), .int (nI 0), .int (nI 0), .int (nI 0)]))] : va_W) sz)) 1 2000 (va_A ([(h0, .inr (1, [.int (bI false), .null, .null, .int (nI 0), .int (nI 0), .int (nI 0), .int (nI 0), .int (nI 0)]))] : va_W) sz) := by
  refine Met.ofW (cc := cX1_init) (maxL := 3) (ret := none) (by decide) rfl ?_
  intro p e s m args below meth c s₁ B hml hv
  obtain ⟨rfl, hsz, hK, hN, hP, hD0⟩ := hv
  subst hsz
  have hx := B.exec; have hb := B.bytes; have hr := B.returns; have hlocks := B.notSynchronized
  have hin : meth.name = "<init>" := (name_of_methodNamed B.named B.method).1
  have hts0 := atoms_spec (ws := Cond.code yX1_init cX1_init 3 none :: lw_all) B.pre
  have hC : CallFix p m c cX1_init 3 s _ lw_all RX1 := ⟨hx, hb, hml, findClass_of_methodNamed B.named, fun w h => hts0 w (List.mem_cons_of_mem _ h)⟩
  have hD := hD0.self (sz := s.heap.size)
  generalize hAe : va_A ([(h0, .inr (1, [.int (bI false), .null, .null, .int (nI 0), .int (nI 0), .int (nI 0), .int (nI 0), .int (nI 0)]))] : va_W) s.heap.size = A at hD ⊢
  have hA : ∀ q : Nat, s.heap.size ≤ q → A q := fun q h => by rw [← hAe]; exact Or.inr h
  have hS : va_S A s.heap s.heap [] := va_S.rf
  have hl := lv_entry ([.ref h0, .int (bI zz1), .ref zz2]) (n := 3) (Nat.le_of_ble_eq_true rfl)
  rw [lg_entry_eq]
  generalize (lg_sl ([.ref h0, .int (bI zz1), .ref zz2]) ++ List.replicate (3 - (lg_sl ([.ref h0, .int (bI zz1), .ref zz2])).length) Slot.unset).toArray = ls at hl ⊢
  have hl : lv_has ls 3 [(0, .ref h0), (1, .int (bI zz1)), (2, .ref zz2)] := hl
  generalize hav : ([.ref h0, .int (bI zz1), .ref zz2] : List Value).toArray = args at hC ⊢
  refine W_gen (fun QQ hQ => ?_)
  show W p l e (rmC 1 1 2000) s m args below meth c s.heap [] 0 0 QQ (F0 m 0 ls [])
  refine lv_aload_n hx hb dX1_init_0 rfl (lv_at hl 0 rfl) ?_
  refine w_objInit hC hl.1 q213 q20 q21 dX1_init_1 (Nat.le_of_ble_eq_true rfl) (Nat.le_of_ble_eq_true rfl) ?_
  refine lv_aload_n hx hb dX1_init_4 rfl (lv_at hl 0 rfl) ?_
  refine lv_sipush (v := nI 2000) hx hb dX1_init_5 (by decide) ?_
  refine w_newI hC hK hP hD hS hA q57 (by decide) (by decide) (c1 := 1) (s1 := 2000) rfl rfl (Nat.le_of_ble_eq_true rfl) (Nat.le_of_ble_eq_true rfl) dX1_init_8 (fun k1 H hP hD hS => ?_)
  have hP : va_P D vwCl ([(h0, .inr (1, [.int (bI false), .null, .null, .int (nI 0), .int (nI 0), .int (nI 0), .int (nI 0), .int (nI 0)])), (k1, .inl (cI, 2000, .inl (fun _ => nI 0)))] : va_W) H := hP
  have hD : va_D A ([(h0, .inr (1, [.int (bI false), .null, .null, .int (nI 0), .int (nI 0), .int (nI 0), .int (nI 0), .int (nI 0)])), (k1, .inl (cI, 2000, .inl (fun _ => nI 0)))] : va_W) := hD
  refine pF_X1_9 hC hK hP hD hS hin 0 rfl rfl rfl (Nat.le_of_ble_eq_true rfl) (ws1 := ([(h0, .inr (1, [.int (bI false), .null, .ref k1, .int (nI 0), .int (nI 0), .int (nI 0), .int (nI 0), .int (nI 0)])), (k1, .inl (cI, 2000, .inl (fun _ => nI 0)))] : va_W)) rfl dX1_init_10 (fun H locs hP hD hS => ?_)
  refine lv_aload_n hx hb dX1_init_13 rfl (lv_at hl 0 rfl) ?_
  refine lv_bipush (v := gI none) hx hb dX1_init_14 (by decide) ?_
  refine pF_X1_15 hC hK hP hD hS hin 0 rfl rfl rfl (Nat.le_of_ble_eq_true rfl) (ws1 := ([(h0, .inr (1, [.int (bI false), .null, .ref k1, .int (gI none), .int (nI 0), .int (nI 0), .int (nI 0), .int (nI 0)])), (k1, .inl (cI, 2000, .inl (fun _ => nI 0)))] : va_W)) rfl dX1_init_16 (fun H locs hP hD hS => ?_)
  refine lv_aload_n hx hb dX1_init_19 rfl (lv_at hl 0 rfl) ?_
  refine lv_bipush (v := gI none) hx hb dX1_init_20 (by decide) ?_
  refine pF_X1_19 hC hK hP hD hS hin 0 rfl rfl rfl (Nat.le_of_ble_eq_true rfl) (ws1 := ([(h0, .inr (1, [.int (bI false), .null, .ref k1, .int (gI none), .int (gI none), .int (nI 0), .int (nI 0), .int (nI 0)])), (k1, .inl (cI, 2000, .inl (fun _ => nI 0)))] : va_W)) rfl dX1_init_22 (fun H locs hP hD hS => ?_)
  refine lv_aload_n hx hb dX1_init_25 rfl (lv_at hl 0 rfl) ?_
  refine lv_iconst (v := nI 0) hx hb dX1_init_26 (by decide) ?_
  refine pF_X1_22 hC hK hP hD hS hin 0 rfl rfl rfl (Nat.le_of_ble_eq_true rfl) (ws1 := ([(h0, .inr (1, [.int (bI false), .null, .ref k1, .int (gI none), .int (gI none), .int (nI 0), .int (nI 0), .int (nI 0)])), (k1, .inl (cI, 2000, .inl (fun _ => nI 0)))] : va_W)) rfl dX1_init_27 (fun H locs hP hD hS => ?_)
  refine lv_aload_n hx hb dX1_init_30 rfl (lv_at hl 0 rfl) ?_
  refine lv_iconst (v := nI 0) hx hb dX1_init_31 (by decide) ?_
  refine pF_X1_25 hC hK hP hD hS hin 0 rfl rfl rfl (Nat.le_of_ble_eq_true rfl) (ws1 := ([(h0, .inr (1, [.int (bI false), .null, .ref k1, .int (gI none), .int (gI none), .int (nI 0), .int (nI 0), .int (nI 0)])), (k1, .inl (cI, 2000, .inl (fun _ => nI 0)))] : va_W)) rfl dX1_init_32 (fun H locs hP hD hS => ?_)
  refine lv_aload_n hx hb dX1_init_35 rfl (lv_at hl 0 rfl) ?_
  refine lv_bipush (v := gI none) hx hb dX1_init_36 (by decide) ?_
  refine pF_X1_28 hC hK hP hD hS hin 0 rfl rfl rfl (Nat.le_of_ble_eq_true rfl) (ws1 := ([(h0, .inr (1, [.int (bI false), .null, .ref k1, .int (gI none), .int (gI none), .int (nI 0), .int (nI 0), .int (gI none)])), (k1, .inl (cI, 2000, .inl (fun _ => nI 0)))] : va_W)) rfl dX1_init_38 (fun H locs hP hD hS => ?_)
  refine lv_aload_n hx hb dX1_init_41 rfl (lv_at hl 0 rfl) ?_
  refine lv_iload_n hx hb dX1_init_42 rfl (lv_at hl 1 rfl) ?_
  refine pF_X1_31 hC hK hP hD hS hin 0 rfl (bnar _) (bfit _) (Nat.le_of_ble_eq_true rfl) (ws1 := ([(h0, .inr (1, [.int (bI zz1), .null, .ref k1, .int (gI none), .int (gI none), .int (nI 0), .int (nI 0), .int (gI none)])), (k1, .inl (cI, 2000, .inl (fun _ => nI 0)))] : va_W)) rfl dX1_init_43 (fun H locs hP hD hS => ?_)
  refine lv_aload_n hx hb dX1_init_46 rfl (lv_at hl 0 rfl) ?_
  refine lv_aload_n hx hb dX1_init_47 rfl (lv_at hl 2 rfl) ?_
  refine pF_X1_35 hC hK hP hD hS hin 0 rfl rfl rfl (Nat.le_of_ble_eq_true rfl) (ws1 := ([(h0, .inr (1, [.int (bI zz1), .ref zz2, .ref k1, .int (gI none), .int (gI none), .int (nI 0), .int (nI 0), .int (gI none)])), (k1, .inl (cI, 2000, .inl (fun _ => nI 0)))] : va_W)) rfl dX1_init_48 (fun H locs hP hD hS => ?_)
  rw [hQ]
  exact W.vret hx hb hr (fun t9 ht hW => ⟨⟨_, rfl, ⟨k1, rfl⟩, by rw [ht]; exact hP, hD⟩, hS.F ht⟩) hS.2.2 dX1_init_51
