/-! ===== the law's start: the array classes ===== -/
theorem tyz_ex {args : Array Value} {s : State} {D : va_G} (hK : va_K D vwCl [] s) (h1 : (Cond.arrayClass .int).before args s = true) (h2 : (Cond.arrayClass .long).before args s = true) (h3 : va_AO "SlidingBlocks$Board" s) : ∃ cI cJ cB, va_K D vwCl (tyz cI cJ cB) s := by
  obtain ⟨c1, k1, m1, f1, g1, e1⟩ := Cond.arrayClass_spec h1
  obtain ⟨c2, k2, m2, f2, g2, e2⟩ := Cond.arrayClass_spec h2
  obtain ⟨m3, c3, k3, f3, -, g3, e3, n3⟩ := Cond.arrayOver_spec h3
  refine ⟨c1, c2, c3, hK.1, fun k q hq => ?_⟩
  match k, hq with
  | 0, hq =>
    cases hq
    exact ⟨fun n z => ⟨(fun k h => by cases h), k1, g1, m1, e1⟩, f1⟩
  | 1, hq =>
    cases hq
    exact ⟨fun n z => ⟨(fun k h => by cases h), k2, g2, m2, e2⟩, f2⟩
  | 2, hq =>
    cases hq
    exact ⟨fun n z => ⟨(fun k h => by cases h), k3, g3, m3, e3⟩, k3, m3, g3, e3, f3, n3⟩
  | k + 3, hq => cases hq
/-- a space with its two distances, of a space tuple -/
def PSp (cI cJ : ClassId) (ys zs : Nat) (sp : SPT) (w9 : va_W) : Prop := ∃ yk yp yt y1 y2 zf1 zf2 fo1 fo2 : Nat, w9 = pS cI cJ ys yk yp yt y1 y2 zs zf1 zf2 sp.2.2.2.1 sp.2.2.2.2.2.2.1 sp.1 sp.2.1 sp.2.2.1 sp.2.2.2.2.1 sp.2.2.2.2.2.1 sp.2.2.2.2.2.2.2.1 sp.2.2.2.2.2.2.2.2.1 fo1 sp.2.2.2.2.2.2.2.2.2.2.1 sp.2.2.2.2.2.2.2.2.2.2.2.1 sp.2.2.2.2.2.2.2.2.2.2.2.2.1 sp.2.2.2.2.2.2.2.2.2.2.2.2.2.1 fo2 sp.2.2.2.2.2.2.2.2.2.2.2.2.2.2.2.1 sp.2.2.2.2.2.2.2.2.2.2.2.2.2.2.2.2 sp.2.2.2.2.2.2.2.2.2.1 sp.2.2.2.2.2.2.2.2.2.2.2.2.2.2.1
def PTx (cI : ClassId) (vo ln : Nat) (tx : Nat → Nat) (w9 : va_W) : Prop := ∃ (vsa vca vla all0 k0 vw0 ro0 row0 : Nat) (cl0 lt0 : Nat → Nat), w9 = pT cI vo vsa vca vla ln all0 k0 vw0 ro0 row0 tx cl0 lt0
def PBo (cI cJ cB : ClassId) (h : Nat) (t : BT) (w9 : va_W) : Prop := ∃ hs hw hh hp : Nat, w9 = pBd cI cJ cB h hs hw hh hp t
def PRe (cI : ClassId) (ro : Nat) (w9 : va_W) : Prop := ∃ (rfa rqa : Nat) (F : Nat → Option Nat) (Q : Nat → Nat), w9 = pR cI ro rfa rqa F Q
def PSc (cI : ClassId) (zs : Nat) (w9 : va_W) : Prop := ∃ (zq zm zl : Nat) (Qa Ma La : Nat → Nat), w9 = pK cI zs zq zm zl Qa Ma La
