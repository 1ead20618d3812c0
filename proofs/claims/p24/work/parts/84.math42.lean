/-! ===== the coupling goes on ===== -/
section LC2
variable {i rd ln sz sz2 pm2 : Nat} {tx : Nat → Nat} {se wd hd nb wl : Nat} {st sl : Int32} {gl aq lb : Option Nat} {sh bw bh ps shm bwm bhm psm : Nat → Nat} {s1 s2 s3 : SPT} {hg hg2 : Nat → BT} {mpa pa2 : Nat → Int32} {t : BT}
theorem LCT.up {j : Nat} (h : LCT i rd ln tx t shm bwm bhm psm s1 s2 sz hg mpa) (hj : i ≤ j) : LCT j rd ln tx t shm bwm bhm psm s1 s2 sz hg mpa := ⟨Nat.le_trans h.1 hj, h.2⟩
theorem LCT.text {ln2 : Nat} {tx2 : Nat → Nat} (h : LCT i rd ln tx t shm bwm bhm psm s1 s2 sz hg mpa) (h1 : ln2 ≤ 40) (h2 : ∀ j, tx2 j < 2 ^ 20) : LCT i rd ln2 tx2 t shm bwm bhm psm s1 s2 sz hg mpa := ⟨h.1, h1, h2, h.2.2.2⟩
theorem LCT.tv (h : LCT i rd ln tx t shm bwm bhm psm s1 s2 sz hg mpa) : TVt t := by
  obtain ⟨-, -, -, -, -, -, G, hh, hb, -⟩ := h
  exact hb.2.2.1
theorem LCT.tvm (h : LCT i rd ln tx t shm bwm bhm psm s1 s2 sz hg mpa) : TV (twd t) (thd t) (tnb t) (twl t) shm bwm bhm psm (tgl t) (taq t) (tlb t) := AG_TV h.tv h.2.2.2.1
theorem LCT.cv (h : LCT i rd ln tx t shm bwm bhm psm s1 s2 sz hg mpa) : CVF (frt t) none (keyx (tps t) none (tnb t)) (tse t) s1 := by
  obtain ⟨-, -, -, -, -, -, G, hh, hb, hs, -⟩ := h
  exact hs.use hb
theorem LCT.cw (h : LCT i rd ln tx t shm bwm bhm psm s1 s2 sz hg mpa) : ∀ b, b < tnb t → CVF (frt t) (some b) (keyx (tps t) (some b) (tnb t)) (tse t) s2 := by
  obtain ⟨-, -, -, -, -, -, G, hh, hb, hs, hw, -⟩ := h
  exact hw.use hb
theorem LCT.space (h : LCT i rd ln tx t shm bwm bhm psm s1 s2 sz hg mpa) (hs : s3 = s1 ∨ SVF (frt t) none (keyx (tps t) none (tnb t)) (tse t) s3) (hb3 : bdS s3) : LCT i rd ln tx t shm bwm bhm psm s3 s2 sz hg mpa := by
  obtain ⟨a1, a2, a3, a4, a5, a6, G, hh, hb, hk, hr⟩ := h
  exact ⟨a1, a2, a3, a4, hb3, a6, G, hh, hb, hk.post hb hs, hr⟩
theorem LCT.trial (h : LCT i rd ln tx t shm bwm bhm psm s1 s2 sz hg mpa) (hs : s3 = s2 ∨ ∃ b, b < tnb t ∧ SVF (frt t) (some b) (keyx (tps t) (some b) (tnb t)) (tse t) s3) (hb3 : bdS s3) : LCT i rd ln tx t shm bwm bhm psm s1 s3 sz hg mpa := by
  obtain ⟨a1, a2, a3, a4, a5, a6, G, hh, hb, hk, hw, hr⟩ := h
  exact ⟨a1, a2, a3, a4, a5, hb3, G, hh, hb, hk, hw.post hb hs, hr⟩
theorem LCT.mv (h : LCT i rd ln tx (tup se wd hd nb wl st sl gl aq lb sh bw bh ps) shm bwm bhm psm s1 s2 sz hg mpa) : ∃ hh, PH mpa sz hh ∧ ∀ (mo : Option (Nat × Nat × Nat × Bool)) (st2 sl2 st3 sl3 : Int32) (lb2 lb3 : Option Nat) (ps2 psm2 : Nat → Nat) (sz2 pm2 : Nat) (hg2 : Nat → BT) (pa2 : Nat → Int32) (h2 : Nat → Nat → Int32), MVok wd hd nb wl sh bw bh ps mo → MVD mo st sl lb ps st2 sl2 lb2 ps2 → MVD mo st sl lb psm st3 sl3 lb3 psm2 → (mo.isSome = true → sz2 = hcnt sz ∧ hg2 = hpu hg sz (tup se wd hd nb wl st sl gl aq lb sh bw bh ps)) → (mo.isSome = false → sz2 = sz ∧ hg2 = hg) → HIS mo.isSome (vF wd hd nb wl st sl gl aq lb shm bwm bhm psm) sz hh pa2 pm2 h2 → st3 = st2 ∧ sl3 = sl2 ∧ lb3 = lb2 ∧ pm2 = sz2 ∧ LCT i rd ln tx (tup se wd hd nb wl st2 sl2 gl aq lb2 sh bw bh ps2) shm bwm bhm psm2 s1 s2 sz2 hg2 pa2 := by
  obtain ⟨a1, a2, a3, a4, a5, a6, G, hh, hb, hk, hw, hp, ho⟩ := h
  refine ⟨hh, hp, fun mo st2 sl2 st3 sl3 lb2 lb3 ps2 psm2 sz2 pm2 hg2 pa2 h2 hok m1 m2 b1 b2 hs => ?_⟩
  obtain ⟨g1, g2, g3, g4⟩ := MVD_ag m1 m2 a4
  obtain ⟨c1, c2⟩ := MVD_TV hb.2.2.1 hok m1
  obtain ⟨d1, d2⟩ := ho.act hb ⟨shm, bwm, bhm, psm, fun _ _ => rfl, a4⟩ b1 b2 hs.2.1 hs.2.2
  exact ⟨g1, g2, g3, d1, a1, a2, a3, g4, a5, a6, G, h2, hb.upd rfl rfl c1 c2, hk, hw, by rw [← d1]; exact hs.1, d2⟩
theorem LCT.hrd (h : LCT i rd ln tx (tup se wd hd nb wl st sl gl aq lb sh bw bh ps) shm bwm bhm psm s1 s2 sz hg mpa) : ∃ hh, PH mpa sz hh ∧ ∀ (z : Bool) (st2 sl2 st3 sl3 : Int32) (lb2 lb3 : Option Nat) (ps2 psm2 : Nat → Nat) (sz2 pm2 : Nat) (hg2 : Nat → BT) (pa2 : Nat → Int32) (h2 : Nat → Nat → Int32), HRD nb (f_hardx wd hd nb wl sh bw bh ps gl aq z) st sl lb ps st2 sl2 lb2 ps2 → HRD nb (f_hardx wd hd nb wl sh bw bh ps gl aq z) st sl lb psm st3 sl3 lb3 psm2 → ((f_hardx wd hd nb wl sh bw bh ps gl aq z).isSome = true → sz2 = hcnt sz ∧ hg2 = hpu hg sz (tup se wd hd nb wl st sl gl aq lb sh bw bh ps)) → ((f_hardx wd hd nb wl sh bw bh ps gl aq z).isSome = false → sz2 = sz ∧ hg2 = hg) → HIS (f_hardx wd hd nb wl sh bw bh ps gl aq z).isSome (vF wd hd nb wl st sl gl aq lb shm bwm bhm psm) sz hh pa2 pm2 h2 → st3 = st2 ∧ sl3 = sl2 ∧ lb3 = lb2 ∧ pm2 = sz2 ∧ LCT i rd ln tx (tup se wd hd nb wl st2 sl2 gl aq lb2 sh bw bh ps2) shm bwm bhm psm2 s1 s2 sz2 hg2 pa2 := by
  obtain ⟨a1, a2, a3, a4, a5, a6, G, hh, hb, hk, hw, hp, ho⟩ := h
  refine ⟨hh, hp, fun z st2 sl2 st3 sl3 lb2 lb3 ps2 psm2 sz2 pm2 hg2 pa2 h2 m1 m2 b1 b2 hs => ?_⟩
  obtain ⟨g1, g2, g3, g4⟩ := HRD_ag m1 m2 a4
  obtain ⟨c1, c2⟩ := HRD_TV hb.2.2.1 m1
  obtain ⟨d1, d2⟩ := ho.act hb ⟨shm, bwm, bhm, psm, fun _ _ => rfl, a4⟩ b1 b2 hs.2.1 hs.2.2
  exact ⟨g1, g2, g3, d1, a1, a2, a3, g4, a5, a6, G, h2, hb.upd rfl rfl c1 c2, hk, hw, by rw [← d1]; exact hs.1, d2⟩
theorem GLD_same {mo : Option (Nat × Nat)} {gl aq gl2 aq2 gl3 aq3 : Option Nat} (h : GLD mo gl aq gl2 aq2) (h2 : GLD mo gl aq gl3 aq3) : gl3 = gl2 ∧ aq3 = aq2 := by
  cases mo with
  | none => exact ⟨h2.1.trans h.1.symm, h2.2.trans h.2.symm⟩
  | some o => exact ⟨h2.1.trans h.1.symm, h2.2.trans h.2.symm⟩
theorem LCT.gld (h : LCT i rd ln tx (tup se wd hd nb wl st sl gl aq lb sh bw bh ps) shm bwm bhm psm s1 s2 sz hg mpa) : ∃ hh, PH mpa sz hh ∧ ∀ (x y : Int32) (gl2 aq2 gl3 aq3 : Option Nat) (sz2 pm2 : Nat) (hg2 : Nat → BT) (pa2 : Nat → Int32) (h2 : Nat → Nat → Int32), GLD (f_goalm wd hd nb bw bh x y) gl aq gl2 aq2 → GLD (f_goalm wd hd nb bw bh x y) gl aq gl3 aq3 → ((f_goalm wd hd nb bw bh x y).isSome = true → sz2 = hcnt sz ∧ hg2 = hpu hg sz (tup se wd hd nb wl st sl gl aq lb sh bw bh ps)) → ((f_goalm wd hd nb bw bh x y).isSome = false → sz2 = sz ∧ hg2 = hg) → HIS (f_goalm wd hd nb bw bh x y).isSome (vF wd hd nb wl st sl gl aq lb shm bwm bhm psm) sz hh pa2 pm2 h2 → gl3 = gl2 ∧ aq3 = aq2 ∧ pm2 = sz2 ∧ LCT i rd ln tx (tup se wd hd nb wl st sl gl2 aq2 lb sh bw bh ps) shm bwm bhm psm s1 s2 sz2 hg2 pa2 := by
  obtain ⟨a1, a2, a3, a4, a5, a6, G, hh, hb, hk, hw, hp, ho⟩ := h
  refine ⟨hh, hp, fun x y gl2 aq2 gl3 aq3 sz2 pm2 hg2 pa2 h2 m1 m2 b1 b2 hs => ?_⟩
  obtain ⟨g1, g2⟩ := GLD_same m1 m2
  obtain ⟨d1, d2⟩ := ho.act hb ⟨shm, bwm, bhm, psm, fun _ _ => rfl, a4⟩ b1 b2 hs.2.1 hs.2.2
  exact ⟨g1, g2, d1, a1, a2, a3, a4, a5, a6, G, h2, hb.upd rfl rfl (GLD_ok hb.2.2.1 m1) Rch_0, hk, hw, by rw [← d1]; exact hs.1, d2⟩
theorem LCT.und (h : LCT i rd ln tx t shm bwm bhm psm s1 s2 sz hg mpa) : ∃ hh, PH mpa sz hh ∧ ∀ (t2 : BT) (v2 : Nat → Int32), (sz = 0 → t2 = t) → (sz ≠ 0 → t2 = hg (sz - 1)) → (sz = 0 → v2 = vF (twd t) (thd t) (tnb t) (twl t) (tst t) (tsl t) (tgl t) (taq t) (tlb t) shm bwm bhm psm) → (sz ≠ 0 → ∀ j, j < 44 → v2 j = hh (sz - 1) j) → ∃ sh2 bw2 bh2 ps2, (∀ j, j < 44 → v2 j = vF (twd t2) (thd t2) (tnb t2) (twl t2) (tst t2) (tsl t2) (tgl t2) (taq t2) (tlb t2) sh2 bw2 bh2 ps2 j) ∧ LCT i rd ln tx t2 sh2 bw2 bh2 ps2 s1 s2 (sz - 1) hg mpa := by
  obtain ⟨a1, a2, a3, a4, a5, a6, G, hh, hb, hk, hw, hp, ho⟩ := h
  refine ⟨hh, hp, fun t2 v2 u1 u2 w1 w2 => ?_⟩
  by_cases e : sz = 0
  · cases u1 e
    cases w1 e
    subst e
    exact ⟨shm, bwm, bhm, psm, fun _ _ => rfl, a1, a2, a3, a4, a5, a6, G, hh, hb, hk, hw, hp, ho⟩
  · cases u2 e
    obtain ⟨b1, sh2, bw2, bh2, ps2, b2, b3⟩ := ho.2 (sz - 1) (by omega)
    exact ⟨sh2, bw2, bh2, ps2, fun j hj => (w2 e j hj).trans (b2 j hj), a1, a2, a3, b3, a5, a6, G, hh, b1, hk, hw, ⟨by have := hp.1; omega, fun i hi => hp.2 i (by omega)⟩, ⟨by have := ho.1; omega, fun j hj => ho.2 j (by omega)⟩⟩
/-- a reading that is right on both sides -/
theorem LCT.rdg {t2 : BT} {sh2 bw2 bh2 ps2 : Nat → Nat} {pa2 : Nat → Int32} {h2 : Nat → Nat → Int32} {G : GT} {hh : Nat → Nat → Int32} (a1 : rd + 1 ≤ i) (a3 : ∀ j, tx j < 2 ^ 20) (a5 : bdS s1) (a6 : bdS s2) (hb : BOK rd G t) (a4 : AG (tnb t) (tsh t) (tbw t) (tbh t) (tps t) shm bwm bhm psm) (hk : SOK rd G s1) (hw : WOK rd G s2) (ho : HOK rd G sz hg hh) (h1 : tse t2 = rd + 1) (h3 : TVt t2) (h4 : AG (tnb t2) (tsh t2) (tbw t2) (tbh t2) (tps t2) sh2 bw2 bh2 ps2) (hp : PH pa2 (hcnt sz) (hpush hh sz (vF (twd t) (thd t) (tnb t) (twl t) (tst t) (tsl t) (tgl t) (taq t) (tlb t) shm bwm bhm psm))) : LCT i (rd + 1) 0 tx t2 sh2 bw2 bh2 ps2 s1 s2 (hcnt sz) (hpu hg sz t) pa2 :=
  ⟨a1, by omega, a3, h4, a5, a6, gup G (rd + 1) (frt t2, kyt t2), _, BOK.new h1 h3, hk.next, hw.next, hp, ho.next.push hb.next ⟨shm, bwm, bhm, psm, fun _ _ => rfl, a4⟩⟩
end LC2
