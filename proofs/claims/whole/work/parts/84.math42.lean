/-! ===== the coupling goes on ===== -/
section LC2
variable {i rd ln sz sz2 pm2 : Nat} {tx : Nat → Nat} {se wd hd nb wl : Nat} {st sl : Int32} {gl aq lb : Option Nat} {sh bw bh ps shm bwm bhm psm : Nat → Nat} {s1 s2 s3 : SPT} {hg hg2 : Nat → BT} {mpa pa2 : Nat → Int32} {t : BT}
theorem LCT.up {j : Nat} (h : LCT i rd ln tx t shm bwm bhm psm s1 s2 sz hg mpa) (hj : i ≤ j) : LCT j rd ln tx t shm bwm bhm psm s1 s2 sz hg mpa := ⟨Nat.le_trans h.1 hj, h.2⟩
theorem LCT.text {ln2 : Nat} {tx2 : Nat → Nat} (h : LCT i rd ln tx t shm bwm bhm psm s1 s2 sz hg mpa) (h1 : ln2 ≤ 40) (h2 : ∀ j, tx2 j < 2 ^ 20) : LCT i rd ln2 tx2 t shm bwm bhm psm s1 s2 sz hg mpa := ⟨h.1, h1, h2, h.2.2.2⟩
theorem LCT.tv (h : LCT i rd ln tx t shm bwm bhm psm s1 s2 sz hg mpa) : TVt t := by
  obtain ⟨-, -, -, -, -, -, G, hh, hb, -⟩ := h
  exact hb.2.2.1
theorem LCT.tvm (h : LCT i rd ln tx t shm bwm bhm psm s1 s2 sz hg mpa) : TV (twd t) (thd t) (tnb t) (twl t) shm bwm bhm psm (tgl t) (taq t) (tlb t) := AG_TV h.tv h.2.2.2.1
theorem LCT.cv (h : LCT i rd ln tx t shm bwm bhm psm s1 s2 sz hg mpa) : CVF (frt t) none (keyx (tps t) none (tnb t)) (tse t) s1 := by
  obtain ⟨-, -, -, -, -, -, G, hh, hb, hs, -⟩ := h
  exact hs.use hb
theorem LCT.cw (h : LCT i rd ln tx t shm bwm bhm psm s1 s2 sz hg mpa) : ∀ b, b < tnb t → CVF (frt t) (some b) (keyx (tps t) (some b) (tnb t)) (tse t) s2 := by
  obtain ⟨-, -, -, -, -, -, G, hh, hb, hs, hw, -⟩ := h
  exact hw.use hb
theorem LCT.space (h : LCT i rd ln tx t shm bwm bhm psm s1 s2 sz hg mpa) (hs : s3 = s1 ∨ SVF (frt t) none (keyx (tps t) none (tnb t)) (tse t) s3) (hb3 : bdS s3) : LCT i rd ln tx t shm bwm bhm psm s3 s2 sz hg mpa := by
  obtain ⟨a1, a2, a3, a4, a5, a6, G, hh, hb, hk, hr⟩ := h
  exact ⟨a1, a2, a3, a4, hb3, a6, G, hh, hb, hk.post hb hs, hr⟩
theorem LCT.trial (h : LCT i rd ln tx t shm bwm bhm psm s1 s2 sz hg mpa) (hs : s3 = s2 ∨ ∃ b, b < tnb t ∧ SVF (frt t) (some b) (keyx (tps t) (some b) (tnb t)) (tse t) s3) (hb3 : bdS s3) : LCT i rd ln tx t shm bwm bhm psm s1 s3 sz hg mpa := by
  obtain ⟨a1, a2, a3, a4, a5, a6, G, hh, hb, hk, hw, hr⟩ := h
  exact ⟨a1, a2, a3, a4, a5, hb3, G, hh, hb, hk, hw.post hb hs, hr⟩
end LC2
