/-! ===== the coupling: readings, frames, bases ===== -/
abbrev FRT : Type := Nat × Nat × Nat × Nat × (Nat → Nat) × (Nat → Nat) × (Nat → Nat)
abbrev GT : Type := Nat → FRT × Nat
abbrev frt (t : BT) : FRT := (twd t, thd t, tnb t, twl t, tsh t, tbw t, tbh t)
abbrev TVt (t : BT) : Prop := TV (twd t) (thd t) (tnb t) (twl t) (tsh t) (tbw t) (tbh t) (tps t) (tgl t) (taq t) (tlb t)
abbrev kyt (t : BT) : Nat := pkey (tps t) (tnb t)
abbrev kstF (f : FRT) (rm : Option Nat) : Nat → Nat → Prop := kst f.1 f.2.1 f.2.2.1 f.2.2.2.1 f.2.2.2.2.1 f.2.2.2.2.2.1 f.2.2.2.2.2.2 rm
abbrev KVF (f : FRT) (rm : Option Nat) (k : Nat) : Prop := KV f.1 f.2.1 f.2.2.1 f.2.2.2.1 f.2.2.2.2.1 f.2.2.2.2.2.1 f.2.2.2.2.2.2 rm k
abbrev FrVF (f : FRT) : Prop := FrV f.1 f.2.1 f.2.2.1 f.2.2.2.1 f.2.2.2.2.1 f.2.2.2.2.2.1 f.2.2.2.2.2.2
abbrev CVF (f : FRT) (rm : Option Nat) (k se : Nat) (sp : SPT) : Prop := CVt f.1 f.2.1 f.2.2.1 f.2.2.2.1 f.2.2.2.2.1 f.2.2.2.2.2.1 f.2.2.2.2.2.2 rm k se sp
abbrev SVF (f : FRT) (rm : Option Nat) (k se : Nat) (sp : SPT) : Prop := SVt f.1 f.2.1 f.2.2.1 f.2.2.2.1 f.2.2.2.2.1 f.2.2.2.2.2.1 f.2.2.2.2.2.2 rm k se sp
/-- a board of some reading -/
def BOK (rd : Nat) (G : GT) (t : BT) : Prop := tse t ≤ rd ∧ (G (tse t)).1 = frt t ∧ TVt t ∧ KVF (frt t) none (G (tse t)).2 ∧ Rch (kstF (frt t) none) (G (tse t)).2 (kyt t)
def SOK (rd : Nat) (G : GT) (sp : SPT) : Prop := (∀ s, sp.1 = some s → s ≤ rd) ∧ ∀ s, CVF (G s).1 none (G s).2 s sp
def WOK (rd : Nat) (G : GT) (sp : SPT) : Prop := (∀ s, sp.1 = some s → s ≤ rd) ∧ ∀ s b, b < (G s).1.2.2.1 → CVF (G s).1 (some b) (wth (G s).2 b 0) s sp
def gup (G : GT) (n : Nat) (v : FRT × Nat) : GT := fun s => if s = n then v else G s
theorem gup_at {G : GT} {n : Nat} {v : FRT × Nat} : gup G n v n = v := if_pos rfl
theorem gup_ne {G : GT} {n s : Nat} {v : FRT × Nat} (h : s ≠ n) : gup G n v s = G s := if_neg h
section CO
variable {rd : Nat} {G : GT} {t t2 : BT} {sp sp2 : SPT}
theorem BOK.upd (h : BOK rd G t) (h1 : tse t2 = tse t) (h2 : frt t2 = frt t) (h3 : TVt t2) (h4 : Rch (kstF (frt t) none) (kyt t) (kyt t2)) : BOK rd G t2 := by
  obtain ⟨a1, a2, a3, a4, a5⟩ := h
  refine ⟨by rw [h1]; exact a1, by rw [h1, h2]; exact a2, h3, by rw [h1, h2]; exact a4, ?_⟩
  rw [h1, h2]
  exact Rch_t a5 h4
theorem BOK.next (h : BOK rd G t) {v : FRT × Nat} : BOK (rd + 1) (gup G (rd + 1) v) t := by
  obtain ⟨a1, a2, a3, a4, a5⟩ := h
  have e : gup G (rd + 1) v (tse t) = G (tse t) := gup_ne (by omega)
  exact ⟨by omega, by rw [e]; exact a2, a3, by rw [e]; exact a4, by rw [e]; exact a5⟩
theorem BOK.new (h1 : tse t = rd + 1) (h2 : TVt t) : BOK (rd + 1) (gup G (rd + 1) (frt t, kyt t)) t := by
  refine ⟨by omega, by rw [h1, gup_at], h2, ?_, ?_⟩
  · rw [h1, gup_at]; exact h2.2.2.1
  · rw [h1, gup_at]; exact Rch_0
theorem CVt_no {wd hd nb wl : Nat} {sh bw bh : Nat → Nat} {rm : Option Nat} {k0 se : Nat} {sp : SPT} (h : sp.1 ≠ some se) : CVt wd hd nb wl sh bw bh rm k0 se sp := by
  obtain ⟨sse, srm, K, n, P, T, tm, gb1, gp1, F1, su1, gr1, gb2, gp2, F2, su2, gr2⟩ := sp
  exact fun h1 => absurd h1 h
theorem SVt_se {wd hd nb wl : Nat} {sh bw bh : Nat → Nat} {rm : Option Nat} {k0 se : Nat} {sp : SPT} (h : SVt wd hd nb wl sh bw bh rm k0 se sp) : sp.1 = some se ∧ sp.2.1 = rm := by
  obtain ⟨sse, srm, K, n, P, T, tm, gb1, gp1, F1, su1, gr1, gb2, gp2, F2, su2, gr2⟩ := sp
  exact ⟨h.1, h.2.1⟩
theorem CVt_rm {wd hd nb wl : Nat} {sh bw bh : Nat → Nat} {rm : Option Nat} {k0 se : Nat} {sp : SPT} (h : sp.2.1 ≠ rm) : CVt wd hd nb wl sh bw bh rm k0 se sp := by
  obtain ⟨sse, srm, K, n, P, T, tm, gb1, gp1, F1, su1, gr1, gb2, gp2, F2, su2, gr2⟩ := sp
  exact fun _ h1 => absurd h1 h
theorem CVt_SV {wd hd nb wl : Nat} {sh bw bh : Nat → Nat} {rm : Option Nat} {k0 se : Nat} {sp : SPT} (h : SVt wd hd nb wl sh bw bh rm k0 se sp) : CVt wd hd nb wl sh bw bh rm k0 se sp := by
  obtain ⟨sse, srm, K, n, P, T, tm, gb1, gp1, F1, su1, gr1, gb2, gp2, F2, su2, gr2⟩ := sp
  exact fun _ _ => h.2.2
theorem SOK.next (h : SOK rd G sp) {v : FRT × Nat} : SOK (rd + 1) (gup G (rd + 1) v) sp := by
  refine ⟨fun s hs => by have := h.1 s hs; omega, fun s => ?_⟩
  by_cases e : s = rd + 1
  · refine CVt_no (fun h1 => ?_)
    have := h.1 s h1
    omega
  · rw [gup_ne e]; exact h.2 s
theorem WOK.next (h : WOK rd G sp) {v : FRT × Nat} : WOK (rd + 1) (gup G (rd + 1) v) sp := by
  refine ⟨fun s hs => by have := h.1 s hs; omega, fun s b hb => ?_⟩
  by_cases e : s = rd + 1
  · refine CVt_no (fun h1 => ?_)
    have := h.1 s h1
    omega
  · rw [gup_ne e] at hb ⊢; exact h.2 s b hb
theorem SOK.use (h : SOK rd G sp) (hb : BOK rd G t) : CVF (frt t) none (keyx (tps t) none (tnb t)) (tse t) sp := by
  obtain ⟨a1, a2, a3, a4, a5⟩ := hb
  have h1 := h.2 (tse t)
  rw [a2] at h1
  rw [keyx_none (tnb t) a3.1.2.2.2.2.2.1 a3.2.1]
  exact cv_root a3.1 a4 a5 h1
theorem SOK.post (h : SOK rd G sp) (hb : BOK rd G t) (hs : sp2 = sp ∨ SVF (frt t) none (keyx (tps t) none (tnb t)) (tse t) sp2) : SOK rd G sp2 := by
  rcases hs with rfl | hs
  · exact h
  · obtain ⟨a1, a2, a3, a4, a5⟩ := hb
    have e := SVt_se hs
    refine ⟨fun s h1 => ?_, fun s => ?_⟩
    · rw [e.1] at h1
      injection h1 with h1
      omega
    · by_cases es : s = tse t
      · subst es
        rw [a2]
        rw [keyx_none (tnb t) a3.1.2.2.2.2.2.1 a3.2.1] at hs
        exact cv_root a3.1 a3.2.2.1 (Rch_bck a3.1 a4 a5) (CVt_SV hs)
      · exact CVt_no (by rw [e.1]; intro h9; injection h9 with h9; exact es h9.symm)
theorem KV_wth {f : FRT} {k b : Nat} (hf : FrVF f) (hk : KVF f none k) (hb : b < f.2.2.1) : KVF f (some b) (wth k b 0) := KV_out hf.2.2.2.2.2.1 hb hk
theorem WOK.use (h : WOK rd G sp) (hb : BOK rd G t) : ∀ b, b < tnb t → CVF (frt t) (some b) (keyx (tps t) (some b) (tnb t)) (tse t) sp := by
  intro b hbn
  obtain ⟨a1, a2, a3, a4, a5⟩ := hb
  have h1 := h.2 (tse t) b (by rw [a2]; exact hbn)
  rw [a2] at h1
  rw [keyx_some a3.1.2.2.2.2.2.1 a3.2.1 hbn]
  exact cv_root a3.1 (KV_wth (f := frt t) a3.1 a4 hbn) (rm_root a3.1 a4 hbn a5) h1
theorem WOK.post (h : WOK rd G sp) (hb : BOK rd G t) (hs : sp2 = sp ∨ ∃ b, b < tnb t ∧ SVF (frt t) (some b) (keyx (tps t) (some b) (tnb t)) (tse t) sp2) : WOK rd G sp2 := by
  rcases hs with rfl | ⟨b, hbn, hs⟩
  · exact h
  · obtain ⟨a1, a2, a3, a4, a5⟩ := hb
    have e := SVt_se hs
    refine ⟨fun s h1 => ?_, fun s c hc => ?_⟩
    · rw [e.1] at h1
      injection h1 with h1
      omega
    · by_cases es : s = tse t
      · subst es
        rw [a2] at hc ⊢
        by_cases ec : c = b
        · subst ec
          rw [keyx_some a3.1.2.2.2.2.2.1 a3.2.1 hbn] at hs
          exact cv_root a3.1 (KV_wth (f := frt t) a3.1 a3.2.2.1 hbn) (Rch_bck a3.1 (KV_wth (f := frt t) a3.1 a4 hbn) (rm_root a3.1 a4 hbn a5)) (CVt_SV hs)
        · exact CVt_rm (by rw [e.2]; intro h9; injection h9 with h9; exact ec h9.symm)
      · exact CVt_no (by rw [e.1]; intro h9; injection h9 with h9; exact es h9.symm)
end CO
