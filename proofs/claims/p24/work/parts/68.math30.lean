/-! ===== another state of the same reading ===== -/
section RT
variable {wd hd nb wl : Nat} {sh bw bh : Nat → Nat} {rm : Option Nat} {k0 k1 : Nat}
theorem ENUM_root {n : Nat} {K : Nat → Nat} (hf : FrV wd hd nb wl sh bw bh) (hk : KV wd hd nb wl sh bw bh rm k0) (hr : Rch (kst wd hd nb wl sh bw bh rm) k0 k1) (h : ENUM (kst wd hd nb wl sh bw bh rm) k0 K n) : ENUM (kst wd hd nb wl sh bw bh rm) k1 K n :=
  ⟨fun i hi => Rch_t (Rch_bck hf hk hr) (h.1 i hi), h.2.1, fun x hx => h.2.2 x (Rch_t hr hx)⟩
theorem BIG_root (hf : FrV wd hd nb wl sh bw bh) (hk : KV wd hd nb wl sh bw bh rm k0) (hr : Rch (kst wd hd nb wl sh bw bh rm) k0 k1) (h : BIG (kst wd hd nb wl sh bw bh rm) k0) : BIG (kst wd hd nb wl sh bw bh rm) k1 := by
  obtain ⟨K, h1, h2⟩ := h
  exact ⟨K, fun i hi => Rch_t (Rch_bck hf hk hr) (h1 i hi), h2⟩
theorem SPC_root {n : Nat} {K P T : Nat → Nat} {tm : Bool} (hf : FrV wd hd nb wl sh bw bh) (hk : KV wd hd nb wl sh bw bh rm k0) (hr : Rch (kst wd hd nb wl sh bw bh rm) k0 k1) (h : SPC wd hd nb wl sh bw bh rm k0 K n P T tm) : SPC wd hd nb wl sh bw bh rm k1 K n P T tm := by
  obtain ⟨h1, h2, h3, h4, h5, h6⟩ := h
  exact ⟨h1, h2, h3, fun i hi => ⟨Rch_t (Rch_bck hf hk hr) (h4 i hi).1, (h4 i hi).2⟩, fun ht => BIG_root hf hk hr (h5 ht), fun ht => ⟨ENUM_root hf hk hr (h6 ht).1, (h6 ht).2⟩⟩
theorem SPI_root {n : Nat} {K P T : Nat → Nat} {tm : Bool} {gb1 gp1 gr1 gb2 gp2 gr2 : Option Nat} {F1 F2 : Nat → Option Nat} {su1 su2 : Nat} (hf : FrV wd hd nb wl sh bw bh) (hk : KV wd hd nb wl sh bw bh rm k0) (hr : Rch (kst wd hd nb wl sh bw bh rm) k0 k1) (h : SPI wd hd nb wl sh bw bh rm k0 K n P T tm gb1 gp1 F1 su1 gr1 gb2 gp2 F2 su2 gr2) : SPI wd hd nb wl sh bw bh rm k1 K n P T tm gb1 gp1 F1 su1 gr1 gb2 gp2 F2 su2 gr2 := ⟨SPC_root hf hk hr h.1, h.2⟩
theorem KD_root {M : Nat → Nat → Prop} {Pp : Nat → Prop} {F : Nat → Option Nat} (hf : FrV wd hd nb wl sh bw bh) (hk : KV wd hd nb wl sh bw bh rm k0) (hr : Rch (kst wd hd nb wl sh bw bh rm) k0 k1) (h : KD (kst wd hd nb wl sh bw bh rm) M Pp k0 F) : KD (kst wd hd nb wl sh bw bh rm) M Pp k1 F := by
  have e : (fun x => Rch (kst wd hd nb wl sh bw bh rm) k1 x ∧ Pp x) = fun x => Rch (kst wd hd nb wl sh bw bh rm) k0 x ∧ Pp x := funext fun x => propext ⟨fun q => ⟨Rch_t hr q.1, q.2⟩, fun q => ⟨Rch_t (Rch_bck hf hk hr) q.1, q.2⟩⟩
  unfold KD
  rw [e]
  exact h
theorem g_dist_root {z : Bool} {gl aq : Option Nat} {K : Nat → Nat} {n : Nat} {P T : Nat → Nat} {F : Nat → Option Nat} {su d e : Nat} (hf : FrV wd hd nb wl sh bw bh) (hk : KV wd hd nb wl sh bw bh rm k0) (hr : Rch (kst wd hd nb wl sh bw bh rm) k0 k1) (h : GRG wd hd nb wl sh bw bh rm k0 z gl aq K n P T F su d) (he : keyF K n (cF n F) k1 = some e) : nI e = f_dist (kst wd hd nb wl sh bw bh rm) (mvk wd hd nb wl sh bw bh rm z) gl aq k1 := by
  obtain ⟨g, ap, rfl, rfl, hs, hD, h3, h4, h5, h6, h7⟩ := h
  exact f_dist_eq (Or.inr ⟨K, n, _, hs.2.1, ENUM_root hf hk hr (hs.2.2.2.2.2 rfl).1, KD_root hf hk hr h5, Or.inr ⟨h6, e, he, rfl⟩⟩)
theorem wth_comm {k b c p q : Nat} (hb : b < 7) (hc : c < 7) (hp : p < 32) (hq : q < 32) (hne : b ≠ c) (hk : k < 2 ^ 35) : wth (wth k b p) c q = wth (wth k c q) b p := by
  refine key_ext (wth_lt (wth_lt hk hp) hq) (wth_lt (wth_lt hk hq) hp) (fun a ha => ?_)
  by_cases e1 : a = b
  · subst e1
    rw [plc_wth_ne hq hc ha hne, plc_wth_self hp, plc_wth_self hp]
  · by_cases e2 : a = c
    · subst e2
      rw [plc_wth_self hq, plc_wth_ne hp hb ha (fun e => hne e.symm), plc_wth_self hq]
    · rw [plc_wth_ne hq hc ha e2, plc_wth_ne hp hb ha e1, plc_wth_ne hp hb ha e1, plc_wth_ne hq hc ha e2]
/-- without a block, the others' steps are steps still -/
theorem rm_root {b x : Nat} (hf : FrV wd hd nb wl sh bw bh) (hk : KV wd hd nb wl sh bw bh none k0) (hb : b < nb) (hr : Rch (kst wd hd nb wl sh bw bh none) k0 x) : Rch (kst wd hd nb wl sh bw bh (some b)) (wth k0 b 0) (wth x b 0) := by
  have hn7 := hf.2.2.2.2.2.1
  obtain ⟨d, hd⟩ := hr
  induction d generalizing x with
  | zero => cases hd; exact Rch_0
  | succ d ih =>
    obtain ⟨y, hy, c, hc, -, dd, hd4, q, hm, rfl⟩ := hd
    have hky := Rch_V hf hk ⟨d, hy⟩
    have hq := (KV_step hf hky hc (fun h => by cases h) hm).1
    by_cases e : c = b
    · subst e
      rw [wth_wth (by omega) (by decide)]
      exact ih hy
    · refine Rch_s (ih hy) ⟨c, hc, fun h => e (Option.some.inj h).symm, dd, hd4, q, ?_, ?_⟩
      · rw [plc_wth_ne (by decide) (by omega) (by omega) e]
        obtain ⟨h1, h2⟩ := mvt_inv hm
        obtain ⟨h3, h4⟩ := tk_and.mp h2
        refine mvt_go h1 (tk_and.mpr ⟨h3, fun a ha he => ?_⟩)
        obtain ⟨e1, e2⟩ := exb_f.mp he
        have e3 : a ≠ b := fun q => e2 (by rw [q])
        rw [plc_wth_ne (by decide) (by omega) (by omega) e3]
        exact h4 a ha (exb_f.mpr ⟨e1, fun h => by cases h⟩)
      · exact wth_comm (by omega) (by omega) (by omega) (by decide) e hky.1
theorem SPI_x {se sz n2 : Nat} {sse srm wo : Option Nat} {K P T K2 P2 T2 : Nat → Nat} {tm tm2 : Bool} {gb1 gp1 gr1 gb2 gp2 gr2 g1 g2 : Option Nat} {F1 F2 : Nat → Option Nat} {su1 su2 : Nat} (hcv : sse = some se → srm = wo → SPI wd hd nb wl sh bw bh wo k0 K sz P T tm gb1 gp1 F1 su1 gr1 gb2 gp2 F2 su2 gr2) (hsp : SPC wd hd nb wl sh bw bh wo k0 K2 n2 P2 T2 tm2)
    (hsa : (sse = some se ∧ srm = wo ∧ K2 = K ∧ n2 = sz ∧ P2 = P ∧ T2 = T ∧ tm2 = tm ∧ g1 = gb1 ∧ g2 = gb2) ∨ (g1 = none ∧ g2 = none)) : SPI wd hd nb wl sh bw bh wo k0 K2 n2 P2 T2 tm2 g1 gp1 F1 su1 gr1 g2 gp2 F2 su2 gr2 := by
  rcases hsa with ⟨a1, a2, rfl, rfl, rfl, rfl, rfl, rfl, rfl⟩ | ⟨rfl, rfl⟩
  · exact hcv a1 a2
  · exact ⟨hsp, fun _ => ⟨fun g ap h => (by cases h), fun g ap h => (by cases h)⟩⟩
end RT
theorem BD_x {sse srm gb1 gp1 gb2 gp2 g1 g2 wo : Option Nat} {se : Nat} {A1 : Prop} (h : BD6 sse srm gb1 gp1 gb2 gp2) (hse : se < 2 ^ 20) (hwo : bd20 wo) (hsa : (A1 ∧ g1 = gb1 ∧ g2 = gb2) ∨ (g1 = none ∧ g2 = none)) : BD6 (some se) wo g1 gp1 g2 gp2 := by
  refine ⟨bd_some hse, hwo, ?_, h.2.2.2.1, ?_, h.2.2.2.2.2⟩
  · rcases hsa with ⟨-, rfl, -⟩ | ⟨rfl, -⟩
    · exact h.2.2.1
    · exact fun d q => by cases q
  · rcases hsa with ⟨-, -, rfl⟩ | ⟨-, rfl⟩
    · exact h.2.2.2.2.1
    · exact fun d q => by cases q
theorem bd_none : bd20 none := fun d q => by cases q
theorem sa_9 {A1 A2 A3 A4 A5 A6 A7 A8 A9 : Prop} {B : Prop} (h : (A1 ∧ A2 ∧ A3 ∧ A4 ∧ A5 ∧ A6 ∧ A7 ∧ A8 ∧ A9) ∨ B) : ((A1 ∧ A2 ∧ A3 ∧ A4 ∧ A5 ∧ A6 ∧ A7) ∧ A8 ∧ A9) ∨ B := by
  rcases h with ⟨a1, a2, a3, a4, a5, a6, a7, a8, a9⟩ | h
  · exact Or.inl ⟨⟨a1, a2, a3, a4, a5, a6, a7⟩, a8, a9⟩
  · exact Or.inr h
theorem pkey_up {ps : Nat → Nat} {nb b q : Nat} (hn7 : nb ≤ 7) (hps : ∀ b, b < nb → ps b < 32) (hb : b < nb) (hq : q < 32) : pkey (va_up ps b q) nb = wth (pkey ps nb) b q := by
  have h2 : ∀ c, c < nb → va_up ps b q c < 32 := fun c hc => by
    by_cases e : c = b
    · subst e; rw [up_eq]; exact hq
    · rw [up_ne _ e]; exact hps c hc
  refine key_ext (pkey_lt h2) (wth_lt (pkey_lt hps) hq) (fun c hc => ?_)
  by_cases e : c = b
  · subst e; rw [plc_pkey hn7 h2 c hb, up_eq, plc_wth_self hq]
  · rw [plc_wth_ne hq (by omega) hc e]
    by_cases e2 : c < nb
    · rw [plc_pkey hn7 h2 c e2, up_ne _ e, plc_pkey hn7 hps c e2]
    · rw [pkey_hi hn7 h2 c (by omega) hc, pkey_hi hn7 hps c (by omega) hc]
/-- a slide of a block -/
theorem TV_move {wd hd nb wl : Nat} {sh bw bh ps : Nat → Nat} {gl aq lb : Option Nat} {b q d : Nat} (h : TV wd hd nb wl sh bw bh ps gl aq lb) (hb : b < nb) (hq : flo wd hd nb wl sh bw bh none (pkey ps nb) b q = some d) : TV wd hd nb wl sh bw bh (va_up ps b q) gl aq (some b) ∧ Rch (kst wd hd nb wl sh bw bh none) (pkey ps nb) (pkey (va_up ps b q) nb) ∧ q < 24 ∧ pkey (va_up ps b q) nb = wth (pkey ps nb) b q := by
  obtain ⟨hf, hps, hk, hga, hlb⟩ := h
  have hn7 := hf.2.2.2.2.2.1
  have hng : (none : Option Nat) ≠ some b := fun h => by cases h
  have hF := flo_ld wd hd nb wl sh bw bh none (pkey ps nb) b
  have hpl := fl_pl hf hk hb hng hF d q hq
  have hr := flo_Rb hf hk hb hng hF d q hq
  have hV := Rb_V hf hk hb hr
  have e := pkey_up hn7 hps hb (show q < 32 by omega)
  refine ⟨⟨hf, fun c hc => ?_, by rw [e]; exact hV.1, hga, fun d h => by cases h; exact hb⟩, by rw [e]; exact hV.2, hpl.2, e⟩
  by_cases e9 : c = b
  · subst e9; rw [up_eq]; omega
  · rw [up_ne _ e9]; exact hps c hc
/-- what a hint leaves for its making, of the component -/
def HIN2 (wd hd nb wl : Nat) (sh bw bh ps : Nat → Nat) (gl aq : Option Nat) (z : Bool) (r : Int32) : Prop := r = cHint (f_hintx wd hd nb wl sh bw bh ps gl aq z) ∧ ((r < 0 ∧ ∀ p, f_hintx wd hd nb wl sh bw bh ps gl aq z ≠ .inr (some p)) ∨ ∃ b q d e, f_hintx wd hd nb wl sh bw bh ps gl aq z = .inr (some (b, q)) ∧ b < nb ∧ q < 24 ∧ flo wd hd nb wl sh bw bh none (pkey ps nb) b q = some d ∧ d < 24 ∧ e < 2000 ∧ f_dist (kst wd hd nb wl sh bw bh none) (mvk wd hd nb wl sh bw bh none z) gl aq (pkey ps nb) = nI (e + 1) ∧ f_dist (kst wd hd nb wl sh bw bh none) (mvk wd hd nb wl sh bw bh none z) gl aq (wth (pkey ps nb) b q) = nI e)
/-! ===== calls whose cells stand first ===== -/
theorem wput_pre : ∀ (w1 ws pre tlx : va_W), w1.length = ws.length → wput (pre ++ (ws ++ tlx)) (tl pre.length ws.length) w1 = pre ++ (w1 ++ tlx)
  | [], [], pre, tlx, _ => rfl
  | [], _ :: _, _, _, h => by cases h
  | _ :: _, [], _, _, h => by cases h
  | b :: w1, a :: ws, pre, tlx, h => by
    show wput (pre ++ (a :: (ws ++ tlx))) (tl pre.length (ws.length + 1)) (b :: w1) = _
    rw [tl_s, wput]
    have e : (pre ++ (a :: (ws ++ tlx))).set pre.length b = (pre ++ [b]) ++ (ws ++ tlx) := by
      rw [List.set_append_right _ _ (Nat.le_refl _), Nat.sub_self]
      simp
    have ih := wput_pre w1 ws (pre ++ [b]) tlx (by simpa using h)
    rw [show (pre ++ [b]).length = pre.length + 1 by simp] at ih
    rw [e, ih]
    simp
theorem pre_pick (ws tlx : va_W) : (tl 0 ws.length).map (fun i => (ws ++ tlx)[i]?) = ws.map some := by
  refine List.ext_getElem? (fun j => ?_)
  rw [List.getElem?_map, List.getElem?_map]
  by_cases hj : j < ws.length
  · rw [tl_get hj, Nat.zero_add]
    show some ((ws ++ tlx)[j]?) = _
    rw [List.getElem?_append_left hj, List.getElem?_eq_getElem hj]
    rfl
  · rw [List.getElem?_eq_none (by rw [tl_len]; omega), List.getElem?_eq_none (by omega)]
    rfl
section KP
variable {p : Program} {l : Launch} {e : Env} {R : Room} {s : State} {m : MethodId} {args : Array Value} {below : List Frame} {meth : Method} {c : Code} {H : Heap} {locs : List Loc} {cells slots : Nat} {Q : State → Prop}
variable {cc : ByteArray} {pc nL : Nat} {ls : Array Slot} {st rest As : List Value} {D : va_G} {A : Nat → Prop} {tys : List (ClassId × FieldType)} {WS ws tlx : va_W} {H0 : Heap} {own C : String} {y : MethodName} {cy : ByteArray} {nY d' n index ci : Nat} {rt : Option FieldType} {b : Addr} {fs : List Value}
theorem pre_done {A0 : Nat → Prop} {H1 : Heap} {w1 : va_W} (hP : va_P D vwCl (ws ++ tlx) H) (hD : va_D A0 (ws ++ tlx)) (hk : ∀ q : Nat, q < H.size → ¬ aW ws q → H1[q]? = H[q]?) (hP1 : va_P D vwCl w1 H1) (ha : adr w1 = adr ws) : va_P D vwCl (w1 ++ tlx) H1 ∧ va_D A0 (w1 ++ tlx) := by
  have h := wput_ok hP hD (pre_pick ws tlx) (by have := tl_nodup (js := []) (n := 0) (k := ws.length) (fun i h => absurd h List.not_mem_nil) List.nodup_nil; simpa using this) hk hP1 ha
  have e := wput_pre w1 ws [] tlx (adr_len ha)
  simp only [List.nil_append, List.length_nil] at e
  rw [e] at h
  exact h
theorem callVP_i {q : vw_C} {post : Int32 → va_W → Prop} (hC : CallFix p m c cc nL s args lw_all own) (hK : va_K D vwCl tys s) (hN : kN s) (hP : va_P D vwCl WS H) (hD : va_D A WS) (hS : va_S A H0 H locs) (q0 : Nat) (hrc : vwCl[ci]? = some q) (hrq : WS[q0]? = some (b, .inr (ci, fs))) (hqc : q.1 = C) (hM : Met l y (Cond.code y cy nY rt :: lw_all) (rmN d') (va_Pc (.ref b :: As) (pB D tys ws)) (va_Qi post (gB D ws) (aW ws)) 0 0 (aW ws)) (hWS : WS = ws ++ tlx) (hlk : Cond.methodLink own index y ∈ lw_all) (md : mdV y cy nY rt n C) (hAs : As.length = n) (hls : ls.size = nL) (hst : st = As.reverse ++ .ref b :: rest) (hW : (rest.map fun v => v.category).sum ≤ 8) (hdg : decode cc pc = .ok (.invokevirtual index, 3)) (hR : d' + 1 ≤ R.frames ∧ 8 + (nY + 11) + 40 * d' ≤ R.locals) (hf : cells + 0 ≤ R.cells ∧ slots + 0 ≤ R.slots)
    (kk : ∀ (r : Int32) (ws' : va_W) (H1 : Heap) (locs1 : List Loc), post r ws' → va_P D vwCl (ws' ++ tlx) H1 → va_D A (ws' ++ tlx) → va_S A H0 H1 locs1 → W p l e R s m args below meth c H1 locs1 cells slots Q (F0 m (pc + 3) ls (.int r :: rest))) : W p l e R s m args below meth c H locs cells slots Q (F0 m pc ls st) := by
  subst hWS
  have hn : (tl 0 ws.length).Nodup := by
    have := tl_nodup (js := []) (n := 0) (k := ws.length) (fun i h => absurd h List.not_mem_nil) List.nodup_nil
    simpa using this
  refine va_calli (rnV hC hK hN hP hD (pre_pick ws tlx) hn hrc hrq hqc hM hlk md hAs hls hst hW hdg hR hf) hS (fun q _ h => aW_sub hD (pre_pick ws tlx) q h) (fun q h => aW_sub hD (pre_pick ws tlx) q h) (fun r u t H1 locs1 ht hvm hp hB hz hk hS1 => ?_)
  obtain ⟨h1, h2⟩ := hB
  rw [ht] at h1
  obtain ⟨hP1, hD1⟩ := pre_done hP hD hk h1 h2
  exact kk r u H1 locs1 hp hP1 hD1 hS1
theorem callVP_l {q : vw_C} {post : Int64 → va_W → Prop} (hC : CallFix p m c cc nL s args lw_all own) (hK : va_K D vwCl tys s) (hN : kN s) (hP : va_P D vwCl WS H) (hD : va_D A WS) (hS : va_S A H0 H locs) (q0 : Nat) (hrc : vwCl[ci]? = some q) (hrq : WS[q0]? = some (b, .inr (ci, fs))) (hqc : q.1 = C) (hM : Met l y (Cond.code y cy nY rt :: lw_all) (rmN d') (va_Pc (.ref b :: As) (pB D tys ws)) (va_Ql post (gB D ws) (aW ws)) 0 0 (aW ws)) (hWS : WS = ws ++ tlx) (hlk : Cond.methodLink own index y ∈ lw_all) (md : mdV y cy nY rt n C) (hAs : As.length = n) (hls : ls.size = nL) (hst : st = As.reverse ++ .ref b :: rest) (hW : (rest.map fun v => v.category).sum ≤ 8) (hdg : decode cc pc = .ok (.invokevirtual index, 3)) (hR : d' + 1 ≤ R.frames ∧ 8 + (nY + 11) + 40 * d' ≤ R.locals) (hf : cells + 0 ≤ R.cells ∧ slots + 0 ≤ R.slots)
    (kk : ∀ (r : Int64) (ws' : va_W) (H1 : Heap) (locs1 : List Loc), post r ws' → va_P D vwCl (ws' ++ tlx) H1 → va_D A (ws' ++ tlx) → va_S A H0 H1 locs1 → W p l e R s m args below meth c H1 locs1 cells slots Q (F0 m (pc + 3) ls (.long r :: rest))) : W p l e R s m args below meth c H locs cells slots Q (F0 m pc ls st) := by
  subst hWS
  have hn : (tl 0 ws.length).Nodup := by
    have := tl_nodup (js := []) (n := 0) (k := ws.length) (fun i h => absurd h List.not_mem_nil) List.nodup_nil
    simpa using this
  refine va_calll (rnV hC hK hN hP hD (pre_pick ws tlx) hn hrc hrq hqc hM hlk md hAs hls hst hW hdg hR hf) hS (fun q _ h => aW_sub hD (pre_pick ws tlx) q h) (fun q h => aW_sub hD (pre_pick ws tlx) q h) (fun r u t H1 locs1 ht hvm hp hB hz hk hS1 => ?_)
  obtain ⟨h1, h2⟩ := hB
  rw [ht] at h1
  obtain ⟨hP1, hD1⟩ := pre_done hP hD hk h1 h2
  exact kk r u H1 locs1 hp hP1 hD1 hS1
theorem callVP_f {q : vw_C} {post : UInt32 → va_W → Prop} (hC : CallFix p m c cc nL s args lw_all own) (hK : va_K D vwCl tys s) (hN : kN s) (hP : va_P D vwCl WS H) (hD : va_D A WS) (hS : va_S A H0 H locs) (q0 : Nat) (hrc : vwCl[ci]? = some q) (hrq : WS[q0]? = some (b, .inr (ci, fs))) (hqc : q.1 = C) (hM : Met l y (Cond.code y cy nY rt :: lw_all) (rmN d') (va_Pc (.ref b :: As) (pB D tys ws)) (va_Qf post (gB D ws) (aW ws)) 0 0 (aW ws)) (hWS : WS = ws ++ tlx) (hlk : Cond.methodLink own index y ∈ lw_all) (md : mdV y cy nY rt n C) (hAs : As.length = n) (hls : ls.size = nL) (hst : st = As.reverse ++ .ref b :: rest) (hW : (rest.map fun v => v.category).sum ≤ 8) (hdg : decode cc pc = .ok (.invokevirtual index, 3)) (hR : d' + 1 ≤ R.frames ∧ 8 + (nY + 11) + 40 * d' ≤ R.locals) (hf : cells + 0 ≤ R.cells ∧ slots + 0 ≤ R.slots)
    (kk : ∀ (r : UInt32) (ws' : va_W) (H1 : Heap) (locs1 : List Loc), post r ws' → va_P D vwCl (ws' ++ tlx) H1 → va_D A (ws' ++ tlx) → va_S A H0 H1 locs1 → W p l e R s m args below meth c H1 locs1 cells slots Q (F0 m (pc + 3) ls (.float r :: rest))) : W p l e R s m args below meth c H locs cells slots Q (F0 m pc ls st) := by
  subst hWS
  have hn : (tl 0 ws.length).Nodup := by
    have := tl_nodup (js := []) (n := 0) (k := ws.length) (fun i h => absurd h List.not_mem_nil) List.nodup_nil
    simpa using this
  refine va_callf (rnV hC hK hN hP hD (pre_pick ws tlx) hn hrc hrq hqc hM hlk md hAs hls hst hW hdg hR hf) hS (fun q _ h => aW_sub hD (pre_pick ws tlx) q h) (fun q h => aW_sub hD (pre_pick ws tlx) q h) (fun r u t H1 locs1 ht hvm hp hB hz hk hS1 => ?_)
  obtain ⟨h1, h2⟩ := hB
  rw [ht] at h1
  obtain ⟨hP1, hD1⟩ := pre_done hP hD hk h1 h2
  exact kk r u H1 locs1 hp hP1 hD1 hS1
theorem callVP_v {q : vw_C} {post : va_W → Prop} (hC : CallFix p m c cc nL s args lw_all own) (hK : va_K D vwCl tys s) (hN : kN s) (hP : va_P D vwCl WS H) (hD : va_D A WS) (hS : va_S A H0 H locs) (q0 : Nat) (hrc : vwCl[ci]? = some q) (hrq : WS[q0]? = some (b, .inr (ci, fs))) (hqc : q.1 = C) (hM : Met l y (Cond.code y cy nY rt :: lw_all) (rmN d') (va_Pc (.ref b :: As) (pB D tys ws)) (va_Qv post (gB D ws) (aW ws)) 0 0 (aW ws)) (hWS : WS = ws ++ tlx) (hlk : Cond.methodLink own index y ∈ lw_all) (md : mdV y cy nY rt n C) (hAs : As.length = n) (hls : ls.size = nL) (hst : st = As.reverse ++ .ref b :: rest) (hW : (rest.map fun v => v.category).sum ≤ 8) (hdg : decode cc pc = .ok (.invokevirtual index, 3)) (hR : d' + 1 ≤ R.frames ∧ 8 + (nY + 11) + 40 * d' ≤ R.locals) (hf : cells + 0 ≤ R.cells ∧ slots + 0 ≤ R.slots)
    (kk : ∀ (ws' : va_W) (H1 : Heap) (locs1 : List Loc), post ws' → va_P D vwCl (ws' ++ tlx) H1 → va_D A (ws' ++ tlx) → va_S A H0 H1 locs1 → W p l e R s m args below meth c H1 locs1 cells slots Q (F0 m (pc + 3) ls rest)) : W p l e R s m args below meth c H locs cells slots Q (F0 m pc ls st) := by
  subst hWS
  have hn : (tl 0 ws.length).Nodup := by
    have := tl_nodup (js := []) (n := 0) (k := ws.length) (fun i h => absurd h List.not_mem_nil) List.nodup_nil
    simpa using this
  refine va_callv (rnV hC hK hN hP hD (pre_pick ws tlx) hn hrc hrq hqc hM hlk md hAs hls hst hW hdg hR hf) hS (fun q _ h => aW_sub hD (pre_pick ws tlx) q h) (fun q h => aW_sub hD (pre_pick ws tlx) q h) (fun u t H1 locs1 ht hvm hp hB hz hk hS1 => ?_)
  obtain ⟨h1, h2⟩ := hB
  rw [ht] at h1
  obtain ⟨hP1, hD1⟩ := pre_done hP hD hk h1 h2
  exact kk u H1 locs1 hp hP1 hD1 hS1
end KP
