set_option maxHeartbeats 400000 in
set_option maxRecDepth 100000 in
theorem c_X8_shapes (l : Launch) (D : va_G) (cI cJ cB : ClassId) (o kv kp kx kl kh ki kf kq ka kt kd kn mpm mty mwi mhi mwa mle mam mli : Nat) (mgo : Option Nat) (mtm : Bool) (mpa : Nat → Int32) (mtx mlt mha mfi mqu mta mln mal : Nat → Nat) (mfa mdi : Nat → Option Nat) (wd hd nb wl : Nat) (st sl : Int32) (gl aq lb : Option Nat) (sh bw bh ps : Nat → Nat) (b g : Nat) (hb7 : b < 7) (hgs : g < 2 ^ (mwi * mhi)) (hne : ∃ i, g.testBit i = true) (h1 : 1 ≤ mwi) (h6 : mwi ≤ 6) (h24 : mwi * mhi ≤ 24) (h7 : mhi ≤ 6) : Met l yX8_shapes (Cond.code yX8_shapes cX8_shapes 8 none :: lw_all) (rmN 1) (va_Pc [.ref o, .int (nI b), .int (nI g)] (pB D (tyz cI cJ cB) (mW cI cJ cB o kv kp kx kl kh ki kf kq ka kt kd kn (nI mpm) (nI mty) (nI mwi) (nI mhi) (nI mwa) (nI mle) (gI mgo) (nI mam) (bI mtm) (nI mli) (vF wd hd nb wl st sl gl aq lb sh bw bh ps) mpa (fun zz => nI (mtx zz)) (fun zz => nI (mlt zz)) (fun zz => nI (mha zz)) (fun zz => nI (mfi zz)) (fun zz => oI (mfa zz)) (fun zz => nI (mqu zz)) (fun zz => lN (mal zz)) (fun zz => nI (mta zz)) (fun zz => oI (mdi zz)) (fun zz => nI (mln zz))))) (va_Qv (fun (w : va_W) => w = mW cI cJ cB o kv kp kx kl kh ki kf kq ka kt kd kn (nI mpm) (nI mty) (nI mwi) (nI mhi) (nI mwa) (nI mle) (gI mgo) (nI mam) (bI mtm) (nI mli) (vF wd hd nb wl st sl gl aq lb (va_up sh b (g >>> (bxt mwi g (mwi * mhi) * mwi + bxl mwi g (mwi * mhi)))) (va_up bw b (bxr mwi g (mwi * mhi) - bxl mwi g (mwi * mhi) + 1)) (va_up bh b (bxb mwi g (mwi * mhi) - bxt mwi g (mwi * mhi) + 1)) (va_up ps b (bxt mwi g (mwi * mhi) * mwi + bxl mwi g (mwi * mhi)))) mpa (fun zz => nI (mtx zz)) (fun zz => nI (mlt zz)) (fun zz => nI (mha zz)) (fun zz => nI (mfi zz)) (fun zz => oI (mfa zz)) (fun zz => nI (mqu zz)) (fun zz => lN (mal zz)) (fun zz => nI (mta zz)) (fun zz => oI (mdi zz)) (fun zz => nI (mln zz))) (gB D (mW cI cJ cB o kv kp kx kl kh ki kf kq ka kt kd kn (nI mpm) (nI mty) (nI mwi) (nI mhi) (nI mwa) (nI mle) (gI mgo) (nI mam) (bI mtm) (nI mli) (vF wd hd nb wl st sl gl aq lb sh bw bh ps) mpa (fun zz => nI (mtx zz)) (fun zz => nI (mlt zz)) (fun zz => nI (mha zz)) (fun zz => nI (mfi zz)) (fun zz => oI (mfa zz)) (fun zz => nI (mqu zz)) (fun zz => lN (mal zz)) (fun zz => nI (mta zz)) (fun zz => oI (mdi zz)) (fun zz => nI (mln zz)))) (aW (mW cI cJ cB o kv kp kx kl kh ki kf kq ka kt kd kn (nI mpm) (nI mty) (nI mwi) (nI mhi) (nI mwa) (nI mle) (gI mgo) (nI mam) (bI mtm) (nI mli) (vF wd hd nb wl st sl gl aq lb sh bw bh ps) mpa (fun zz => nI (mtx zz)) (fun zz => nI (mlt zz)) (fun zz => nI (mha zz)) (fun zz => nI (mfi zz)) (fun zz => oI (mfa zz)) (fun zz => nI (mqu zz)) (fun zz => lN (mal zz)) (fun zz => nI (mta zz)) (fun zz => oI (mdi zz)) (fun zz => nI (mln zz))))) 0 0 (aW (mW cI cJ cB o kv kp kx kl kh ki kf kq ka kt kd kn (nI mpm) (nI mty) (nI mwi) (nI mhi) (nI mwa) (nI mle) (gI mgo) (nI mam) (bI mtm) (nI mli) (vF wd hd nb wl st sl gl aq lb sh bw bh ps) mpa (fun zz => nI (mtx zz)) (fun zz => nI (mlt zz)) (fun zz => nI (mha zz)) (fun zz => nI (mfi zz)) (fun zz => oI (mfa zz)) (fun zz => nI (mqu zz)) (fun zz => lN (mal zz)) (fun zz => nI (mta zz)) (fun zz => oI (mdi zz)) (fun zz => nI (mln zz)))) := by
  refine Met.ofW (cc := cX8_shapes) (maxL := 8) (ret := none) (by decide) rfl ?_
  intro p e s m args below meth c s₁ B hml hv
  obtain ⟨rfl, hK, hN, hP, hD0⟩ := hv
  have hx := B.exec; have hb := B.bytes; have hr := B.returns; have hlocks := B.notSynchronized
  have hts0 := atoms_spec (ws := Cond.code yX8_shapes cX8_shapes 8 none :: lw_all) B.pre
  have hC : CallFix p m c cX8_shapes 8 s _ lw_all RX8 := ⟨hx, hb, hml, findClass_of_methodNamed B.named, fun w h => hts0 w (List.mem_cons_of_mem _ h)⟩
  have hD : va_D (aW (mW cI cJ cB o kv kp kx kl kh ki kf kq ka kt kd kn (nI mpm) (nI mty) (nI mwi) (nI mhi) (nI mwa) (nI mle) (gI mgo) (nI mam) (bI mtm) (nI mli) (vF wd hd nb wl st sl gl aq lb sh bw bh ps) mpa (fun zz => nI (mtx zz)) (fun zz => nI (mlt zz)) (fun zz => nI (mha zz)) (fun zz => nI (mfi zz)) (fun zz => oI (mfa zz)) (fun zz => nI (mqu zz)) (fun zz => lN (mal zz)) (fun zz => nI (mta zz)) (fun zz => oI (mdi zz)) (fun zz => nI (mln zz)))) (mW cI cJ cB o kv kp kx kl kh ki kf kq ka kt kd kn (nI mpm) (nI mty) (nI mwi) (nI mhi) (nI mwa) (nI mle) (gI mgo) (nI mam) (bI mtm) (nI mli) (vF wd hd nb wl st sl gl aq lb sh bw bh ps) mpa (fun zz => nI (mtx zz)) (fun zz => nI (mlt zz)) (fun zz => nI (mha zz)) (fun zz => nI (mfi zz)) (fun zz => oI (mfa zz)) (fun zz => nI (mqu zz)) (fun zz => lN (mal zz)) (fun zz => nI (mta zz)) (fun zz => oI (mdi zz)) (fun zz => nI (mln zz))) := ⟨hD0.1, fun k q h => ⟨k, q.2, h⟩⟩
  generalize hAe : aW (mW cI cJ cB o kv kp kx kl kh ki kf kq ka kt kd kn (nI mpm) (nI mty) (nI mwi) (nI mhi) (nI mwa) (nI mle) (gI mgo) (nI mam) (bI mtm) (nI mli) (vF wd hd nb wl st sl gl aq lb sh bw bh ps) mpa (fun zz => nI (mtx zz)) (fun zz => nI (mlt zz)) (fun zz => nI (mha zz)) (fun zz => nI (mfi zz)) (fun zz => oI (mfa zz)) (fun zz => nI (mqu zz)) (fun zz => lN (mal zz)) (fun zz => nI (mta zz)) (fun zz => oI (mdi zz)) (fun zz => nI (mln zz))) = A at hD ⊢
  have hS : va_S A s.heap s.heap [] := va_S.rf
  have hl := lv_entry ([.ref o, .int (nI b), .int (nI g)]) (n := 8) (Nat.le_of_ble_eq_true rfl)
  rw [lg_entry_eq]
  generalize (lg_sl ([.ref o, .int (nI b), .int (nI g)]) ++ List.replicate (8 - (lg_sl ([.ref o, .int (nI b), .int (nI g)])).length) Slot.unset).toArray = ls at hl ⊢
  have hl : lv_has ls 8 [(0, .ref o), (1, .int (nI b)), (2, .int (nI g))] := hl
  generalize hav : ([.ref o, .int (nI b), .int (nI g)] : List Value).toArray = args at hC ⊢
  refine W_gen (fun QQ hQ => ?_)
  show W p l e (rmN 1) s m args below meth c s.heap [] 0 0 QQ (F0 m 0 ls [])
  have hg31 : g < 2 ^ 31 := Nat.lt_of_lt_of_le hgs (Nat.pow_le_pow_right (by decide) (by omega))
  refine lv_bipush (v := nI 9) hx hb dX8_shapes_0 (by decide) ?_
  refine lv_istore_n (lv' := [(3, .int (nI 9)), (0, .ref o), (1, .int (nI b)), (2, .int (nI g))]) hx hb dX8_shapes_2 rfl hl (by decide) rfl (fun ls hl => ?_)
  refine lv_iconst (v := nI 0) hx hb dX8_shapes_3 (by decide) ?_
  refine lv_istore (lv' := [(4, .int (nI 0)), (3, .int (nI 9)), (0, .ref o), (1, .int (nI b)), (2, .int (nI g))]) hx hb dX8_shapes_4 hl (by decide) rfl (fun ls hl => ?_)
  refine lv_bipush (v := nI 9) hx hb dX8_shapes_6 (by decide) ?_
  refine lv_istore (lv' := [(5, .int (nI 9)), (4, .int (nI 0)), (3, .int (nI 9)), (0, .ref o), (1, .int (nI b)), (2, .int (nI g))]) hx hb dX8_shapes_8 hl (by decide) rfl (fun ls hl => ?_)
  refine lv_iconst (v := nI 0) hx hb dX8_shapes_10 (by decide) ?_
  refine lv_istore (lv' := [(6, .int (nI 0)), (5, .int (nI 9)), (4, .int (nI 0)), (3, .int (nI 9)), (0, .ref o), (1, .int (nI b)), (2, .int (nI g))]) hx hb dX8_shapes_11 hl (by decide) rfl (fun ls hl => ?_)
  refine lv_iconst (v := nI 0) hx hb dX8_shapes_13 (by decide) ?_
  refine lv_istore (lv' := [(7, .int (nI 0)), (6, .int (nI 0)), (5, .int (nI 9)), (4, .int (nI 0)), (3, .int (nI 9)), (0, .ref o), (1, .int (nI b)), (2, .int (nI g))]) hx hb dX8_shapes_14 hl (by decide) rfl (fun ls hl => ?_)
  have L16 : ∀ (n : Nat) (i : Nat), (i ≤ mwi * mhi) → (mwi * mhi - i) < n → ∀ (H : Heap) (locs : List Loc), va_P D vwCl (mW cI cJ cB o kv kp kx kl kh ki kf kq ka kt kd kn (nI mpm) (nI mty) (nI mwi) (nI mhi) (nI mwa) (nI mle) (gI mgo) (nI mam) (bI mtm) (nI mli) (vF wd hd nb wl st sl gl aq lb sh bw bh ps) mpa (fun zz => nI (mtx zz)) (fun zz => nI (mlt zz)) (fun zz => nI (mha zz)) (fun zz => nI (mfi zz)) (fun zz => oI (mfa zz)) (fun zz => nI (mqu zz)) (fun zz => lN (mal zz)) (fun zz => nI (mta zz)) (fun zz => oI (mdi zz)) (fun zz => nI (mln zz))) H → va_D A (mW cI cJ cB o kv kp kx kl kh ki kf kq ka kt kd kn (nI mpm) (nI mty) (nI mwi) (nI mhi) (nI mwa) (nI mle) (gI mgo) (nI mam) (bI mtm) (nI mli) (vF wd hd nb wl st sl gl aq lb sh bw bh ps) mpa (fun zz => nI (mtx zz)) (fun zz => nI (mlt zz)) (fun zz => nI (mha zz)) (fun zz => nI (mfi zz)) (fun zz => oI (mfa zz)) (fun zz => nI (mqu zz)) (fun zz => lN (mal zz)) (fun zz => nI (mta zz)) (fun zz => oI (mdi zz)) (fun zz => nI (mln zz))) → va_S A s.heap H locs → ∀ ls : Array Slot, lv_has ls 8 [(3, .int (nI (bxl mwi g i))), (4, .int (nI (bxr mwi g i))), (5, .int (nI (bxt mwi g i))), (6, .int (nI (bxb mwi g i))), (7, .int (nI i)), (0, .ref o), (1, .int (nI b)), (2, .int (nI g))] → W p l e (rmN 1) s m args below meth c H locs 0 0 QQ (F0 m 16 ls []) := by
    intro n; induction n with
    | zero => intro i ii hm; exact absurd hm (Nat.not_lt_zero _)
    | succ n ih16 =>
      intro i ii hm16 H locs hP hD hS ls hl
      obtain ⟨l1, -, -⟩ := bxl_s (w := mwi) (g := g) i
      obtain ⟨t1, -, -⟩ := bxt_s (w := mwi) (g := g) i
      have hmi := Nat.mod_lt i (show mwi > 0 by omega)
      have hdi : i / mwi ≤ i := Nat.div_le_self i mwi
      have hr6 : bxr mwi g i ≤ 24 := by rcases (bxr_s (w := mwi) (g := g) i).2 with e | ⟨j, hj, -, e⟩; omega; (rw [← e]; have := Nat.mod_le j mwi; omega)
      have hb6 : bxb mwi g i ≤ 24 := by rcases (bxb_s (w := mwi) (g := g) i).2 with e | ⟨j, hj, -, e⟩; omega; (rw [← e]; have := Nat.div_le_self j mwi; omega)
      refine lv_iload hx hb dX8_shapes_16 (lv_at hl 4 rfl) ?_
      refine lv_aload_n hx hb dX8_shapes_18 rfl (lv_at hl 5 rfl) ?_
      refine gf_X8_61 hC hK hP 0 rfl rfl dX8_shapes_19 ?_
      refine lv_aload_n hx hb dX8_shapes_22 rfl (lv_at hl 5 rfl) ?_
      refine gf_X8_64 hC hK hP 0 rfl rfl dX8_shapes_23 ?_
      refine n_imul hx hb dX8_shapes_26  ?_
      refine n_icmp_ge (a := i) (b := mwi * mhi) (tgt := 147) hx hb dX8_shapes_27 (by decide) (by omega) (by omega) (fun c27 => ?_) (fun c27 => ?_)
      · have _ : True := trivial
        have e27 : i = mwi * mhi := by omega
        rw [e27] at hl
        obtain ⟨x1, x2, x3, x4, x5, x6⟩ := box_s h1 h6 h7 hgs hne
        have hpl := box_lt (t := bxt mwi g (mwi * mhi)) (l := bxl mwi g (mwi * mhi)) (w := mwi) (hd := mhi) (by omega) (by omega)
        refine lv_aload_n hx hb dX8_shapes_147 rfl (lv_at hl 5 rfl) ?_
        refine gf_X8_7 hC hK hP 0 rfl rfl dX8_shapes_148 ?_
        refine lv_bipush (v := nI 31) hx hb dX8_shapes_151 (by decide) ?_
        refine lv_iload_n hx hb dX8_shapes_153 rfl (lv_at hl 6 rfl) ?_
        refine n_iadd hx hb dX8_shapes_154  ?_
        refine lv_iload hx hb dX8_shapes_155 (lv_at hl 2 rfl) ?_
        refine lv_aload_n hx hb dX8_shapes_157 rfl (lv_at hl 5 rfl) ?_
        refine gf_X8_61 hC hK hP 0 rfl rfl dX8_shapes_158 ?_
        refine n_imul hx hb dX8_shapes_161  ?_
        refine lv_iload_n hx hb dX8_shapes_162 rfl (lv_at hl 0 rfl) ?_
        refine n_iadd hx hb dX8_shapes_163  ?_
        refine n_iast hx hb hK hP hD hS 1 0 rfl rfl (by omega) (by decide) (vF_ups (by omega)) (ws1 := mW cI cJ cB o kv kp kx kl kh ki kf kq ka kt kd kn (nI mpm) (nI mty) (nI mwi) (nI mhi) (nI mwa) (nI mle) (gI mgo) (nI mam) (bI mtm) (nI mli) (vF wd hd nb wl st sl gl aq lb sh bw bh (va_up ps b (((bxt mwi g (mwi * mhi)) * mwi) + (bxl mwi g (mwi * mhi))))) mpa (fun zz => nI (mtx zz)) (fun zz => nI (mlt zz)) (fun zz => nI (mha zz)) (fun zz => nI (mfi zz)) (fun zz => oI (mfa zz)) (fun zz => nI (mqu zz)) (fun zz => lN (mal zz)) (fun zz => nI (mta zz)) (fun zz => oI (mdi zz)) (fun zz => nI (mln zz))) rfl dX8_shapes_164 (fun H locs hP hD hS => ?_)
        refine lv_aload_n hx hb dX8_shapes_165 rfl (lv_at hl 5 rfl) ?_
        refine gf_X8_7 hC hK hP 0 rfl rfl dX8_shapes_166 ?_
        refine lv_bipush (v := nI 10) hx hb dX8_shapes_169 (by decide) ?_
        refine lv_iload_n hx hb dX8_shapes_171 rfl (lv_at hl 6 rfl) ?_
        refine n_iadd hx hb dX8_shapes_172  ?_
        refine lv_iload_n hx hb dX8_shapes_173 rfl (lv_at hl 7 rfl) ?_
        refine lv_aload_n hx hb dX8_shapes_174 rfl (lv_at hl 5 rfl) ?_
        refine gf_X8_7 hC hK hP 0 rfl rfl dX8_shapes_175 ?_
        refine lv_bipush (v := nI 31) hx hb dX8_shapes_178 (by decide) ?_
        refine lv_iload_n hx hb dX8_shapes_180 rfl (lv_at hl 6 rfl) ?_
        refine n_iadd hx hb dX8_shapes_181  ?_
        refine n_iald hx hb hK hP 1 0 rfl rfl (by omega) (by decide) dX8_shapes_182 ?_
        refine topi (y := nI ((va_up ps b (((bxt mwi g (mwi * mhi)) * mwi) + (bxl mwi g (mwi * mhi)))) b)) (vF_ps (by omega)) ?_
        refine topi (y := nI (bxt mwi g (mwi * mhi) * mwi + bxl mwi g (mwi * mhi))) (by rw [up_eq]) ?_
        refine n_ishr hx hb dX8_shapes_183 (by omega) (by omega) ?_
        refine n_iast hx hb hK hP hD hS 1 0 rfl rfl (by omega) (by decide) (vF_ush (by omega)) (ws1 := mW cI cJ cB o kv kp kx kl kh ki kf kq ka kt kd kn (nI mpm) (nI mty) (nI mwi) (nI mhi) (nI mwa) (nI mle) (gI mgo) (nI mam) (bI mtm) (nI mli) (vF wd hd nb wl st sl gl aq lb (va_up sh b (g >>> (bxt mwi g (mwi * mhi) * mwi + bxl mwi g (mwi * mhi)))) bw bh (va_up ps b (((bxt mwi g (mwi * mhi)) * mwi) + (bxl mwi g (mwi * mhi))))) mpa (fun zz => nI (mtx zz)) (fun zz => nI (mlt zz)) (fun zz => nI (mha zz)) (fun zz => nI (mfi zz)) (fun zz => oI (mfa zz)) (fun zz => nI (mqu zz)) (fun zz => lN (mal zz)) (fun zz => nI (mta zz)) (fun zz => oI (mdi zz)) (fun zz => nI (mln zz))) rfl dX8_shapes_184 (fun H locs hP hD hS => ?_)
        refine lv_aload_n hx hb dX8_shapes_185 rfl (lv_at hl 5 rfl) ?_
        refine gf_X8_7 hC hK hP 0 rfl rfl dX8_shapes_186 ?_
        refine lv_bipush (v := nI 17) hx hb dX8_shapes_189 (by decide) ?_
        refine lv_iload_n hx hb dX8_shapes_191 rfl (lv_at hl 6 rfl) ?_
        refine n_iadd hx hb dX8_shapes_192  ?_
        refine lv_iload hx hb dX8_shapes_193 (lv_at hl 1 rfl) ?_
        refine lv_iload_n hx hb dX8_shapes_195 rfl (lv_at hl 0 rfl) ?_
        refine n_isub hx hb dX8_shapes_196 (by omega) ?_
        refine lv_iconst (v := nI 1) hx hb dX8_shapes_197 (by decide) ?_
        refine n_iadd hx hb dX8_shapes_198  ?_
        refine n_iast hx hb hK hP hD hS 1 0 rfl rfl (by omega) (by decide) (vF_ubw (by omega)) (ws1 := mW cI cJ cB o kv kp kx kl kh ki kf kq ka kt kd kn (nI mpm) (nI mty) (nI mwi) (nI mhi) (nI mwa) (nI mle) (gI mgo) (nI mam) (bI mtm) (nI mli) (vF wd hd nb wl st sl gl aq lb (va_up sh b (g >>> (bxt mwi g (mwi * mhi) * mwi + bxl mwi g (mwi * mhi)))) (va_up bw b (((bxr mwi g (mwi * mhi)) - (bxl mwi g (mwi * mhi))) + 1)) bh (va_up ps b (((bxt mwi g (mwi * mhi)) * mwi) + (bxl mwi g (mwi * mhi))))) mpa (fun zz => nI (mtx zz)) (fun zz => nI (mlt zz)) (fun zz => nI (mha zz)) (fun zz => nI (mfi zz)) (fun zz => oI (mfa zz)) (fun zz => nI (mqu zz)) (fun zz => lN (mal zz)) (fun zz => nI (mta zz)) (fun zz => oI (mdi zz)) (fun zz => nI (mln zz))) rfl dX8_shapes_199 (fun H locs hP hD hS => ?_)
        refine lv_aload_n hx hb dX8_shapes_200 rfl (lv_at hl 5 rfl) ?_
        refine gf_X8_7 hC hK hP 0 rfl rfl dX8_shapes_201 ?_
        refine lv_bipush (v := nI 24) hx hb dX8_shapes_204 (by decide) ?_
        refine lv_iload_n hx hb dX8_shapes_206 rfl (lv_at hl 6 rfl) ?_
        refine n_iadd hx hb dX8_shapes_207  ?_
        refine lv_iload hx hb dX8_shapes_208 (lv_at hl 3 rfl) ?_
        refine lv_iload hx hb dX8_shapes_210 (lv_at hl 2 rfl) ?_
        refine n_isub hx hb dX8_shapes_212 (by omega) ?_
        refine lv_iconst (v := nI 1) hx hb dX8_shapes_213 (by decide) ?_
        refine n_iadd hx hb dX8_shapes_214  ?_
        refine n_iast hx hb hK hP hD hS 1 0 rfl rfl (by omega) (by decide) (vF_ubh (by omega)) (ws1 := mW cI cJ cB o kv kp kx kl kh ki kf kq ka kt kd kn (nI mpm) (nI mty) (nI mwi) (nI mhi) (nI mwa) (nI mle) (gI mgo) (nI mam) (bI mtm) (nI mli) (vF wd hd nb wl st sl gl aq lb (va_up sh b (g >>> (bxt mwi g (mwi * mhi) * mwi + bxl mwi g (mwi * mhi)))) (va_up bw b (((bxr mwi g (mwi * mhi)) - (bxl mwi g (mwi * mhi))) + 1)) (va_up bh b (((bxb mwi g (mwi * mhi)) - (bxt mwi g (mwi * mhi))) + 1)) (va_up ps b (((bxt mwi g (mwi * mhi)) * mwi) + (bxl mwi g (mwi * mhi))))) mpa (fun zz => nI (mtx zz)) (fun zz => nI (mlt zz)) (fun zz => nI (mha zz)) (fun zz => nI (mfi zz)) (fun zz => oI (mfa zz)) (fun zz => nI (mqu zz)) (fun zz => lN (mal zz)) (fun zz => nI (mta zz)) (fun zz => oI (mdi zz)) (fun zz => nI (mln zz))) rfl dX8_shapes_215 (fun H locs hP hD hS => ?_)
        rw [hQ]
        exact W.vret hx hb hr (fun t9 ht hW => ⟨⟨_, rfl, rfl, by rw [ht]; exact hP, rfl⟩, hS.F ht⟩) hS.2.2 dX8_shapes_216
      · have _ : True := trivial
        refine lv_iload_n hx hb dX8_shapes_30 rfl (lv_at hl 7 rfl) ?_
        refine lv_iload hx hb dX8_shapes_31 (lv_at hl 4 rfl) ?_
        refine n_ishr hx hb dX8_shapes_33 (by omega) (by omega) ?_
        refine lv_iconst (v := nI 1) hx hb dX8_shapes_34 (by decide) ?_
        refine n_iand hx hb dX8_shapes_35  ?_
        refine lv_iconst (v := nI 1) hx hb dX8_shapes_36 (by decide) ?_
        refine n_icmp_ne (a := (g >>> i) &&& 1) (b := 1) (tgt := 141) hx hb dX8_shapes_37 (by decide) (by have := Nat.and_le_right (n := g >>> i) (m := 1); omega) (by omega) (fun c37 => ?_) (fun c37 => ?_)
        · have _ : True := trivial
          rw [bxl_f c37, bxr_f c37, bxt_f c37, bxb_f c37] at hl
          refine lv_iinc (v := nI (i + 1)) (lv' := [(7, .int (nI (i + 1))), (3, .int (nI (bxl mwi g (i + 1)))), (4, .int (nI (bxr mwi g (i + 1)))), (5, .int (nI (bxt mwi g (i + 1)))), (6, .int (nI (bxb mwi g (i + 1)))), (0, .ref o), (1, .int (nI b)), (2, .int (nI g))]) hx hb dX8_shapes_141 hl (k := 4) rfl (nI_1 _) (by decide) rfl (fun ls hl => ?_)
          refine lv_goto (tgt := 16) hx hb dX8_shapes_144 (by decide) ?_
          exact ih16 (i + 1) (by omega) (by omega) _ _ hP hD hS _ (lv_sub hl [1, 2, 3, 4, 0, 5, 6, 7] rfl)
        · have _ : True := trivial
          have L62 : ∀ (_ : True) , ∀ (H : Heap) (locs : List Loc), va_P D vwCl (mW cI cJ cB o kv kp kx kl kh ki kf kq ka kt kd kn (nI mpm) (nI mty) (nI mwi) (nI mhi) (nI mwa) (nI mle) (gI mgo) (nI mam) (bI mtm) (nI mli) (vF wd hd nb wl st sl gl aq lb sh bw bh ps) mpa (fun zz => nI (mtx zz)) (fun zz => nI (mlt zz)) (fun zz => nI (mha zz)) (fun zz => nI (mfi zz)) (fun zz => oI (mfa zz)) (fun zz => nI (mqu zz)) (fun zz => lN (mal zz)) (fun zz => nI (mta zz)) (fun zz => oI (mdi zz)) (fun zz => nI (mln zz))) H → va_D A (mW cI cJ cB o kv kp kx kl kh ki kf kq ka kt kd kn (nI mpm) (nI mty) (nI mwi) (nI mhi) (nI mwa) (nI mle) (gI mgo) (nI mam) (bI mtm) (nI mli) (vF wd hd nb wl st sl gl aq lb sh bw bh ps) mpa (fun zz => nI (mtx zz)) (fun zz => nI (mlt zz)) (fun zz => nI (mha zz)) (fun zz => nI (mfi zz)) (fun zz => oI (mfa zz)) (fun zz => nI (mqu zz)) (fun zz => lN (mal zz)) (fun zz => nI (mta zz)) (fun zz => oI (mdi zz)) (fun zz => nI (mln zz))) → va_S A s.heap H locs → ∀ ls : Array Slot, lv_has ls 8 [(3, .int (nI (bxl mwi g i))), (4, .int (nI (bxr mwi g i))), (5, .int (nI (bxt mwi g i))), (6, .int (nI (bxb mwi g i))), (7, .int (nI i)), (0, .ref o), (1, .int (nI b)), (2, .int (nI g))] → W p l e (rmN 1) s m args below meth c H locs 0 0 QQ (F0 m 62 ls [.int (nI (bxl mwi g (i + 1)))]) := by
            intro _  H locs hP hD hS ls hl
            refine lv_istore_n (lv' := [(3, .int (nI (bxl mwi g (i + 1)))), (4, .int (nI (bxr mwi g i))), (5, .int (nI (bxt mwi g i))), (6, .int (nI (bxb mwi g i))), (7, .int (nI i)), (0, .ref o), (1, .int (nI b)), (2, .int (nI g))]) hx hb dX8_shapes_62 rfl hl (by decide) rfl (fun ls hl => ?_)
            have L87 : ∀ (_ : True) , ∀ (H : Heap) (locs : List Loc), va_P D vwCl (mW cI cJ cB o kv kp kx kl kh ki kf kq ka kt kd kn (nI mpm) (nI mty) (nI mwi) (nI mhi) (nI mwa) (nI mle) (gI mgo) (nI mam) (bI mtm) (nI mli) (vF wd hd nb wl st sl gl aq lb sh bw bh ps) mpa (fun zz => nI (mtx zz)) (fun zz => nI (mlt zz)) (fun zz => nI (mha zz)) (fun zz => nI (mfi zz)) (fun zz => oI (mfa zz)) (fun zz => nI (mqu zz)) (fun zz => lN (mal zz)) (fun zz => nI (mta zz)) (fun zz => oI (mdi zz)) (fun zz => nI (mln zz))) H → va_D A (mW cI cJ cB o kv kp kx kl kh ki kf kq ka kt kd kn (nI mpm) (nI mty) (nI mwi) (nI mhi) (nI mwa) (nI mle) (gI mgo) (nI mam) (bI mtm) (nI mli) (vF wd hd nb wl st sl gl aq lb sh bw bh ps) mpa (fun zz => nI (mtx zz)) (fun zz => nI (mlt zz)) (fun zz => nI (mha zz)) (fun zz => nI (mfi zz)) (fun zz => oI (mfa zz)) (fun zz => nI (mqu zz)) (fun zz => lN (mal zz)) (fun zz => nI (mta zz)) (fun zz => oI (mdi zz)) (fun zz => nI (mln zz))) → va_S A s.heap H locs → ∀ ls : Array Slot, lv_has ls 8 [(3, .int (nI (bxl mwi g (i + 1)))), (4, .int (nI (bxr mwi g i))), (5, .int (nI (bxt mwi g i))), (6, .int (nI (bxb mwi g i))), (7, .int (nI i)), (0, .ref o), (1, .int (nI b)), (2, .int (nI g))] → W p l e (rmN 1) s m args below meth c H locs 0 0 QQ (F0 m 87 ls [.int (nI (bxr mwi g (i + 1)))]) := by
              intro _  H locs hP hD hS ls hl
              refine lv_istore (lv' := [(4, .int (nI (bxr mwi g (i + 1)))), (3, .int (nI (bxl mwi g (i + 1)))), (5, .int (nI (bxt mwi g i))), (6, .int (nI (bxb mwi g i))), (7, .int (nI i)), (0, .ref o), (1, .int (nI b)), (2, .int (nI g))]) hx hb dX8_shapes_87 hl (by decide) rfl (fun ls hl => ?_)
              have L113 : ∀ (_ : True) , ∀ (H : Heap) (locs : List Loc), va_P D vwCl (mW cI cJ cB o kv kp kx kl kh ki kf kq ka kt kd kn (nI mpm) (nI mty) (nI mwi) (nI mhi) (nI mwa) (nI mle) (gI mgo) (nI mam) (bI mtm) (nI mli) (vF wd hd nb wl st sl gl aq lb sh bw bh ps) mpa (fun zz => nI (mtx zz)) (fun zz => nI (mlt zz)) (fun zz => nI (mha zz)) (fun zz => nI (mfi zz)) (fun zz => oI (mfa zz)) (fun zz => nI (mqu zz)) (fun zz => lN (mal zz)) (fun zz => nI (mta zz)) (fun zz => oI (mdi zz)) (fun zz => nI (mln zz))) H → va_D A (mW cI cJ cB o kv kp kx kl kh ki kf kq ka kt kd kn (nI mpm) (nI mty) (nI mwi) (nI mhi) (nI mwa) (nI mle) (gI mgo) (nI mam) (bI mtm) (nI mli) (vF wd hd nb wl st sl gl aq lb sh bw bh ps) mpa (fun zz => nI (mtx zz)) (fun zz => nI (mlt zz)) (fun zz => nI (mha zz)) (fun zz => nI (mfi zz)) (fun zz => oI (mfa zz)) (fun zz => nI (mqu zz)) (fun zz => lN (mal zz)) (fun zz => nI (mta zz)) (fun zz => oI (mdi zz)) (fun zz => nI (mln zz))) → va_S A s.heap H locs → ∀ ls : Array Slot, lv_has ls 8 [(4, .int (nI (bxr mwi g (i + 1)))), (3, .int (nI (bxl mwi g (i + 1)))), (5, .int (nI (bxt mwi g i))), (6, .int (nI (bxb mwi g i))), (7, .int (nI i)), (0, .ref o), (1, .int (nI b)), (2, .int (nI g))] → W p l e (rmN 1) s m args below meth c H locs 0 0 QQ (F0 m 113 ls [.int (nI (bxt mwi g (i + 1)))]) := by
                intro _  H locs hP hD hS ls hl
                refine lv_istore (lv' := [(5, .int (nI (bxt mwi g (i + 1)))), (4, .int (nI (bxr mwi g (i + 1)))), (3, .int (nI (bxl mwi g (i + 1)))), (6, .int (nI (bxb mwi g i))), (7, .int (nI i)), (0, .ref o), (1, .int (nI b)), (2, .int (nI g))]) hx hb dX8_shapes_113 hl (by decide) rfl (fun ls hl => ?_)
                have L139 : ∀ (_ : True) , ∀ (H : Heap) (locs : List Loc), va_P D vwCl (mW cI cJ cB o kv kp kx kl kh ki kf kq ka kt kd kn (nI mpm) (nI mty) (nI mwi) (nI mhi) (nI mwa) (nI mle) (gI mgo) (nI mam) (bI mtm) (nI mli) (vF wd hd nb wl st sl gl aq lb sh bw bh ps) mpa (fun zz => nI (mtx zz)) (fun zz => nI (mlt zz)) (fun zz => nI (mha zz)) (fun zz => nI (mfi zz)) (fun zz => oI (mfa zz)) (fun zz => nI (mqu zz)) (fun zz => lN (mal zz)) (fun zz => nI (mta zz)) (fun zz => oI (mdi zz)) (fun zz => nI (mln zz))) H → va_D A (mW cI cJ cB o kv kp kx kl kh ki kf kq ka kt kd kn (nI mpm) (nI mty) (nI mwi) (nI mhi) (nI mwa) (nI mle) (gI mgo) (nI mam) (bI mtm) (nI mli) (vF wd hd nb wl st sl gl aq lb sh bw bh ps) mpa (fun zz => nI (mtx zz)) (fun zz => nI (mlt zz)) (fun zz => nI (mha zz)) (fun zz => nI (mfi zz)) (fun zz => oI (mfa zz)) (fun zz => nI (mqu zz)) (fun zz => lN (mal zz)) (fun zz => nI (mta zz)) (fun zz => oI (mdi zz)) (fun zz => nI (mln zz))) → va_S A s.heap H locs → ∀ ls : Array Slot, lv_has ls 8 [(5, .int (nI (bxt mwi g (i + 1)))), (4, .int (nI (bxr mwi g (i + 1)))), (3, .int (nI (bxl mwi g (i + 1)))), (6, .int (nI (bxb mwi g i))), (7, .int (nI i)), (0, .ref o), (1, .int (nI b)), (2, .int (nI g))] → W p l e (rmN 1) s m args below meth c H locs 0 0 QQ (F0 m 139 ls [.int (nI (bxb mwi g (i + 1)))]) := by
                  intro _  H locs hP hD hS ls hl
                  refine lv_istore (lv' := [(6, .int (nI (bxb mwi g (i + 1)))), (5, .int (nI (bxt mwi g (i + 1)))), (4, .int (nI (bxr mwi g (i + 1)))), (3, .int (nI (bxl mwi g (i + 1)))), (7, .int (nI i)), (0, .ref o), (1, .int (nI b)), (2, .int (nI g))]) hx hb dX8_shapes_139 hl (by decide) rfl (fun ls hl => ?_)
                  refine lv_iinc (v := nI (i + 1)) (lv' := [(7, .int (nI (i + 1))), (6, .int (nI (bxb mwi g (i + 1)))), (5, .int (nI (bxt mwi g (i + 1)))), (4, .int (nI (bxr mwi g (i + 1)))), (3, .int (nI (bxl mwi g (i + 1)))), (0, .ref o), (1, .int (nI b)), (2, .int (nI g))]) hx hb dX8_shapes_141 hl (k := 4) rfl (nI_1 _) (by decide) rfl (fun ls hl => ?_)
                  refine lv_goto (tgt := 16) hx hb dX8_shapes_144 (by decide) ?_
                  exact ih16 (i + 1) (by omega) (by omega) _ _ hP hD hS _ (lv_sub hl [4, 3, 2, 1, 0, 5, 6, 7] rfl)
                refine lv_iload hx hb dX8_shapes_115 (lv_at hl 4 rfl) ?_
                refine lv_aload_n hx hb dX8_shapes_117 rfl (lv_at hl 5 rfl) ?_
                refine gf_X8_61 hC hK hP 0 rfl rfl dX8_shapes_118 ?_
                refine n_idiv hx hb dX8_shapes_121 (by omega) (by omega) (by omega) ?_
                refine lv_iload hx hb dX8_shapes_122 (lv_at hl 3 rfl) ?_
                refine n_icmp_le (a := i / mwi) (b := bxb mwi g i) (tgt := 137) hx hb dX8_shapes_124 (by decide) (by omega) (by omega) (fun c124 => ?_) (fun c124 => ?_)
                · have _ : True := trivial
                  refine lv_iload hx hb dX8_shapes_137 (lv_at hl 3 rfl) ?_
                  refine topi (y := nI (bxb mwi g (i + 1))) (by rw [bxb_e (by omega)]) ?_
                  exact L139 trivial   _ _ hP hD hS _ (lv_sub hl [0, 1, 2, 3, 4, 5, 6, 7] rfl)
                · have _ : True := trivial
                  refine lv_iload hx hb dX8_shapes_127 (lv_at hl 4 rfl) ?_
                  refine lv_aload_n hx hb dX8_shapes_129 rfl (lv_at hl 5 rfl) ?_
                  refine gf_X8_61 hC hK hP 0 rfl rfl dX8_shapes_130 ?_
                  refine n_idiv hx hb dX8_shapes_133 (by omega) (by omega) (by omega) ?_
                  refine topi (y := nI (bxb mwi g (i + 1))) (by rw [bxb_t c37 (by omega)]) ?_
                  refine lv_goto (tgt := 139) hx hb dX8_shapes_134 (by decide) ?_
                  exact L139 trivial   _ _ hP hD hS _ (lv_sub hl [0, 1, 2, 3, 4, 5, 6, 7] rfl)
              refine lv_iload hx hb dX8_shapes_89 (lv_at hl 4 rfl) ?_
              refine lv_aload_n hx hb dX8_shapes_91 rfl (lv_at hl 5 rfl) ?_
              refine gf_X8_61 hC hK hP 0 rfl rfl dX8_shapes_92 ?_
              refine n_idiv hx hb dX8_shapes_95 (by omega) (by omega) (by omega) ?_
              refine lv_iload hx hb dX8_shapes_96 (lv_at hl 2 rfl) ?_
              refine n_icmp_ge (a := i / mwi) (b := bxt mwi g i) (tgt := 111) hx hb dX8_shapes_98 (by decide) (by omega) (by omega) (fun c98 => ?_) (fun c98 => ?_)
              · have _ : True := trivial
                refine lv_iload hx hb dX8_shapes_111 (lv_at hl 2 rfl) ?_
                refine topi (y := nI (bxt mwi g (i + 1))) (by rw [bxt_e (by omega)]) ?_
                exact L113 trivial   _ _ hP hD hS _ (lv_sub hl [0, 1, 2, 3, 4, 5, 6, 7] rfl)
              · have _ : True := trivial
                refine lv_iload hx hb dX8_shapes_101 (lv_at hl 4 rfl) ?_
                refine lv_aload_n hx hb dX8_shapes_103 rfl (lv_at hl 5 rfl) ?_
                refine gf_X8_61 hC hK hP 0 rfl rfl dX8_shapes_104 ?_
                refine n_idiv hx hb dX8_shapes_107 (by omega) (by omega) (by omega) ?_
                refine topi (y := nI (bxt mwi g (i + 1))) (by rw [bxt_t c37 (by omega)]) ?_
                refine lv_goto (tgt := 113) hx hb dX8_shapes_108 (by decide) ?_
                exact L113 trivial   _ _ hP hD hS _ (lv_sub hl [0, 1, 2, 3, 4, 5, 6, 7] rfl)
            refine lv_iload hx hb dX8_shapes_63 (lv_at hl 4 rfl) ?_
            refine lv_aload_n hx hb dX8_shapes_65 rfl (lv_at hl 5 rfl) ?_
            refine gf_X8_61 hC hK hP 0 rfl rfl dX8_shapes_66 ?_
            refine n_irem hx hb dX8_shapes_69 (by omega) (by omega) (by omega) ?_
            refine lv_iload hx hb dX8_shapes_70 (lv_at hl 1 rfl) ?_
            refine n_icmp_le (a := i % mwi) (b := bxr mwi g i) (tgt := 85) hx hb dX8_shapes_72 (by decide) (by omega) (by omega) (fun c72 => ?_) (fun c72 => ?_)
            · have _ : True := trivial
              refine lv_iload hx hb dX8_shapes_85 (lv_at hl 1 rfl) ?_
              refine topi (y := nI (bxr mwi g (i + 1))) (by rw [bxr_e (by omega)]) ?_
              exact L87 trivial   _ _ hP hD hS _ (lv_sub hl [0, 1, 2, 3, 4, 5, 6, 7] rfl)
            · have _ : True := trivial
              refine lv_iload hx hb dX8_shapes_75 (lv_at hl 4 rfl) ?_
              refine lv_aload_n hx hb dX8_shapes_77 rfl (lv_at hl 5 rfl) ?_
              refine gf_X8_61 hC hK hP 0 rfl rfl dX8_shapes_78 ?_
              refine n_irem hx hb dX8_shapes_81 (by omega) (by omega) (by omega) ?_
              refine topi (y := nI (bxr mwi g (i + 1))) (by rw [bxr_t c37 (by omega)]) ?_
              refine lv_goto (tgt := 87) hx hb dX8_shapes_82 (by decide) ?_
              exact L87 trivial   _ _ hP hD hS _ (lv_sub hl [0, 1, 2, 3, 4, 5, 6, 7] rfl)
          refine lv_iload hx hb dX8_shapes_40 (lv_at hl 4 rfl) ?_
          refine lv_aload_n hx hb dX8_shapes_42 rfl (lv_at hl 5 rfl) ?_
          refine gf_X8_61 hC hK hP 0 rfl rfl dX8_shapes_43 ?_
          refine n_irem hx hb dX8_shapes_46 (by omega) (by omega) (by omega) ?_
          refine lv_iload_n hx hb dX8_shapes_47 rfl (lv_at hl 0 rfl) ?_
          refine n_icmp_ge (a := i % mwi) (b := bxl mwi g i) (tgt := 61) hx hb dX8_shapes_48 (by decide) (by omega) (by omega) (fun c48 => ?_) (fun c48 => ?_)
          · have _ : True := trivial
            refine lv_iload_n hx hb dX8_shapes_61 rfl (lv_at hl 0 rfl) ?_
            refine topi (y := nI (bxl mwi g (i + 1))) (by rw [bxl_e (by omega)]) ?_
            exact L62 trivial   _ _ hP hD hS _ (lv_sub hl [0, 1, 2, 3, 4, 5, 6, 7] rfl)
          · have _ : True := trivial
            refine lv_iload hx hb dX8_shapes_51 (lv_at hl 4 rfl) ?_
            refine lv_aload_n hx hb dX8_shapes_53 rfl (lv_at hl 5 rfl) ?_
            refine gf_X8_61 hC hK hP 0 rfl rfl dX8_shapes_54 ?_
            refine n_irem hx hb dX8_shapes_57 (by omega) (by omega) (by omega) ?_
            refine topi (y := nI (bxl mwi g (i + 1))) (by rw [bxl_t c37 (by omega)]) ?_
            refine lv_goto (tgt := 62) hx hb dX8_shapes_58 (by decide) ?_
            exact L62 trivial   _ _ hP hD hS _ (lv_sub hl [0, 1, 2, 3, 4, 5, 6, 7] rfl)
  exact L16 _ 0 (by omega) (Nat.lt_succ_self _) _ _ hP hD hS _ (lv_sub hl [4, 3, 2, 1, 0, 5, 6, 7] rfl)
