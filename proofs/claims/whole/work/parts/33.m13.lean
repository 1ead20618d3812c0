set_option maxHeartbeats 400000 in
set_option maxRecDepth 100000 in
theorem c_X8_lays (l : Launch) (D : va_G) (cI cJ cB : ClassId) (o kv kp kx kl kh ki kf kq ka kt kd kn mpm mty mwi mhi mwa mle mam mli : Nat) (mgo : Option Nat) (mtm : Bool) (mpa : Nat → Int32) (mtx mlt mha mfi mqu mta mln mal : Nat → Nat) (mfa mdi : Nat → Option Nat) (wd hd nb wl : Nat) (st sl : Int32) (gl aq lb : Option Nat) (sh bw bh ps : Nat → Nat) (hty : mty ≤ 40) (htx : ∀ i, mtx i < 2 ^ 20) : Met l yX8_lays (Cond.code yX8_lays cX8_lays 6 (some .int) :: lw_all) (rmN 1) (va_Pc [.ref o] (pB D (tyz cI cJ cB) (mW cI cJ cB o kv kp kx kl kh ki kf kq ka kt kd kn (nI mpm) (nI mty) (nI mwi) (nI mhi) (nI mwa) (nI mle) (gI mgo) (nI mam) (bI mtm) (nI mli) (vF wd hd nb wl st sl gl aq lb sh bw bh ps) mpa (fun zz => nI (mtx zz)) (fun zz => nI (mlt zz)) (fun zz => nI (mha zz)) (fun zz => nI (mfi zz)) (fun zz => oI (mfa zz)) (fun zz => nI (mqu zz)) (fun zz => lN (mal zz)) (fun zz => nI (mta zz)) (fun zz => oI (mdi zz)) (fun zz => nI (mln zz))))) (va_Qi (fun (r : Int32) (w : va_W) => ∃ wi2 : Nat, ∃ hi2 : Nat, ∃ wa2 : Nat, ∃ le2 : Nat, ∃ lt9 : Nat → Nat, ∃ ha2 : Nat → Nat, ∃ fi2 : Nat → Nat, w = mW cI cJ cB o kv kp kx kl kh ki kf kq ka kt kd kn (nI mpm) (nI mty) (nI wi2) (nI hi2) (nI wa2) (nI le2) (gI mgo) (nI mam) (bI mtm) (nI mli) (vF wd hd nb wl st sl gl aq lb sh bw bh ps) mpa (fun zz => nI (mtx zz)) (fun zz => nI (lt9 zz)) (fun zz => nI (ha2 zz)) (fun zz => nI (fi2 zz)) (fun zz => oI (mfa zz)) (fun zz => nI (mqu zz)) (fun zz => lN (mal zz)) (fun zz => nI (mta zz)) (fun zz => oI (mdi zz)) (fun zz => nI (mln zz)) ∧ LAYD mtx mty r wi2 hi2 wa2 le2 lt9 ha2 fi2) (gB D (mW cI cJ cB o kv kp kx kl kh ki kf kq ka kt kd kn (nI mpm) (nI mty) (nI mwi) (nI mhi) (nI mwa) (nI mle) (gI mgo) (nI mam) (bI mtm) (nI mli) (vF wd hd nb wl st sl gl aq lb sh bw bh ps) mpa (fun zz => nI (mtx zz)) (fun zz => nI (mlt zz)) (fun zz => nI (mha zz)) (fun zz => nI (mfi zz)) (fun zz => oI (mfa zz)) (fun zz => nI (mqu zz)) (fun zz => lN (mal zz)) (fun zz => nI (mta zz)) (fun zz => oI (mdi zz)) (fun zz => nI (mln zz)))) (aW (mW cI cJ cB o kv kp kx kl kh ki kf kq ka kt kd kn (nI mpm) (nI mty) (nI mwi) (nI mhi) (nI mwa) (nI mle) (gI mgo) (nI mam) (bI mtm) (nI mli) (vF wd hd nb wl st sl gl aq lb sh bw bh ps) mpa (fun zz => nI (mtx zz)) (fun zz => nI (mlt zz)) (fun zz => nI (mha zz)) (fun zz => nI (mfi zz)) (fun zz => oI (mfa zz)) (fun zz => nI (mqu zz)) (fun zz => lN (mal zz)) (fun zz => nI (mta zz)) (fun zz => oI (mdi zz)) (fun zz => nI (mln zz))))) 0 0 (aW (mW cI cJ cB o kv kp kx kl kh ki kf kq ka kt kd kn (nI mpm) (nI mty) (nI mwi) (nI mhi) (nI mwa) (nI mle) (gI mgo) (nI mam) (bI mtm) (nI mli) (vF wd hd nb wl st sl gl aq lb sh bw bh ps) mpa (fun zz => nI (mtx zz)) (fun zz => nI (mlt zz)) (fun zz => nI (mha zz)) (fun zz => nI (mfi zz)) (fun zz => oI (mfa zz)) (fun zz => nI (mqu zz)) (fun zz => lN (mal zz)) (fun zz => nI (mta zz)) (fun zz => oI (mdi zz)) (fun zz => nI (mln zz)))) := by
  refine Met.ofW (cc := cX8_lays) (maxL := 6) (ret := (some .int)) (by decide) rfl ?_
  intro p e s m args below meth c s₁ B hml hv
  obtain ⟨rfl, hK, hN, hP, hD0⟩ := hv
  have hx := B.exec; have hb := B.bytes; have hr := B.returns; have hlocks := B.notSynchronized
  have hts0 := atoms_spec (ws := Cond.code yX8_lays cX8_lays 6 (some .int) :: lw_all) B.pre
  have hC : CallFix p m c cX8_lays 6 s _ lw_all RX8 := ⟨hx, hb, hml, findClass_of_methodNamed B.named, fun w h => hts0 w (List.mem_cons_of_mem _ h)⟩
  have hD : va_D (aW (mW cI cJ cB o kv kp kx kl kh ki kf kq ka kt kd kn (nI mpm) (nI mty) (nI mwi) (nI mhi) (nI mwa) (nI mle) (gI mgo) (nI mam) (bI mtm) (nI mli) (vF wd hd nb wl st sl gl aq lb sh bw bh ps) mpa (fun zz => nI (mtx zz)) (fun zz => nI (mlt zz)) (fun zz => nI (mha zz)) (fun zz => nI (mfi zz)) (fun zz => oI (mfa zz)) (fun zz => nI (mqu zz)) (fun zz => lN (mal zz)) (fun zz => nI (mta zz)) (fun zz => oI (mdi zz)) (fun zz => nI (mln zz)))) (mW cI cJ cB o kv kp kx kl kh ki kf kq ka kt kd kn (nI mpm) (nI mty) (nI mwi) (nI mhi) (nI mwa) (nI mle) (gI mgo) (nI mam) (bI mtm) (nI mli) (vF wd hd nb wl st sl gl aq lb sh bw bh ps) mpa (fun zz => nI (mtx zz)) (fun zz => nI (mlt zz)) (fun zz => nI (mha zz)) (fun zz => nI (mfi zz)) (fun zz => oI (mfa zz)) (fun zz => nI (mqu zz)) (fun zz => lN (mal zz)) (fun zz => nI (mta zz)) (fun zz => oI (mdi zz)) (fun zz => nI (mln zz))) := ⟨hD0.1, fun k q h => ⟨k, q.2, h⟩⟩
  generalize hAe : aW (mW cI cJ cB o kv kp kx kl kh ki kf kq ka kt kd kn (nI mpm) (nI mty) (nI mwi) (nI mhi) (nI mwa) (nI mle) (gI mgo) (nI mam) (bI mtm) (nI mli) (vF wd hd nb wl st sl gl aq lb sh bw bh ps) mpa (fun zz => nI (mtx zz)) (fun zz => nI (mlt zz)) (fun zz => nI (mha zz)) (fun zz => nI (mfi zz)) (fun zz => oI (mfa zz)) (fun zz => nI (mqu zz)) (fun zz => lN (mal zz)) (fun zz => nI (mta zz)) (fun zz => oI (mdi zz)) (fun zz => nI (mln zz))) = A at hD ⊢
  have hS : va_S A s.heap s.heap [] := va_S.rf
  have hl := lv_entry ([.ref o]) (n := 6) (Nat.le_of_ble_eq_true rfl)
  rw [lg_entry_eq]
  generalize (lg_sl ([.ref o]) ++ List.replicate (6 - (lg_sl ([.ref o])).length) Slot.unset).toArray = ls at hl ⊢
  have hl : lv_has ls 6 [(0, .ref o)] := hl
  generalize hav : ([.ref o] : List Value).toArray = args at hC ⊢
  refine W_gen (fun QQ hQ => ?_)
  show W p l e (rmN 1) s m args below meth c s.heap [] 0 0 QQ (F0 m 0 ls [])
  refine lv_aload_n hx hb dX8_lays_0 rfl (lv_at hl 0 rfl) ?_
  refine lv_iconst (v := nI 0) hx hb dX8_lays_1 (by decide) ?_
  refine pf_X8_61 hC hK hP hD hS 0 rfl (Nat.le_of_ble_eq_true rfl) (ws1 := mW cI cJ cB o kv kp kx kl kh ki kf kq ka kt kd kn (nI mpm) (nI mty) (nI 0) (nI mhi) (nI mwa) (nI mle) (gI mgo) (nI mam) (bI mtm) (nI mli) (vF wd hd nb wl st sl gl aq lb sh bw bh ps) mpa (fun zz => nI (mtx zz)) (fun zz => nI (mlt zz)) (fun zz => nI (mha zz)) (fun zz => nI (mfi zz)) (fun zz => oI (mfa zz)) (fun zz => nI (mqu zz)) (fun zz => lN (mal zz)) (fun zz => nI (mta zz)) (fun zz => oI (mdi zz)) (fun zz => nI (mln zz))) rfl dX8_lays_2 (fun H locs hP hD hS => ?_)
  refine lv_aload_n hx hb dX8_lays_5 rfl (lv_at hl 0 rfl) ?_
  refine lv_iconst (v := nI 0) hx hb dX8_lays_6 (by decide) ?_
  refine pf_X8_64 hC hK hP hD hS 0 rfl (Nat.le_of_ble_eq_true rfl) (ws1 := mW cI cJ cB o kv kp kx kl kh ki kf kq ka kt kd kn (nI mpm) (nI mty) (nI 0) (nI 0) (nI mwa) (nI mle) (gI mgo) (nI mam) (bI mtm) (nI mli) (vF wd hd nb wl st sl gl aq lb sh bw bh ps) mpa (fun zz => nI (mtx zz)) (fun zz => nI (mlt zz)) (fun zz => nI (mha zz)) (fun zz => nI (mfi zz)) (fun zz => oI (mfa zz)) (fun zz => nI (mqu zz)) (fun zz => lN (mal zz)) (fun zz => nI (mta zz)) (fun zz => oI (mdi zz)) (fun zz => nI (mln zz))) rfl dX8_lays_7 (fun H locs hP hD hS => ?_)
  refine lv_aload_n hx hb dX8_lays_10 rfl (lv_at hl 0 rfl) ?_
  refine lv_iconst (v := nI 0) hx hb dX8_lays_11 (by decide) ?_
  refine pf_X8_67 hC hK hP hD hS 0 rfl (Nat.le_of_ble_eq_true rfl) (ws1 := mW cI cJ cB o kv kp kx kl kh ki kf kq ka kt kd kn (nI mpm) (nI mty) (nI 0) (nI 0) (nI 0) (nI mle) (gI mgo) (nI mam) (bI mtm) (nI mli) (vF wd hd nb wl st sl gl aq lb sh bw bh ps) mpa (fun zz => nI (mtx zz)) (fun zz => nI (mlt zz)) (fun zz => nI (mha zz)) (fun zz => nI (mfi zz)) (fun zz => oI (mfa zz)) (fun zz => nI (mqu zz)) (fun zz => lN (mal zz)) (fun zz => nI (mta zz)) (fun zz => oI (mdi zz)) (fun zz => nI (mln zz))) rfl dX8_lays_12 (fun H locs hP hD hS => ?_)
  refine lv_aload_n hx hb dX8_lays_15 rfl (lv_at hl 0 rfl) ?_
  refine lv_iconst (v := nI 0) hx hb dX8_lays_16 (by decide) ?_
  refine pf_X8_70 hC hK hP hD hS 0 rfl (Nat.le_of_ble_eq_true rfl) (ws1 := mW cI cJ cB o kv kp kx kl kh ki kf kq ka kt kd kn (nI mpm) (nI mty) (nI 0) (nI 0) (nI 0) (nI 0) (gI mgo) (nI mam) (bI mtm) (nI mli) (vF wd hd nb wl st sl gl aq lb sh bw bh ps) mpa (fun zz => nI (mtx zz)) (fun zz => nI (mlt zz)) (fun zz => nI (mha zz)) (fun zz => nI (mfi zz)) (fun zz => oI (mfa zz)) (fun zz => nI (mqu zz)) (fun zz => lN (mal zz)) (fun zz => nI (mta zz)) (fun zz => oI (mdi zz)) (fun zz => nI (mln zz))) rfl dX8_lays_17 (fun H locs hP hD hS => ?_)
  refine lv_iconst (v := nI 0) hx hb dX8_lays_20 (by decide) ?_
  refine lv_istore_n (lv' := [(1, .int (nI 0)), (0, .ref o)]) hx hb dX8_lays_21 rfl hl (by decide) rfl (fun ls hl => ?_)
  refine lv_iconst (v := nI 0) hx hb dX8_lays_22 (by decide) ?_
  refine lv_istore_n (lv' := [(2, .int (nI 0)), (1, .int (nI 0)), (0, .ref o)]) hx hb dX8_lays_23 rfl hl (by decide) rfl (fun ls hl => ?_)
  refine lv_iconst (v := nI 0) hx hb dX8_lays_24 (by decide) ?_
  refine lv_istore_n (lv' := [(3, .int (nI 0)), (2, .int (nI 0)), (1, .int (nI 0)), (0, .ref o)]) hx hb dX8_lays_25 rfl hl (by decide) rfl (fun ls hl => ?_)
  have L26 : ∀ (n : Nat) (k : Nat) (wi : Nat) (hi : Nat) (row : Nat) (ac : Nat) (cl : Nat → Nat) (mm : Nat) (ltr : Nat → Nat) (far2 : Nat → Nat) (wa : Nat) (le : Nat) (lt8 : Nat → Nat) (ha : Nat → Nat) (fi : Nat → Nat), (k ≤ mty) → (prun mtx k = .inr (wi, hi, row, ac, cl, mm, ltr, far2)) → (MRel cl ac mm ltr far2 wa le lt8 ha fi) → (mty - k) < n → ∀ (H : Heap) (locs : List Loc), va_P D vwCl (mW cI cJ cB o kv kp kx kl kh ki kf kq ka kt kd kn (nI mpm) (nI mty) (nI wi) (nI hi) (nI wa) (nI le) (gI mgo) (nI mam) (bI mtm) (nI mli) (vF wd hd nb wl st sl gl aq lb sh bw bh ps) mpa (fun zz => nI (mtx zz)) (fun zz => nI (lt8 zz)) (fun zz => nI (ha zz)) (fun zz => nI (fi zz)) (fun zz => oI (mfa zz)) (fun zz => nI (mqu zz)) (fun zz => lN (mal zz)) (fun zz => nI (mta zz)) (fun zz => oI (mdi zz)) (fun zz => nI (mln zz))) H → va_D A (mW cI cJ cB o kv kp kx kl kh ki kf kq ka kt kd kn (nI mpm) (nI mty) (nI wi) (nI hi) (nI wa) (nI le) (gI mgo) (nI mam) (bI mtm) (nI mli) (vF wd hd nb wl st sl gl aq lb sh bw bh ps) mpa (fun zz => nI (mtx zz)) (fun zz => nI (lt8 zz)) (fun zz => nI (ha zz)) (fun zz => nI (fi zz)) (fun zz => oI (mfa zz)) (fun zz => nI (mqu zz)) (fun zz => lN (mal zz)) (fun zz => nI (mta zz)) (fun zz => oI (mdi zz)) (fun zz => nI (mln zz))) → va_S A s.heap H locs → ∀ ls : Array Slot, lv_has ls 6 [(1, .int (nI row)), (2, .int (nI ac)), (3, .int (nI k)), (0, .ref o)] → W p l e (rmN 1) s m args below meth c H locs 0 0 QQ (F0 m 26 ls []) := by
    intro n; induction n with
    | zero => intro k wi hi row ac cl mm ltr far2 wa le lt8 ha fi ik ip im hm; exact absurd hm (Nat.not_lt_zero _)
    | succ n ih26 =>
      intro k wi hi row ac cl mm ltr far2 wa le lt8 ha fi ik ip im hm26 H locs hP hD hS ls hl
      obtain ⟨p1, p2, p3, p4, p5, p6, p7, p8, p9, p10, p11⟩ := prun_inv htx _ _ _ _ _ _ _ _ _ ip
      refine lv_iload_n hx hb dX8_lays_26 rfl (lv_at hl 2 rfl) ?_
      refine lv_aload_n hx hb dX8_lays_27 rfl (lv_at hl 3 rfl) ?_
      refine gf_X8_58 hC hK hP 0 rfl rfl dX8_lays_28 ?_
      refine n_icmp_ge (a := k) (b := mty) (tgt := 187) hx hb dX8_lays_31 (by decide) (by omega) (by omega) (fun c31 => ?_) (fun c31 => ?_)
      · have _ : True := trivial
        have e31 : k = mty := by omega
        rw [e31] at ip
        refine lv_iload_n hx hb dX8_lays_187 rfl (lv_at hl 0 rfl) ?_
        refine n_if_eq (tgt := 206) hx hb dX8_lays_188 (by decide) (by omega) (fun c188 => ?_) (fun c188 => ?_)
        · have _ : True := trivial
          refine lv_aload_n hx hb dX8_lays_206 rfl (lv_at hl 3 rfl) ?_
          refine gf_X8_58 hC hK hP 0 rfl rfl dX8_lays_207 ?_
          rw [hQ]
          exact W.iret (v := nI mty) hx hb hr (fun t9 ht hW => ⟨⟨_, _, rfl, ⟨wi, hi, wa, le, lt8, ha, fi, rfl, Or.inl ⟨mty, Nat.le_refl _, by rw [lay_end ip, if_pos (Or.inl c188)], rfl, by have := im.2.1; omega⟩⟩, by rw [ht]; exact hP, rfl⟩, hS.F ht⟩) hS.2.2 dX8_lays_210
        · have _ : True := trivial
          refine lv_aload_n hx hb dX8_lays_191 rfl (lv_at hl 3 rfl) ?_
          refine gf_X8_64 hC hK hP 0 rfl rfl dX8_lays_192 ?_
          refine n_if_le (tgt := 211) hx hb dX8_lays_195 (by decide) (by omega) (fun c195 => ?_) (fun c195 => ?_)
          · have _ : True := trivial
            refine lv_aload_n hx hb dX8_lays_211 rfl (lv_at hl 3 rfl) ?_
            refine lv_iload_n hx hb dX8_lays_212 rfl (lv_at hl 0 rfl) ?_
            refine pf_X8_61 hC hK hP hD hS 0 rfl (Nat.le_of_ble_eq_true rfl) (ws1 := mW cI cJ cB o kv kp kx kl kh ki kf kq ka kt kd kn (nI mpm) (nI mty) (nI row) (nI hi) (nI wa) (nI le) (gI mgo) (nI mam) (bI mtm) (nI mli) (vF wd hd nb wl st sl gl aq lb sh bw bh ps) mpa (fun zz => nI (mtx zz)) (fun zz => nI (lt8 zz)) (fun zz => nI (ha zz)) (fun zz => nI (fi zz)) (fun zz => oI (mfa zz)) (fun zz => nI (mqu zz)) (fun zz => lN (mal zz)) (fun zz => nI (mta zz)) (fun zz => oI (mdi zz)) (fun zz => nI (mln zz))) rfl dX8_lays_213 (fun H locs hP hD hS => ?_)
            refine lv_aload_n hx hb dX8_lays_216 rfl (lv_at hl 3 rfl) ?_
            refine lv_dup hx hb dX8_lays_217 rfl ?_
            refine gf_X8_64 hC hK hP 0 rfl rfl dX8_lays_218 ?_
            refine lv_iconst (v := nI 1) hx hb dX8_lays_221 (by decide) ?_
            refine n_iadd hx hb dX8_lays_222  ?_
            refine pf_X8_64 hC hK hP hD hS 0 rfl (Nat.le_of_ble_eq_true rfl) (ws1 := mW cI cJ cB o kv kp kx kl kh ki kf kq ka kt kd kn (nI mpm) (nI mty) (nI row) (nI (hi + 1)) (nI wa) (nI le) (gI mgo) (nI mam) (bI mtm) (nI mli) (vF wd hd nb wl st sl gl aq lb sh bw bh ps) mpa (fun zz => nI (mtx zz)) (fun zz => nI (lt8 zz)) (fun zz => nI (ha zz)) (fun zz => nI (fi zz)) (fun zz => oI (mfa zz)) (fun zz => nI (mqu zz)) (fun zz => lN (mal zz)) (fun zz => nI (mta zz)) (fun zz => oI (mdi zz)) (fun zz => nI (mln zz))) rfl dX8_lays_223 (fun H locs hP hD hS => ?_)
            refine lv_iconst (v := (-1)) hx hb dX8_lays_226 (by decide) ?_
            rw [hQ]
            exact W.iret (v := (-1)) hx hb hr (fun t9 ht hW => ⟨⟨_, _, rfl, ⟨row, hi + 1, wa, le, lt8, ha, fi, rfl, Or.inr ⟨ac, cl, mm, ltr, far2, by rw [lay_end ip, if_neg (by omega)], rfl, im, by omega, by omega, by omega, by omega, by rw [Nat.add_mul, Nat.one_mul, p5]; by_cases h0 : hi = 0; (subst h0; omega); (rw [show row = wi by have := (p6 (by omega)).2; omega]), by omega, PIN_end ⟨p1, p2, p3, p4, p5, p6, p7, p8, p9, p10, p11⟩ (by omega) (by omega)⟩⟩, by rw [ht]; exact hP, rfl⟩, hS.F ht⟩) hS.2.2 dX8_lays_227
          · have _ : True := trivial
            refine lv_iload_n hx hb dX8_lays_198 rfl (lv_at hl 0 rfl) ?_
            refine lv_aload_n hx hb dX8_lays_199 rfl (lv_at hl 3 rfl) ?_
            refine gf_X8_61 hC hK hP 0 rfl rfl dX8_lays_200 ?_
            refine n_icmp_ge (a := row) (b := wi) (tgt := 211) hx hb dX8_lays_203 (by decide) (by omega) (by omega) (fun c203 => ?_) (fun c203 => ?_)
            · have _ : True := trivial
              refine lv_aload_n hx hb dX8_lays_211 rfl (lv_at hl 3 rfl) ?_
              refine lv_iload_n hx hb dX8_lays_212 rfl (lv_at hl 0 rfl) ?_
              refine pf_X8_61 hC hK hP hD hS 0 rfl (Nat.le_of_ble_eq_true rfl) (ws1 := mW cI cJ cB o kv kp kx kl kh ki kf kq ka kt kd kn (nI mpm) (nI mty) (nI row) (nI hi) (nI wa) (nI le) (gI mgo) (nI mam) (bI mtm) (nI mli) (vF wd hd nb wl st sl gl aq lb sh bw bh ps) mpa (fun zz => nI (mtx zz)) (fun zz => nI (lt8 zz)) (fun zz => nI (ha zz)) (fun zz => nI (fi zz)) (fun zz => oI (mfa zz)) (fun zz => nI (mqu zz)) (fun zz => lN (mal zz)) (fun zz => nI (mta zz)) (fun zz => oI (mdi zz)) (fun zz => nI (mln zz))) rfl dX8_lays_213 (fun H locs hP hD hS => ?_)
              refine lv_aload_n hx hb dX8_lays_216 rfl (lv_at hl 3 rfl) ?_
              refine lv_dup hx hb dX8_lays_217 rfl ?_
              refine gf_X8_64 hC hK hP 0 rfl rfl dX8_lays_218 ?_
              refine lv_iconst (v := nI 1) hx hb dX8_lays_221 (by decide) ?_
              refine n_iadd hx hb dX8_lays_222  ?_
              refine pf_X8_64 hC hK hP hD hS 0 rfl (Nat.le_of_ble_eq_true rfl) (ws1 := mW cI cJ cB o kv kp kx kl kh ki kf kq ka kt kd kn (nI mpm) (nI mty) (nI row) (nI (hi + 1)) (nI wa) (nI le) (gI mgo) (nI mam) (bI mtm) (nI mli) (vF wd hd nb wl st sl gl aq lb sh bw bh ps) mpa (fun zz => nI (mtx zz)) (fun zz => nI (lt8 zz)) (fun zz => nI (ha zz)) (fun zz => nI (fi zz)) (fun zz => oI (mfa zz)) (fun zz => nI (mqu zz)) (fun zz => lN (mal zz)) (fun zz => nI (mta zz)) (fun zz => oI (mdi zz)) (fun zz => nI (mln zz))) rfl dX8_lays_223 (fun H locs hP hD hS => ?_)
              refine lv_iconst (v := (-1)) hx hb dX8_lays_226 (by decide) ?_
              rw [hQ]
              exact W.iret (v := (-1)) hx hb hr (fun t9 ht hW => ⟨⟨_, _, rfl, ⟨row, hi + 1, wa, le, lt8, ha, fi, rfl, Or.inr ⟨ac, cl, mm, ltr, far2, by rw [lay_end ip, if_neg (by omega)], rfl, im, by omega, by omega, by omega, by omega, by rw [Nat.add_mul, Nat.one_mul, p5]; by_cases h0 : hi = 0; (subst h0; omega); (rw [show row = wi by have := (p6 (by omega)).2; omega]), by omega, PIN_end ⟨p1, p2, p3, p4, p5, p6, p7, p8, p9, p10, p11⟩ (by omega) (by omega)⟩⟩, by rw [ht]; exact hP, rfl⟩, hS.F ht⟩) hS.2.2 dX8_lays_227
            · have _ : True := trivial
              refine lv_aload_n hx hb dX8_lays_206 rfl (lv_at hl 3 rfl) ?_
              refine gf_X8_58 hC hK hP 0 rfl rfl dX8_lays_207 ?_
              rw [hQ]
              exact W.iret (v := nI mty) hx hb hr (fun t9 ht hW => ⟨⟨_, _, rfl, ⟨wi, hi, wa, le, lt8, ha, fi, rfl, Or.inl ⟨mty, Nat.le_refl _, by rw [lay_end ip, if_pos (Or.inr ⟨c195, c203⟩)], rfl, by have := im.2.1; omega⟩⟩, by rw [ht]; exact hP, rfl⟩, hS.F ht⟩) hS.2.2 dX8_lays_210
      · have _ : True := trivial
        obtain ⟨c9, hc9⟩ : ∃ x, x = mtx k := ⟨_, rfl⟩
        refine lv_aload_n hx hb dX8_lays_34 rfl (lv_at hl 3 rfl) ?_
        refine gf_X8_16 hC hK hP 0 rfl rfl dX8_lays_35 ?_
        refine lv_iload_n hx hb dX8_lays_38 rfl (lv_at hl 2 rfl) ?_
        refine n_iald hx hb hK hP 3 0 rfl rfl (by omega) (by decide) dX8_lays_39 ?_
        refine topi (y := nI c9) (by rw [hc9]) ?_
        refine lv_istore (lv' := [(4, .int (nI c9)), (1, .int (nI row)), (2, .int (nI ac)), (3, .int (nI k)), (0, .ref o)]) hx hb dX8_lays_40 hl (by decide) rfl (fun ls hl => ?_)
        have hc20 : c9 < 2 ^ 20 := by rw [hc9]; exact htx k
        refine lv_iload hx hb dX8_lays_42 (lv_at hl 0 rfl) ?_
        refine lv_bipush (v := nI 47) hx hb dX8_lays_44 (by decide) ?_
        refine n_icmp_ne (a := c9) (b := 47) (tgt := 98) hx hb dX8_lays_46 (by decide) (by omega) (by omega) (fun c46 => ?_) (fun c46 => ?_)
        · have _ : True := trivial
          have L124 : ∀ (_ : True) , (c9 = 46 ∨ c9 = 35 ∨ (97 ≤ c9 ∧ c9 ≤ 122)) → ∀ (H : Heap) (locs : List Loc), va_P D vwCl (mW cI cJ cB o kv kp kx kl kh ki kf kq ka kt kd kn (nI mpm) (nI mty) (nI wi) (nI hi) (nI wa) (nI le) (gI mgo) (nI mam) (bI mtm) (nI mli) (vF wd hd nb wl st sl gl aq lb sh bw bh ps) mpa (fun zz => nI (mtx zz)) (fun zz => nI (lt8 zz)) (fun zz => nI (ha zz)) (fun zz => nI (fi zz)) (fun zz => oI (mfa zz)) (fun zz => nI (mqu zz)) (fun zz => lN (mal zz)) (fun zz => nI (mta zz)) (fun zz => oI (mdi zz)) (fun zz => nI (mln zz))) H → va_D A (mW cI cJ cB o kv kp kx kl kh ki kf kq ka kt kd kn (nI mpm) (nI mty) (nI wi) (nI hi) (nI wa) (nI le) (gI mgo) (nI mam) (bI mtm) (nI mli) (vF wd hd nb wl st sl gl aq lb sh bw bh ps) mpa (fun zz => nI (mtx zz)) (fun zz => nI (lt8 zz)) (fun zz => nI (ha zz)) (fun zz => nI (fi zz)) (fun zz => oI (mfa zz)) (fun zz => nI (mqu zz)) (fun zz => lN (mal zz)) (fun zz => nI (mta zz)) (fun zz => oI (mdi zz)) (fun zz => nI (mln zz))) → va_S A s.heap H locs → ∀ ls : Array Slot, lv_has ls 6 [(4, .int (nI c9)), (1, .int (nI row)), (2, .int (nI ac)), (3, .int (nI k)), (0, .ref o)] → W p l e (rmN 1) s m args below meth c H locs 0 0 QQ (F0 m 124 ls []) := by
            intro _ ich H locs hP hD hS ls hl
            refine lv_iconst (v := nI 1) hx hb dX8_lays_124 (by decide) ?_
            refine lv_goto (tgt := 129) hx hb dX8_lays_125 (by decide) ?_
            refine lv_istore (lv' := [(5, .int (nI 1)), (4, .int (nI c9)), (1, .int (nI row)), (2, .int (nI ac)), (3, .int (nI k)), (0, .ref o)]) hx hb dX8_lays_129 hl (by decide) rfl (fun ls hl => ?_)
            refine lv_iload hx hb dX8_lays_131 (lv_at hl 0 rfl) ?_
            refine n_if_eq (a := 1) (tgt := 173) hx hb dX8_lays_133 (by decide) (by decide) (fun h => absurd h (by decide)) (fun _ => ?_)
            have L153 : ∀ (_ : True) , ∀ (H : Heap) (locs : List Loc), va_P D vwCl (mW cI cJ cB o kv kp kx kl kh ki kf kq ka kt kd kn (nI mpm) (nI mty) (nI wi) (nI hi) (nI wa) (nI le) (gI mgo) (nI mam) (bI mtm) (nI mli) (vF wd hd nb wl st sl gl aq lb sh bw bh ps) mpa (fun zz => nI (mtx zz)) (fun zz => nI (lt8 zz)) (fun zz => nI (ha zz)) (fun zz => nI (fi zz)) (fun zz => oI (mfa zz)) (fun zz => nI (mqu zz)) (fun zz => lN (mal zz)) (fun zz => nI (mta zz)) (fun zz => oI (mdi zz)) (fun zz => nI (mln zz))) H → va_D A (mW cI cJ cB o kv kp kx kl kh ki kf kq ka kt kd kn (nI mpm) (nI mty) (nI wi) (nI hi) (nI wa) (nI le) (gI mgo) (nI mam) (bI mtm) (nI mli) (vF wd hd nb wl st sl gl aq lb sh bw bh ps) mpa (fun zz => nI (mtx zz)) (fun zz => nI (lt8 zz)) (fun zz => nI (ha zz)) (fun zz => nI (fi zz)) (fun zz => oI (mfa zz)) (fun zz => nI (mqu zz)) (fun zz => lN (mal zz)) (fun zz => nI (mta zz)) (fun zz => oI (mdi zz)) (fun zz => nI (mln zz))) → va_S A s.heap H locs → ∀ ls : Array Slot, lv_has ls 6 [(5, .int (nI 1)), (4, .int (nI c9)), (1, .int (nI row)), (2, .int (nI ac)), (3, .int (nI k)), (0, .ref o)] → W p l e (rmN 1) s m args below meth c H locs 0 0 QQ (F0 m 153 ls [.int (nI (if hi = 0 then 6 else wi)), .int (nI row)]) := by
              intro _  H locs hP hD hS ls hl
              refine n_icmp_eq (a := row) (b := (if hi = 0 then 6 else wi)) (tgt := 173) hx hb dX8_lays_153 (by decide) (by omega) (by split <;> omega) (fun c153 => ?_) (fun c153 => ?_)
              · have _ : True := trivial
                refine lv_iload_n hx hb dX8_lays_173 rfl (lv_at hl 4 rfl) ?_
                rw [hQ]
                exact W.iret (v := nI k) hx hb hr (fun t9 ht hW => ⟨⟨_, _, rfl, ⟨wi, hi, wa, le, lt8, ha, fi, rfl, Or.inl ⟨k, by omega, lay_bad (prun_n ip (by rw [← hc9]; exact pst_no c46 (Or.inr (Or.inl c153))) mty (by omega)), rfl, by first | omega | (have := im.2.1; omega)⟩⟩, by rw [ht]; exact hP, rfl⟩, hS.F ht⟩) hS.2.2 dX8_lays_174
              · have _ : True := trivial
                refine lv_iload_n hx hb dX8_lays_156 rfl (lv_at hl 3 rfl) ?_
                refine lv_bipush (v := nI 24) hx hb dX8_lays_157 (by decide) ?_
                refine n_icmp_eq (a := ac) (b := 24) (tgt := 173) hx hb dX8_lays_159 (by decide) (by omega) (by omega) (fun c159 => ?_) (fun c159 => ?_)
                · have _ : True := trivial
                  refine lv_iload_n hx hb dX8_lays_173 rfl (lv_at hl 4 rfl) ?_
                  rw [hQ]
                  exact W.iret (v := nI k) hx hb hr (fun t9 ht hW => ⟨⟨_, _, rfl, ⟨wi, hi, wa, le, lt8, ha, fi, rfl, Or.inl ⟨k, by omega, lay_bad (prun_n ip (by rw [← hc9]; exact pst_no c46 (Or.inr (Or.inr c159))) mty (by omega)), rfl, by first | omega | (have := im.2.1; omega)⟩⟩, by rw [ht]; exact hP, rfl⟩, hS.F ht⟩) hS.2.2 dX8_lays_174
                · have _ : True := trivial
                  refine lv_aload_n hx hb dX8_lays_162 rfl (lv_at hl 5 rfl) ?_
                  refine lv_iload hx hb dX8_lays_163 (lv_at hl 1 rfl) ?_
                  refine lv_iload_n hx hb dX8_lays_165 rfl (lv_at hl 3 rfl) ?_
                  refine lv_iload_n hx hb dX8_lays_166 rfl (lv_at hl 4 rfl) ?_
                  refine callV_i (As := [.int (nI c9), .int (nI ac), .int (nI k)]) (rest := []) [0, 1, 2, 3, 4, 5, 6, 7, 8, 9, 10, 11, 12] hC hK hN hP hD rfl (by decide) hS 0 (ci := 8) rfl rfl rfl (c_X8_places l D cI cJ cB o kv kp kx kl kh ki kf kq ka kt kd kn mpm mty wi hi wa le mam mli mgo mtm mpa mtx lt8 ha fi mqu mta mln mal mfa mdi wd hd nb wl st sl gl aq lb sh bw bh ps cl ac mm ltr far2 c9 k im (by omega) hc20 (by omega) p9) q769 md_X8_places rfl hl.1 rfl (Nat.le_of_ble_eq_true rfl) dX8_lays_167 ⟨Nat.le_of_ble_eq_true rfl, Nat.le_of_ble_eq_true rfl⟩ ⟨Nat.le_of_ble_eq_true rfl, Nat.le_of_ble_eq_true rfl⟩ (fun r_167 w H locs hpost hP hD hS => ?_)
                  obtain ⟨wa2_167, le2_167, lt9_167, ha2_167, fi2_167, rfl, rfl, hpl, hpl2⟩ := hpost
                  have hP : va_P D vwCl (mW cI cJ cB o kv kp kx kl kh ki kf kq ka kt kd kn (nI mpm) (nI mty) (nI wi) (nI hi) (nI wa2_167) (nI le2_167) (gI mgo) (nI mam) (bI mtm) (nI mli) (vF wd hd nb wl st sl gl aq lb sh bw bh ps) mpa (fun zz => nI (mtx zz)) (fun zz => nI (lt9_167 zz)) (fun zz => nI (ha2_167 zz)) (fun zz => nI (fi2_167 zz)) (fun zz => oI (mfa zz)) (fun zz => nI (mqu zz)) (fun zz => lN (mal zz)) (fun zz => nI (mta zz)) (fun zz => oI (mdi zz)) (fun zz => nI (mln zz))) H := hP
                  have hD : va_D A (mW cI cJ cB o kv kp kx kl kh ki kf kq ka kt kd kn (nI mpm) (nI mty) (nI wi) (nI hi) (nI wa2_167) (nI le2_167) (gI mgo) (nI mam) (bI mtm) (nI mli) (vF wd hd nb wl st sl gl aq lb sh bw bh ps) mpa (fun zz => nI (mtx zz)) (fun zz => nI (lt9_167 zz)) (fun zz => nI (ha2_167 zz)) (fun zz => nI (fi2_167 zz)) (fun zz => oI (mfa zz)) (fun zz => nI (mqu zz)) (fun zz => lN (mal zz)) (fun zz => nI (mta zz)) (fun zz => oI (mdi zz)) (fun zz => nI (mln zz))) := hD
                  refine b_if_ne (tgt := 175) hx hb dX8_lays_170 (by decide) (fun c170 => ?_) (fun c170 => ?_)
                  · have _ : True := trivial
                    obtain ⟨v, hv9⟩ : ∃ v, cv ltr mm c9 = some v := by cases h9 : cv ltr mm c9 with | none => rw [h9] at c170; cases c170 | some v => exact ⟨v, rfl⟩
                    refine lv_iinc (v := nI (row + 1)) (lv' := [(1, .int (nI (row + 1))), (5, .int (nI 1)), (4, .int (nI c9)), (2, .int (nI ac)), (3, .int (nI k)), (0, .ref o)]) hx hb dX8_lays_175 hl (k := 2) rfl (nI_1 _) (by decide) rfl (fun ls hl => ?_)
                    refine lv_iinc (v := nI (ac + 1)) (lv' := [(2, .int (nI (ac + 1))), (1, .int (nI (row + 1))), (5, .int (nI 1)), (4, .int (nI c9)), (3, .int (nI k)), (0, .ref o)]) hx hb dX8_lays_178 hl (k := 3) rfl (nI_1 _) (by decide) rfl (fun ls hl => ?_)
                    refine lv_iinc (v := nI (k + 1)) (lv' := [(3, .int (nI (k + 1))), (2, .int (nI (ac + 1))), (1, .int (nI (row + 1))), (5, .int (nI 1)), (4, .int (nI c9)), (0, .ref o)]) hx hb dX8_lays_181 hl (k := 4) rfl (nI_1 _) (by decide) rfl (fun ls hl => ?_)
                    refine lv_goto (tgt := 26) hx hb dX8_lays_184 (by decide) ?_
                    exact ih26 (k + 1) wi hi (row + 1) (ac + 1) (va_up cl ac v) (m2 ltr mm c9) (lt2 ltr mm c9) (fa2 ltr mm c9 far2 k) wa2_167 le2_167 lt9_167 ha2_167 fi2_167 (by omega) (prun_s ip (by rw [← hc9]; exact pst_ok c46 ich c153 c159 hv9)) (hpl v hv9) (by omega) _ _ hP hD hS _ (lv_sub hl [2, 1, 0, 5] rfl)
                  · have _ : True := trivial
                    refine lv_iload_n hx hb dX8_lays_173 rfl (lv_at hl 4 rfl) ?_
                    rw [hQ]
                    exact W.iret (v := nI k) hx hb hr (fun t9 ht hW => ⟨⟨_, _, rfl, ⟨wi, hi, wa2_167, le2_167, lt9_167, ha2_167, fi2_167, rfl, Or.inl ⟨k, by omega, lay_bad (prun_n ip (by rw [← hc9]; exact pst_no2 c46 (by cases h9 : cv ltr mm c9 with | none => rfl | some v => rw [h9] at c170; cases c170)) mty (by omega)), rfl, by first | omega | (have := im.2.1; omega)⟩⟩, by rw [ht]; exact hP, rfl⟩, hS.F ht⟩) hS.2.2 dX8_lays_174
            refine lv_iload_n hx hb dX8_lays_136 rfl (lv_at hl 2 rfl) ?_
            refine lv_aload_n hx hb dX8_lays_137 rfl (lv_at hl 5 rfl) ?_
            refine gf_X8_64 hC hK hP 0 rfl rfl dX8_lays_138 ?_
            refine n_if_ne (tgt := 149) hx hb dX8_lays_141 (by decide) (by omega) (fun c141 => ?_) (fun c141 => ?_)
            · have _ : True := trivial
              refine lv_aload_n hx hb dX8_lays_149 rfl (lv_at hl 5 rfl) ?_
              refine gf_X8_61 hC hK hP 0 rfl rfl dX8_lays_150 ?_
              refine topi (y := nI (if hi = 0 then 6 else wi)) (by rw [if_neg (by omega)]) ?_
              exact L153 trivial   _ _ hP hD hS _ (lv_sub hl [0, 1, 2, 3, 4, 5] rfl)
            · have _ : True := trivial
              refine lv_bipush (v := nI 6) hx hb dX8_lays_144 (by decide) ?_
              refine topi (y := nI (if hi = 0 then 6 else wi)) (by rw [if_pos c141]) ?_
              refine lv_goto (tgt := 153) hx hb dX8_lays_146 (by decide) ?_
              exact L153 trivial   _ _ hP hD hS _ (lv_sub hl [0, 1, 2, 3, 4, 5] rfl)
          refine lv_iload hx hb dX8_lays_98 (lv_at hl 0 rfl) ?_
          refine lv_bipush (v := nI 46) hx hb dX8_lays_100 (by decide) ?_
          refine n_icmp_eq (a := c9) (b := 46) (tgt := 124) hx hb dX8_lays_102 (by decide) (by omega) (by omega) (fun c102 => ?_) (fun c102 => ?_)
          · have _ : True := trivial
            exact L124 trivial (Or.inl c102)  _ _ hP hD hS _ (lv_sub hl [0, 1, 2, 3, 4] rfl)
          · have _ : True := trivial
            refine lv_iload hx hb dX8_lays_105 (lv_at hl 0 rfl) ?_
            refine lv_bipush (v := nI 35) hx hb dX8_lays_107 (by decide) ?_
            refine n_icmp_eq (a := c9) (b := 35) (tgt := 124) hx hb dX8_lays_109 (by decide) (by omega) (by omega) (fun c109 => ?_) (fun c109 => ?_)
            · have _ : True := trivial
              exact L124 trivial (Or.inr (Or.inl c109))  _ _ hP hD hS _ (lv_sub hl [0, 1, 2, 3, 4] rfl)
            · have _ : True := trivial
              refine lv_iload hx hb dX8_lays_112 (lv_at hl 0 rfl) ?_
              refine lv_bipush (v := nI 97) hx hb dX8_lays_114 (by decide) ?_
              refine lv_bipush (v := nI 122) hx hb dX8_lays_116 (by decide) ?_
              refine callS_i (As := [.int (nI c9), .int (nI 97), .int (nI 122)]) (rest := []) [] hC hK hN hP hD rfl (by decide) hS (c_X8_in l D cI cJ cB (nI c9) (nI 97) (nI 122) ) q750 md_X8_in rfl hl.1 rfl (Nat.le_of_ble_eq_true rfl) dX8_lays_118 ⟨Nat.le_of_ble_eq_true rfl, Nat.le_of_ble_eq_true rfl⟩ ⟨Nat.le_of_ble_eq_true rfl, Nat.le_of_ble_eq_true rfl⟩ (fun r_118 w H locs hpost hP hD hS => ?_)
              obtain ⟨rfl, rfl⟩ := hpost
              have hP : va_P D vwCl (mW cI cJ cB o kv kp kx kl kh ki kf kq ka kt kd kn (nI mpm) (nI mty) (nI wi) (nI hi) (nI wa) (nI le) (gI mgo) (nI mam) (bI mtm) (nI mli) (vF wd hd nb wl st sl gl aq lb sh bw bh ps) mpa (fun zz => nI (mtx zz)) (fun zz => nI (lt8 zz)) (fun zz => nI (ha zz)) (fun zz => nI (fi zz)) (fun zz => oI (mfa zz)) (fun zz => nI (mqu zz)) (fun zz => lN (mal zz)) (fun zz => nI (mta zz)) (fun zz => oI (mdi zz)) (fun zz => nI (mln zz))) H := hP
              have hD : va_D A (mW cI cJ cB o kv kp kx kl kh ki kf kq ka kt kd kn (nI mpm) (nI mty) (nI wi) (nI hi) (nI wa) (nI le) (gI mgo) (nI mam) (bI mtm) (nI mli) (vF wd hd nb wl st sl gl aq lb sh bw bh ps) mpa (fun zz => nI (mtx zz)) (fun zz => nI (lt8 zz)) (fun zz => nI (ha zz)) (fun zz => nI (fi zz)) (fun zz => oI (mfa zz)) (fun zz => nI (mqu zz)) (fun zz => lN (mal zz)) (fun zz => nI (mta zz)) (fun zz => oI (mdi zz)) (fun zz => nI (mln zz))) := hD
              refine b_if_eq (tgt := 128) hx hb dX8_lays_121 (by decide) (fun c121 => ?_) (fun c121 => ?_)
              · have _ : True := trivial
                have hni : ¬ (97 ≤ c9 ∧ c9 ≤ 122) := fun h => by rw [(dec_in (by omega) (by decide) (by decide)).mpr h] at c121; cases c121
                refine lv_iconst (v := nI 0) hx hb dX8_lays_128 (by decide) ?_
                refine lv_istore (lv' := [(5, .int (nI 0)), (4, .int (nI c9)), (1, .int (nI row)), (2, .int (nI ac)), (3, .int (nI k)), (0, .ref o)]) hx hb dX8_lays_129 hl (by decide) rfl (fun ls hl => ?_)
                refine lv_iload hx hb dX8_lays_131 (lv_at hl 0 rfl) ?_
                refine n_if_eq (a := 0) (tgt := 173) hx hb dX8_lays_133 (by decide) (by decide) (fun _ => ?_) (fun h => absurd h (by decide))
                refine lv_iload_n hx hb dX8_lays_173 rfl (lv_at hl 4 rfl) ?_
                rw [hQ]
                exact W.iret (v := nI k) hx hb hr (fun t9 ht hW => ⟨⟨_, _, rfl, ⟨wi, hi, wa, le, lt8, ha, fi, rfl, Or.inl ⟨k, by omega, lay_bad (prun_n ip (by rw [← hc9]; exact pst_no c46 (Or.inl (by omega))) mty (by omega)), rfl, by first | omega | (have := im.2.1; omega)⟩⟩, by rw [ht]; exact hP, rfl⟩, hS.F ht⟩) hS.2.2 dX8_lays_174
              · have _ : True := trivial
                exact L124 trivial (Or.inr (Or.inr ((dec_in (by omega) (by decide) (by decide)).mp c121)))  _ _ hP hD hS _ (lv_sub hl [0, 1, 2, 3, 4] rfl)
        · have _ : True := trivial
          refine lv_iload_n hx hb dX8_lays_49 rfl (lv_at hl 1 rfl) ?_
          refine n_if_eq (tgt := 76) hx hb dX8_lays_50 (by decide) (by omega) (fun c50 => ?_) (fun c50 => ?_)
          · have _ : True := trivial
            refine lv_iload_n hx hb dX8_lays_76 rfl (lv_at hl 3 rfl) ?_
            rw [hQ]
            exact W.iret (v := nI k) hx hb hr (fun t9 ht hW => ⟨⟨_, _, rfl, ⟨wi, hi, wa, le, lt8, ha, fi, rfl, Or.inl ⟨k, by omega, lay_bad (prun_n ip (by rw [← hc9]; exact pst_bar_no c46 (Or.inl c50)) mty (by omega)), rfl, by first | omega | (have := im.2.1; omega)⟩⟩, by rw [ht]; exact hP, rfl⟩, hS.F ht⟩) hS.2.2 dX8_lays_77
          · have _ : True := trivial
            have L68 : ∀ (_ : True) , (0 < row) → (hi = 0 ∨ wi ≤ row) → ∀ (H : Heap) (locs : List Loc), va_P D vwCl (mW cI cJ cB o kv kp kx kl kh ki kf kq ka kt kd kn (nI mpm) (nI mty) (nI wi) (nI hi) (nI wa) (nI le) (gI mgo) (nI mam) (bI mtm) (nI mli) (vF wd hd nb wl st sl gl aq lb sh bw bh ps) mpa (fun zz => nI (mtx zz)) (fun zz => nI (lt8 zz)) (fun zz => nI (ha zz)) (fun zz => nI (fi zz)) (fun zz => oI (mfa zz)) (fun zz => nI (mqu zz)) (fun zz => lN (mal zz)) (fun zz => nI (mta zz)) (fun zz => oI (mdi zz)) (fun zz => nI (mln zz))) H → va_D A (mW cI cJ cB o kv kp kx kl kh ki kf kq ka kt kd kn (nI mpm) (nI mty) (nI wi) (nI hi) (nI wa) (nI le) (gI mgo) (nI mam) (bI mtm) (nI mli) (vF wd hd nb wl st sl gl aq lb sh bw bh ps) mpa (fun zz => nI (mtx zz)) (fun zz => nI (lt8 zz)) (fun zz => nI (ha zz)) (fun zz => nI (fi zz)) (fun zz => oI (mfa zz)) (fun zz => nI (mqu zz)) (fun zz => lN (mal zz)) (fun zz => nI (mta zz)) (fun zz => oI (mdi zz)) (fun zz => nI (mln zz))) → va_S A s.heap H locs → ∀ ls : Array Slot, lv_has ls 6 [(4, .int (nI c9)), (1, .int (nI row)), (2, .int (nI ac)), (3, .int (nI k)), (0, .ref o)] → W p l e (rmN 1) s m args below meth c H locs 0 0 QQ (F0 m 68 ls []) := by
              intro _ ibr ibw H locs hP hD hS ls hl
              refine lv_aload_n hx hb dX8_lays_68 rfl (lv_at hl 4 rfl) ?_
              refine gf_X8_64 hC hK hP 0 rfl rfl dX8_lays_69 ?_
              refine lv_iconst (v := nI 5) hx hb dX8_lays_72 (by decide) ?_
              refine n_icmp_ne (a := hi) (b := 5) (tgt := 78) hx hb dX8_lays_73 (by decide) (by omega) (by omega) (fun c73 => ?_) (fun c73 => ?_)
              · have _ : True := trivial
                refine lv_aload_n hx hb dX8_lays_78 rfl (lv_at hl 4 rfl) ?_
                refine lv_iload_n hx hb dX8_lays_79 rfl (lv_at hl 1 rfl) ?_
                refine pf_X8_61 hC hK hP hD hS 0 rfl (Nat.le_of_ble_eq_true rfl) (ws1 := mW cI cJ cB o kv kp kx kl kh ki kf kq ka kt kd kn (nI mpm) (nI mty) (nI row) (nI hi) (nI wa) (nI le) (gI mgo) (nI mam) (bI mtm) (nI mli) (vF wd hd nb wl st sl gl aq lb sh bw bh ps) mpa (fun zz => nI (mtx zz)) (fun zz => nI (lt8 zz)) (fun zz => nI (ha zz)) (fun zz => nI (fi zz)) (fun zz => oI (mfa zz)) (fun zz => nI (mqu zz)) (fun zz => lN (mal zz)) (fun zz => nI (mta zz)) (fun zz => oI (mdi zz)) (fun zz => nI (mln zz))) rfl dX8_lays_80 (fun H locs hP hD hS => ?_)
                refine lv_aload_n hx hb dX8_lays_83 rfl (lv_at hl 4 rfl) ?_
                refine lv_dup hx hb dX8_lays_84 rfl ?_
                refine gf_X8_64 hC hK hP 0 rfl rfl dX8_lays_85 ?_
                refine lv_iconst (v := nI 1) hx hb dX8_lays_88 (by decide) ?_
                refine n_iadd hx hb dX8_lays_89  ?_
                refine pf_X8_64 hC hK hP hD hS 0 rfl (Nat.le_of_ble_eq_true rfl) (ws1 := mW cI cJ cB o kv kp kx kl kh ki kf kq ka kt kd kn (nI mpm) (nI mty) (nI row) (nI (hi + 1)) (nI wa) (nI le) (gI mgo) (nI mam) (bI mtm) (nI mli) (vF wd hd nb wl st sl gl aq lb sh bw bh ps) mpa (fun zz => nI (mtx zz)) (fun zz => nI (lt8 zz)) (fun zz => nI (ha zz)) (fun zz => nI (fi zz)) (fun zz => oI (mfa zz)) (fun zz => nI (mqu zz)) (fun zz => lN (mal zz)) (fun zz => nI (mta zz)) (fun zz => oI (mdi zz)) (fun zz => nI (mln zz))) rfl dX8_lays_90 (fun H locs hP hD hS => ?_)
                refine lv_iconst (v := nI 0) hx hb dX8_lays_93 (by decide) ?_
                refine lv_istore_n (lv' := [(1, .int (nI 0)), (4, .int (nI c9)), (2, .int (nI ac)), (3, .int (nI k)), (0, .ref o)]) hx hb dX8_lays_94 rfl hl (by decide) rfl (fun ls hl => ?_)
                refine lv_goto (tgt := 181) hx hb dX8_lays_95 (by decide) ?_
                refine lv_iinc (v := nI (k + 1)) (lv' := [(3, .int (nI (k + 1))), (1, .int (nI 0)), (4, .int (nI c9)), (2, .int (nI ac)), (0, .ref o)]) hx hb dX8_lays_181 hl (k := 3) rfl (nI_1 _) (by decide) rfl (fun ls hl => ?_)
                refine lv_goto (tgt := 26) hx hb dX8_lays_184 (by decide) ?_
                exact ih26 (k + 1) row (hi + 1) 0 ac cl mm ltr far2 wa le lt8 ha fi (by omega) (prun_s ip (by rw [← hc9]; exact pst_bar_ok c46 ibr ibw c73)) im (by omega) _ _ hP hD hS _ (lv_sub hl [1, 3, 0, 4] rfl)
              · have _ : True := trivial
                refine lv_iload_n hx hb dX8_lays_76 rfl (lv_at hl 3 rfl) ?_
                rw [hQ]
                exact W.iret (v := nI k) hx hb hr (fun t9 ht hW => ⟨⟨_, _, rfl, ⟨wi, hi, wa, le, lt8, ha, fi, rfl, Or.inl ⟨k, by omega, lay_bad (prun_n ip (by rw [← hc9]; exact pst_bar_no c46 (Or.inr (Or.inr c73))) mty (by omega)), rfl, by first | omega | (have := im.2.1; omega)⟩⟩, by rw [ht]; exact hP, rfl⟩, hS.F ht⟩) hS.2.2 dX8_lays_77
            refine lv_aload_n hx hb dX8_lays_53 rfl (lv_at hl 4 rfl) ?_
            refine gf_X8_64 hC hK hP 0 rfl rfl dX8_lays_54 ?_
            refine n_if_le (tgt := 68) hx hb dX8_lays_57 (by decide) (by omega) (fun c57 => ?_) (fun c57 => ?_)
            · have _ : True := trivial
              exact L68 trivial c50 (Or.inl c57)  _ _ hP hD hS _ (lv_sub hl [0, 1, 2, 3, 4] rfl)
            · have _ : True := trivial
              refine lv_iload_n hx hb dX8_lays_60 rfl (lv_at hl 1 rfl) ?_
              refine lv_aload_n hx hb dX8_lays_61 rfl (lv_at hl 4 rfl) ?_
              refine gf_X8_61 hC hK hP 0 rfl rfl dX8_lays_62 ?_
              refine n_icmp_lt (a := row) (b := wi) (tgt := 76) hx hb dX8_lays_65 (by decide) (by omega) (by omega) (fun c65 => ?_) (fun c65 => ?_)
              · have _ : True := trivial
                refine lv_iload_n hx hb dX8_lays_76 rfl (lv_at hl 3 rfl) ?_
                rw [hQ]
                exact W.iret (v := nI k) hx hb hr (fun t9 ht hW => ⟨⟨_, _, rfl, ⟨wi, hi, wa, le, lt8, ha, fi, rfl, Or.inl ⟨k, by omega, lay_bad (prun_n ip (by rw [← hc9]; exact pst_bar_no c46 (Or.inr (Or.inl ⟨c57, c65⟩))) mty (by omega)), rfl, by first | omega | (have := im.2.1; omega)⟩⟩, by rw [ht]; exact hP, rfl⟩, hS.F ht⟩) hS.2.2 dX8_lays_77
              · have _ : True := trivial
                exact L68 trivial c50 (Or.inr c65)  _ _ hP hD hS _ (lv_sub hl [0, 1, 2, 3, 4] rfl)
  exact L26 _ 0 0 0 0 0 (fun _ => 0) 0 (fun _ => 0) (fun _ => 0) 0 0 mlt mha mfi (by omega) rfl ⟨rfl, rfl, by omega, fun i h => absurd h (Nat.not_lt_zero i), fun b h => absurd h (Nat.not_lt_zero b)⟩ (Nat.lt_succ_self _) _ _ hP hD hS _ (lv_sub hl [2, 1, 0, 3] rfl)
