set_option maxHeartbeats 400000 in
set_option maxRecDepth 100000 in
theorem c_X8_places (l : Launch) (D : va_G) (cI cJ cB : ClassId) (o kv kp kx kl kh ki kf kq ka kt kd kn mpm mty mwi mhi mwa mle mam mli : Nat) (mgo : Option Nat) (mtm : Bool) (mpa : Nat → Int32) (mtx mlt mha mfi mqu mta mln mal : Nat → Nat) (mfa mdi : Nat → Option Nat) (wd hd nb wl : Nat) (st sl : Int32) (gl aq lb : Option Nat) (sh bw bh ps : Nat → Nat) (cl : Nat → Nat) (ac mm : Nat) (ltr far2 : Nat → Nat) (cc9 kk9 : Nat) (hm : MRel cl ac mm ltr far2 mwa mle mlt mha mfi) (hac : ac < 24) (hcc : cc9 < 2 ^ 20) (hkk : kk9 < 2 ^ 20) (hltb : ∀ b, b < mm → ltr b < 2 ^ 20) : Met l yX8_places (Cond.code yX8_places cX8_places 5 (some .boolean) :: lw_all) (rmN 0) (va_Pc [.ref o, .int (nI cc9), .int (nI ac), .int (nI kk9)] (pB D (tyz cI cJ cB) (mW cI cJ cB o kv kp kx kl kh ki kf kq ka kt kd kn (nI mpm) (nI mty) (nI mwi) (nI mhi) (nI mwa) (nI mle) (gI mgo) (nI mam) (bI mtm) (nI mli) (vF wd hd nb wl st sl gl aq lb sh bw bh ps) mpa (fun zz => nI (mtx zz)) (fun zz => nI (mlt zz)) (fun zz => nI (mha zz)) (fun zz => nI (mfi zz)) (fun zz => oI (mfa zz)) (fun zz => nI (mqu zz)) (fun zz => lN (mal zz)) (fun zz => nI (mta zz)) (fun zz => oI (mdi zz)) (fun zz => nI (mln zz))))) (va_Qi (fun (r : Int32) (w : va_W) => ∃ wa2 : Nat, ∃ le2 : Nat, ∃ lt9 : Nat → Nat, ∃ ha2 : Nat → Nat, ∃ fi2 : Nat → Nat, r = bI ((cv ltr mm cc9).isSome) ∧ w = mW cI cJ cB o kv kp kx kl kh ki kf kq ka kt kd kn (nI mpm) (nI mty) (nI mwi) (nI mhi) (nI wa2) (nI le2) (gI mgo) (nI mam) (bI mtm) (nI mli) (vF wd hd nb wl st sl gl aq lb sh bw bh ps) mpa (fun zz => nI (mtx zz)) (fun zz => nI (lt9 zz)) (fun zz => nI (ha2 zz)) (fun zz => nI (fi2 zz)) (fun zz => oI (mfa zz)) (fun zz => nI (mqu zz)) (fun zz => lN (mal zz)) (fun zz => nI (mta zz)) (fun zz => oI (mdi zz)) (fun zz => nI (mln zz)) ∧ (∀ v, cv ltr mm cc9 = some v → MRel (va_up cl ac v) (ac + 1) (m2 ltr mm cc9) (lt2 ltr mm cc9) (fa2 ltr mm cc9 far2 kk9) wa2 le2 lt9 ha2 fi2) ∧ le2 ≤ 7) (gB D (mW cI cJ cB o kv kp kx kl kh ki kf kq ka kt kd kn (nI mpm) (nI mty) (nI mwi) (nI mhi) (nI mwa) (nI mle) (gI mgo) (nI mam) (bI mtm) (nI mli) (vF wd hd nb wl st sl gl aq lb sh bw bh ps) mpa (fun zz => nI (mtx zz)) (fun zz => nI (mlt zz)) (fun zz => nI (mha zz)) (fun zz => nI (mfi zz)) (fun zz => oI (mfa zz)) (fun zz => nI (mqu zz)) (fun zz => lN (mal zz)) (fun zz => nI (mta zz)) (fun zz => oI (mdi zz)) (fun zz => nI (mln zz)))) (aW (mW cI cJ cB o kv kp kx kl kh ki kf kq ka kt kd kn (nI mpm) (nI mty) (nI mwi) (nI mhi) (nI mwa) (nI mle) (gI mgo) (nI mam) (bI mtm) (nI mli) (vF wd hd nb wl st sl gl aq lb sh bw bh ps) mpa (fun zz => nI (mtx zz)) (fun zz => nI (mlt zz)) (fun zz => nI (mha zz)) (fun zz => nI (mfi zz)) (fun zz => oI (mfa zz)) (fun zz => nI (mqu zz)) (fun zz => lN (mal zz)) (fun zz => nI (mta zz)) (fun zz => oI (mdi zz)) (fun zz => nI (mln zz))))) 0 0 (aW (mW cI cJ cB o kv kp kx kl kh ki kf kq ka kt kd kn (nI mpm) (nI mty) (nI mwi) (nI mhi) (nI mwa) (nI mle) (gI mgo) (nI mam) (bI mtm) (nI mli) (vF wd hd nb wl st sl gl aq lb sh bw bh ps) mpa (fun zz => nI (mtx zz)) (fun zz => nI (mlt zz)) (fun zz => nI (mha zz)) (fun zz => nI (mfi zz)) (fun zz => oI (mfa zz)) (fun zz => nI (mqu zz)) (fun zz => lN (mal zz)) (fun zz => nI (mta zz)) (fun zz => oI (mdi zz)) (fun zz => nI (mln zz)))) := by
  refine Met.ofW (cc := cX8_places) (maxL := 5) (ret := (some .boolean)) (by decide) rfl ?_
  intro p e s m args below meth c s₁ B hml hv
  obtain ⟨rfl, hK, hN, hP, hD0⟩ := hv
  have hx := B.exec; have hb := B.bytes; have hr := B.returns; have hlocks := B.notSynchronized
  have hts0 := atoms_spec (ws := Cond.code yX8_places cX8_places 5 (some .boolean) :: lw_all) B.pre
  have hC : CallFix p m c cX8_places 5 s _ lw_all RX8 := ⟨hx, hb, hml, findClass_of_methodNamed B.named, fun w h => hts0 w (List.mem_cons_of_mem _ h)⟩
  have hD : va_D (aW (mW cI cJ cB o kv kp kx kl kh ki kf kq ka kt kd kn (nI mpm) (nI mty) (nI mwi) (nI mhi) (nI mwa) (nI mle) (gI mgo) (nI mam) (bI mtm) (nI mli) (vF wd hd nb wl st sl gl aq lb sh bw bh ps) mpa (fun zz => nI (mtx zz)) (fun zz => nI (mlt zz)) (fun zz => nI (mha zz)) (fun zz => nI (mfi zz)) (fun zz => oI (mfa zz)) (fun zz => nI (mqu zz)) (fun zz => lN (mal zz)) (fun zz => nI (mta zz)) (fun zz => oI (mdi zz)) (fun zz => nI (mln zz)))) (mW cI cJ cB o kv kp kx kl kh ki kf kq ka kt kd kn (nI mpm) (nI mty) (nI mwi) (nI mhi) (nI mwa) (nI mle) (gI mgo) (nI mam) (bI mtm) (nI mli) (vF wd hd nb wl st sl gl aq lb sh bw bh ps) mpa (fun zz => nI (mtx zz)) (fun zz => nI (mlt zz)) (fun zz => nI (mha zz)) (fun zz => nI (mfi zz)) (fun zz => oI (mfa zz)) (fun zz => nI (mqu zz)) (fun zz => lN (mal zz)) (fun zz => nI (mta zz)) (fun zz => oI (mdi zz)) (fun zz => nI (mln zz))) := ⟨hD0.1, fun k q h => ⟨k, q.2, h⟩⟩
  generalize hAe : aW (mW cI cJ cB o kv kp kx kl kh ki kf kq ka kt kd kn (nI mpm) (nI mty) (nI mwi) (nI mhi) (nI mwa) (nI mle) (gI mgo) (nI mam) (bI mtm) (nI mli) (vF wd hd nb wl st sl gl aq lb sh bw bh ps) mpa (fun zz => nI (mtx zz)) (fun zz => nI (mlt zz)) (fun zz => nI (mha zz)) (fun zz => nI (mfi zz)) (fun zz => oI (mfa zz)) (fun zz => nI (mqu zz)) (fun zz => lN (mal zz)) (fun zz => nI (mta zz)) (fun zz => oI (mdi zz)) (fun zz => nI (mln zz))) = A at hD ⊢
  have hS : va_S A s.heap s.heap [] := va_S.rf
  have hl := lv_entry ([.ref o, .int (nI cc9), .int (nI ac), .int (nI kk9)]) (n := 5) (Nat.le_of_ble_eq_true rfl)
  rw [lg_entry_eq]
  generalize (lg_sl ([.ref o, .int (nI cc9), .int (nI ac), .int (nI kk9)]) ++ List.replicate (5 - (lg_sl ([.ref o, .int (nI cc9), .int (nI ac), .int (nI kk9)])).length) Slot.unset).toArray = ls at hl ⊢
  have hl : lv_has ls 5 [(0, .ref o), (1, .int (nI cc9)), (2, .int (nI ac)), (3, .int (nI kk9))] := hl
  generalize hav : ([.ref o, .int (nI cc9), .int (nI ac), .int (nI kk9)] : List Value).toArray = args at hC ⊢
  refine W_gen (fun QQ hQ => ?_)
  show W p l e (rmN 0) s m args below meth c s.heap [] 0 0 QQ (F0 m 0 ls [])
  obtain ⟨hwa, hle, hm7, hcl, hml⟩ := id hm
  refine lv_iload_n hx hb dX8_places_0 rfl (lv_at hl 1 rfl) ?_
  refine lv_bipush (v := nI 35) hx hb dX8_places_1 (by decide) ?_
  refine n_icmp_ne (a := cc9) (b := 35) (tgt := 18) hx hb dX8_places_3 (by decide) (by omega) (by omega) (fun c3 => ?_) (fun c3 => ?_)
  · have _ : True := trivial
    refine lv_iload_n hx hb dX8_places_18 rfl (lv_at hl 1 rfl) ?_
    refine lv_bipush (v := nI 35) hx hb dX8_places_19 (by decide) ?_
    refine n_icmp_eq (a := cc9) (b := 35) (tgt := 30) hx hb dX8_places_21 (by decide) (by omega) (by omega) (fun c21 => ?_) (fun c21 => ?_)
    · have _ : True := trivial
      exact absurd c21 c3
    · have _ : True := trivial
      refine lv_iload_n hx hb dX8_places_24 rfl (lv_at hl 1 rfl) ?_
      refine lv_bipush (v := nI 46) hx hb dX8_places_25 (by decide) ?_
      refine n_icmp_ne (a := cc9) (b := 46) (tgt := 32) hx hb dX8_places_27 (by decide) (by omega) (by omega) (fun c27 => ?_) (fun c27 => ?_)
      · have _ : True := trivial
        refine lv_iconst (v := nI 0) hx hb dX8_places_32 (by decide) ?_
        refine lv_istore (lv' := [(4, .int (nI 0)), (0, .ref o), (1, .int (nI cc9)), (2, .int (nI ac)), (3, .int (nI kk9))]) hx hb dX8_places_33 hl (by decide) rfl (fun ls hl => ?_)
        have L35 : ∀ (n : Nat) (b : Nat), (b ≤ mle) → (∀ j, j < b → mlt j ≠ cc9) → (mle - b) < n → ∀ (H : Heap) (locs : List Loc), va_P D vwCl (mW cI cJ cB o kv kp kx kl kh ki kf kq ka kt kd kn (nI mpm) (nI mty) (nI mwi) (nI mhi) (nI mwa) (nI mle) (gI mgo) (nI mam) (bI mtm) (nI mli) (vF wd hd nb wl st sl gl aq lb sh bw bh ps) mpa (fun zz => nI (mtx zz)) (fun zz => nI (mlt zz)) (fun zz => nI (mha zz)) (fun zz => nI (mfi zz)) (fun zz => oI (mfa zz)) (fun zz => nI (mqu zz)) (fun zz => lN (mal zz)) (fun zz => nI (mta zz)) (fun zz => oI (mdi zz)) (fun zz => nI (mln zz))) H → va_D A (mW cI cJ cB o kv kp kx kl kh ki kf kq ka kt kd kn (nI mpm) (nI mty) (nI mwi) (nI mhi) (nI mwa) (nI mle) (gI mgo) (nI mam) (bI mtm) (nI mli) (vF wd hd nb wl st sl gl aq lb sh bw bh ps) mpa (fun zz => nI (mtx zz)) (fun zz => nI (mlt zz)) (fun zz => nI (mha zz)) (fun zz => nI (mfi zz)) (fun zz => oI (mfa zz)) (fun zz => nI (mqu zz)) (fun zz => lN (mal zz)) (fun zz => nI (mta zz)) (fun zz => oI (mdi zz)) (fun zz => nI (mln zz))) → va_S A s.heap H locs → ∀ ls : Array Slot, lv_has ls 5 [(4, .int (nI b)), (0, .ref o), (1, .int (nI cc9)), (2, .int (nI ac)), (3, .int (nI kk9))] → W p l e (rmN 0) s m args below meth c H locs 0 0 QQ (F0 m 35 ls []) := by
          intro n; induction n with
          | zero => intro b ib i1 hm; exact absurd hm (Nat.not_lt_zero _)
          | succ n ih35 =>
            intro b ib i1 hm35 H locs hP hD hS ls hl
            refine lv_iload hx hb dX8_places_35 (lv_at hl 0 rfl) ?_
            refine lv_aload_n hx hb dX8_places_37 rfl (lv_at hl 1 rfl) ?_
            refine gf_X8_70 hC hK hP 0 rfl rfl dX8_places_38 ?_
            refine n_icmp_ge (a := b) (b := mle) (tgt := 61) hx hb dX8_places_41 (by decide) (by omega) (by omega) (fun c41 => ?_) (fun c41 => ?_)
            · have _ : True := trivial
              have hlk : lk ltr cc9 mm = b := lk_eq (by omega) (fun j h => by rw [← (hml j (by omega)).1]; exact i1 j h) (fun h => by omega)
              refine lv_iload hx hb dX8_places_61 (lv_at hl 0 rfl) ?_
              refine lv_bipush (v := nI 7) hx hb dX8_places_63 (by decide) ?_
              refine n_icmp_ne (a := b) (b := 7) (tgt := 70) hx hb dX8_places_65 (by decide) (by omega) (by omega) (fun c65 => ?_) (fun c65 => ?_)
              · have _ : True := trivial
                refine lv_iload hx hb dX8_places_70 (lv_at hl 0 rfl) ?_
                refine lv_aload_n hx hb dX8_places_72 rfl (lv_at hl 1 rfl) ?_
                refine gf_X8_70 hC hK hP 0 rfl rfl dX8_places_73 ?_
                refine n_icmp_ne (a := b) (b := mle) (tgt := 113) hx hb dX8_places_76 (by decide) (by omega) (by omega) (fun c76 => ?_) (fun c76 => ?_)
                · have _ : True := trivial
                  refine lv_aload_n hx hb dX8_places_113 rfl (lv_at hl 1 rfl) ?_
                  refine gf_X8_22 hC hK hP 0 rfl rfl dX8_places_114 ?_
                  refine lv_iload hx hb dX8_places_117 (lv_at hl 0 rfl) ?_
                  refine lv_dup2_11 hx hb dX8_places_119 rfl rfl ?_
                  refine n_iald hx hb hK hP 5 0 rfl rfl (by omega) (by decide) dX8_places_120 ?_
                  refine lv_iconst (v := nI 1) hx hb dX8_places_121 (by decide) ?_
                  refine lv_iload_n hx hb dX8_places_122 rfl (lv_at hl 3 rfl) ?_
                  refine n_ishl hx hb dX8_places_123 (by omega) ?_
                  refine n_ior hx hb dX8_places_124  ?_
                  refine n_iast hx hb hK hP hD hS 5 0 rfl rfl (by omega) (by decide) (up_nI _ _ _) (ws1 := mW cI cJ cB o kv kp kx kl kh ki kf kq ka kt kd kn (nI mpm) (nI mty) (nI mwi) (nI mhi) (nI mwa) (nI mle) (gI mgo) (nI mam) (bI mtm) (nI mli) (vF wd hd nb wl st sl gl aq lb sh bw bh ps) mpa (fun zz => nI (mtx zz)) (fun zz => nI (mlt zz)) (fun zz => nI ((va_up mha b ((mha b) ||| (1 <<< ac))) zz)) (fun zz => nI (mfi zz)) (fun zz => oI (mfa zz)) (fun zz => nI (mqu zz)) (fun zz => lN (mal zz)) (fun zz => nI (mta zz)) (fun zz => oI (mdi zz)) (fun zz => nI (mln zz))) rfl dX8_places_125 (fun H locs hP hD hS => ?_)
                  refine lv_iconst (v := nI 1) hx hb dX8_places_126 (by decide) ?_
                  have hcv : cv ltr mm cc9 = some (2 + b) := by unfold cv; rw [if_neg c3, if_neg c27, hlk, if_neg c65]
                  have hp1 : ∀ v, cv ltr mm cc9 = some v → MRel (va_up cl ac v) (ac + 1) (m2 ltr mm cc9) (lt2 ltr mm cc9) (fa2 ltr mm cc9 far2 kk9) mwa mle mlt (va_up mha b (mha b ||| (1 <<< ac))) mfi := fun v hv => by
                    rw [hcv] at hv
                    cases hv
                    exact MRel_old hm hlk (by omega)
                  rw [hQ]
                  exact W.zret (v := nI 1) hx hb hr rfl (fun t9 ht hW => ⟨⟨_, _, rfl, ⟨mwa, mle, mlt, va_up mha b ((mha b) ||| (1 <<< ac)), mfi, (by rw [hcv]; rfl), rfl, hp1, (by omega)⟩, by rw [ht]; exact hP, rfl⟩, hS.F ht⟩) hS.2.2 dX8_places_127
                · have _ : True := trivial
                  refine lv_aload_n hx hb dX8_places_79 rfl (lv_at hl 1 rfl) ?_
                  refine gf_X8_19 hC hK hP 0 rfl rfl dX8_places_80 ?_
                  refine lv_iload hx hb dX8_places_83 (lv_at hl 0 rfl) ?_
                  refine lv_iload_n hx hb dX8_places_85 rfl (lv_at hl 2 rfl) ?_
                  refine n_iast hx hb hK hP hD hS 4 0 rfl rfl (by omega) (by decide) (up_nI _ _ _) (ws1 := mW cI cJ cB o kv kp kx kl kh ki kf kq ka kt kd kn (nI mpm) (nI mty) (nI mwi) (nI mhi) (nI mwa) (nI mle) (gI mgo) (nI mam) (bI mtm) (nI mli) (vF wd hd nb wl st sl gl aq lb sh bw bh ps) mpa (fun zz => nI (mtx zz)) (fun zz => nI ((va_up mlt b cc9) zz)) (fun zz => nI (mha zz)) (fun zz => nI (mfi zz)) (fun zz => oI (mfa zz)) (fun zz => nI (mqu zz)) (fun zz => lN (mal zz)) (fun zz => nI (mta zz)) (fun zz => oI (mdi zz)) (fun zz => nI (mln zz))) rfl dX8_places_86 (fun H locs hP hD hS => ?_)
                  refine lv_aload_n hx hb dX8_places_87 rfl (lv_at hl 1 rfl) ?_
                  refine gf_X8_22 hC hK hP 0 rfl rfl dX8_places_88 ?_
                  refine lv_iload hx hb dX8_places_91 (lv_at hl 0 rfl) ?_
                  refine lv_iconst (v := nI 0) hx hb dX8_places_93 (by decide) ?_
                  refine n_iast hx hb hK hP hD hS 5 0 rfl rfl (by omega) (by decide) (up_nI _ _ _) (ws1 := mW cI cJ cB o kv kp kx kl kh ki kf kq ka kt kd kn (nI mpm) (nI mty) (nI mwi) (nI mhi) (nI mwa) (nI mle) (gI mgo) (nI mam) (bI mtm) (nI mli) (vF wd hd nb wl st sl gl aq lb sh bw bh ps) mpa (fun zz => nI (mtx zz)) (fun zz => nI ((va_up mlt b cc9) zz)) (fun zz => nI ((va_up mha b 0) zz)) (fun zz => nI (mfi zz)) (fun zz => oI (mfa zz)) (fun zz => nI (mqu zz)) (fun zz => lN (mal zz)) (fun zz => nI (mta zz)) (fun zz => oI (mdi zz)) (fun zz => nI (mln zz))) rfl dX8_places_94 (fun H locs hP hD hS => ?_)
                  refine lv_aload_n hx hb dX8_places_95 rfl (lv_at hl 1 rfl) ?_
                  refine gf_X8_25 hC hK hP 0 rfl rfl dX8_places_96 ?_
                  refine lv_iload hx hb dX8_places_99 (lv_at hl 0 rfl) ?_
                  refine lv_iload_n hx hb dX8_places_101 rfl (lv_at hl 4 rfl) ?_
                  refine n_iast hx hb hK hP hD hS 6 0 rfl rfl (by omega) (by decide) (up_nI _ _ _) (ws1 := mW cI cJ cB o kv kp kx kl kh ki kf kq ka kt kd kn (nI mpm) (nI mty) (nI mwi) (nI mhi) (nI mwa) (nI mle) (gI mgo) (nI mam) (bI mtm) (nI mli) (vF wd hd nb wl st sl gl aq lb sh bw bh ps) mpa (fun zz => nI (mtx zz)) (fun zz => nI ((va_up mlt b cc9) zz)) (fun zz => nI ((va_up mha b 0) zz)) (fun zz => nI ((va_up mfi b kk9) zz)) (fun zz => oI (mfa zz)) (fun zz => nI (mqu zz)) (fun zz => lN (mal zz)) (fun zz => nI (mta zz)) (fun zz => oI (mdi zz)) (fun zz => nI (mln zz))) rfl dX8_places_102 (fun H locs hP hD hS => ?_)
                  refine lv_aload_n hx hb dX8_places_103 rfl (lv_at hl 1 rfl) ?_
                  refine lv_dup hx hb dX8_places_104 rfl ?_
                  refine gf_X8_70 hC hK hP 0 rfl rfl dX8_places_105 ?_
                  refine lv_iconst (v := nI 1) hx hb dX8_places_108 (by decide) ?_
                  refine n_iadd hx hb dX8_places_109  ?_
                  refine pf_X8_70 hC hK hP hD hS 0 rfl (Nat.le_of_ble_eq_true rfl) (ws1 := mW cI cJ cB o kv kp kx kl kh ki kf kq ka kt kd kn (nI mpm) (nI mty) (nI mwi) (nI mhi) (nI mwa) (nI (mle + 1)) (gI mgo) (nI mam) (bI mtm) (nI mli) (vF wd hd nb wl st sl gl aq lb sh bw bh ps) mpa (fun zz => nI (mtx zz)) (fun zz => nI ((va_up mlt b cc9) zz)) (fun zz => nI ((va_up mha b 0) zz)) (fun zz => nI ((va_up mfi b kk9) zz)) (fun zz => oI (mfa zz)) (fun zz => nI (mqu zz)) (fun zz => lN (mal zz)) (fun zz => nI (mta zz)) (fun zz => oI (mdi zz)) (fun zz => nI (mln zz))) rfl dX8_places_110 (fun H locs hP hD hS => ?_)
                  refine lv_aload_n hx hb dX8_places_113 rfl (lv_at hl 1 rfl) ?_
                  refine gf_X8_22 hC hK hP 0 rfl rfl dX8_places_114 ?_
                  refine lv_iload hx hb dX8_places_117 (lv_at hl 0 rfl) ?_
                  refine lv_dup2_11 hx hb dX8_places_119 rfl rfl ?_
                  refine n_iald hx hb hK hP 5 0 rfl rfl (by omega) (by decide) dX8_places_120 ?_
                  refine topi (y := nI 0) (by rw [up_eq]) ?_
                  refine lv_iconst (v := nI 1) hx hb dX8_places_121 (by decide) ?_
                  refine lv_iload_n hx hb dX8_places_122 rfl (lv_at hl 3 rfl) ?_
                  refine n_ishl hx hb dX8_places_123 (by omega) ?_
                  refine n_ior hx hb dX8_places_124  ?_
                  refine n_iast hx hb hK hP hD hS 5 0 rfl rfl (by omega) (by decide) (up_nI _ _ _) (ws1 := mW cI cJ cB o kv kp kx kl kh ki kf kq ka kt kd kn (nI mpm) (nI mty) (nI mwi) (nI mhi) (nI mwa) (nI (mle + 1)) (gI mgo) (nI mam) (bI mtm) (nI mli) (vF wd hd nb wl st sl gl aq lb sh bw bh ps) mpa (fun zz => nI (mtx zz)) (fun zz => nI ((va_up mlt b cc9) zz)) (fun zz => nI ((va_up (va_up mha b 0) b (0 ||| (1 <<< ac))) zz)) (fun zz => nI ((va_up mfi b kk9) zz)) (fun zz => oI (mfa zz)) (fun zz => nI (mqu zz)) (fun zz => lN (mal zz)) (fun zz => nI (mta zz)) (fun zz => oI (mdi zz)) (fun zz => nI (mln zz))) rfl dX8_places_125 (fun H locs hP hD hS => ?_)
                  refine lv_iconst (v := nI 1) hx hb dX8_places_126 (by decide) ?_
                  have hcv : cv ltr mm cc9 = some (2 + b) := by unfold cv; rw [if_neg c3, if_neg c27, hlk, if_neg c65]
                  have hp1 : ∀ v, cv ltr mm cc9 = some v → MRel (va_up cl ac v) (ac + 1) (m2 ltr mm cc9) (lt2 ltr mm cc9) (fa2 ltr mm cc9 far2 kk9) mwa (mle + 1) (va_up mlt b cc9) (va_up (va_up mha b 0) b (0 ||| (1 <<< ac))) (va_up mfi b kk9) := fun v hv => by
                    rw [hcv] at hv
                    cases hv
                    rw [show b = mm by omega]; exact MRel_new hm c3 c27 (by omega) (by omega)
                  rw [hQ]
                  exact W.zret (v := nI 1) hx hb hr rfl (fun t9 ht hW => ⟨⟨_, _, rfl, ⟨mwa, mle + 1, va_up mlt b cc9, va_up (va_up mha b 0) b (0 ||| (1 <<< ac)), va_up mfi b kk9, (by rw [hcv]; rfl), rfl, hp1, (by omega)⟩, by rw [ht]; exact hP, rfl⟩, hS.F ht⟩) hS.2.2 dX8_places_127
              · have _ : True := trivial
                refine lv_iconst (v := nI 0) hx hb dX8_places_68 (by decide) ?_
                have hcv : cv ltr mm cc9 = none := by unfold cv; rw [if_neg c3, if_neg c27, hlk, if_pos c65]
                rw [hQ]
                exact W.zret (v := nI 0) hx hb hr rfl (fun t9 ht hW => ⟨⟨_, _, rfl, ⟨mwa, mle, mlt, mha, mfi, (by rw [hcv]; rfl), rfl, (fun v hv => by rw [hcv] at hv; cases hv), (by omega)⟩, by rw [ht]; exact hP, rfl⟩, hS.F ht⟩) hS.2.2 dX8_places_69
            · have _ : True := trivial
              refine lv_aload_n hx hb dX8_places_44 rfl (lv_at hl 1 rfl) ?_
              refine gf_X8_19 hC hK hP 0 rfl rfl dX8_places_45 ?_
              refine lv_iload hx hb dX8_places_48 (lv_at hl 0 rfl) ?_
              refine n_iald hx hb hK hP 4 0 rfl rfl (by omega) (by decide) dX8_places_50 ?_
              refine lv_iload_n hx hb dX8_places_51 rfl (lv_at hl 2 rfl) ?_
              refine n_icmp_eq (a := mlt b) (b := cc9) (tgt := 61) hx hb dX8_places_52 (by decide) (by have := (hml b (by omega)).1; have := hltb b (by omega); omega) (by omega) (fun c52 => ?_) (fun c52 => ?_)
              · have _ : True := trivial
                have hlk : lk ltr cc9 mm = b := lk_eq (by omega) (fun j h => by rw [← (hml j (by omega)).1]; exact i1 j h) (fun h => by rw [← (hml b h).1]; exact c52)
                refine lv_iload hx hb dX8_places_61 (lv_at hl 0 rfl) ?_
                refine lv_bipush (v := nI 7) hx hb dX8_places_63 (by decide) ?_
                refine n_icmp_ne (a := b) (b := 7) (tgt := 70) hx hb dX8_places_65 (by decide) (by omega) (by omega) (fun c65 => ?_) (fun c65 => ?_)
                · have _ : True := trivial
                  refine lv_iload hx hb dX8_places_70 (lv_at hl 0 rfl) ?_
                  refine lv_aload_n hx hb dX8_places_72 rfl (lv_at hl 1 rfl) ?_
                  refine gf_X8_70 hC hK hP 0 rfl rfl dX8_places_73 ?_
                  refine n_icmp_ne (a := b) (b := mle) (tgt := 113) hx hb dX8_places_76 (by decide) (by omega) (by omega) (fun c76 => ?_) (fun c76 => ?_)
                  · have _ : True := trivial
                    refine lv_aload_n hx hb dX8_places_113 rfl (lv_at hl 1 rfl) ?_
                    refine gf_X8_22 hC hK hP 0 rfl rfl dX8_places_114 ?_
                    refine lv_iload hx hb dX8_places_117 (lv_at hl 0 rfl) ?_
                    refine lv_dup2_11 hx hb dX8_places_119 rfl rfl ?_
                    refine n_iald hx hb hK hP 5 0 rfl rfl (by omega) (by decide) dX8_places_120 ?_
                    refine lv_iconst (v := nI 1) hx hb dX8_places_121 (by decide) ?_
                    refine lv_iload_n hx hb dX8_places_122 rfl (lv_at hl 3 rfl) ?_
                    refine n_ishl hx hb dX8_places_123 (by omega) ?_
                    refine n_ior hx hb dX8_places_124  ?_
                    refine n_iast hx hb hK hP hD hS 5 0 rfl rfl (by omega) (by decide) (up_nI _ _ _) (ws1 := mW cI cJ cB o kv kp kx kl kh ki kf kq ka kt kd kn (nI mpm) (nI mty) (nI mwi) (nI mhi) (nI mwa) (nI mle) (gI mgo) (nI mam) (bI mtm) (nI mli) (vF wd hd nb wl st sl gl aq lb sh bw bh ps) mpa (fun zz => nI (mtx zz)) (fun zz => nI (mlt zz)) (fun zz => nI ((va_up mha b ((mha b) ||| (1 <<< ac))) zz)) (fun zz => nI (mfi zz)) (fun zz => oI (mfa zz)) (fun zz => nI (mqu zz)) (fun zz => lN (mal zz)) (fun zz => nI (mta zz)) (fun zz => oI (mdi zz)) (fun zz => nI (mln zz))) rfl dX8_places_125 (fun H locs hP hD hS => ?_)
                    refine lv_iconst (v := nI 1) hx hb dX8_places_126 (by decide) ?_
                    have hcv : cv ltr mm cc9 = some (2 + b) := by unfold cv; rw [if_neg c3, if_neg c27, hlk, if_neg c65]
                    have hp1 : ∀ v, cv ltr mm cc9 = some v → MRel (va_up cl ac v) (ac + 1) (m2 ltr mm cc9) (lt2 ltr mm cc9) (fa2 ltr mm cc9 far2 kk9) mwa mle mlt (va_up mha b (mha b ||| (1 <<< ac))) mfi := fun v hv => by
                      rw [hcv] at hv
                      cases hv
                      exact MRel_old hm hlk (by omega)
                    rw [hQ]
                    exact W.zret (v := nI 1) hx hb hr rfl (fun t9 ht hW => ⟨⟨_, _, rfl, ⟨mwa, mle, mlt, va_up mha b ((mha b) ||| (1 <<< ac)), mfi, (by rw [hcv]; rfl), rfl, hp1, (by omega)⟩, by rw [ht]; exact hP, rfl⟩, hS.F ht⟩) hS.2.2 dX8_places_127
                  · have _ : True := trivial
                    refine lv_aload_n hx hb dX8_places_79 rfl (lv_at hl 1 rfl) ?_
                    refine gf_X8_19 hC hK hP 0 rfl rfl dX8_places_80 ?_
                    refine lv_iload hx hb dX8_places_83 (lv_at hl 0 rfl) ?_
                    refine lv_iload_n hx hb dX8_places_85 rfl (lv_at hl 2 rfl) ?_
                    refine n_iast hx hb hK hP hD hS 4 0 rfl rfl (by omega) (by decide) (up_nI _ _ _) (ws1 := mW cI cJ cB o kv kp kx kl kh ki kf kq ka kt kd kn (nI mpm) (nI mty) (nI mwi) (nI mhi) (nI mwa) (nI mle) (gI mgo) (nI mam) (bI mtm) (nI mli) (vF wd hd nb wl st sl gl aq lb sh bw bh ps) mpa (fun zz => nI (mtx zz)) (fun zz => nI ((va_up mlt b cc9) zz)) (fun zz => nI (mha zz)) (fun zz => nI (mfi zz)) (fun zz => oI (mfa zz)) (fun zz => nI (mqu zz)) (fun zz => lN (mal zz)) (fun zz => nI (mta zz)) (fun zz => oI (mdi zz)) (fun zz => nI (mln zz))) rfl dX8_places_86 (fun H locs hP hD hS => ?_)
                    refine lv_aload_n hx hb dX8_places_87 rfl (lv_at hl 1 rfl) ?_
                    refine gf_X8_22 hC hK hP 0 rfl rfl dX8_places_88 ?_
                    refine lv_iload hx hb dX8_places_91 (lv_at hl 0 rfl) ?_
                    refine lv_iconst (v := nI 0) hx hb dX8_places_93 (by decide) ?_
                    refine n_iast hx hb hK hP hD hS 5 0 rfl rfl (by omega) (by decide) (up_nI _ _ _) (ws1 := mW cI cJ cB o kv kp kx kl kh ki kf kq ka kt kd kn (nI mpm) (nI mty) (nI mwi) (nI mhi) (nI mwa) (nI mle) (gI mgo) (nI mam) (bI mtm) (nI mli) (vF wd hd nb wl st sl gl aq lb sh bw bh ps) mpa (fun zz => nI (mtx zz)) (fun zz => nI ((va_up mlt b cc9) zz)) (fun zz => nI ((va_up mha b 0) zz)) (fun zz => nI (mfi zz)) (fun zz => oI (mfa zz)) (fun zz => nI (mqu zz)) (fun zz => lN (mal zz)) (fun zz => nI (mta zz)) (fun zz => oI (mdi zz)) (fun zz => nI (mln zz))) rfl dX8_places_94 (fun H locs hP hD hS => ?_)
                    refine lv_aload_n hx hb dX8_places_95 rfl (lv_at hl 1 rfl) ?_
                    refine gf_X8_25 hC hK hP 0 rfl rfl dX8_places_96 ?_
                    refine lv_iload hx hb dX8_places_99 (lv_at hl 0 rfl) ?_
                    refine lv_iload_n hx hb dX8_places_101 rfl (lv_at hl 4 rfl) ?_
                    refine n_iast hx hb hK hP hD hS 6 0 rfl rfl (by omega) (by decide) (up_nI _ _ _) (ws1 := mW cI cJ cB o kv kp kx kl kh ki kf kq ka kt kd kn (nI mpm) (nI mty) (nI mwi) (nI mhi) (nI mwa) (nI mle) (gI mgo) (nI mam) (bI mtm) (nI mli) (vF wd hd nb wl st sl gl aq lb sh bw bh ps) mpa (fun zz => nI (mtx zz)) (fun zz => nI ((va_up mlt b cc9) zz)) (fun zz => nI ((va_up mha b 0) zz)) (fun zz => nI ((va_up mfi b kk9) zz)) (fun zz => oI (mfa zz)) (fun zz => nI (mqu zz)) (fun zz => lN (mal zz)) (fun zz => nI (mta zz)) (fun zz => oI (mdi zz)) (fun zz => nI (mln zz))) rfl dX8_places_102 (fun H locs hP hD hS => ?_)
                    refine lv_aload_n hx hb dX8_places_103 rfl (lv_at hl 1 rfl) ?_
                    refine lv_dup hx hb dX8_places_104 rfl ?_
                    refine gf_X8_70 hC hK hP 0 rfl rfl dX8_places_105 ?_
                    refine lv_iconst (v := nI 1) hx hb dX8_places_108 (by decide) ?_
                    refine n_iadd hx hb dX8_places_109  ?_
                    refine pf_X8_70 hC hK hP hD hS 0 rfl (Nat.le_of_ble_eq_true rfl) (ws1 := mW cI cJ cB o kv kp kx kl kh ki kf kq ka kt kd kn (nI mpm) (nI mty) (nI mwi) (nI mhi) (nI mwa) (nI (mle + 1)) (gI mgo) (nI mam) (bI mtm) (nI mli) (vF wd hd nb wl st sl gl aq lb sh bw bh ps) mpa (fun zz => nI (mtx zz)) (fun zz => nI ((va_up mlt b cc9) zz)) (fun zz => nI ((va_up mha b 0) zz)) (fun zz => nI ((va_up mfi b kk9) zz)) (fun zz => oI (mfa zz)) (fun zz => nI (mqu zz)) (fun zz => lN (mal zz)) (fun zz => nI (mta zz)) (fun zz => oI (mdi zz)) (fun zz => nI (mln zz))) rfl dX8_places_110 (fun H locs hP hD hS => ?_)
                    refine lv_aload_n hx hb dX8_places_113 rfl (lv_at hl 1 rfl) ?_
                    refine gf_X8_22 hC hK hP 0 rfl rfl dX8_places_114 ?_
                    refine lv_iload hx hb dX8_places_117 (lv_at hl 0 rfl) ?_
                    refine lv_dup2_11 hx hb dX8_places_119 rfl rfl ?_
                    refine n_iald hx hb hK hP 5 0 rfl rfl (by omega) (by decide) dX8_places_120 ?_
                    refine topi (y := nI 0) (by rw [up_eq]) ?_
                    refine lv_iconst (v := nI 1) hx hb dX8_places_121 (by decide) ?_
                    refine lv_iload_n hx hb dX8_places_122 rfl (lv_at hl 3 rfl) ?_
                    refine n_ishl hx hb dX8_places_123 (by omega) ?_
                    refine n_ior hx hb dX8_places_124  ?_
                    refine n_iast hx hb hK hP hD hS 5 0 rfl rfl (by omega) (by decide) (up_nI _ _ _) (ws1 := mW cI cJ cB o kv kp kx kl kh ki kf kq ka kt kd kn (nI mpm) (nI mty) (nI mwi) (nI mhi) (nI mwa) (nI (mle + 1)) (gI mgo) (nI mam) (bI mtm) (nI mli) (vF wd hd nb wl st sl gl aq lb sh bw bh ps) mpa (fun zz => nI (mtx zz)) (fun zz => nI ((va_up mlt b cc9) zz)) (fun zz => nI ((va_up (va_up mha b 0) b (0 ||| (1 <<< ac))) zz)) (fun zz => nI ((va_up mfi b kk9) zz)) (fun zz => oI (mfa zz)) (fun zz => nI (mqu zz)) (fun zz => lN (mal zz)) (fun zz => nI (mta zz)) (fun zz => oI (mdi zz)) (fun zz => nI (mln zz))) rfl dX8_places_125 (fun H locs hP hD hS => ?_)
                    refine lv_iconst (v := nI 1) hx hb dX8_places_126 (by decide) ?_
                    have hcv : cv ltr mm cc9 = some (2 + b) := by unfold cv; rw [if_neg c3, if_neg c27, hlk, if_neg c65]
                    have hp1 : ∀ v, cv ltr mm cc9 = some v → MRel (va_up cl ac v) (ac + 1) (m2 ltr mm cc9) (lt2 ltr mm cc9) (fa2 ltr mm cc9 far2 kk9) mwa (mle + 1) (va_up mlt b cc9) (va_up (va_up mha b 0) b (0 ||| (1 <<< ac))) (va_up mfi b kk9) := fun v hv => by
                      rw [hcv] at hv
                      cases hv
                      rw [show b = mm by omega]; exact MRel_new hm c3 c27 (by omega) (by omega)
                    rw [hQ]
                    exact W.zret (v := nI 1) hx hb hr rfl (fun t9 ht hW => ⟨⟨_, _, rfl, ⟨mwa, mle + 1, va_up mlt b cc9, va_up (va_up mha b 0) b (0 ||| (1 <<< ac)), va_up mfi b kk9, (by rw [hcv]; rfl), rfl, hp1, (by omega)⟩, by rw [ht]; exact hP, rfl⟩, hS.F ht⟩) hS.2.2 dX8_places_127
                · have _ : True := trivial
                  refine lv_iconst (v := nI 0) hx hb dX8_places_68 (by decide) ?_
                  have hcv : cv ltr mm cc9 = none := by unfold cv; rw [if_neg c3, if_neg c27, hlk, if_pos c65]
                  rw [hQ]
                  exact W.zret (v := nI 0) hx hb hr rfl (fun t9 ht hW => ⟨⟨_, _, rfl, ⟨mwa, mle, mlt, mha, mfi, (by rw [hcv]; rfl), rfl, (fun v hv => by rw [hcv] at hv; cases hv), (by omega)⟩, by rw [ht]; exact hP, rfl⟩, hS.F ht⟩) hS.2.2 dX8_places_69
              · have _ : True := trivial
                refine lv_iinc (v := nI (b + 1)) (lv' := [(4, .int (nI (b + 1))), (0, .ref o), (1, .int (nI cc9)), (2, .int (nI ac)), (3, .int (nI kk9))]) hx hb dX8_places_55 hl (k := 0) rfl (nI_1 _) (by decide) rfl (fun ls hl => ?_)
                refine lv_goto (tgt := 35) hx hb dX8_places_58 (by decide) ?_
                exact ih35 (b + 1) (by omega) (lt_s i1 c52) (by omega) _ _ hP hD hS _ (lv_sub hl [0, 1, 2, 3, 4] rfl)
        exact L35 _ 0 (by omega) (fun j h => absurd h (Nat.not_lt_zero j)) (Nat.lt_succ_self _) _ _ hP hD hS _ (lv_sub hl [0, 1, 2, 3, 4] rfl)
      · have _ : True := trivial
        refine lv_iconst (v := nI 1) hx hb dX8_places_30 (by decide) ?_
        rw [hQ]
        exact W.zret (v := nI 1) hx hb hr rfl (fun t9 ht hW => ⟨⟨_, _, rfl, ⟨mwa, mle, mlt, mha, mfi, (by rw [c27]; rfl), rfl, (fun v hv => by rw [c27] at hv ⊢; have e : v = 0 := (Option.some.inj (show some 0 = some v from hv)).symm; subst e; exact MRel_free hm), (by omega)⟩, by rw [ht]; exact hP, rfl⟩, hS.F ht⟩) hS.2.2 dX8_places_31
  · have _ : True := trivial
    refine lv_aload_n hx hb dX8_places_6 rfl (lv_at hl 0 rfl) ?_
    refine lv_dup hx hb dX8_places_7 rfl ?_
    refine gf_X8_67 hC hK hP 0 rfl rfl dX8_places_8 ?_
    refine lv_iconst (v := nI 1) hx hb dX8_places_11 (by decide) ?_
    refine lv_iload_n hx hb dX8_places_12 rfl (lv_at hl 2 rfl) ?_
    refine n_ishl hx hb dX8_places_13 (by omega) ?_
    refine n_ior hx hb dX8_places_14  ?_
    refine pf_X8_67 hC hK hP hD hS 0 rfl (Nat.le_of_ble_eq_true rfl) (ws1 := mW cI cJ cB o kv kp kx kl kh ki kf kq ka kt kd kn (nI mpm) (nI mty) (nI mwi) (nI mhi) (nI (mwa ||| (1 <<< ac))) (nI mle) (gI mgo) (nI mam) (bI mtm) (nI mli) (vF wd hd nb wl st sl gl aq lb sh bw bh ps) mpa (fun zz => nI (mtx zz)) (fun zz => nI (mlt zz)) (fun zz => nI (mha zz)) (fun zz => nI (mfi zz)) (fun zz => oI (mfa zz)) (fun zz => nI (mqu zz)) (fun zz => lN (mal zz)) (fun zz => nI (mta zz)) (fun zz => oI (mdi zz)) (fun zz => nI (mln zz))) rfl dX8_places_15 (fun H locs hP hD hS => ?_)
    refine lv_iload_n hx hb dX8_places_18 rfl (lv_at hl 1 rfl) ?_
    refine lv_bipush (v := nI 35) hx hb dX8_places_19 (by decide) ?_
    refine n_icmp_eq (a := cc9) (b := 35) (tgt := 30) hx hb dX8_places_21 (by decide) (by omega) (by omega) (fun c21 => ?_) (fun c21 => ?_)
    · have _ : True := trivial
      refine lv_iconst (v := nI 1) hx hb dX8_places_30 (by decide) ?_
      rw [hQ]
      exact W.zret (v := nI 1) hx hb hr rfl (fun t9 ht hW => ⟨⟨_, _, rfl, ⟨mwa ||| (1 <<< ac), mle, mlt, mha, mfi, (by rw [c3]; rfl), rfl, (fun v hv => by rw [c3] at hv ⊢; have e : v = 1 := (Option.some.inj (show some 1 = some v from hv)).symm; subst e; exact MRel_wall hm), (by omega)⟩, by rw [ht]; exact hP, rfl⟩, hS.F ht⟩) hS.2.2 dX8_places_31
    · have _ : True := trivial
      exact absurd c3 c21
