set_option maxHeartbeats 400000 in
set_option maxRecDepth 100000 in
theorem c_X8_wrongAt (l : Launch) (D : va_G) (cI cJ cB : ClassId) (o kv kp kx kl kh ki kf kq ka kt kd kn mpm mty mwi mhi mwa mle mam mli : Nat) (mgo : Option Nat) (mtm : Bool) (mpa : Nat → Int32) (mtx mlt mha mfi mqu mta mln mal : Nat → Nat) (mfa mdi : Nat → Option Nat) (wd hd nb wl : Nat) (st sl : Int32) (gl aq lb : Option Nat) (sh bw bh ps : Nat → Nat) (hty : mty ≤ 40) (htx : ∀ i, mtx i < 2 ^ 20) : Met l yX8_wrongAt (Cond.code yX8_wrongAt cX8_wrongAt 3 (some .int) :: lw_all) (rmN 2) (va_Pc [.ref o] (pB D (tyz cI cJ cB) (mW cI cJ cB o kv kp kx kl kh ki kf kq ka kt kd kn (nI mpm) (nI mty) (nI mwi) (nI mhi) (nI mwa) (nI mle) (gI mgo) (nI mam) (bI mtm) (nI mli) (vF wd hd nb wl st sl gl aq lb sh bw bh ps) mpa (fun zz => nI (mtx zz)) (fun zz => nI (mlt zz)) (fun zz => nI (mha zz)) (fun zz => nI (mfi zz)) (fun zz => oI (mfa zz)) (fun zz => nI (mqu zz)) (fun zz => lN (mal zz)) (fun zz => nI (mta zz)) (fun zz => oI (mdi zz)) (fun zz => nI (mln zz))))) (va_Qi (fun (r : Int32) (w : va_W) => ∃ wi2 : Nat, ∃ hi2 : Nat, ∃ wa2 : Nat, ∃ le2 : Nat, ∃ lt9 : Nat → Nat, ∃ ha2 : Nat → Nat, ∃ fi2 : Nat → Nat, w = mW cI cJ cB o kv kp kx kl kh ki kf kq ka kt kd kn (nI mpm) (nI mty) (nI wi2) (nI hi2) (nI wa2) (nI le2) (gI mgo) (nI mam) (bI mtm) (nI mli) (vF wd hd nb wl st sl gl aq lb sh bw bh ps) mpa (fun zz => nI (mtx zz)) (fun zz => nI (lt9 zz)) (fun zz => nI (ha2 zz)) (fun zz => nI (fi2 zz)) (fun zz => oI (mfa zz)) (fun zz => nI (mqu zz)) (fun zz => lN (mal zz)) (fun zz => nI (mta zz)) (fun zz => oI (mdi zz)) (fun zz => nI (mln zz)) ∧ WRI mtx mty le2 r wi2 hi2 wa2 le2 lt9 ha2 fi2) (gB D (mW cI cJ cB o kv kp kx kl kh ki kf kq ka kt kd kn (nI mpm) (nI mty) (nI mwi) (nI mhi) (nI mwa) (nI mle) (gI mgo) (nI mam) (bI mtm) (nI mli) (vF wd hd nb wl st sl gl aq lb sh bw bh ps) mpa (fun zz => nI (mtx zz)) (fun zz => nI (mlt zz)) (fun zz => nI (mha zz)) (fun zz => nI (mfi zz)) (fun zz => oI (mfa zz)) (fun zz => nI (mqu zz)) (fun zz => lN (mal zz)) (fun zz => nI (mta zz)) (fun zz => oI (mdi zz)) (fun zz => nI (mln zz)))) (aW (mW cI cJ cB o kv kp kx kl kh ki kf kq ka kt kd kn (nI mpm) (nI mty) (nI mwi) (nI mhi) (nI mwa) (nI mle) (gI mgo) (nI mam) (bI mtm) (nI mli) (vF wd hd nb wl st sl gl aq lb sh bw bh ps) mpa (fun zz => nI (mtx zz)) (fun zz => nI (mlt zz)) (fun zz => nI (mha zz)) (fun zz => nI (mfi zz)) (fun zz => oI (mfa zz)) (fun zz => nI (mqu zz)) (fun zz => lN (mal zz)) (fun zz => nI (mta zz)) (fun zz => oI (mdi zz)) (fun zz => nI (mln zz))))) 0 0 (aW (mW cI cJ cB o kv kp kx kl kh ki kf kq ka kt kd kn (nI mpm) (nI mty) (nI mwi) (nI mhi) (nI mwa) (nI mle) (gI mgo) (nI mam) (bI mtm) (nI mli) (vF wd hd nb wl st sl gl aq lb sh bw bh ps) mpa (fun zz => nI (mtx zz)) (fun zz => nI (mlt zz)) (fun zz => nI (mha zz)) (fun zz => nI (mfi zz)) (fun zz => oI (mfa zz)) (fun zz => nI (mqu zz)) (fun zz => lN (mal zz)) (fun zz => nI (mta zz)) (fun zz => oI (mdi zz)) (fun zz => nI (mln zz)))) := by
  refine Met.ofW (cc := cX8_wrongAt) (maxL := 3) (ret := (some .int)) (by decide) rfl ?_
  intro p e s m args below meth c s₁ B hml hv
  obtain ⟨rfl, hK, hN, hP, hD0⟩ := hv
  have hx := B.exec; have hb := B.bytes; have hr := B.returns; have hlocks := B.notSynchronized
  have hts0 := atoms_spec (ws := Cond.code yX8_wrongAt cX8_wrongAt 3 (some .int) :: lw_all) B.pre
  have hC : CallFix p m c cX8_wrongAt 3 s _ lw_all RX8 := ⟨hx, hb, hml, findClass_of_methodNamed B.named, fun w h => hts0 w (List.mem_cons_of_mem _ h)⟩
  have hD : va_D (aW (mW cI cJ cB o kv kp kx kl kh ki kf kq ka kt kd kn (nI mpm) (nI mty) (nI mwi) (nI mhi) (nI mwa) (nI mle) (gI mgo) (nI mam) (bI mtm) (nI mli) (vF wd hd nb wl st sl gl aq lb sh bw bh ps) mpa (fun zz => nI (mtx zz)) (fun zz => nI (mlt zz)) (fun zz => nI (mha zz)) (fun zz => nI (mfi zz)) (fun zz => oI (mfa zz)) (fun zz => nI (mqu zz)) (fun zz => lN (mal zz)) (fun zz => nI (mta zz)) (fun zz => oI (mdi zz)) (fun zz => nI (mln zz)))) (mW cI cJ cB o kv kp kx kl kh ki kf kq ka kt kd kn (nI mpm) (nI mty) (nI mwi) (nI mhi) (nI mwa) (nI mle) (gI mgo) (nI mam) (bI mtm) (nI mli) (vF wd hd nb wl st sl gl aq lb sh bw bh ps) mpa (fun zz => nI (mtx zz)) (fun zz => nI (mlt zz)) (fun zz => nI (mha zz)) (fun zz => nI (mfi zz)) (fun zz => oI (mfa zz)) (fun zz => nI (mqu zz)) (fun zz => lN (mal zz)) (fun zz => nI (mta zz)) (fun zz => oI (mdi zz)) (fun zz => nI (mln zz))) := ⟨hD0.1, fun k q h => ⟨k, q.2, h⟩⟩
  generalize hAe : aW (mW cI cJ cB o kv kp kx kl kh ki kf kq ka kt kd kn (nI mpm) (nI mty) (nI mwi) (nI mhi) (nI mwa) (nI mle) (gI mgo) (nI mam) (bI mtm) (nI mli) (vF wd hd nb wl st sl gl aq lb sh bw bh ps) mpa (fun zz => nI (mtx zz)) (fun zz => nI (mlt zz)) (fun zz => nI (mha zz)) (fun zz => nI (mfi zz)) (fun zz => oI (mfa zz)) (fun zz => nI (mqu zz)) (fun zz => lN (mal zz)) (fun zz => nI (mta zz)) (fun zz => oI (mdi zz)) (fun zz => nI (mln zz))) = A at hD ⊢
  have hS : va_S A s.heap s.heap [] := va_S.rf
  have hl := lv_entry ([.ref o]) (n := 3) (Nat.le_of_ble_eq_true rfl)
  rw [lg_entry_eq]
  generalize (lg_sl ([.ref o]) ++ List.replicate (3 - (lg_sl ([.ref o])).length) Slot.unset).toArray = ls at hl ⊢
  have hl : lv_has ls 3 [(0, .ref o)] := hl
  generalize hav : ([.ref o] : List Value).toArray = args at hC ⊢
  refine W_gen (fun QQ hQ => ?_)
  show W p l e (rmN 2) s m args below meth c s.heap [] 0 0 QQ (F0 m 0 ls [])
  refine lv_aload_n hx hb dX8_wrongAt_0 rfl (lv_at hl 0 rfl) ?_
  refine callV_i (As := []) (rest := []) [0, 1, 2, 3, 4, 5, 6, 7, 8, 9, 10, 11, 12] hC hK hN hP hD rfl (by decide) hS 0 (ci := 8) rfl rfl rfl (c_X8_lays l D cI cJ cB o kv kp kx kl kh ki kf kq ka kt kd kn mpm mty mwi mhi mwa mle mam mli mgo mtm mpa mtx mlt mha mfi mqu mta mln mal mfa mdi wd hd nb wl st sl gl aq lb sh bw bh ps hty htx) q765 md_X8_lays rfl hl.1 rfl (Nat.le_of_ble_eq_true rfl) dX8_wrongAt_1 ⟨Nat.le_of_ble_eq_true rfl, Nat.le_of_ble_eq_true rfl⟩ ⟨Nat.le_of_ble_eq_true rfl, Nat.le_of_ble_eq_true rfl⟩ (fun r_1 w H locs hpost hP hD hS => ?_)
  obtain ⟨wi2_1, hi2_1, wa2_1, le2_1, lt9_1, ha2_1, fi2_1, rfl, hla⟩ := hpost
  have hP : va_P D vwCl (mW cI cJ cB o kv kp kx kl kh ki kf kq ka kt kd kn (nI mpm) (nI mty) (nI wi2_1) (nI hi2_1) (nI wa2_1) (nI le2_1) (gI mgo) (nI mam) (bI mtm) (nI mli) (vF wd hd nb wl st sl gl aq lb sh bw bh ps) mpa (fun zz => nI (mtx zz)) (fun zz => nI (lt9_1 zz)) (fun zz => nI (ha2_1 zz)) (fun zz => nI (fi2_1 zz)) (fun zz => oI (mfa zz)) (fun zz => nI (mqu zz)) (fun zz => lN (mal zz)) (fun zz => nI (mta zz)) (fun zz => oI (mdi zz)) (fun zz => nI (mln zz))) H := hP
  have hD : va_D A (mW cI cJ cB o kv kp kx kl kh ki kf kq ka kt kd kn (nI mpm) (nI mty) (nI wi2_1) (nI hi2_1) (nI wa2_1) (nI le2_1) (gI mgo) (nI mam) (bI mtm) (nI mli) (vF wd hd nb wl st sl gl aq lb sh bw bh ps) mpa (fun zz => nI (mtx zz)) (fun zz => nI (lt9_1 zz)) (fun zz => nI (ha2_1 zz)) (fun zz => nI (fi2_1 zz)) (fun zz => oI (mfa zz)) (fun zz => nI (mqu zz)) (fun zz => lN (mal zz)) (fun zz => nI (mta zz)) (fun zz => oI (mdi zz)) (fun zz => nI (mln zz))) := hD
  refine lv_istore_n (lv' := [(1, .int r_1), (0, .ref o)]) hx hb dX8_wrongAt_4 rfl hl (by decide) rfl (fun ls hl => ?_)
  refine lv_iconst (v := nI 0) hx hb dX8_wrongAt_5 (by decide) ?_
  refine lv_istore_n (lv' := [(2, .int (nI 0)), (1, .int r_1), (0, .ref o)]) hx hb dX8_wrongAt_6 rfl hl (by decide) rfl (fun ls hl => ?_)
  have L7 : ∀ (n : Nat) (i : Nat) (rr : Int32), (i ≤ 7) → (WRI mtx mty i rr wi2_1 hi2_1 wa2_1 le2_1 lt9_1 ha2_1 fi2_1) → (le2_1 - i) < n → ∀ (H : Heap) (locs : List Loc), va_P D vwCl (mW cI cJ cB o kv kp kx kl kh ki kf kq ka kt kd kn (nI mpm) (nI mty) (nI wi2_1) (nI hi2_1) (nI wa2_1) (nI le2_1) (gI mgo) (nI mam) (bI mtm) (nI mli) (vF wd hd nb wl st sl gl aq lb sh bw bh ps) mpa (fun zz => nI (mtx zz)) (fun zz => nI (lt9_1 zz)) (fun zz => nI (ha2_1 zz)) (fun zz => nI (fi2_1 zz)) (fun zz => oI (mfa zz)) (fun zz => nI (mqu zz)) (fun zz => lN (mal zz)) (fun zz => nI (mta zz)) (fun zz => oI (mdi zz)) (fun zz => nI (mln zz))) H → va_D A (mW cI cJ cB o kv kp kx kl kh ki kf kq ka kt kd kn (nI mpm) (nI mty) (nI wi2_1) (nI hi2_1) (nI wa2_1) (nI le2_1) (gI mgo) (nI mam) (bI mtm) (nI mli) (vF wd hd nb wl st sl gl aq lb sh bw bh ps) mpa (fun zz => nI (mtx zz)) (fun zz => nI (lt9_1 zz)) (fun zz => nI (ha2_1 zz)) (fun zz => nI (fi2_1 zz)) (fun zz => oI (mfa zz)) (fun zz => nI (mqu zz)) (fun zz => lN (mal zz)) (fun zz => nI (mta zz)) (fun zz => oI (mdi zz)) (fun zz => nI (mln zz))) → va_S A s.heap H locs → ∀ ls : Array Slot, lv_has ls 3 [(1, .int rr), (2, .int (nI i)), (0, .ref o)] → W p l e (rmN 2) s m args below meth c H locs 0 0 QQ (F0 m 7 ls []) := by
    intro n; induction n with
    | zero => intro i rr ii iw hm; exact absurd hm (Nat.not_lt_zero _)
    | succ n ih7 =>
      intro i rr ii iw hm7 H locs hP hD hS ls hl
      have hle7 := WRI_le iw
      have hib : i < 2 ^ 31 := by omega
      refine lv_iload_n hx hb dX8_wrongAt_7 rfl (lv_at hl 1 rfl) ?_
      refine lv_aload_n hx hb dX8_wrongAt_8 rfl (lv_at hl 2 rfl) ?_
      refine gf_X8_70 hC hK hP 0 rfl rfl dX8_wrongAt_9 ?_
      refine n_icmp_ge (a := i) (b := le2_1) (tgt := 49) hx hb dX8_wrongAt_12 (by decide) (by omega) (by omega) (fun c12 => ?_) (fun c12 => ?_)
      · have _ : True := trivial
        refine lv_iload_n hx hb dX8_wrongAt_49 rfl (lv_at hl 0 rfl) ?_
        rw [hQ]
        exact W.iret (v := rr) hx hb hr (fun t9 ht hW => ⟨⟨_, _, rfl, ⟨wi2_1, hi2_1, wa2_1, le2_1, lt9_1, ha2_1, fi2_1, rfl, (WRI_end iw (Or.inl c12))⟩, by rw [ht]; exact hP, rfl⟩, hS.F ht⟩) hS.2.2 dX8_wrongAt_50
      · have _ : True := trivial
        refine lv_iload_n hx hb dX8_wrongAt_15 rfl (lv_at hl 0 rfl) ?_
        refine lv_if_ge (tgt := 49) hx hb dX8_wrongAt_16 (by decide) (fun c16 => ?_) (fun c16 => ?_)
        · have _ : True := trivial
          refine lv_iload_n hx hb dX8_wrongAt_49 rfl (lv_at hl 0 rfl) ?_
          rw [hQ]
          exact W.iret (v := rr) hx hb hr (fun t9 ht hW => ⟨⟨_, _, rfl, ⟨wi2_1, hi2_1, wa2_1, le2_1, lt9_1, ha2_1, fi2_1, rfl, (WRI_end iw (Or.inr (Int32.not_lt.mpr c16)))⟩, by rw [ht]; exact hP, rfl⟩, hS.F ht⟩) hS.2.2 dX8_wrongAt_50
        · have _ : True := trivial
          have hwj := WRI_neg (by omega) iw (Int32.not_le.mp c16)
          have hwb := WRJ_b hwj c12
          obtain ⟨hb1, hb2, hb3, hb4, hb5, hb6, hb7⟩ := hwb
          refine lv_aload_n hx hb dX8_wrongAt_19 rfl (lv_at hl 2 rfl) ?_
          refine lv_aload_n hx hb dX8_wrongAt_20 rfl (lv_at hl 2 rfl) ?_
          refine gf_X8_22 hC hK hP 0 rfl rfl dX8_wrongAt_21 ?_
          refine lv_iload_n hx hb dX8_wrongAt_24 rfl (lv_at hl 1 rfl) ?_
          refine n_iald hx hb hK hP 5 0 rfl rfl (by omega) (by decide) dX8_wrongAt_25 ?_
          refine callV_i (As := [.int (nI (ha2_1 i))]) (rest := []) [0, 1, 2, 3, 4, 5, 6, 7, 8, 9, 10, 11, 12] hC hK hN hP hD rfl (by decide) hS 0 (ci := 8) rfl rfl rfl (c_X8_isOne l D cI cJ cB o kv kp kx kl kh ki kf kq ka kt kd kn mpm mty wi2_1 hi2_1 wa2_1 le2_1 mam mli mgo mtm mpa mtx lt9_1 ha2_1 fi2_1 mqu mta mln mal mfa mdi wd hd nb wl st sl gl aq lb sh bw bh ps (ha2_1 i) (by omega) (by omega) (by omega) (by omega) (by omega)) q773 md_X8_isOne rfl hl.1 rfl (Nat.le_of_ble_eq_true rfl) dX8_wrongAt_26 ⟨Nat.le_of_ble_eq_true rfl, Nat.le_of_ble_eq_true rfl⟩ ⟨Nat.le_of_ble_eq_true rfl, Nat.le_of_ble_eq_true rfl⟩ (fun r_26 w H locs hpost hP hD hS => ?_)
          obtain ⟨rfl, rfl⟩ := hpost
          have hP : va_P D vwCl (mW cI cJ cB o kv kp kx kl kh ki kf kq ka kt kd kn (nI mpm) (nI mty) (nI wi2_1) (nI hi2_1) (nI wa2_1) (nI le2_1) (gI mgo) (nI mam) (bI mtm) (nI mli) (vF wd hd nb wl st sl gl aq lb sh bw bh ps) mpa (fun zz => nI (mtx zz)) (fun zz => nI (lt9_1 zz)) (fun zz => nI (ha2_1 zz)) (fun zz => nI (fi2_1 zz)) (fun zz => oI (mfa zz)) (fun zz => nI (mqu zz)) (fun zz => lN (mal zz)) (fun zz => nI (mta zz)) (fun zz => oI (mdi zz)) (fun zz => nI (mln zz))) H := hP
          have hD : va_D A (mW cI cJ cB o kv kp kx kl kh ki kf kq ka kt kd kn (nI mpm) (nI mty) (nI wi2_1) (nI hi2_1) (nI wa2_1) (nI le2_1) (gI mgo) (nI mam) (bI mtm) (nI mli) (vF wd hd nb wl st sl gl aq lb sh bw bh ps) mpa (fun zz => nI (mtx zz)) (fun zz => nI (lt9_1 zz)) (fun zz => nI (ha2_1 zz)) (fun zz => nI (fi2_1 zz)) (fun zz => oI (mfa zz)) (fun zz => nI (mqu zz)) (fun zz => lN (mal zz)) (fun zz => nI (mta zz)) (fun zz => oI (mdi zz)) (fun zz => nI (mln zz))) := hD
          refine b_if_eq (tgt := 36) hx hb dX8_wrongAt_29 (by decide) (fun c29 => ?_) (fun c29 => ?_)
          · have _ : True := trivial
            refine lv_aload_n hx hb dX8_wrongAt_36 rfl (lv_at hl 2 rfl) ?_
            refine gf_X8_25 hC hK hP 0 rfl rfl dX8_wrongAt_37 ?_
            refine lv_iload_n hx hb dX8_wrongAt_40 rfl (lv_at hl 1 rfl) ?_
            refine n_iald hx hb hK hP 6 0 rfl rfl (by omega) (by decide) dX8_wrongAt_41 ?_
            refine lv_istore_n (lv' := [(1, .int (nI (fi2_1 i))), (2, .int (nI i)), (0, .ref o)]) hx hb dX8_wrongAt_42 rfl hl (by decide) rfl (fun ls hl => ?_)
            refine lv_iinc (v := nI (i + 1)) (lv' := [(2, .int (nI (i + 1))), (1, .int (nI (fi2_1 i))), (0, .ref o)]) hx hb dX8_wrongAt_43 hl (k := 1) rfl (nI_1 _) (by decide) rfl (fun ls hl => ?_)
            refine lv_goto (tgt := 7) hx hb dX8_wrongAt_46 (by decide) ?_
            exact ih7 (i + 1) (nI (fi2_1 i)) (by omega) (WRJ_n hwj c12 c29) (by omega) _ _ hP hD hS _ (lv_sub hl [1, 0, 2] rfl)
          · have _ : True := trivial
            refine lv_iload_n hx hb dX8_wrongAt_32 rfl (lv_at hl 0 rfl) ?_
            refine lv_goto (tgt := 42) hx hb dX8_wrongAt_33 (by decide) ?_
            refine lv_istore_n (lv' := [(1, .int rr), (2, .int (nI i)), (0, .ref o)]) hx hb dX8_wrongAt_42 rfl hl (by decide) rfl (fun ls hl => ?_)
            refine lv_iinc (v := nI (i + 1)) (lv' := [(2, .int (nI (i + 1))), (1, .int rr), (0, .ref o)]) hx hb dX8_wrongAt_43 hl (k := 1) rfl (nI_1 _) (by decide) rfl (fun ls hl => ?_)
            refine lv_goto (tgt := 7) hx hb dX8_wrongAt_46 (by decide) ?_
            exact ih7 (i + 1) rr (by omega) (WRJ_y hwj c12 c29) (by omega) _ _ hP hD hS _ (lv_sub hl [1, 0, 2] rfl)
  exact L7 _ 0 r_1 (by omega) (WRI_0 hla) (Nat.lt_succ_self _) _ _ hP hD hS _ (lv_sub hl [1, 0, 2] rfl)
