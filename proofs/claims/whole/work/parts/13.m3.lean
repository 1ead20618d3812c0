set_option maxHeartbeats 400000 in
set_option maxRecDepth 100000 in
theorem c_X8_isMove (l : Launch) (D : va_G) (cI cJ cB : ClassId) (o kv kp kx kl kh ki kf kq ka kt kd kn mpm mty mwi mhi mwa mle mam mli : Nat) (mgo : Option Nat) (mtm : Bool) (mpa : Nat → Int32) (mtx mlt mha mfi mqu mta mln mal : Nat → Nat) (mfa mdi : Nat → Option Nat) (wd hd nb wl : Nat) (st sl : Int32) (gl aq lb : Option Nat) (sh bw bh ps : Nat → Nat) (q : Nat) (z : Bool) (hq : q < 24) (ho : ∀ d, mfa q = some d → d < 2 ^ 31) : Met l yX8_isMove (Cond.code yX8_isMove cX8_isMove 3 (some .boolean) :: lw_all) (rmN 0) (va_Pc [.ref o, .int (nI q), .int (bI z)] (pB D (tyz cI cJ cB) (mW cI cJ cB o kv kp kx kl kh ki kf kq ka kt kd kn (nI mpm) (nI mty) (nI mwi) (nI mhi) (nI mwa) (nI mle) (gI mgo) (nI mam) (bI mtm) (nI mli) (vF wd hd nb wl st sl gl aq lb sh bw bh ps) mpa (fun zz => nI (mtx zz)) (fun zz => nI (mlt zz)) (fun zz => nI (mha zz)) (fun zz => nI (mfi zz)) (fun zz => oI (mfa zz)) (fun zz => nI (mqu zz)) (fun zz => lN (mal zz)) (fun zz => nI (mta zz)) (fun zz => oI (mdi zz)) (fun zz => nI (mln zz))))) (va_Qi (fun (r : Int32) (w : va_W) => r = bI (isMv z (mfa q)) ∧ w = mW cI cJ cB o kv kp kx kl kh ki kf kq ka kt kd kn (nI mpm) (nI mty) (nI mwi) (nI mhi) (nI mwa) (nI mle) (gI mgo) (nI mam) (bI mtm) (nI mli) (vF wd hd nb wl st sl gl aq lb sh bw bh ps) mpa (fun zz => nI (mtx zz)) (fun zz => nI (mlt zz)) (fun zz => nI (mha zz)) (fun zz => nI (mfi zz)) (fun zz => oI (mfa zz)) (fun zz => nI (mqu zz)) (fun zz => lN (mal zz)) (fun zz => nI (mta zz)) (fun zz => oI (mdi zz)) (fun zz => nI (mln zz))) (gB D (mW cI cJ cB o kv kp kx kl kh ki kf kq ka kt kd kn (nI mpm) (nI mty) (nI mwi) (nI mhi) (nI mwa) (nI mle) (gI mgo) (nI mam) (bI mtm) (nI mli) (vF wd hd nb wl st sl gl aq lb sh bw bh ps) mpa (fun zz => nI (mtx zz)) (fun zz => nI (mlt zz)) (fun zz => nI (mha zz)) (fun zz => nI (mfi zz)) (fun zz => oI (mfa zz)) (fun zz => nI (mqu zz)) (fun zz => lN (mal zz)) (fun zz => nI (mta zz)) (fun zz => oI (mdi zz)) (fun zz => nI (mln zz)))) (aW (mW cI cJ cB o kv kp kx kl kh ki kf kq ka kt kd kn (nI mpm) (nI mty) (nI mwi) (nI mhi) (nI mwa) (nI mle) (gI mgo) (nI mam) (bI mtm) (nI mli) (vF wd hd nb wl st sl gl aq lb sh bw bh ps) mpa (fun zz => nI (mtx zz)) (fun zz => nI (mlt zz)) (fun zz => nI (mha zz)) (fun zz => nI (mfi zz)) (fun zz => oI (mfa zz)) (fun zz => nI (mqu zz)) (fun zz => lN (mal zz)) (fun zz => nI (mta zz)) (fun zz => oI (mdi zz)) (fun zz => nI (mln zz))))) 0 0 (aW (mW cI cJ cB o kv kp kx kl kh ki kf kq ka kt kd kn (nI mpm) (nI mty) (nI mwi) (nI mhi) (nI mwa) (nI mle) (gI mgo) (nI mam) (bI mtm) (nI mli) (vF wd hd nb wl st sl gl aq lb sh bw bh ps) mpa (fun zz => nI (mtx zz)) (fun zz => nI (mlt zz)) (fun zz => nI (mha zz)) (fun zz => nI (mfi zz)) (fun zz => oI (mfa zz)) (fun zz => nI (mqu zz)) (fun zz => lN (mal zz)) (fun zz => nI (mta zz)) (fun zz => oI (mdi zz)) (fun zz => nI (mln zz)))) := by
  refine Met.ofW (cc := cX8_isMove) (maxL := 3) (ret := (some .boolean)) (by decide) rfl ?_
  intro p e s m args below meth c s₁ B hml hv
  obtain ⟨rfl, hK, hN, hP, hD0⟩ := hv
  have hx := B.exec; have hb := B.bytes; have hr := B.returns; have hlocks := B.notSynchronized
  have hts0 := atoms_spec (ws := Cond.code yX8_isMove cX8_isMove 3 (some .boolean) :: lw_all) B.pre
  have hC : CallFix p m c cX8_isMove 3 s _ lw_all RX8 := ⟨hx, hb, hml, findClass_of_methodNamed B.named, fun w h => hts0 w (List.mem_cons_of_mem _ h)⟩
  have hD : va_D (aW (mW cI cJ cB o kv kp kx kl kh ki kf kq ka kt kd kn (nI mpm) (nI mty) (nI mwi) (nI mhi) (nI mwa) (nI mle) (gI mgo) (nI mam) (bI mtm) (nI mli) (vF wd hd nb wl st sl gl aq lb sh bw bh ps) mpa (fun zz => nI (mtx zz)) (fun zz => nI (mlt zz)) (fun zz => nI (mha zz)) (fun zz => nI (mfi zz)) (fun zz => oI (mfa zz)) (fun zz => nI (mqu zz)) (fun zz => lN (mal zz)) (fun zz => nI (mta zz)) (fun zz => oI (mdi zz)) (fun zz => nI (mln zz)))) (mW cI cJ cB o kv kp kx kl kh ki kf kq ka kt kd kn (nI mpm) (nI mty) (nI mwi) (nI mhi) (nI mwa) (nI mle) (gI mgo) (nI mam) (bI mtm) (nI mli) (vF wd hd nb wl st sl gl aq lb sh bw bh ps) mpa (fun zz => nI (mtx zz)) (fun zz => nI (mlt zz)) (fun zz => nI (mha zz)) (fun zz => nI (mfi zz)) (fun zz => oI (mfa zz)) (fun zz => nI (mqu zz)) (fun zz => lN (mal zz)) (fun zz => nI (mta zz)) (fun zz => oI (mdi zz)) (fun zz => nI (mln zz))) := ⟨hD0.1, fun k q h => ⟨k, q.2, h⟩⟩
  generalize hAe : aW (mW cI cJ cB o kv kp kx kl kh ki kf kq ka kt kd kn (nI mpm) (nI mty) (nI mwi) (nI mhi) (nI mwa) (nI mle) (gI mgo) (nI mam) (bI mtm) (nI mli) (vF wd hd nb wl st sl gl aq lb sh bw bh ps) mpa (fun zz => nI (mtx zz)) (fun zz => nI (mlt zz)) (fun zz => nI (mha zz)) (fun zz => nI (mfi zz)) (fun zz => oI (mfa zz)) (fun zz => nI (mqu zz)) (fun zz => lN (mal zz)) (fun zz => nI (mta zz)) (fun zz => oI (mdi zz)) (fun zz => nI (mln zz))) = A at hD ⊢
  have hS : va_S A s.heap s.heap [] := va_S.rf
  have hl := lv_entry ([.ref o, .int (nI q), .int (bI z)]) (n := 3) (Nat.le_of_ble_eq_true rfl)
  rw [lg_entry_eq]
  generalize (lg_sl ([.ref o, .int (nI q), .int (bI z)]) ++ List.replicate (3 - (lg_sl ([.ref o, .int (nI q), .int (bI z)])).length) Slot.unset).toArray = ls at hl ⊢
  have hl : lv_has ls 3 [(0, .ref o), (1, .int (nI q)), (2, .int (bI z))] := hl
  generalize hav : ([.ref o, .int (nI q), .int (bI z)] : List Value).toArray = args at hC ⊢
  refine W_gen (fun QQ hQ => ?_)
  show W p l e (rmN 0) s m args below meth c s.heap [] 0 0 QQ (F0 m 0 ls [])
  refine lv_iload_n hx hb dX8_isMove_0 rfl (lv_at hl 2 rfl) ?_
  refine b_if_eq (tgt := 21) hx hb dX8_isMove_1 (by decide) (fun c1 => ?_) (fun c1 => ?_)
  · have _ : True := trivial
    refine lv_aload_n hx hb dX8_isMove_21 rfl (lv_at hl 0 rfl) ?_
    refine gf_X8_32 hC hK hP 0 rfl rfl dX8_isMove_22 ?_
    refine lv_iload_n hx hb dX8_isMove_25 rfl (lv_at hl 1 rfl) ?_
    refine n_iald hx hb hK hP 7 0 rfl rfl (by omega) (by decide) dX8_isMove_26 ?_
    refine lv_iconst (v := nI 1) hx hb dX8_isMove_27 (by decide) ?_
    refine lv_icmp_ne (tgt := 35) hx hb dX8_isMove_28 (by decide) (fun c28 => ?_) (fun c28 => ?_)
    · have _ : True := trivial
      refine lv_iconst (v := nI 0) hx hb dX8_isMove_35 (by decide) ?_
      refine topi (y := bI (isMv z (mfa q))) (by rw [c1]; exact isMvC c28) ?_
      rw [hQ]
      exact W.zret (v := bI (isMv z (mfa q))) hx hb hr (bnar _) (fun t9 ht hW => ⟨⟨_, _, rfl, ⟨rfl, rfl⟩, by rw [ht]; exact hP, rfl⟩, hS.F ht⟩) hS.2.2 dX8_isMove_36
    · have _ : True := trivial
      refine lv_iconst (v := nI 1) hx hb dX8_isMove_31 (by decide) ?_
      refine topi (y := bI (isMv z (mfa q))) (by rw [c1]; exact isMvD ho c28) ?_
      refine lv_goto (tgt := 36) hx hb dX8_isMove_32 (by decide) ?_
      rw [hQ]
      exact W.zret (v := bI (isMv z (mfa q))) hx hb hr (bnar _) (fun t9 ht hW => ⟨⟨_, _, rfl, ⟨rfl, rfl⟩, by rw [ht]; exact hP, rfl⟩, hS.F ht⟩) hS.2.2 dX8_isMove_36
  · have _ : True := trivial
    refine lv_aload_n hx hb dX8_isMove_4 rfl (lv_at hl 0 rfl) ?_
    refine gf_X8_32 hC hK hP 0 rfl rfl dX8_isMove_5 ?_
    refine lv_iload_n hx hb dX8_isMove_8 rfl (lv_at hl 1 rfl) ?_
    refine n_iald hx hb hK hP 7 0 rfl rfl (by omega) (by decide) dX8_isMove_9 ?_
    refine lv_if_le (tgt := 17) hx hb dX8_isMove_10 (by decide) (fun c10 => ?_) (fun c10 => ?_)
    · have _ : True := trivial
      refine lv_iconst (v := nI 0) hx hb dX8_isMove_17 (by decide) ?_
      refine topi (y := bI (isMv z (mfa q))) (by rw [c1]; exact isMvB ho c10) ?_
      refine lv_goto (tgt := 36) hx hb dX8_isMove_18 (by decide) ?_
      rw [hQ]
      exact W.zret (v := bI (isMv z (mfa q))) hx hb hr (bnar _) (fun t9 ht hW => ⟨⟨_, _, rfl, ⟨rfl, rfl⟩, by rw [ht]; exact hP, rfl⟩, hS.F ht⟩) hS.2.2 dX8_isMove_36
    · have _ : True := trivial
      refine lv_iconst (v := nI 1) hx hb dX8_isMove_13 (by decide) ?_
      refine topi (y := bI (isMv z (mfa q))) (by rw [c1]; exact isMvA c10) ?_
      refine lv_goto (tgt := 36) hx hb dX8_isMove_14 (by decide) ?_
      rw [hQ]
      exact W.zret (v := bI (isMv z (mfa q))) hx hb hr (bnar _) (fun t9 ht hW => ⟨⟨_, _, rfl, ⟨rfl, rfl⟩, by rw [ht]; exact hP, rfl⟩, hS.F ht⟩) hS.2.2 dX8_isMove_36

set_option maxHeartbeats 400000 in
set_option maxRecDepth 100000 in
theorem c_X8_slot (l : Launch) (D : va_G) (cI cJ cB : ClassId) (o kv kp kx kl kh ki kf kq ka kt kd kn mpm mty mwi mhi mwa mle mam mli : Nat) (mgo : Option Nat) (mtm : Bool) (mpa : Nat → Int32) (mtx mlt mha mfi mqu mta mln mal : Nat → Nat) (mfa mdi : Nat → Option Nat) (wd hd nb wl : Nat) (st sl : Int32) (gl aq lb : Option Nat) (sh bw bh ps : Nat → Nat) (k : Nat) (hk : k < 2 ^ 35) (hT : TI 8192 hM mal mam mta) (ham : mam ≤ 2000) (hal : ∀ i, i < mam → mal i < 2 ^ 35) : Met l yX8_slot (Cond.code yX8_slot cX8_slot 4 (some .int) :: lw_all) (rmN 0) (va_Pc [.ref o, .long (lN k)] (pB D (tyz cI cJ cB) (mW cI cJ cB o kv kp kx kl kh ki kf kq ka kt kd kn (nI mpm) (nI mty) (nI mwi) (nI mhi) (nI mwa) (nI mle) (gI mgo) (nI mam) (bI mtm) (nI mli) (vF wd hd nb wl st sl gl aq lb sh bw bh ps) mpa (fun zz => nI (mtx zz)) (fun zz => nI (mlt zz)) (fun zz => nI (mha zz)) (fun zz => nI (mfi zz)) (fun zz => oI (mfa zz)) (fun zz => nI (mqu zz)) (fun zz => lN (mal zz)) (fun zz => nI (mta zz)) (fun zz => oI (mdi zz)) (fun zz => nI (mln zz))))) (va_Qi (fun (r : Int32) (w : va_W) => ∃ t : Nat, r = nI ((hM k + t) % 8192) ∧ w = mW cI cJ cB o kv kp kx kl kh ki kf kq ka kt kd kn (nI mpm) (nI mty) (nI mwi) (nI mhi) (nI mwa) (nI mle) (gI mgo) (nI mam) (bI mtm) (nI mli) (vF wd hd nb wl st sl gl aq lb sh bw bh ps) mpa (fun zz => nI (mtx zz)) (fun zz => nI (mlt zz)) (fun zz => nI (mha zz)) (fun zz => nI (mfi zz)) (fun zz => oI (mfa zz)) (fun zz => nI (mqu zz)) (fun zz => lN (mal zz)) (fun zz => nI (mta zz)) (fun zz => oI (mdi zz)) (fun zz => nI (mln zz)) ∧ t < 8192 ∧ TW 8192 hM mal mta k t ∧ (mta ((hM k + t) % 8192) = 0 ∨ 0 < mta ((hM k + t) % 8192) ∧ mal (mta ((hM k + t) % 8192) - 1) = k)) (gB D (mW cI cJ cB o kv kp kx kl kh ki kf kq ka kt kd kn (nI mpm) (nI mty) (nI mwi) (nI mhi) (nI mwa) (nI mle) (gI mgo) (nI mam) (bI mtm) (nI mli) (vF wd hd nb wl st sl gl aq lb sh bw bh ps) mpa (fun zz => nI (mtx zz)) (fun zz => nI (mlt zz)) (fun zz => nI (mha zz)) (fun zz => nI (mfi zz)) (fun zz => oI (mfa zz)) (fun zz => nI (mqu zz)) (fun zz => lN (mal zz)) (fun zz => nI (mta zz)) (fun zz => oI (mdi zz)) (fun zz => nI (mln zz)))) (aW (mW cI cJ cB o kv kp kx kl kh ki kf kq ka kt kd kn (nI mpm) (nI mty) (nI mwi) (nI mhi) (nI mwa) (nI mle) (gI mgo) (nI mam) (bI mtm) (nI mli) (vF wd hd nb wl st sl gl aq lb sh bw bh ps) mpa (fun zz => nI (mtx zz)) (fun zz => nI (mlt zz)) (fun zz => nI (mha zz)) (fun zz => nI (mfi zz)) (fun zz => oI (mfa zz)) (fun zz => nI (mqu zz)) (fun zz => lN (mal zz)) (fun zz => nI (mta zz)) (fun zz => oI (mdi zz)) (fun zz => nI (mln zz))))) 0 0 (aW (mW cI cJ cB o kv kp kx kl kh ki kf kq ka kt kd kn (nI mpm) (nI mty) (nI mwi) (nI mhi) (nI mwa) (nI mle) (gI mgo) (nI mam) (bI mtm) (nI mli) (vF wd hd nb wl st sl gl aq lb sh bw bh ps) mpa (fun zz => nI (mtx zz)) (fun zz => nI (mlt zz)) (fun zz => nI (mha zz)) (fun zz => nI (mfi zz)) (fun zz => oI (mfa zz)) (fun zz => nI (mqu zz)) (fun zz => lN (mal zz)) (fun zz => nI (mta zz)) (fun zz => oI (mdi zz)) (fun zz => nI (mln zz)))) := by
  refine Met.ofW (cc := cX8_slot) (maxL := 4) (ret := (some .int)) (by decide) rfl ?_
  intro p e s m args below meth c s₁ B hml hv
  obtain ⟨rfl, hK, hN, hP, hD0⟩ := hv
  have hx := B.exec; have hb := B.bytes; have hr := B.returns; have hlocks := B.notSynchronized
  have hts0 := atoms_spec (ws := Cond.code yX8_slot cX8_slot 4 (some .int) :: lw_all) B.pre
  have hC : CallFix p m c cX8_slot 4 s _ lw_all RX8 := ⟨hx, hb, hml, findClass_of_methodNamed B.named, fun w h => hts0 w (List.mem_cons_of_mem _ h)⟩
  have hD : va_D (aW (mW cI cJ cB o kv kp kx kl kh ki kf kq ka kt kd kn (nI mpm) (nI mty) (nI mwi) (nI mhi) (nI mwa) (nI mle) (gI mgo) (nI mam) (bI mtm) (nI mli) (vF wd hd nb wl st sl gl aq lb sh bw bh ps) mpa (fun zz => nI (mtx zz)) (fun zz => nI (mlt zz)) (fun zz => nI (mha zz)) (fun zz => nI (mfi zz)) (fun zz => oI (mfa zz)) (fun zz => nI (mqu zz)) (fun zz => lN (mal zz)) (fun zz => nI (mta zz)) (fun zz => oI (mdi zz)) (fun zz => nI (mln zz)))) (mW cI cJ cB o kv kp kx kl kh ki kf kq ka kt kd kn (nI mpm) (nI mty) (nI mwi) (nI mhi) (nI mwa) (nI mle) (gI mgo) (nI mam) (bI mtm) (nI mli) (vF wd hd nb wl st sl gl aq lb sh bw bh ps) mpa (fun zz => nI (mtx zz)) (fun zz => nI (mlt zz)) (fun zz => nI (mha zz)) (fun zz => nI (mfi zz)) (fun zz => oI (mfa zz)) (fun zz => nI (mqu zz)) (fun zz => lN (mal zz)) (fun zz => nI (mta zz)) (fun zz => oI (mdi zz)) (fun zz => nI (mln zz))) := ⟨hD0.1, fun k q h => ⟨k, q.2, h⟩⟩
  generalize hAe : aW (mW cI cJ cB o kv kp kx kl kh ki kf kq ka kt kd kn (nI mpm) (nI mty) (nI mwi) (nI mhi) (nI mwa) (nI mle) (gI mgo) (nI mam) (bI mtm) (nI mli) (vF wd hd nb wl st sl gl aq lb sh bw bh ps) mpa (fun zz => nI (mtx zz)) (fun zz => nI (mlt zz)) (fun zz => nI (mha zz)) (fun zz => nI (mfi zz)) (fun zz => oI (mfa zz)) (fun zz => nI (mqu zz)) (fun zz => lN (mal zz)) (fun zz => nI (mta zz)) (fun zz => oI (mdi zz)) (fun zz => nI (mln zz))) = A at hD ⊢
  have hS : va_S A s.heap s.heap [] := va_S.rf
  have hl := lv_entry ([.ref o, .long (lN k)]) (n := 4) (Nat.le_of_ble_eq_true rfl)
  rw [lg_entry_eq]
  generalize (lg_sl ([.ref o, .long (lN k)]) ++ List.replicate (4 - (lg_sl ([.ref o, .long (lN k)])).length) Slot.unset).toArray = ls at hl ⊢
  have hl : lv_has ls 4 [(0, .ref o), (1, .long (lN k))] := hl
  generalize hav : ([.ref o, .long (lN k)] : List Value).toArray = args at hC ⊢
  refine W_gen (fun QQ hQ => ?_)
  show W p l e (rmN 0) s m args below meth c s.heap [] 0 0 QQ (F0 m 0 ls [])
  refine lv_lload_n hx hb dX8_slot_0 rfl (lv_at hl 1 rfl) ?_
  refine lv_lload_n hx hb dX8_slot_1 rfl (lv_at hl 1 rfl) ?_
  refine lv_bipush (v := nI 13) hx hb dX8_slot_2 (by decide) ?_
  refine n_lshr hx hb dX8_slot_4 (by omega) (by omega) ?_
  refine n_lxor hx hb dX8_slot_5 ?_
  refine lv_lload_n hx hb dX8_slot_6 rfl (lv_at hl 1 rfl) ?_
  refine lv_bipush (v := nI 23) hx hb dX8_slot_7 (by decide) ?_
  refine n_lshr hx hb dX8_slot_9 (by omega) (by omega) ?_
  refine n_lxor hx hb dX8_slot_10 ?_
  refine lv_ldc2 (v := lN 8191) hx hb hC.2.2.2.1 (hC.2.2.2.2 _ q891) dX8_slot_11 ?_
  refine n_land hx hb dX8_slot_14 ?_
  refine lv_l2i (v := nI (((k ^^^ (k / 2 ^ 13)) ^^^ (k / 2 ^ 23)) &&& 8191)) hx hb dX8_slot_15 (lN_i _) ?_
  refine topi (y := nI ((hM k + 0) % 8192)) (hM_0 k) ?_
  refine lv_istore_n (lv' := [(3, .int (nI ((hM k + 0) % 8192))), (0, .ref o), (1, .long (lN k))]) hx hb dX8_slot_16 rfl hl (by decide) rfl (fun ls hl => ?_)
  have L17 : ∀ (n : Nat) (t : Nat), (TW 8192 hM mal mta k t) → (t < 8192) → (8192 - t) < n → ∀ (H : Heap) (locs : List Loc), va_P D vwCl (mW cI cJ cB o kv kp kx kl kh ki kf kq ka kt kd kn (nI mpm) (nI mty) (nI mwi) (nI mhi) (nI mwa) (nI mle) (gI mgo) (nI mam) (bI mtm) (nI mli) (vF wd hd nb wl st sl gl aq lb sh bw bh ps) mpa (fun zz => nI (mtx zz)) (fun zz => nI (mlt zz)) (fun zz => nI (mha zz)) (fun zz => nI (mfi zz)) (fun zz => oI (mfa zz)) (fun zz => nI (mqu zz)) (fun zz => lN (mal zz)) (fun zz => nI (mta zz)) (fun zz => oI (mdi zz)) (fun zz => nI (mln zz))) H → va_D A (mW cI cJ cB o kv kp kx kl kh ki kf kq ka kt kd kn (nI mpm) (nI mty) (nI mwi) (nI mhi) (nI mwa) (nI mle) (gI mgo) (nI mam) (bI mtm) (nI mli) (vF wd hd nb wl st sl gl aq lb sh bw bh ps) mpa (fun zz => nI (mtx zz)) (fun zz => nI (mlt zz)) (fun zz => nI (mha zz)) (fun zz => nI (mfi zz)) (fun zz => oI (mfa zz)) (fun zz => nI (mqu zz)) (fun zz => lN (mal zz)) (fun zz => nI (mta zz)) (fun zz => oI (mdi zz)) (fun zz => nI (mln zz))) → va_S A s.heap H locs → ∀ ls : Array Slot, lv_has ls 4 [(3, .int (nI ((hM k + t) % 8192))), (0, .ref o), (1, .long (lN k))] → W p l e (rmN 0) s m args below meth c H locs 0 0 QQ (F0 m 17 ls []) := by
    intro n; induction n with
    | zero => intro t iw it hm; exact absurd hm (Nat.not_lt_zero _)
    | succ n ih17 =>
      intro t iw it hm17 H locs hP hD hS ls hl
      have hle := hT.2.1 ((hM k + t) % 8192) (Nat.mod_lt _ (by decide))
      refine lv_aload_n hx hb dX8_slot_17 rfl (lv_at hl 1 rfl) ?_
      refine gf_X8_42 hC hK hP 0 rfl rfl dX8_slot_18 ?_
      refine lv_iload_n hx hb dX8_slot_21 rfl (lv_at hl 0 rfl) ?_
      refine n_iald hx hb hK hP 10 0 rfl rfl (Nat.mod_lt _ (by decide)) (by decide) dX8_slot_22 ?_
      refine n_if_le (tgt := 55) hx hb dX8_slot_23 (by decide) (by omega) (fun c23 => ?_) (fun c23 => ?_)
      · have _ : True := trivial
        refine lv_iload_n hx hb dX8_slot_55 rfl (lv_at hl 0 rfl) ?_
        rw [hQ]
        exact W.iret (v := nI ((hM k + t) % 8192)) hx hb hr (fun t9 ht hW => ⟨⟨_, _, rfl, ⟨t, rfl, rfl, it, iw, Or.inl c23⟩, by rw [ht]; exact hP, rfl⟩, hS.F ht⟩) hS.2.2 dX8_slot_56
      · have _ : True := trivial
        refine lv_aload_n hx hb dX8_slot_26 rfl (lv_at hl 1 rfl) ?_
        refine gf_X8_38 hC hK hP 0 rfl rfl dX8_slot_27 ?_
        refine lv_aload_n hx hb dX8_slot_30 rfl (lv_at hl 1 rfl) ?_
        refine gf_X8_42 hC hK hP 0 rfl rfl dX8_slot_31 ?_
        refine lv_iload_n hx hb dX8_slot_34 rfl (lv_at hl 0 rfl) ?_
        refine n_iald hx hb hK hP 10 0 rfl rfl (Nat.mod_lt _ (by decide)) (by decide) dX8_slot_35 ?_
        refine lv_iconst (v := nI 1) hx hb dX8_slot_36 (by decide) ?_
        refine n_isub hx hb dX8_slot_37 (by omega) ?_
        refine n_lald hx hb hK hP 9 1 rfl rfl (by omega) (by decide) dX8_slot_38 ?_
        refine lv_lload_n hx hb dX8_slot_39 rfl (lv_at hl 2 rfl) ?_
        refine n_lcmp hx hb dX8_slot_40 ?_
        refine l_if_eq (a := mal ((mta ((hM k + t) % 8192)) - 1)) (b := k) (tgt := 55) hx hb dX8_slot_41 (by decide) (by have := hal (mta ((hM k + t) % 8192) - 1) (by omega); omega) (by omega) (fun c41 => ?_) (fun c41 => ?_)
        · have _ : True := trivial
          refine lv_iload_n hx hb dX8_slot_55 rfl (lv_at hl 0 rfl) ?_
          rw [hQ]
          exact W.iret (v := nI ((hM k + t) % 8192)) hx hb hr (fun t9 ht hW => ⟨⟨_, _, rfl, ⟨t, rfl, rfl, it, iw, Or.inr ⟨c23, c41⟩⟩, by rw [ht]; exact hP, rfl⟩, hS.F ht⟩) hS.2.2 dX8_slot_56
        · have _ : True := trivial
          refine lv_iload_n hx hb dX8_slot_44 rfl (lv_at hl 0 rfl) ?_
          refine lv_iconst (v := nI 1) hx hb dX8_slot_45 (by decide) ?_
          refine n_iadd hx hb dX8_slot_46  ?_
          refine lv_sipush (v := nI 8191) hx hb dX8_slot_47 (by decide) ?_
          refine n_iand hx hb dX8_slot_50  ?_
          refine topi (y := nI ((hM k + (t + 1)) % 8192)) (hM_s _ t) ?_
          refine lv_istore_n (lv' := [(3, .int (nI ((hM k + (t + 1)) % 8192))), (0, .ref o), (1, .long (lN k))]) hx hb dX8_slot_51 rfl hl (by decide) rfl (fun ls hl => ?_)
          refine lv_goto (tgt := 17) hx hb dX8_slot_52 (by decide) ?_
          exact ih17 (t + 1) (TW_s iw (by omega) c41) (TW_lt hT (TW_s iw (by omega) c41) (by omega)) (by omega) _ _ hP hD hS _ (lv_sub hl [0, 1, 2] rfl)
  exact L17 _ 0 TW_0 (by omega) (Nat.lt_succ_self _) _ _ hP hD hS _ (lv_sub hl [0, 1, 2] rfl)

set_option maxHeartbeats 400000 in
set_option maxRecDepth 100000 in
theorem c_X8_finds (l : Launch) (D : va_G) (cI cJ cB : ClassId) (o kv kp kx kl kh ki kf kq ka kt kd kn mpm mty mwi mhi mwa mle mam mli : Nat) (mgo : Option Nat) (mtm : Bool) (mpa : Nat → Int32) (mtx mlt mha mfi mqu mta mln mal : Nat → Nat) (mfa mdi : Nat → Option Nat) (wd hd nb wl : Nat) (st sl : Int32) (gl aq lb : Option Nat) (sh bw bh ps : Nat → Nat) (k : Nat) (hk : k < 2 ^ 35) (hT : TI 8192 hM mal mam mta) (ham : mam ≤ 2000) (hal : ∀ i, i < mam → mal i < 2 ^ 35) : Met l yX8_finds (Cond.code yX8_finds cX8_finds 4 none :: lw_all) (rmN 1) (va_Pc [.ref o, .long (lN k)] (pB D (tyz cI cJ cB) (mW cI cJ cB o kv kp kx kl kh ki kf kq ka kt kd kn (nI mpm) (nI mty) (nI mwi) (nI mhi) (nI mwa) (nI mle) (gI mgo) (nI mam) (bI mtm) (nI mli) (vF wd hd nb wl st sl gl aq lb sh bw bh ps) mpa (fun zz => nI (mtx zz)) (fun zz => nI (mlt zz)) (fun zz => nI (mha zz)) (fun zz => nI (mfi zz)) (fun zz => oI (mfa zz)) (fun zz => nI (mqu zz)) (fun zz => lN (mal zz)) (fun zz => nI (mta zz)) (fun zz => oI (mdi zz)) (fun zz => nI (mln zz))))) (va_Qv (fun (w : va_W) => ∃ K2 : Nat → Nat, ∃ n2 : Nat, ∃ T2 : Nat → Nat, ∃ tm2 : Bool, w = mW cI cJ cB o kv kp kx kl kh ki kf kq ka kt kd kn (nI mpm) (nI mty) (nI mwi) (nI mhi) (nI mwa) (nI mle) (gI mgo) (nI n2) (bI tm2) (nI mli) (vF wd hd nb wl st sl gl aq lb sh bw bh ps) mpa (fun zz => nI (mtx zz)) (fun zz => nI (mlt zz)) (fun zz => nI (mha zz)) (fun zz => nI (mfi zz)) (fun zz => oI (mfa zz)) (fun zz => nI (mqu zz)) (fun zz => lN (K2 zz)) (fun zz => nI (T2 zz)) (fun zz => oI (mdi zz)) (fun zz => nI (mln zz)) ∧ FDS mal mam mta mtm k K2 n2 T2 tm2) (gB D (mW cI cJ cB o kv kp kx kl kh ki kf kq ka kt kd kn (nI mpm) (nI mty) (nI mwi) (nI mhi) (nI mwa) (nI mle) (gI mgo) (nI mam) (bI mtm) (nI mli) (vF wd hd nb wl st sl gl aq lb sh bw bh ps) mpa (fun zz => nI (mtx zz)) (fun zz => nI (mlt zz)) (fun zz => nI (mha zz)) (fun zz => nI (mfi zz)) (fun zz => oI (mfa zz)) (fun zz => nI (mqu zz)) (fun zz => lN (mal zz)) (fun zz => nI (mta zz)) (fun zz => oI (mdi zz)) (fun zz => nI (mln zz)))) (aW (mW cI cJ cB o kv kp kx kl kh ki kf kq ka kt kd kn (nI mpm) (nI mty) (nI mwi) (nI mhi) (nI mwa) (nI mle) (gI mgo) (nI mam) (bI mtm) (nI mli) (vF wd hd nb wl st sl gl aq lb sh bw bh ps) mpa (fun zz => nI (mtx zz)) (fun zz => nI (mlt zz)) (fun zz => nI (mha zz)) (fun zz => nI (mfi zz)) (fun zz => oI (mfa zz)) (fun zz => nI (mqu zz)) (fun zz => lN (mal zz)) (fun zz => nI (mta zz)) (fun zz => oI (mdi zz)) (fun zz => nI (mln zz))))) 0 0 (aW (mW cI cJ cB o kv kp kx kl kh ki kf kq ka kt kd kn (nI mpm) (nI mty) (nI mwi) (nI mhi) (nI mwa) (nI mle) (gI mgo) (nI mam) (bI mtm) (nI mli) (vF wd hd nb wl st sl gl aq lb sh bw bh ps) mpa (fun zz => nI (mtx zz)) (fun zz => nI (mlt zz)) (fun zz => nI (mha zz)) (fun zz => nI (mfi zz)) (fun zz => oI (mfa zz)) (fun zz => nI (mqu zz)) (fun zz => lN (mal zz)) (fun zz => nI (mta zz)) (fun zz => oI (mdi zz)) (fun zz => nI (mln zz)))) := by
  refine Met.ofW (cc := cX8_finds) (maxL := 4) (ret := none) (by decide) rfl ?_
  intro p e s m args below meth c s₁ B hml hv
  obtain ⟨rfl, hK, hN, hP, hD0⟩ := hv
  have hx := B.exec; have hb := B.bytes; have hr := B.returns; have hlocks := B.notSynchronized
  have hts0 := atoms_spec (ws := Cond.code yX8_finds cX8_finds 4 none :: lw_all) B.pre
  have hC : CallFix p m c cX8_finds 4 s _ lw_all RX8 := ⟨hx, hb, hml, findClass_of_methodNamed B.named, fun w h => hts0 w (List.mem_cons_of_mem _ h)⟩
  have hD : va_D (aW (mW cI cJ cB o kv kp kx kl kh ki kf kq ka kt kd kn (nI mpm) (nI mty) (nI mwi) (nI mhi) (nI mwa) (nI mle) (gI mgo) (nI mam) (bI mtm) (nI mli) (vF wd hd nb wl st sl gl aq lb sh bw bh ps) mpa (fun zz => nI (mtx zz)) (fun zz => nI (mlt zz)) (fun zz => nI (mha zz)) (fun zz => nI (mfi zz)) (fun zz => oI (mfa zz)) (fun zz => nI (mqu zz)) (fun zz => lN (mal zz)) (fun zz => nI (mta zz)) (fun zz => oI (mdi zz)) (fun zz => nI (mln zz)))) (mW cI cJ cB o kv kp kx kl kh ki kf kq ka kt kd kn (nI mpm) (nI mty) (nI mwi) (nI mhi) (nI mwa) (nI mle) (gI mgo) (nI mam) (bI mtm) (nI mli) (vF wd hd nb wl st sl gl aq lb sh bw bh ps) mpa (fun zz => nI (mtx zz)) (fun zz => nI (mlt zz)) (fun zz => nI (mha zz)) (fun zz => nI (mfi zz)) (fun zz => oI (mfa zz)) (fun zz => nI (mqu zz)) (fun zz => lN (mal zz)) (fun zz => nI (mta zz)) (fun zz => oI (mdi zz)) (fun zz => nI (mln zz))) := ⟨hD0.1, fun k q h => ⟨k, q.2, h⟩⟩
  generalize hAe : aW (mW cI cJ cB o kv kp kx kl kh ki kf kq ka kt kd kn (nI mpm) (nI mty) (nI mwi) (nI mhi) (nI mwa) (nI mle) (gI mgo) (nI mam) (bI mtm) (nI mli) (vF wd hd nb wl st sl gl aq lb sh bw bh ps) mpa (fun zz => nI (mtx zz)) (fun zz => nI (mlt zz)) (fun zz => nI (mha zz)) (fun zz => nI (mfi zz)) (fun zz => oI (mfa zz)) (fun zz => nI (mqu zz)) (fun zz => lN (mal zz)) (fun zz => nI (mta zz)) (fun zz => oI (mdi zz)) (fun zz => nI (mln zz))) = A at hD ⊢
  have hS : va_S A s.heap s.heap [] := va_S.rf
  have hl := lv_entry ([.ref o, .long (lN k)]) (n := 4) (Nat.le_of_ble_eq_true rfl)
  rw [lg_entry_eq]
  generalize (lg_sl ([.ref o, .long (lN k)]) ++ List.replicate (4 - (lg_sl ([.ref o, .long (lN k)])).length) Slot.unset).toArray = ls at hl ⊢
  have hl : lv_has ls 4 [(0, .ref o), (1, .long (lN k))] := hl
  generalize hav : ([.ref o, .long (lN k)] : List Value).toArray = args at hC ⊢
  refine W_gen (fun QQ hQ => ?_)
  show W p l e (rmN 1) s m args below meth c s.heap [] 0 0 QQ (F0 m 0 ls [])
  refine lv_aload_n hx hb dX8_finds_0 rfl (lv_at hl 0 rfl) ?_
  refine lv_lload_n hx hb dX8_finds_1 rfl (lv_at hl 1 rfl) ?_
  refine callV_i (As := [.long (lN k)]) (rest := []) [0, 1, 2, 3, 4, 5, 6, 7, 8, 9, 10, 11, 12] hC hK hN hP hD rfl (by decide) hS 0 (ci := 8) rfl rfl rfl (c_X8_slot l D cI cJ cB o kv kp kx kl kh ki kf kq ka kt kd kn mpm mty mwi mhi mwa mle mam mli mgo mtm mpa mtx mlt mha mfi mqu mta mln mal mfa mdi wd hd nb wl st sl gl aq lb sh bw bh ps k (by omega) (by omega) (by omega) (by omega)) q887 md_X8_slot rfl hl.1 rfl (Nat.le_of_ble_eq_true rfl) dX8_finds_2 ⟨Nat.le_of_ble_eq_true rfl, Nat.le_of_ble_eq_true rfl⟩ ⟨Nat.le_of_ble_eq_true rfl, Nat.le_of_ble_eq_true rfl⟩ (fun r_2 w H locs hpost hP hD hS => ?_)
  obtain ⟨t_2, rfl, rfl, h2t, h2w, h2f⟩ := hpost
  have hP : va_P D vwCl (mW cI cJ cB o kv kp kx kl kh ki kf kq ka kt kd kn (nI mpm) (nI mty) (nI mwi) (nI mhi) (nI mwa) (nI mle) (gI mgo) (nI mam) (bI mtm) (nI mli) (vF wd hd nb wl st sl gl aq lb sh bw bh ps) mpa (fun zz => nI (mtx zz)) (fun zz => nI (mlt zz)) (fun zz => nI (mha zz)) (fun zz => nI (mfi zz)) (fun zz => oI (mfa zz)) (fun zz => nI (mqu zz)) (fun zz => lN (mal zz)) (fun zz => nI (mta zz)) (fun zz => oI (mdi zz)) (fun zz => nI (mln zz))) H := hP
  have hD : va_D A (mW cI cJ cB o kv kp kx kl kh ki kf kq ka kt kd kn (nI mpm) (nI mty) (nI mwi) (nI mhi) (nI mwa) (nI mle) (gI mgo) (nI mam) (bI mtm) (nI mli) (vF wd hd nb wl st sl gl aq lb sh bw bh ps) mpa (fun zz => nI (mtx zz)) (fun zz => nI (mlt zz)) (fun zz => nI (mha zz)) (fun zz => nI (mfi zz)) (fun zz => oI (mfa zz)) (fun zz => nI (mqu zz)) (fun zz => lN (mal zz)) (fun zz => nI (mta zz)) (fun zz => oI (mdi zz)) (fun zz => nI (mln zz))) := hD
  refine lv_istore_n (lv' := [(3, .int (nI ((hM k + t_2) % 8192))), (0, .ref o), (1, .long (lN k))]) hx hb dX8_finds_5 rfl hl (by decide) rfl (fun ls hl => ?_)
  refine lv_aload_n hx hb dX8_finds_6 rfl (lv_at hl 1 rfl) ?_
  refine gf_X8_42 hC hK hP 0 rfl rfl dX8_finds_7 ?_
  refine lv_iload_n hx hb dX8_finds_10 rfl (lv_at hl 0 rfl) ?_
  refine n_iald hx hb hK hP 10 0 rfl rfl (Nat.mod_lt _ (by decide)) (by decide) dX8_finds_11 ?_
  refine n_if_ne (tgt := 61) hx hb dX8_finds_12 (by decide) (by have := hT.2.1 ((hM k + t_2) % 8192) (Nat.mod_lt _ (by decide)); omega) (fun c12 => ?_) (fun c12 => ?_)
  · have _ : True := trivial
    have hi := hT.2.1 ((hM k + t_2) % 8192) (Nat.mod_lt _ (by decide))
    have hh : Has mal mam k := ⟨mta ((hM k + t_2) % 8192) - 1, by omega, by rcases h2f with h | h; omega; exact h.2⟩
    rw [hQ]
    exact W.vret hx hb hr (fun t9 ht hW => ⟨⟨_, rfl, ⟨mal, mam, mta, mtm, rfl, Or.inl ⟨rfl, rfl, rfl, Or.inl ⟨rfl, hh⟩⟩⟩, by rw [ht]; exact hP, rfl⟩, hS.F ht⟩) hS.2.2 dX8_finds_61
  · have _ : True := trivial
    have hfr := TW_free hT h2w c12
    refine lv_aload_n hx hb dX8_finds_15 rfl (lv_at hl 1 rfl) ?_
    refine gf_X8_125 hC hK hP 0 rfl rfl dX8_finds_16 ?_
    refine lv_sipush (v := nI 2000) hx hb dX8_finds_19 (by decide) ?_
    refine n_icmp_ne (a := mam) (b := 2000) (tgt := 31) hx hb dX8_finds_22 (by decide) (by omega) (by omega) (fun c22 => ?_) (fun c22 => ?_)
    · have _ : True := trivial
      refine lv_aload_n hx hb dX8_finds_31 rfl (lv_at hl 1 rfl) ?_
      refine gf_X8_38 hC hK hP 0 rfl rfl dX8_finds_32 ?_
      refine lv_aload_n hx hb dX8_finds_35 rfl (lv_at hl 1 rfl) ?_
      refine gf_X8_125 hC hK hP 0 rfl rfl dX8_finds_36 ?_
      refine lv_lload_n hx hb dX8_finds_39 rfl (lv_at hl 2 rfl) ?_
      refine n_last hx hb hK hP hD hS 9 1 rfl rfl (by omega) (by decide) (up_lN _ _ _) (ws1 := mW cI cJ cB o kv kp kx kl kh ki kf kq ka kt kd kn (nI mpm) (nI mty) (nI mwi) (nI mhi) (nI mwa) (nI mle) (gI mgo) (nI mam) (bI mtm) (nI mli) (vF wd hd nb wl st sl gl aq lb sh bw bh ps) mpa (fun zz => nI (mtx zz)) (fun zz => nI (mlt zz)) (fun zz => nI (mha zz)) (fun zz => nI (mfi zz)) (fun zz => oI (mfa zz)) (fun zz => nI (mqu zz)) (fun zz => lN ((va_up mal mam k) zz)) (fun zz => nI (mta zz)) (fun zz => oI (mdi zz)) (fun zz => nI (mln zz))) rfl dX8_finds_40 (fun H locs hP hD hS => ?_)
      refine lv_aload_n hx hb dX8_finds_41 rfl (lv_at hl 1 rfl) ?_
      refine lv_dup hx hb dX8_finds_42 rfl ?_
      refine gf_X8_125 hC hK hP 0 rfl rfl dX8_finds_43 ?_
      refine lv_iconst (v := nI 1) hx hb dX8_finds_46 (by decide) ?_
      refine n_iadd hx hb dX8_finds_47  ?_
      refine pf_X8_125 hC hK hP hD hS 0 rfl (Nat.le_of_ble_eq_true rfl) (ws1 := mW cI cJ cB o kv kp kx kl kh ki kf kq ka kt kd kn (nI mpm) (nI mty) (nI mwi) (nI mhi) (nI mwa) (nI mle) (gI mgo) (nI (mam + 1)) (bI mtm) (nI mli) (vF wd hd nb wl st sl gl aq lb sh bw bh ps) mpa (fun zz => nI (mtx zz)) (fun zz => nI (mlt zz)) (fun zz => nI (mha zz)) (fun zz => nI (mfi zz)) (fun zz => oI (mfa zz)) (fun zz => nI (mqu zz)) (fun zz => lN ((va_up mal mam k) zz)) (fun zz => nI (mta zz)) (fun zz => oI (mdi zz)) (fun zz => nI (mln zz))) rfl dX8_finds_48 (fun H locs hP hD hS => ?_)
      refine lv_aload_n hx hb dX8_finds_51 rfl (lv_at hl 1 rfl) ?_
      refine gf_X8_42 hC hK hP 0 rfl rfl dX8_finds_52 ?_
      refine lv_iload_n hx hb dX8_finds_55 rfl (lv_at hl 0 rfl) ?_
      refine lv_aload_n hx hb dX8_finds_56 rfl (lv_at hl 1 rfl) ?_
      refine gf_X8_125 hC hK hP 0 rfl rfl dX8_finds_57 ?_
      refine n_iast hx hb hK hP hD hS 10 0 rfl rfl (Nat.mod_lt _ (by decide)) (by decide) (up_nI _ _ _) (ws1 := mW cI cJ cB o kv kp kx kl kh ki kf kq ka kt kd kn (nI mpm) (nI mty) (nI mwi) (nI mhi) (nI mwa) (nI mle) (gI mgo) (nI (mam + 1)) (bI mtm) (nI mli) (vF wd hd nb wl st sl gl aq lb sh bw bh ps) mpa (fun zz => nI (mtx zz)) (fun zz => nI (mlt zz)) (fun zz => nI (mha zz)) (fun zz => nI (mfi zz)) (fun zz => oI (mfa zz)) (fun zz => nI (mqu zz)) (fun zz => lN ((va_up mal mam k) zz)) (fun zz => nI ((va_up mta ((hM k + t_2) % 8192) (mam + 1)) zz)) (fun zz => oI (mdi zz)) (fun zz => nI (mln zz))) rfl dX8_finds_60 (fun H locs hP hD hS => ?_)
      rw [hQ]
      exact W.vret hx hb hr (fun t9 ht hW => ⟨⟨_, rfl, ⟨va_up mal mam k, mam + 1, va_up mta ((hM k + t_2) % 8192) (mam + 1), mtm, rfl, Or.inr ⟨by omega, rfl, rfl, rfl, TI_add hT h2w c12 h2t (by omega), hfr⟩⟩, by rw [ht]; exact hP, rfl⟩, hS.F ht⟩) hS.2.2 dX8_finds_61
    · have _ : True := trivial
      refine lv_aload_n hx hb dX8_finds_25 rfl (lv_at hl 1 rfl) ?_
      refine lv_iconst (v := nI 1) hx hb dX8_finds_26 (by decide) ?_
      refine topi (y := bI true) rfl ?_
      refine pf_X8_128 hC hK hP hD hS 0 rfl (bnar _) (bfit _) (Nat.le_of_ble_eq_true rfl) (ws1 := mW cI cJ cB o kv kp kx kl kh ki kf kq ka kt kd kn (nI mpm) (nI mty) (nI mwi) (nI mhi) (nI mwa) (nI mle) (gI mgo) (nI mam) (bI true) (nI mli) (vF wd hd nb wl st sl gl aq lb sh bw bh ps) mpa (fun zz => nI (mtx zz)) (fun zz => nI (mlt zz)) (fun zz => nI (mha zz)) (fun zz => nI (mfi zz)) (fun zz => oI (mfa zz)) (fun zz => nI (mqu zz)) (fun zz => lN (mal zz)) (fun zz => nI (mta zz)) (fun zz => oI (mdi zz)) (fun zz => nI (mln zz))) rfl dX8_finds_27 (fun H locs hP hD hS => ?_)
      rw [hQ]
      exact W.vret hx hb hr (fun t9 ht hW => ⟨⟨_, rfl, ⟨mal, mam, mta, true, rfl, Or.inl ⟨rfl, rfl, rfl, Or.inr ⟨rfl, c22, hfr⟩⟩⟩, by rw [ht]; exact hP, rfl⟩, hS.F ht⟩) hS.2.2 dX8_finds_30
