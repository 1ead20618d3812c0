set_option maxHeartbeats 400000 in
set_option maxRecDepth 100000 in
theorem c_X8_beside (l : Launch) (D : va_G) (cI cJ cB : ClassId) (o kv kp kx kl kh ki kf kq ka kt kd kn mpm mty mwi mhi mwa mle mam mli : Nat) (mgo : Option Nat) (mtm : Bool) (mpa : Nat → Int32) (mtx mlt mha mfi mqu mta mln mal : Nat → Nat) (mfa mdi : Nat → Option Nat) (wd hd nb wl : Nat) (st sl : Int32) (gl aq lb : Option Nat) (sh bw bh ps : Nat → Nat) (b q dd : Nat) (hb7 : b < 7) (hw0 : 1 ≤ wd) (hw6 : wd ≤ 6) (hd6 : hd ≤ 6) (hq : q < 32) (hp1 : q % wd + bw b ≤ wd) (hp2 : q / wd + bh b ≤ hd) (hd4 : dd < 4) : Met l yX8_beside (Cond.code yX8_beside cX8_beside 7 (some .int) :: lw_all) (rmN 0) (va_Pc [.ref o, .int (nI b), .int (nI q), .int (nI dd)] (pB D (tyz cI cJ cB) (mW cI cJ cB o kv kp kx kl kh ki kf kq ka kt kd kn (nI mpm) (nI mty) (nI mwi) (nI mhi) (nI mwa) (nI mle) (gI mgo) (nI mam) (bI mtm) (nI mli) (vF wd hd nb wl st sl gl aq lb sh bw bh ps) mpa (fun zz => nI (mtx zz)) (fun zz => nI (mlt zz)) (fun zz => nI (mha zz)) (fun zz => nI (mfi zz)) (fun zz => oI (mfa zz)) (fun zz => nI (mqu zz)) (fun zz => lN (mal zz)) (fun zz => nI (mta zz)) (fun zz => oI (mdi zz)) (fun zz => nI (mln zz))))) (va_Qi (fun (r : Int32) (w : va_W) => r = gI (stp wd hd (bw b) (bh b) q dd) ∧ w = mW cI cJ cB o kv kp kx kl kh ki kf kq ka kt kd kn (nI mpm) (nI mty) (nI mwi) (nI mhi) (nI mwa) (nI mle) (gI mgo) (nI mam) (bI mtm) (nI mli) (vF wd hd nb wl st sl gl aq lb sh bw bh ps) mpa (fun zz => nI (mtx zz)) (fun zz => nI (mlt zz)) (fun zz => nI (mha zz)) (fun zz => nI (mfi zz)) (fun zz => oI (mfa zz)) (fun zz => nI (mqu zz)) (fun zz => lN (mal zz)) (fun zz => nI (mta zz)) (fun zz => oI (mdi zz)) (fun zz => nI (mln zz))) (gB D (mW cI cJ cB o kv kp kx kl kh ki kf kq ka kt kd kn (nI mpm) (nI mty) (nI mwi) (nI mhi) (nI mwa) (nI mle) (gI mgo) (nI mam) (bI mtm) (nI mli) (vF wd hd nb wl st sl gl aq lb sh bw bh ps) mpa (fun zz => nI (mtx zz)) (fun zz => nI (mlt zz)) (fun zz => nI (mha zz)) (fun zz => nI (mfi zz)) (fun zz => oI (mfa zz)) (fun zz => nI (mqu zz)) (fun zz => lN (mal zz)) (fun zz => nI (mta zz)) (fun zz => oI (mdi zz)) (fun zz => nI (mln zz)))) (aW (mW cI cJ cB o kv kp kx kl kh ki kf kq ka kt kd kn (nI mpm) (nI mty) (nI mwi) (nI mhi) (nI mwa) (nI mle) (gI mgo) (nI mam) (bI mtm) (nI mli) (vF wd hd nb wl st sl gl aq lb sh bw bh ps) mpa (fun zz => nI (mtx zz)) (fun zz => nI (mlt zz)) (fun zz => nI (mha zz)) (fun zz => nI (mfi zz)) (fun zz => oI (mfa zz)) (fun zz => nI (mqu zz)) (fun zz => lN (mal zz)) (fun zz => nI (mta zz)) (fun zz => oI (mdi zz)) (fun zz => nI (mln zz))))) 0 0 (aW (mW cI cJ cB o kv kp kx kl kh ki kf kq ka kt kd kn (nI mpm) (nI mty) (nI mwi) (nI mhi) (nI mwa) (nI mle) (gI mgo) (nI mam) (bI mtm) (nI mli) (vF wd hd nb wl st sl gl aq lb sh bw bh ps) mpa (fun zz => nI (mtx zz)) (fun zz => nI (mlt zz)) (fun zz => nI (mha zz)) (fun zz => nI (mfi zz)) (fun zz => oI (mfa zz)) (fun zz => nI (mqu zz)) (fun zz => lN (mal zz)) (fun zz => nI (mta zz)) (fun zz => oI (mdi zz)) (fun zz => nI (mln zz)))) := by
  refine Met.ofW (cc := cX8_beside) (maxL := 7) (ret := (some .int)) (by decide) rfl ?_
  intro p e s m args below meth c s₁ B hml hv
  obtain ⟨rfl, hK, hN, hP, hD0⟩ := hv
  have hx := B.exec; have hb := B.bytes; have hr := B.returns; have hlocks := B.notSynchronized
  have hts0 := atoms_spec (ws := Cond.code yX8_beside cX8_beside 7 (some .int) :: lw_all) B.pre
  have hC : CallFix p m c cX8_beside 7 s _ lw_all RX8 := ⟨hx, hb, hml, findClass_of_methodNamed B.named, fun w h => hts0 w (List.mem_cons_of_mem _ h)⟩
  have hD : va_D (aW (mW cI cJ cB o kv kp kx kl kh ki kf kq ka kt kd kn (nI mpm) (nI mty) (nI mwi) (nI mhi) (nI mwa) (nI mle) (gI mgo) (nI mam) (bI mtm) (nI mli) (vF wd hd nb wl st sl gl aq lb sh bw bh ps) mpa (fun zz => nI (mtx zz)) (fun zz => nI (mlt zz)) (fun zz => nI (mha zz)) (fun zz => nI (mfi zz)) (fun zz => oI (mfa zz)) (fun zz => nI (mqu zz)) (fun zz => lN (mal zz)) (fun zz => nI (mta zz)) (fun zz => oI (mdi zz)) (fun zz => nI (mln zz)))) (mW cI cJ cB o kv kp kx kl kh ki kf kq ka kt kd kn (nI mpm) (nI mty) (nI mwi) (nI mhi) (nI mwa) (nI mle) (gI mgo) (nI mam) (bI mtm) (nI mli) (vF wd hd nb wl st sl gl aq lb sh bw bh ps) mpa (fun zz => nI (mtx zz)) (fun zz => nI (mlt zz)) (fun zz => nI (mha zz)) (fun zz => nI (mfi zz)) (fun zz => oI (mfa zz)) (fun zz => nI (mqu zz)) (fun zz => lN (mal zz)) (fun zz => nI (mta zz)) (fun zz => oI (mdi zz)) (fun zz => nI (mln zz))) := ⟨hD0.1, fun k q h => ⟨k, q.2, h⟩⟩
  generalize hAe : aW (mW cI cJ cB o kv kp kx kl kh ki kf kq ka kt kd kn (nI mpm) (nI mty) (nI mwi) (nI mhi) (nI mwa) (nI mle) (gI mgo) (nI mam) (bI mtm) (nI mli) (vF wd hd nb wl st sl gl aq lb sh bw bh ps) mpa (fun zz => nI (mtx zz)) (fun zz => nI (mlt zz)) (fun zz => nI (mha zz)) (fun zz => nI (mfi zz)) (fun zz => oI (mfa zz)) (fun zz => nI (mqu zz)) (fun zz => lN (mal zz)) (fun zz => nI (mta zz)) (fun zz => oI (mdi zz)) (fun zz => nI (mln zz))) = A at hD ⊢
  have hS : va_S A s.heap s.heap [] := va_S.rf
  have hl := lv_entry ([.ref o, .int (nI b), .int (nI q), .int (nI dd)]) (n := 7) (Nat.le_of_ble_eq_true rfl)
  rw [lg_entry_eq]
  generalize (lg_sl ([.ref o, .int (nI b), .int (nI q), .int (nI dd)]) ++ List.replicate (7 - (lg_sl ([.ref o, .int (nI b), .int (nI q), .int (nI dd)])).length) Slot.unset).toArray = ls at hl ⊢
  have hl : lv_has ls 7 [(0, .ref o), (1, .int (nI b)), (2, .int (nI q)), (3, .int (nI dd))] := hl
  generalize hav : ([.ref o, .int (nI b), .int (nI q), .int (nI dd)] : List Value).toArray = args at hC ⊢
  refine W_gen (fun QQ hQ => ?_)
  show W p l e (rmN 0) s m args below meth c s.heap [] 0 0 QQ (F0 m 0 ls [])
  rcases (by omega : dd = 0 ∨ dd = 1 ∨ dd = 2 ∨ dd = 3) with rfl | rfl | rfl | rfl
  · have _ : True := trivial
    refine lv_iload_n hx hb dX8_beside_0 rfl (lv_at hl 2 rfl) ?_
    refine lv_aload_n hx hb dX8_beside_1 rfl (lv_at hl 0 rfl) ?_
    refine gf_X8_7 hC hK hP 0 rfl rfl dX8_beside_2 ?_
    refine lv_iconst (v := nI 0) hx hb dX8_beside_5 (by decide) ?_
    refine n_iald hx hb hK hP 1 0 rfl rfl (by omega) (by decide) dX8_beside_6 ?_
    refine topi (y := nI wd) rfl ?_
    refine n_irem hx hb dX8_beside_7 (by omega) (by omega) (by omega) ?_
    refine lv_iload_n hx hb dX8_beside_8 rfl (lv_at hl 3 rfl) ?_
    refine lv_iconst (v := nI 1) hx hb dX8_beside_9 (by decide) ?_
    refine n_icmp_ne (a := 0) (b := 1) (tgt := 17) hx hb dX8_beside_10 (by decide) (by decide) (by decide) (fun _ => ?_) (fun h => absurd h (by decide))
    refine lv_iload_n hx hb dX8_beside_17 rfl (lv_at hl 3 rfl) ?_
    refine lv_iconst (v := nI 3) hx hb dX8_beside_18 (by decide) ?_
    refine n_icmp_ne (a := 0) (b := 3) (tgt := 26) hx hb dX8_beside_19 (by decide) (by decide) (by decide) (fun _ => ?_) (fun h => absurd h (by decide))
    refine lv_iconst (v := nI 0) hx hb dX8_beside_26 (by decide) ?_
    refine n_iadd hx hb dX8_beside_27  ?_
    refine lv_istore (lv' := [(4, .int (nI ((q % wd) + 0))), (0, .ref o), (1, .int (nI b)), (2, .int (nI q)), (3, .int (nI 0))]) hx hb dX8_beside_28 hl (by decide) rfl (fun ls hl => ?_)
    refine lv_iload_n hx hb dX8_beside_30 rfl (lv_at hl 3 rfl) ?_
    refine lv_aload_n hx hb dX8_beside_31 rfl (lv_at hl 1 rfl) ?_
    refine gf_X8_7 hC hK hP 0 rfl rfl dX8_beside_32 ?_
    refine lv_iconst (v := nI 0) hx hb dX8_beside_35 (by decide) ?_
    refine n_iald hx hb hK hP 1 0 rfl rfl (by omega) (by decide) dX8_beside_36 ?_
    refine topi (y := nI wd) rfl ?_
    refine n_idiv hx hb dX8_beside_37 (by omega) (by omega) (by omega) ?_
    refine lv_iload_n hx hb dX8_beside_38 rfl (lv_at hl 4 rfl) ?_
    refine lv_iconst (v := nI 2) hx hb dX8_beside_39 (by decide) ?_
    refine n_icmp_ne (a := 0) (b := 2) (tgt := 47) hx hb dX8_beside_40 (by decide) (by decide) (by decide) (fun _ => ?_) (fun h => absurd h (by decide))
    refine lv_iload_n hx hb dX8_beside_47 rfl (lv_at hl 4 rfl) ?_
    refine n_if_ne (a := 0) (tgt := 55) hx hb dX8_beside_48 (by decide) (by decide) (fun h => absurd h (by decide)) (fun _ => ?_)
    refine lv_iconst (v := (-1)) hx hb dX8_beside_51 (by decide) ?_
    refine lv_goto (tgt := 56) hx hb dX8_beside_52 (by decide) ?_
    refine lv_iadd hx hb dX8_beside_56 ?_
    rcases Nat.eq_zero_or_pos (q / wd) with hz | hz
    · have _ : True := trivial
      refine topi (y := (-1)) (by rw [hz]; rfl) ?_
      refine lv_istore (lv' := [(5, .int (-1)), (4, .int (nI ((q % wd) + 0))), (0, .ref o), (1, .int (nI b)), (2, .int (nI q)), (3, .int (nI 0))]) hx hb dX8_beside_57 hl (by decide) rfl (fun ls hl => ?_)
      refine lv_iload hx hb dX8_beside_59 (lv_at hl 1 rfl) ?_
      refine n_if_lt (tgt := 115) hx hb dX8_beside_61 (by decide) (by omega) ?_
      refine lv_iload hx hb dX8_beside_64 (lv_at hl 0 rfl) ?_
      refine lv_if_lt (tgt := 115) hx hb dX8_beside_66 (by decide) (fun _ => ?_) (fun h => absurd (by decide) h)
      refine lv_iconst (v := nI 0) hx hb dX8_beside_115 (by decide) ?_
      refine lv_istore (lv' := [(6, .int (nI 0)), (5, .int (-1)), (4, .int (nI ((q % wd) + 0))), (0, .ref o), (1, .int (nI b)), (2, .int (nI q)), (3, .int (nI 0))]) hx hb dX8_beside_116 hl (by decide) rfl (fun ls hl => ?_)
      refine lv_iload hx hb dX8_beside_118 (lv_at hl 0 rfl) ?_
      refine n_if_eq (a := 0) (tgt := 138) hx hb dX8_beside_120 (by decide) (by decide) (fun _ => ?_) (fun h => absurd h (by decide))
      refine lv_bipush (v := (-9)) hx hb dX8_beside_138 (by decide) ?_
      rw [hQ]
      exact W.iret (v := (-9)) hx hb hr (fun t9 ht hW => ⟨⟨_, _, rfl, ⟨(by rw [stp_0, if_neg (by omega)]; rfl), rfl⟩, by rw [ht]; exact hP, rfl⟩, hS.F ht⟩) hS.2.2 dX8_beside_140
    · have _ : True := trivial
      refine topi (y := nI (q / wd - 1)) (sb_m1 hz) ?_
      refine lv_istore (lv' := [(5, .int (nI (q / wd - 1))), (4, .int (nI ((q % wd) + 0))), (0, .ref o), (1, .int (nI b)), (2, .int (nI q)), (3, .int (nI 0))]) hx hb dX8_beside_57 hl (by decide) rfl (fun ls hl => ?_)
      refine lv_iload hx hb dX8_beside_59 (lv_at hl 1 rfl) ?_
      refine n_if_lt (tgt := 115) hx hb dX8_beside_61 (by decide) (by omega) ?_
      refine lv_iload hx hb dX8_beside_64 (lv_at hl 0 rfl) ?_
      refine n_if_lt (tgt := 115) hx hb dX8_beside_66 (by decide) (by omega) ?_
      refine lv_iload hx hb dX8_beside_69 (lv_at hl 1 rfl) ?_
      refine lv_aload_n hx hb dX8_beside_71 rfl (lv_at hl 2 rfl) ?_
      refine gf_X8_7 hC hK hP 0 rfl rfl dX8_beside_72 ?_
      refine lv_bipush (v := nI 17) hx hb dX8_beside_75 (by decide) ?_
      refine lv_iload_n hx hb dX8_beside_77 rfl (lv_at hl 3 rfl) ?_
      refine n_iadd hx hb dX8_beside_78  ?_
      refine n_iald hx hb hK hP 1 0 rfl rfl (by omega) (by decide) dX8_beside_79 ?_
      refine topi (y := nI (bw b)) (vF_bw (by omega)) ?_
      refine n_iadd hx hb dX8_beside_80  ?_
      refine lv_aload_n hx hb dX8_beside_81 rfl (lv_at hl 2 rfl) ?_
      refine gf_X8_7 hC hK hP 0 rfl rfl dX8_beside_82 ?_
      refine lv_iconst (v := nI 0) hx hb dX8_beside_85 (by decide) ?_
      refine n_iald hx hb hK hP 1 0 rfl rfl (by omega) (by decide) dX8_beside_86 ?_
      refine topi (y := nI wd) rfl ?_
      refine n_icmp_gt (a := ((q % wd) + 0) + (bw b)) (b := wd) (tgt := 115) hx hb dX8_beside_87 (by decide) (by omega) (by omega) (fun c87 => ?_) (fun c87 => ?_)
      · have _ : True := trivial
        exfalso; omega
      · have _ : True := trivial
        refine lv_iload hx hb dX8_beside_90 (lv_at hl 0 rfl) ?_
        refine lv_aload_n hx hb dX8_beside_92 rfl (lv_at hl 2 rfl) ?_
        refine gf_X8_7 hC hK hP 0 rfl rfl dX8_beside_93 ?_
        refine lv_bipush (v := nI 24) hx hb dX8_beside_96 (by decide) ?_
        refine lv_iload_n hx hb dX8_beside_98 rfl (lv_at hl 3 rfl) ?_
        refine n_iadd hx hb dX8_beside_99  ?_
        refine n_iald hx hb hK hP 1 0 rfl rfl (by omega) (by decide) dX8_beside_100 ?_
        refine topi (y := nI (bh b)) (vF_bh (by omega)) ?_
        refine n_iadd hx hb dX8_beside_101  ?_
        refine lv_aload_n hx hb dX8_beside_102 rfl (lv_at hl 2 rfl) ?_
        refine gf_X8_7 hC hK hP 0 rfl rfl dX8_beside_103 ?_
        refine lv_iconst (v := nI 1) hx hb dX8_beside_106 (by decide) ?_
        refine n_iald hx hb hK hP 1 0 rfl rfl (by omega) (by decide) dX8_beside_107 ?_
        refine topi (y := nI hd) rfl ?_
        refine n_icmp_gt (a := (q / wd - 1) + (bh b)) (b := hd) (tgt := 115) hx hb dX8_beside_108 (by decide) (by omega) (by omega) (fun c108 => ?_) (fun c108 => ?_)
        · have _ : True := trivial
          exfalso; omega
        · have _ : True := trivial
          refine lv_iconst (v := nI 1) hx hb dX8_beside_111 (by decide) ?_
          refine lv_goto (tgt := 116) hx hb dX8_beside_112 (by decide) ?_
          refine lv_istore (lv' := [(6, .int (nI 1)), (5, .int (nI (q / wd - 1))), (4, .int (nI ((q % wd) + 0))), (0, .ref o), (1, .int (nI b)), (2, .int (nI q)), (3, .int (nI 0))]) hx hb dX8_beside_116 hl (by decide) rfl (fun ls hl => ?_)
          refine lv_iload hx hb dX8_beside_118 (lv_at hl 0 rfl) ?_
          refine n_if_eq (a := 1) (tgt := 138) hx hb dX8_beside_120 (by decide) (by decide) (fun h => absurd h (by decide)) (fun _ => ?_)
          refine lv_iload hx hb dX8_beside_123 (lv_at hl 1 rfl) ?_
          refine lv_aload_n hx hb dX8_beside_125 rfl (lv_at hl 3 rfl) ?_
          refine gf_X8_7 hC hK hP 0 rfl rfl dX8_beside_126 ?_
          refine lv_iconst (v := nI 0) hx hb dX8_beside_129 (by decide) ?_
          refine n_iald hx hb hK hP 1 0 rfl rfl (by omega) (by decide) dX8_beside_130 ?_
          refine topi (y := nI wd) rfl ?_
          refine n_imul hx hb dX8_beside_131  ?_
          refine lv_iload hx hb dX8_beside_132 (lv_at hl 2 rfl) ?_
          refine n_iadd hx hb dX8_beside_134  ?_
          refine lv_goto (tgt := 140) hx hb dX8_beside_135 (by decide) ?_
          rw [hQ]
          exact W.iret (v := nI (((q / wd - 1) * wd) + ((q % wd) + 0))) hx hb hr (fun t9 ht hW => ⟨⟨_, _, rfl, ⟨(by rw [stp_0, if_pos (by omega)]; show nI _ = nI _; rw [bs_up hz]), rfl⟩, by rw [ht]; exact hP, rfl⟩, hS.F ht⟩) hS.2.2 dX8_beside_140
  · have _ : True := trivial
    refine lv_iload_n hx hb dX8_beside_0 rfl (lv_at hl 2 rfl) ?_
    refine lv_aload_n hx hb dX8_beside_1 rfl (lv_at hl 0 rfl) ?_
    refine gf_X8_7 hC hK hP 0 rfl rfl dX8_beside_2 ?_
    refine lv_iconst (v := nI 0) hx hb dX8_beside_5 (by decide) ?_
    refine n_iald hx hb hK hP 1 0 rfl rfl (by omega) (by decide) dX8_beside_6 ?_
    refine topi (y := nI wd) rfl ?_
    refine n_irem hx hb dX8_beside_7 (by omega) (by omega) (by omega) ?_
    refine lv_iload_n hx hb dX8_beside_8 rfl (lv_at hl 3 rfl) ?_
    refine lv_iconst (v := nI 1) hx hb dX8_beside_9 (by decide) ?_
    refine n_icmp_ne (a := 1) (b := 1) (tgt := 17) hx hb dX8_beside_10 (by decide) (by decide) (by decide) (fun h => absurd h (by decide)) (fun _ => ?_)
    refine lv_iconst (v := nI 1) hx hb dX8_beside_13 (by decide) ?_
    refine lv_goto (tgt := 27) hx hb dX8_beside_14 (by decide) ?_
    refine n_iadd hx hb dX8_beside_27  ?_
    refine lv_istore (lv' := [(4, .int (nI ((q % wd) + 1))), (0, .ref o), (1, .int (nI b)), (2, .int (nI q)), (3, .int (nI 1))]) hx hb dX8_beside_28 hl (by decide) rfl (fun ls hl => ?_)
    refine lv_iload_n hx hb dX8_beside_30 rfl (lv_at hl 3 rfl) ?_
    refine lv_aload_n hx hb dX8_beside_31 rfl (lv_at hl 1 rfl) ?_
    refine gf_X8_7 hC hK hP 0 rfl rfl dX8_beside_32 ?_
    refine lv_iconst (v := nI 0) hx hb dX8_beside_35 (by decide) ?_
    refine n_iald hx hb hK hP 1 0 rfl rfl (by omega) (by decide) dX8_beside_36 ?_
    refine topi (y := nI wd) rfl ?_
    refine n_idiv hx hb dX8_beside_37 (by omega) (by omega) (by omega) ?_
    refine lv_iload_n hx hb dX8_beside_38 rfl (lv_at hl 4 rfl) ?_
    refine lv_iconst (v := nI 2) hx hb dX8_beside_39 (by decide) ?_
    refine n_icmp_ne (a := 1) (b := 2) (tgt := 47) hx hb dX8_beside_40 (by decide) (by decide) (by decide) (fun _ => ?_) (fun h => absurd h (by decide))
    refine lv_iload_n hx hb dX8_beside_47 rfl (lv_at hl 4 rfl) ?_
    refine n_if_ne (a := 1) (tgt := 55) hx hb dX8_beside_48 (by decide) (by decide) (fun _ => ?_) (fun h => absurd h (by decide))
    refine lv_iconst (v := nI 0) hx hb dX8_beside_55 (by decide) ?_
    refine n_iadd hx hb dX8_beside_56  ?_
    refine lv_istore (lv' := [(5, .int (nI ((q / wd) + 0))), (4, .int (nI ((q % wd) + 1))), (0, .ref o), (1, .int (nI b)), (2, .int (nI q)), (3, .int (nI 1))]) hx hb dX8_beside_57 hl (by decide) rfl (fun ls hl => ?_)
    refine lv_iload hx hb dX8_beside_59 (lv_at hl 1 rfl) ?_
    refine n_if_lt (tgt := 115) hx hb dX8_beside_61 (by decide) (by omega) ?_
    refine lv_iload hx hb dX8_beside_64 (lv_at hl 0 rfl) ?_
    refine n_if_lt (tgt := 115) hx hb dX8_beside_66 (by decide) (by omega) ?_
    refine lv_iload hx hb dX8_beside_69 (lv_at hl 1 rfl) ?_
    refine lv_aload_n hx hb dX8_beside_71 rfl (lv_at hl 2 rfl) ?_
    refine gf_X8_7 hC hK hP 0 rfl rfl dX8_beside_72 ?_
    refine lv_bipush (v := nI 17) hx hb dX8_beside_75 (by decide) ?_
    refine lv_iload_n hx hb dX8_beside_77 rfl (lv_at hl 3 rfl) ?_
    refine n_iadd hx hb dX8_beside_78  ?_
    refine n_iald hx hb hK hP 1 0 rfl rfl (by omega) (by decide) dX8_beside_79 ?_
    refine topi (y := nI (bw b)) (vF_bw (by omega)) ?_
    refine n_iadd hx hb dX8_beside_80  ?_
    refine lv_aload_n hx hb dX8_beside_81 rfl (lv_at hl 2 rfl) ?_
    refine gf_X8_7 hC hK hP 0 rfl rfl dX8_beside_82 ?_
    refine lv_iconst (v := nI 0) hx hb dX8_beside_85 (by decide) ?_
    refine n_iald hx hb hK hP 1 0 rfl rfl (by omega) (by decide) dX8_beside_86 ?_
    refine topi (y := nI wd) rfl ?_
    refine n_icmp_gt (a := ((q % wd) + 1) + (bw b)) (b := wd) (tgt := 115) hx hb dX8_beside_87 (by decide) (by omega) (by omega) (fun c87 => ?_) (fun c87 => ?_)
    · have _ : True := trivial
      refine lv_iconst (v := nI 0) hx hb dX8_beside_115 (by decide) ?_
      refine lv_istore (lv' := [(6, .int (nI 0)), (5, .int (nI ((q / wd) + 0))), (4, .int (nI ((q % wd) + 1))), (0, .ref o), (1, .int (nI b)), (2, .int (nI q)), (3, .int (nI 1))]) hx hb dX8_beside_116 hl (by decide) rfl (fun ls hl => ?_)
      refine lv_iload hx hb dX8_beside_118 (lv_at hl 0 rfl) ?_
      refine n_if_eq (a := 0) (tgt := 138) hx hb dX8_beside_120 (by decide) (by decide) (fun _ => ?_) (fun h => absurd h (by decide))
      refine lv_bipush (v := (-9)) hx hb dX8_beside_138 (by decide) ?_
      rw [hQ]
      exact W.iret (v := (-9)) hx hb hr (fun t9 ht hW => ⟨⟨_, _, rfl, ⟨(by rw [stp_1, if_neg (by omega)]; rfl), rfl⟩, by rw [ht]; exact hP, rfl⟩, hS.F ht⟩) hS.2.2 dX8_beside_140
    · have _ : True := trivial
      refine lv_iload hx hb dX8_beside_90 (lv_at hl 0 rfl) ?_
      refine lv_aload_n hx hb dX8_beside_92 rfl (lv_at hl 2 rfl) ?_
      refine gf_X8_7 hC hK hP 0 rfl rfl dX8_beside_93 ?_
      refine lv_bipush (v := nI 24) hx hb dX8_beside_96 (by decide) ?_
      refine lv_iload_n hx hb dX8_beside_98 rfl (lv_at hl 3 rfl) ?_
      refine n_iadd hx hb dX8_beside_99  ?_
      refine n_iald hx hb hK hP 1 0 rfl rfl (by omega) (by decide) dX8_beside_100 ?_
      refine topi (y := nI (bh b)) (vF_bh (by omega)) ?_
      refine n_iadd hx hb dX8_beside_101  ?_
      refine lv_aload_n hx hb dX8_beside_102 rfl (lv_at hl 2 rfl) ?_
      refine gf_X8_7 hC hK hP 0 rfl rfl dX8_beside_103 ?_
      refine lv_iconst (v := nI 1) hx hb dX8_beside_106 (by decide) ?_
      refine n_iald hx hb hK hP 1 0 rfl rfl (by omega) (by decide) dX8_beside_107 ?_
      refine topi (y := nI hd) rfl ?_
      refine n_icmp_gt (a := ((q / wd) + 0) + (bh b)) (b := hd) (tgt := 115) hx hb dX8_beside_108 (by decide) (by omega) (by omega) (fun c108 => ?_) (fun c108 => ?_)
      · have _ : True := trivial
        exfalso; omega
      · have _ : True := trivial
        refine lv_iconst (v := nI 1) hx hb dX8_beside_111 (by decide) ?_
        refine lv_goto (tgt := 116) hx hb dX8_beside_112 (by decide) ?_
        refine lv_istore (lv' := [(6, .int (nI 1)), (5, .int (nI ((q / wd) + 0))), (4, .int (nI ((q % wd) + 1))), (0, .ref o), (1, .int (nI b)), (2, .int (nI q)), (3, .int (nI 1))]) hx hb dX8_beside_116 hl (by decide) rfl (fun ls hl => ?_)
        refine lv_iload hx hb dX8_beside_118 (lv_at hl 0 rfl) ?_
        refine n_if_eq (a := 1) (tgt := 138) hx hb dX8_beside_120 (by decide) (by decide) (fun h => absurd h (by decide)) (fun _ => ?_)
        refine lv_iload hx hb dX8_beside_123 (lv_at hl 1 rfl) ?_
        refine lv_aload_n hx hb dX8_beside_125 rfl (lv_at hl 3 rfl) ?_
        refine gf_X8_7 hC hK hP 0 rfl rfl dX8_beside_126 ?_
        refine lv_iconst (v := nI 0) hx hb dX8_beside_129 (by decide) ?_
        refine n_iald hx hb hK hP 1 0 rfl rfl (by omega) (by decide) dX8_beside_130 ?_
        refine topi (y := nI wd) rfl ?_
        refine n_imul hx hb dX8_beside_131  ?_
        refine lv_iload hx hb dX8_beside_132 (lv_at hl 2 rfl) ?_
        refine n_iadd hx hb dX8_beside_134  ?_
        refine lv_goto (tgt := 140) hx hb dX8_beside_135 (by decide) ?_
        rw [hQ]
        exact W.iret (v := nI ((((q / wd) + 0) * wd) + ((q % wd) + 1))) hx hb hr (fun t9 ht hW => ⟨⟨_, _, rfl, ⟨(by rw [stp_1, if_pos (by omega)]; show nI _ = nI _; rw [bs_rt]), rfl⟩, by rw [ht]; exact hP, rfl⟩, hS.F ht⟩) hS.2.2 dX8_beside_140
  · have _ : True := trivial
    refine lv_iload_n hx hb dX8_beside_0 rfl (lv_at hl 2 rfl) ?_
    refine lv_aload_n hx hb dX8_beside_1 rfl (lv_at hl 0 rfl) ?_
    refine gf_X8_7 hC hK hP 0 rfl rfl dX8_beside_2 ?_
    refine lv_iconst (v := nI 0) hx hb dX8_beside_5 (by decide) ?_
    refine n_iald hx hb hK hP 1 0 rfl rfl (by omega) (by decide) dX8_beside_6 ?_
    refine topi (y := nI wd) rfl ?_
    refine n_irem hx hb dX8_beside_7 (by omega) (by omega) (by omega) ?_
    refine lv_iload_n hx hb dX8_beside_8 rfl (lv_at hl 3 rfl) ?_
    refine lv_iconst (v := nI 1) hx hb dX8_beside_9 (by decide) ?_
    refine n_icmp_ne (a := 2) (b := 1) (tgt := 17) hx hb dX8_beside_10 (by decide) (by decide) (by decide) (fun _ => ?_) (fun h => absurd h (by decide))
    refine lv_iload_n hx hb dX8_beside_17 rfl (lv_at hl 3 rfl) ?_
    refine lv_iconst (v := nI 3) hx hb dX8_beside_18 (by decide) ?_
    refine n_icmp_ne (a := 2) (b := 3) (tgt := 26) hx hb dX8_beside_19 (by decide) (by decide) (by decide) (fun _ => ?_) (fun h => absurd h (by decide))
    refine lv_iconst (v := nI 0) hx hb dX8_beside_26 (by decide) ?_
    refine n_iadd hx hb dX8_beside_27  ?_
    refine lv_istore (lv' := [(4, .int (nI ((q % wd) + 0))), (0, .ref o), (1, .int (nI b)), (2, .int (nI q)), (3, .int (nI 2))]) hx hb dX8_beside_28 hl (by decide) rfl (fun ls hl => ?_)
    refine lv_iload_n hx hb dX8_beside_30 rfl (lv_at hl 3 rfl) ?_
    refine lv_aload_n hx hb dX8_beside_31 rfl (lv_at hl 1 rfl) ?_
    refine gf_X8_7 hC hK hP 0 rfl rfl dX8_beside_32 ?_
    refine lv_iconst (v := nI 0) hx hb dX8_beside_35 (by decide) ?_
    refine n_iald hx hb hK hP 1 0 rfl rfl (by omega) (by decide) dX8_beside_36 ?_
    refine topi (y := nI wd) rfl ?_
    refine n_idiv hx hb dX8_beside_37 (by omega) (by omega) (by omega) ?_
    refine lv_iload_n hx hb dX8_beside_38 rfl (lv_at hl 4 rfl) ?_
    refine lv_iconst (v := nI 2) hx hb dX8_beside_39 (by decide) ?_
    refine n_icmp_ne (a := 2) (b := 2) (tgt := 47) hx hb dX8_beside_40 (by decide) (by decide) (by decide) (fun h => absurd h (by decide)) (fun _ => ?_)
    refine lv_iconst (v := nI 1) hx hb dX8_beside_43 (by decide) ?_
    refine lv_goto (tgt := 56) hx hb dX8_beside_44 (by decide) ?_
    refine n_iadd hx hb dX8_beside_56  ?_
    refine lv_istore (lv' := [(5, .int (nI ((q / wd) + 1))), (4, .int (nI ((q % wd) + 0))), (0, .ref o), (1, .int (nI b)), (2, .int (nI q)), (3, .int (nI 2))]) hx hb dX8_beside_57 hl (by decide) rfl (fun ls hl => ?_)
    refine lv_iload hx hb dX8_beside_59 (lv_at hl 1 rfl) ?_
    refine n_if_lt (tgt := 115) hx hb dX8_beside_61 (by decide) (by omega) ?_
    refine lv_iload hx hb dX8_beside_64 (lv_at hl 0 rfl) ?_
    refine n_if_lt (tgt := 115) hx hb dX8_beside_66 (by decide) (by omega) ?_
    refine lv_iload hx hb dX8_beside_69 (lv_at hl 1 rfl) ?_
    refine lv_aload_n hx hb dX8_beside_71 rfl (lv_at hl 2 rfl) ?_
    refine gf_X8_7 hC hK hP 0 rfl rfl dX8_beside_72 ?_
    refine lv_bipush (v := nI 17) hx hb dX8_beside_75 (by decide) ?_
    refine lv_iload_n hx hb dX8_beside_77 rfl (lv_at hl 3 rfl) ?_
    refine n_iadd hx hb dX8_beside_78  ?_
    refine n_iald hx hb hK hP 1 0 rfl rfl (by omega) (by decide) dX8_beside_79 ?_
    refine topi (y := nI (bw b)) (vF_bw (by omega)) ?_
    refine n_iadd hx hb dX8_beside_80  ?_
    refine lv_aload_n hx hb dX8_beside_81 rfl (lv_at hl 2 rfl) ?_
    refine gf_X8_7 hC hK hP 0 rfl rfl dX8_beside_82 ?_
    refine lv_iconst (v := nI 0) hx hb dX8_beside_85 (by decide) ?_
    refine n_iald hx hb hK hP 1 0 rfl rfl (by omega) (by decide) dX8_beside_86 ?_
    refine topi (y := nI wd) rfl ?_
    refine n_icmp_gt (a := ((q % wd) + 0) + (bw b)) (b := wd) (tgt := 115) hx hb dX8_beside_87 (by decide) (by omega) (by omega) (fun c87 => ?_) (fun c87 => ?_)
    · have _ : True := trivial
      exfalso; omega
    · have _ : True := trivial
      refine lv_iload hx hb dX8_beside_90 (lv_at hl 0 rfl) ?_
      refine lv_aload_n hx hb dX8_beside_92 rfl (lv_at hl 2 rfl) ?_
      refine gf_X8_7 hC hK hP 0 rfl rfl dX8_beside_93 ?_
      refine lv_bipush (v := nI 24) hx hb dX8_beside_96 (by decide) ?_
      refine lv_iload_n hx hb dX8_beside_98 rfl (lv_at hl 3 rfl) ?_
      refine n_iadd hx hb dX8_beside_99  ?_
      refine n_iald hx hb hK hP 1 0 rfl rfl (by omega) (by decide) dX8_beside_100 ?_
      refine topi (y := nI (bh b)) (vF_bh (by omega)) ?_
      refine n_iadd hx hb dX8_beside_101  ?_
      refine lv_aload_n hx hb dX8_beside_102 rfl (lv_at hl 2 rfl) ?_
      refine gf_X8_7 hC hK hP 0 rfl rfl dX8_beside_103 ?_
      refine lv_iconst (v := nI 1) hx hb dX8_beside_106 (by decide) ?_
      refine n_iald hx hb hK hP 1 0 rfl rfl (by omega) (by decide) dX8_beside_107 ?_
      refine topi (y := nI hd) rfl ?_
      refine n_icmp_gt (a := ((q / wd) + 1) + (bh b)) (b := hd) (tgt := 115) hx hb dX8_beside_108 (by decide) (by omega) (by omega) (fun c108 => ?_) (fun c108 => ?_)
      · have _ : True := trivial
        refine lv_iconst (v := nI 0) hx hb dX8_beside_115 (by decide) ?_
        refine lv_istore (lv' := [(6, .int (nI 0)), (5, .int (nI ((q / wd) + 1))), (4, .int (nI ((q % wd) + 0))), (0, .ref o), (1, .int (nI b)), (2, .int (nI q)), (3, .int (nI 2))]) hx hb dX8_beside_116 hl (by decide) rfl (fun ls hl => ?_)
        refine lv_iload hx hb dX8_beside_118 (lv_at hl 0 rfl) ?_
        refine n_if_eq (a := 0) (tgt := 138) hx hb dX8_beside_120 (by decide) (by decide) (fun _ => ?_) (fun h => absurd h (by decide))
        refine lv_bipush (v := (-9)) hx hb dX8_beside_138 (by decide) ?_
        rw [hQ]
        exact W.iret (v := (-9)) hx hb hr (fun t9 ht hW => ⟨⟨_, _, rfl, ⟨(by rw [stp_2, if_neg (by omega)]; rfl), rfl⟩, by rw [ht]; exact hP, rfl⟩, hS.F ht⟩) hS.2.2 dX8_beside_140
      · have _ : True := trivial
        refine lv_iconst (v := nI 1) hx hb dX8_beside_111 (by decide) ?_
        refine lv_goto (tgt := 116) hx hb dX8_beside_112 (by decide) ?_
        refine lv_istore (lv' := [(6, .int (nI 1)), (5, .int (nI ((q / wd) + 1))), (4, .int (nI ((q % wd) + 0))), (0, .ref o), (1, .int (nI b)), (2, .int (nI q)), (3, .int (nI 2))]) hx hb dX8_beside_116 hl (by decide) rfl (fun ls hl => ?_)
        refine lv_iload hx hb dX8_beside_118 (lv_at hl 0 rfl) ?_
        refine n_if_eq (a := 1) (tgt := 138) hx hb dX8_beside_120 (by decide) (by decide) (fun h => absurd h (by decide)) (fun _ => ?_)
        refine lv_iload hx hb dX8_beside_123 (lv_at hl 1 rfl) ?_
        refine lv_aload_n hx hb dX8_beside_125 rfl (lv_at hl 3 rfl) ?_
        refine gf_X8_7 hC hK hP 0 rfl rfl dX8_beside_126 ?_
        refine lv_iconst (v := nI 0) hx hb dX8_beside_129 (by decide) ?_
        refine n_iald hx hb hK hP 1 0 rfl rfl (by omega) (by decide) dX8_beside_130 ?_
        refine topi (y := nI wd) rfl ?_
        refine n_imul hx hb dX8_beside_131  ?_
        refine lv_iload hx hb dX8_beside_132 (lv_at hl 2 rfl) ?_
        refine n_iadd hx hb dX8_beside_134  ?_
        refine lv_goto (tgt := 140) hx hb dX8_beside_135 (by decide) ?_
        rw [hQ]
        exact W.iret (v := nI ((((q / wd) + 1) * wd) + ((q % wd) + 0))) hx hb hr (fun t9 ht hW => ⟨⟨_, _, rfl, ⟨(by rw [stp_2, if_pos (by omega)]; show nI _ = nI _; rw [bs_dn]), rfl⟩, by rw [ht]; exact hP, rfl⟩, hS.F ht⟩) hS.2.2 dX8_beside_140
  · have _ : True := trivial
    refine lv_iload_n hx hb dX8_beside_0 rfl (lv_at hl 2 rfl) ?_
    refine lv_aload_n hx hb dX8_beside_1 rfl (lv_at hl 0 rfl) ?_
    refine gf_X8_7 hC hK hP 0 rfl rfl dX8_beside_2 ?_
    refine lv_iconst (v := nI 0) hx hb dX8_beside_5 (by decide) ?_
    refine n_iald hx hb hK hP 1 0 rfl rfl (by omega) (by decide) dX8_beside_6 ?_
    refine topi (y := nI wd) rfl ?_
    refine n_irem hx hb dX8_beside_7 (by omega) (by omega) (by omega) ?_
    refine lv_iload_n hx hb dX8_beside_8 rfl (lv_at hl 3 rfl) ?_
    refine lv_iconst (v := nI 1) hx hb dX8_beside_9 (by decide) ?_
    refine n_icmp_ne (a := 3) (b := 1) (tgt := 17) hx hb dX8_beside_10 (by decide) (by decide) (by decide) (fun _ => ?_) (fun h => absurd h (by decide))
    refine lv_iload_n hx hb dX8_beside_17 rfl (lv_at hl 3 rfl) ?_
    refine lv_iconst (v := nI 3) hx hb dX8_beside_18 (by decide) ?_
    refine n_icmp_ne (a := 3) (b := 3) (tgt := 26) hx hb dX8_beside_19 (by decide) (by decide) (by decide) (fun h => absurd h (by decide)) (fun _ => ?_)
    refine lv_iconst (v := (-1)) hx hb dX8_beside_22 (by decide) ?_
    refine lv_goto (tgt := 27) hx hb dX8_beside_23 (by decide) ?_
    refine lv_iadd hx hb dX8_beside_27 ?_
    rcases Nat.eq_zero_or_pos (q % wd) with hz | hz
    · have _ : True := trivial
      refine topi (y := (-1)) (by rw [hz]; rfl) ?_
      refine lv_istore (lv' := [(4, .int (-1)), (0, .ref o), (1, .int (nI b)), (2, .int (nI q)), (3, .int (nI 3))]) hx hb dX8_beside_28 hl (by decide) rfl (fun ls hl => ?_)
      refine lv_iload_n hx hb dX8_beside_30 rfl (lv_at hl 3 rfl) ?_
      refine lv_aload_n hx hb dX8_beside_31 rfl (lv_at hl 1 rfl) ?_
      refine gf_X8_7 hC hK hP 0 rfl rfl dX8_beside_32 ?_
      refine lv_iconst (v := nI 0) hx hb dX8_beside_35 (by decide) ?_
      refine n_iald hx hb hK hP 1 0 rfl rfl (by omega) (by decide) dX8_beside_36 ?_
      refine topi (y := nI wd) rfl ?_
      refine n_idiv hx hb dX8_beside_37 (by omega) (by omega) (by omega) ?_
      refine lv_iload_n hx hb dX8_beside_38 rfl (lv_at hl 4 rfl) ?_
      refine lv_iconst (v := nI 2) hx hb dX8_beside_39 (by decide) ?_
      refine n_icmp_ne (a := 3) (b := 2) (tgt := 47) hx hb dX8_beside_40 (by decide) (by decide) (by decide) (fun _ => ?_) (fun h => absurd h (by decide))
      refine lv_iload_n hx hb dX8_beside_47 rfl (lv_at hl 4 rfl) ?_
      refine n_if_ne (a := 3) (tgt := 55) hx hb dX8_beside_48 (by decide) (by decide) (fun _ => ?_) (fun h => absurd h (by decide))
      refine lv_iconst (v := nI 0) hx hb dX8_beside_55 (by decide) ?_
      refine n_iadd hx hb dX8_beside_56  ?_
      refine lv_istore (lv' := [(5, .int (nI ((q / wd) + 0))), (4, .int (-1)), (0, .ref o), (1, .int (nI b)), (2, .int (nI q)), (3, .int (nI 3))]) hx hb dX8_beside_57 hl (by decide) rfl (fun ls hl => ?_)
      refine lv_iload hx hb dX8_beside_59 (lv_at hl 1 rfl) ?_
      refine lv_if_lt (tgt := 115) hx hb dX8_beside_61 (by decide) (fun _ => ?_) (fun h => absurd (by decide) h)
      refine lv_iconst (v := nI 0) hx hb dX8_beside_115 (by decide) ?_
      refine lv_istore (lv' := [(6, .int (nI 0)), (5, .int (nI ((q / wd) + 0))), (4, .int (-1)), (0, .ref o), (1, .int (nI b)), (2, .int (nI q)), (3, .int (nI 3))]) hx hb dX8_beside_116 hl (by decide) rfl (fun ls hl => ?_)
      refine lv_iload hx hb dX8_beside_118 (lv_at hl 0 rfl) ?_
      refine n_if_eq (a := 0) (tgt := 138) hx hb dX8_beside_120 (by decide) (by decide) (fun _ => ?_) (fun h => absurd h (by decide))
      refine lv_bipush (v := (-9)) hx hb dX8_beside_138 (by decide) ?_
      rw [hQ]
      exact W.iret (v := (-9)) hx hb hr (fun t9 ht hW => ⟨⟨_, _, rfl, ⟨(by rw [stp_3, if_neg (by omega)]; rfl), rfl⟩, by rw [ht]; exact hP, rfl⟩, hS.F ht⟩) hS.2.2 dX8_beside_140
    · have _ : True := trivial
      refine topi (y := nI (q % wd - 1)) (sb_m1 hz) ?_
      refine lv_istore (lv' := [(4, .int (nI (q % wd - 1))), (0, .ref o), (1, .int (nI b)), (2, .int (nI q)), (3, .int (nI 3))]) hx hb dX8_beside_28 hl (by decide) rfl (fun ls hl => ?_)
      refine lv_iload_n hx hb dX8_beside_30 rfl (lv_at hl 3 rfl) ?_
      refine lv_aload_n hx hb dX8_beside_31 rfl (lv_at hl 1 rfl) ?_
      refine gf_X8_7 hC hK hP 0 rfl rfl dX8_beside_32 ?_
      refine lv_iconst (v := nI 0) hx hb dX8_beside_35 (by decide) ?_
      refine n_iald hx hb hK hP 1 0 rfl rfl (by omega) (by decide) dX8_beside_36 ?_
      refine topi (y := nI wd) rfl ?_
      refine n_idiv hx hb dX8_beside_37 (by omega) (by omega) (by omega) ?_
      refine lv_iload_n hx hb dX8_beside_38 rfl (lv_at hl 4 rfl) ?_
      refine lv_iconst (v := nI 2) hx hb dX8_beside_39 (by decide) ?_
      refine n_icmp_ne (a := 3) (b := 2) (tgt := 47) hx hb dX8_beside_40 (by decide) (by decide) (by decide) (fun _ => ?_) (fun h => absurd h (by decide))
      refine lv_iload_n hx hb dX8_beside_47 rfl (lv_at hl 4 rfl) ?_
      refine n_if_ne (a := 3) (tgt := 55) hx hb dX8_beside_48 (by decide) (by decide) (fun _ => ?_) (fun h => absurd h (by decide))
      refine lv_iconst (v := nI 0) hx hb dX8_beside_55 (by decide) ?_
      refine n_iadd hx hb dX8_beside_56  ?_
      refine lv_istore (lv' := [(5, .int (nI ((q / wd) + 0))), (4, .int (nI (q % wd - 1))), (0, .ref o), (1, .int (nI b)), (2, .int (nI q)), (3, .int (nI 3))]) hx hb dX8_beside_57 hl (by decide) rfl (fun ls hl => ?_)
      refine lv_iload hx hb dX8_beside_59 (lv_at hl 1 rfl) ?_
      refine n_if_lt (tgt := 115) hx hb dX8_beside_61 (by decide) (by omega) ?_
      refine lv_iload hx hb dX8_beside_64 (lv_at hl 0 rfl) ?_
      refine n_if_lt (tgt := 115) hx hb dX8_beside_66 (by decide) (by omega) ?_
      refine lv_iload hx hb dX8_beside_69 (lv_at hl 1 rfl) ?_
      refine lv_aload_n hx hb dX8_beside_71 rfl (lv_at hl 2 rfl) ?_
      refine gf_X8_7 hC hK hP 0 rfl rfl dX8_beside_72 ?_
      refine lv_bipush (v := nI 17) hx hb dX8_beside_75 (by decide) ?_
      refine lv_iload_n hx hb dX8_beside_77 rfl (lv_at hl 3 rfl) ?_
      refine n_iadd hx hb dX8_beside_78  ?_
      refine n_iald hx hb hK hP 1 0 rfl rfl (by omega) (by decide) dX8_beside_79 ?_
      refine topi (y := nI (bw b)) (vF_bw (by omega)) ?_
      refine n_iadd hx hb dX8_beside_80  ?_
      refine lv_aload_n hx hb dX8_beside_81 rfl (lv_at hl 2 rfl) ?_
      refine gf_X8_7 hC hK hP 0 rfl rfl dX8_beside_82 ?_
      refine lv_iconst (v := nI 0) hx hb dX8_beside_85 (by decide) ?_
      refine n_iald hx hb hK hP 1 0 rfl rfl (by omega) (by decide) dX8_beside_86 ?_
      refine topi (y := nI wd) rfl ?_
      refine n_icmp_gt (a := (q % wd - 1) + (bw b)) (b := wd) (tgt := 115) hx hb dX8_beside_87 (by decide) (by omega) (by omega) (fun c87 => ?_) (fun c87 => ?_)
      · have _ : True := trivial
        exfalso; omega
      · have _ : True := trivial
        refine lv_iload hx hb dX8_beside_90 (lv_at hl 0 rfl) ?_
        refine lv_aload_n hx hb dX8_beside_92 rfl (lv_at hl 2 rfl) ?_
        refine gf_X8_7 hC hK hP 0 rfl rfl dX8_beside_93 ?_
        refine lv_bipush (v := nI 24) hx hb dX8_beside_96 (by decide) ?_
        refine lv_iload_n hx hb dX8_beside_98 rfl (lv_at hl 3 rfl) ?_
        refine n_iadd hx hb dX8_beside_99  ?_
        refine n_iald hx hb hK hP 1 0 rfl rfl (by omega) (by decide) dX8_beside_100 ?_
        refine topi (y := nI (bh b)) (vF_bh (by omega)) ?_
        refine n_iadd hx hb dX8_beside_101  ?_
        refine lv_aload_n hx hb dX8_beside_102 rfl (lv_at hl 2 rfl) ?_
        refine gf_X8_7 hC hK hP 0 rfl rfl dX8_beside_103 ?_
        refine lv_iconst (v := nI 1) hx hb dX8_beside_106 (by decide) ?_
        refine n_iald hx hb hK hP 1 0 rfl rfl (by omega) (by decide) dX8_beside_107 ?_
        refine topi (y := nI hd) rfl ?_
        refine n_icmp_gt (a := ((q / wd) + 0) + (bh b)) (b := hd) (tgt := 115) hx hb dX8_beside_108 (by decide) (by omega) (by omega) (fun c108 => ?_) (fun c108 => ?_)
        · have _ : True := trivial
          exfalso; omega
        · have _ : True := trivial
          refine lv_iconst (v := nI 1) hx hb dX8_beside_111 (by decide) ?_
          refine lv_goto (tgt := 116) hx hb dX8_beside_112 (by decide) ?_
          refine lv_istore (lv' := [(6, .int (nI 1)), (5, .int (nI ((q / wd) + 0))), (4, .int (nI (q % wd - 1))), (0, .ref o), (1, .int (nI b)), (2, .int (nI q)), (3, .int (nI 3))]) hx hb dX8_beside_116 hl (by decide) rfl (fun ls hl => ?_)
          refine lv_iload hx hb dX8_beside_118 (lv_at hl 0 rfl) ?_
          refine n_if_eq (a := 1) (tgt := 138) hx hb dX8_beside_120 (by decide) (by decide) (fun h => absurd h (by decide)) (fun _ => ?_)
          refine lv_iload hx hb dX8_beside_123 (lv_at hl 1 rfl) ?_
          refine lv_aload_n hx hb dX8_beside_125 rfl (lv_at hl 3 rfl) ?_
          refine gf_X8_7 hC hK hP 0 rfl rfl dX8_beside_126 ?_
          refine lv_iconst (v := nI 0) hx hb dX8_beside_129 (by decide) ?_
          refine n_iald hx hb hK hP 1 0 rfl rfl (by omega) (by decide) dX8_beside_130 ?_
          refine topi (y := nI wd) rfl ?_
          refine n_imul hx hb dX8_beside_131  ?_
          refine lv_iload hx hb dX8_beside_132 (lv_at hl 2 rfl) ?_
          refine n_iadd hx hb dX8_beside_134  ?_
          refine lv_goto (tgt := 140) hx hb dX8_beside_135 (by decide) ?_
          rw [hQ]
          exact W.iret (v := nI ((((q / wd) + 0) * wd) + (q % wd - 1))) hx hb hr (fun t9 ht hW => ⟨⟨_, _, rfl, ⟨(by rw [stp_3, if_pos (by omega)]; show nI _ = nI _; rw [bs_lf hz]), rfl⟩, by rw [ht]; exact hP, rfl⟩, hS.F ht⟩) hS.2.2 dX8_beside_140

set_option maxHeartbeats 400000 in
set_option maxRecDepth 100000 in
theorem c_X8_floods (l : Launch) (D : va_G) (cI cJ cB : ClassId) (o kv kp kx kl kh ki kf kq ka kt kd kn mpm mty mwi mhi mwa mle mam mli : Nat) (mgo : Option Nat) (mtm : Bool) (mpa : Nat → Int32) (mtx mlt mha mfi mqu mta mln mal : Nat → Nat) (mfa mdi : Nat → Option Nat) (wd hd nb wl : Nat) (st sl : Int32) (gl aq lb : Option Nat) (sh bw bh ps : Nat → Nat) (k b : Nat) (hf : FrV wd hd nb wl sh bw bh) (hk : KV wd hd nb wl sh bw bh mgo k) (hgo : ∀ d, mgo = some d → d < nb) (hbn : b < nb) (hgb : mgo ≠ some b) : Met l yX8_floods (Cond.code yX8_floods cX8_floods 9 none :: lw_all) (rmN 2) (va_Pc [.ref o, .long (lN k), .int (nI b)] (pB D (tyz cI cJ cB) (mW cI cJ cB o kv kp kx kl kh ki kf kq ka kt kd kn (nI mpm) (nI mty) (nI mwi) (nI mhi) (nI mwa) (nI mle) (gI mgo) (nI mam) (bI mtm) (nI mli) (vF wd hd nb wl st sl gl aq lb sh bw bh ps) mpa (fun zz => nI (mtx zz)) (fun zz => nI (mlt zz)) (fun zz => nI (mha zz)) (fun zz => nI (mfi zz)) (fun zz => oI (mfa zz)) (fun zz => nI (mqu zz)) (fun zz => lN (mal zz)) (fun zz => nI (mta zz)) (fun zz => oI (mdi zz)) (fun zz => nI (mln zz))))) (va_Qv (fun (w : va_W) => ∃ F2 : Nat → Option Nat, ∃ Q2 : Nat → Nat, w = mW cI cJ cB o kv kp kx kl kh ki kf kq ka kt kd kn (nI mpm) (nI mty) (nI mwi) (nI mhi) (nI mwa) (nI mle) (gI mgo) (nI mam) (bI mtm) (nI mli) (vF wd hd nb wl st sl gl aq lb sh bw bh ps) mpa (fun zz => nI (mtx zz)) (fun zz => nI (mlt zz)) (fun zz => nI (mha zz)) (fun zz => nI (mfi zz)) (fun zz => oI (F2 zz)) (fun zz => nI (Q2 zz)) (fun zz => lN (mal zz)) (fun zz => nI (mta zz)) (fun zz => oI (mdi zz)) (fun zz => nI (mln zz)) ∧ LD (fstep wd hd (bw b) (bh b) (sh b) (tk wl sh k (exb mgo (some b)) nb)) (fun x => x = plc k b) F2 ∧ (∀ x d, F2 x = some d → PlV wd hd (bw b) (bh b) x ∧ x < wd * hd ∧ d < 24)) (gB D (mW cI cJ cB o kv kp kx kl kh ki kf kq ka kt kd kn (nI mpm) (nI mty) (nI mwi) (nI mhi) (nI mwa) (nI mle) (gI mgo) (nI mam) (bI mtm) (nI mli) (vF wd hd nb wl st sl gl aq lb sh bw bh ps) mpa (fun zz => nI (mtx zz)) (fun zz => nI (mlt zz)) (fun zz => nI (mha zz)) (fun zz => nI (mfi zz)) (fun zz => oI (mfa zz)) (fun zz => nI (mqu zz)) (fun zz => lN (mal zz)) (fun zz => nI (mta zz)) (fun zz => oI (mdi zz)) (fun zz => nI (mln zz)))) (aW (mW cI cJ cB o kv kp kx kl kh ki kf kq ka kt kd kn (nI mpm) (nI mty) (nI mwi) (nI mhi) (nI mwa) (nI mle) (gI mgo) (nI mam) (bI mtm) (nI mli) (vF wd hd nb wl st sl gl aq lb sh bw bh ps) mpa (fun zz => nI (mtx zz)) (fun zz => nI (mlt zz)) (fun zz => nI (mha zz)) (fun zz => nI (mfi zz)) (fun zz => oI (mfa zz)) (fun zz => nI (mqu zz)) (fun zz => lN (mal zz)) (fun zz => nI (mta zz)) (fun zz => oI (mdi zz)) (fun zz => nI (mln zz))))) 0 0 (aW (mW cI cJ cB o kv kp kx kl kh ki kf kq ka kt kd kn (nI mpm) (nI mty) (nI mwi) (nI mhi) (nI mwa) (nI mle) (gI mgo) (nI mam) (bI mtm) (nI mli) (vF wd hd nb wl st sl gl aq lb sh bw bh ps) mpa (fun zz => nI (mtx zz)) (fun zz => nI (mlt zz)) (fun zz => nI (mha zz)) (fun zz => nI (mfi zz)) (fun zz => oI (mfa zz)) (fun zz => nI (mqu zz)) (fun zz => lN (mal zz)) (fun zz => nI (mta zz)) (fun zz => oI (mdi zz)) (fun zz => nI (mln zz)))) := by
  refine Met.ofW (cc := cX8_floods) (maxL := 9) (ret := none) (by decide) rfl ?_
  intro p e s m args below meth c s₁ B hml hv
  obtain ⟨rfl, hK, hN, hP, hD0⟩ := hv
  have hx := B.exec; have hb := B.bytes; have hr := B.returns; have hlocks := B.notSynchronized
  have hts0 := atoms_spec (ws := Cond.code yX8_floods cX8_floods 9 none :: lw_all) B.pre
  have hC : CallFix p m c cX8_floods 9 s _ lw_all RX8 := ⟨hx, hb, hml, findClass_of_methodNamed B.named, fun w h => hts0 w (List.mem_cons_of_mem _ h)⟩
  have hD : va_D (aW (mW cI cJ cB o kv kp kx kl kh ki kf kq ka kt kd kn (nI mpm) (nI mty) (nI mwi) (nI mhi) (nI mwa) (nI mle) (gI mgo) (nI mam) (bI mtm) (nI mli) (vF wd hd nb wl st sl gl aq lb sh bw bh ps) mpa (fun zz => nI (mtx zz)) (fun zz => nI (mlt zz)) (fun zz => nI (mha zz)) (fun zz => nI (mfi zz)) (fun zz => oI (mfa zz)) (fun zz => nI (mqu zz)) (fun zz => lN (mal zz)) (fun zz => nI (mta zz)) (fun zz => oI (mdi zz)) (fun zz => nI (mln zz)))) (mW cI cJ cB o kv kp kx kl kh ki kf kq ka kt kd kn (nI mpm) (nI mty) (nI mwi) (nI mhi) (nI mwa) (nI mle) (gI mgo) (nI mam) (bI mtm) (nI mli) (vF wd hd nb wl st sl gl aq lb sh bw bh ps) mpa (fun zz => nI (mtx zz)) (fun zz => nI (mlt zz)) (fun zz => nI (mha zz)) (fun zz => nI (mfi zz)) (fun zz => oI (mfa zz)) (fun zz => nI (mqu zz)) (fun zz => lN (mal zz)) (fun zz => nI (mta zz)) (fun zz => oI (mdi zz)) (fun zz => nI (mln zz))) := ⟨hD0.1, fun k q h => ⟨k, q.2, h⟩⟩
  generalize hAe : aW (mW cI cJ cB o kv kp kx kl kh ki kf kq ka kt kd kn (nI mpm) (nI mty) (nI mwi) (nI mhi) (nI mwa) (nI mle) (gI mgo) (nI mam) (bI mtm) (nI mli) (vF wd hd nb wl st sl gl aq lb sh bw bh ps) mpa (fun zz => nI (mtx zz)) (fun zz => nI (mlt zz)) (fun zz => nI (mha zz)) (fun zz => nI (mfi zz)) (fun zz => oI (mfa zz)) (fun zz => nI (mqu zz)) (fun zz => lN (mal zz)) (fun zz => nI (mta zz)) (fun zz => oI (mdi zz)) (fun zz => nI (mln zz))) = A at hD ⊢
  have hS : va_S A s.heap s.heap [] := va_S.rf
  have hl := lv_entry ([.ref o, .long (lN k), .int (nI b)]) (n := 9) (Nat.le_of_ble_eq_true rfl)
  rw [lg_entry_eq]
  generalize (lg_sl ([.ref o, .long (lN k), .int (nI b)]) ++ List.replicate (9 - (lg_sl ([.ref o, .long (lN k), .int (nI b)])).length) Slot.unset).toArray = ls at hl ⊢
  have hl : lv_has ls 9 [(0, .ref o), (1, .long (lN k)), (3, .int (nI b))] := hl
  generalize hav : ([.ref o, .long (lN k), .int (nI b)] : List Value).toArray = args at hC ⊢
  refine W_gen (fun QQ hQ => ?_)
  show W p l e (rmN 2) s m args below meth c s.heap [] 0 0 QQ (F0 m 0 ls [])
  obtain ⟨hw1, hw6, hd1, hd6, h24, hn7, hwl, hsh⟩ := id hf
  have hsb := hsh b hbn
  have hk35 := hk.1
  have hkb := (hk.2.2 b hbn hgb).1
  have hot : (tk wl sh k (exb mgo (some b)) nb) < 2 ^ 24 := tk_lt hf hk (fun _ h => exb_no h)
  have hp24 := fr_lt hw1 h24 hsb.2.2.1 hkb
  refine lv_aload_n hx hb dX8_floods_0 rfl (lv_at hl 0 rfl) ?_
  refine lv_lload_n hx hb dX8_floods_1 rfl (lv_at hl 1 rfl) ?_
  refine lv_iload_n hx hb dX8_floods_2 rfl (lv_at hl 2 rfl) ?_
  refine callV_i (As := [.long (lN k), .int (nI b)]) (rest := []) [0, 1, 2, 3, 4, 5, 6, 7, 8, 9, 10, 11, 12] hC hK hN hP hD rfl (by decide) hS 0 (ci := 8) rfl rfl rfl (c_X8_taken l D cI cJ cB o kv kp kx kl kh ki kf kq ka kt kd kn mpm mty mwi mhi mwa mle mam mli mgo mtm mpa mtx mlt mha mfi mqu mta mln mal mfa mdi wd hd nb wl st sl gl aq lb sh bw bh ps k (some b) (by omega) hk35 (fun d h => by cases h; omega) (fun d h => by have := hgo d h; omega)) q809 md_X8_taken rfl hl.1 rfl (Nat.le_of_ble_eq_true rfl) dX8_floods_3 ⟨Nat.le_of_ble_eq_true rfl, Nat.le_of_ble_eq_true rfl⟩ ⟨Nat.le_of_ble_eq_true rfl, Nat.le_of_ble_eq_true rfl⟩ (fun r_3 w H locs hpost hP hD hS => ?_)
  obtain ⟨rfl, rfl⟩ := hpost
  have hP : va_P D vwCl (mW cI cJ cB o kv kp kx kl kh ki kf kq ka kt kd kn (nI mpm) (nI mty) (nI mwi) (nI mhi) (nI mwa) (nI mle) (gI mgo) (nI mam) (bI mtm) (nI mli) (vF wd hd nb wl st sl gl aq lb sh bw bh ps) mpa (fun zz => nI (mtx zz)) (fun zz => nI (mlt zz)) (fun zz => nI (mha zz)) (fun zz => nI (mfi zz)) (fun zz => oI (mfa zz)) (fun zz => nI (mqu zz)) (fun zz => lN (mal zz)) (fun zz => nI (mta zz)) (fun zz => oI (mdi zz)) (fun zz => nI (mln zz))) H := hP
  have hD : va_D A (mW cI cJ cB o kv kp kx kl kh ki kf kq ka kt kd kn (nI mpm) (nI mty) (nI mwi) (nI mhi) (nI mwa) (nI mle) (gI mgo) (nI mam) (bI mtm) (nI mli) (vF wd hd nb wl st sl gl aq lb sh bw bh ps) mpa (fun zz => nI (mtx zz)) (fun zz => nI (mlt zz)) (fun zz => nI (mha zz)) (fun zz => nI (mfi zz)) (fun zz => oI (mfa zz)) (fun zz => nI (mqu zz)) (fun zz => lN (mal zz)) (fun zz => nI (mta zz)) (fun zz => oI (mdi zz)) (fun zz => nI (mln zz))) := hD
  refine lv_istore (lv' := [(4, .int (nI (tk wl sh k (exb mgo (some b)) nb))), (0, .ref o), (1, .long (lN k)), (3, .int (nI b))]) hx hb dX8_floods_6 hl (by decide) rfl (fun ls hl => ?_)
  refine lv_iconst (v := nI 0) hx hb dX8_floods_8 (by decide) ?_
  refine lv_istore (lv' := [(5, .int (nI 0)), (4, .int (nI (tk wl sh k (exb mgo (some b)) nb))), (0, .ref o), (1, .long (lN k)), (3, .int (nI b))]) hx hb dX8_floods_9 hl (by decide) rfl (fun ls hl => ?_)
  have L11 : ∀ (n : Nat) (j : Nat) (F : Nat → Option Nat), (j ≤ 24) → (∀ i, i < j → F i = none) → (24 - j) < n → ∀ (H : Heap) (locs : List Loc), va_P D vwCl (mW cI cJ cB o kv kp kx kl kh ki kf kq ka kt kd kn (nI mpm) (nI mty) (nI mwi) (nI mhi) (nI mwa) (nI mle) (gI mgo) (nI mam) (bI mtm) (nI mli) (vF wd hd nb wl st sl gl aq lb sh bw bh ps) mpa (fun zz => nI (mtx zz)) (fun zz => nI (mlt zz)) (fun zz => nI (mha zz)) (fun zz => nI (mfi zz)) (fun zz => oI (F zz)) (fun zz => nI (mqu zz)) (fun zz => lN (mal zz)) (fun zz => nI (mta zz)) (fun zz => oI (mdi zz)) (fun zz => nI (mln zz))) H → va_D A (mW cI cJ cB o kv kp kx kl kh ki kf kq ka kt kd kn (nI mpm) (nI mty) (nI mwi) (nI mhi) (nI mwa) (nI mle) (gI mgo) (nI mam) (bI mtm) (nI mli) (vF wd hd nb wl st sl gl aq lb sh bw bh ps) mpa (fun zz => nI (mtx zz)) (fun zz => nI (mlt zz)) (fun zz => nI (mha zz)) (fun zz => nI (mfi zz)) (fun zz => oI (F zz)) (fun zz => nI (mqu zz)) (fun zz => lN (mal zz)) (fun zz => nI (mta zz)) (fun zz => oI (mdi zz)) (fun zz => nI (mln zz))) → va_S A s.heap H locs → ∀ ls : Array Slot, lv_has ls 9 [(5, .int (nI j)), (4, .int (nI (tk wl sh k (exb mgo (some b)) nb))), (0, .ref o), (1, .long (lN k)), (3, .int (nI b))] → W p l e (rmN 2) s m args below meth c H locs 0 0 QQ (F0 m 11 ls []) := by
    intro n; induction n with
    | zero => intro j F ij iz hm; exact absurd hm (Nat.not_lt_zero _)
    | succ n ih11 =>
      intro j F ij iz hm11 H locs hP hD hS ls hl
      refine lv_iload hx hb dX8_floods_11 (lv_at hl 0 rfl) ?_
      refine lv_bipush (v := nI 24) hx hb dX8_floods_13 (by decide) ?_
      refine n_icmp_ge (a := j) (b := 24) (tgt := 32) hx hb dX8_floods_15 (by decide) (by omega) (by omega) (fun c15 => ?_) (fun c15 => ?_)
      · have _ : True := trivial
        have e11 : j = 24 := by omega
        have hP : va_P D vwCl (mW cI cJ cB o kv kp kx kl kh ki kf kq ka kt kd kn (nI mpm) (nI mty) (nI mwi) (nI mhi) (nI mwa) (nI mle) (gI mgo) (nI mam) (bI mtm) (nI mli) (vF wd hd nb wl st sl gl aq lb sh bw bh ps) mpa (fun zz => nI (mtx zz)) (fun zz => nI (mlt zz)) (fun zz => nI (mha zz)) (fun zz => nI (mfi zz)) (fun zz => oI (noneF zz)) (fun zz => nI (mqu zz)) (fun zz => lN (mal zz)) (fun zz => nI (mta zz)) (fun zz => oI (mdi zz)) (fun zz => nI (mln zz))) H := va_P_reI 7 (g := fun zz => oI (noneF zz)) hP rfl (fun i hi => by rw [iz i (by omega)]; rfl) rfl
        have hD : va_D A (mW cI cJ cB o kv kp kx kl kh ki kf kq ka kt kd kn (nI mpm) (nI mty) (nI mwi) (nI mhi) (nI mwa) (nI mle) (gI mgo) (nI mam) (bI mtm) (nI mli) (vF wd hd nb wl st sl gl aq lb sh bw bh ps) mpa (fun zz => nI (mtx zz)) (fun zz => nI (mlt zz)) (fun zz => nI (mha zz)) (fun zz => nI (mfi zz)) (fun zz => oI (noneF zz)) (fun zz => nI (mqu zz)) (fun zz => lN (mal zz)) (fun zz => nI (mta zz)) (fun zz => oI (mdi zz)) (fun zz => nI (mln zz))) := va_D_adr (ws := mW cI cJ cB o kv kp kx kl kh ki kf kq ka kt kd kn (nI mpm) (nI mty) (nI mwi) (nI mhi) (nI mwa) (nI mle) (gI mgo) (nI mam) (bI mtm) (nI mli) (vF wd hd nb wl st sl gl aq lb sh bw bh ps) mpa (fun zz => nI (mtx zz)) (fun zz => nI (mlt zz)) (fun zz => nI (mha zz)) (fun zz => nI (mfi zz)) (fun zz => oI (F zz)) (fun zz => nI (mqu zz)) (fun zz => lN (mal zz)) (fun zz => nI (mta zz)) (fun zz => oI (mdi zz)) (fun zz => nI (mln zz))) rfl hD
        refine lv_iconst (v := nI 1) hx hb dX8_floods_32 (by decide) ?_
        refine lv_istore (lv' := [(5, .int (nI 1)), (4, .int (nI (tk wl sh k (exb mgo (some b)) nb))), (0, .ref o), (1, .long (lN k)), (3, .int (nI b))]) hx hb dX8_floods_33 hl (by decide) rfl (fun ls hl => ?_)
        refine lv_aload_n hx hb dX8_floods_35 rfl (lv_at hl 2 rfl) ?_
        refine gf_X8_35 hC hK hP 0 rfl rfl dX8_floods_36 ?_
        refine lv_iconst (v := nI 0) hx hb dX8_floods_39 (by decide) ?_
        refine lv_lload_n hx hb dX8_floods_40 rfl (lv_at hl 3 rfl) ?_
        refine lv_iload_n hx hb dX8_floods_41 rfl (lv_at hl 4 rfl) ?_
        refine callS_i (As := [.long (lN k), .int (nI b)]) (rest := [.int (nI 0), .ref kq]) [] hC hK hN hP hD rfl (by decide) hS (c_X8_placeIn l D cI cJ cB k b hk35 (by omega)) q813 md_X8_placeIn rfl hl.1 rfl (Nat.le_of_ble_eq_true rfl) dX8_floods_42 ⟨Nat.le_of_ble_eq_true rfl, Nat.le_of_ble_eq_true rfl⟩ ⟨Nat.le_of_ble_eq_true rfl, Nat.le_of_ble_eq_true rfl⟩ (fun r_42 w H locs hpost hP hD hS => ?_)
        obtain ⟨rfl, rfl⟩ := hpost
        have hP : va_P D vwCl (mW cI cJ cB o kv kp kx kl kh ki kf kq ka kt kd kn (nI mpm) (nI mty) (nI mwi) (nI mhi) (nI mwa) (nI mle) (gI mgo) (nI mam) (bI mtm) (nI mli) (vF wd hd nb wl st sl gl aq lb sh bw bh ps) mpa (fun zz => nI (mtx zz)) (fun zz => nI (mlt zz)) (fun zz => nI (mha zz)) (fun zz => nI (mfi zz)) (fun zz => oI (noneF zz)) (fun zz => nI (mqu zz)) (fun zz => lN (mal zz)) (fun zz => nI (mta zz)) (fun zz => oI (mdi zz)) (fun zz => nI (mln zz))) H := hP
        have hD : va_D A (mW cI cJ cB o kv kp kx kl kh ki kf kq ka kt kd kn (nI mpm) (nI mty) (nI mwi) (nI mhi) (nI mwa) (nI mle) (gI mgo) (nI mam) (bI mtm) (nI mli) (vF wd hd nb wl st sl gl aq lb sh bw bh ps) mpa (fun zz => nI (mtx zz)) (fun zz => nI (mlt zz)) (fun zz => nI (mha zz)) (fun zz => nI (mfi zz)) (fun zz => oI (noneF zz)) (fun zz => nI (mqu zz)) (fun zz => lN (mal zz)) (fun zz => nI (mta zz)) (fun zz => oI (mdi zz)) (fun zz => nI (mln zz))) := hD
        refine n_iast hx hb hK hP hD hS 8 0 rfl rfl (by omega) (by decide) (up_nI _ _ _) (ws1 := mW cI cJ cB o kv kp kx kl kh ki kf kq ka kt kd kn (nI mpm) (nI mty) (nI mwi) (nI mhi) (nI mwa) (nI mle) (gI mgo) (nI mam) (bI mtm) (nI mli) (vF wd hd nb wl st sl gl aq lb sh bw bh ps) mpa (fun zz => nI (mtx zz)) (fun zz => nI (mlt zz)) (fun zz => nI (mha zz)) (fun zz => nI (mfi zz)) (fun zz => oI (noneF zz)) (fun zz => nI ((va_up mqu 0 (plc k b)) zz)) (fun zz => lN (mal zz)) (fun zz => nI (mta zz)) (fun zz => oI (mdi zz)) (fun zz => nI (mln zz))) rfl dX8_floods_45 (fun H locs hP hD hS => ?_)
        refine lv_aload_n hx hb dX8_floods_46 rfl (lv_at hl 2 rfl) ?_
        refine gf_X8_32 hC hK hP 0 rfl rfl dX8_floods_47 ?_
        refine lv_aload_n hx hb dX8_floods_50 rfl (lv_at hl 2 rfl) ?_
        refine gf_X8_35 hC hK hP 0 rfl rfl dX8_floods_51 ?_
        refine lv_iconst (v := nI 0) hx hb dX8_floods_54 (by decide) ?_
        refine n_iald hx hb hK hP 8 0 rfl rfl (by omega) (by decide) dX8_floods_55 ?_
        refine topi (y := nI (plc k b)) rfl ?_
        refine lv_iconst (v := nI 0) hx hb dX8_floods_56 (by decide) ?_
        refine n_iast hx hb hK hP hD hS 7 0 rfl rfl hp24 (by decide) (up_oIs _ _ _) (ws1 := mW cI cJ cB o kv kp kx kl kh ki kf kq ka kt kd kn (nI mpm) (nI mty) (nI mwi) (nI mhi) (nI mwa) (nI mle) (gI mgo) (nI mam) (bI mtm) (nI mli) (vF wd hd nb wl st sl gl aq lb sh bw bh ps) mpa (fun zz => nI (mtx zz)) (fun zz => nI (mlt zz)) (fun zz => nI (mha zz)) (fun zz => nI (mfi zz)) (fun zz => oI ((va_up noneF (plc k b) (some 0)) zz)) (fun zz => nI ((va_up mqu 0 (plc k b)) zz)) (fun zz => lN (mal zz)) (fun zz => nI (mta zz)) (fun zz => oI (mdi zz)) (fun zz => nI (mln zz))) rfl dX8_floods_57 (fun H locs hP hD hS => ?_)
        refine lv_iconst (v := nI 0) hx hb dX8_floods_58 (by decide) ?_
        refine lv_istore (lv' := [(6, .int (nI 0)), (5, .int (nI 1)), (4, .int (nI (tk wl sh k (exb mgo (some b)) nb))), (0, .ref o), (1, .long (lN k)), (3, .int (nI b))]) hx hb dX8_floods_59 hl (by decide) rfl (fun ls hl => ?_)
        have L61 : ∀ (n : Nat) (u : Nat) (mm : Nat) (F : Nat → Option Nat) (Qq : Nat → Nat), (BI (fstep wd hd (bw b) (bh b) (sh b) (tk wl sh k (exb mgo (some b)) nb)) (fun x => x = plc k b) F Qq mm u) → (∀ x d, F x = some d → PlV wd hd (bw b) (bh b) x ∧ x < 24) → (mm ≤ 24) → (24 - u) < n → ∀ (H : Heap) (locs : List Loc), va_P D vwCl (mW cI cJ cB o kv kp kx kl kh ki kf kq ka kt kd kn (nI mpm) (nI mty) (nI mwi) (nI mhi) (nI mwa) (nI mle) (gI mgo) (nI mam) (bI mtm) (nI mli) (vF wd hd nb wl st sl gl aq lb sh bw bh ps) mpa (fun zz => nI (mtx zz)) (fun zz => nI (mlt zz)) (fun zz => nI (mha zz)) (fun zz => nI (mfi zz)) (fun zz => oI (F zz)) (fun zz => nI (Qq zz)) (fun zz => lN (mal zz)) (fun zz => nI (mta zz)) (fun zz => oI (mdi zz)) (fun zz => nI (mln zz))) H → va_D A (mW cI cJ cB o kv kp kx kl kh ki kf kq ka kt kd kn (nI mpm) (nI mty) (nI mwi) (nI mhi) (nI mwa) (nI mle) (gI mgo) (nI mam) (bI mtm) (nI mli) (vF wd hd nb wl st sl gl aq lb sh bw bh ps) mpa (fun zz => nI (mtx zz)) (fun zz => nI (mlt zz)) (fun zz => nI (mha zz)) (fun zz => nI (mfi zz)) (fun zz => oI (F zz)) (fun zz => nI (Qq zz)) (fun zz => lN (mal zz)) (fun zz => nI (mta zz)) (fun zz => oI (mdi zz)) (fun zz => nI (mln zz))) → va_S A s.heap H locs → ∀ ls : Array Slot, lv_has ls 9 [(5, .int (nI mm)), (6, .int (nI u)), (4, .int (nI (tk wl sh k (exb mgo (some b)) nb))), (0, .ref o), (1, .long (lN k)), (3, .int (nI b))] → W p l e (rmN 2) s m args below meth c H locs 0 0 QQ (F0 m 61 ls []) := by
          intro n; induction n with
          | zero => intro u mm F Qq iB iF im hm; exact absurd hm (Nat.not_lt_zero _)
          | succ n ih61 =>
            intro u mm F Qq iB iF im hm61 H locs hP hD hS ls hl
            refine lv_iload hx hb dX8_floods_61 (lv_at hl 1 rfl) ?_
            refine lv_iload hx hb dX8_floods_63 (lv_at hl 0 rfl) ?_
            refine n_icmp_ge (a := u) (b := mm) (tgt := 171) hx hb dX8_floods_65 (by decide) (by have := iB.1; omega) (by omega) (fun c65 => ?_) (fun c65 => ?_)
            · have _ : True := trivial
              rw [hQ]
              exact W.vret hx hb hr (fun t9 ht hW => ⟨⟨_, rfl, ⟨F, Qq, rfl, (by rw [show u = mm by have := iB.1; omega] at iB; exact BI_done iB), (fun x d h => ⟨(iF x d h).1, PlV_lt hw1 hsb.2.2.1 (iF x d h).1, BI_bound iB (fun x d h => (iF x d h).2) h⟩)⟩, by rw [ht]; exact hP, rfl⟩, hS.F ht⟩) hS.2.2 dX8_floods_171
            · have _ : True := trivial
              obtain ⟨lv, hlv⟩ := iB.2.1 u c65
              obtain ⟨qu, hqu⟩ : ∃ x, x = Qq u := ⟨_, rfl⟩
              refine lv_iconst (v := nI 0) hx hb dX8_floods_68 (by decide) ?_
              refine lv_istore (lv' := [(7, .int (nI 0)), (5, .int (nI mm)), (6, .int (nI u)), (4, .int (nI (tk wl sh k (exb mgo (some b)) nb))), (0, .ref o), (1, .long (lN k)), (3, .int (nI b))]) hx hb dX8_floods_69 hl (by decide) rfl (fun ls hl => ?_)
              have L71 : ∀ (n : Nat) (dd : Nat) (mm : Nat) (F : Nat → Option Nat) (Qq : Nat → Nat), (dd ≤ 4) → (BI (fstep wd hd (bw b) (bh b) (sh b) (tk wl sh k (exb mgo (some b)) nb)) (fun x => x = plc k b) F Qq mm u) → (u < mm) → (∀ x d, F x = some d → PlV wd hd (bw b) (bh b) x ∧ x < 24) → (mm ≤ 24) → (F (Qq u) = some lv) → (Qq u = qu) → (∀ i, i < dd → ∀ x, mvt wd hd (bw b) (bh b) (sh b) (tk wl sh k (exb mgo (some b)) nb) qu i = some x → ∃ e, F x = some e ∧ e ≤ lv + 1) → (4 - dd) < n → ∀ (H : Heap) (locs : List Loc), va_P D vwCl (mW cI cJ cB o kv kp kx kl kh ki kf kq ka kt kd kn (nI mpm) (nI mty) (nI mwi) (nI mhi) (nI mwa) (nI mle) (gI mgo) (nI mam) (bI mtm) (nI mli) (vF wd hd nb wl st sl gl aq lb sh bw bh ps) mpa (fun zz => nI (mtx zz)) (fun zz => nI (mlt zz)) (fun zz => nI (mha zz)) (fun zz => nI (mfi zz)) (fun zz => oI (F zz)) (fun zz => nI (Qq zz)) (fun zz => lN (mal zz)) (fun zz => nI (mta zz)) (fun zz => oI (mdi zz)) (fun zz => nI (mln zz))) H → va_D A (mW cI cJ cB o kv kp kx kl kh ki kf kq ka kt kd kn (nI mpm) (nI mty) (nI mwi) (nI mhi) (nI mwa) (nI mle) (gI mgo) (nI mam) (bI mtm) (nI mli) (vF wd hd nb wl st sl gl aq lb sh bw bh ps) mpa (fun zz => nI (mtx zz)) (fun zz => nI (mlt zz)) (fun zz => nI (mha zz)) (fun zz => nI (mfi zz)) (fun zz => oI (F zz)) (fun zz => nI (Qq zz)) (fun zz => lN (mal zz)) (fun zz => nI (mta zz)) (fun zz => oI (mdi zz)) (fun zz => nI (mln zz))) → va_S A s.heap H locs → ∀ ls : Array Slot, lv_has ls 9 [(5, .int (nI mm)), (7, .int (nI dd)), (6, .int (nI u)), (4, .int (nI (tk wl sh k (exb mgo (some b)) nb))), (0, .ref o), (1, .long (lN k)), (3, .int (nI b))] → W p l e (rmN 2) s m args below meth c H locs 0 0 QQ (F0 m 71 ls []) := by
                intro n; induction n with
                | zero => intro dd mm F Qq id4 iB iu iF im il iq idn hm; exact absurd hm (Nat.not_lt_zero _)
                | succ n ih71 =>
                  intro dd mm F Qq id4 iB iu iF im il iq idn hm71 H locs hP hD hS ls hl
                  refine lv_iload hx hb dX8_floods_71 (lv_at hl 1 rfl) ?_
                  refine lv_iconst (v := nI 4) hx hb dX8_floods_73 (by decide) ?_
                  refine n_icmp_ge (a := dd) (b := 4) (tgt := 165) hx hb dX8_floods_74 (by decide) (by omega) (by omega) (fun c74 => ?_) (fun c74 => ?_)
                  · have _ : True := trivial
                    refine lv_iinc (v := nI (u + 1)) (lv' := [(6, .int (nI (u + 1))), (5, .int (nI mm)), (7, .int (nI dd)), (4, .int (nI (tk wl sh k (exb mgo (some b)) nb))), (0, .ref o), (1, .long (lN k)), (3, .int (nI b))]) hx hb dX8_floods_165 hl (k := 2) rfl (nI_1 _) (by decide) rfl (fun ls hl => ?_)
                    refine lv_goto (tgt := 61) hx hb dX8_floods_168 (by decide) ?_
                    exact ih61 (u + 1) mm F Qq (BI_next iB iu (fun x d h1 h2 => by rw [il] at h1; cases h1; obtain ⟨i, hi, h3⟩ := h2; rw [iq] at h3; exact idn i (by omega) x h3)) iF (by omega) (by omega) _ _ hP hD hS _ (lv_sub hl [1, 0, 3, 4, 5, 6] rfl)
                  · have _ : True := trivial
                    refine lv_aload_n hx hb dX8_floods_77 rfl (lv_at hl 4 rfl) ?_
                    refine lv_iload_n hx hb dX8_floods_78 rfl (lv_at hl 6 rfl) ?_
                    refine lv_aload_n hx hb dX8_floods_79 rfl (lv_at hl 4 rfl) ?_
                    refine gf_X8_35 hC hK hP 0 rfl rfl dX8_floods_80 ?_
                    refine lv_iload hx hb dX8_floods_83 (lv_at hl 2 rfl) ?_
                    refine n_iald hx hb hK hP 8 0 rfl rfl (by omega) (by decide) dX8_floods_85 ?_
                    refine lv_iload hx hb dX8_floods_86 (lv_at hl 1 rfl) ?_
                    refine callV_i (As := [.int (nI b), .int (nI (Qq u)), .int (nI dd)]) (rest := []) [0, 1, 2, 3, 4, 5, 6, 7, 8, 9, 10, 11, 12] hC hK hN hP hD rfl (by decide) hS 0 (ci := 8) rfl rfl rfl (c_X8_beside l D cI cJ cB o kv kp kx kl kh ki kf kq ka kt kd kn mpm mty mwi mhi mwa mle mam mli mgo mtm mpa mtx mlt mha mfi Qq mta mln mal F mdi wd hd nb wl st sl gl aq lb sh bw bh ps b (Qq u) dd (by omega) hw1 (by omega) (by omega) (by have := (iF _ _ il).2; omega) (iF _ _ il).1.1 (iF _ _ il).1.2 (by omega)) q847 md_X8_beside rfl hl.1 rfl (Nat.le_of_ble_eq_true rfl) dX8_floods_88 ⟨Nat.le_of_ble_eq_true rfl, Nat.le_of_ble_eq_true rfl⟩ ⟨Nat.le_of_ble_eq_true rfl, Nat.le_of_ble_eq_true rfl⟩ (fun r_88 w H locs hpost hP hD hS => ?_)
                    obtain ⟨rfl, rfl⟩ := hpost
                    have hP : va_P D vwCl (mW cI cJ cB o kv kp kx kl kh ki kf kq ka kt kd kn (nI mpm) (nI mty) (nI mwi) (nI mhi) (nI mwa) (nI mle) (gI mgo) (nI mam) (bI mtm) (nI mli) (vF wd hd nb wl st sl gl aq lb sh bw bh ps) mpa (fun zz => nI (mtx zz)) (fun zz => nI (mlt zz)) (fun zz => nI (mha zz)) (fun zz => nI (mfi zz)) (fun zz => oI (F zz)) (fun zz => nI (Qq zz)) (fun zz => lN (mal zz)) (fun zz => nI (mta zz)) (fun zz => oI (mdi zz)) (fun zz => nI (mln zz))) H := hP
                    have hD : va_D A (mW cI cJ cB o kv kp kx kl kh ki kf kq ka kt kd kn (nI mpm) (nI mty) (nI mwi) (nI mhi) (nI mwa) (nI mle) (gI mgo) (nI mam) (bI mtm) (nI mli) (vF wd hd nb wl st sl gl aq lb sh bw bh ps) mpa (fun zz => nI (mtx zz)) (fun zz => nI (mlt zz)) (fun zz => nI (mha zz)) (fun zz => nI (mfi zz)) (fun zz => oI (F zz)) (fun zz => nI (Qq zz)) (fun zz => lN (mal zz)) (fun zz => nI (mta zz)) (fun zz => oI (mdi zz)) (fun zz => nI (mln zz))) := hD
                    refine lv_istore (lv' := [(8, .int (gI (stp wd hd (bw b) (bh b) (Qq u) dd))), (5, .int (nI mm)), (7, .int (nI dd)), (6, .int (nI u)), (4, .int (nI (tk wl sh k (exb mgo (some b)) nb))), (0, .ref o), (1, .long (lN k)), (3, .int (nI b))]) hx hb dX8_floods_91 hl (by decide) rfl (fun ls hl => ?_)
                    refine lv_iload hx hb dX8_floods_93 (lv_at hl 0 rfl) ?_
                    refine g_if_lt (x := stp wd hd (bw b) (bh b) (Qq u) dd) (tgt := 159) hx hb dX8_floods_95 (by decide) (fun d h => by have := fr_lt hw1 h24 hsb.2.2.1 (stp_pl hw1 hsb.1 (iF _ _ il).1 h); omega) (fun c95 => ?_) (fun d95 c95 => ?_)
                    · have _ : True := trivial
                      have c95q : stp wd hd (bw b) (bh b) qu dd = none := by rw [← iq]; exact c95
                      refine lv_iinc (v := nI (dd + 1)) (lv' := [(7, .int (nI (dd + 1))), (8, .int (gI (stp wd hd (bw b) (bh b) (Qq u) dd))), (5, .int (nI mm)), (6, .int (nI u)), (4, .int (nI (tk wl sh k (exb mgo (some b)) nb))), (0, .ref o), (1, .long (lN k)), (3, .int (nI b))]) hx hb dX8_floods_159 hl (k := 2) rfl (nI_1 _) (by decide) rfl (fun ls hl => ?_)
                      refine lv_goto (tgt := 71) hx hb dX8_floods_162 (by decide) ?_
                      exact ih71 (dd + 1) mm F Qq (by omega) iB iu iF (by omega) il iq (dn_a idn (mvt_none c95q)) (by omega) _ _ hP hD hS _ (lv_sub hl [2, 0, 3, 4, 5, 6, 7] rfl)
                    · have _ : True := trivial
                      have c95q : stp wd hd (bw b) (bh b) qu dd = some d95 := by rw [← iq]; exact c95
                      have hpq := stp_pl hw1 hsb.1 (iF _ _ il).1 c95
                      have hq24 := fr_lt hw1 h24 hsb.2.2.1 hpq
                      refine lv_aload_n hx hb dX8_floods_98 rfl (lv_at hl 5 rfl) ?_
                      refine gf_X8_32 hC hK hP 0 rfl rfl dX8_floods_99 ?_
                      refine lv_iload hx hb dX8_floods_102 (lv_at hl 0 rfl) ?_
                      refine topi (y := nI d95) (by rw [c95]; rfl) ?_
                      refine n_iald hx hb hK hP 7 0 rfl rfl hq24 (by decide) dX8_floods_104 ?_
                      refine o_if_ge (tgt := 159) hx hb dX8_floods_105 (by decide) (fun d h => by have := BI_bound iB (fun x d h => (iF x d h).2) h; omega) (fun d105 c105 => ?_) (fun c105 => ?_)
                      · have _ : True := trivial
                        refine lv_iinc (v := nI (dd + 1)) (lv' := [(7, .int (nI (dd + 1))), (8, .int (gI (stp wd hd (bw b) (bh b) (Qq u) dd))), (5, .int (nI mm)), (6, .int (nI u)), (4, .int (nI (tk wl sh k (exb mgo (some b)) nb))), (0, .ref o), (1, .long (lN k)), (3, .int (nI b))]) hx hb dX8_floods_159 hl (k := 2) rfl (nI_1 _) (by decide) rfl (fun ls hl => ?_)
                        refine lv_goto (tgt := 71) hx hb dX8_floods_162 (by decide) ?_
                        exact ih71 (dd + 1) mm F Qq (by omega) iB iu iF (by omega) il iq (dn_b idn (stp_is c95q) c105 (BI_old iB iu il c105)) (by omega) _ _ hP hD hS _ (lv_sub hl [2, 0, 3, 4, 5, 6, 7] rfl)
                      · have _ : True := trivial
                        have hroom := BI_room iB (fun x d h => (iF x d h).2) c105 hq24
                        refine lv_aload_n hx hb dX8_floods_108 rfl (lv_at hl 5 rfl) ?_
                        refine gf_X8_7 hC hK hP 0 rfl rfl dX8_floods_109 ?_
                        refine lv_bipush (v := nI 10) hx hb dX8_floods_112 (by decide) ?_
                        refine lv_iload_n hx hb dX8_floods_114 rfl (lv_at hl 7 rfl) ?_
                        refine n_iadd hx hb dX8_floods_115  ?_
                        refine n_iald hx hb hK hP 1 0 rfl rfl (by omega) (by decide) dX8_floods_116 ?_
                        refine topi (y := nI (sh b)) (vF_sh (by omega)) ?_
                        refine lv_iload hx hb dX8_floods_117 (lv_at hl 0 rfl) ?_
                        refine topi (y := nI d95) (by rw [c95]; rfl) ?_
                        refine n_ishl hx hb dX8_floods_119 (by omega) ?_
                        refine lv_iload hx hb dX8_floods_120 (lv_at hl 4 rfl) ?_
                        refine n_iand hx hb dX8_floods_122  ?_
                        refine n_if_ne (tgt := 159) hx hb dX8_floods_123 (by decide) (Nat.lt_of_le_of_lt Nat.and_le_right (by omega)) (fun c123 => ?_) (fun c123 => ?_)
                        · have _ : True := trivial
                          refine lv_iinc (v := nI (dd + 1)) (lv' := [(7, .int (nI (dd + 1))), (8, .int (gI (stp wd hd (bw b) (bh b) (Qq u) dd))), (5, .int (nI mm)), (6, .int (nI u)), (4, .int (nI (tk wl sh k (exb mgo (some b)) nb))), (0, .ref o), (1, .long (lN k)), (3, .int (nI b))]) hx hb dX8_floods_159 hl (k := 2) rfl (nI_1 _) (by decide) rfl (fun ls hl => ?_)
                          refine lv_goto (tgt := 71) hx hb dX8_floods_162 (by decide) ?_
                          exact ih71 (dd + 1) mm F Qq (by omega) iB iu iF (by omega) il iq (dn_a idn (mvt_stop c95q c123)) (by omega) _ _ hP hD hS _ (lv_sub hl [2, 0, 3, 4, 5, 6, 7] rfl)
                        · have _ : True := trivial
                          refine lv_aload_n hx hb dX8_floods_126 rfl (lv_at hl 5 rfl) ?_
                          refine gf_X8_32 hC hK hP 0 rfl rfl dX8_floods_127 ?_
                          refine lv_iload hx hb dX8_floods_130 (lv_at hl 0 rfl) ?_
                          refine topi (y := nI d95) (by rw [c95]; rfl) ?_
                          refine lv_aload_n hx hb dX8_floods_132 rfl (lv_at hl 5 rfl) ?_
                          refine gf_X8_32 hC hK hP 0 rfl rfl dX8_floods_133 ?_
                          refine lv_aload_n hx hb dX8_floods_136 rfl (lv_at hl 5 rfl) ?_
                          refine gf_X8_35 hC hK hP 0 rfl rfl dX8_floods_137 ?_
                          refine lv_iload hx hb dX8_floods_140 (lv_at hl 3 rfl) ?_
                          refine n_iald hx hb hK hP 8 0 rfl rfl (by omega) (by decide) dX8_floods_142 ?_
                          refine n_iald hx hb hK hP 7 0 rfl rfl (iF _ _ il).2 (by decide) dX8_floods_143 ?_
                          refine topi (y := nI lv) (by rw [il]; rfl) ?_
                          refine lv_iconst (v := nI 1) hx hb dX8_floods_144 (by decide) ?_
                          refine n_iadd hx hb dX8_floods_145  ?_
                          refine n_iast hx hb hK hP hD hS 7 0 rfl rfl hq24 (by decide) (up_oIs _ _ _) (ws1 := mW cI cJ cB o kv kp kx kl kh ki kf kq ka kt kd kn (nI mpm) (nI mty) (nI mwi) (nI mhi) (nI mwa) (nI mle) (gI mgo) (nI mam) (bI mtm) (nI mli) (vF wd hd nb wl st sl gl aq lb sh bw bh ps) mpa (fun zz => nI (mtx zz)) (fun zz => nI (mlt zz)) (fun zz => nI (mha zz)) (fun zz => nI (mfi zz)) (fun zz => oI ((va_up F d95 (some (lv + 1))) zz)) (fun zz => nI (Qq zz)) (fun zz => lN (mal zz)) (fun zz => nI (mta zz)) (fun zz => oI (mdi zz)) (fun zz => nI (mln zz))) rfl dX8_floods_146 (fun H locs hP hD hS => ?_)
                          refine lv_aload_n hx hb dX8_floods_147 rfl (lv_at hl 5 rfl) ?_
                          refine gf_X8_35 hC hK hP 0 rfl rfl dX8_floods_148 ?_
                          refine lv_iload hx hb dX8_floods_151 (lv_at hl 1 rfl) ?_
                          refine lv_iload hx hb dX8_floods_153 (lv_at hl 0 rfl) ?_
                          refine topi (y := nI d95) (by rw [c95]; rfl) ?_
                          refine n_iast hx hb hK hP hD hS 8 0 rfl rfl hroom (by decide) (up_nI _ _ _) (ws1 := mW cI cJ cB o kv kp kx kl kh ki kf kq ka kt kd kn (nI mpm) (nI mty) (nI mwi) (nI mhi) (nI mwa) (nI mle) (gI mgo) (nI mam) (bI mtm) (nI mli) (vF wd hd nb wl st sl gl aq lb sh bw bh ps) mpa (fun zz => nI (mtx zz)) (fun zz => nI (mlt zz)) (fun zz => nI (mha zz)) (fun zz => nI (mfi zz)) (fun zz => oI ((va_up F d95 (some (lv + 1))) zz)) (fun zz => nI ((va_up Qq mm d95) zz)) (fun zz => lN (mal zz)) (fun zz => nI (mta zz)) (fun zz => oI (mdi zz)) (fun zz => nI (mln zz))) rfl dX8_floods_155 (fun H locs hP hD hS => ?_)
                          refine lv_iinc (v := nI (mm + 1)) (lv' := [(5, .int (nI (mm + 1))), (8, .int (gI (stp wd hd (bw b) (bh b) (Qq u) dd))), (7, .int (nI dd)), (6, .int (nI u)), (4, .int (nI (tk wl sh k (exb mgo (some b)) nb))), (0, .ref o), (1, .long (lN k)), (3, .int (nI b))]) hx hb dX8_floods_156 hl (k := 1) rfl (nI_1 _) (by decide) rfl (fun ls hl => ?_)
                          refine lv_iinc (v := nI (dd + 1)) (lv' := [(7, .int (nI (dd + 1))), (5, .int (nI (mm + 1))), (8, .int (gI (stp wd hd (bw b) (bh b) (Qq u) dd))), (6, .int (nI u)), (4, .int (nI (tk wl sh k (exb mgo (some b)) nb))), (0, .ref o), (1, .long (lN k)), (3, .int (nI b))]) hx hb dX8_floods_159 hl (k := 2) rfl (nI_1 _) (by decide) rfl (fun ls hl => ?_)
                          refine lv_goto (tgt := 71) hx hb dX8_floods_162 (by decide) ?_
                          exact ih71 (dd + 1) (mm + 1) (va_up F d95 (some (lv + 1))) (va_up Qq mm d95) (by omega) (BI_push iB iu il ⟨dd, c74, mvt_go c95 c123⟩ c105) (by omega) (fun x d h => if e9 : x = d95 then (by subst e9; exact ⟨hpq, hq24⟩) else (by rw [up_ne F e9] at h; exact iF x d h)) (by omega) (by rw [up_ne Qq (by omega), up_ne F (fun e9 => by rw [e9, c105] at il; cases il)]; exact il) (by rw [up_ne Qq (by omega)]; exact iq) (dn_d idn (stp_is c95q) c105) (by omega) _ _ hP hD hS _ (lv_sub hl [1, 0, 3, 4, 5, 6, 7] rfl)
              exact L71 _ 0 mm F Qq (by omega) iB c65 iF (by omega) hlv hqu.symm (fun i h => absurd h (Nat.not_lt_zero i)) (Nat.lt_succ_self _) _ _ hP hD hS _ (lv_sub hl [1, 0, 2, 3, 4, 5, 6] rfl)
        exact L61 _ 0 1 (va_up noneF (plc k b) (some 0)) (va_up mqu 0 (plc k b)) (BI_one (fun x hx9 => up_ne noneF hx9) (up_eq noneF _ _) rfl) (fun x d h9 => if e9 : x = plc k b then (by subst e9; exact ⟨hkb, hp24⟩) else (by rw [up_ne noneF e9] at h9; cases h9)) (by omega) (Nat.lt_succ_self _) _ _ hP hD hS _ (lv_sub hl [1, 0, 2, 3, 4, 5] rfl)
      · have _ : True := trivial
        refine lv_aload_n hx hb dX8_floods_18 rfl (lv_at hl 2 rfl) ?_
        refine gf_X8_32 hC hK hP 0 rfl rfl dX8_floods_19 ?_
        refine lv_iload hx hb dX8_floods_22 (lv_at hl 0 rfl) ?_
        refine lv_iconst (v := (-1)) hx hb dX8_floods_24 (by decide) ?_
        refine n_iast hx hb hK hP hD hS 7 0 rfl rfl (by omega) (by decide) (up_oIn _ _) (ws1 := mW cI cJ cB o kv kp kx kl kh ki kf kq ka kt kd kn (nI mpm) (nI mty) (nI mwi) (nI mhi) (nI mwa) (nI mle) (gI mgo) (nI mam) (bI mtm) (nI mli) (vF wd hd nb wl st sl gl aq lb sh bw bh ps) mpa (fun zz => nI (mtx zz)) (fun zz => nI (mlt zz)) (fun zz => nI (mha zz)) (fun zz => nI (mfi zz)) (fun zz => oI ((va_up F j none) zz)) (fun zz => nI (mqu zz)) (fun zz => lN (mal zz)) (fun zz => nI (mta zz)) (fun zz => oI (mdi zz)) (fun zz => nI (mln zz))) rfl dX8_floods_25 (fun H locs hP hD hS => ?_)
        refine lv_iinc (v := nI (j + 1)) (lv' := [(5, .int (nI (j + 1))), (4, .int (nI (tk wl sh k (exb mgo (some b)) nb))), (0, .ref o), (1, .long (lN k)), (3, .int (nI b))]) hx hb dX8_floods_26 hl (k := 0) rfl (nI_1 _) (by decide) rfl (fun ls hl => ?_)
        refine lv_goto (tgt := 11) hx hb dX8_floods_29 (by decide) ?_
        exact ih11 (j + 1) (va_up F j none) (by omega) (up_none iz) (by omega) _ _ hP hD hS _ (lv_sub hl [0, 1, 2, 3, 4] rfl)
  exact L11 _ 0 mfa (by omega) (fun i h => absurd h (Nat.not_lt_zero i)) (Nat.lt_succ_self _) _ _ hP hD hS _ (lv_sub hl [0, 1, 2, 3, 4] rfl)
