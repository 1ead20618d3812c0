set_option maxHeartbeats 400000 in
set_option maxRecDepth 100000 in
theorem c_X8_spreads (l : Launch) (D : va_G) (cI cJ cB : ClassId) (g wd hd : Nat) (hgs : g < 2 ^ 31) (h1 : 1 ≤ wd) (h6 : wd ≤ 6) (h24 : wd * hd ≤ 24) (h7 : hd ≤ 6) : Met l yX8_spreads (Cond.code yX8_spreads cX8_spreads 5 (some .int) :: lw_all) (rmN 0) (va_Pc [.int (nI g), .int (nI wd), .int (nI hd)] (pB D (tyz cI cJ cB) ([] : va_W))) (va_Qi (fun (r : Int32) (w : va_W) => r = nI (spr wd hd g (wd * hd)) ∧ w = []) (gB D ([] : va_W)) (aW ([] : va_W))) 0 0 (aW ([] : va_W)) := by
  refine Met.ofW (cc := cX8_spreads) (maxL := 5) (ret := (some .int)) (by decide) rfl ?_
  intro p e s m args below meth c s₁ B hml hv
  obtain ⟨rfl, hK, hN, hP, hD0⟩ := hv
  have hx := B.exec; have hb := B.bytes; have hr := B.returns; have hlocks := B.notSynchronized
  have hts0 := atoms_spec (ws := Cond.code yX8_spreads cX8_spreads 5 (some .int) :: lw_all) B.pre
  have hC : CallFix p m c cX8_spreads 5 s _ lw_all RX8 := ⟨hx, hb, hml, findClass_of_methodNamed B.named, fun w h => hts0 w (List.mem_cons_of_mem _ h)⟩
  have hD : va_D (aW ([] : va_W)) ([] : va_W) := ⟨hD0.1, fun k q h => ⟨k, q.2, h⟩⟩
  generalize hAe : aW ([] : va_W) = A at hD ⊢
  have hS : va_S A s.heap s.heap [] := va_S.rf
  have hl := lv_entry ([.int (nI g), .int (nI wd), .int (nI hd)]) (n := 5) (Nat.le_of_ble_eq_true rfl)
  rw [lg_entry_eq]
  generalize (lg_sl ([.int (nI g), .int (nI wd), .int (nI hd)]) ++ List.replicate (5 - (lg_sl ([.int (nI g), .int (nI wd), .int (nI hd)])).length) Slot.unset).toArray = ls at hl ⊢
  have hl : lv_has ls 5 [(0, .int (nI g)), (1, .int (nI wd)), (2, .int (nI hd))] := hl
  generalize hav : ([.int (nI g), .int (nI wd), .int (nI hd)] : List Value).toArray = args at hC ⊢
  refine W_gen (fun QQ hQ => ?_)
  show W p l e (rmN 0) s m args below meth c s.heap [] 0 0 QQ (F0 m 0 ls [])
  refine lv_iload_n hx hb dX8_spreads_0 rfl (lv_at hl 0 rfl) ?_
  refine lv_istore_n (lv' := [(3, .int (nI g)), (0, .int (nI g)), (1, .int (nI wd)), (2, .int (nI hd))]) hx hb dX8_spreads_1 rfl hl (by decide) rfl (fun ls hl => ?_)
  refine lv_iconst (v := nI 0) hx hb dX8_spreads_2 (by decide) ?_
  refine lv_istore (lv' := [(4, .int (nI 0)), (3, .int (nI g)), (0, .int (nI g)), (1, .int (nI wd)), (2, .int (nI hd))]) hx hb dX8_spreads_3 hl (by decide) rfl (fun ls hl => ?_)
  have L5 : ∀ (n : Nat) (i : Nat), (i ≤ wd * hd) → (wd * hd - i) < n → ∀ (H : Heap) (locs : List Loc), va_P D vwCl ([] : va_W) H → va_D A ([] : va_W) → va_S A s.heap H locs → ∀ ls : Array Slot, lv_has ls 5 [(3, .int (nI (spr wd hd g i))), (4, .int (nI i)), (0, .int (nI g)), (1, .int (nI wd)), (2, .int (nI hd))] → W p l e (rmN 0) s m args below meth c H locs 0 0 QQ (F0 m 5 ls []) := by
    intro n; induction n with
    | zero => intro i ii hm; exact absurd hm (Nat.not_lt_zero _)
    | succ n ih5 =>
      intro i ii hm5 H locs hP hD hS ls hl
      refine lv_iload hx hb dX8_spreads_5 (lv_at hl 1 rfl) ?_
      refine lv_iload_n hx hb dX8_spreads_7 rfl (lv_at hl 3 rfl) ?_
      refine lv_iload_n hx hb dX8_spreads_8 rfl (lv_at hl 4 rfl) ?_
      refine n_imul hx hb dX8_spreads_9  ?_
      refine n_icmp_ge (a := i) (b := wd * hd) (tgt := 114) hx hb dX8_spreads_10 (by decide) (by omega) (by omega) (fun c10 => ?_) (fun c10 => ?_)
      · have _ : True := trivial
        have e10 : i = wd * hd := by omega
        refine lv_iload_n hx hb dX8_spreads_114 rfl (lv_at hl 0 rfl) ?_
        rw [hQ]
        exact W.iret (v := nI (spr wd hd g i)) hx hb hr (fun t9 ht hW => ⟨⟨_, _, rfl, ⟨(by rw [e10]), rfl⟩, by rw [ht]; exact hP, rfl⟩, hS.F ht⟩) hS.2.2 dX8_spreads_115
      · have _ : True := trivial
        refine lv_iload_n hx hb dX8_spreads_13 rfl (lv_at hl 2 rfl) ?_
        refine lv_iload hx hb dX8_spreads_14 (lv_at hl 1 rfl) ?_
        refine n_ishr hx hb dX8_spreads_16 (by omega) (by omega) ?_
        refine lv_iconst (v := nI 1) hx hb dX8_spreads_17 (by decide) ?_
        refine n_iand hx hb dX8_spreads_18  ?_
        refine lv_iconst (v := nI 1) hx hb dX8_spreads_19 (by decide) ?_
        refine n_icmp_ne (a := (g >>> i) &&& 1) (b := 1) (tgt := 108) hx hb dX8_spreads_20 (by decide) (by have := Nat.and_le_right (n := g >>> i) (m := 1); omega) (by omega) (fun c20 => ?_) (fun c20 => ?_)
        · have _ : True := trivial
          rw [spr_f c20] at hl
          refine lv_iinc (v := nI (i + 1)) (lv' := [(4, .int (nI (i + 1))), (3, .int (nI (spr wd hd g (i + 1)))), (0, .int (nI g)), (1, .int (nI wd)), (2, .int (nI hd))]) hx hb dX8_spreads_108 hl (k := 1) rfl (nI_1 _) (by decide) rfl (fun ls hl => ?_)
          refine lv_goto (tgt := 5) hx hb dX8_spreads_111 (by decide) ?_
          exact ih5 (i + 1) (by omega) (by omega) _ _ hP hD hS _ (lv_sub hl [1, 0, 2, 3, 4] rfl)
        · have _ : True := trivial
          have L41 : ∀ (_ : True) , ∀ (H : Heap) (locs : List Loc), va_P D vwCl ([] : va_W) H → va_D A ([] : va_W) → va_S A s.heap H locs → ∀ ls : Array Slot, lv_has ls 5 [(3, .int (nI (spr wd hd g i))), (4, .int (nI i)), (0, .int (nI g)), (1, .int (nI wd)), (2, .int (nI hd))] → W p l e (rmN 0) s m args below meth c H locs 0 0 QQ (F0 m 41 ls [.int (nI (spr1 wd i)), .int (nI (spr wd hd g i))]) := by
            intro _  H locs hP hD hS ls hl
            refine n_ior hx hb dX8_spreads_41  ?_
            refine lv_istore_n (lv' := [(3, .int (nI ((spr wd hd g i) ||| (spr1 wd i)))), (4, .int (nI i)), (0, .int (nI g)), (1, .int (nI wd)), (2, .int (nI hd))]) hx hb dX8_spreads_42 rfl hl (by decide) rfl (fun ls hl => ?_)
            have L64 : ∀ (_ : True) , ∀ (H : Heap) (locs : List Loc), va_P D vwCl ([] : va_W) H → va_D A ([] : va_W) → va_S A s.heap H locs → ∀ ls : Array Slot, lv_has ls 5 [(3, .int (nI ((spr wd hd g i) ||| (spr1 wd i)))), (4, .int (nI i)), (0, .int (nI g)), (1, .int (nI wd)), (2, .int (nI hd))] → W p l e (rmN 0) s m args below meth c H locs 0 0 QQ (F0 m 64 ls [.int (nI (spr2 wd i)), .int (nI (spr wd hd g i ||| spr1 wd i))]) := by
              intro _  H locs hP hD hS ls hl
              refine n_ior hx hb dX8_spreads_64  ?_
              refine lv_istore_n (lv' := [(3, .int (nI ((spr wd hd g i ||| spr1 wd i) ||| (spr2 wd i)))), (4, .int (nI i)), (0, .int (nI g)), (1, .int (nI wd)), (2, .int (nI hd))]) hx hb dX8_spreads_65 rfl hl (by decide) rfl (fun ls hl => ?_)
              have L83 : ∀ (_ : True) , ∀ (H : Heap) (locs : List Loc), va_P D vwCl ([] : va_W) H → va_D A ([] : va_W) → va_S A s.heap H locs → ∀ ls : Array Slot, lv_has ls 5 [(3, .int (nI ((spr wd hd g i ||| spr1 wd i) ||| (spr2 wd i)))), (4, .int (nI i)), (0, .int (nI g)), (1, .int (nI wd)), (2, .int (nI hd))] → W p l e (rmN 0) s m args below meth c H locs 0 0 QQ (F0 m 83 ls [.int (nI (spr3 wd i)), .int (nI ((spr wd hd g i ||| spr1 wd i) ||| spr2 wd i))]) := by
                intro _  H locs hP hD hS ls hl
                refine n_ior hx hb dX8_spreads_83  ?_
                refine lv_istore_n (lv' := [(3, .int (nI (((spr wd hd g i ||| spr1 wd i) ||| spr2 wd i) ||| (spr3 wd i)))), (4, .int (nI i)), (0, .int (nI g)), (1, .int (nI wd)), (2, .int (nI hd))]) hx hb dX8_spreads_84 rfl hl (by decide) rfl (fun ls hl => ?_)
                have L106 : ∀ (_ : True) , ∀ (H : Heap) (locs : List Loc), va_P D vwCl ([] : va_W) H → va_D A ([] : va_W) → va_S A s.heap H locs → ∀ ls : Array Slot, lv_has ls 5 [(3, .int (nI (((spr wd hd g i ||| spr1 wd i) ||| spr2 wd i) ||| (spr3 wd i)))), (4, .int (nI i)), (0, .int (nI g)), (1, .int (nI wd)), (2, .int (nI hd))] → W p l e (rmN 0) s m args below meth c H locs 0 0 QQ (F0 m 106 ls [.int (nI (spr4 wd hd i)), .int (nI (((spr wd hd g i ||| spr1 wd i) ||| spr2 wd i) ||| spr3 wd i))]) := by
                  intro _  H locs hP hD hS ls hl
                  refine n_ior hx hb dX8_spreads_106  ?_
                  refine topi (y := nI (spr wd hd g (i + 1))) (by rw [spr_t c20]) ?_
                  refine lv_istore_n (lv' := [(3, .int (nI (spr wd hd g (i + 1)))), (4, .int (nI i)), (0, .int (nI g)), (1, .int (nI wd)), (2, .int (nI hd))]) hx hb dX8_spreads_107 rfl hl (by decide) rfl (fun ls hl => ?_)
                  refine lv_iinc (v := nI (i + 1)) (lv' := [(4, .int (nI (i + 1))), (3, .int (nI (spr wd hd g (i + 1)))), (0, .int (nI g)), (1, .int (nI wd)), (2, .int (nI hd))]) hx hb dX8_spreads_108 hl (k := 1) rfl (nI_1 _) (by decide) rfl (fun ls hl => ?_)
                  refine lv_goto (tgt := 5) hx hb dX8_spreads_111 (by decide) ?_
                  exact ih5 (i + 1) (by omega) (by omega) _ _ hP hD hS _ (lv_sub hl [1, 0, 2, 3, 4] rfl)
                refine lv_iload_n hx hb dX8_spreads_85 rfl (lv_at hl 0 rfl) ?_
                refine lv_iload hx hb dX8_spreads_86 (lv_at hl 1 rfl) ?_
                refine lv_iload_n hx hb dX8_spreads_88 rfl (lv_at hl 3 rfl) ?_
                refine n_iadd hx hb dX8_spreads_89  ?_
                refine lv_iload_n hx hb dX8_spreads_90 rfl (lv_at hl 3 rfl) ?_
                refine lv_iload_n hx hb dX8_spreads_91 rfl (lv_at hl 4 rfl) ?_
                refine n_imul hx hb dX8_spreads_92  ?_
                refine n_icmp_ge (a := i + wd) (b := wd * hd) (tgt := 105) hx hb dX8_spreads_93 (by decide) (by omega) (by omega) (fun c93 => ?_) (fun c93 => ?_)
                · have _ : True := trivial
                  refine lv_iconst (v := nI 0) hx hb dX8_spreads_105 (by decide) ?_
                  refine topi (y := nI (spr4 wd hd i)) (by unfold spr4; rw [if_neg (by omega)]) ?_
                  exact L106 trivial   _ _ hP hD hS _ (lv_sub hl [0, 1, 2, 3, 4] rfl)
                · have _ : True := trivial
                  refine lv_iconst (v := nI 1) hx hb dX8_spreads_96 (by decide) ?_
                  refine lv_iload hx hb dX8_spreads_97 (lv_at hl 1 rfl) ?_
                  refine lv_iload_n hx hb dX8_spreads_99 rfl (lv_at hl 3 rfl) ?_
                  refine n_iadd hx hb dX8_spreads_100  ?_
                  refine n_ishl hx hb dX8_spreads_101 (by omega) ?_
                  refine topi (y := nI (spr4 wd hd i)) (by unfold spr4; rw [if_pos (by omega)]) ?_
                  refine lv_goto (tgt := 106) hx hb dX8_spreads_102 (by decide) ?_
                  exact L106 trivial   _ _ hP hD hS _ (lv_sub hl [0, 1, 2, 3, 4] rfl)
              refine lv_iload_n hx hb dX8_spreads_66 rfl (lv_at hl 0 rfl) ?_
              refine lv_iload hx hb dX8_spreads_67 (lv_at hl 1 rfl) ?_
              refine lv_iload_n hx hb dX8_spreads_69 rfl (lv_at hl 3 rfl) ?_
              refine n_icmp_lt (a := i) (b := wd) (tgt := 82) hx hb dX8_spreads_70 (by decide) (by omega) (by omega) (fun c70 => ?_) (fun c70 => ?_)
              · have _ : True := trivial
                refine lv_iconst (v := nI 0) hx hb dX8_spreads_82 (by decide) ?_
                refine topi (y := nI (spr3 wd i)) (by unfold spr3; rw [if_neg (by omega)]) ?_
                exact L83 trivial   _ _ hP hD hS _ (lv_sub hl [0, 1, 2, 3, 4] rfl)
              · have _ : True := trivial
                refine lv_iconst (v := nI 1) hx hb dX8_spreads_73 (by decide) ?_
                refine lv_iload hx hb dX8_spreads_74 (lv_at hl 1 rfl) ?_
                refine lv_iload_n hx hb dX8_spreads_76 rfl (lv_at hl 3 rfl) ?_
                refine n_isub hx hb dX8_spreads_77 (by omega) ?_
                refine n_ishl hx hb dX8_spreads_78 (by omega) ?_
                refine topi (y := nI (spr3 wd i)) (by unfold spr3; rw [if_pos (by omega)]) ?_
                refine lv_goto (tgt := 83) hx hb dX8_spreads_79 (by decide) ?_
                exact L83 trivial   _ _ hP hD hS _ (lv_sub hl [0, 1, 2, 3, 4] rfl)
            refine lv_iload_n hx hb dX8_spreads_43 rfl (lv_at hl 0 rfl) ?_
            refine lv_iload hx hb dX8_spreads_44 (lv_at hl 1 rfl) ?_
            refine lv_iload_n hx hb dX8_spreads_46 rfl (lv_at hl 3 rfl) ?_
            refine n_irem hx hb dX8_spreads_47 (by omega) (by omega) (by omega) ?_
            refine lv_iload_n hx hb dX8_spreads_48 rfl (lv_at hl 3 rfl) ?_
            refine lv_iconst (v := nI 1) hx hb dX8_spreads_49 (by decide) ?_
            refine n_isub hx hb dX8_spreads_50 (by omega) ?_
            refine n_icmp_ge (a := i % wd) (b := wd - 1) (tgt := 63) hx hb dX8_spreads_51 (by decide) (by have := Nat.mod_lt i (show wd > 0 by omega); omega) (by omega) (fun c51 => ?_) (fun c51 => ?_)
            · have _ : True := trivial
              refine lv_iconst (v := nI 0) hx hb dX8_spreads_63 (by decide) ?_
              refine topi (y := nI (spr2 wd i)) (by unfold spr2; rw [if_neg (by omega)]) ?_
              exact L64 trivial   _ _ hP hD hS _ (lv_sub hl [0, 1, 2, 3, 4] rfl)
            · have _ : True := trivial
              refine lv_iconst (v := nI 1) hx hb dX8_spreads_54 (by decide) ?_
              refine lv_iload hx hb dX8_spreads_55 (lv_at hl 1 rfl) ?_
              refine lv_iconst (v := nI 1) hx hb dX8_spreads_57 (by decide) ?_
              refine n_iadd hx hb dX8_spreads_58  ?_
              refine n_ishl hx hb dX8_spreads_59 (by omega) ?_
              refine topi (y := nI (spr2 wd i)) (by unfold spr2; rw [if_pos (by omega)]) ?_
              refine lv_goto (tgt := 64) hx hb dX8_spreads_60 (by decide) ?_
              exact L64 trivial   _ _ hP hD hS _ (lv_sub hl [0, 1, 2, 3, 4] rfl)
          refine lv_iload_n hx hb dX8_spreads_23 rfl (lv_at hl 0 rfl) ?_
          refine lv_iload hx hb dX8_spreads_24 (lv_at hl 1 rfl) ?_
          refine lv_iload_n hx hb dX8_spreads_26 rfl (lv_at hl 3 rfl) ?_
          refine n_irem hx hb dX8_spreads_27 (by omega) (by omega) (by omega) ?_
          refine n_if_le (tgt := 40) hx hb dX8_spreads_28 (by decide) (by have := Nat.mod_lt i (show wd > 0 by omega); omega) (fun c28 => ?_) (fun c28 => ?_)
          · have _ : True := trivial
            refine lv_iconst (v := nI 0) hx hb dX8_spreads_40 (by decide) ?_
            refine topi (y := nI (spr1 wd i)) (by unfold spr1; rw [if_neg (by omega)]) ?_
            exact L41 trivial   _ _ hP hD hS _ (lv_sub hl [0, 1, 2, 3, 4] rfl)
          · have _ : True := trivial
            have hi0 := mod_pos (Nat.ne_of_gt c28)
            refine lv_iconst (v := nI 1) hx hb dX8_spreads_31 (by decide) ?_
            refine lv_iload hx hb dX8_spreads_32 (lv_at hl 1 rfl) ?_
            refine lv_iconst (v := nI 1) hx hb dX8_spreads_34 (by decide) ?_
            refine n_isub hx hb dX8_spreads_35 (by omega) ?_
            refine n_ishl hx hb dX8_spreads_36 (by omega) ?_
            refine topi (y := nI (spr1 wd i)) (by unfold spr1; rw [if_pos (by omega)]) ?_
            refine lv_goto (tgt := 41) hx hb dX8_spreads_37 (by decide) ?_
            exact L41 trivial   _ _ hP hD hS _ (lv_sub hl [0, 1, 2, 3, 4] rfl)
  exact L5 _ 0 (by omega) (Nat.lt_succ_self _) _ _ hP hD hS _ (lv_sub hl [1, 0, 2, 3, 4] rfl)

set_option maxHeartbeats 400000 in
set_option maxRecDepth 100000 in
theorem c_X8_isOne (l : Launch) (D : va_G) (cI cJ cB : ClassId) (o kv kp kx kl kh ki kf kq ka kt kd kn mpm mty mwi mhi mwa mle mam mli : Nat) (mgo : Option Nat) (mtm : Bool) (mpa : Nat → Int32) (mtx mlt mha mfi mqu mta mln mal : Nat → Nat) (mfa mdi : Nat → Option Nat) (wd hd nb wl : Nat) (st sl : Int32) (gl aq lb : Option Nat) (sh bw bh ps : Nat → Nat) (g : Nat) (hgs : g < 2 ^ 24) (h1 : 1 ≤ mwi) (h6 : mwi ≤ 6) (h24 : mwi * mhi ≤ 24) (h7 : mhi ≤ 6) : Met l yX8_isOne (Cond.code yX8_isOne cX8_isOne 4 (some .boolean) :: lw_all) (rmN 1) (va_Pc [.ref o, .int (nI g)] (pB D (tyz cI cJ cB) (mW cI cJ cB o kv kp kx kl kh ki kf kq ka kt kd kn (nI mpm) (nI mty) (nI mwi) (nI mhi) (nI mwa) (nI mle) (gI mgo) (nI mam) (bI mtm) (nI mli) (vF wd hd nb wl st sl gl aq lb sh bw bh ps) mpa (fun zz => nI (mtx zz)) (fun zz => nI (mlt zz)) (fun zz => nI (mha zz)) (fun zz => nI (mfi zz)) (fun zz => oI (mfa zz)) (fun zz => nI (mqu zz)) (fun zz => lN (mal zz)) (fun zz => nI (mta zz)) (fun zz => oI (mdi zz)) (fun zz => nI (mln zz))))) (va_Qi (fun (r : Int32) (w : va_W) => r = bI (isone mwi mhi g) ∧ w = mW cI cJ cB o kv kp kx kl kh ki kf kq ka kt kd kn (nI mpm) (nI mty) (nI mwi) (nI mhi) (nI mwa) (nI mle) (gI mgo) (nI mam) (bI mtm) (nI mli) (vF wd hd nb wl st sl gl aq lb sh bw bh ps) mpa (fun zz => nI (mtx zz)) (fun zz => nI (mlt zz)) (fun zz => nI (mha zz)) (fun zz => nI (mfi zz)) (fun zz => oI (mfa zz)) (fun zz => nI (mqu zz)) (fun zz => lN (mal zz)) (fun zz => nI (mta zz)) (fun zz => oI (mdi zz)) (fun zz => nI (mln zz))) (gB D (mW cI cJ cB o kv kp kx kl kh ki kf kq ka kt kd kn (nI mpm) (nI mty) (nI mwi) (nI mhi) (nI mwa) (nI mle) (gI mgo) (nI mam) (bI mtm) (nI mli) (vF wd hd nb wl st sl gl aq lb sh bw bh ps) mpa (fun zz => nI (mtx zz)) (fun zz => nI (mlt zz)) (fun zz => nI (mha zz)) (fun zz => nI (mfi zz)) (fun zz => oI (mfa zz)) (fun zz => nI (mqu zz)) (fun zz => lN (mal zz)) (fun zz => nI (mta zz)) (fun zz => oI (mdi zz)) (fun zz => nI (mln zz)))) (aW (mW cI cJ cB o kv kp kx kl kh ki kf kq ka kt kd kn (nI mpm) (nI mty) (nI mwi) (nI mhi) (nI mwa) (nI mle) (gI mgo) (nI mam) (bI mtm) (nI mli) (vF wd hd nb wl st sl gl aq lb sh bw bh ps) mpa (fun zz => nI (mtx zz)) (fun zz => nI (mlt zz)) (fun zz => nI (mha zz)) (fun zz => nI (mfi zz)) (fun zz => oI (mfa zz)) (fun zz => nI (mqu zz)) (fun zz => lN (mal zz)) (fun zz => nI (mta zz)) (fun zz => oI (mdi zz)) (fun zz => nI (mln zz))))) 0 0 (aW (mW cI cJ cB o kv kp kx kl kh ki kf kq ka kt kd kn (nI mpm) (nI mty) (nI mwi) (nI mhi) (nI mwa) (nI mle) (gI mgo) (nI mam) (bI mtm) (nI mli) (vF wd hd nb wl st sl gl aq lb sh bw bh ps) mpa (fun zz => nI (mtx zz)) (fun zz => nI (mlt zz)) (fun zz => nI (mha zz)) (fun zz => nI (mfi zz)) (fun zz => oI (mfa zz)) (fun zz => nI (mqu zz)) (fun zz => lN (mal zz)) (fun zz => nI (mta zz)) (fun zz => oI (mdi zz)) (fun zz => nI (mln zz)))) := by
  refine Met.ofW (cc := cX8_isOne) (maxL := 4) (ret := (some .boolean)) (by decide) rfl ?_
  intro p e s m args below meth c s₁ B hml hv
  obtain ⟨rfl, hK, hN, hP, hD0⟩ := hv
  have hx := B.exec; have hb := B.bytes; have hr := B.returns; have hlocks := B.notSynchronized
  have hts0 := atoms_spec (ws := Cond.code yX8_isOne cX8_isOne 4 (some .boolean) :: lw_all) B.pre
  have hC : CallFix p m c cX8_isOne 4 s _ lw_all RX8 := ⟨hx, hb, hml, findClass_of_methodNamed B.named, fun w h => hts0 w (List.mem_cons_of_mem _ h)⟩
  have hD : va_D (aW (mW cI cJ cB o kv kp kx kl kh ki kf kq ka kt kd kn (nI mpm) (nI mty) (nI mwi) (nI mhi) (nI mwa) (nI mle) (gI mgo) (nI mam) (bI mtm) (nI mli) (vF wd hd nb wl st sl gl aq lb sh bw bh ps) mpa (fun zz => nI (mtx zz)) (fun zz => nI (mlt zz)) (fun zz => nI (mha zz)) (fun zz => nI (mfi zz)) (fun zz => oI (mfa zz)) (fun zz => nI (mqu zz)) (fun zz => lN (mal zz)) (fun zz => nI (mta zz)) (fun zz => oI (mdi zz)) (fun zz => nI (mln zz)))) (mW cI cJ cB o kv kp kx kl kh ki kf kq ka kt kd kn (nI mpm) (nI mty) (nI mwi) (nI mhi) (nI mwa) (nI mle) (gI mgo) (nI mam) (bI mtm) (nI mli) (vF wd hd nb wl st sl gl aq lb sh bw bh ps) mpa (fun zz => nI (mtx zz)) (fun zz => nI (mlt zz)) (fun zz => nI (mha zz)) (fun zz => nI (mfi zz)) (fun zz => oI (mfa zz)) (fun zz => nI (mqu zz)) (fun zz => lN (mal zz)) (fun zz => nI (mta zz)) (fun zz => oI (mdi zz)) (fun zz => nI (mln zz))) := ⟨hD0.1, fun k q h => ⟨k, q.2, h⟩⟩
  generalize hAe : aW (mW cI cJ cB o kv kp kx kl kh ki kf kq ka kt kd kn (nI mpm) (nI mty) (nI mwi) (nI mhi) (nI mwa) (nI mle) (gI mgo) (nI mam) (bI mtm) (nI mli) (vF wd hd nb wl st sl gl aq lb sh bw bh ps) mpa (fun zz => nI (mtx zz)) (fun zz => nI (mlt zz)) (fun zz => nI (mha zz)) (fun zz => nI (mfi zz)) (fun zz => oI (mfa zz)) (fun zz => nI (mqu zz)) (fun zz => lN (mal zz)) (fun zz => nI (mta zz)) (fun zz => oI (mdi zz)) (fun zz => nI (mln zz))) = A at hD ⊢
  have hS : va_S A s.heap s.heap [] := va_S.rf
  have hl := lv_entry ([.ref o, .int (nI g)]) (n := 4) (Nat.le_of_ble_eq_true rfl)
  rw [lg_entry_eq]
  generalize (lg_sl ([.ref o, .int (nI g)]) ++ List.replicate (4 - (lg_sl ([.ref o, .int (nI g)])).length) Slot.unset).toArray = ls at hl ⊢
  have hl : lv_has ls 4 [(0, .ref o), (1, .int (nI g))] := hl
  generalize hav : ([.ref o, .int (nI g)] : List Value).toArray = args at hC ⊢
  refine W_gen (fun QQ hQ => ?_)
  show W p l e (rmN 1) s m args below meth c s.heap [] 0 0 QQ (F0 m 0 ls [])
  refine lv_iload_n hx hb dX8_isOne_0 rfl (lv_at hl 1 rfl) ?_
  refine lv_iload_n hx hb dX8_isOne_1 rfl (lv_at hl 1 rfl) ?_
  refine lv_ineg hx hb dX8_isOne_2 ?_
  refine lv_iand hx hb dX8_isOne_3 ?_
  refine topi (y := nI (grow mwi mhi g 0)) (lob_eq g).symm ?_
  refine lv_istore_n (lv' := [(2, .int (nI (grow mwi mhi g 0))), (0, .ref o), (1, .int (nI g))]) hx hb dX8_isOne_4 rfl hl (by decide) rfl (fun ls hl => ?_)
  refine lv_iconst (v := nI 0) hx hb dX8_isOne_5 (by decide) ?_
  refine lv_istore_n (lv' := [(3, .int (nI 0)), (2, .int (nI (grow mwi mhi g 0))), (0, .ref o), (1, .int (nI g))]) hx hb dX8_isOne_6 rfl hl (by decide) rfl (fun ls hl => ?_)
  have L7 : ∀ (n : Nat) (i : Nat), (i ≤ 24) → (24 - i) < n → ∀ (H : Heap) (locs : List Loc), va_P D vwCl (mW cI cJ cB o kv kp kx kl kh ki kf kq ka kt kd kn (nI mpm) (nI mty) (nI mwi) (nI mhi) (nI mwa) (nI mle) (gI mgo) (nI mam) (bI mtm) (nI mli) (vF wd hd nb wl st sl gl aq lb sh bw bh ps) mpa (fun zz => nI (mtx zz)) (fun zz => nI (mlt zz)) (fun zz => nI (mha zz)) (fun zz => nI (mfi zz)) (fun zz => oI (mfa zz)) (fun zz => nI (mqu zz)) (fun zz => lN (mal zz)) (fun zz => nI (mta zz)) (fun zz => oI (mdi zz)) (fun zz => nI (mln zz))) H → va_D A (mW cI cJ cB o kv kp kx kl kh ki kf kq ka kt kd kn (nI mpm) (nI mty) (nI mwi) (nI mhi) (nI mwa) (nI mle) (gI mgo) (nI mam) (bI mtm) (nI mli) (vF wd hd nb wl st sl gl aq lb sh bw bh ps) mpa (fun zz => nI (mtx zz)) (fun zz => nI (mlt zz)) (fun zz => nI (mha zz)) (fun zz => nI (mfi zz)) (fun zz => oI (mfa zz)) (fun zz => nI (mqu zz)) (fun zz => lN (mal zz)) (fun zz => nI (mta zz)) (fun zz => oI (mdi zz)) (fun zz => nI (mln zz))) → va_S A s.heap H locs → ∀ ls : Array Slot, lv_has ls 4 [(2, .int (nI (grow mwi mhi g i))), (3, .int (nI i)), (0, .ref o), (1, .int (nI g))] → W p l e (rmN 1) s m args below meth c H locs 0 0 QQ (F0 m 7 ls []) := by
    intro n; induction n with
    | zero => intro i ii hm; exact absurd hm (Nat.not_lt_zero _)
    | succ n ih7 =>
      intro i ii hm7 H locs hP hD hS ls hl
      refine lv_iload_n hx hb dX8_isOne_7 rfl (lv_at hl 1 rfl) ?_
      refine lv_bipush (v := nI 24) hx hb dX8_isOne_8 (by decide) ?_
      refine n_icmp_ge (a := i) (b := 24) (tgt := 34) hx hb dX8_isOne_10 (by decide) (by omega) (by omega) (fun c10 => ?_) (fun c10 => ?_)
      · have _ : True := trivial
        have e10 : i = 24 := by omega
        refine lv_iload_n hx hb dX8_isOne_34 rfl (lv_at hl 0 rfl) ?_
        refine lv_iload_n hx hb dX8_isOne_35 rfl (lv_at hl 3 rfl) ?_
        refine n_icmp_ne (a := grow mwi mhi g i) (b := g) (tgt := 43) hx hb dX8_isOne_36 (by decide) (by have := grow_le (wd := mwi) (hd := mhi) (show g < 2 ^ 31 by omega) i; omega) (by omega) (fun c36 => ?_) (fun c36 => ?_)
        · have _ : True := trivial
          refine lv_iconst (v := nI 0) hx hb dX8_isOne_43 (by decide) ?_
          rw [hQ]
          exact W.zret (v := nI 0) hx hb hr rfl (fun t9 ht hW => ⟨⟨_, _, rfl, ⟨(by unfold isone; rw [e10] at c36; simp [c36] <;> rfl), rfl⟩, by rw [ht]; exact hP, rfl⟩, hS.F ht⟩) hS.2.2 dX8_isOne_44
        · have _ : True := trivial
          refine lv_iconst (v := nI 1) hx hb dX8_isOne_39 (by decide) ?_
          refine lv_goto (tgt := 44) hx hb dX8_isOne_40 (by decide) ?_
          rw [hQ]
          exact W.zret (v := nI 1) hx hb hr rfl (fun t9 ht hW => ⟨⟨_, _, rfl, ⟨(by unfold isone; rw [e10] at c36; simp [c36] <;> rfl), rfl⟩, by rw [ht]; exact hP, rfl⟩, hS.F ht⟩) hS.2.2 dX8_isOne_44
      · have _ : True := trivial
        refine lv_iload_n hx hb dX8_isOne_13 rfl (lv_at hl 0 rfl) ?_
        refine lv_aload_n hx hb dX8_isOne_14 rfl (lv_at hl 2 rfl) ?_
        refine gf_X8_61 hC hK hP 0 rfl rfl dX8_isOne_15 ?_
        refine lv_aload_n hx hb dX8_isOne_18 rfl (lv_at hl 2 rfl) ?_
        refine gf_X8_64 hC hK hP 0 rfl rfl dX8_isOne_19 ?_
        have hgl := grow_le (wd := mwi) (hd := mhi) (show g < 2 ^ 31 by omega) i
        refine callS_i (As := [.int (nI (grow mwi mhi g i)), .int (nI mwi), .int (nI mhi)]) (rest := []) [] hC hK hN hP hD rfl (by decide) hS (c_X8_spreads l D cI cJ cB (grow mwi mhi g i) mwi mhi (by omega) (by omega) (by omega) (by omega) (by omega)) q777 md_X8_spreads rfl hl.1 rfl (Nat.le_of_ble_eq_true rfl) dX8_isOne_22 ⟨Nat.le_of_ble_eq_true rfl, Nat.le_of_ble_eq_true rfl⟩ ⟨Nat.le_of_ble_eq_true rfl, Nat.le_of_ble_eq_true rfl⟩ (fun r_22 w H locs hpost hP hD hS => ?_)
        obtain ⟨rfl, rfl⟩ := hpost
        have hP : va_P D vwCl (mW cI cJ cB o kv kp kx kl kh ki kf kq ka kt kd kn (nI mpm) (nI mty) (nI mwi) (nI mhi) (nI mwa) (nI mle) (gI mgo) (nI mam) (bI mtm) (nI mli) (vF wd hd nb wl st sl gl aq lb sh bw bh ps) mpa (fun zz => nI (mtx zz)) (fun zz => nI (mlt zz)) (fun zz => nI (mha zz)) (fun zz => nI (mfi zz)) (fun zz => oI (mfa zz)) (fun zz => nI (mqu zz)) (fun zz => lN (mal zz)) (fun zz => nI (mta zz)) (fun zz => oI (mdi zz)) (fun zz => nI (mln zz))) H := hP
        have hD : va_D A (mW cI cJ cB o kv kp kx kl kh ki kf kq ka kt kd kn (nI mpm) (nI mty) (nI mwi) (nI mhi) (nI mwa) (nI mle) (gI mgo) (nI mam) (bI mtm) (nI mli) (vF wd hd nb wl st sl gl aq lb sh bw bh ps) mpa (fun zz => nI (mtx zz)) (fun zz => nI (mlt zz)) (fun zz => nI (mha zz)) (fun zz => nI (mfi zz)) (fun zz => oI (mfa zz)) (fun zz => nI (mqu zz)) (fun zz => lN (mal zz)) (fun zz => nI (mta zz)) (fun zz => oI (mdi zz)) (fun zz => nI (mln zz))) := hD
        refine lv_iload_n hx hb dX8_isOne_25 rfl (lv_at hl 3 rfl) ?_
        refine n_iand hx hb dX8_isOne_26  ?_
        refine topi (y := nI (grow mwi mhi g (i + 1))) rfl ?_
        refine lv_istore_n (lv' := [(2, .int (nI (grow mwi mhi g (i + 1)))), (3, .int (nI i)), (0, .ref o), (1, .int (nI g))]) hx hb dX8_isOne_27 rfl hl (by decide) rfl (fun ls hl => ?_)
        refine lv_iinc (v := nI (i + 1)) (lv' := [(3, .int (nI (i + 1))), (2, .int (nI (grow mwi mhi g (i + 1)))), (0, .ref o), (1, .int (nI g))]) hx hb dX8_isOne_28 hl (k := 1) rfl (nI_1 _) (by decide) rfl (fun ls hl => ?_)
        refine lv_goto (tgt := 7) hx hb dX8_isOne_31 (by decide) ?_
        exact ih7 (i + 1) (by omega) (by omega) _ _ hP hD hS _ (lv_sub hl [1, 0, 2, 3] rfl)
  exact L7 _ 0 (by omega) (Nat.lt_succ_self _) _ _ hP hD hS _ (lv_sub hl [1, 0, 2, 3] rfl)
