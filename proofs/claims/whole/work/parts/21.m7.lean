set_option maxHeartbeats 400000 in
set_option maxRecDepth 100000 in
theorem c_X8_solved (l : Launch) (D : va_G) (cI cJ cB : ClassId) (o kv kp kx kl kh ki kf kq ka kt kd kn mpm mty mwi mhi mwa mle mam mli : Nat) (mgo : Option Nat) (mtm : Bool) (mpa : Nat → Int32) (mtx mlt mha mfi mqu mta mln mal : Nat → Nat) (mfa mdi : Nat → Option Nat) (wd hd nb wl : Nat) (st sl : Int32) (gl aq lb : Option Nat) (sh bw bh ps : Nat → Nat) (htv : TV wd hd nb wl sh bw bh ps gl aq lb) : Met l yX8_solved (Cond.code yX8_solved cX8_solved 3 (some .int) :: lw_all) (rmN 3) (va_Pc [.ref o] (pB D (tyz cI cJ cB) (mW cI cJ cB o kv kp kx kl kh ki kf kq ka kt kd kn (nI mpm) (nI mty) (nI mwi) (nI mhi) (nI mwa) (nI mle) (gI mgo) (nI mam) (bI mtm) (nI mli) (vF wd hd nb wl st sl gl aq lb sh bw bh ps) mpa (fun zz => nI (mtx zz)) (fun zz => nI (mlt zz)) (fun zz => nI (mha zz)) (fun zz => nI (mfi zz)) (fun zz => oI (mfa zz)) (fun zz => nI (mqu zz)) (fun zz => lN (mal zz)) (fun zz => nI (mta zz)) (fun zz => oI (mdi zz)) (fun zz => nI (mln zz))))) (va_Qi (fun (r : Int32) (w : va_W) => ∃ go2 : Option Nat, ∃ K2 : Nat → Nat, ∃ n2 : Nat, ∃ T2 : Nat → Nat, ∃ tm2 : Bool, ∃ F2 : Nat → Option Nat, ∃ L2 : Nat → Nat, ∃ l2 : Nat, ∃ fa2 : Nat → Option Nat, ∃ qa2 : Nat → Nat, r = f_solved (kst wd hd nb wl sh bw bh none) gl aq (pkey ps nb) ∧ w = mW cI cJ cB o kv kp kx kl kh ki kf kq ka kt kd kn (nI mpm) (nI mty) (nI mwi) (nI mhi) (nI mwa) (nI mle) (gI go2) (nI n2) (bI tm2) (nI l2) (vF wd hd nb wl st sl gl aq lb sh bw bh ps) mpa (fun zz => nI (mtx zz)) (fun zz => nI (mlt zz)) (fun zz => nI (mha zz)) (fun zz => nI (mfi zz)) (fun zz => oI (fa2 zz)) (fun zz => nI (qa2 zz)) (fun zz => lN (K2 zz)) (fun zz => nI (T2 zz)) (fun zz => oI (F2 zz)) (fun zz => nI (L2 zz))) (gB D (mW cI cJ cB o kv kp kx kl kh ki kf kq ka kt kd kn (nI mpm) (nI mty) (nI mwi) (nI mhi) (nI mwa) (nI mle) (gI mgo) (nI mam) (bI mtm) (nI mli) (vF wd hd nb wl st sl gl aq lb sh bw bh ps) mpa (fun zz => nI (mtx zz)) (fun zz => nI (mlt zz)) (fun zz => nI (mha zz)) (fun zz => nI (mfi zz)) (fun zz => oI (mfa zz)) (fun zz => nI (mqu zz)) (fun zz => lN (mal zz)) (fun zz => nI (mta zz)) (fun zz => oI (mdi zz)) (fun zz => nI (mln zz)))) (aW (mW cI cJ cB o kv kp kx kl kh ki kf kq ka kt kd kn (nI mpm) (nI mty) (nI mwi) (nI mhi) (nI mwa) (nI mle) (gI mgo) (nI mam) (bI mtm) (nI mli) (vF wd hd nb wl st sl gl aq lb sh bw bh ps) mpa (fun zz => nI (mtx zz)) (fun zz => nI (mlt zz)) (fun zz => nI (mha zz)) (fun zz => nI (mfi zz)) (fun zz => oI (mfa zz)) (fun zz => nI (mqu zz)) (fun zz => lN (mal zz)) (fun zz => nI (mta zz)) (fun zz => oI (mdi zz)) (fun zz => nI (mln zz))))) 0 0 (aW (mW cI cJ cB o kv kp kx kl kh ki kf kq ka kt kd kn (nI mpm) (nI mty) (nI mwi) (nI mhi) (nI mwa) (nI mle) (gI mgo) (nI mam) (bI mtm) (nI mli) (vF wd hd nb wl st sl gl aq lb sh bw bh ps) mpa (fun zz => nI (mtx zz)) (fun zz => nI (mlt zz)) (fun zz => nI (mha zz)) (fun zz => nI (mfi zz)) (fun zz => oI (mfa zz)) (fun zz => nI (mqu zz)) (fun zz => lN (mal zz)) (fun zz => nI (mta zz)) (fun zz => oI (mdi zz)) (fun zz => nI (mln zz)))) := by
  refine Met.ofW (cc := cX8_solved) (maxL := 3) (ret := (some .int)) (by decide) rfl ?_
  intro p e s m args below meth c s₁ B hml hv
  obtain ⟨rfl, hK, hN, hP, hD0⟩ := hv
  have hx := B.exec; have hb := B.bytes; have hr := B.returns; have hlocks := B.notSynchronized
  have hts0 := atoms_spec (ws := Cond.code yX8_solved cX8_solved 3 (some .int) :: lw_all) B.pre
  have hC : CallFix p m c cX8_solved 3 s _ lw_all RX8 := ⟨hx, hb, hml, findClass_of_methodNamed B.named, fun w h => hts0 w (List.mem_cons_of_mem _ h)⟩
  have hD : va_D (aW (mW cI cJ cB o kv kp kx kl kh ki kf kq ka kt kd kn (nI mpm) (nI mty) (nI mwi) (nI mhi) (nI mwa) (nI mle) (gI mgo) (nI mam) (bI mtm) (nI mli) (vF wd hd nb wl st sl gl aq lb sh bw bh ps) mpa (fun zz => nI (mtx zz)) (fun zz => nI (mlt zz)) (fun zz => nI (mha zz)) (fun zz => nI (mfi zz)) (fun zz => oI (mfa zz)) (fun zz => nI (mqu zz)) (fun zz => lN (mal zz)) (fun zz => nI (mta zz)) (fun zz => oI (mdi zz)) (fun zz => nI (mln zz)))) (mW cI cJ cB o kv kp kx kl kh ki kf kq ka kt kd kn (nI mpm) (nI mty) (nI mwi) (nI mhi) (nI mwa) (nI mle) (gI mgo) (nI mam) (bI mtm) (nI mli) (vF wd hd nb wl st sl gl aq lb sh bw bh ps) mpa (fun zz => nI (mtx zz)) (fun zz => nI (mlt zz)) (fun zz => nI (mha zz)) (fun zz => nI (mfi zz)) (fun zz => oI (mfa zz)) (fun zz => nI (mqu zz)) (fun zz => lN (mal zz)) (fun zz => nI (mta zz)) (fun zz => oI (mdi zz)) (fun zz => nI (mln zz))) := ⟨hD0.1, fun k q h => ⟨k, q.2, h⟩⟩
  generalize hAe : aW (mW cI cJ cB o kv kp kx kl kh ki kf kq ka kt kd kn (nI mpm) (nI mty) (nI mwi) (nI mhi) (nI mwa) (nI mle) (gI mgo) (nI mam) (bI mtm) (nI mli) (vF wd hd nb wl st sl gl aq lb sh bw bh ps) mpa (fun zz => nI (mtx zz)) (fun zz => nI (mlt zz)) (fun zz => nI (mha zz)) (fun zz => nI (mfi zz)) (fun zz => oI (mfa zz)) (fun zz => nI (mqu zz)) (fun zz => lN (mal zz)) (fun zz => nI (mta zz)) (fun zz => oI (mdi zz)) (fun zz => nI (mln zz))) = A at hD ⊢
  have hS : va_S A s.heap s.heap [] := va_S.rf
  have hl := lv_entry ([.ref o]) (n := 3) (Nat.le_of_ble_eq_true rfl)
  rw [lg_entry_eq]
  generalize (lg_sl ([.ref o]) ++ List.replicate (3 - (lg_sl ([.ref o])).length) Slot.unset).toArray = ls at hl ⊢
  have hl : lv_has ls 3 [(0, .ref o)] := hl
  generalize hav : ([.ref o] : List Value).toArray = args at hC ⊢
  refine W_gen (fun QQ hQ => ?_)
  show W p l e (rmN 3) s m args below meth c s.heap [] 0 0 QQ (F0 m 0 ls [])
  obtain ⟨hf, hps, hk1, hga, hlb⟩ := id htv
  have hn7 := hf.2.2.2.2.2.1
  have h24 := hf.2.2.2.2.1
  refine lv_aload_n hx hb dX8_solved_0 rfl (lv_at hl 0 rfl) ?_
  refine gf_X8_7 hC hK hP 0 rfl rfl dX8_solved_1 ?_
  refine lv_bipush (v := nI 6) hx hb dX8_solved_4 (by decide) ?_
  refine n_iald hx hb hK hP 1 0 rfl rfl (by omega) (by decide) dX8_solved_6 ?_
  refine topi (y := gI gl) rfl ?_
  refine g_if_ge (x := gl) (tgt := 13) hx hb dX8_solved_7 (by decide) (fun d h => by rcases hga with ⟨h1, -⟩ | ⟨g, ap, h1, -, h3, -⟩ <;> rw [h1] at h <;> cases h; omega) (fun d7 c7 => ?_) (fun c7 => ?_)
  · have _ : True := trivial
    obtain ⟨g, ap, hgl, hap, hgn, hap4⟩ : ∃ g ap, gl = some g ∧ aq = some ap ∧ g < nb ∧ ap < 24 := hga.elim (fun h => by rw [h.1] at c7; cases c7) id
    refine lv_aload_n hx hb dX8_solved_13 rfl (lv_at hl 0 rfl) ?_
    refine lv_bipush (v := (-9)) hx hb dX8_solved_14 (by decide) ?_
    refine callV_v (As := [.int (-9)]) (rest := []) [0, 1, 2, 3, 4, 5, 6, 7, 8, 9, 10, 11, 12] hC hK hN hP hD rfl (by decide) hS 0 (ci := 8) rfl rfl rfl (c_X8_explores l D cI cJ cB o kv kp kx kl kh ki kf kq ka kt kd kn mpm mty mwi mhi mwa mle mam mli mgo mtm mpa mtx mlt mha mfi mqu mta mln mal mfa mdi wd hd nb wl st sl gl aq lb sh bw bh ps none hf (fun d h => by cases h) hps hk1) q879 md_X8_explores rfl hl.1 rfl (Nat.le_of_ble_eq_true rfl) dX8_solved_16 ⟨Nat.le_of_ble_eq_true rfl, Nat.le_of_ble_eq_true rfl⟩ ⟨Nat.le_of_ble_eq_true rfl, Nat.le_of_ble_eq_true rfl⟩ (fun w H locs hpost hP hD hS => ?_)
    obtain ⟨K2_16, n2_16, T2_16, tm2_16, rfl, hei, hcl⟩ := hpost
    have hP : va_P D vwCl (mW cI cJ cB o kv kp kx kl kh ki kf kq ka kt kd kn (nI mpm) (nI mty) (nI mwi) (nI mhi) (nI mwa) (nI mle) (gI none) (nI n2_16) (bI tm2_16) (nI mli) (vF wd hd nb wl st sl gl aq lb sh bw bh ps) mpa (fun zz => nI (mtx zz)) (fun zz => nI (mlt zz)) (fun zz => nI (mha zz)) (fun zz => nI (mfi zz)) (fun zz => oI (mfa zz)) (fun zz => nI (mqu zz)) (fun zz => lN (K2_16 zz)) (fun zz => nI (T2_16 zz)) (fun zz => oI (mdi zz)) (fun zz => nI (mln zz))) H := hP
    have hD : va_D A (mW cI cJ cB o kv kp kx kl kh ki kf kq ka kt kd kn (nI mpm) (nI mty) (nI mwi) (nI mhi) (nI mwa) (nI mle) (gI none) (nI n2_16) (bI tm2_16) (nI mli) (vF wd hd nb wl st sl gl aq lb sh bw bh ps) mpa (fun zz => nI (mtx zz)) (fun zz => nI (mlt zz)) (fun zz => nI (mha zz)) (fun zz => nI (mfi zz)) (fun zz => oI (mfa zz)) (fun zz => nI (mqu zz)) (fun zz => lN (K2_16 zz)) (fun zz => nI (T2_16 zz)) (fun zz => oI (mdi zz)) (fun zz => nI (mln zz))) := hD
    refine lv_aload_n hx hb dX8_solved_19 rfl (lv_at hl 0 rfl) ?_
    refine gf_X8_128 hC hK hP 0 rfl rfl dX8_solved_20 ?_
    refine b_if_eq (tgt := 29) hx hb dX8_solved_23 (by decide) (fun c23 => ?_) (fun c23 => ?_)
    · have _ : True := trivial
      refine lv_iconst (v := nI 0) hx hb dX8_solved_29 (by decide) ?_
      refine topi (y := nI (sumN (fun x => if plc x g = ap then 1 else 0) K2_16 0)) rfl ?_
      refine lv_istore_n (lv' := [(1, .int (nI (sumN (fun x => if plc x g = ap then 1 else 0) K2_16 0))), (0, .ref o)]) hx hb dX8_solved_30 rfl hl (by decide) rfl (fun ls hl => ?_)
      refine lv_iconst (v := nI 0) hx hb dX8_solved_31 (by decide) ?_
      refine lv_istore_n (lv' := [(2, .int (nI 0)), (1, .int (nI (sumN (fun x => if plc x g = ap then 1 else 0) K2_16 0))), (0, .ref o)]) hx hb dX8_solved_32 rfl hl (by decide) rfl (fun ls hl => ?_)
      have L33 : ∀ (n : Nat) (i : Nat), (i ≤ n2_16) → (n2_16 - i) < n → ∀ (H : Heap) (locs : List Loc), va_P D vwCl (mW cI cJ cB o kv kp kx kl kh ki kf kq ka kt kd kn (nI mpm) (nI mty) (nI mwi) (nI mhi) (nI mwa) (nI mle) (gI none) (nI n2_16) (bI tm2_16) (nI mli) (vF wd hd nb wl st sl gl aq lb sh bw bh ps) mpa (fun zz => nI (mtx zz)) (fun zz => nI (mlt zz)) (fun zz => nI (mha zz)) (fun zz => nI (mfi zz)) (fun zz => oI (mfa zz)) (fun zz => nI (mqu zz)) (fun zz => lN (K2_16 zz)) (fun zz => nI (T2_16 zz)) (fun zz => oI (mdi zz)) (fun zz => nI (mln zz))) H → va_D A (mW cI cJ cB o kv kp kx kl kh ki kf kq ka kt kd kn (nI mpm) (nI mty) (nI mwi) (nI mhi) (nI mwa) (nI mle) (gI none) (nI n2_16) (bI tm2_16) (nI mli) (vF wd hd nb wl st sl gl aq lb sh bw bh ps) mpa (fun zz => nI (mtx zz)) (fun zz => nI (mlt zz)) (fun zz => nI (mha zz)) (fun zz => nI (mfi zz)) (fun zz => oI (mfa zz)) (fun zz => nI (mqu zz)) (fun zz => lN (K2_16 zz)) (fun zz => nI (T2_16 zz)) (fun zz => oI (mdi zz)) (fun zz => nI (mln zz))) → va_S A s.heap H locs → ∀ ls : Array Slot, lv_has ls 3 [(1, .int (nI (sumN (fun x => if plc x g = ap then 1 else 0) K2_16 i))), (2, .int (nI i)), (0, .ref o)] → W p l e (rmN 3) s m args below meth c H locs 0 0 QQ (F0 m 33 ls []) := by
        intro n; induction n with
        | zero => intro i ii hm; exact absurd hm (Nat.not_lt_zero _)
        | succ n ih33 =>
          intro i ii hm33 H locs hP hD hS ls hl
          refine lv_iload_n hx hb dX8_solved_33 rfl (lv_at hl 1 rfl) ?_
          refine lv_aload_n hx hb dX8_solved_34 rfl (lv_at hl 2 rfl) ?_
          refine gf_X8_125 hC hK hP 0 rfl rfl dX8_solved_35 ?_
          refine n_icmp_ge (a := i) (b := n2_16) (tgt := 81) hx hb dX8_solved_38 (by decide) (by have := hei.2.1; omega) (by have := hei.2.1; omega) (fun c38 => ?_) (fun c38 => ?_)
          · have _ : True := trivial
            have e38 : i = n2_16 := by omega
            refine lv_iload_n hx hb dX8_solved_81 rfl (lv_at hl 0 rfl) ?_
            rw [hQ]
            exact W.iret (v := nI (sumN (fun x => if plc x g = ap then 1 else 0) K2_16 i)) hx hb hr (fun t9 ht hW => ⟨⟨_, _, rfl, ⟨none, K2_16, n2_16, T2_16, tm2_16, mdi, mln, mli, mfa, mqu, (by rw [hgl, hap, e38]; exact f_solved_eq (Or.inr ⟨_, _, hei.2.1, EI_enum hei hcl c23, rfl⟩)), rfl⟩, by rw [ht]; exact hP, rfl⟩, hS.F ht⟩) hS.2.2 dX8_solved_82
          · have _ : True := trivial
            refine lv_iload_n hx hb dX8_solved_41 rfl (lv_at hl 0 rfl) ?_
            refine lv_aload_n hx hb dX8_solved_42 rfl (lv_at hl 2 rfl) ?_
            refine gf_X8_38 hC hK hP 0 rfl rfl dX8_solved_43 ?_
            refine lv_iload_n hx hb dX8_solved_46 rfl (lv_at hl 1 rfl) ?_
            refine n_lald hx hb hK hP 9 1 rfl rfl (by have := hei.2.1; omega) (by decide) dX8_solved_47 ?_
            refine lv_aload_n hx hb dX8_solved_48 rfl (lv_at hl 2 rfl) ?_
            refine gf_X8_7 hC hK hP 0 rfl rfl dX8_solved_49 ?_
            refine lv_bipush (v := nI 6) hx hb dX8_solved_52 (by decide) ?_
            refine n_iald hx hb hK hP 1 0 rfl rfl (by omega) (by decide) dX8_solved_54 ?_
            refine topi (y := gI gl) rfl ?_
            refine topi (y := nI g) (by rw [hgl]; rfl) ?_
            refine callS_i (As := [.long (lN (K2_16 i)), .int (nI g)]) (rest := [.int (nI (sumN (fun x => if plc x g = ap then 1 else 0) K2_16 i))]) [] hC hK hN hP hD rfl (by decide) hS (c_X8_placeIn l D cI cJ cB (K2_16 i) g (hei.2.2.2.2.1 i c38).2.1 (by omega)) q813 md_X8_placeIn rfl hl.1 rfl (Nat.le_of_ble_eq_true rfl) dX8_solved_55 ⟨Nat.le_of_ble_eq_true rfl, Nat.le_of_ble_eq_true rfl⟩ ⟨Nat.le_of_ble_eq_true rfl, Nat.le_of_ble_eq_true rfl⟩ (fun r_55 w H locs hpost hP hD hS => ?_)
            obtain ⟨rfl, rfl⟩ := hpost
            have hP : va_P D vwCl (mW cI cJ cB o kv kp kx kl kh ki kf kq ka kt kd kn (nI mpm) (nI mty) (nI mwi) (nI mhi) (nI mwa) (nI mle) (gI none) (nI n2_16) (bI tm2_16) (nI mli) (vF wd hd nb wl st sl gl aq lb sh bw bh ps) mpa (fun zz => nI (mtx zz)) (fun zz => nI (mlt zz)) (fun zz => nI (mha zz)) (fun zz => nI (mfi zz)) (fun zz => oI (mfa zz)) (fun zz => nI (mqu zz)) (fun zz => lN (K2_16 zz)) (fun zz => nI (T2_16 zz)) (fun zz => oI (mdi zz)) (fun zz => nI (mln zz))) H := hP
            have hD : va_D A (mW cI cJ cB o kv kp kx kl kh ki kf kq ka kt kd kn (nI mpm) (nI mty) (nI mwi) (nI mhi) (nI mwa) (nI mle) (gI none) (nI n2_16) (bI tm2_16) (nI mli) (vF wd hd nb wl st sl gl aq lb sh bw bh ps) mpa (fun zz => nI (mtx zz)) (fun zz => nI (mlt zz)) (fun zz => nI (mha zz)) (fun zz => nI (mfi zz)) (fun zz => oI (mfa zz)) (fun zz => nI (mqu zz)) (fun zz => lN (K2_16 zz)) (fun zz => nI (T2_16 zz)) (fun zz => oI (mdi zz)) (fun zz => nI (mln zz))) := hD
            refine lv_aload_n hx hb dX8_solved_58 rfl (lv_at hl 2 rfl) ?_
            refine gf_X8_7 hC hK hP 0 rfl rfl dX8_solved_59 ?_
            refine lv_bipush (v := nI 7) hx hb dX8_solved_62 (by decide) ?_
            refine n_iald hx hb hK hP 1 0 rfl rfl (by omega) (by decide) dX8_solved_64 ?_
            refine topi (y := gI aq) rfl ?_
            refine topi (y := nI ap) (by rw [hap]; rfl) ?_
            refine n_icmp_ne (a := plc (K2_16 i) g) (b := ap) (tgt := 72) hx hb dX8_solved_65 (by decide) (by have := plc_lt (K2_16 i) g; omega) (by omega) (fun c65 => ?_) (fun c65 => ?_)
            · have _ : True := trivial
              refine lv_iconst (v := nI 0) hx hb dX8_solved_72 (by decide) ?_
              refine n_iadd hx hb dX8_solved_73  ?_
              refine topi (y := nI (sumN (fun x => if plc x g = ap then 1 else 0) K2_16 (i + 1))) (by show nI (sumN (fun x => if plc x g = ap then 1 else 0) K2_16 i + 0) = nI (sumN (fun x => if plc x g = ap then 1 else 0) K2_16 i + (if plc (K2_16 i) g = ap then 1 else 0)); rw [if_neg c65]) ?_
              refine lv_istore_n (lv' := [(1, .int (nI (sumN (fun x => if plc x g = ap then 1 else 0) K2_16 (i + 1)))), (2, .int (nI i)), (0, .ref o)]) hx hb dX8_solved_74 rfl hl (by decide) rfl (fun ls hl => ?_)
              refine lv_iinc (v := nI (i + 1)) (lv' := [(2, .int (nI (i + 1))), (1, .int (nI (sumN (fun x => if plc x g = ap then 1 else 0) K2_16 (i + 1)))), (0, .ref o)]) hx hb dX8_solved_75 hl (k := 1) rfl (nI_1 _) (by decide) rfl (fun ls hl => ?_)
              refine lv_goto (tgt := 33) hx hb dX8_solved_78 (by decide) ?_
              exact ih33 (i + 1) (by omega) (by omega) _ _ hP hD hS _ (lv_sub hl [1, 0, 2] rfl)
            · have _ : True := trivial
              refine lv_iconst (v := nI 1) hx hb dX8_solved_68 (by decide) ?_
              refine lv_goto (tgt := 73) hx hb dX8_solved_69 (by decide) ?_
              refine n_iadd hx hb dX8_solved_73  ?_
              refine topi (y := nI (sumN (fun x => if plc x g = ap then 1 else 0) K2_16 (i + 1))) (by show nI (sumN (fun x => if plc x g = ap then 1 else 0) K2_16 i + 1) = nI (sumN (fun x => if plc x g = ap then 1 else 0) K2_16 i + (if plc (K2_16 i) g = ap then 1 else 0)); rw [if_pos c65]) ?_
              refine lv_istore_n (lv' := [(1, .int (nI (sumN (fun x => if plc x g = ap then 1 else 0) K2_16 (i + 1)))), (2, .int (nI i)), (0, .ref o)]) hx hb dX8_solved_74 rfl hl (by decide) rfl (fun ls hl => ?_)
              refine lv_iinc (v := nI (i + 1)) (lv' := [(2, .int (nI (i + 1))), (1, .int (nI (sumN (fun x => if plc x g = ap then 1 else 0) K2_16 (i + 1)))), (0, .ref o)]) hx hb dX8_solved_75 hl (k := 1) rfl (nI_1 _) (by decide) rfl (fun ls hl => ?_)
              refine lv_goto (tgt := 33) hx hb dX8_solved_78 (by decide) ?_
              exact ih33 (i + 1) (by omega) (by omega) _ _ hP hD hS _ (lv_sub hl [1, 0, 2] rfl)
      exact L33 _ 0 (by omega) (Nat.lt_succ_self _) _ _ hP hD hS _ (lv_sub hl [1, 0, 2] rfl)
    · have _ : True := trivial
      refine lv_bipush (v := (-3)) hx hb dX8_solved_26 (by decide) ?_
      rw [hQ]
      exact W.iret (v := (-3)) hx hb hr (fun t9 ht hW => ⟨⟨_, _, rfl, ⟨none, K2_16, n2_16, T2_16, tm2_16, mdi, mln, mli, mfa, mqu, (by rw [hgl, hap]; exact f_solved_eq (Or.inl ⟨EI_big hei c23, rfl⟩)), rfl⟩, by rw [ht]; exact hP, rfl⟩, hS.F ht⟩) hS.2.2 dX8_solved_28
  · have _ : True := trivial
    refine lv_bipush (v := (-2)) hx hb dX8_solved_10 (by decide) ?_
    rw [hQ]
    exact W.iret (v := (-2)) hx hb hr (fun t9 ht hW => ⟨⟨_, _, rfl, ⟨mgo, mal, mam, mta, mtm, mdi, mln, mli, mfa, mqu, (by rw [c7]; rfl), rfl⟩, by rw [ht]; exact hP, rfl⟩, hS.F ht⟩) hS.2.2 dX8_solved_12

set_option maxHeartbeats 400000 in
set_option maxRecDepth 100000 in
theorem c_X8_places_ (l : Launch) (D : va_G) (cI cJ cB : ClassId) (o kv kp kx kl kh ki kf kq ka kt kd kn mpm mty mwi mhi mwa mle mam mli : Nat) (mgo : Option Nat) (mtm : Bool) (mpa : Nat → Int32) (mtx mlt mha mfi mqu mta mln mal : Nat → Nat) (mfa mdi : Nat → Option Nat) (wd hd nb wl : Nat) (st sl : Int32) (gl aq lb : Option Nat) (sh bw bh ps : Nat → Nat) (x : Int32) (htv : TV wd hd nb wl sh bw bh ps gl aq lb) : Met l yX8_places_ (Cond.code yX8_places_ cX8_places_ 4 (some .int) :: lw_all) (rmN 3) (va_Pc [.ref o, .int x] (pB D (tyz cI cJ cB) (mW cI cJ cB o kv kp kx kl kh ki kf kq ka kt kd kn (nI mpm) (nI mty) (nI mwi) (nI mhi) (nI mwa) (nI mle) (gI mgo) (nI mam) (bI mtm) (nI mli) (vF wd hd nb wl st sl gl aq lb sh bw bh ps) mpa (fun zz => nI (mtx zz)) (fun zz => nI (mlt zz)) (fun zz => nI (mha zz)) (fun zz => nI (mfi zz)) (fun zz => oI (mfa zz)) (fun zz => nI (mqu zz)) (fun zz => lN (mal zz)) (fun zz => nI (mta zz)) (fun zz => oI (mdi zz)) (fun zz => nI (mln zz))))) (va_Qi (fun (r : Int32) (w : va_W) => ∃ go2 : Option Nat, ∃ K2 : Nat → Nat, ∃ n2 : Nat, ∃ T2 : Nat → Nat, ∃ tm2 : Bool, ∃ F2 : Nat → Option Nat, ∃ L2 : Nat → Nat, ∃ l2 : Nat, ∃ fa2 : Nat → Option Nat, ∃ qa2 : Nat → Nat, r = f_placesx wd hd nb wl sh bw bh ps x ∧ w = mW cI cJ cB o kv kp kx kl kh ki kf kq ka kt kd kn (nI mpm) (nI mty) (nI mwi) (nI mhi) (nI mwa) (nI mle) (gI go2) (nI n2) (bI tm2) (nI l2) (vF wd hd nb wl st sl gl aq lb sh bw bh ps) mpa (fun zz => nI (mtx zz)) (fun zz => nI (mlt zz)) (fun zz => nI (mha zz)) (fun zz => nI (mfi zz)) (fun zz => oI (fa2 zz)) (fun zz => nI (qa2 zz)) (fun zz => lN (K2 zz)) (fun zz => nI (T2 zz)) (fun zz => oI (F2 zz)) (fun zz => nI (L2 zz))) (gB D (mW cI cJ cB o kv kp kx kl kh ki kf kq ka kt kd kn (nI mpm) (nI mty) (nI mwi) (nI mhi) (nI mwa) (nI mle) (gI mgo) (nI mam) (bI mtm) (nI mli) (vF wd hd nb wl st sl gl aq lb sh bw bh ps) mpa (fun zz => nI (mtx zz)) (fun zz => nI (mlt zz)) (fun zz => nI (mha zz)) (fun zz => nI (mfi zz)) (fun zz => oI (mfa zz)) (fun zz => nI (mqu zz)) (fun zz => lN (mal zz)) (fun zz => nI (mta zz)) (fun zz => oI (mdi zz)) (fun zz => nI (mln zz)))) (aW (mW cI cJ cB o kv kp kx kl kh ki kf kq ka kt kd kn (nI mpm) (nI mty) (nI mwi) (nI mhi) (nI mwa) (nI mle) (gI mgo) (nI mam) (bI mtm) (nI mli) (vF wd hd nb wl st sl gl aq lb sh bw bh ps) mpa (fun zz => nI (mtx zz)) (fun zz => nI (mlt zz)) (fun zz => nI (mha zz)) (fun zz => nI (mfi zz)) (fun zz => oI (mfa zz)) (fun zz => nI (mqu zz)) (fun zz => lN (mal zz)) (fun zz => nI (mta zz)) (fun zz => oI (mdi zz)) (fun zz => nI (mln zz))))) 0 0 (aW (mW cI cJ cB o kv kp kx kl kh ki kf kq ka kt kd kn (nI mpm) (nI mty) (nI mwi) (nI mhi) (nI mwa) (nI mle) (gI mgo) (nI mam) (bI mtm) (nI mli) (vF wd hd nb wl st sl gl aq lb sh bw bh ps) mpa (fun zz => nI (mtx zz)) (fun zz => nI (mlt zz)) (fun zz => nI (mha zz)) (fun zz => nI (mfi zz)) (fun zz => oI (mfa zz)) (fun zz => nI (mqu zz)) (fun zz => lN (mal zz)) (fun zz => nI (mta zz)) (fun zz => oI (mdi zz)) (fun zz => nI (mln zz)))) := by
  refine Met.ofW (cc := cX8_places_) (maxL := 4) (ret := (some .int)) (by decide) rfl ?_
  intro p e s m args below meth c s₁ B hml hv
  obtain ⟨rfl, hK, hN, hP, hD0⟩ := hv
  have hx := B.exec; have hb := B.bytes; have hr := B.returns; have hlocks := B.notSynchronized
  have hts0 := atoms_spec (ws := Cond.code yX8_places_ cX8_places_ 4 (some .int) :: lw_all) B.pre
  have hC : CallFix p m c cX8_places_ 4 s _ lw_all RX8 := ⟨hx, hb, hml, findClass_of_methodNamed B.named, fun w h => hts0 w (List.mem_cons_of_mem _ h)⟩
  have hD : va_D (aW (mW cI cJ cB o kv kp kx kl kh ki kf kq ka kt kd kn (nI mpm) (nI mty) (nI mwi) (nI mhi) (nI mwa) (nI mle) (gI mgo) (nI mam) (bI mtm) (nI mli) (vF wd hd nb wl st sl gl aq lb sh bw bh ps) mpa (fun zz => nI (mtx zz)) (fun zz => nI (mlt zz)) (fun zz => nI (mha zz)) (fun zz => nI (mfi zz)) (fun zz => oI (mfa zz)) (fun zz => nI (mqu zz)) (fun zz => lN (mal zz)) (fun zz => nI (mta zz)) (fun zz => oI (mdi zz)) (fun zz => nI (mln zz)))) (mW cI cJ cB o kv kp kx kl kh ki kf kq ka kt kd kn (nI mpm) (nI mty) (nI mwi) (nI mhi) (nI mwa) (nI mle) (gI mgo) (nI mam) (bI mtm) (nI mli) (vF wd hd nb wl st sl gl aq lb sh bw bh ps) mpa (fun zz => nI (mtx zz)) (fun zz => nI (mlt zz)) (fun zz => nI (mha zz)) (fun zz => nI (mfi zz)) (fun zz => oI (mfa zz)) (fun zz => nI (mqu zz)) (fun zz => lN (mal zz)) (fun zz => nI (mta zz)) (fun zz => oI (mdi zz)) (fun zz => nI (mln zz))) := ⟨hD0.1, fun k q h => ⟨k, q.2, h⟩⟩
  generalize hAe : aW (mW cI cJ cB o kv kp kx kl kh ki kf kq ka kt kd kn (nI mpm) (nI mty) (nI mwi) (nI mhi) (nI mwa) (nI mle) (gI mgo) (nI mam) (bI mtm) (nI mli) (vF wd hd nb wl st sl gl aq lb sh bw bh ps) mpa (fun zz => nI (mtx zz)) (fun zz => nI (mlt zz)) (fun zz => nI (mha zz)) (fun zz => nI (mfi zz)) (fun zz => oI (mfa zz)) (fun zz => nI (mqu zz)) (fun zz => lN (mal zz)) (fun zz => nI (mta zz)) (fun zz => oI (mdi zz)) (fun zz => nI (mln zz))) = A at hD ⊢
  have hS : va_S A s.heap s.heap [] := va_S.rf
  have hl := lv_entry ([.ref o, .int x]) (n := 4) (Nat.le_of_ble_eq_true rfl)
  rw [lg_entry_eq]
  generalize (lg_sl ([.ref o, .int x]) ++ List.replicate (4 - (lg_sl ([.ref o, .int x])).length) Slot.unset).toArray = ls at hl ⊢
  have hl : lv_has ls 4 [(0, .ref o), (1, .int x)] := hl
  generalize hav : ([.ref o, .int x] : List Value).toArray = args at hC ⊢
  refine W_gen (fun QQ hQ => ?_)
  show W p l e (rmN 3) s m args below meth c s.heap [] 0 0 QQ (F0 m 0 ls [])
  obtain ⟨hf, hps, hk1, hga, hlb⟩ := id htv
  have hn7 := hf.2.2.2.2.2.1
  have h24 := hf.2.2.2.2.1
  refine lv_aload_n hx hb dX8_places__0 rfl (lv_at hl 0 rfl) ?_
  refine lv_iload_n hx hb dX8_places__1 rfl (lv_at hl 1 rfl) ?_
  refine callV_i (As := [.int x]) (rest := []) [0, 1, 2, 3, 4, 5, 6, 7, 8, 9, 10, 11, 12] hC hK hN hP hD rfl (by decide) hS 0 (ci := 8) rfl rfl rfl (c_X8_isBlock l D cI cJ cB o kv kp kx kl kh ki kf kq ka kt kd kn mpm mty mwi mhi mwa mle mam mli mgo mtm mpa mtx mlt mha mfi mqu mta mln mal mfa mdi wd hd nb wl st sl gl aq lb sh bw bh ps x ) q835 md_X8_isBlock rfl hl.1 rfl (Nat.le_of_ble_eq_true rfl) dX8_places__2 ⟨Nat.le_of_ble_eq_true rfl, Nat.le_of_ble_eq_true rfl⟩ ⟨Nat.le_of_ble_eq_true rfl, Nat.le_of_ble_eq_true rfl⟩ (fun r_2 w H locs hpost hP hD hS => ?_)
  obtain ⟨rfl, rfl⟩ := hpost
  have hP : va_P D vwCl (mW cI cJ cB o kv kp kx kl kh ki kf kq ka kt kd kn (nI mpm) (nI mty) (nI mwi) (nI mhi) (nI mwa) (nI mle) (gI mgo) (nI mam) (bI mtm) (nI mli) (vF wd hd nb wl st sl gl aq lb sh bw bh ps) mpa (fun zz => nI (mtx zz)) (fun zz => nI (mlt zz)) (fun zz => nI (mha zz)) (fun zz => nI (mfi zz)) (fun zz => oI (mfa zz)) (fun zz => nI (mqu zz)) (fun zz => lN (mal zz)) (fun zz => nI (mta zz)) (fun zz => oI (mdi zz)) (fun zz => nI (mln zz))) H := hP
  have hD : va_D A (mW cI cJ cB o kv kp kx kl kh ki kf kq ka kt kd kn (nI mpm) (nI mty) (nI mwi) (nI mhi) (nI mwa) (nI mle) (gI mgo) (nI mam) (bI mtm) (nI mli) (vF wd hd nb wl st sl gl aq lb sh bw bh ps) mpa (fun zz => nI (mtx zz)) (fun zz => nI (mlt zz)) (fun zz => nI (mha zz)) (fun zz => nI (mfi zz)) (fun zz => oI (mfa zz)) (fun zz => nI (mqu zz)) (fun zz => lN (mal zz)) (fun zz => nI (mta zz)) (fun zz => oI (mdi zz)) (fun zz => nI (mln zz))) := hD
  refine b_if_ne (tgt := 10) hx hb dX8_places__5 (by decide) (fun c5 => ?_) (fun c5 => ?_)
  · have _ : True := trivial
    obtain ⟨b, hbn, hxb, hbo⟩ := bOf_some (by omega) c5
    subst hxb
    refine lv_aload_n hx hb dX8_places__10 rfl (lv_at hl 0 rfl) ?_
    refine lv_bipush (v := (-9)) hx hb dX8_places__11 (by decide) ?_
    refine callV_v (As := [.int (-9)]) (rest := []) [0, 1, 2, 3, 4, 5, 6, 7, 8, 9, 10, 11, 12] hC hK hN hP hD rfl (by decide) hS 0 (ci := 8) rfl rfl rfl (c_X8_explores l D cI cJ cB o kv kp kx kl kh ki kf kq ka kt kd kn mpm mty mwi mhi mwa mle mam mli mgo mtm mpa mtx mlt mha mfi mqu mta mln mal mfa mdi wd hd nb wl st sl gl aq lb sh bw bh ps none hf (fun d h => by cases h) hps hk1) q879 md_X8_explores rfl hl.1 rfl (Nat.le_of_ble_eq_true rfl) dX8_places__13 ⟨Nat.le_of_ble_eq_true rfl, Nat.le_of_ble_eq_true rfl⟩ ⟨Nat.le_of_ble_eq_true rfl, Nat.le_of_ble_eq_true rfl⟩ (fun w H locs hpost hP hD hS => ?_)
    obtain ⟨K2_13, n2_13, T2_13, tm2_13, rfl, hei, hcl⟩ := hpost
    have hP : va_P D vwCl (mW cI cJ cB o kv kp kx kl kh ki kf kq ka kt kd kn (nI mpm) (nI mty) (nI mwi) (nI mhi) (nI mwa) (nI mle) (gI none) (nI n2_13) (bI tm2_13) (nI mli) (vF wd hd nb wl st sl gl aq lb sh bw bh ps) mpa (fun zz => nI (mtx zz)) (fun zz => nI (mlt zz)) (fun zz => nI (mha zz)) (fun zz => nI (mfi zz)) (fun zz => oI (mfa zz)) (fun zz => nI (mqu zz)) (fun zz => lN (K2_13 zz)) (fun zz => nI (T2_13 zz)) (fun zz => oI (mdi zz)) (fun zz => nI (mln zz))) H := hP
    have hD : va_D A (mW cI cJ cB o kv kp kx kl kh ki kf kq ka kt kd kn (nI mpm) (nI mty) (nI mwi) (nI mhi) (nI mwa) (nI mle) (gI none) (nI n2_13) (bI tm2_13) (nI mli) (vF wd hd nb wl st sl gl aq lb sh bw bh ps) mpa (fun zz => nI (mtx zz)) (fun zz => nI (mlt zz)) (fun zz => nI (mha zz)) (fun zz => nI (mfi zz)) (fun zz => oI (mfa zz)) (fun zz => nI (mqu zz)) (fun zz => lN (K2_13 zz)) (fun zz => nI (T2_13 zz)) (fun zz => oI (mdi zz)) (fun zz => nI (mln zz))) := hD
    refine lv_iconst (v := nI 0) hx hb dX8_places__16 (by decide) ?_
    refine topi (y := nI (orN K2_13 b 0)) rfl ?_
    refine lv_istore_n (lv' := [(2, .int (nI (orN K2_13 b 0))), (0, .ref o), (1, .int (nI b))]) hx hb dX8_places__17 rfl hl (by decide) rfl (fun ls hl => ?_)
    refine lv_iconst (v := nI 0) hx hb dX8_places__18 (by decide) ?_
    refine lv_istore_n (lv' := [(3, .int (nI 0)), (2, .int (nI (orN K2_13 b 0))), (0, .ref o), (1, .int (nI b))]) hx hb dX8_places__19 rfl hl (by decide) rfl (fun ls hl => ?_)
    have L20 : ∀ (n : Nat) (i : Nat), (i ≤ n2_13) → (n2_13 - i) < n → ∀ (H : Heap) (locs : List Loc), va_P D vwCl (mW cI cJ cB o kv kp kx kl kh ki kf kq ka kt kd kn (nI mpm) (nI mty) (nI mwi) (nI mhi) (nI mwa) (nI mle) (gI none) (nI n2_13) (bI tm2_13) (nI mli) (vF wd hd nb wl st sl gl aq lb sh bw bh ps) mpa (fun zz => nI (mtx zz)) (fun zz => nI (mlt zz)) (fun zz => nI (mha zz)) (fun zz => nI (mfi zz)) (fun zz => oI (mfa zz)) (fun zz => nI (mqu zz)) (fun zz => lN (K2_13 zz)) (fun zz => nI (T2_13 zz)) (fun zz => oI (mdi zz)) (fun zz => nI (mln zz))) H → va_D A (mW cI cJ cB o kv kp kx kl kh ki kf kq ka kt kd kn (nI mpm) (nI mty) (nI mwi) (nI mhi) (nI mwa) (nI mle) (gI none) (nI n2_13) (bI tm2_13) (nI mli) (vF wd hd nb wl st sl gl aq lb sh bw bh ps) mpa (fun zz => nI (mtx zz)) (fun zz => nI (mlt zz)) (fun zz => nI (mha zz)) (fun zz => nI (mfi zz)) (fun zz => oI (mfa zz)) (fun zz => nI (mqu zz)) (fun zz => lN (K2_13 zz)) (fun zz => nI (T2_13 zz)) (fun zz => oI (mdi zz)) (fun zz => nI (mln zz))) → va_S A s.heap H locs → ∀ ls : Array Slot, lv_has ls 4 [(2, .int (nI (orN K2_13 b i))), (3, .int (nI i)), (0, .ref o), (1, .int (nI b))] → W p l e (rmN 3) s m args below meth c H locs 0 0 QQ (F0 m 20 ls []) := by
      intro n; induction n with
      | zero => intro i ii hm; exact absurd hm (Nat.not_lt_zero _)
      | succ n ih20 =>
        intro i ii hm20 H locs hP hD hS ls hl
        refine lv_iload_n hx hb dX8_places__20 rfl (lv_at hl 1 rfl) ?_
        refine lv_aload_n hx hb dX8_places__21 rfl (lv_at hl 2 rfl) ?_
        refine gf_X8_125 hC hK hP 0 rfl rfl dX8_places__22 ?_
        refine n_icmp_ge (a := i) (b := n2_13) (tgt := 49) hx hb dX8_places__25 (by decide) (by have := hei.2.1; omega) (by have := hei.2.1; omega) (fun c25 => ?_) (fun c25 => ?_)
        · have _ : True := trivial
          have e25 : i = n2_13 := by omega
          refine lv_aload_n hx hb dX8_places__49 rfl (lv_at hl 2 rfl) ?_
          refine gf_X8_128 hC hK hP 0 rfl rfl dX8_places__50 ?_
          refine b_if_eq (tgt := 61) hx hb dX8_places__53 (by decide) (fun c53 => ?_) (fun c53 => ?_)
          · have _ : True := trivial
            refine lv_iload_n hx hb dX8_places__61 rfl (lv_at hl 0 rfl) ?_
            rw [hQ]
            exact W.iret (v := nI (orN K2_13 b i)) hx hb hr (fun t9 ht hW => ⟨⟨_, _, rfl, ⟨none, K2_13, n2_13, T2_13, tm2_13, mdi, mln, mli, mfa, mqu, (by unfold f_placesx; rw [hbo]; exact f_places_eq (Or.inr ⟨_, _, _, hei.2.1, EI_enum hei hcl c53, rfl, fun j => by rw [e25]; exact orN_bit⟩)), rfl⟩, by rw [ht]; exact hP, rfl⟩, hS.F ht⟩) hS.2.2 dX8_places__62
          · have _ : True := trivial
            refine lv_bipush (v := (-3)) hx hb dX8_places__56 (by decide) ?_
            refine lv_goto (tgt := 62) hx hb dX8_places__58 (by decide) ?_
            rw [hQ]
            exact W.iret (v := (-3)) hx hb hr (fun t9 ht hW => ⟨⟨_, _, rfl, ⟨none, K2_13, n2_13, T2_13, tm2_13, mdi, mln, mli, mfa, mqu, (by unfold f_placesx; rw [hbo]; exact f_places_eq (Or.inl ⟨EI_big hei c53, rfl⟩)), rfl⟩, by rw [ht]; exact hP, rfl⟩, hS.F ht⟩) hS.2.2 dX8_places__62
        · have _ : True := trivial
          refine lv_iload_n hx hb dX8_places__28 rfl (lv_at hl 0 rfl) ?_
          refine lv_iconst (v := nI 1) hx hb dX8_places__29 (by decide) ?_
          refine lv_aload_n hx hb dX8_places__30 rfl (lv_at hl 2 rfl) ?_
          refine gf_X8_38 hC hK hP 0 rfl rfl dX8_places__31 ?_
          refine lv_iload_n hx hb dX8_places__34 rfl (lv_at hl 1 rfl) ?_
          refine n_lald hx hb hK hP 9 1 rfl rfl (by have := hei.2.1; omega) (by decide) dX8_places__35 ?_
          refine lv_iload_n hx hb dX8_places__36 rfl (lv_at hl 3 rfl) ?_
          refine callS_i (As := [.long (lN (K2_13 i)), .int (nI b)]) (rest := [.int (nI 1), .int (nI (orN K2_13 b i))]) [] hC hK hN hP hD rfl (by decide) hS (c_X8_placeIn l D cI cJ cB (K2_13 i) b (hei.2.2.2.2.1 i c25).2.1 (by omega)) q813 md_X8_placeIn rfl hl.1 rfl (Nat.le_of_ble_eq_true rfl) dX8_places__37 ⟨Nat.le_of_ble_eq_true rfl, Nat.le_of_ble_eq_true rfl⟩ ⟨Nat.le_of_ble_eq_true rfl, Nat.le_of_ble_eq_true rfl⟩ (fun r_37 w H locs hpost hP hD hS => ?_)
          obtain ⟨rfl, rfl⟩ := hpost
          have hP : va_P D vwCl (mW cI cJ cB o kv kp kx kl kh ki kf kq ka kt kd kn (nI mpm) (nI mty) (nI mwi) (nI mhi) (nI mwa) (nI mle) (gI none) (nI n2_13) (bI tm2_13) (nI mli) (vF wd hd nb wl st sl gl aq lb sh bw bh ps) mpa (fun zz => nI (mtx zz)) (fun zz => nI (mlt zz)) (fun zz => nI (mha zz)) (fun zz => nI (mfi zz)) (fun zz => oI (mfa zz)) (fun zz => nI (mqu zz)) (fun zz => lN (K2_13 zz)) (fun zz => nI (T2_13 zz)) (fun zz => oI (mdi zz)) (fun zz => nI (mln zz))) H := hP
          have hD : va_D A (mW cI cJ cB o kv kp kx kl kh ki kf kq ka kt kd kn (nI mpm) (nI mty) (nI mwi) (nI mhi) (nI mwa) (nI mle) (gI none) (nI n2_13) (bI tm2_13) (nI mli) (vF wd hd nb wl st sl gl aq lb sh bw bh ps) mpa (fun zz => nI (mtx zz)) (fun zz => nI (mlt zz)) (fun zz => nI (mha zz)) (fun zz => nI (mfi zz)) (fun zz => oI (mfa zz)) (fun zz => nI (mqu zz)) (fun zz => lN (K2_13 zz)) (fun zz => nI (T2_13 zz)) (fun zz => oI (mdi zz)) (fun zz => nI (mln zz))) := hD
          refine n_ishl hx hb dX8_places__40 (by have := plc_lt (K2_13 i) b; omega) ?_
          refine n_ior hx hb dX8_places__41  ?_
          refine topi (y := nI (orN K2_13 b (i + 1))) rfl ?_
          refine lv_istore_n (lv' := [(2, .int (nI (orN K2_13 b (i + 1)))), (3, .int (nI i)), (0, .ref o), (1, .int (nI b))]) hx hb dX8_places__42 rfl hl (by decide) rfl (fun ls hl => ?_)
          refine lv_iinc (v := nI (i + 1)) (lv' := [(3, .int (nI (i + 1))), (2, .int (nI (orN K2_13 b (i + 1)))), (0, .ref o), (1, .int (nI b))]) hx hb dX8_places__43 hl (k := 1) rfl (nI_1 _) (by decide) rfl (fun ls hl => ?_)
          refine lv_goto (tgt := 20) hx hb dX8_places__46 (by decide) ?_
          exact ih20 (i + 1) (by omega) (by omega) _ _ hP hD hS _ (lv_sub hl [1, 0, 2, 3] rfl)
    exact L20 _ 0 (by omega) (Nat.lt_succ_self _) _ _ hP hD hS _ (lv_sub hl [1, 0, 2, 3] rfl)
  · have _ : True := trivial
    refine lv_iconst (v := (-1)) hx hb dX8_places__8 (by decide) ?_
    rw [hQ]
    exact W.iret (v := (-1)) hx hb hr (fun t9 ht hW => ⟨⟨_, _, rfl, ⟨mgo, mal, mam, mta, mtm, mdi, mln, mli, mfa, mqu, (by unfold f_placesx; rw [bOf_none (by omega) c5]), rfl⟩, by rw [ht]; exact hP, rfl⟩, hS.F ht⟩) hS.2.2 dX8_places__9

set_option maxHeartbeats 400000 in
set_option maxRecDepth 100000 in
theorem c_X8_without (l : Launch) (D : va_G) (cI cJ cB : ClassId) (o kv kp kx kl kh ki kf kq ka kt kd kn mpm mty mwi mhi mwa mle mam mli : Nat) (mgo : Option Nat) (mtm : Bool) (mpa : Nat → Int32) (mtx mlt mha mfi mqu mta mln mal : Nat → Nat) (mfa mdi : Nat → Option Nat) (wd hd nb wl : Nat) (st sl : Int32) (gl aq lb : Option Nat) (sh bw bh ps : Nat → Nat) (x : Int32) (z : Bool) (htv : TV wd hd nb wl sh bw bh ps gl aq lb) : Met l yX8_without (Cond.code yX8_without cX8_without 4 (some .int) :: lw_all) (rmN 5) (va_Pc [.ref o, .int x, .int (bI z)] (pB D (tyz cI cJ cB) (mW cI cJ cB o kv kp kx kl kh ki kf kq ka kt kd kn (nI mpm) (nI mty) (nI mwi) (nI mhi) (nI mwa) (nI mle) (gI mgo) (nI mam) (bI mtm) (nI mli) (vF wd hd nb wl st sl gl aq lb sh bw bh ps) mpa (fun zz => nI (mtx zz)) (fun zz => nI (mlt zz)) (fun zz => nI (mha zz)) (fun zz => nI (mfi zz)) (fun zz => oI (mfa zz)) (fun zz => nI (mqu zz)) (fun zz => lN (mal zz)) (fun zz => nI (mta zz)) (fun zz => oI (mdi zz)) (fun zz => nI (mln zz))))) (va_Qi (fun (r : Int32) (w : va_W) => ∃ go2 : Option Nat, ∃ K2 : Nat → Nat, ∃ n2 : Nat, ∃ T2 : Nat → Nat, ∃ tm2 : Bool, ∃ F2 : Nat → Option Nat, ∃ L2 : Nat → Nat, ∃ l2 : Nat, ∃ fa2 : Nat → Option Nat, ∃ qa2 : Nat → Nat, r = f_without wd hd nb wl sh bw bh ps gl aq x z ∧ w = mW cI cJ cB o kv kp kx kl kh ki kf kq ka kt kd kn (nI mpm) (nI mty) (nI mwi) (nI mhi) (nI mwa) (nI mle) (gI go2) (nI n2) (bI tm2) (nI l2) (vF wd hd nb wl st sl gl aq lb sh bw bh ps) mpa (fun zz => nI (mtx zz)) (fun zz => nI (mlt zz)) (fun zz => nI (mha zz)) (fun zz => nI (mfi zz)) (fun zz => oI (fa2 zz)) (fun zz => nI (qa2 zz)) (fun zz => lN (K2 zz)) (fun zz => nI (T2 zz)) (fun zz => oI (F2 zz)) (fun zz => nI (L2 zz))) (gB D (mW cI cJ cB o kv kp kx kl kh ki kf kq ka kt kd kn (nI mpm) (nI mty) (nI mwi) (nI mhi) (nI mwa) (nI mle) (gI mgo) (nI mam) (bI mtm) (nI mli) (vF wd hd nb wl st sl gl aq lb sh bw bh ps) mpa (fun zz => nI (mtx zz)) (fun zz => nI (mlt zz)) (fun zz => nI (mha zz)) (fun zz => nI (mfi zz)) (fun zz => oI (mfa zz)) (fun zz => nI (mqu zz)) (fun zz => lN (mal zz)) (fun zz => nI (mta zz)) (fun zz => oI (mdi zz)) (fun zz => nI (mln zz)))) (aW (mW cI cJ cB o kv kp kx kl kh ki kf kq ka kt kd kn (nI mpm) (nI mty) (nI mwi) (nI mhi) (nI mwa) (nI mle) (gI mgo) (nI mam) (bI mtm) (nI mli) (vF wd hd nb wl st sl gl aq lb sh bw bh ps) mpa (fun zz => nI (mtx zz)) (fun zz => nI (mlt zz)) (fun zz => nI (mha zz)) (fun zz => nI (mfi zz)) (fun zz => oI (mfa zz)) (fun zz => nI (mqu zz)) (fun zz => lN (mal zz)) (fun zz => nI (mta zz)) (fun zz => oI (mdi zz)) (fun zz => nI (mln zz))))) 0 0 (aW (mW cI cJ cB o kv kp kx kl kh ki kf kq ka kt kd kn (nI mpm) (nI mty) (nI mwi) (nI mhi) (nI mwa) (nI mle) (gI mgo) (nI mam) (bI mtm) (nI mli) (vF wd hd nb wl st sl gl aq lb sh bw bh ps) mpa (fun zz => nI (mtx zz)) (fun zz => nI (mlt zz)) (fun zz => nI (mha zz)) (fun zz => nI (mfi zz)) (fun zz => oI (mfa zz)) (fun zz => nI (mqu zz)) (fun zz => lN (mal zz)) (fun zz => nI (mta zz)) (fun zz => oI (mdi zz)) (fun zz => nI (mln zz)))) := by
  refine Met.ofW (cc := cX8_without) (maxL := 4) (ret := (some .int)) (by decide) rfl ?_
  intro p e s m args below meth c s₁ B hml hv
  obtain ⟨rfl, hK, hN, hP, hD0⟩ := hv
  have hx := B.exec; have hb := B.bytes; have hr := B.returns; have hlocks := B.notSynchronized
  have hts0 := atoms_spec (ws := Cond.code yX8_without cX8_without 4 (some .int) :: lw_all) B.pre
  have hC : CallFix p m c cX8_without 4 s _ lw_all RX8 := ⟨hx, hb, hml, findClass_of_methodNamed B.named, fun w h => hts0 w (List.mem_cons_of_mem _ h)⟩
  have hD : va_D (aW (mW cI cJ cB o kv kp kx kl kh ki kf kq ka kt kd kn (nI mpm) (nI mty) (nI mwi) (nI mhi) (nI mwa) (nI mle) (gI mgo) (nI mam) (bI mtm) (nI mli) (vF wd hd nb wl st sl gl aq lb sh bw bh ps) mpa (fun zz => nI (mtx zz)) (fun zz => nI (mlt zz)) (fun zz => nI (mha zz)) (fun zz => nI (mfi zz)) (fun zz => oI (mfa zz)) (fun zz => nI (mqu zz)) (fun zz => lN (mal zz)) (fun zz => nI (mta zz)) (fun zz => oI (mdi zz)) (fun zz => nI (mln zz)))) (mW cI cJ cB o kv kp kx kl kh ki kf kq ka kt kd kn (nI mpm) (nI mty) (nI mwi) (nI mhi) (nI mwa) (nI mle) (gI mgo) (nI mam) (bI mtm) (nI mli) (vF wd hd nb wl st sl gl aq lb sh bw bh ps) mpa (fun zz => nI (mtx zz)) (fun zz => nI (mlt zz)) (fun zz => nI (mha zz)) (fun zz => nI (mfi zz)) (fun zz => oI (mfa zz)) (fun zz => nI (mqu zz)) (fun zz => lN (mal zz)) (fun zz => nI (mta zz)) (fun zz => oI (mdi zz)) (fun zz => nI (mln zz))) := ⟨hD0.1, fun k q h => ⟨k, q.2, h⟩⟩
  generalize hAe : aW (mW cI cJ cB o kv kp kx kl kh ki kf kq ka kt kd kn (nI mpm) (nI mty) (nI mwi) (nI mhi) (nI mwa) (nI mle) (gI mgo) (nI mam) (bI mtm) (nI mli) (vF wd hd nb wl st sl gl aq lb sh bw bh ps) mpa (fun zz => nI (mtx zz)) (fun zz => nI (mlt zz)) (fun zz => nI (mha zz)) (fun zz => nI (mfi zz)) (fun zz => oI (mfa zz)) (fun zz => nI (mqu zz)) (fun zz => lN (mal zz)) (fun zz => nI (mta zz)) (fun zz => oI (mdi zz)) (fun zz => nI (mln zz))) = A at hD ⊢
  have hS : va_S A s.heap s.heap [] := va_S.rf
  have hl := lv_entry ([.ref o, .int x, .int (bI z)]) (n := 4) (Nat.le_of_ble_eq_true rfl)
  rw [lg_entry_eq]
  generalize (lg_sl ([.ref o, .int x, .int (bI z)]) ++ List.replicate (4 - (lg_sl ([.ref o, .int x, .int (bI z)])).length) Slot.unset).toArray = ls at hl ⊢
  have hl : lv_has ls 4 [(0, .ref o), (1, .int x), (2, .int (bI z))] := hl
  generalize hav : ([.ref o, .int x, .int (bI z)] : List Value).toArray = args at hC ⊢
  refine W_gen (fun QQ hQ => ?_)
  show W p l e (rmN 5) s m args below meth c s.heap [] 0 0 QQ (F0 m 0 ls [])
  obtain ⟨hf, hps, hk1, hga, hlb⟩ := id htv
  have hn7 := hf.2.2.2.2.2.1
  have h24 := hf.2.2.2.2.1
  refine lv_aload_n hx hb dX8_without_0 rfl (lv_at hl 0 rfl) ?_
  refine lv_iload_n hx hb dX8_without_1 rfl (lv_at hl 1 rfl) ?_
  refine callV_i (As := [.int x]) (rest := []) [0, 1, 2, 3, 4, 5, 6, 7, 8, 9, 10, 11, 12] hC hK hN hP hD rfl (by decide) hS 0 (ci := 8) rfl rfl rfl (c_X8_isBlock l D cI cJ cB o kv kp kx kl kh ki kf kq ka kt kd kn mpm mty mwi mhi mwa mle mam mli mgo mtm mpa mtx mlt mha mfi mqu mta mln mal mfa mdi wd hd nb wl st sl gl aq lb sh bw bh ps x ) q835 md_X8_isBlock rfl hl.1 rfl (Nat.le_of_ble_eq_true rfl) dX8_without_2 ⟨Nat.le_of_ble_eq_true rfl, Nat.le_of_ble_eq_true rfl⟩ ⟨Nat.le_of_ble_eq_true rfl, Nat.le_of_ble_eq_true rfl⟩ (fun r_2 w H locs hpost hP hD hS => ?_)
  obtain ⟨rfl, rfl⟩ := hpost
  have hP : va_P D vwCl (mW cI cJ cB o kv kp kx kl kh ki kf kq ka kt kd kn (nI mpm) (nI mty) (nI mwi) (nI mhi) (nI mwa) (nI mle) (gI mgo) (nI mam) (bI mtm) (nI mli) (vF wd hd nb wl st sl gl aq lb sh bw bh ps) mpa (fun zz => nI (mtx zz)) (fun zz => nI (mlt zz)) (fun zz => nI (mha zz)) (fun zz => nI (mfi zz)) (fun zz => oI (mfa zz)) (fun zz => nI (mqu zz)) (fun zz => lN (mal zz)) (fun zz => nI (mta zz)) (fun zz => oI (mdi zz)) (fun zz => nI (mln zz))) H := hP
  have hD : va_D A (mW cI cJ cB o kv kp kx kl kh ki kf kq ka kt kd kn (nI mpm) (nI mty) (nI mwi) (nI mhi) (nI mwa) (nI mle) (gI mgo) (nI mam) (bI mtm) (nI mli) (vF wd hd nb wl st sl gl aq lb sh bw bh ps) mpa (fun zz => nI (mtx zz)) (fun zz => nI (mlt zz)) (fun zz => nI (mha zz)) (fun zz => nI (mfi zz)) (fun zz => oI (mfa zz)) (fun zz => nI (mqu zz)) (fun zz => lN (mal zz)) (fun zz => nI (mta zz)) (fun zz => oI (mdi zz)) (fun zz => nI (mln zz))) := hD
  refine b_if_ne (tgt := 10) hx hb dX8_without_5 (by decide) (fun c5 => ?_) (fun c5 => ?_)
  · have _ : True := trivial
    obtain ⟨b, hbn, hxb, hbo⟩ := bOf_some (by omega) c5
    subst hxb
    refine lv_aload_n hx hb dX8_without_10 rfl (lv_at hl 0 rfl) ?_
    refine gf_X8_7 hC hK hP 0 rfl rfl dX8_without_11 ?_
    refine lv_bipush (v := nI 6) hx hb dX8_without_14 (by decide) ?_
    refine n_iald hx hb hK hP 1 0 rfl rfl (by omega) (by decide) dX8_without_16 ?_
    refine topi (y := gI gl) rfl ?_
    refine g_if_lt (x := gl) (tgt := 31) hx hb dX8_without_17 (by decide) (fun d h => by rcases hga with ⟨h1, -⟩ | ⟨g, ap, h1, -, h3, -⟩ <;> rw [h1] at h <;> cases h; omega) (fun c17 => ?_) (fun d17 c17 => ?_)
    · have _ : True := trivial
      refine lv_bipush (v := (-2)) hx hb dX8_without_31 (by decide) ?_
      rw [hQ]
      exact W.iret (v := (-2)) hx hb hr (fun t9 ht hW => ⟨⟨_, _, rfl, ⟨mgo, mal, mam, mta, mtm, mdi, mln, mli, mfa, mqu, (by unfold f_without; rw [hbo, c17]; rfl), rfl⟩, by rw [ht]; exact hP, rfl⟩, hS.F ht⟩) hS.2.2 dX8_without_33
    · have _ : True := trivial
      refine lv_aload_n hx hb dX8_without_20 rfl (lv_at hl 0 rfl) ?_
      refine gf_X8_7 hC hK hP 0 rfl rfl dX8_without_21 ?_
      refine lv_bipush (v := nI 6) hx hb dX8_without_24 (by decide) ?_
      refine n_iald hx hb hK hP 1 0 rfl rfl (by omega) (by decide) dX8_without_26 ?_
      refine topi (y := gI gl) rfl ?_
      refine lv_iload_n hx hb dX8_without_27 rfl (lv_at hl 1 rfl) ?_
      refine g_icmp_ne2 (a := b) (x := gl) (tgt := 34) hx hb dX8_without_28 (by decide) (by omega) (fun d h => by rcases hga with ⟨h1, -⟩ | ⟨g, ap, h1, -, h3, -⟩ <;> rw [h1] at h <;> cases h; omega) (fun c28 => ?_) (fun c28 => ?_)
      · have _ : True := trivial
        refine lv_aload_n hx hb dX8_without_34 rfl (lv_at hl 0 rfl) ?_
        refine lv_iload_n hx hb dX8_without_35 rfl (lv_at hl 2 rfl) ?_
        refine lv_iload_n hx hb dX8_without_36 rfl (lv_at hl 1 rfl) ?_
        refine callV_i (As := [.int (bI z), .int (nI b)]) (rest := []) [0, 1, 2, 3, 4, 5, 6, 7, 8, 9, 10, 11, 12] hC hK hN hP hD rfl (by decide) hS 0 (ci := 8) rfl rfl rfl (c_X8_opens l D cI cJ cB o kv kp kx kl kh ki kf kq ka kt kd kn mpm mty mwi mhi mwa mle mam mli mgo mtm mpa mtx mlt mha mfi mqu mta mln mal mfa mdi wd hd nb wl st sl gl aq lb sh bw bh ps z (some b) htv (fun d h => by cases h; exact hbn) (fun d h h2 => by cases h2; exact c28 h) (KV_out hn7 hbn hk1)) q904 md_X8_opens rfl hl.1 rfl (Nat.le_of_ble_eq_true rfl) dX8_without_37 ⟨Nat.le_of_ble_eq_true rfl, Nat.le_of_ble_eq_true rfl⟩ ⟨Nat.le_of_ble_eq_true rfl, Nat.le_of_ble_eq_true rfl⟩ (fun r_37 w H locs hpost hP hD hS => ?_)
        obtain ⟨go2_37, K2_37, n2_37, T2_37, tm2_37, F2_37, L2_37, l2_37, fa2_37, qa2_37, rfl, hop, h37_og⟩ := hpost
        have hP : va_P D vwCl (mW cI cJ cB o kv kp kx kl kh ki kf kq ka kt kd kn (nI mpm) (nI mty) (nI mwi) (nI mhi) (nI mwa) (nI mle) (gI go2_37) (nI n2_37) (bI tm2_37) (nI l2_37) (vF wd hd nb wl st sl gl aq lb sh bw bh ps) mpa (fun zz => nI (mtx zz)) (fun zz => nI (mlt zz)) (fun zz => nI (mha zz)) (fun zz => nI (mfi zz)) (fun zz => oI (fa2_37 zz)) (fun zz => nI (qa2_37 zz)) (fun zz => lN (K2_37 zz)) (fun zz => nI (T2_37 zz)) (fun zz => oI (F2_37 zz)) (fun zz => nI (L2_37 zz))) H := hP
        have hD : va_D A (mW cI cJ cB o kv kp kx kl kh ki kf kq ka kt kd kn (nI mpm) (nI mty) (nI mwi) (nI mhi) (nI mwa) (nI mle) (gI go2_37) (nI n2_37) (bI tm2_37) (nI l2_37) (vF wd hd nb wl st sl gl aq lb sh bw bh ps) mpa (fun zz => nI (mtx zz)) (fun zz => nI (mlt zz)) (fun zz => nI (mha zz)) (fun zz => nI (mfi zz)) (fun zz => oI (fa2_37 zz)) (fun zz => nI (qa2_37 zz)) (fun zz => lN (K2_37 zz)) (fun zz => nI (T2_37 zz)) (fun zz => oI (F2_37 zz)) (fun zz => nI (L2_37 zz))) := hD
        refine lv_istore_n (lv' := [(3, .int r_37), (0, .ref o), (1, .int (nI b)), (2, .int (bI z))]) hx hb dX8_without_40 rfl hl (by decide) rfl (fun ls hl => ?_)
        refine lv_iload_n hx hb dX8_without_41 rfl (lv_at hl 0 rfl) ?_
        refine lv_if_ne (tgt := 54) hx hb dX8_without_42 (by decide) (fun c42 => ?_) (fun c42 => ?_)
        · have _ : True := trivial
          refine lv_iload_n hx hb dX8_without_54 rfl (lv_at hl 0 rfl) ?_
          rw [hQ]
          exact W.iret (v := r_37) hx hb hr (fun t9 ht hW => ⟨⟨_, _, rfl, ⟨go2_37, K2_37, n2_37, T2_37, tm2_37, F2_37, L2_37, l2_37, fa2_37, qa2_37, (by unfold f_without; rw [hbo]; show _ = if gl = some b then -2 else _; rw [if_neg c28]; exact dist_bad hop c42), rfl⟩, by rw [ht]; exact hP, rfl⟩, hS.F ht⟩) hS.2.2 dX8_without_55
        · have _ : True := trivial
          have hog := OPN_good hf (KV_out hn7 hbn hk1) hop c42
          refine lv_aload_n hx hb dX8_without_45 rfl (lv_at hl 1 rfl) ?_
          refine gf_X8_45 hC hK hP 0 rfl rfl dX8_without_46 ?_
          refine lv_iconst (v := nI 0) hx hb dX8_without_49 (by decide) ?_
          refine n_iald hx hb hK hP 11 0 rfl rfl (by omega) (by decide) dX8_without_50 ?_
          refine lv_goto (tgt := 55) hx hb dX8_without_51 (by decide) ?_
          rw [hQ]
          exact W.iret (v := oI (F2_37 0)) hx hb hr (fun t9 ht hW => ⟨⟨_, _, rfl, ⟨go2_37, K2_37, n2_37, T2_37, tm2_37, F2_37, L2_37, l2_37, fa2_37, qa2_37, (by unfold f_without; rw [hbo]; show _ = if gl = some b then -2 else _; rw [if_neg c28]; exact dist_good hog), rfl⟩, by rw [ht]; exact hP, rfl⟩, hS.F ht⟩) hS.2.2 dX8_without_55
      · have _ : True := trivial
        refine lv_bipush (v := (-2)) hx hb dX8_without_31 (by decide) ?_
        rw [hQ]
        exact W.iret (v := (-2)) hx hb hr (fun t9 ht hW => ⟨⟨_, _, rfl, ⟨mgo, mal, mam, mta, mtm, mdi, mln, mli, mfa, mqu, (by unfold f_without; rw [hbo]; show -2 = if gl = some b then -2 else _; rw [if_pos c28]), rfl⟩, by rw [ht]; exact hP, rfl⟩, hS.F ht⟩) hS.2.2 dX8_without_33
  · have _ : True := trivial
    refine lv_iconst (v := (-1)) hx hb dX8_without_8 (by decide) ?_
    rw [hQ]
    exact W.iret (v := (-1)) hx hb hr (fun t9 ht hW => ⟨⟨_, _, rfl, ⟨mgo, mal, mam, mta, mtm, mdi, mln, mli, mfa, mqu, (by unfold f_without; rw [bOf_none (by omega) c5]), rfl⟩, by rw [ht]; exact hP, rfl⟩, hS.F ht⟩) hS.2.2 dX8_without_9

set_option maxHeartbeats 400000 in
set_option maxRecDepth 100000 in
theorem c_X8_hinted (l : Launch) (D : va_G) (cI cJ cB : ClassId) (o kv kp kx kl kh ki kf kq ka kt kd kn mpm mty mwi mhi mwa mle mam mli : Nat) (mgo : Option Nat) (mtm : Bool) (mpa : Nat → Int32) (mtx mlt mha mfi mqu mta mln mal : Nat → Nat) (mfa mdi : Nat → Option Nat) (wd hd nb wl : Nat) (st sl : Int32) (gl aq lb : Option Nat) (sh bw bh ps : Nat → Nat) (z : Bool) (htv : TV wd hd nb wl sh bw bh ps gl aq lb) : Met l yX8_hinted (Cond.code yX8_hinted cX8_hinted 5 (some .int) :: lw_all) (rmN 5) (va_Pc [.ref o, .int (bI z)] (pB D (tyz cI cJ cB) (mW cI cJ cB o kv kp kx kl kh ki kf kq ka kt kd kn (nI mpm) (nI mty) (nI mwi) (nI mhi) (nI mwa) (nI mle) (gI mgo) (nI mam) (bI mtm) (nI mli) (vF wd hd nb wl st sl gl aq lb sh bw bh ps) mpa (fun zz => nI (mtx zz)) (fun zz => nI (mlt zz)) (fun zz => nI (mha zz)) (fun zz => nI (mfi zz)) (fun zz => oI (mfa zz)) (fun zz => nI (mqu zz)) (fun zz => lN (mal zz)) (fun zz => nI (mta zz)) (fun zz => oI (mdi zz)) (fun zz => nI (mln zz))))) (va_Qi (fun (r : Int32) (w : va_W) => ∃ go2 : Option Nat, ∃ K2 : Nat → Nat, ∃ n2 : Nat, ∃ T2 : Nat → Nat, ∃ tm2 : Bool, ∃ F2 : Nat → Option Nat, ∃ L2 : Nat → Nat, ∃ l2 : Nat, ∃ fa2 : Nat → Option Nat, ∃ qa2 : Nat → Nat, w = mW cI cJ cB o kv kp kx kl kh ki kf kq ka kt kd kn (nI mpm) (nI mty) (nI mwi) (nI mhi) (nI mwa) (nI mle) (gI go2) (nI n2) (bI tm2) (nI l2) (vF wd hd nb wl st sl gl aq lb sh bw bh ps) mpa (fun zz => nI (mtx zz)) (fun zz => nI (mlt zz)) (fun zz => nI (mha zz)) (fun zz => nI (mfi zz)) (fun zz => oI (fa2 zz)) (fun zz => nI (qa2 zz)) (fun zz => lN (K2 zz)) (fun zz => nI (T2 zz)) (fun zz => oI (F2 zz)) (fun zz => nI (L2 zz)) ∧ HIN wd hd nb wl sh bw bh ps gl aq z r F2 fa2) (gB D (mW cI cJ cB o kv kp kx kl kh ki kf kq ka kt kd kn (nI mpm) (nI mty) (nI mwi) (nI mhi) (nI mwa) (nI mle) (gI mgo) (nI mam) (bI mtm) (nI mli) (vF wd hd nb wl st sl gl aq lb sh bw bh ps) mpa (fun zz => nI (mtx zz)) (fun zz => nI (mlt zz)) (fun zz => nI (mha zz)) (fun zz => nI (mfi zz)) (fun zz => oI (mfa zz)) (fun zz => nI (mqu zz)) (fun zz => lN (mal zz)) (fun zz => nI (mta zz)) (fun zz => oI (mdi zz)) (fun zz => nI (mln zz)))) (aW (mW cI cJ cB o kv kp kx kl kh ki kf kq ka kt kd kn (nI mpm) (nI mty) (nI mwi) (nI mhi) (nI mwa) (nI mle) (gI mgo) (nI mam) (bI mtm) (nI mli) (vF wd hd nb wl st sl gl aq lb sh bw bh ps) mpa (fun zz => nI (mtx zz)) (fun zz => nI (mlt zz)) (fun zz => nI (mha zz)) (fun zz => nI (mfi zz)) (fun zz => oI (mfa zz)) (fun zz => nI (mqu zz)) (fun zz => lN (mal zz)) (fun zz => nI (mta zz)) (fun zz => oI (mdi zz)) (fun zz => nI (mln zz))))) 0 0 (aW (mW cI cJ cB o kv kp kx kl kh ki kf kq ka kt kd kn (nI mpm) (nI mty) (nI mwi) (nI mhi) (nI mwa) (nI mle) (gI mgo) (nI mam) (bI mtm) (nI mli) (vF wd hd nb wl st sl gl aq lb sh bw bh ps) mpa (fun zz => nI (mtx zz)) (fun zz => nI (mlt zz)) (fun zz => nI (mha zz)) (fun zz => nI (mfi zz)) (fun zz => oI (mfa zz)) (fun zz => nI (mqu zz)) (fun zz => lN (mal zz)) (fun zz => nI (mta zz)) (fun zz => oI (mdi zz)) (fun zz => nI (mln zz)))) := by
  refine Met.ofW (cc := cX8_hinted) (maxL := 5) (ret := (some .int)) (by decide) rfl ?_
  intro p e s m args below meth c s₁ B hml hv
  obtain ⟨rfl, hK, hN, hP, hD0⟩ := hv
  have hx := B.exec; have hb := B.bytes; have hr := B.returns; have hlocks := B.notSynchronized
  have hts0 := atoms_spec (ws := Cond.code yX8_hinted cX8_hinted 5 (some .int) :: lw_all) B.pre
  have hC : CallFix p m c cX8_hinted 5 s _ lw_all RX8 := ⟨hx, hb, hml, findClass_of_methodNamed B.named, fun w h => hts0 w (List.mem_cons_of_mem _ h)⟩
  have hD : va_D (aW (mW cI cJ cB o kv kp kx kl kh ki kf kq ka kt kd kn (nI mpm) (nI mty) (nI mwi) (nI mhi) (nI mwa) (nI mle) (gI mgo) (nI mam) (bI mtm) (nI mli) (vF wd hd nb wl st sl gl aq lb sh bw bh ps) mpa (fun zz => nI (mtx zz)) (fun zz => nI (mlt zz)) (fun zz => nI (mha zz)) (fun zz => nI (mfi zz)) (fun zz => oI (mfa zz)) (fun zz => nI (mqu zz)) (fun zz => lN (mal zz)) (fun zz => nI (mta zz)) (fun zz => oI (mdi zz)) (fun zz => nI (mln zz)))) (mW cI cJ cB o kv kp kx kl kh ki kf kq ka kt kd kn (nI mpm) (nI mty) (nI mwi) (nI mhi) (nI mwa) (nI mle) (gI mgo) (nI mam) (bI mtm) (nI mli) (vF wd hd nb wl st sl gl aq lb sh bw bh ps) mpa (fun zz => nI (mtx zz)) (fun zz => nI (mlt zz)) (fun zz => nI (mha zz)) (fun zz => nI (mfi zz)) (fun zz => oI (mfa zz)) (fun zz => nI (mqu zz)) (fun zz => lN (mal zz)) (fun zz => nI (mta zz)) (fun zz => oI (mdi zz)) (fun zz => nI (mln zz))) := ⟨hD0.1, fun k q h => ⟨k, q.2, h⟩⟩
  generalize hAe : aW (mW cI cJ cB o kv kp kx kl kh ki kf kq ka kt kd kn (nI mpm) (nI mty) (nI mwi) (nI mhi) (nI mwa) (nI mle) (gI mgo) (nI mam) (bI mtm) (nI mli) (vF wd hd nb wl st sl gl aq lb sh bw bh ps) mpa (fun zz => nI (mtx zz)) (fun zz => nI (mlt zz)) (fun zz => nI (mha zz)) (fun zz => nI (mfi zz)) (fun zz => oI (mfa zz)) (fun zz => nI (mqu zz)) (fun zz => lN (mal zz)) (fun zz => nI (mta zz)) (fun zz => oI (mdi zz)) (fun zz => nI (mln zz))) = A at hD ⊢
  have hS : va_S A s.heap s.heap [] := va_S.rf
  have hl := lv_entry ([.ref o, .int (bI z)]) (n := 5) (Nat.le_of_ble_eq_true rfl)
  rw [lg_entry_eq]
  generalize (lg_sl ([.ref o, .int (bI z)]) ++ List.replicate (5 - (lg_sl ([.ref o, .int (bI z)])).length) Slot.unset).toArray = ls at hl ⊢
  have hl : lv_has ls 5 [(0, .ref o), (1, .int (bI z))] := hl
  generalize hav : ([.ref o, .int (bI z)] : List Value).toArray = args at hC ⊢
  refine W_gen (fun QQ hQ => ?_)
  show W p l e (rmN 5) s m args below meth c s.heap [] 0 0 QQ (F0 m 0 ls [])
  obtain ⟨hf, hps, hk1, hga, hlb⟩ := id htv
  have hn7 := hf.2.2.2.2.2.1
  have h24 := hf.2.2.2.2.1
  refine lv_aload_n hx hb dX8_hinted_0 rfl (lv_at hl 0 rfl) ?_
  refine lv_iload_n hx hb dX8_hinted_1 rfl (lv_at hl 1 rfl) ?_
  refine lv_bipush (v := (-9)) hx hb dX8_hinted_2 (by decide) ?_
  refine callV_i (As := [.int (bI z), .int (-9)]) (rest := []) [0, 1, 2, 3, 4, 5, 6, 7, 8, 9, 10, 11, 12] hC hK hN hP hD rfl (by decide) hS 0 (ci := 8) rfl rfl rfl (c_X8_opens l D cI cJ cB o kv kp kx kl kh ki kf kq ka kt kd kn mpm mty mwi mhi mwa mle mam mli mgo mtm mpa mtx mlt mha mfi mqu mta mln mal mfa mdi wd hd nb wl st sl gl aq lb sh bw bh ps z none htv (fun d h => by cases h) (fun d _ h => by cases h) hk1) q904 md_X8_opens rfl hl.1 rfl (Nat.le_of_ble_eq_true rfl) dX8_hinted_4 ⟨Nat.le_of_ble_eq_true rfl, Nat.le_of_ble_eq_true rfl⟩ ⟨Nat.le_of_ble_eq_true rfl, Nat.le_of_ble_eq_true rfl⟩ (fun r_4 w H locs hpost hP hD hS => ?_)
  obtain ⟨go2_4, K2_4, n2_4, T2_4, tm2_4, F2_4, L2_4, l2_4, fa2_4, qa2_4, rfl, hop, hog4⟩ := hpost
  have hP : va_P D vwCl (mW cI cJ cB o kv kp kx kl kh ki kf kq ka kt kd kn (nI mpm) (nI mty) (nI mwi) (nI mhi) (nI mwa) (nI mle) (gI go2_4) (nI n2_4) (bI tm2_4) (nI l2_4) (vF wd hd nb wl st sl gl aq lb sh bw bh ps) mpa (fun zz => nI (mtx zz)) (fun zz => nI (mlt zz)) (fun zz => nI (mha zz)) (fun zz => nI (mfi zz)) (fun zz => oI (fa2_4 zz)) (fun zz => nI (qa2_4 zz)) (fun zz => lN (K2_4 zz)) (fun zz => nI (T2_4 zz)) (fun zz => oI (F2_4 zz)) (fun zz => nI (L2_4 zz))) H := hP
  have hD : va_D A (mW cI cJ cB o kv kp kx kl kh ki kf kq ka kt kd kn (nI mpm) (nI mty) (nI mwi) (nI mhi) (nI mwa) (nI mle) (gI go2_4) (nI n2_4) (bI tm2_4) (nI l2_4) (vF wd hd nb wl st sl gl aq lb sh bw bh ps) mpa (fun zz => nI (mtx zz)) (fun zz => nI (mlt zz)) (fun zz => nI (mha zz)) (fun zz => nI (mfi zz)) (fun zz => oI (fa2_4 zz)) (fun zz => nI (qa2_4 zz)) (fun zz => lN (K2_4 zz)) (fun zz => nI (T2_4 zz)) (fun zz => oI (F2_4 zz)) (fun zz => nI (L2_4 zz))) := hD
  refine lv_istore_n (lv' := [(2, .int r_4), (0, .ref o), (1, .int (bI z))]) hx hb dX8_hinted_7 rfl hl (by decide) rfl (fun ls hl => ?_)
  refine lv_iload_n hx hb dX8_hinted_8 rfl (lv_at hl 0 rfl) ?_
  refine lv_if_eq (tgt := 14) hx hb dX8_hinted_9 (by decide) (fun c9 => ?_) (fun c9 => ?_)
  · have _ : True := trivial
    have hog := OPN_good hf hk1 hop c9
    obtain ⟨g, ap, hgl, haq, b1, b2, b3, b4, b5, b6, b7, b8, b9, b10⟩ := id hog
    obtain ⟨d0, hd0, hd1⟩ := b10 0 (by omega)
    have hk00 : (keyF K2_4 n2_4 (cF n2_4 F2_4)) (pkey ps nb) = F2_4 0 := by rw [← b4, keyF_at (by omega) b1.2.1, cF_lt (by omega)]
    have hgo4 : go2_4 = none := hog4 (by rw [hgl]; exact fun h => by cases h)
    refine lv_iconst (v := nI 0) hx hb dX8_hinted_14 (by decide) ?_
    refine lv_istore_n (lv' := [(3, .int (nI 0)), (2, .int r_4), (0, .ref o), (1, .int (bI z))]) hx hb dX8_hinted_15 rfl hl (by decide) rfl (fun ls hl => ?_)
    have L16 : ∀ (n : Nat) (b : Nat) (Fa : Nat → Option Nat) (Qa : Nat → Nat), (b ≤ nb) → (∀ c, c < b → ∀ q, ¬ okmv nb (flo wd hd nb wl sh bw bh none (pkey ps nb)) z (pkey ps nb) (keyF K2_4 n2_4 (cF n2_4 F2_4)) c q) → (nb - b) < n → ∀ (H : Heap) (locs : List Loc), va_P D vwCl (mW cI cJ cB o kv kp kx kl kh ki kf kq ka kt kd kn (nI mpm) (nI mty) (nI mwi) (nI mhi) (nI mwa) (nI mle) (gI go2_4) (nI n2_4) (bI tm2_4) (nI l2_4) (vF wd hd nb wl st sl gl aq lb sh bw bh ps) mpa (fun zz => nI (mtx zz)) (fun zz => nI (mlt zz)) (fun zz => nI (mha zz)) (fun zz => nI (mfi zz)) (fun zz => oI (Fa zz)) (fun zz => nI (Qa zz)) (fun zz => lN (K2_4 zz)) (fun zz => nI (T2_4 zz)) (fun zz => oI (F2_4 zz)) (fun zz => nI (L2_4 zz))) H → va_D A (mW cI cJ cB o kv kp kx kl kh ki kf kq ka kt kd kn (nI mpm) (nI mty) (nI mwi) (nI mhi) (nI mwa) (nI mle) (gI go2_4) (nI n2_4) (bI tm2_4) (nI l2_4) (vF wd hd nb wl st sl gl aq lb sh bw bh ps) mpa (fun zz => nI (mtx zz)) (fun zz => nI (mlt zz)) (fun zz => nI (mha zz)) (fun zz => nI (mfi zz)) (fun zz => oI (Fa zz)) (fun zz => nI (Qa zz)) (fun zz => lN (K2_4 zz)) (fun zz => nI (T2_4 zz)) (fun zz => oI (F2_4 zz)) (fun zz => nI (L2_4 zz))) → va_S A s.heap H locs → ∀ ls : Array Slot, lv_has ls 5 [(3, .int (nI b)), (2, .int r_4), (0, .ref o), (1, .int (bI z))] → W p l e (rmN 5) s m args below meth c H locs 0 0 QQ (F0 m 16 ls []) := by
      intro n; induction n with
      | zero => intro b Fa Qa ib i1 hm; exact absurd hm (Nat.not_lt_zero _)
      | succ n ih16 =>
        intro b Fa Qa ib i1 hm16 H locs hP hD hS ls hl
        refine lv_iload_n hx hb dX8_hinted_16 rfl (lv_at hl 0 rfl) ?_
        refine lv_aload_n hx hb dX8_hinted_17 rfl (lv_at hl 2 rfl) ?_
        refine gf_X8_7 hC hK hP 0 rfl rfl dX8_hinted_18 ?_
        refine lv_iconst (v := nI 2) hx hb dX8_hinted_21 (by decide) ?_
        refine n_iald hx hb hK hP 1 0 rfl rfl (by omega) (by decide) dX8_hinted_22 ?_
        refine topi (y := nI nb) rfl ?_
        refine n_icmp_ge (a := b) (b := nb) (tgt := 118) hx hb dX8_hinted_23 (by decide) (by omega) (by omega) (fun c23 => ?_) (fun c23 => ?_)
        · have _ : True := trivial
          have e23 : b = nb := by omega
          refine lv_bipush (v := (-9)) hx hb dX8_hinted_118 (by decide) ?_
          have hrh := hint_good hog (fl := (flo wd hd nb wl sh bw bh none (pkey ps nb))) (o := none) (Or.inl ⟨fun b9 q9 h9 => i1 b9 (by have := h9.1; omega) q9 h9, rfl⟩)
          rw [hQ]
          exact W.iret (v := (-9)) hx hb hr (fun t9 ht hW => ⟨⟨_, _, rfl, ⟨go2_4, K2_4, n2_4, T2_4, tm2_4, F2_4, L2_4, l2_4, Fa, Qa, rfl, ⟨by unfold f_hintx; rw [hrh]; rfl, Or.inl ⟨by decide, fun p h9 => by unfold f_hintx at h9; rw [hrh] at h9; cases h9⟩⟩⟩, by rw [ht]; exact hP, rfl⟩, hS.F ht⟩) hS.2.2 dX8_hinted_120
        · have _ : True := trivial
          refine lv_aload_n hx hb dX8_hinted_26 rfl (lv_at hl 2 rfl) ?_
          refine lv_aload_n hx hb dX8_hinted_27 rfl (lv_at hl 2 rfl) ?_
          refine gf_X8_38 hC hK hP 0 rfl rfl dX8_hinted_28 ?_
          refine lv_iconst (v := nI 0) hx hb dX8_hinted_31 (by decide) ?_
          refine n_lald hx hb hK hP 9 1 rfl rfl (by omega) (by decide) dX8_hinted_32 ?_
          refine topl (y := lN (pkey ps nb)) (by rw [b4]) ?_
          refine lv_iload_n hx hb dX8_hinted_33 rfl (lv_at hl 0 rfl) ?_
          refine callV_v (As := [.long (lN (pkey ps nb)), .int (nI b)]) (rest := []) [0, 1, 2, 3, 4, 5, 6, 7, 8, 9, 10, 11, 12] hC hK hN hP hD rfl (by decide) hS 0 (ci := 8) rfl rfl rfl (c_X8_floods l D cI cJ cB o kv kp kx kl kh ki kf kq ka kt kd kn mpm mty mwi mhi mwa mle n2_4 l2_4 go2_4 tm2_4 mpa mtx mlt mha mfi Qa T2_4 L2_4 K2_4 Fa F2_4 wd hd nb wl st sl gl aq lb sh bw bh ps (pkey ps nb) b hf (by rw [hgo4]; exact hk1) (fun d h => by rw [hgo4] at h; cases h) c23 (by rw [hgo4]; exact fun h => by cases h)) q843 md_X8_floods rfl hl.1 rfl (Nat.le_of_ble_eq_true rfl) dX8_hinted_34 ⟨Nat.le_of_ble_eq_true rfl, Nat.le_of_ble_eq_true rfl⟩ ⟨Nat.le_of_ble_eq_true rfl, Nat.le_of_ble_eq_true rfl⟩ (fun w H locs hpost hP hD hS => ?_)
          obtain ⟨F2_34, Q2_34, rfl, hfl, hfb⟩ := hpost
          have hP : va_P D vwCl (mW cI cJ cB o kv kp kx kl kh ki kf kq ka kt kd kn (nI mpm) (nI mty) (nI mwi) (nI mhi) (nI mwa) (nI mle) (gI go2_4) (nI n2_4) (bI tm2_4) (nI l2_4) (vF wd hd nb wl st sl gl aq lb sh bw bh ps) mpa (fun zz => nI (mtx zz)) (fun zz => nI (mlt zz)) (fun zz => nI (mha zz)) (fun zz => nI (mfi zz)) (fun zz => oI (F2_34 zz)) (fun zz => nI (Q2_34 zz)) (fun zz => lN (K2_4 zz)) (fun zz => nI (T2_4 zz)) (fun zz => oI (F2_4 zz)) (fun zz => nI (L2_4 zz))) H := hP
          have hD : va_D A (mW cI cJ cB o kv kp kx kl kh ki kf kq ka kt kd kn (nI mpm) (nI mty) (nI mwi) (nI mhi) (nI mwa) (nI mle) (gI go2_4) (nI n2_4) (bI tm2_4) (nI l2_4) (vF wd hd nb wl st sl gl aq lb sh bw bh ps) mpa (fun zz => nI (mtx zz)) (fun zz => nI (mlt zz)) (fun zz => nI (mha zz)) (fun zz => nI (mfi zz)) (fun zz => oI (F2_34 zz)) (fun zz => nI (Q2_34 zz)) (fun zz => lN (K2_4 zz)) (fun zz => nI (T2_4 zz)) (fun zz => oI (F2_4 zz)) (fun zz => nI (L2_4 zz))) := hD
          rw [hgo4] at hfl
          have hfl34 := flo_eq hfl
          refine lv_iconst (v := nI 0) hx hb dX8_hinted_37 (by decide) ?_
          refine lv_istore (lv' := [(4, .int (nI 0)), (3, .int (nI b)), (2, .int r_4), (0, .ref o), (1, .int (bI z))]) hx hb dX8_hinted_38 hl (by decide) rfl (fun ls hl => ?_)
          have L40 : ∀ (n : Nat) (q : Nat), (q ≤ wd * hd) → (∀ y, y < q → ¬ okmv nb (flo wd hd nb wl sh bw bh none (pkey ps nb)) z (pkey ps nb) (keyF K2_4 n2_4 (cF n2_4 F2_4)) b y) → (wd * hd - q) < n → ∀ (H : Heap) (locs : List Loc), va_P D vwCl (mW cI cJ cB o kv kp kx kl kh ki kf kq ka kt kd kn (nI mpm) (nI mty) (nI mwi) (nI mhi) (nI mwa) (nI mle) (gI go2_4) (nI n2_4) (bI tm2_4) (nI l2_4) (vF wd hd nb wl st sl gl aq lb sh bw bh ps) mpa (fun zz => nI (mtx zz)) (fun zz => nI (mlt zz)) (fun zz => nI (mha zz)) (fun zz => nI (mfi zz)) (fun zz => oI (F2_34 zz)) (fun zz => nI (Q2_34 zz)) (fun zz => lN (K2_4 zz)) (fun zz => nI (T2_4 zz)) (fun zz => oI (F2_4 zz)) (fun zz => nI (L2_4 zz))) H → va_D A (mW cI cJ cB o kv kp kx kl kh ki kf kq ka kt kd kn (nI mpm) (nI mty) (nI mwi) (nI mhi) (nI mwa) (nI mle) (gI go2_4) (nI n2_4) (bI tm2_4) (nI l2_4) (vF wd hd nb wl st sl gl aq lb sh bw bh ps) mpa (fun zz => nI (mtx zz)) (fun zz => nI (mlt zz)) (fun zz => nI (mha zz)) (fun zz => nI (mfi zz)) (fun zz => oI (F2_34 zz)) (fun zz => nI (Q2_34 zz)) (fun zz => lN (K2_4 zz)) (fun zz => nI (T2_4 zz)) (fun zz => oI (F2_4 zz)) (fun zz => nI (L2_4 zz))) → va_S A s.heap H locs → ∀ ls : Array Slot, lv_has ls 5 [(4, .int (nI q)), (3, .int (nI b)), (2, .int r_4), (0, .ref o), (1, .int (bI z))] → W p l e (rmN 5) s m args below meth c H locs 0 0 QQ (F0 m 40 ls []) := by
            intro n; induction n with
            | zero => intro q iq i2 hm; exact absurd hm (Nat.not_lt_zero _)
            | succ n ih40 =>
              intro q iq i2 hm40 H locs hP hD hS ls hl
              refine lv_iload hx hb dX8_hinted_40 (lv_at hl 0 rfl) ?_
              refine lv_aload_n hx hb dX8_hinted_42 rfl (lv_at hl 3 rfl) ?_
              refine callV_i (As := []) (rest := [.int (nI q)]) [0, 1, 2, 3, 4, 5, 6, 7, 8, 9, 10, 11, 12] hC hK hN hP hD rfl (by decide) hS 0 (ci := 8) rfl rfl rfl (c_X8_cells l D cI cJ cB o kv kp kx kl kh ki kf kq ka kt kd kn mpm mty mwi mhi mwa mle n2_4 l2_4 go2_4 tm2_4 mpa mtx mlt mha mfi Q2_34 T2_4 L2_4 K2_4 F2_34 F2_4 wd hd nb wl st sl gl aq lb sh bw bh ps ) q796 md_X8_cells rfl hl.1 rfl (Nat.le_of_ble_eq_true rfl) dX8_hinted_43 ⟨Nat.le_of_ble_eq_true rfl, Nat.le_of_ble_eq_true rfl⟩ ⟨Nat.le_of_ble_eq_true rfl, Nat.le_of_ble_eq_true rfl⟩ (fun r_43 w H locs hpost hP hD hS => ?_)
              obtain ⟨rfl, rfl⟩ := hpost
              have hP : va_P D vwCl (mW cI cJ cB o kv kp kx kl kh ki kf kq ka kt kd kn (nI mpm) (nI mty) (nI mwi) (nI mhi) (nI mwa) (nI mle) (gI go2_4) (nI n2_4) (bI tm2_4) (nI l2_4) (vF wd hd nb wl st sl gl aq lb sh bw bh ps) mpa (fun zz => nI (mtx zz)) (fun zz => nI (mlt zz)) (fun zz => nI (mha zz)) (fun zz => nI (mfi zz)) (fun zz => oI (F2_34 zz)) (fun zz => nI (Q2_34 zz)) (fun zz => lN (K2_4 zz)) (fun zz => nI (T2_4 zz)) (fun zz => oI (F2_4 zz)) (fun zz => nI (L2_4 zz))) H := hP
              have hD : va_D A (mW cI cJ cB o kv kp kx kl kh ki kf kq ka kt kd kn (nI mpm) (nI mty) (nI mwi) (nI mhi) (nI mwa) (nI mle) (gI go2_4) (nI n2_4) (bI tm2_4) (nI l2_4) (vF wd hd nb wl st sl gl aq lb sh bw bh ps) mpa (fun zz => nI (mtx zz)) (fun zz => nI (mlt zz)) (fun zz => nI (mha zz)) (fun zz => nI (mfi zz)) (fun zz => oI (F2_34 zz)) (fun zz => nI (Q2_34 zz)) (fun zz => lN (K2_4 zz)) (fun zz => nI (T2_4 zz)) (fun zz => oI (F2_4 zz)) (fun zz => nI (L2_4 zz))) := hD
              refine n_icmp_ge (a := q) (b := wd * hd) (tgt := 112) hx hb dX8_hinted_46 (by decide) (by omega) (by omega) (fun c46 => ?_) (fun c46 => ?_)
              · have _ : True := trivial
                have e46 : q = wd * hd := by omega
                refine lv_iinc (v := nI (b + 1)) (lv' := [(3, .int (nI (b + 1))), (4, .int (nI q)), (2, .int r_4), (0, .ref o), (1, .int (bI z))]) hx hb dX8_hinted_112 hl (k := 1) rfl (nI_1 _) (by decide) rfl (fun ls hl => ?_)
                refine lv_goto (tgt := 16) hx hb dX8_hinted_115 (by decide) ?_
                exact ih16 (b + 1) F2_34 Q2_34 (by omega) (lt_s i1 (fun y h => if hy : y < wd * hd then i2 y (by omega) h else (by have h2 := h.2.1; rw [← hfl34] at h2; obtain ⟨d, h3⟩ := isMv_in h2; exact hy (hfb y d h3).2.1))) (by omega) _ _ hP hD hS _ (lv_sub hl [0, 2, 3, 4] rfl)
              · have _ : True := trivial
                refine lv_aload_n hx hb dX8_hinted_49 rfl (lv_at hl 3 rfl) ?_
                refine lv_iload hx hb dX8_hinted_50 (lv_at hl 0 rfl) ?_
                refine lv_iload_n hx hb dX8_hinted_52 rfl (lv_at hl 4 rfl) ?_
                refine callV_i (As := [.int (nI q), .int (bI z)]) (rest := []) [0, 1, 2, 3, 4, 5, 6, 7, 8, 9, 10, 11, 12] hC hK hN hP hD rfl (by decide) hS 0 (ci := 8) rfl rfl rfl (c_X8_isMove l D cI cJ cB o kv kp kx kl kh ki kf kq ka kt kd kn mpm mty mwi mhi mwa mle n2_4 l2_4 go2_4 tm2_4 mpa mtx mlt mha mfi Q2_34 T2_4 L2_4 K2_4 F2_34 F2_4 wd hd nb wl st sl gl aq lb sh bw bh ps q z (by omega) (fun d h => by have := (hfb q d h).2.2; omega)) q912 md_X8_isMove rfl hl.1 rfl (Nat.le_of_ble_eq_true rfl) dX8_hinted_53 ⟨Nat.le_of_ble_eq_true rfl, Nat.le_of_ble_eq_true rfl⟩ ⟨Nat.le_of_ble_eq_true rfl, Nat.le_of_ble_eq_true rfl⟩ (fun r_53 w H locs hpost hP hD hS => ?_)
                obtain ⟨rfl, rfl⟩ := hpost
                have hP : va_P D vwCl (mW cI cJ cB o kv kp kx kl kh ki kf kq ka kt kd kn (nI mpm) (nI mty) (nI mwi) (nI mhi) (nI mwa) (nI mle) (gI go2_4) (nI n2_4) (bI tm2_4) (nI l2_4) (vF wd hd nb wl st sl gl aq lb sh bw bh ps) mpa (fun zz => nI (mtx zz)) (fun zz => nI (mlt zz)) (fun zz => nI (mha zz)) (fun zz => nI (mfi zz)) (fun zz => oI (F2_34 zz)) (fun zz => nI (Q2_34 zz)) (fun zz => lN (K2_4 zz)) (fun zz => nI (T2_4 zz)) (fun zz => oI (F2_4 zz)) (fun zz => nI (L2_4 zz))) H := hP
                have hD : va_D A (mW cI cJ cB o kv kp kx kl kh ki kf kq ka kt kd kn (nI mpm) (nI mty) (nI mwi) (nI mhi) (nI mwa) (nI mle) (gI go2_4) (nI n2_4) (bI tm2_4) (nI l2_4) (vF wd hd nb wl st sl gl aq lb sh bw bh ps) mpa (fun zz => nI (mtx zz)) (fun zz => nI (mlt zz)) (fun zz => nI (mha zz)) (fun zz => nI (mfi zz)) (fun zz => oI (F2_34 zz)) (fun zz => nI (Q2_34 zz)) (fun zz => lN (K2_4 zz)) (fun zz => nI (T2_4 zz)) (fun zz => oI (F2_4 zz)) (fun zz => nI (L2_4 zz))) := hD
                refine b_if_eq (tgt := 106) hx hb dX8_hinted_56 (by decide) (fun c56 => ?_) (fun c56 => ?_)
                · have _ : True := trivial
                  refine lv_iinc (v := nI (q + 1)) (lv' := [(4, .int (nI (q + 1))), (3, .int (nI b)), (2, .int r_4), (0, .ref o), (1, .int (bI z))]) hx hb dX8_hinted_106 hl (k := 0) rfl (nI_1 _) (by decide) rfl (fun ls hl => ?_)
                  refine lv_goto (tgt := 40) hx hb dX8_hinted_109 (by decide) ?_
                  exact ih40 (q + 1) (by omega) (lt_s i2 (fun h => by have h2 := h.2.1; rw [← hfl34] at h2; rw [c56] at h2; cases h2)) (by omega) _ _ hP hD hS _ (lv_sub hl [0, 1, 2, 3, 4] rfl)
                · have _ : True := trivial
                  refine lv_aload_n hx hb dX8_hinted_59 rfl (lv_at hl 3 rfl) ?_
                  refine gf_X8_45 hC hK hP 0 rfl rfl dX8_hinted_60 ?_
                  refine lv_aload_n hx hb dX8_hinted_63 rfl (lv_at hl 3 rfl) ?_
                  refine gf_X8_42 hC hK hP 0 rfl rfl dX8_hinted_64 ?_
                  refine lv_aload_n hx hb dX8_hinted_67 rfl (lv_at hl 3 rfl) ?_
                  refine lv_aload_n hx hb dX8_hinted_68 rfl (lv_at hl 3 rfl) ?_
                  refine gf_X8_38 hC hK hP 0 rfl rfl dX8_hinted_69 ?_
                  refine lv_iconst (v := nI 0) hx hb dX8_hinted_72 (by decide) ?_
                  refine n_lald hx hb hK hP 9 1 rfl rfl (by omega) (by decide) dX8_hinted_73 ?_
                  refine topl (y := lN (pkey ps nb)) (by rw [b4]) ?_
                  refine lv_iload_n hx hb dX8_hinted_74 rfl (lv_at hl 1 rfl) ?_
                  refine lv_iload hx hb dX8_hinted_75 (lv_at hl 0 rfl) ?_
                  refine callS_l (As := [.long (lN (pkey ps nb)), .int (nI b), .int (nI q)]) (rest := [.ref o, .ref kt, .ref kd]) [] hC hK hN hP hD rfl (by decide) hS (c_X8_with l D cI cJ cB (pkey ps nb) b q (by omega) (by omega)) q804 md_X8_with rfl hl.1 rfl (Nat.le_of_ble_eq_true rfl) dX8_hinted_77 ⟨Nat.le_of_ble_eq_true rfl, Nat.le_of_ble_eq_true rfl⟩ ⟨Nat.le_of_ble_eq_true rfl, Nat.le_of_ble_eq_true rfl⟩ (fun r_77 w H locs hpost hP hD hS => ?_)
                  obtain ⟨rfl, rfl⟩ := hpost
                  have hP : va_P D vwCl (mW cI cJ cB o kv kp kx kl kh ki kf kq ka kt kd kn (nI mpm) (nI mty) (nI mwi) (nI mhi) (nI mwa) (nI mle) (gI go2_4) (nI n2_4) (bI tm2_4) (nI l2_4) (vF wd hd nb wl st sl gl aq lb sh bw bh ps) mpa (fun zz => nI (mtx zz)) (fun zz => nI (mlt zz)) (fun zz => nI (mha zz)) (fun zz => nI (mfi zz)) (fun zz => oI (F2_34 zz)) (fun zz => nI (Q2_34 zz)) (fun zz => lN (K2_4 zz)) (fun zz => nI (T2_4 zz)) (fun zz => oI (F2_4 zz)) (fun zz => nI (L2_4 zz))) H := hP
                  have hD : va_D A (mW cI cJ cB o kv kp kx kl kh ki kf kq ka kt kd kn (nI mpm) (nI mty) (nI mwi) (nI mhi) (nI mwa) (nI mle) (gI go2_4) (nI n2_4) (bI tm2_4) (nI l2_4) (vF wd hd nb wl st sl gl aq lb sh bw bh ps) mpa (fun zz => nI (mtx zz)) (fun zz => nI (mlt zz)) (fun zz => nI (mha zz)) (fun zz => nI (mfi zz)) (fun zz => oI (F2_34 zz)) (fun zz => nI (Q2_34 zz)) (fun zz => lN (K2_4 zz)) (fun zz => nI (T2_4 zz)) (fun zz => oI (F2_4 zz)) (fun zz => nI (L2_4 zz))) := hD
                  refine callV_i (As := [.long (lN (wth (pkey ps nb) b q))]) (rest := [.ref kt, .ref kd]) [0, 1, 2, 3, 4, 5, 6, 7, 8, 9, 10, 11, 12] hC hK hN hP hD rfl (by decide) hS 0 (ci := 8) rfl rfl rfl (c_X8_slot l D cI cJ cB o kv kp kx kl kh ki kf kq ka kt kd kn mpm mty mwi mhi mwa mle n2_4 l2_4 go2_4 tm2_4 mpa mtx mlt mha mfi Q2_34 T2_4 L2_4 K2_4 F2_34 F2_4 wd hd nb wl st sl gl aq lb sh bw bh ps (wth (pkey ps nb) b q) (wth_lt hk1.1 (by omega)) b5 b2 (fun i hi => (b6 i hi).1)) q887 md_X8_slot rfl hl.1 rfl (Nat.le_of_ble_eq_true rfl) dX8_hinted_80 ⟨Nat.le_of_ble_eq_true rfl, Nat.le_of_ble_eq_true rfl⟩ ⟨Nat.le_of_ble_eq_true rfl, Nat.le_of_ble_eq_true rfl⟩ (fun r_80 w H locs hpost hP hD hS => ?_)
                  obtain ⟨t_80, rfl, rfl, h2t, h2w, h2f⟩ := hpost
                  have hP : va_P D vwCl (mW cI cJ cB o kv kp kx kl kh ki kf kq ka kt kd kn (nI mpm) (nI mty) (nI mwi) (nI mhi) (nI mwa) (nI mle) (gI go2_4) (nI n2_4) (bI tm2_4) (nI l2_4) (vF wd hd nb wl st sl gl aq lb sh bw bh ps) mpa (fun zz => nI (mtx zz)) (fun zz => nI (mlt zz)) (fun zz => nI (mha zz)) (fun zz => nI (mfi zz)) (fun zz => oI (F2_34 zz)) (fun zz => nI (Q2_34 zz)) (fun zz => lN (K2_4 zz)) (fun zz => nI (T2_4 zz)) (fun zz => oI (F2_4 zz)) (fun zz => nI (L2_4 zz))) H := hP
                  have hD : va_D A (mW cI cJ cB o kv kp kx kl kh ki kf kq ka kt kd kn (nI mpm) (nI mty) (nI mwi) (nI mhi) (nI mwa) (nI mle) (gI go2_4) (nI n2_4) (bI tm2_4) (nI l2_4) (vF wd hd nb wl st sl gl aq lb sh bw bh ps) mpa (fun zz => nI (mtx zz)) (fun zz => nI (mlt zz)) (fun zz => nI (mha zz)) (fun zz => nI (mfi zz)) (fun zz => oI (F2_34 zz)) (fun zz => nI (Q2_34 zz)) (fun zz => lN (K2_4 zz)) (fun zz => nI (T2_4 zz)) (fun zz => oI (F2_4 zz)) (fun zz => nI (L2_4 zz))) := hD
                  obtain ⟨hp1, hp2, hp3⟩ := TI_has b5 h2w h2f (b1.2.2 _ (by obtain ⟨d9, h9⟩ := isMv_in c56; exact fl_rch hf c23 (fun h => by cases h) hfl (fun x d h => by have := (hfb x d h).2.1; omega) d9 q h9))
                  obtain ⟨e, he9, he8⟩ := b10 (T2_4 ((hM (wth (pkey ps nb) b q) + t_80) % 8192) - 1) (by omega)
                  have hfk : (keyF K2_4 n2_4 (cF n2_4 F2_4)) (wth (pkey ps nb) b q) = some e := by rw [← hp3, keyF_at (by omega) b1.2.1, cF_lt (by omega)]; exact he9
                  refine n_iald hx hb hK hP 10 0 rfl rfl (Nat.mod_lt _ (by decide)) (by decide) dX8_hinted_83 ?_
                  refine lv_iconst (v := nI 1) hx hb dX8_hinted_84 (by decide) ?_
                  refine n_isub hx hb dX8_hinted_85 (by omega) ?_
                  refine n_iald hx hb hK hP 11 0 rfl rfl (by omega) (by decide) dX8_hinted_86 ?_
                  refine topi (y := nI e) (by rw [he9]; rfl) ?_
                  refine lv_aload_n hx hb dX8_hinted_87 rfl (lv_at hl 3 rfl) ?_
                  refine gf_X8_45 hC hK hP 0 rfl rfl dX8_hinted_88 ?_
                  refine lv_iconst (v := nI 0) hx hb dX8_hinted_91 (by decide) ?_
                  refine n_iald hx hb hK hP 11 0 rfl rfl (by omega) (by decide) dX8_hinted_92 ?_
                  refine topi (y := nI d0) (by rw [hd0]; rfl) ?_
                  refine lv_iconst (v := nI 1) hx hb dX8_hinted_93 (by decide) ?_
                  refine lv_isub hx hb dX8_hinted_94 ?_
                  refine lv_icmp_ne (tgt := 106) hx hb dX8_hinted_95 (by decide) (fun c95 => ?_) (fun c95 => ?_)
                  · have _ : True := trivial
                    refine lv_iinc (v := nI (q + 1)) (lv' := [(4, .int (nI (q + 1))), (3, .int (nI b)), (2, .int r_4), (0, .ref o), (1, .int (bI z))]) hx hb dX8_hinted_106 hl (k := 0) rfl (nI_1 _) (by decide) rfl (fun ls hl => ?_)
                    refine lv_goto (tgt := 40) hx hb dX8_hinted_109 (by decide) ?_
                    exact ih40 (q + 1) (by omega) (lt_s i2 (fun h => by obtain ⟨-, -, e, h1, h2⟩ := h; rw [hfk] at h1; cases h1; rw [hk00, hd0] at h2; cases h2; exact c95 ((pred_eq (by omega) (by omega)).mpr rfl))) (by omega) _ _ hP hD hS _ (lv_sub hl [0, 1, 2, 3, 4] rfl)
                  · have _ : True := trivial
                    have c95e := (pred_eq (by omega) (by omega)).mp c95
                    refine lv_bipush (v := nI 100) hx hb dX8_hinted_98 (by decide) ?_
                    refine lv_iload_n hx hb dX8_hinted_100 rfl (lv_at hl 1 rfl) ?_
                    refine n_imul hx hb dX8_hinted_101  ?_
                    refine lv_iload hx hb dX8_hinted_102 (lv_at hl 0 rfl) ?_
                    refine n_iadd hx hb dX8_hinted_104  ?_
                    have hrh := hint_good hog (fl := (flo wd hd nb wl sh bw bh none (pkey ps nb))) (o := some (b, q)) (Or.inr ⟨b, q, ⟨c23, by rw [← hfl34]; exact c56, e, hfk, by rw [hk00, hd0, c95e]⟩, fun b9 q9 h9 => by by_cases e1 : b9 < b; exact absurd h9 (i1 b9 e1 q9); by_cases e2 : b9 = b; subst e2; by_cases e3 : q9 < q; exact absurd h9 (i2 q9 e3); omega; omega, rfl⟩)
                    rw [hQ]
                    exact W.iret (v := nI ((100 * b) + q)) hx hb hr (fun t9 ht hW => ⟨⟨_, _, rfl, ⟨go2_4, K2_4, n2_4, T2_4, tm2_4, F2_4, L2_4, l2_4, F2_34, Q2_34, rfl, ⟨by unfold f_hintx; rw [hrh]; rfl, Or.inr ⟨b, q, hrh, c23, c46, c56, hfl34, fun d h => (hfb q d h).2.2, e, by omega, by rw [hd0, c95e], by rw [← dist_good hog, hd0, c95e]; rfl⟩⟩⟩, by rw [ht]; exact hP, rfl⟩, hS.F ht⟩) hS.2.2 dX8_hinted_105
          exact L40 _ 0 (Nat.zero_le _) (fun y h => absurd h (Nat.not_lt_zero y)) (Nat.lt_succ_self _) _ _ hP hD hS _ (lv_sub hl [0, 1, 2, 3, 4] rfl)
    exact L16 _ 0 fa2_4 qa2_4 (by omega) (fun c h => absurd h (Nat.not_lt_zero c)) (Nat.lt_succ_self _) _ _ hP hD hS _ (lv_sub hl [0, 1, 2, 3] rfl)
  · have _ : True := trivial
    refine lv_iload_n hx hb dX8_hinted_12 rfl (lv_at hl 0 rfl) ?_
    have hb9 := hint_bad2 (k0 := pkey ps nb) (fl := (flo wd hd nb wl sh bw bh none (pkey ps nb))) hop c9
    rw [hQ]
    exact W.iret (v := r_4) hx hb hr (fun t9 ht hW => ⟨⟨_, _, rfl, ⟨go2_4, K2_4, n2_4, T2_4, tm2_4, F2_4, L2_4, l2_4, fa2_4, qa2_4, rfl, ⟨hint_bad hop c9, Or.inl ⟨hb9.2, fun p h => by unfold f_hintx at h; rw [hb9.1] at h; cases h⟩⟩⟩, by rw [ht]; exact hP, rfl⟩, hS.F ht⟩) hS.2.2 dX8_hinted_13
