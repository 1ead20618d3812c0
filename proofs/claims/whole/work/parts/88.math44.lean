/-! floats: the mean, and doubles of floats that are no NaN (written by hand) -/
def fl_ok64 (n : Nat) : Prop := n < 18446744073709551616 ∧ (n / 4503599627370496 % 2048 = 2047 → n % 4503599627370496 = 0)
theorem fl_t64 : FP.Core.b64.tails = 4503599627370496 := by decide
theorem fl_x64 : FP.Core.b64.exps = 2048 := by decide
theorem fl_q64 : FP.Core.b64.qmin = -1074 := by decide
theorem fl_m64 : FP.Core.b64.qmax = 971 := by decide
theorem fl_fin64 (s : Bool) {c : Nat} {q : Int} (hc : c < 9007199254740992) (hq : q ≤ 971) : fl_ok64 (FP.Core.encode FP.Core.b64 (.fin s c q)) := by
  show fl_ok64 (if c < FP.Core.b64.tails then FP.Core.assemble FP.Core.b64 s 0 c else FP.Core.assemble FP.Core.b64 s ((q - FP.Core.b64.qmin).toNat + 1) (c - FP.Core.b64.tails))
  unfold FP.Core.assemble
  rw [fl_t64, fl_x64, fl_q64]
  have hs : s.toNat ≤ 1 := by cases s <;> decide
  unfold fl_ok64
  split
  · constructor
    · omega
    · intro h9; omega
  · have he : (q - (-1074)).toNat + 1 ≤ 2046 := by omega
    generalize (q - (-1074)).toNat + 1 = E at he ⊢
    constructor
    · omega
    · intro h9; omega
theorem fl_inf64 (s : Bool) : fl_ok64 (FP.Core.encode FP.Core.b64 (.inf s)) := by
  unfold fl_ok64
  cases s <;> decide +kernel
theorem fl_rr64 (s : Bool) (A B : Nat) (e : Int) : fl_ok64 (FP.Core.encode FP.Core.b64 (FP.Core.roundRatio FP.Core.b64 s A B e)) := by
  have h5 : 2 ^ FP.Core.b64.p = 9007199254740992 := by decide
  unfold FP.Core.roundRatio
  split
  · rw [fl_q64]; exact fl_fin64 s (by decide) (by decide)
  · unfold FP.Core.roundAt FP.Core.settle FP.Core.bound
    rw [fl_m64, fl_t64]
    split
    · rename_i h6
      rw [h5] at h6
      split
      · rename_i h7; exact fl_fin64 s h6 h7
      · exact fl_inf64 s
    · split
      · rename_i h7; exact fl_fin64 s (by decide) h7
      · exact fl_inf64 s
theorem fl_nat64 {n : Nat} (h : fl_ok64 n) : (UInt64.ofNat n).toNat = n := UInt64.toNat_ofNat_of_lt' (by simpa using h.1)
theorem fl_dec64 {n : Nat} (h : fl_ok64 n) : FP.Core.decode FP.Core.b64 (UInt64.ofNat n).toNat ≠ .nan := by
  rw [fl_nat64 h]
  unfold FP.Core.decode FP.Core.fieldE FP.Core.fieldT
  rw [fl_t64, fl_x64]
  split
  · rename_i hE
    rw [if_pos (h.2 (by omega))]; intro h9; cases h9
  · split <;> (intro h9; cases h9)
theorem fl_n64 {n : Nat} (h : fl_ok64 n) : vf_n64 (UInt64.ofNat n) := by
  unfold vf_n64
  rw [UInt64.le_iff_toNat_le, UInt64.toNat_and, fl_nat64 h]
  show n &&& 9223372036854775807 ≤ 9218868437227405312
  rw [show (9223372036854775807 : Nat) = 2 ^ 63 - 1 from rfl, Nat.and_two_pow_sub_one_eq_mod]
  obtain ⟨h1, h2⟩ := h
  by_cases h3 : n / 4503599627370496 % 2048 = 2047
  · have := h2 h3; omega
  · omega
theorem fl_un32 {x : UInt32} (h : vf_n32 x) : FP.Core.decode FP.Core.b32 x.toNat ≠ .nan := by
  unfold vf_n32 at h
  rw [UInt32.le_iff_toNat_le, UInt32.toNat_and] at h
  have h : x.toNat &&& 2147483647 ≤ 2139095040 := h
  rw [show (2147483647 : Nat) = 2 ^ 31 - 1 from rfl, Nat.and_two_pow_sub_one_eq_mod] at h
  unfold FP.Core.decode FP.Core.fieldE FP.Core.fieldT
  rw [fl_t32, fl_x32]
  split
  · rename_i hE
    rw [if_pos (by omega)]; intro h9; cases h9
  · split <;> (intro h9; cases h9)
/-- a double of a float that is no NaN -/
theorem fl_f2d {x : UInt32} (h : vf_n32 x) : ∃ n, FP.f2d x = UInt64.ofNat n ∧ fl_ok64 n := by
  have h1 := fl_un32 h
  refine ⟨FP.Core.encode FP.Core.b64 (FP.Core.round FP.Core.b64 (FP.Core.decode FP.Core.b32 x.toNat)), ?_, ?_⟩
  · unfold FP.f2d
    rw [if_neg]
    · rfl
    · intro h2
      exact h1 (of_decide_eq_true h2)
  · cases h9 : FP.Core.decode FP.Core.b32 x.toNat with
    | nan => exact absurd h9 h1
    | inf s => exact fl_inf64 s
    | fin s c q => exact fl_rr64 s c 1 q
theorem fl_f2d_n {x : UInt32} (h : vf_n32 x) : vf_n64 (FP.f2d x) := by
  obtain ⟨n, h1, h2⟩ := fl_f2d h
  rw [h1]
  exact fl_n64 h2
theorem fl_cmp_self (i : Int) : compare i i = .eq := by
  show compareOfLessAndEq i i = .eq
  unfold compareOfLessAndEq
  rw [if_neg (Int.lt_irrefl i), if_pos rfl]
theorem fl_ord {d : FP.Core.Datum} (h : d ≠ .nan) : FP.Core.order d d = some .eq := by
  cases d with
  | nan => exact absurd rfl h
  | inf s => exact congrArg some (fl_cmp_self _)
  | fin s c q => exact congrArg some (fl_cmp_self _)
theorem fl_dcmp {x : UInt32} (h : vf_n32 x) : FP.dcmp (FP.f2d x) (FP.f2d x) = some .eq := by
  obtain ⟨n, h1, h2⟩ := fl_f2d h
  rw [h1]
  exact fl_ord (fl_dec64 h2)
theorem fl_m1 : vf_n32 3212836864 := by
  unfold vf_n32
  decide
theorem f_mean_n32 {S M : Nat → Nat → Prop} {gl aq : Option Nat} {k0 : Nat} : vf_n32 (f_mean S M gl aq k0) := by
  unfold f_mean
  split
  · rename_i g ap
    unfold fOf
    split
    · rename_i hex
      have h2 := Classical.choose_spec hex
      rcases h2 with ⟨-, h3⟩ | ⟨K, n, F, hn, hE, -, h3⟩
      · rw [h3]; exact fl_m1
      · rcases h3 with ⟨-, h3⟩ | ⟨-, h3⟩
        · rw [h3]; exact fl_m1
        · rw [h3]
          refine vf_mean ?_ hn
          obtain ⟨j, hj, -⟩ := hE.2.2 k0 Rch_0
          omega
    · unfold vf_n32; decide
  · exact fl_m1
/-! ===== the law's cases (written by lgen2.py) ===== -/
def IMPW (ws ws3 : va_W) : Prop := (∀ (D : va_G) (H : Heap), va_P D vwCl ws H → va_P D vwCl ws3 H) ∧ ∀ (A : Nat → Prop), va_D A ws → va_D A ws3
def LJ (cI cJ cB : ClassId) (i xo o : Nat) (ws : va_W) : Prop := ∃ (rd ln : Nat) (tx : Nat → Nat) (t : BT) (shm bwm bhm psm : Nat → Nat) (s1 s2 : SPT) (hsz : Nat) (hg : Nat → BT) (mpa : Nat → Int32) (vo h h2 ho ro ys yw zs : Nat) (wm : va_W), PCS cI cJ cB xo rd ln tx t s1 s2 hsz hg vo h h2 ho ro ys yw zs wm ws ∧ PMo cI cJ cB o ln tx hsz mpa (vF (twd t) (thd t) (tnb t) (twl t) (tst t) (tsl t) (tgl t) (taq t) (tlb t) shm bwm bhm psm) wm ∧ LCT i rd ln tx t shm bwm bhm psm s1 s2 hsz hg mpa
def LJE (cI cJ cB : ClassId) (i xo o : Nat) (ws : va_W) : Prop := ∃ ws3, IMPW ws ws3 ∧ LJ cI cJ cB i xo o ws3
theorem LJE.of {cI cJ cB : ClassId} {i xo o : Nat} {ws : va_W} (h : LJ cI cJ cB i xo o ws) : LJE cI cJ cB i xo o ws := ⟨ws, ⟨fun _ _ h => h, fun _ h => h⟩, h⟩
theorem LCT.se {i rd ln : Nat} {tx : Nat → Nat} {t : BT} {shm bwm bhm psm : Nat → Nat} {s1 s2 : SPT} {sz : Nat} {hg : Nat → BT} {mpa : Nat → Int32} (h : LCT i rd ln tx t shm bwm bhm psm s1 s2 sz hg mpa) (hi : i < 2 ^ 20) : tse t < 2 ^ 20 := by
  obtain ⟨a1, -, -, -, -, -, G, hh, hb, -⟩ := h
  have := hb.1
  omega
theorem LCT.ag {i rd ln : Nat} {tx : Nat → Nat} {t : BT} {shm bwm bhm psm : Nat → Nat} {s1 s2 : SPT} {sz : Nat} {hg : Nat → BT} {mpa : Nat → Int32} (h : LCT i rd ln tx t shm bwm bhm psm s1 s2 sz hg mpa) : AG (tnb t) (tsh t) (tbw t) (tbh t) (tps t) shm bwm bhm psm := h.2.2.2.1
theorem LCT.b1 {i rd ln : Nat} {tx : Nat → Nat} {t : BT} {shm bwm bhm psm : Nat → Nat} {s1 s2 : SPT} {sz : Nat} {hg : Nat → BT} {mpa : Nat → Int32} (h : LCT i rd ln tx t shm bwm bhm psm s1 s2 sz hg mpa) : bdS s1 := h.2.2.2.2.1
theorem LCT.b2 {i rd ln : Nat} {tx : Nat → Nat} {t : BT} {shm bwm bhm psm : Nat → Nat} {s1 s2 : SPT} {sz : Nat} {hg : Nat → BT} {mpa : Nat → Int32} (h : LCT i rd ln tx t shm bwm bhm psm s1 s2 sz hg mpa) : bdS s2 := h.2.2.2.2.2.1
theorem PMo_re {cI cJ cB : ClassId} {o ln sz : Nat} {tx : Nat → Nat} {mpa v v2 : Nat → Int32} {wm : va_W} (h : ∀ j, j < 44 → v j = v2 j) (hm : PMo cI cJ cB o ln tx sz mpa v wm) : ∃ wm2, PMo cI cJ cB o ln tx sz mpa v2 wm2 ∧ adr wm2 = adr wm ∧ ∀ (D : va_G) (H : Heap), va_P D vwCl wm H → va_P D vwCl wm2 H := by
  obtain ⟨kv, kp, kx, kl, kh, ki, kf, kq, ka, kt, kd, kn, mwi, mhi, mwa, mle, mam, mli, mgo, mtm, mlt, mha, mfi, mqu, mta, mln, mal, mfa, mdi, rfl⟩ := hm
  exact ⟨_, ⟨kv, kp, kx, kl, kh, ki, kf, kq, ka, kt, kd, kn, mwi, mhi, mwa, mle, mam, mli, mgo, mtm, mlt, mha, mfi, mqu, mta, mln, mal, mfa, mdi, rfl⟩, rfl, fun D H hP => va_P_reI 1 hP rfl h rfl⟩
theorem PCS_re {cI cJ cB : ClassId} {xo rd ln vo h h2 ho ro ys yw zs hsz : Nat} {tx : Nat → Nat} {t : BT} {s1 s2 : SPT} {hg : Nat → BT} {wm wm2 ws : va_W} (h0 : PCS cI cJ cB xo rd ln tx t s1 s2 hsz hg vo h h2 ho ro ys yw zs wm ws) (hm : adr wm2 = adr wm) (hP : ∀ (D : va_G) (H : Heap), va_P D vwCl wm H → va_P D vwCl wm2 H) : ∃ ws3, IMPW ws ws3 ∧ PCS cI cJ cB xo rd ln tx t s1 s2 hsz hg vo h h2 ho ro ys yw zs wm2 ws3 := by
  obtain ⟨t9, wt, wb, wd9, wr, wsp, wu, wk, HW, hpm, hr⟩ := h0
  refine ⟨wm2 ++ (pX xo vo h h2 ho ro ys yw (nI rd) ++ (wt ++ (wb ++ (wd9 ++ (wr ++ (wsp ++ (wu ++ (wk ++ HW)))))))), ⟨fun D H hp => ?_, fun A hd => ?_⟩, t9, wt, wb, wd9, wr, wsp, wu, wk, HW, (pmM _ _ _ _ _ _ _ _ _ _).symm, hr⟩
  · have h1 := va_P_perm (hpm.trans (pmM _ _ _ _ _ _ _ _ _ _)) hp
    exact va_P_mem.mpr fun q hq => (List.mem_append.mp hq).elim (fun h2 => va_P_mem.mp (hP D H (app_P h1)) q h2) (fun h2 => va_P_mem.mp h1 q (List.mem_append_right _ h2))
  · have h1 := va_D_perm (hpm.trans (pmM _ _ _ _ _ _ _ _ _ _)) hd
    exact va_D_adr (by rw [adr_append wm2, adr_append wm, hm]) h1
theorem STi.mono {l : Launch} {D : va_G} {cI cJ cB : ClassId} {y : MethodName} {cy : ByteArray} {nY d b ci : Nat} {As : List Value} {ws : va_W} {Q Q2 : Int32 → va_W → Prop} (h : STi l D cI cJ cB y cy nY d b ci As ws Q) (hq : ∀ r w, Q r w → Q2 r w) : STi l D cI cJ cB y cy nY d b ci As ws Q2 := by
  obtain ⟨wc, wr, post, fs, h1, h2, h3, h4⟩ := h
  exact ⟨wc, wr, post, fs, h1, h2, h3, fun r w1 hp => hq _ _ (h4 r w1 hp)⟩
theorem STl.mono {l : Launch} {D : va_G} {cI cJ cB : ClassId} {y : MethodName} {cy : ByteArray} {nY d b ci : Nat} {As : List Value} {ws : va_W} {Q Q2 : Int64 → va_W → Prop} (h : STl l D cI cJ cB y cy nY d b ci As ws Q) (hq : ∀ r w, Q r w → Q2 r w) : STl l D cI cJ cB y cy nY d b ci As ws Q2 := by
  obtain ⟨wc, wr, post, fs, h1, h2, h3, h4⟩ := h
  exact ⟨wc, wr, post, fs, h1, h2, h3, fun r w1 hp => hq _ _ (h4 r w1 hp)⟩
theorem STf.mono {l : Launch} {D : va_G} {cI cJ cB : ClassId} {y : MethodName} {cy : ByteArray} {nY d b ci : Nat} {As : List Value} {ws : va_W} {Q Q2 : UInt32 → va_W → Prop} (h : STf l D cI cJ cB y cy nY d b ci As ws Q) (hq : ∀ r w, Q r w → Q2 r w) : STf l D cI cJ cB y cy nY d b ci As ws Q2 := by
  obtain ⟨wc, wr, post, fs, h1, h2, h3, h4⟩ := h
  exact ⟨wc, wr, post, fs, h1, h2, h3, fun r w1 hp => hq _ _ (h4 r w1 hp)⟩
theorem j_type (l : Launch) (D : va_G) {cI cJ cB : ClassId} {i xo o : Nat} {ws : va_W} (x : Int32) (hi : i < 2 ^ 20) (h : LJ cI cJ cB i xo o ws) : STi l D cI cJ cB yX7_type cX7_type 2 1 xo 7 [.int x] ws (fun r w9 => STi l D cI cJ cB yX8_type cX8_type 2 1 o 8 [.int x] w9 (fun r2 w8 => r2 = r ∧ LJE cI cJ cB (i + 1) xo o w8)) := by
  obtain ⟨rd, ln, tx, t, shm, bwm, bhm, psm, s1, s2, hsz, hg, mpa, vo, h, h2, ho, ro, ys, yw, zs, wm, h0, hm, hL⟩ := h
  refine (x_type l D x hL.2.1 h0).mono (fun r w9 hq => ?_)
  obtain ⟨tx2, ln2, h0, hr, rfl, rfl⟩ := hq
  refine (m_type l D x hL.2.1 h0 hm).mono (fun r2 w8 hq => ?_)
  obtain ⟨wm2, h0, tx3, ln3, hm, hr2, rfl, rfl⟩ := hq
  obtain ⟨g1, g2⟩ := type_tx (x := x) hL.2.1 hL.2.2.1
  exact ⟨by rw [hr, hr2]; rfl, LJE.of ⟨rd, _, _, t, shm, bwm, bhm, psm, s1, s2, hsz, hg, mpa, vo, h, h2, ho, ro, ys, yw, zs, wm2, h0, hm, (hL.text g1 g2).up (Nat.le_succ i)⟩⟩
theorem j_clear (l : Launch) (D : va_G) {cI cJ cB : ClassId} {i xo o : Nat} {ws : va_W} (hi : i < 2 ^ 20) (h : LJ cI cJ cB i xo o ws) : STi l D cI cJ cB yX7_clear cX7_clear 2 0 xo 7 [] ws (fun r w9 => STi l D cI cJ cB yX8_clear cX8_clear 2 0 o 8 [] w9 (fun r2 w8 => r2 = r ∧ LJE cI cJ cB (i + 1) xo o w8)) := by
  obtain ⟨rd, ln, tx, t, shm, bwm, bhm, psm, s1, s2, hsz, hg, mpa, vo, h, h2, ho, ro, ys, yw, zs, wm, h0, hm, hL⟩ := h
  refine (x_clear l D h0).mono (fun r w9 hq => ?_)
  obtain ⟨h0, hr⟩ := hq
  refine (m_clear l D h0 hm).mono (fun r2 w8 hq => ?_)
  obtain ⟨wm2, h0, hm, hr2⟩ := hq
  exact ⟨by rw [hr, hr2], LJE.of ⟨rd, 0, tx, t, shm, bwm, bhm, psm, s1, s2, hsz, hg, mpa, vo, h, h2, ho, ro, ys, yw, zs, wm2, h0, hm, (hL.text (by omega) hL.2.2.1).up (Nat.le_succ i)⟩⟩
theorem j_frame (l : Launch) (D : va_G) {cI cJ cB : ClassId} {i xo o : Nat} {ws : va_W} (x : Int32) (hi : i < 2 ^ 20) (h : LJ cI cJ cB i xo o ws) : STi l D cI cJ cB yX7_frame cX7_frame 2 3 xo 7 [.int x] ws (fun r w9 => STi l D cI cJ cB yX8_frame cX8_frame 2 3 o 8 [.int x] w9 (fun r2 w8 => r2 = r ∧ LJE cI cJ cB (i + 1) xo o w8)) := by
  obtain ⟨rd, ln, tx, t, shm, bwm, bhm, psm, s1, s2, hsz, hg, mpa, vo, h, h2, ho, ro, ys, yw, zs, wm, h0, hm, hL⟩ := h
  refine (x_frame l D x hL.tv h0).mono (fun r w9 hq => ?_)
  obtain ⟨h0, hr⟩ := hq
  refine (m_frame l D x hL.tvm h0 hm).mono (fun r2 w8 hq => ?_)
  obtain ⟨wm2, h0, hm, hr2⟩ := hq
  exact ⟨by rw [hr, hr2, hL.ag.framex hL.tv.2.2.2.1], LJE.of ⟨rd, ln, tx, t, shm, bwm, bhm, psm, s1, s2, hsz, hg, mpa, vo, h, h2, ho, ro, ys, yw, zs, wm2, h0, hm, hL.up (Nat.le_succ i)⟩⟩
theorem j_cell (l : Launch) (D : va_G) {cI cJ cB : ClassId} {i xo o : Nat} {ws : va_W} (x : Int32) (hi : i < 2 ^ 20) (h : LJ cI cJ cB i xo o ws) : STi l D cI cJ cB yX7_cell cX7_cell 4 2 xo 7 [.int x] ws (fun r w9 => STi l D cI cJ cB yX8_cell cX8_cell 2 1 o 8 [.int x] w9 (fun r2 w8 => r2 = r ∧ LJE cI cJ cB (i + 1) xo o w8)) := by
  obtain ⟨rd, ln, tx, t, shm, bwm, bhm, psm, s1, s2, hsz, hg, mpa, vo, h, h2, ho, ro, ys, yw, zs, wm, h0, hm, hL⟩ := h
  refine (x_cell l D x hL.tv h0).mono (fun r w9 hq => ?_)
  obtain ⟨h0, hr⟩ := hq
  refine (m_cell l D x hL.tvm h0 hm).mono (fun r2 w8 hq => ?_)
  obtain ⟨wm2, h0, hm, hr2⟩ := hq
  exact ⟨by rw [hr, hr2, hL.ag.cellx], LJE.of ⟨rd, ln, tx, t, shm, bwm, bhm, psm, s1, s2, hsz, hg, mpa, vo, h, h2, ho, ro, ys, yw, zs, wm2, h0, hm, hL.up (Nat.le_succ i)⟩⟩
theorem j_block (l : Launch) (D : va_G) {cI cJ cB : ClassId} {i xo o : Nat} {ws : va_W} (x : Int32) (y : Int32) (hi : i < 2 ^ 20) (h : LJ cI cJ cB i xo o ws) : STi l D cI cJ cB yX7_block cX7_block 3 4 xo 7 [.int x, .int y] ws (fun r w9 => STi l D cI cJ cB yX8_block cX8_block 3 4 o 8 [.int x, .int y] w9 (fun r2 w8 => r2 = r ∧ LJE cI cJ cB (i + 1) xo o w8)) := by
  obtain ⟨rd, ln, tx, t, shm, bwm, bhm, psm, s1, s2, hsz, hg, mpa, vo, h, h2, ho, ro, ys, yw, zs, wm, h0, hm, hL⟩ := h
  refine (x_block l D x y hL.tv h0).mono (fun r w9 hq => ?_)
  obtain ⟨h0, hr⟩ := hq
  refine (m_block l D x y hL.tvm h0 hm).mono (fun r2 w8 hq => ?_)
  obtain ⟨wm2, h0, hm, hr2⟩ := hq
  exact ⟨by rw [hr, hr2, hL.ag.blkx], LJE.of ⟨rd, ln, tx, t, shm, bwm, bhm, psm, s1, s2, hsz, hg, mpa, vo, h, h2, ho, ro, ys, yw, zs, wm2, h0, hm, hL.up (Nat.le_succ i)⟩⟩
theorem j_states (l : Launch) (D : va_G) {cI cJ cB : ClassId} {i xo o : Nat} {ws : va_W} (hi : i < 2 ^ 20) (h : LJ cI cJ cB i xo o ws) : STi l D cI cJ cB yX7_states cX7_states 1 5 xo 7 [] ws (fun r w9 => STi l D cI cJ cB yX8_states cX8_states 1 4 o 8 [] w9 (fun r2 w8 => r2 = r ∧ LJE cI cJ cB (i + 1) xo o w8)) := by
  obtain ⟨rd, ln, tx, t, shm, bwm, bhm, psm, s1, s2, hsz, hg, mpa, vo, h, h2, ho, ro, ys, yw, zs, wm, h0, hm, hL⟩ := h
  refine (x_states l D  hL.tv (hL.se hi) hL.b1 hL.cv h0).mono (fun r w9 hq => ?_)
  obtain ⟨s3, h0, hr, hs, hb3⟩ := hq
  refine (m_states l D  hL.tvm h0 hm).mono (fun r2 w8 hq => ?_)
  obtain ⟨wm2, h0, hm, hr2⟩ := hq
  exact ⟨by rw [hr, hr2, hL.ag.xkst, hL.ag.pk], LJE.of ⟨rd, ln, tx, t, shm, bwm, bhm, psm, s3, s2, hsz, hg, mpa, vo, h, h2, ho, ro, ys, yw, zs, wm2, h0, hm, (hL.space hs hb3).up (Nat.le_succ i)⟩⟩
theorem j_solved (l : Launch) (D : va_G) {cI cJ cB : ClassId} {i xo o : Nat} {ws : va_W} (hi : i < 2 ^ 20) (h : LJ cI cJ cB i xo o ws) : STi l D cI cJ cB yX7_solved cX7_solved 1 5 xo 7 [] ws (fun r w9 => STi l D cI cJ cB yX8_solved cX8_solved 3 3 o 8 [] w9 (fun r2 w8 => r2 = r ∧ LJE cI cJ cB (i + 1) xo o w8)) := by
  obtain ⟨rd, ln, tx, t, shm, bwm, bhm, psm, s1, s2, hsz, hg, mpa, vo, h, h2, ho, ro, ys, yw, zs, wm, h0, hm, hL⟩ := h
  refine (x_solved l D  hL.tv (hL.se hi) hL.b1 hL.cv h0).mono (fun r w9 hq => ?_)
  obtain ⟨s3, h0, hr, hs, hb3⟩ := hq
  refine (m_solved l D  hL.tvm h0 hm).mono (fun r2 w8 hq => ?_)
  obtain ⟨wm2, h0, hm, hr2⟩ := hq
  exact ⟨by rw [hr, hr2, hL.ag.xkst, hL.ag.pk], LJE.of ⟨rd, ln, tx, t, shm, bwm, bhm, psm, s3, s2, hsz, hg, mpa, vo, h, h2, ho, ro, ys, yw, zs, wm2, h0, hm, (hL.space hs hb3).up (Nat.le_succ i)⟩⟩
theorem j_distance (l : Launch) (D : va_G) {cI cJ cB : ClassId} {i xo o : Nat} {ws : va_W} (z : Bool) (hi : i < 2 ^ 20) (h : LJ cI cJ cB i xo o ws) : STi l D cI cJ cB yX7_distance cX7_distance 3 6 xo 7 [.int (bI z)] ws (fun r w9 => STi l D cI cJ cB yX8_distance cX8_distance 2 6 o 8 [.int (bI z)] w9 (fun r2 w8 => r2 = r ∧ LJE cI cJ cB (i + 1) xo o w8)) := by
  obtain ⟨rd, ln, tx, t, shm, bwm, bhm, psm, s1, s2, hsz, hg, mpa, vo, h, h2, ho, ro, ys, yw, zs, wm, h0, hm, hL⟩ := h
  refine (x_distance l D z hL.tv (hL.se hi) hL.b1 hL.cv h0).mono (fun r w9 hq => ?_)
  obtain ⟨s3, h0, hr, hs, hb3⟩ := hq
  refine (m_distance l D z hL.tvm h0 hm).mono (fun r2 w8 hq => ?_)
  obtain ⟨wm2, h0, hm, hr2⟩ := hq
  exact ⟨by rw [hr, hr2, hL.ag.xkst, hL.ag.xmvk, hL.ag.pk], LJE.of ⟨rd, ln, tx, t, shm, bwm, bhm, psm, s3, s2, hsz, hg, mpa, vo, h, h2, ho, ro, ys, yw, zs, wm2, h0, hm, (hL.space hs hb3).up (Nat.le_succ i)⟩⟩
theorem j_hint (l : Launch) (D : va_G) {cI cJ cB : ClassId} {i xo o : Nat} {ws : va_W} (z : Bool) (hi : i < 2 ^ 20) (h : LJ cI cJ cB i xo o ws) : STi l D cI cJ cB yX7_hint cX7_hint 6 6 xo 7 [.int (bI z)] ws (fun r w9 => STi l D cI cJ cB yX8_hint cX8_hint 2 6 o 8 [.int (bI z)] w9 (fun r2 w8 => r2 = r ∧ LJE cI cJ cB (i + 1) xo o w8)) := by
  obtain ⟨rd, ln, tx, t, shm, bwm, bhm, psm, s1, s2, hsz, hg, mpa, vo, h, h2, ho, ro, ys, yw, zs, wm, h0, hm, hL⟩ := h
  refine (x_hint l D z hL.tv (hL.se hi) hL.b1 hL.cv h0).mono (fun r w9 hq => ?_)
  obtain ⟨s3, h0, hr, hs, hb3⟩ := hq
  refine (m_hint l D z hL.tvm h0 hm).mono (fun r2 w8 hq => ?_)
  obtain ⟨wm2, h0, hm, hr2⟩ := hq
  exact ⟨by rw [hr, hr2, hL.ag.hintx], LJE.of ⟨rd, ln, tx, t, shm, bwm, bhm, psm, s3, s2, hsz, hg, mpa, vo, h, h2, ho, ro, ys, yw, zs, wm2, h0, hm, (hL.space hs hb3).up (Nat.le_succ i)⟩⟩
theorem j_worst (l : Launch) (D : va_G) {cI cJ cB : ClassId} {i xo o : Nat} {ws : va_W} (z : Bool) (hi : i < 2 ^ 20) (h : LJ cI cJ cB i xo o ws) : STi l D cI cJ cB yX7_worst cX7_worst 2 6 xo 7 [.int (bI z)] ws (fun r w9 => STi l D cI cJ cB yX8_worst cX8_worst 3 5 o 8 [.int (bI z)] w9 (fun r2 w8 => r2 = r ∧ LJE cI cJ cB (i + 1) xo o w8)) := by
  obtain ⟨rd, ln, tx, t, shm, bwm, bhm, psm, s1, s2, hsz, hg, mpa, vo, h, h2, ho, ro, ys, yw, zs, wm, h0, hm, hL⟩ := h
  refine (x_worst l D z hL.tv (hL.se hi) hL.b1 hL.cv h0).mono (fun r w9 hq => ?_)
  obtain ⟨s3, h0, hr, hs, hb3⟩ := hq
  refine (m_worst l D z hL.tvm h0 hm).mono (fun r2 w8 hq => ?_)
  obtain ⟨wm2, h0, hm, hr2⟩ := hq
  exact ⟨by rw [hr, hr2, hL.ag.xkst, hL.ag.xmvk, hL.ag.pk], LJE.of ⟨rd, ln, tx, t, shm, bwm, bhm, psm, s3, s2, hsz, hg, mpa, vo, h, h2, ho, ro, ys, yw, zs, wm2, h0, hm, (hL.space hs hb3).up (Nat.le_succ i)⟩⟩
theorem j_mean (l : Launch) (D : va_G) {cI cJ cB : ClassId} {i xo o : Nat} {ws : va_W} (z : Bool) (hi : i < 2 ^ 20) (h : LJ cI cJ cB i xo o ws) : STf l D cI cJ cB yX7_mean cX7_mean 2 6 xo 7 [.int (bI z)] ws (fun r w9 => vf_n32 r ∧ STf l D cI cJ cB yX8_mean cX8_mean 4 5 o 8 [.int (bI z)] w9 (fun r2 w8 => r2 = r ∧ LJE cI cJ cB (i + 1) xo o w8)) := by
  obtain ⟨rd, ln, tx, t, shm, bwm, bhm, psm, s1, s2, hsz, hg, mpa, vo, h, h2, ho, ro, ys, yw, zs, wm, h0, hm, hL⟩ := h
  refine (x_mean l D z hL.tv (hL.se hi) hL.b1 hL.cv h0).mono (fun r w9 hq => ?_)
  obtain ⟨s3, h0, hr, hs, hb3⟩ := hq
  refine ⟨by rw [hr]; exact f_mean_n32, ?_⟩
  refine (m_mean l D z hL.tvm h0 hm).mono (fun r2 w8 hq => ?_)
  obtain ⟨wm2, h0, hm, hr2⟩ := hq
  exact ⟨by rw [hr, hr2, hL.ag.xkst, hL.ag.xmvk, hL.ag.pk], LJE.of ⟨rd, ln, tx, t, shm, bwm, bhm, psm, s3, s2, hsz, hg, mpa, vo, h, h2, ho, ro, ys, yw, zs, wm2, h0, hm, (hL.space hs hb3).up (Nat.le_succ i)⟩⟩
theorem j_places (l : Launch) (D : va_G) {cI cJ cB : ClassId} {i xo o : Nat} {ws : va_W} (x : Int32) (hi : i < 2 ^ 20) (h : LJ cI cJ cB i xo o ws) : STi l D cI cJ cB yX7_places cX7_places 2 5 xo 7 [.int x] ws (fun r w9 => STi l D cI cJ cB yX8_places_ cX8_places_ 4 3 o 8 [.int x] w9 (fun r2 w8 => r2 = r ∧ LJE cI cJ cB (i + 1) xo o w8)) := by
  obtain ⟨rd, ln, tx, t, shm, bwm, bhm, psm, s1, s2, hsz, hg, mpa, vo, h, h2, ho, ro, ys, yw, zs, wm, h0, hm, hL⟩ := h
  refine (x_places l D x hL.tv (hL.se hi) hL.b1 hL.cv h0).mono (fun r w9 hq => ?_)
  obtain ⟨s3, h0, hr, hs, hb3⟩ := hq
  refine (m_places l D x hL.tvm h0 hm).mono (fun r2 w8 hq => ?_)
  obtain ⟨wm2, h0, hm, hr2⟩ := hq
  exact ⟨by rw [hr, hr2, hL.ag.placesx], LJE.of ⟨rd, ln, tx, t, shm, bwm, bhm, psm, s3, s2, hsz, hg, mpa, vo, h, h2, ho, ro, ys, yw, zs, wm2, h0, hm, (hL.space hs hb3).up (Nat.le_succ i)⟩⟩
theorem j_fingerprint (l : Launch) (D : va_G) {cI cJ cB : ClassId} {i xo o : Nat} {ws : va_W} (hi : i < 2 ^ 20) (h : LJ cI cJ cB i xo o ws) : STl l D cI cJ cB yX7_fingerprint cX7_fingerprint 5 7 xo 7 [] ws (fun r w9 => STl l D cI cJ cB yX8_fingerprint cX8_fingerprint 5 6 o 8 [] w9 (fun r2 w8 => r2 = r ∧ LJE cI cJ cB (i + 1) xo o w8)) := by
  obtain ⟨rd, ln, tx, t, shm, bwm, bhm, psm, s1, s2, hsz, hg, mpa, vo, h, h2, ho, ro, ys, yw, zs, wm, h0, hm, hL⟩ := h
  refine (x_fingerprint l D  hL.tv (hL.se hi) hL.b1 hL.cv h0).mono (fun r w9 hq => ?_)
  obtain ⟨s3, h0, hr, hs, hb3⟩ := hq
  refine (m_fingerprint l D  hL.tvm h0 hm).mono (fun r2 w8 hq => ?_)
  obtain ⟨wm2, h0, hm, hr2⟩ := hq
  exact ⟨by rw [hr, hr2, hL.ag.fp hL.tv.2.2.2.1], LJE.of ⟨rd, ln, tx, t, shm, bwm, bhm, psm, s3, s2, hsz, hg, mpa, vo, h, h2, ho, ro, ys, yw, zs, wm2, h0, hm, (hL.space hs hb3).up (Nat.le_succ i)⟩⟩
theorem j_without (l : Launch) (D : va_G) {cI cJ cB : ClassId} {i xo o : Nat} {ws : va_W} (x : Int32) (z : Bool) (hi : i < 2 ^ 20) (h : LJ cI cJ cB i xo o ws) : STi l D cI cJ cB yX7_without cX7_without 4 6 xo 7 [.int x, .int (bI z)] ws (fun r w9 => STi l D cI cJ cB yX8_without cX8_without 4 5 o 8 [.int x, .int (bI z)] w9 (fun r2 w8 => r2 = r ∧ LJE cI cJ cB (i + 1) xo o w8)) := by
  obtain ⟨rd, ln, tx, t, shm, bwm, bhm, psm, s1, s2, hsz, hg, mpa, vo, h, h2, ho, ro, ys, yw, zs, wm, h0, hm, hL⟩ := h
  refine (x_without l D x z hL.tv (hL.se hi) hL.b2 hL.cw h0).mono (fun r w9 hq => ?_)
  obtain ⟨s3, h0, hr, hs, hb3⟩ := hq
  refine (m_without l D x z hL.tvm h0 hm).mono (fun r2 w8 hq => ?_)
  obtain ⟨wm2, h0, hm, hr2⟩ := hq
  exact ⟨by rw [hr, hr2, hL.ag.without], LJE.of ⟨rd, ln, tx, t, shm, bwm, bhm, psm, s1, s3, hsz, hg, mpa, vo, h, h2, ho, ro, ys, yw, zs, wm2, h0, hm, (hL.trial hs hb3).up (Nat.le_succ i)⟩⟩
theorem j_step (l : Launch) (D : va_G) {cI cJ cB : ClassId} {i xo o : Nat} {ws : va_W} (x : Int32) (y : Int32) (hi : i < 2 ^ 20) (h : LJ cI cJ cB i xo o ws) : STi l D cI cJ cB yX7_step cX7_step 4 4 xo 7 [.int x, .int y] ws (fun r w9 => STi l D cI cJ cB yX8_step cX8_step 4 3 o 8 [.int x, .int y] w9 (fun r2 w8 => r2 = r ∧ LJE cI cJ cB (i + 1) xo o w8)) := by
  obtain ⟨rd, ln, tx, t, shm, bwm, bhm, psm, s1, s2, hsz, hg, mpa, vo, h, h2, ho, ro, ys, yw, zs, wm, h0, hm, hL⟩ := h
  obtain ⟨se, wd, hd, nb, wl, st, sl, gl, aq, lb, sh, bw, bh, ps⟩ := t
  obtain ⟨hh, hph, hcl⟩ := LCT.mv hL
  refine (x_step l D x y hL.tv h0).mono (fun r w9 hq => ?_)
  obtain ⟨st2, sl2, lb2, ps2, sz2, hg2, h0, hr, hmv, ha1, ha2⟩ := hq
  refine (m_step l D x y hL.tvm hph h0 hm).mono (fun r2 w8 hq => ?_)
  obtain ⟨wm2, h0, st3, sl3, lb3, psm2, pa2, pm2, hh2, hm, hr2, hmv2, hs⟩ := hq
  have hag : AG nb sh bw bh ps shm bwm bhm psm := hL.ag
  rw [← hag.stepm] at hmv2 hs
  obtain ⟨e1, e2, e3, e4, hL2⟩ := hcl _ st2 sl2 st3 sl3 lb2 lb3 ps2 psm2 sz2 pm2 hg2 pa2 hh2 (stepm_ok hL.tv) hmv hmv2 ha1 ha2 hs
  subst e1 e2 e3 e4
  exact ⟨by rw [hr, hr2]; exact hag.stepr.symm, LJE.of ⟨rd, ln, tx, _, shm, bwm, bhm, psm2, s1, s2, _, hg2, pa2, vo, h, h2, ho, ro, ys, yw, zs, wm2, h0, hm, hL2.up (Nat.le_succ i)⟩⟩
theorem j_slide (l : Launch) (D : va_G) {cI cJ cB : ClassId} {i xo o : Nat} {ws : va_W} (x : Int32) (y : Int32) (hi : i < 2 ^ 20) (h : LJ cI cJ cB i xo o ws) : STi l D cI cJ cB yX7_slide cX7_slide 4 4 xo 7 [.int x, .int y] ws (fun r w9 => STi l D cI cJ cB yX8_slide cX8_slide 3 3 o 8 [.int x, .int y] w9 (fun r2 w8 => r2 = r ∧ LJE cI cJ cB (i + 1) xo o w8)) := by
  obtain ⟨rd, ln, tx, t, shm, bwm, bhm, psm, s1, s2, hsz, hg, mpa, vo, h, h2, ho, ro, ys, yw, zs, wm, h0, hm, hL⟩ := h
  obtain ⟨se, wd, hd, nb, wl, st, sl, gl, aq, lb, sh, bw, bh, ps⟩ := t
  obtain ⟨hh, hph, hcl⟩ := LCT.mv hL
  refine (x_slide l D x y hL.tv h0).mono (fun r w9 hq => ?_)
  obtain ⟨st2, sl2, lb2, ps2, sz2, hg2, h0, hr, hmv, ha1, ha2⟩ := hq
  refine (m_slide l D x y hL.tvm hph h0 hm).mono (fun r2 w8 hq => ?_)
  obtain ⟨wm2, h0, st3, sl3, lb3, psm2, pa2, pm2, hh2, hm, hr2, hmv2, hs⟩ := hq
  have hag : AG nb sh bw bh ps shm bwm bhm psm := hL.ag
  rw [← hag.slidem] at hmv2 hs
  obtain ⟨e1, e2, e3, e4, hL2⟩ := hcl _ st2 sl2 st3 sl3 lb2 lb3 ps2 psm2 sz2 pm2 hg2 pa2 hh2 slidem_ok hmv hmv2 ha1 ha2 hs
  subst e1 e2 e3 e4
  exact ⟨by rw [hr, hr2]; exact hag.slider.symm, LJE.of ⟨rd, ln, tx, _, shm, bwm, bhm, psm2, s1, s2, _, hg2, pa2, vo, h, h2, ho, ro, ys, yw, zs, wm2, h0, hm, hL2.up (Nat.le_succ i)⟩⟩
theorem j_goal (l : Launch) (D : va_G) {cI cJ cB : ClassId} {i xo o : Nat} {ws : va_W} (x : Int32) (y : Int32) (hi : i < 2 ^ 20) (h : LJ cI cJ cB i xo o ws) : STi l D cI cJ cB yX7_goal cX7_goal 3 4 xo 7 [.int x, .int y] ws (fun r w9 => STi l D cI cJ cB yX8_goal cX8_goal 3 2 o 8 [.int x, .int y] w9 (fun r2 w8 => r2 = r ∧ LJE cI cJ cB (i + 1) xo o w8)) := by
  obtain ⟨rd, ln, tx, t, shm, bwm, bhm, psm, s1, s2, hsz, hg, mpa, vo, h, h2, ho, ro, ys, yw, zs, wm, h0, hm, hL⟩ := h
  obtain ⟨se, wd, hd, nb, wl, st, sl, gl, aq, lb, sh, bw, bh, ps⟩ := t
  obtain ⟨hh, hph, hcl⟩ := LCT.gld hL
  refine (x_goal l D x y hL.tv h0).mono (fun r w9 hq => ?_)
  obtain ⟨gl2, aq2, sz2, hg2, h0, hr, hmv, ha1, ha2⟩ := hq
  refine (m_goal l D x y hL.tvm hph h0 hm).mono (fun r2 w8 hq => ?_)
  obtain ⟨wm2, h0, gl3, aq3, pa2, pm2, hh2, hm, hr2, hmv2, hs⟩ := hq
  have hag : AG nb sh bw bh ps shm bwm bhm psm := hL.ag
  rw [← hag.goalm] at hmv2 hs
  obtain ⟨e1, e2, e3, hL2⟩ := hcl x y gl2 aq2 gl3 aq3 sz2 pm2 hg2 pa2 hh2 hmv hmv2 ha1 ha2 hs
  subst e1 e2 e3
  exact ⟨by rw [hr, hr2]; exact hag.goalr.symm, LJE.of ⟨rd, ln, tx, _, shm, bwm, bhm, psm, s1, s2, _, hg2, pa2, vo, h, h2, ho, ro, ys, yw, zs, wm2, h0, hm, hL2.up (Nat.le_succ i)⟩⟩
theorem j_follow (l : Launch) (D : va_G) {cI cJ cB : ClassId} {i xo o : Nat} {ws : va_W} (z : Bool) (hi : i < 2 ^ 20) (h : LJ cI cJ cB i xo o ws) : STi l D cI cJ cB yX7_follow cX7_follow 5 7 xo 7 [.int (bI z)] ws (fun r w9 => STi l D cI cJ cB yX8_follow cX8_follow 4 6 o 8 [.int (bI z)] w9 (fun r2 w8 => r2 = r ∧ LJE cI cJ cB (i + 1) xo o w8)) := by
  obtain ⟨rd, ln, tx, t, shm, bwm, bhm, psm, s1, s2, hsz, hg, mpa, vo, h, h2, ho, ro, ys, yw, zs, wm, h0, hm, hL⟩ := h
  obtain ⟨se, wd, hd, nb, wl, st, sl, gl, aq, lb, sh, bw, bh, ps⟩ := t
  refine (x_follow l D z hL.tv (hL.se hi) hL.b1 hL.cv h0).mono (fun r w9 hq => ?_)
  obtain ⟨s3, st2, sl2, lb2, ps2, sz2, hg2, h0, hr, hmv, ⟨ha1, ha2⟩, hs3, hb3⟩ := hq
  have hL3 := hL.space hs3 hb3
  obtain ⟨hh, hph, hcl⟩ := LCT.mv hL3
  refine (m_follow l D z hL.tvm hph h0 hm).mono (fun r2 w8 hq => ?_)
  obtain ⟨wm2, h0, st3, sl3, lb3, psm2, pa2, pm2, hh2, hm, hr2, hmv2, hs⟩ := hq
  have hag : AG nb sh bw bh ps shm bwm bhm psm := hL.ag
  rw [← hag.folm] at hmv2 hs
  obtain ⟨e1, e2, e3, e4, hL2⟩ := hcl _ st2 sl2 st3 sl3 lb2 lb3 ps2 psm2 sz2 pm2 hg2 pa2 hh2 folm_ok hmv hmv2 ha1 ha2 hs
  subst e1 e2 e3 e4
  exact ⟨by rw [hr, hr2]; exact hag.folr.symm, LJE.of ⟨rd, ln, tx, _, shm, bwm, bhm, psm2, s3, s2, _, hg2, pa2, vo, h, h2, ho, ro, ys, yw, zs, wm2, h0, hm, hL2.up (Nat.le_succ i)⟩⟩
theorem j_hardest (l : Launch) (D : va_G) {cI cJ cB : ClassId} {i xo o : Nat} {ws : va_W} (z : Bool) (hi : i < 2 ^ 20) (h : LJ cI cJ cB i xo o ws) : STi l D cI cJ cB yX7_hardest cX7_hardest 3 6 xo 7 [.int (bI z)] ws (fun r w9 => STi l D cI cJ cB yX8_hardest cX8_hardest 5 5 o 8 [.int (bI z)] w9 (fun r2 w8 => r2 = r ∧ LJE cI cJ cB (i + 1) xo o w8)) := by
  obtain ⟨rd, ln, tx, t, shm, bwm, bhm, psm, s1, s2, hsz, hg, mpa, vo, h, h2, ho, ro, ys, yw, zs, wm, h0, hm, hL⟩ := h
  obtain ⟨se, wd, hd, nb, wl, st, sl, gl, aq, lb, sh, bw, bh, ps⟩ := t
  refine (x_hardest l D z hL.tv (hL.se hi) hL.b1 hL.cv h0).mono (fun r w9 hq => ?_)
  obtain ⟨s3, st2, sl2, lb2, ps2, sz2, hg2, h0, hr, hmv, ⟨ha1, ha2⟩, hs3, hb3⟩ := hq
  have hL3 := hL.space hs3 hb3
  obtain ⟨hh, hph, hcl⟩ := LCT.hrd hL3
  refine (m_hardest l D z hL.tvm hph h0 hm).mono (fun r2 w8 hq => ?_)
  obtain ⟨wm2, h0, st3, sl3, lb3, psm2, pa2, pm2, hh2, hm, hr2, hmv2, hs⟩ := hq
  have hag : AG nb sh bw bh ps shm bwm bhm psm := hL.ag
  rw [← hag.hardx] at hmv2 hs
  obtain ⟨e1, e2, e3, e4, hL2⟩ := hcl z st2 sl2 st3 sl3 lb2 lb3 ps2 psm2 sz2 pm2 hg2 pa2 hh2  hmv hmv2 ha1 ha2 hs
  subst e1 e2 e3 e4
  exact ⟨by rw [hr, hr2]; exact hag.hardr.symm, LJE.of ⟨rd, ln, tx, _, shm, bwm, bhm, psm2, s3, s2, _, hg2, pa2, vo, h, h2, ho, ro, ys, yw, zs, wm2, h0, hm, hL2.up (Nat.le_succ i)⟩⟩
theorem j_undo (l : Launch) (D : va_G) {cI cJ cB : ClassId} {i xo o : Nat} {ws : va_W} (hi : i < 2 ^ 20) (h : LJ cI cJ cB i xo o ws) : STi l D cI cJ cB yX7_undo cX7_undo 1 4 xo 7 [] ws (fun r w9 => STi l D cI cJ cB yX8_undo cX8_undo 2 0 o 8 [] w9 (fun r2 w8 => r2 = r ∧ LJE cI cJ cB (i + 1) xo o w8)) := by
  obtain ⟨rd, ln, tx, t, shm, bwm, bhm, psm, s1, s2, hsz, hg, mpa, vo, h, h2, ho, ro, ys, yw, zs, wm, h0, hm, hL⟩ := h
  obtain ⟨hh, hph, hcl⟩ := LCT.und hL
  refine (x_undo l D h0).mono (fun r w9 hq => ?_)
  obtain ⟨t2, h0, hr, u1, u2⟩ := hq
  refine (m_undo l D hph h0 hm).mono (fun r2 w8 hq => ?_)
  obtain ⟨wm1, h0, v2, hm, hr2, v1, v3⟩ := hq
  obtain ⟨sh2, bw2, bh2, ps2, hv, hL2⟩ := hcl t2 v2 u1 u2 v1 v3
  obtain ⟨wm2, hm, ha, hP⟩ := PMo_re hv hm
  obtain ⟨ws3, hI, h0⟩ := PCS_re h0 ha hP
  exact ⟨by rw [hr, hr2], ws3, hI, rd, ln, tx, t2, sh2, bw2, bh2, ps2, s1, s2, hsz - 1, hg, mpa, vo, h, h2, ho, ro, ys, yw, zs, wm2, h0, hm, hL2.up (Nat.le_succ i)⟩
theorem j_read (l : Launch) (D : va_G) {cI cJ cB : ClassId} {i xo o : Nat} {ws : va_W} (hi : i < 2 ^ 20) (h : LJ cI cJ cB i xo o ws) : STi l D cI cJ cB yX7_read cX7_read 2 5 xo 7 [] ws (fun r w9 => STi l D cI cJ cB yX8_read cX8_read 3 3 o 8 [] w9 (fun r2 w8 => r2 = r ∧ LJE cI cJ cB (i + 1) xo o w8)) := by
  obtain ⟨rd, ln, tx, t, shm, bwm, bhm, psm, s1, s2, hsz, hg, mpa, vo, h, h2, ho, ro, ys, yw, zs, wm, h0, hm, hL⟩ := h
  obtain ⟨a1, a2, a3, a4, a5, a6, G, hh, hb, hk, hw, hph, ho2⟩ := id hL
  refine (x_read l D hL.2.1 hL.2.2.1 h0).mono (fun r w9 hq => ?_)
  obtain ⟨t2, rd7, ln7, sz2, hg2, h0, hx⟩ := hq
  refine (m_read l D hL.2.1 hL.2.2.1 hph h0 hm).mono (fun r2 w8 hq => ?_)
  obtain ⟨wm2, h08, wd2, hd2, nb2, wl2, st2, sl2, gl2, aq2, lb2, sh2, bw2, bh2, ps2, pa2, pm2, ty2, hm8, hy⟩ := hq
  rcases hx with ⟨⟨e, he, -, hr⟩, rfl, rfl, rfl, rfl, rfl⟩ | ⟨cl, hrd, hr, hwl, hsp, ⟨b1, b2, b3, b4, b5⟩, hse, rfl, rfl, rfl, rfl⟩
  · rcases hy with ⟨⟨e2, he2, -, hr2⟩, ⟨rfl, rfl, rfl, rfl, rfl, rfl, rfl, rfl, rfl, rfl, rfl, rfl, rfl⟩, rfl, rfl, rfl⟩ | ⟨cl2, hrd2, -⟩
    · exact ⟨by rw [hr, hr2, RDW_u he he2], LJE.of ⟨_, _, tx, _, _, _, _, _, s1, s2, _, _, _, vo, h, h2, ho, ro, ys, yw, zs, wm2, h08, hm8, hL.up (Nat.le_succ i)⟩⟩
    · exact (RDW_RDR he hrd2).elim
  · rcases hy with ⟨⟨e2, he2, -⟩, -⟩ | ⟨cl2, hrd2, hr2, hwl2, hsp2, ⟨d1, d2, d3, d4, d5⟩, hp2, rfl, rfl⟩
    · exact (RDW_RDR he2 hrd).elim
    · obtain ⟨se7, wd7, hd7, nb7, wl7, st7, sl7, gl7, aq7, lb7, sh7, bw7, bh7, ps7⟩ := t2
      dsimp only [tse, twd, thd, tnb, twl, tst, tsl, tgl, taq, tlb, tsh, tbw, tbh, tps] at hrd hr hwl hsp b1 b2 b3 b4 b5 hse
      obtain ⟨rfl, rfl, rfl, rfl⟩ := RDR_u hrd hrd2
      subst hwl hwl2 b1 b2 b3 b4 b5 d1 d2 d3 d4 d5 hse
      have hag := SHP_AG hsp hsp2
      have htv := RDR_TV hrd rfl hsp
      exact ⟨by rw [hr, hr2], LJE.of ⟨rd + 1, 0, tx, _, sh2, bw2, bh2, ps2, s1, s2, _, _, pa2, vo, h, h2, ho, ro, ys, yw, zs, wm2, h08, hm8, LCT.rdg (h2 := hh) (by omega) a3 a5 a6 hb a4 hk hw ho2 rfl htv hag hp2⟩⟩
