/-! ===== the numbers of both systems ===== -/
abbrev tyz (cI cJ cB : ClassId) : List (ClassId × FieldType) := [(cI, .int), (cJ, .long), (cB, .object "SlidingBlocks$Board")]
/-- a block or none (-9) -/
def gI : Option Nat → Int32
  | none => -9
  | some b => nI b
/-- the reference's array v -/
def vF (W H n wl : Nat) (st sl : Int32) (G : Option Nat) (aq lb : Option Nat) (sh bw bh ps : Nat → Nat) : Nat → Int32 := fun j =>
  if j < 10 then (match j with | 0 => nI W | 1 => nI H | 2 => nI n | 3 => nI wl | 4 => st | 5 => sl | 6 => gI G | 7 => gI aq | 8 => gI lb | _ => 0)
  else if j < 17 then nI (sh (j - 10)) else if j < 24 then nI (bw (j - 17)) else if j < 31 then nI (bh (j - 24)) else if j < 38 then nI (ps (j - 31)) else 0
section VF
variable {W H n wl : Nat} {st sl : Int32} {G : Option Nat} {aq lb : Option Nat} {sh bw bh ps : Nat → Nat} {b x : Nat}
theorem vF_sh (h : b < 7) : vF W H n wl st sl G aq lb sh bw bh ps (10 + b) = nI (sh b) := by
  unfold vF; rw [if_neg (by omega), if_pos (by omega), Nat.add_sub_cancel_left]
theorem vF_bw (h : b < 7) : vF W H n wl st sl G aq lb sh bw bh ps (17 + b) = nI (bw b) := by
  unfold vF; rw [if_neg (by omega), if_neg (by omega), if_pos (by omega), Nat.add_sub_cancel_left]
theorem vF_bh (h : b < 7) : vF W H n wl st sl G aq lb sh bw bh ps (24 + b) = nI (bh b) := by
  unfold vF; rw [if_neg (by omega), if_neg (by omega), if_neg (by omega), if_pos (by omega), Nat.add_sub_cancel_left]
theorem vF_ps (h : b < 7) : vF W H n wl st sl G aq lb sh bw bh ps (31 + b) = nI (ps b) := by
  unfold vF; rw [if_neg (by omega), if_neg (by omega), if_neg (by omega), if_neg (by omega), if_pos (by omega), Nat.add_sub_cancel_left]
end VF
section VU
variable (W H n wl : Nat) (st sl : Int32) (G : Option Nat) (aq lb : Option Nat) (sh bw bh ps : Nat → Nat) (x : Nat) (y : Int32) (g : Option Nat)
theorem vF_u0 : upd (vF W H n wl st sl G aq lb sh bw bh ps) 0 (nI x) = vF x H n wl st sl G aq lb sh bw bh ps := by
  funext j; unfold upd vF; by_cases h : j = 0
  · subst h; rfl
  · rw [if_neg h]; split
    · split <;> first | rfl | exact absurd rfl h
    · rfl
theorem vF_u1 : upd (vF W H n wl st sl G aq lb sh bw bh ps) 1 (nI x) = vF W x n wl st sl G aq lb sh bw bh ps := by
  funext j; unfold upd vF; by_cases h : j = 1
  · subst h; rfl
  · rw [if_neg h]; split
    · split <;> first | rfl | exact absurd rfl h
    · rfl
theorem vF_u2 : upd (vF W H n wl st sl G aq lb sh bw bh ps) 2 (nI x) = vF W H x wl st sl G aq lb sh bw bh ps := by
  funext j; unfold upd vF; by_cases h : j = 2
  · subst h; rfl
  · rw [if_neg h]; split
    · split <;> first | rfl | exact absurd rfl h
    · rfl
theorem vF_u3 : upd (vF W H n wl st sl G aq lb sh bw bh ps) 3 (nI x) = vF W H n x st sl G aq lb sh bw bh ps := by
  funext j; unfold upd vF; by_cases h : j = 3
  · subst h; rfl
  · rw [if_neg h]; split
    · split <;> first | rfl | exact absurd rfl h
    · rfl
theorem vF_u4 : upd (vF W H n wl st sl G aq lb sh bw bh ps) 4 y = vF W H n wl y sl G aq lb sh bw bh ps := by
  funext j; unfold upd vF; by_cases h : j = 4
  · subst h; rfl
  · rw [if_neg h]; split
    · split <;> first | rfl | exact absurd rfl h
    · rfl
theorem vF_u5 : upd (vF W H n wl st sl G aq lb sh bw bh ps) 5 y = vF W H n wl st y G aq lb sh bw bh ps := by
  funext j; unfold upd vF; by_cases h : j = 5
  · subst h; rfl
  · rw [if_neg h]; split
    · split <;> first | rfl | exact absurd rfl h
    · rfl
theorem vF_u6 : upd (vF W H n wl st sl G aq lb sh bw bh ps) 6 (gI g) = vF W H n wl st sl g aq lb sh bw bh ps := by
  funext j; unfold upd vF; by_cases h : j = 6
  · subst h; rfl
  · rw [if_neg h]; split
    · split <;> first | rfl | exact absurd rfl h
    · rfl
theorem vF_u7 : upd (vF W H n wl st sl G aq lb sh bw bh ps) 7 (gI g) = vF W H n wl st sl G g lb sh bw bh ps := by
  funext j; unfold upd vF; by_cases h : j = 7
  · subst h; rfl
  · rw [if_neg h]; split
    · split <;> first | rfl | exact absurd rfl h
    · rfl
theorem vF_u8 : upd (vF W H n wl st sl G aq lb sh bw bh ps) 8 (gI g) = vF W H n wl st sl G aq g sh bw bh ps := by
  funext j; unfold upd vF; by_cases h : j = 8
  · subst h; rfl
  · rw [if_neg h]; split
    · split <;> first | rfl | exact absurd rfl h
    · rfl
end VU
section VU2
variable {b : Nat} {W H n wl : Nat} {st sl : Int32} {G : Option Nat} {aq lb : Option Nat} {sh bw bh ps : Nat → Nat} {x : Nat}
theorem vF_ush (hb : b < 7) : upd (vF W H n wl st sl G aq lb sh bw bh ps) (10 + b) (nI x) = vF W H n wl st sl G aq lb (va_up sh b x) bw bh ps := by
  funext j; by_cases h : j = 10 + b
  · subst h; rw [vF_sh hb]; unfold upd va_up; simp
  · unfold upd vF; rw [if_neg h]; repeat' split
    all_goals first | rfl | (unfold va_up; rw [if_neg (by omega)])
theorem vF_ubw (hb : b < 7) : upd (vF W H n wl st sl G aq lb sh bw bh ps) (17 + b) (nI x) = vF W H n wl st sl G aq lb sh (va_up bw b x) bh ps := by
  funext j; by_cases h : j = 17 + b
  · subst h; rw [vF_bw hb]; unfold upd va_up; simp
  · unfold upd vF; rw [if_neg h]; repeat' split
    all_goals first | rfl | (unfold va_up; rw [if_neg (by omega)])
theorem vF_ubh (hb : b < 7) : upd (vF W H n wl st sl G aq lb sh bw bh ps) (24 + b) (nI x) = vF W H n wl st sl G aq lb sh bw (va_up bh b x) ps := by
  funext j; by_cases h : j = 24 + b
  · subst h; rw [vF_bh hb]; unfold upd va_up; simp
  · unfold upd vF; rw [if_neg h]; repeat' split
    all_goals first | rfl | (unfold va_up; rw [if_neg (by omega)])
theorem vF_ups (hb : b < 7) : upd (vF W H n wl st sl G aq lb sh bw bh ps) (31 + b) (nI x) = vF W H n wl st sl G aq lb sh bw bh (va_up ps b x) := by
  funext j; by_cases h : j = 31 + b
  · subst h; rw [vF_ps hb]; unfold upd va_up; simp
  · unfold upd vF; rw [if_neg h]; repeat' split
    all_goals first | rfl | (unfold va_up; rw [if_neg (by omega)])
end VU2
/-- the place of a block in a key: seven places of five bits, block 0 highest -/
def plc (k b : Nat) : Nat := k / 2 ^ (5 * (6 - b)) % 32
/-- the key with another place of a block -/
def wth (k b p : Nat) : Nat := k / 2 ^ (5 * (6 - b) + 5) * 2 ^ (5 * (6 - b) + 5) + p * 2 ^ (5 * (6 - b)) + k % 2 ^ (5 * (6 - b))
theorem wb_tb (n : Nat) : (lN n).toBitVec = BitVec.ofNat 64 n := rfl
theorem wb_inj {a b : Int64} (h : a.toBitVec = b.toBitVec) : a = b := Int64.toBitVec_inj.mp h
theorem wb_tn {n : Nat} (h : n < 2 ^ 64) : (lN n).toBitVec.toNat = n := by rw [wb_tb, BitVec.toNat_ofNat, Nat.mod_eq_of_lt h]
theorem wb_of (x : Int64) : ∃ n, n < 2 ^ 64 ∧ x = lN n := ⟨x.toBitVec.toNat, x.toBitVec.isLt, wb_inj (by rw [wb_tb]; simp)⟩
theorem wb_of32 (x : Int32) : ∃ n, n < 2 ^ 32 ∧ x = nI n := ⟨x.toBitVec.toNat, x.toBitVec.isLt, Int32.toBitVec_inj.mp (by show _ = BitVec.ofNat 32 _; simp)⟩
theorem wb_c : ∀ k, k < 64 → ((nI k).toInt64 &&& 63) = lN k := by decide +kernel
theorem wb_cu : ∀ k, k < 64 → ((nI k).toInt64.toUInt64 &&& Int64.toUInt64 63) = UInt64.ofNat k := by decide +kernel
theorem wb_sm : ∀ k, k < 64 → (BitVec.ofNat 64 k).smod 64 = BitVec.ofNat 64 k := by decide +kernel
theorem wb_pw {a b : Nat} (h : a ≤ b) : 2 ^ b = 2 ^ a * 2 ^ (b - a) := by rw [← Nat.pow_add]; congr 1; omega
theorem wb_lt2 {a b : Nat} (h : a < b) : 2 ^ a < 2 ^ b := Nat.pow_lt_pow_right (by decide) h
theorem wb_mod (n : Nat) : lN n = lN (n % 2 ^ 64) := wb_inj (by rw [wb_tb, wb_tb]; apply BitVec.eq_of_toNat_eq; rw [BitVec.toNat_ofNat, BitVec.toNat_ofNat, Nat.mod_mod])
theorem wb_shr {n k : Nat} (hn : n < 2 ^ 64) (hk : k < 64) : ((lN n).toUInt64 >>> ((nI k).toInt64.toUInt64 &&& Int64.toUInt64 63)).toInt64 = lN (n / 2 ^ k) := by
  rw [wb_cu k hk]
  apply wb_inj
  apply BitVec.eq_of_toNat_eq
  show ((lN n).toUInt64 >>> UInt64.ofNat k).toNat = (BitVec.ofNat 64 _).toNat
  have h1 : (UInt64.ofNat k).toNat = k := by
    show (BitVec.ofNat 64 k).toNat = k
    rw [BitVec.toNat_ofNat, Nat.mod_eq_of_lt (by omega)]
  have h2 : (lN n).toUInt64.toNat = n := wb_tn hn
  rw [UInt64.toNat_shiftRight, h1, h2, Nat.mod_eq_of_lt hk, Nat.shiftRight_eq_div_pow, BitVec.toNat_ofNat, Nat.mod_eq_of_lt (Nat.lt_of_le_of_lt (Nat.div_le_self _ _) hn)]
theorem wb_shl (n : Nat) {k : Nat} (hk : k < 64) : lN n <<< ((nI k).toInt64 &&& 63) = lN (n * 2 ^ k) := by
  rw [wb_c k hk]
  apply wb_inj
  rw [Int64.toBitVec_shiftLeft, wb_tb, wb_tb, wb_tb, wb_sm k hk]
  apply BitVec.eq_of_toNat_eq
  rw [BitVec.shiftLeft_eq', BitVec.toNat_shiftLeft, BitVec.toNat_ofNat, BitVec.toNat_ofNat, BitVec.toNat_ofNat, Nat.mod_eq_of_lt (show k < 2 ^ 64 by omega), Nat.shiftLeft_eq, Nat.mul_mod, Nat.mod_mod, ← Nat.mul_mod]
theorem wb_and {a b : Nat} (ha : a < 2 ^ 64) (hb : b < 2 ^ 64) : lN a &&& lN b = lN (a &&& b) := by
  apply wb_inj
  rw [Int64.toBitVec_and, wb_tb, wb_tb, wb_tb]
  apply BitVec.eq_of_toNat_eq
  rw [BitVec.toNat_and, BitVec.toNat_ofNat, BitVec.toNat_ofNat, BitVec.toNat_ofNat, Nat.mod_eq_of_lt ha, Nat.mod_eq_of_lt hb, Nat.mod_eq_of_lt (Nat.and_lt_two_pow _ hb)]
theorem wb_or {a b : Nat} (ha : a < 2 ^ 64) (hb : b < 2 ^ 64) : lN a ||| lN b = lN (a ||| b) := by
  apply wb_inj
  rw [Int64.toBitVec_or, wb_tb, wb_tb, wb_tb]
  apply BitVec.eq_of_toNat_eq
  rw [BitVec.toNat_or, BitVec.toNat_ofNat, BitVec.toNat_ofNat, BitVec.toNat_ofNat, Nat.mod_eq_of_lt ha, Nat.mod_eq_of_lt hb, Nat.mod_eq_of_lt (Nat.or_lt_two_pow ha hb)]
theorem wb_mask {n k : Nat} (hn : n < 2 ^ 64) (hk : k < 64) : lN n &&& lN (2 ^ k - 1) = lN (n % 2 ^ k) := by
  rw [wb_and hn (by have := wb_lt2 hk; omega), Nat.and_two_pow_sub_one_eq_mod]
theorem wb_a1 {n : Nat} (hn : n < 2 ^ 64) : lN n &&& 1 = lN (n % 2) := wb_mask (k := 1) hn (by decide)
theorem wb_bit {n k : Nat} (hn : n < 2 ^ 64) (hk : k < 64) : ((lN n).toUInt64 >>> ((nI k).toInt64.toUInt64 &&& Int64.toUInt64 63)).toInt64 &&& 1 = lN (n / 2 ^ k % 2) := by
  rw [wb_shr hn hk, wb_a1 (Nat.lt_of_le_of_lt (Nat.div_le_self _ _) hn)]
theorem lN_shr {n : Nat} (hn : n < 2 ^ 63) {k : Nat} (hk : k < 64) : lN n >>> ((nI k).toInt64 &&& 63) = lN (n / 2 ^ k) := by
  rw [wb_c k hk]
  apply wb_inj
  rw [Int64.toBitVec_shiftRight, wb_tb, wb_tb, wb_tb, wb_sm k hk]
  have h1 : (BitVec.ofNat 64 n).msb = false := by
    rw [BitVec.msb_eq_decide, BitVec.toNat_ofNat, decide_eq_false_iff_not]
    omega
  apply BitVec.eq_of_toNat_eq
  unfold BitVec.sshiftRight'
  rw [BitVec.sshiftRight_eq_of_msb_false h1, BitVec.toNat_ushiftRight, BitVec.toNat_ofNat, BitVec.toNat_ofNat, BitVec.toNat_ofNat, Nat.mod_eq_of_lt (by omega : n < 2 ^ 64), Nat.mod_eq_of_lt (by omega : k < 2 ^ 64), Nat.shiftRight_eq_div_pow, Nat.mod_eq_of_lt (Nat.lt_of_le_of_lt (Nat.div_le_self _ _) (by omega))]
theorem lN_andn (a b : Nat) : lN a &&& (lN b ^^^ (-1)) = lN (andn a b) := by
  refine Int64.toBitVec_inj.mp ?_
  show BitVec.ofNat 64 a &&& (BitVec.ofNat 64 b ^^^ (-1#64)) = BitVec.ofNat 64 (andn a b)
  refine BitVec.eq_of_getLsbD_eq (fun i hi => ?_)
  have h1 : ((-1#64 : BitVec 64)).getLsbD i = true := by
    have : (-1#64 : BitVec 64) = BitVec.allOnes 64 := by decide
    rw [this, BitVec.getLsbD_allOnes]
    simp [hi]
  simp only [BitVec.getLsbD_and, BitVec.getLsbD_xor, BitVec.getLsbD_ofNat, h1, andn_bit, hi]
  cases a.testBit i <;> cases b.testBit i <;> rfl
theorem lN_or (a b : Nat) : lN a ||| lN b = lN (a ||| b) := Int64.toBitVec_inj.mp (by
  show BitVec.ofNat 64 a ||| BitVec.ofNat 64 b = BitVec.ofNat 64 (a ||| b)
  rw [BitVec.ofNat_or])
theorem lN_and (a b : Nat) : lN a &&& lN b = lN (a &&& b) := Int64.toBitVec_inj.mp (by
  show BitVec.ofNat 64 a &&& BitVec.ofNat 64 b = BitVec.ofNat 64 (a &&& b)
  rw [BitVec.ofNat_and])
section NL
variable {p : Program} {l : Launch} {e : Env} {R : Room} {s : State} {m : MethodId} {args : Array Value} {below : List Frame} {meth : Method} {c : Code} {H : Heap} {locs : List Loc} {cells slots : Nat} {Q : State → Prop}
variable {cc : ByteArray} {pc : Nat} {ls : Array Slot} {rest : List Value} {a b : Nat}
theorem n_ladd (hx : p.tables.exec = Jvm.exec) (hb : c.code = cc) (hdg : decode cc pc = .ok (.ladd, 1)) 
    (k : W p l e R s m args below meth c H locs cells slots Q (F0 m (pc + 1) ls (.long (lN (a + b)) :: rest))) : W p l e R s m args below meth c H locs cells slots Q (F0 m pc ls (.long (lN b) :: .long (lN a) :: rest)) := lv_ladd hx hb hdg (by rw [lN_add]; exact k)
theorem n_lmul (hx : p.tables.exec = Jvm.exec) (hb : c.code = cc) (hdg : decode cc pc = .ok (.lmul, 1)) 
    (k : W p l e R s m args below meth c H locs cells slots Q (F0 m (pc + 1) ls (.long (lN (a * b)) :: rest))) : W p l e R s m args below meth c H locs cells slots Q (F0 m pc ls (.long (lN b) :: .long (lN a) :: rest)) := lv_lmul hx hb hdg (by rw [lN_mul]; exact k)
theorem n_land (hx : p.tables.exec = Jvm.exec) (hb : c.code = cc) (hdg : decode cc pc = .ok (.land, 1)) 
    (k : W p l e R s m args below meth c H locs cells slots Q (F0 m (pc + 1) ls (.long (lN (a &&& b)) :: rest))) : W p l e R s m args below meth c H locs cells slots Q (F0 m pc ls (.long (lN b) :: .long (lN a) :: rest)) := lv_land hx hb hdg (by rw [lN_and]; exact k)
theorem n_lor (hx : p.tables.exec = Jvm.exec) (hb : c.code = cc) (hdg : decode cc pc = .ok (.lor, 1)) 
    (k : W p l e R s m args below meth c H locs cells slots Q (F0 m (pc + 1) ls (.long (lN (a ||| b)) :: rest))) : W p l e R s m args below meth c H locs cells slots Q (F0 m pc ls (.long (lN b) :: .long (lN a) :: rest)) := lv_lor hx hb hdg (by rw [lN_or]; exact k)
theorem n_landn (hx : p.tables.exec = Jvm.exec) (hb : c.code = cc) (hdg : decode cc pc = .ok (.land, 1)) 
    (k : W p l e R s m args below meth c H locs cells slots Q (F0 m (pc + 1) ls (.long (lN (andn a b)) :: rest))) : W p l e R s m args below meth c H locs cells slots Q (F0 m pc ls (.long (lN b ^^^ (-1)) :: .long (lN a) :: rest)) := lv_land hx hb hdg (by rw [lN_andn]; exact k)
theorem n_lshl (hx : p.tables.exec = Jvm.exec) (hb : c.code = cc) (hdg : decode cc pc = .ok (.lshl, 1)) (hs : b < 64)
    (k : W p l e R s m args below meth c H locs cells slots Q (F0 m (pc + 1) ls (.long (lN (a * 2 ^ b)) :: rest))) : W p l e R s m args below meth c H locs cells slots Q (F0 m pc ls (.int (nI b) :: .long (lN a) :: rest)) := lv_lshl hx hb hdg (wb_shl a hs) k
theorem n_lshr (hx : p.tables.exec = Jvm.exec) (hb : c.code = cc) (hdg : decode cc pc = .ok (.lshr, 1)) (ha : a < 2 ^ 63) (hs : b < 64)
    (k : W p l e R s m args below meth c H locs cells slots Q (F0 m (pc + 1) ls (.long (lN (a / 2 ^ b)) :: rest))) : W p l e R s m args below meth c H locs cells slots Q (F0 m pc ls (.int (nI b) :: .long (lN a) :: rest)) := lv_lshr hx hb hdg (lN_shr ha hs) k
theorem n_lushr (hx : p.tables.exec = Jvm.exec) (hb : c.code = cc) (hdg : decode cc pc = .ok (.lushr, 1)) (ha : a < 2 ^ 64) (hs : b < 64)
    (k : W p l e R s m args below meth c H locs cells slots Q (F0 m (pc + 1) ls (.long (lN (a / 2 ^ b)) :: rest))) : W p l e R s m args below meth c H locs cells slots Q (F0 m pc ls (.int (nI b) :: .long (lN a) :: rest)) := lv_lushr hx hb hdg (wb_shr ha hs) k
end NL
theorem bi_in1 {x lo hi : Int32} (h1 : ¬ x < lo) (h2 : ¬ hi < x) : nI 1 = bI (decide (lo ≤ x) && decide (x ≤ hi)) := by
  have a : lo ≤ x := Int32.not_lt.mp h1
  have b : x ≤ hi := Int32.not_lt.mp h2
  simp [a, b, bI]
  rfl
theorem bi_in0 {x lo hi : Int32} (h : x < lo ∨ hi < x) : nI 0 = bI (decide (lo ≤ x) && decide (x ≤ hi)) := by
  rcases h with h | h
  · have a : ¬ lo ≤ x := Int32.not_le.mpr h
    simp [a, bI]
    rfl
  · have a : ¬ x ≤ hi := Int32.not_le.mpr h
    simp [a, bI]
    rfl
theorem nI_and31 (x : Nat) : x &&& 31 = x % 32 := Nat.and_two_pow_sub_one_eq_mod x 5
theorem andn_shl (k s : Nat) : andn k (31 * 2 ^ s) = k / 2 ^ (s + 5) * 2 ^ (s + 5) + k % 2 ^ s := by
  refine Nat.eq_of_testBit_eq (fun i => ?_)
  rw [andn_bit, Nat.mul_comm, Nat.testBit_two_pow_mul, Nat.mul_comm (k / 2 ^ (s + 5)), Nat.testBit_two_pow_mul_add _ (Nat.lt_of_lt_of_le (Nat.mod_lt _ (Nat.two_pow_pos s)) (Nat.pow_le_pow_right (by decide) (by omega))), Nat.testBit_div_two_pow, Nat.testBit_mod_two_pow]
  have h31 : ∀ j, Nat.testBit 31 j = decide (j < 5) := fun j => Nat.testBit_two_pow_sub_one 5 j
  rw [h31]
  by_cases h1 : i < s
  · have : ¬ s ≤ i := by omega
    simp [h1, this, show i < s + 5 by omega]
  · by_cases h2 : i < s + 5
    · simp [h1, h2, show s ≤ i by omega, show i - s < 5 by omega]
    · simp [h1, h2, show s ≤ i by omega, show ¬ i - s < 5 by omega, show i - (s + 5) + (s + 5) = i by omega, show s + 5 + (i - (s + 5)) = i by omega]
theorem wth_or {k b p : Nat} (hp : p < 32) : andn k (31 * 2 ^ (5 * (6 - b))) ||| p * 2 ^ (5 * (6 - b)) = wth k b p := by
  unfold wth
  generalize 5 * (6 - b) = s
  rw [andn_shl]
  have hlt : k % 2 ^ s < 2 ^ s := Nat.mod_lt _ (Nat.two_pow_pos s)
  have hpl : p * 2 ^ s + k % 2 ^ s < 2 ^ (s + 5) := by
    rw [Nat.pow_add]
    have : p * 2 ^ s ≤ 31 * 2 ^ s := Nat.mul_le_mul_right _ (by omega)
    omega
  have hkl : k % 2 ^ s < 2 ^ (s + 5) := by omega
  refine Nat.eq_of_testBit_eq (fun i => ?_)
  rw [Nat.testBit_or, Nat.add_assoc, Nat.mul_comm (k / 2 ^ (s + 5)), Nat.testBit_two_pow_mul_add _ hkl, Nat.testBit_two_pow_mul_add _ hpl, Nat.mul_comm p, Nat.testBit_two_pow_mul, Nat.testBit_two_pow_mul_add _ hlt, Nat.testBit_mod_two_pow]
  have hpb : ∀ j, 5 ≤ j → p.testBit j = false := fun j hj => Nat.testBit_lt_two_pow (Nat.lt_of_lt_of_le hp (Nat.pow_le_pow_right (n := 2) (by decide) hj))
  by_cases h1 : i < s
  · simp [h1, show i < s + 5 by omega, show ¬ s ≤ i by omega]
  · by_cases h2 : i < s + 5
    · simp [h1, h2, show s ≤ i by omega]
    · simp [h1, h2, hpb (i - s) (by omega)]
theorem arrV_congr {cA : ClassId} {n : Nat} {f g : Nat → Value} (h : ∀ j, j < n → f j = g j) : arrV cA n f = arrV cA n g := by
  have e : (fun j : Fin n => f j.val) = (fun j : Fin n => g j.val) := funext (fun j => h j.val j.isLt)
  unfold arrV
  rw [e]
theorem va_P_reI {D : va_G} {cl : List vw_C} {ws ws1 : va_W} {H : Heap} (k : Nat) {a : Nat} {cA : ClassId} {n : Nat} {f g : Nat → Int32} (hP : va_P D cl ws H) (he : ws[k]? = some (a, .inl (cA, n, .inl f))) (h : ∀ j, j < n → f j = g j) (hw : ws.set k (a, .inl (cA, n, .inl g)) = ws1) : va_P D cl ws1 H := by
  subst hw
  intro j q hq
  by_cases e : j = k
  · subst e
    rw [List.getElem?_set_self (List.getElem?_eq_some_iff.mp he).1] at hq
    cases hq
    have h1 := hP j _ he
    show H[a]? = some (vp_cell cA (n, .inl g))
    have h2 : vp_cell cA (n, .inl g) = vp_cell cA (n, .inl f) := by
      rw [vp_cell_i, vp_cell_i]
      exact arrV_congr (f := fun j => .int (g j)) (g := fun j => .int (f j)) (fun i hi => by rw [h i hi])
    rw [h2]
    exact h1
  · rw [List.getElem?_set_ne (fun x => e x.symm)] at hq
    exact hP j q hq
theorem va_P_reJ {D : va_G} {cl : List vw_C} {ws ws1 : va_W} {H : Heap} (k : Nat) {a : Nat} {cA : ClassId} {n : Nat} {f g : Nat → Int64} (hP : va_P D cl ws H) (he : ws[k]? = some (a, .inl (cA, n, .inr (.inl f)))) (h : ∀ j, j < n → f j = g j) (hw : ws.set k (a, .inl (cA, n, .inr (.inl g))) = ws1) : va_P D cl ws1 H := by
  subst hw
  intro j q hq
  by_cases e : j = k
  · subst e
    rw [List.getElem?_set_self (List.getElem?_eq_some_iff.mp he).1] at hq
    cases hq
    have h1 := hP j _ he
    show H[a]? = some (vp_cell cA (n, .inr (.inl g)))
    have h2 : vp_cell cA (n, .inr (.inl g)) = vp_cell cA (n, .inr (.inl f)) := by
      rw [vp_cell_l, vp_cell_l]
      exact arrV_congr (f := fun j => .long (g j)) (g := fun j => .long (f j)) (fun i hi => by rw [h i hi])
    rw [h2]
    exact h1
  · rw [List.getElem?_set_ne (fun x => e x.symm)] at hq
    exact hP j q hq
theorem gI_none {x : Option Nat} (h : ∀ d, x = some d → d < 2 ^ 31) : gI x < 0 ↔ x = none := by
  cases x with
  | none => exact ⟨fun _ => rfl, fun _ => by decide⟩
  | some d => exact ⟨fun h1 => absurd h1 (nI_pos (h d rfl)), fun h1 => by cases h1⟩
theorem gI_eq {a : Nat} {x : Option Nat} (ha : a < 2 ^ 31) (h : ∀ d, x = some d → d < 2 ^ 31) : nI a = gI x ↔ x = some a := by
  cases x with
  | none => exact ⟨fun h1 => absurd (show nI a < 0 by rw [h1]; decide) (nI_pos ha), fun h1 => by cases h1⟩
  | some d => exact ⟨fun h1 => by rw [(nI_eq ha (h d rfl)).mp h1], fun h1 => by cases h1; rfl⟩
section NG
variable {p : Program} {l : Launch} {e : Env} {R : Room} {s : State} {m : MethodId} {args : Array Value} {below : List Frame} {meth : Method} {c : Code} {H : Heap} {locs : List Loc} {cells slots : Nat} {Q : State → Prop}
variable {cc : ByteArray} {pc : Nat} {ls : Array Slot} {rest : List Value} {a : Nat} {x : Option Nat}
theorem g_icmp_eq (hx : p.tables.exec = Jvm.exec) (hb : c.code = cc) {off : Int} {tgt : Nat} (hdg : decode cc pc = .ok (.if_icmp .eq off, 3)) (ht : (pc : Int) + off = (tgt : Int)) (ha : a < 2 ^ 31) (hg : ∀ d, x = some d → d < 2 ^ 31)
    (kt : x = some a → W p l e R s m args below meth c H locs cells slots Q (F0 m tgt ls rest)) (kf : x ≠ some a → W p l e R s m args below meth c H locs cells slots Q (F0 m (pc + 3) ls rest)) : W p l e R s m args below meth c H locs cells slots Q (F0 m pc ls (.int (gI x) :: .int (nI a) :: rest)) :=
  lv_icmp_eq hx hb hdg ht (fun h => kt ((gI_eq ha hg).mp h)) (fun h => kf (fun q => h ((gI_eq ha hg).mpr q)))
theorem g_icmp_eq2 (hx : p.tables.exec = Jvm.exec) (hb : c.code = cc) {off : Int} {tgt : Nat} (hdg : decode cc pc = .ok (.if_icmp .eq off, 3)) (ht : (pc : Int) + off = (tgt : Int)) (ha : a < 2 ^ 31) (hg : ∀ d, x = some d → d < 2 ^ 31)
    (kt : x = some a → W p l e R s m args below meth c H locs cells slots Q (F0 m tgt ls rest)) (kf : x ≠ some a → W p l e R s m args below meth c H locs cells slots Q (F0 m (pc + 3) ls rest)) : W p l e R s m args below meth c H locs cells slots Q (F0 m pc ls (.int (nI a) :: .int (gI x) :: rest)) :=
  lv_icmp_eq hx hb hdg ht (fun h => kt ((gI_eq ha hg).mp h.symm)) (fun h => kf (fun q => h ((gI_eq ha hg).mpr q).symm))
theorem g_icmp_ne (hx : p.tables.exec = Jvm.exec) (hb : c.code = cc) {off : Int} {tgt : Nat} (hdg : decode cc pc = .ok (.if_icmp .ne off, 3)) (ht : (pc : Int) + off = (tgt : Int)) (ha : a < 2 ^ 31) (hg : ∀ d, x = some d → d < 2 ^ 31)
    (kt : x ≠ some a → W p l e R s m args below meth c H locs cells slots Q (F0 m tgt ls rest)) (kf : x = some a → W p l e R s m args below meth c H locs cells slots Q (F0 m (pc + 3) ls rest)) : W p l e R s m args below meth c H locs cells slots Q (F0 m pc ls (.int (gI x) :: .int (nI a) :: rest)) :=
  lv_icmp_ne hx hb hdg ht (fun h => kt (fun q => h ((gI_eq ha hg).mpr q))) (fun h => kf ((gI_eq ha hg).mp h))
theorem g_icmp_ne2 (hx : p.tables.exec = Jvm.exec) (hb : c.code = cc) {off : Int} {tgt : Nat} (hdg : decode cc pc = .ok (.if_icmp .ne off, 3)) (ht : (pc : Int) + off = (tgt : Int)) (ha : a < 2 ^ 31) (hg : ∀ d, x = some d → d < 2 ^ 31)
    (kt : x ≠ some a → W p l e R s m args below meth c H locs cells slots Q (F0 m tgt ls rest)) (kf : x = some a → W p l e R s m args below meth c H locs cells slots Q (F0 m (pc + 3) ls rest)) : W p l e R s m args below meth c H locs cells slots Q (F0 m pc ls (.int (nI a) :: .int (gI x) :: rest)) :=
  lv_icmp_ne hx hb hdg ht (fun h => kt (fun q => h ((gI_eq ha hg).mpr q).symm)) (fun h => kf ((gI_eq ha hg).mp h.symm))
theorem g_if_lt (hx : p.tables.exec = Jvm.exec) (hb : c.code = cc) {off : Int} {tgt : Nat} (hdg : decode cc pc = .ok (.ifCond .lt off, 3)) (ht : (pc : Int) + off = (tgt : Int)) (hg : ∀ d, x = some d → d < 2 ^ 31)
    (kt : x = none → W p l e R s m args below meth c H locs cells slots Q (F0 m tgt ls rest)) (kf : ∀ d, x = some d → W p l e R s m args below meth c H locs cells slots Q (F0 m (pc + 3) ls rest)) : W p l e R s m args below meth c H locs cells slots Q (F0 m pc ls (.int (gI x) :: rest)) :=
  lv_if_lt hx hb hdg ht (fun h => kt ((gI_none hg).mp h)) (fun h => by cases x with | none => exact absurd (by decide) h | some d => exact kf d rfl)
theorem g_if_ge (hx : p.tables.exec = Jvm.exec) (hb : c.code = cc) {off : Int} {tgt : Nat} (hdg : decode cc pc = .ok (.ifCond .ge off, 3)) (ht : (pc : Int) + off = (tgt : Int)) (hg : ∀ d, x = some d → d < 2 ^ 31)
    (kt : ∀ d, x = some d → W p l e R s m args below meth c H locs cells slots Q (F0 m tgt ls rest)) (kf : x = none → W p l e R s m args below meth c H locs cells slots Q (F0 m (pc + 3) ls rest)) : W p l e R s m args below meth c H locs cells slots Q (F0 m pc ls (.int (gI x) :: rest)) :=
  lv_if_ge hx hb hdg ht (fun h => by cases x with | none => exact absurd h (by decide) | some d => exact kt d rfl) (fun h => by cases x with | none => exact kf rfl | some d => exact absurd (nI_pos' (hg d rfl)) h)
end NG
theorem lN_xor (a b : Nat) : lN a ^^^ lN b = lN (a ^^^ b) := Int64.toBitVec_inj.mp (by
  show BitVec.ofNat 64 a ^^^ BitVec.ofNat 64 b = BitVec.ofNat 64 (a ^^^ b)
  rw [BitVec.ofNat_xor])
abbrev lcm (x y : Int64) : Int32 := lg_cmp x y
theorem lcm_eq {a b : Nat} (ha : a < 2 ^ 63) (hb : b < 2 ^ 63) : lcm (lN a) (lN b) = 0 ↔ a = b := by
  unfold lcm lg_cmp
  by_cases h : a = b
  · subst h
    have : ¬ lN a < lN a := by rw [pk_lLT ha ha]; omega
    simp [this]
  · constructor
    · intro h1
      split at h1
      · exact absurd h1 (by decide)
      · rw [if_neg (by rw [pk_lEQ ha hb]; exact h)] at h1
        exact absurd h1 (by decide)
    · intro h1; exact absurd h1 h
theorem lcm_ge {a b : Nat} (ha : a < 2 ^ 63) (hb : b < 2 ^ 63) : 0 ≤ lcm (lN a) (lN b) ↔ b ≤ a := by
  unfold lcm lg_cmp
  by_cases h : b < a
  · have h1 : lN a > lN b := (pk_lLT hb ha).mpr h
    simp only [h1, if_true]
    exact ⟨fun _ => by omega, fun _ => by decide⟩
  · have h1 : ¬ lN a > lN b := fun h2 => h ((pk_lLT hb ha).mp h2)
    rw [if_neg h1]
    by_cases h2 : a = b
    · subst h2
      rw [if_pos rfl]
      exact ⟨fun _ => Nat.le_refl _, fun _ => by decide⟩
    · rw [if_neg (fun h3 => h2 ((pk_lEQ ha hb).mp h3))]
      exact ⟨fun h4 => absurd h4 (by decide), fun h4 => by omega⟩
section NX
variable {p : Program} {l : Launch} {e : Env} {R : Room} {s : State} {m : MethodId} {args : Array Value} {below : List Frame} {meth : Method} {c : Code} {H : Heap} {locs : List Loc} {cells slots : Nat} {Q : State → Prop}
variable {cc : ByteArray} {pc : Nat} {ls : Array Slot} {rest : List Value} {a b : Nat}
theorem n_lxor (hx : p.tables.exec = Jvm.exec) (hb : c.code = cc) (hdg : decode cc pc = .ok (.lxor, 1))
    (k : W p l e R s m args below meth c H locs cells slots Q (F0 m (pc + 1) ls (.long (lN (a ^^^ b)) :: rest))) : W p l e R s m args below meth c H locs cells slots Q (F0 m pc ls (.long (lN b) :: .long (lN a) :: rest)) := lv_lxor hx hb hdg (by rw [lN_xor]; exact k)
theorem n_lcmp {x y : Int64} (hx : p.tables.exec = Jvm.exec) (hb : c.code = cc) (hdg : decode cc pc = .ok (.lcmp, 1))
    (k : W p l e R s m args below meth c H locs cells slots Q (F0 m (pc + 1) ls (.int (lcm x y) :: rest))) : W p l e R s m args below meth c H locs cells slots Q (F0 m pc ls (.long y :: .long x :: rest)) := W.lcmp hx hb hdg k
theorem l_if_eq (hx : p.tables.exec = Jvm.exec) (hb : c.code = cc) {off : Int} {tgt : Nat} (hdg : decode cc pc = .ok (.ifCond .eq off, 3)) (ht : (pc : Int) + off = (tgt : Int)) (ha : a < 2 ^ 63) (hb1 : b < 2 ^ 63)
    (kt : a = b → W p l e R s m args below meth c H locs cells slots Q (F0 m tgt ls rest)) (kf : a ≠ b → W p l e R s m args below meth c H locs cells slots Q (F0 m (pc + 3) ls rest)) : W p l e R s m args below meth c H locs cells slots Q (F0 m pc ls (.int (lcm (lN a) (lN b)) :: rest)) :=
  lv_if_eq hx hb hdg ht (fun h => kt ((lcm_eq ha hb1).mp h)) (fun h => kf (fun q => h ((lcm_eq ha hb1).mpr q)))
theorem l_if_ne (hx : p.tables.exec = Jvm.exec) (hb : c.code = cc) {off : Int} {tgt : Nat} (hdg : decode cc pc = .ok (.ifCond .ne off, 3)) (ht : (pc : Int) + off = (tgt : Int)) (ha : a < 2 ^ 63) (hb1 : b < 2 ^ 63)
    (kt : a ≠ b → W p l e R s m args below meth c H locs cells slots Q (F0 m tgt ls rest)) (kf : a = b → W p l e R s m args below meth c H locs cells slots Q (F0 m (pc + 3) ls rest)) : W p l e R s m args below meth c H locs cells slots Q (F0 m pc ls (.int (lcm (lN a) (lN b)) :: rest)) :=
  lv_if_ne hx hb hdg ht (fun h => kt (fun q => h ((lcm_eq ha hb1).mpr q))) (fun h => kf ((lcm_eq ha hb1).mp h))
theorem l_if_ge (hx : p.tables.exec = Jvm.exec) (hb : c.code = cc) {off : Int} {tgt : Nat} (hdg : decode cc pc = .ok (.ifCond .ge off, 3)) (ht : (pc : Int) + off = (tgt : Int)) (ha : a < 2 ^ 63) (hb1 : b < 2 ^ 63)
    (kt : b ≤ a → W p l e R s m args below meth c H locs cells slots Q (F0 m tgt ls rest)) (kf : a < b → W p l e R s m args below meth c H locs cells slots Q (F0 m (pc + 3) ls rest)) : W p l e R s m args below meth c H locs cells slots Q (F0 m pc ls (.int (lcm (lN a) (lN b)) :: rest)) :=
  lv_if_ge hx hb hdg ht (fun h => kt ((lcm_ge ha hb1).mp h)) (fun h => kf (Nat.not_le.mp (fun q => h ((lcm_ge ha hb1).mpr q))))
end NX
theorem bnar (z : Bool) : narrow .boolean (.int (bI z)) = .int (bI z) := by cases z <;> rfl
theorem bfit (z : Bool) : fits .boolean (.int (bI z)) = true := by cases z <;> rfl
