/-- the set with the neighbours of its cells, cell by cell -/
def spr1 (wd i : Nat) : Nat := if 0 < i % wd then 1 <<< (i - 1) else 0
def spr2 (wd i : Nat) : Nat := if i % wd < wd - 1 then 1 <<< (i + 1) else 0
def spr3 (wd i : Nat) : Nat := if wd ≤ i then 1 <<< (i - wd) else 0
def spr4 (wd hd i : Nat) : Nat := if i + wd < wd * hd then 1 <<< (i + wd) else 0
def spr (wd hd s : Nat) : Nat → Nat
  | 0 => s
  | i + 1 => if s.testBit i then (((spr wd hd s i ||| spr1 wd i) ||| spr2 wd i) ||| spr3 wd i) ||| spr4 wd hd i else spr wd hd s i
theorem spr_t {wd hd s i : Nat} (h : (s >>> i) &&& 1 = 1) : (((spr wd hd s i ||| spr1 wd i) ||| spr2 wd i) ||| spr3 wd i) ||| spr4 wd hd i = spr wd hd s (i + 1) := by
  show _ = if s.testBit i then _ else _; rw [if_pos (bit_1.mp h)]
theorem spr_f {wd hd s i : Nat} (h : ¬ (s >>> i) &&& 1 = 1) : spr wd hd s i = spr wd hd s (i + 1) := by
  show _ = if s.testBit i then _ else _; rw [if_neg (fun h2 => h (bit_1.mpr h2))]
theorem mod_pos {i w : Nat} (h : ¬ i % w = 0) : 0 < i := Nat.pos_of_ne_zero (fun e => h (by rw [e]; exact Nat.zero_mod w))
theorem or_lt24 {a b n : Nat} (ha : a < 2 ^ n) (hb : b < 2 ^ n) : a ||| b < 2 ^ n := Nat.or_lt_two_pow ha hb
theorem shl_lt24 {i n : Nat} (h : i < n) : 1 <<< i < 2 ^ n := by rw [Nat.one_shiftLeft]; exact Nat.pow_lt_pow_right (by decide) h
theorem spr_lt {wd hd s n : Nat} (hs : s < 2 ^ n) (hn : wd * hd ≤ n) : ∀ {i}, i ≤ wd * hd → spr wd hd s i < 2 ^ n := by
  intro i
  induction i with
  | zero => intro _; exact hs
  | succ i ih =>
    intro h
    have h0 : 0 < 2 ^ n := Nat.two_pow_pos n
    show (if s.testBit i then _ else _) < _
    have hm : i % wd < wd - 1 → i + 1 < wd * hd := fun h1 => by
      by_cases e : i + 1 = wd * hd
      · exfalso
        have h2 : (i + 1) % wd = 0 := by rw [e]; exact Nat.mul_mod_right wd hd
        have h3 : (i + 1) % wd = i % wd + 1 := by
          rw [Nat.add_mod]
          by_cases hw : wd = 1
          · subst hw; omega
          · rw [Nat.mod_eq_of_lt (a := 1) (by omega), Nat.mod_eq_of_lt (by omega)]
        omega
      · omega
    split
    · refine or_lt24 (or_lt24 (or_lt24 (or_lt24 (ih (by omega)) ?_) ?_) ?_) ?_
      · unfold spr1; split
        · exact shl_lt24 (by omega)
        · exact h0
      · unfold spr2; split
        · rename_i e; have := hm e; exact shl_lt24 (by omega)
        · exact h0
      · unfold spr3; split
        · exact shl_lt24 (by omega)
        · exact h0
      · unfold spr4; split
        · exact shl_lt24 (by omega)
        · exact h0
    · exact ih (by omega)
/-- the lowest cell of a set, as a set -/
def lob (g : Nat) : Nat := (nI g &&& -nI g).toBitVec.toNat
theorem lob_eq (g : Nat) : nI (lob g) = nI g &&& -nI g := nI_inj32 (by rw [nI_tn]; exact Nat.mod_eq_of_lt (BitVec.isLt _))
theorem lob_le {g : Nat} (h : g < 2 ^ 31) : lob g ≤ g := by
  show ((nI g).toBitVec &&& (-nI g).toBitVec).toNat ≤ g
  rw [BitVec.toNat_and, nI_tn, Nat.mod_eq_of_lt (by omega)]
  exact Nat.and_le_left
/-- grown from its lowest cell inside the set -/
def grow (wd hd g : Nat) : Nat → Nat
  | 0 => lob g
  | i + 1 => spr wd hd (grow wd hd g i) (wd * hd) &&& g
theorem grow_le {wd hd g : Nat} (h : g < 2 ^ 31) : ∀ i, grow wd hd g i ≤ g
  | 0 => lob_le h
  | _ + 1 => Nat.and_le_right
def isone (wd hd g : Nat) : Bool := decide (grow wd hd g 24 = g)
