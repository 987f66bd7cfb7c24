/-! 22.bits: bits of small numbers -/
theorem bvI {v : BitVec 32} (h : v.toNat < 2147483648) : v.toInt = (v.toNat : Int) := BitVec.toInt_eq_toNat_of_lt (by omega)
theorem iAnd_nat {a b : Nat} (ha : a < 2147483648) (hb : b < 2147483648) : iAnd (a : Int) (b : Int) = ((a &&& b : Nat) : Int) := by
  unfold iAnd
  rw [Int32.ofInt_eq_ofNat, Int32.ofInt_eq_ofNat]
  have e : (Int32.ofNat a &&& Int32.ofNat b).toBitVec.toNat = a &&& b := by
    rw [Int32.toBitVec_and, BitVec.toNat_and]
    show (BitVec.ofNat 32 a).toNat &&& (BitVec.ofNat 32 b).toNat = _
    rw [BitVec.toNat_ofNat, BitVec.toNat_ofNat, Nat.mod_eq_of_lt (by omega), Nat.mod_eq_of_lt (by omega)]
  show (Int32.ofNat a &&& Int32.ofNat b).toBitVec.toInt = _
  rw [bvI (by rw [e]; exact Nat.lt_of_le_of_lt Nat.and_le_left ha), e]
theorem iOr_nat {a b : Nat} (ha : a < 2147483648) (hb : b < 2147483648) : iOr (a : Int) (b : Int) = ((a ||| b : Nat) : Int) := by
  unfold iOr
  rw [Int32.ofInt_eq_ofNat, Int32.ofInt_eq_ofNat]
  have e : (Int32.ofNat a ||| Int32.ofNat b).toBitVec.toNat = a ||| b := by
    rw [Int32.toBitVec_or, BitVec.toNat_or]
    show (BitVec.ofNat 32 a).toNat ||| (BitVec.ofNat 32 b).toNat = _
    rw [BitVec.toNat_ofNat, BitVec.toNat_ofNat, Nat.mod_eq_of_lt (by omega), Nat.mod_eq_of_lt (by omega)]
  show (Int32.ofNat a ||| Int32.ofNat b).toBitVec.toInt = _
  rw [bvI (by rw [e]; exact Nat.or_lt_two_pow (n := 31) ha hb), e]
theorem iXor_nat {a b : Nat} (ha : a < 2147483648) (hb : b < 2147483648) : iXor (a : Int) (b : Int) = ((a ^^^ b : Nat) : Int) := by
  unfold iXor
  rw [Int32.ofInt_eq_ofNat, Int32.ofInt_eq_ofNat]
  have e : (Int32.ofNat a ^^^ Int32.ofNat b).toBitVec.toNat = a ^^^ b := by
    rw [Int32.toBitVec_xor, BitVec.toNat_xor]
    show (BitVec.ofNat 32 a).toNat ^^^ (BitVec.ofNat 32 b).toNat = _
    rw [BitVec.toNat_ofNat, BitVec.toNat_ofNat, Nat.mod_eq_of_lt (by omega), Nat.mod_eq_of_lt (by omega)]
  show (Int32.ofNat a ^^^ Int32.ofNat b).toBitVec.toInt = _
  rw [bvI (by rw [e]; exact Nat.xor_lt_two_pow (n := 31) ha hb), e]
theorem iShl_small : ∀ a : Nat, a < 256 → ∀ k : Nat, k < 9 → iShl (a : Int) (k : Int) = ((a <<< k : Nat) : Int) := by decide +kernel
theorem iShr_small : ∀ a : Nat, a < 256 → ∀ k : Nat, k < 9 → iShr (a : Int) (k : Int) = ((a >>> k : Nat) : Int) := by decide +kernel
/-- the sets that a loop 'mine = mine - 1 & set' comes by -/
def vis (set : Nat) : Nat → Nat → List Nat
  | 0, _ => []
  | f + 1, m => if m = 0 then [] else m :: vis set f ((m - 1) &&& set)
theorem vis_all : ∀ set : Nat, set < 256 → vis set 256 set = ((List.range 256).filter (fun x => x &&& set == x && x != 0)).reverse := by decide +kernel
