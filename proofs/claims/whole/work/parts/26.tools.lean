/-! 26.tools: masks as natural numbers; rows; folds -/
theorem iShl1 : ∀ k : Nat, k < 31 → iShl 1 (k : Int) = ((2 ^ k : Nat) : Int) := by decide +kernel
theorem isin_all : ∀ a : Nat, a < 256 → ∀ k : Nat, k < 9 → iAnd (iShr (a : Int) (k : Int)) 1 = if a.testBit k then 1 else 0 := by decide +kernel
theorem isin_iff {a k : Nat} (ha : a < 256) (hk : k < 9) : iAnd (iShr (a : Int) (k : Int)) 1 = 1 ↔ a.testBit k = true := by
  rw [isin_all a ha k hk]
  cases a.testBit k <;> simp
theorem isin_iff0 {a k : Nat} (ha : a < 256) (hk : k < 9) : iAnd (iShr (a : Int) (k : Int)) 1 = 0 ↔ a.testBit k = false := by
  rw [isin_all a ha k hk]
  cases a.testBit k <;> simp
/-- x without y -/
def mDiff (x y : Nat) : Nat := x ^^^ (x &&& y)
theorem mDiff_bit (x y k : Nat) : (mDiff x y).testBit k = (x.testBit k && !y.testBit k) := by
  unfold mDiff
  rw [Nat.testBit_xor, Nat.testBit_and]
  cases x.testBit k <;> cases y.testBit k <;> rfl
theorem mDiff_le (x y : Nat) : mDiff x y ≤ x := by
  have : mDiff x y = x &&& mDiff x y := Nat.eq_of_testBit_eq fun k => by
    rw [Nat.testBit_and, mDiff_bit]
    cases x.testBit k <;> cases y.testBit k <;> rfl
  rw [this]
  exact Nat.and_le_left
theorem iNot_nat {y : Nat} (hy : y < 2147483648) : Int32.ofInt (iXor (y : Int) (-1)) = ~~~ Int32.ofInt (y : Int) := by
  unfold iXor
  rw [Int32.ofInt_toInt, show Int32.ofInt (-1) = -1 from rfl, Int32.xor_neg_one]
theorem iDiff_nat {x y : Nat} (hx : x < 2147483648) (hy : y < 2147483648) : iAnd (x : Int) (iXor (y : Int) (-1)) = ((mDiff x y : Nat) : Int) := by
  unfold iAnd
  rw [iNot_nat hy, Int32.ofInt_eq_ofNat, Int32.ofInt_eq_ofNat]
  have e : (Int32.ofNat x &&& ~~~ Int32.ofNat y).toBitVec.toNat = mDiff x y := by
    rw [Int32.toBitVec_and, Int32.toBitVec_not, BitVec.toNat_and]
    show (BitVec.ofNat 32 x).toNat &&& (~~~ BitVec.ofNat 32 y).toNat = _
    apply Nat.eq_of_testBit_eq
    intro k
    rw [Nat.testBit_and, mDiff_bit, ← BitVec.getLsbD, ← BitVec.getLsbD, BitVec.getLsbD_not, BitVec.getLsbD_ofNat, BitVec.getLsbD_ofNat]
    by_cases hk : k < 32
    · simp [hk]
    · have hz : x.testBit k = false := Nat.testBit_lt_two_pow (Nat.lt_of_lt_of_le hx (Nat.le_trans (by decide : 2147483648 ≤ 2 ^ 32) (Nat.pow_le_pow_right (by decide) (by omega))))
      simp [hz]
  show (Int32.ofNat x &&& ~~~ Int32.ofNat y).toBitVec.toInt = _
  rw [bvI (by rw [e]; exact Nat.lt_of_le_of_lt (mDiff_le x y) hx), e]
/-- y is part of x -/
def mSub (y x : Nat) : Prop := y &&& x = y
theorem mSub_bit {y x : Nat} : mSub y x ↔ ∀ k, y.testBit k = true → x.testBit k = true := by
  constructor
  · intro h k hk
    have := congrArg (fun z => z.testBit k) h
    simp only [Nat.testBit_and, hk] at this
    simpa using this
  · intro h
    apply Nat.eq_of_testBit_eq
    intro k
    rw [Nat.testBit_and]
    cases hy : y.testBit k
    · rfl
    · rw [h k hy]; rfl
theorem mSub_le {y x : Nat} (h : mSub y x) : y ≤ x := by rw [← h]; exact Nat.and_le_right
theorem mSub_refl (x : Nat) : mSub x x := Nat.and_self x
theorem mSub_zero (x : Nat) : mSub 0 x := Nat.zero_and x
theorem mSub_trans {a b c : Nat} (h : mSub a b) (g : mSub b c) : mSub a c := mSub_bit.mpr fun k hk => mSub_bit.mp g k (mSub_bit.mp h k hk)
theorem mSub_and (x y : Nat) : mSub (x &&& y) x := mSub_bit.mpr fun k hk => by rw [Nat.testBit_and] at hk; simp at hk; exact hk.1
theorem mSub_andr (x y : Nat) : mSub (x &&& y) y := mSub_bit.mpr fun k hk => by rw [Nat.testBit_and] at hk; simp at hk; exact hk.2
theorem mSub_diff (x y : Nat) : mSub (mDiff x y) x := mSub_bit.mpr fun k hk => by rw [mDiff_bit] at hk; simp at hk; exact hk.1
theorem xor_sub {x y : Nat} (h : mSub y x) : x ^^^ y = mDiff x y := by unfold mDiff; rw [Nat.and_comm, h]
theorem mDiff_lt {x y : Nat} (h : mSub y x) (h0 : y ≠ 0) : mDiff x y < x := by
  refine Nat.lt_of_le_of_ne (mDiff_le x y) (fun e => h0 ?_)
  apply Nat.eq_of_testBit_eq
  intro k
  rw [Nat.zero_testBit]
  cases hy : y.testBit k
  · rfl
  · have h1 := mSub_bit.mp h k hy
    have h2 := mDiff_bit x y k
    rw [e, h1, hy] at h2
    simp at h2
theorem mDiff_eq_zero {x y : Nat} : mDiff x y = 0 ↔ mSub x y := by
  rw [mSub_bit]
  constructor
  · intro h k hk
    have := mDiff_bit x y k
    rw [h, Nat.zero_testBit, hk] at this
    simpa using this.symm
  · intro h
    apply Nat.eq_of_testBit_eq
    intro k
    rw [mDiff_bit, Nat.zero_testBit]
    cases hx : x.testBit k
    · rfl
    · rw [h k hx]; rfl
theorem bit_lt8 {x k : Nat} (hx : x < 256) (h : x.testBit k = true) : k < 8 := by
  rcases Nat.lt_or_ge k 8 with h1 | h1
  · exact h1
  · rw [Nat.testBit_lt_two_pow (Nat.lt_of_lt_of_le hx (Nat.le_trans (by decide : 256 ≤ 2 ^ 8) (Nat.pow_le_pow_right (by decide) h1)))] at h
    cases h
theorem vis_mem {set P : Nat} (hs : set < 256) : P ∈ vis set 256 set ↔ mSub P set ∧ P ≠ 0 := by
  rw [vis_all set hs, List.mem_reverse, List.mem_filter, List.mem_range]
  simp only [Bool.and_eq_true, beq_iff_eq, bne_iff_ne]
  constructor
  · exact fun h => h.2
  · exact fun h => ⟨Nat.lt_of_le_of_lt (mSub_le h.1) hs, h⟩
/-- folds of the least -/
theorem fold_min {α : Type} (c : α → Int) : ∀ (L : List α) (v : Int), (L.foldl (fun v x => min v (c x)) v ≤ v) ∧ (∀ x ∈ L, L.foldl (fun v x => min v (c x)) v ≤ c x) ∧ (L.foldl (fun v x => min v (c x)) v = v ∨ ∃ x ∈ L, L.foldl (fun v x => min v (c x)) v = c x)
  | [], v => ⟨Int.le_refl _, fun x hx => by simp at hx, Or.inl rfl⟩
  | y :: L, v => by
    obtain ⟨h1, h2, h3⟩ := fold_min c L (min v (c y))
    refine ⟨Int.le_trans h1 (Int.min_le_left _ _), fun x hx => ?_, ?_⟩
    · rcases List.mem_cons.mp hx with rfl | hx
      · exact Int.le_trans h1 (Int.min_le_right _ _)
      · exact h2 x hx
    · show _ ∨ _
      rcases h3 with h3 | ⟨x, hx, h3⟩
      · rcases Int.le_total v (c y) with hle | hle
        · left
          show L.foldl _ (min v (c y)) = v
          rw [h3, Int.min_eq_left hle]
        · right
          refine ⟨y, List.mem_cons_self, ?_⟩
          show L.foldl _ (min v (c y)) = c y
          rw [h3, Int.min_eq_right hle]
      · exact Or.inr ⟨x, List.mem_cons_of_mem _ hx, h3⟩
