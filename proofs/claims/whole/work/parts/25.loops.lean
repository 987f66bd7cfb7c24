/-! 25.loops: counting bits -/
def bcE (l0 : Int) : Int := iAnd (w32 ((w32 ((iAnd (w32 ((w32 ((iAnd (w32 (l0 - (iAnd (iUshr l0 1) 1431655765))) 858993459) + (iAnd (iUshr (w32 (l0 - (iAnd (iUshr l0 1) 1431655765))) 2) 858993459))) + (iUshr (w32 ((iAnd (w32 (l0 - (iAnd (iUshr l0 1) 1431655765))) 858993459) + (iAnd (iUshr (w32 (l0 - (iAnd (iUshr l0 1) 1431655765))) 2) 858993459))) 4))) 252645135) + (iUshr (iAnd (w32 ((w32 ((iAnd (w32 (l0 - (iAnd (iUshr l0 1) 1431655765))) 858993459) + (iAnd (iUshr (w32 (l0 - (iAnd (iUshr l0 1) 1431655765))) 2) 858993459))) + (iUshr (w32 ((iAnd (w32 (l0 - (iAnd (iUshr l0 1) 1431655765))) 858993459) + (iAnd (iUshr (w32 (l0 - (iAnd (iUshr l0 1) 1431655765))) 2) 858993459))) 4))) 252645135) 8))) + (iUshr (w32 ((iAnd (w32 ((w32 ((iAnd (w32 (l0 - (iAnd (iUshr l0 1) 1431655765))) 858993459) + (iAnd (iUshr (w32 (l0 - (iAnd (iUshr l0 1) 1431655765))) 2) 858993459))) + (iUshr (w32 ((iAnd (w32 (l0 - (iAnd (iUshr l0 1) 1431655765))) 858993459) + (iAnd (iUshr (w32 (l0 - (iAnd (iUshr l0 1) 1431655765))) 2) 858993459))) 4))) 252645135) + (iUshr (iAnd (w32 ((w32 ((iAnd (w32 (l0 - (iAnd (iUshr l0 1) 1431655765))) 858993459) + (iAnd (iUshr (w32 (l0 - (iAnd (iUshr l0 1) 1431655765))) 2) 858993459))) + (iUshr (w32 ((iAnd (w32 (l0 - (iAnd (iUshr l0 1) 1431655765))) 858993459) + (iAnd (iUshr (w32 (l0 - (iAnd (iUshr l0 1) 1431655765))) 2) 858993459))) 4))) 252645135) 8))) 16))) 63
/-- how many keys a set has -/
def pcn (x : Int) : Nat → Int
  | 0 => 0
  | k + 1 => pcn x k + iAnd (iShr x k) 1
def pc8 (x : Int) : Int := pcn x 8
theorem bc_all : ∀ a : Nat, a < 256 → bcE (a : Int) = pc8 (a : Int) := by decide +kernel
theorem pcn_all : ∀ a : Nat, a < 256 → ∀ k : Nat, k < 9 → 0 ≤ pcn (a : Int) k ∧ pcn (a : Int) k ≤ 8 := by decide +kernel
theorem s_bitCount {d mc ms : Nat} {x : Int} {S : MS} {C : MC} {Q : Qt} (F : Fix S) (hx : 0 ≤ x ∧ x < 256) (h : Q (pc8 x) S C) : K_J6_bitCount_0f7a4_0 d mc ms x S C Q := by
  refine b_J6_bitCount_0f7a4_0 F ?_
  show Q (bcE x) S C
  have := bc_all x.toNat (by omega)
  rw [Int.toNat_of_nonneg hx.1] at this
  rw [this]
  exact h
theorem s_ones4 {d mc ms : Nat} {x : Int} {S : MS} {C : MC} {Q : Qt} (F : Fix S) (hx : 0 ≤ x ∧ x < 256) (h : Q (pc8 x) S C) : ∀ n k : Nat, k + n = 8 → K_X11_ones_4 d mc ms x (pcn x k) (k : Int) S C Q := by
  intro n
  induction n with
  | zero =>
    intro k hk
    have : k = 8 := by omega
    subst this
    exact b_X11_ones_4 F ⟨fun _ => h, fun z => absurd (by decide) z⟩
  | succ n ih =>
    intro k hk
    refine b_X11_ones_4 F ⟨fun z => by omega, fun _ => ?_⟩
    have b := pcn_all x.toNat (by omega) (k + 1) (by omega)
    rw [Int.toNat_of_nonneg hx.1] at b
    have e : pcn x k + iAnd (iShr x (k : Int)) 1 = pcn x (k + 1) := rfl
    rw [e, w32_lit (x := pcn x (k + 1)) (by omega), w32_lit (x := (k : Int) + 1) (by omega)]
    exact ih (k + 1) (by omega)
theorem s_ones {d mc ms : Nat} {x : Int} {S : MS} {C : MC} {Q : Qt} (F : Fix S) (hx : 0 ≤ x ∧ x < 256) (h : Q (pc8 x) S C) : K_X11_ones_0 d mc ms x S C Q := b_X11_ones_0 F (s_ones4 F hx h 8 0 rfl)
/-- keys whose owner is x, as bits, in the first k of a row -/
def obn (r : Int → Int) (x : Int) : Nat → Int
  | 0 => 0
  | k + 1 => if r k = x then iOr (obn r x k) (iShl 1 k) else obn r x k
