/-! 28.lex: least minded, then the first row of houses -/
/-- the row of houses as one number -/
def rowW (h k : Nat) : Int := h * 8 ^ (7 - k)
def wC (md : Nat → Nat → Int) (h k : Nat) : Int := md h k * 16777216 + rowW h k
theorem smN_lin {f g : Nat → Int} {X : Nat} (c : Int) : ∀ m, smN (fun k => f k * c + g k) X m = smN f X m * c + smN g X m
  | 0 => by simp [smN]
  | m + 1 => by
    unfold smN
    rw [smN_lin c m, Int.add_mul]
    split
    · omega
    · simp
theorem wt_wC {md : Nat → Nat → Int} {X : Nat} {a : Nat → Nat} : wt (wC md) X a = wt md X a * 16777216 + wt rowW X a := smN_lin 16777216 8
/-- digits below key m of the row -/
def rowN (a : Nat → Nat) (X : Nat) (m : Nat) : Int := smN (fun k => rowW (a k) k) X m
theorem rowN8 (a : Nat → Nat) (X : Nat) : wt rowW X a = rowN a X 8 := rfl
theorem pow8_7 : ∀ m : Nat, m < 8 → (8 : Int) ^ (7 - m) * 8 = if m = 0 then 16777216 else 8 ^ (7 - (m - 1)) := by decide
theorem row_low {a b : Nat → Nat} {X m : Nat} (ha : ∀ k, k < 8 → X.testBit k = true → a k < 8) : ∀ n, m + n = 8 → 0 ≤ rowN a X 8 - rowN a X m ∧ rowN a X 8 - rowN a X m < (if m = 0 then 16777216 else 8 ^ (7 - (m - 1))) := by
  intro n
  induction n generalizing m with
  | zero =>
    intro h
    have : m = 8 := by omega
    subst this
    rw [Int.sub_self]
    decide
  | succ n ih =>
    intro h
    have hm : m < 8 := by omega
    have i := ih (m := m + 1) (by omega)
    rw [if_neg (by omega), Nat.add_sub_cancel] at i
    have e : rowN a X (m + 1) = rowN a X m + (if X.testBit m then rowW (a m) m else 0) := rfl
    have p := pow8_7 m hm
    have hp : (0 : Int) < 8 ^ (7 - m) := Int.pow_pos (by decide)
    rw [← p]
    cases hx : X.testBit m
    · rw [hx] at e
      simp at e
      omega
    · rw [hx] at e
      simp only [if_true] at e
      have h1 := ha m hm hx
      have h2 : rowW (a m) m ≤ 7 * 8 ^ (7 - m) := by
        unfold rowW
        exact Int.mul_le_mul_of_nonneg_right (by omega) (Int.le_of_lt hp)
      have h3 : 0 ≤ rowW (a m) m := Int.mul_nonneg (by omega) (Int.le_of_lt hp)
      omega
theorem row_bd {a : Nat → Nat} {X : Nat} (ha : ∀ k, k < 8 → X.testBit k = true → a k < 8) : 0 ≤ wt rowW X a ∧ wt rowW X a < 16777216 := by
  have := row_low (a := a) (b := a) (X := X) (m := 0) ha 8 rfl
  have e : rowN a X 0 = 0 := rfl
  rw [e, Int.sub_zero, if_pos rfl] at this
  exact this
/-- the digit of a key -/
theorem row_digit {a : Nat → Nat} {X k : Nat} (ha : ∀ k, k < 8 → X.testBit k = true → a k < 8) (hk : k < 8) (hx : X.testBit k = true) : wt rowW X a / 8 ^ (7 - k) % 8 = a k := by
  have h1 := row_low (a := a) (b := a) (X := X) (m := k + 1) ha (7 - k) (by omega)
  rw [if_neg (by omega), Nat.add_sub_cancel] at h1
  have e : rowN a X (k + 1) = rowN a X k + rowW (a k) k := by
    show rowN a X k + (if X.testBit k then rowW (a k) k else 0) = _
    rw [hx]; rfl
  have hp : (0 : Int) < 8 ^ (7 - k) := Int.pow_pos (by decide)
  have hd : ∀ m, m ≤ k → ∃ q : Int, rowN a X m = q * (8 ^ (7 - k) * 8) := by
    intro m
    induction m with
    | zero => intro _; exact ⟨0, by simp [rowN, smN]⟩
    | succ m ih =>
      intro hm
      obtain ⟨q, hq⟩ := ih (by omega)
      have e2 : rowN a X (m + 1) = rowN a X m + (if X.testBit m then rowW (a m) m else 0) := rfl
      cases hxm : X.testBit m
      · rw [hxm] at e2; simp at e2; exact ⟨q, by rw [e2, hq]⟩
      · rw [hxm] at e2
        simp only [if_true] at e2
        refine ⟨q + a m * 8 ^ (k - m - 1), ?_⟩
        rw [e2, hq, Int.add_mul]
        congr 1
        unfold rowW
        have : 7 - m = (k - m - 1) + ((7 - k) + 1) := by omega
        rw [this, Int.pow_add, Int.pow_succ 8 (7 - k), Int.mul_assoc]
  obtain ⟨q, hq⟩ := hd k (Nat.le_refl _)
  have hw : wt rowW X a = rowN a X 8 := rfl
  have e3 : wt rowW X a = (rowN a X 8 - rowN a X (k + 1)) + (q * 8 + a k) * 8 ^ (7 - k) := by
    rw [hw, Int.add_mul]
    have : rowW (a k) k = a k * 8 ^ (7 - k) := rfl
    rw [Int.mul_assoc q 8, Int.mul_comm 8 (8 ^ (7 - k))]
    omega
  rw [e3, Int.add_mul_ediv_right _ _ (by omega), Int.ediv_eq_zero_of_lt h1.1 h1.2, Int.zero_add]
  have := ha k hk hx
  omega
/-- two rows that part at key k -/
theorem row_less {a b : Nat → Nat} {X k : Nat} (ha : ∀ k, k < 8 → X.testBit k = true → a k < 8) (hb : ∀ k, k < 8 → X.testBit k = true → b k < 8) (hk : k < 8) (hx : X.testBit k = true) (he : ∀ j, j < k → X.testBit j = true → a j = b j) (hl : a k < b k) : wt rowW X a < wt rowW X b := by
  have h1 := row_low (a := a) (b := a) (X := X) (m := k + 1) ha (7 - k) (by omega)
  have h2 := row_low (a := b) (b := b) (X := X) (m := k + 1) hb (7 - k) (by omega)
  rw [if_neg (by omega), Nat.add_sub_cancel] at h1 h2
  have e1 : rowN a X (k + 1) = rowN a X k + rowW (a k) k := by
    show rowN a X k + (if X.testBit k then rowW (a k) k else 0) = _
    rw [hx]; rfl
  have e2 : rowN b X (k + 1) = rowN b X k + rowW (b k) k := by
    show rowN b X k + (if X.testBit k then rowW (b k) k else 0) = _
    rw [hx]; rfl
  have e3 : rowN a X k = rowN b X k := smN_cong k fun j hj hxj => by rw [he j hj hxj]
  have hp : (0 : Int) < 8 ^ (7 - k) := Int.pow_pos (by decide)
  have e4 : rowW (a k) k + 8 ^ (7 - k) ≤ rowW (b k) k := by
    unfold rowW
    have : ((a k : Int) + 1) * 8 ^ (7 - k) ≤ b k * 8 ^ (7 - k) := Int.mul_le_mul_of_nonneg_right (by omega) (Int.le_of_lt hp)
    rw [Int.add_mul, Int.one_mul] at this
    exact this
  have hwa : wt rowW X a = rowN a X 8 := rfl
  have hwb : wt rowW X b = rowN b X 8 := rfl
  omega
/-- the class's least weight against the reference's -/
theorem Lst_lex {ok : Nat → Nat → Prop} {md : Nat → Nat → Int} {n X : Nat} {v u : Int} (hn : n ≤ 6) (hmd : ∀ h k, k < 8 → 0 ≤ md h k ∧ md h k ≤ 99)
    (hv : Lst ok (wC md) 1152921504606846976 0 (fun h => h < n) X v) (hu : Lst ok md 1000001 0 (fun h => h < n) X u) :
    (v < 1152921504606846976 → u < 1000001 ∧ ∃ a, Vd ok (fun h => h < n) X a ∧ wt md X a = u ∧ v = u * 16777216 + wt rowW X a) ∧ (¬ v < 1152921504606846976 → u = 1000001 ∧ v = 1152921504606846976) := by
  have h8 : ∀ a, Vd ok (fun h => h < n) X a → ∀ k, k < 8 → X.testBit k = true → a k < 8 := fun a va k _ hx => by
    have : a k < n := va.1 k hx
    omega
  have hb : ∀ a : Nat → Nat, 0 ≤ wt md X a ∧ wt md X a ≤ 8 * 99 := fun a => sm_bd (by decide) (fun k hk => hmd _ k hk)
  refine ⟨fun hlt => ?_, fun hge => ?_⟩
  · obtain ⟨a, va, wa⟩ := hv.2.1 hlt
    have r1 := row_bd (h8 a va)
    have e := @wt_wC md X a
    have b1 := hb a
    have : u = wt md X a := by
      have c1 := hu.2.2 a va
      rcases Int.lt_or_le u 1000001 with hu1 | hu1
      · obtain ⟨b, vb, wb⟩ := hu.2.1 hu1
        have r2 := row_bd (h8 b vb)
        have c2 := hv.2.2 b vb
        have e2 := @wt_wC md X b
        omega
      · omega
    refine ⟨by omega, a, va, this.symm, by omega⟩
  · have hve : v = 1152921504606846976 := Int.le_antisymm hv.1 (by omega)
    refine ⟨?_, hve⟩
    rcases Int.lt_or_le u 1000001 with hu1 | hu1
    · obtain ⟨b, vb, wb⟩ := hu.2.1 hu1
      have r2 := row_bd (h8 b vb)
      have c2 := hv.2.2 b vb
      have e2 := @wt_wC md X b
      have := hb b
      omega
    · have := hu.1
      omega
