/-! 31.look: the class looks at a beat -/
theorem w32_succ {k : Nat} (h : k < 2000000000) : w32 ((k : Int) + 1) = ((k + 1 : Nat) : Int) := by rw [w32_lit (by omega)]; rfl
theorem s_lowest2 {d mc ms X : Nat} {S : MS} {C : MC} {Q : Qt} (F : Fix S) (hX : X < 256) (h : ∀ k : Nat, k < 8 → X.testBit k = true → (∀ j, X.testBit j = true → k ≤ j) → Q k S C) (h0 : X ≠ 0) : ∀ n k : Nat, k + n = 7 → (∀ j, j < k → X.testBit j = false) → K_X3_lowestKey_2 d mc ms X k S C Q := by
  intro n
  have low : ∀ k : Nat, (∀ j, j < k → X.testBit j = false) → ∀ j, X.testBit j = true → k ≤ j := fun k hk j hj => by
    rcases Nat.lt_or_ge j k with h1 | h1
    · rw [hk j h1] at hj; cases hj
    · exact h1
  induction n with
  | zero =>
    intro k hk hl
    have : k = 7 := by omega
    subst this
    refine b_X3_lowestKey_2 F ⟨fun _ => ?_, fun z => absurd (by decide) z⟩
    have hx : X.testBit 7 = true := by
      obtain ⟨j, hj⟩ := exists_bit h0
      have h1 := low 7 hl j hj
      have h2 := bit_lt8 hX hj
      have : j = 7 := by omega
      rw [← this]; exact hj
    exact h 7 (by decide) hx (low 7 hl)
  | succ n ih =>
    intro k hk hl
    refine b_X3_lowestKey_2 F ⟨fun z => by omega, fun _ => ⟨fun z => ?_, fun z => ?_⟩⟩
    · rw [w32_succ (by omega)]
      refine ih (k + 1) (by omega) (fun j hj => ?_)
      by_cases e : j = k
      · rw [isin_iff hX (by omega)] at z
        rw [e]; simpa using z
      · exact hl j (by omega)
    · rw [isin_iff hX (by omega)] at z
      exact h k (by omega) z (low k hl)
theorem s_lowestKey {d mc ms X : Nat} {S : MS} {C : MC} {Q : Qt} (F : Fix S) (hX : X < 256) (h0 : X ≠ 0) (h : ∀ k : Nat, k < 8 → X.testBit k = true → (∀ j, X.testBit j = true → k ≤ j) → Q k S C) : K_X3_lowestKey_0 d mc ms X S C Q :=
  b_X3_lowestKey_0 F (s_lowest2 F hX h h0 7 0 rfl (fun j hj => absurd hj (Nat.not_lt_zero j)))
theorem s_rowPlace {d mc ms k : Nat} {S : MS} {C : MC} {Q : Qt} (F : Fix S) (hk : k < 8) (h : Q (3 * (7 - (k : Int))) S C) : K_X3_rowPlace_0 d mc ms k S C Q := by
  refine b_X3_rowPlace_0 F ?_
  rw [w32_lit (x := 7 - (k : Int)) (by omega), w32_lit (by omega)]
  exact h
/-- what asking the class's judge tells -/
def AskC (S : MS) (C : MC) (a : Int) (b n : Nat) (mi : Int) (cn : Nat → Nat → Bool) (md : Nat → Nat → Int) : Prop :=
  ∀ (d : Nat) (C' : MC) (h k : Nat) (Q : Qt), (∀ r, (a ≤ r ∧ r < a + 8) ∨ 108 ≤ r → C' r = C r) → h < n → k < 8 →
    (∀ C'' : MC, (∀ r, r ≠ 40 → r ≠ 42 → r ≠ 43 → C'' r = C' r) → C'' 40 3 = (if cn h k then 1 else 0) → (0 ≤ C'' 40 2 ∧ C'' 40 2 ≤ 99) → (mi = 1 → C'' 40 2 = md h k) → Q 0 S C'') → K_X2_ask_0 (d + 6) 0 0 a h k b mi S C' Q
def canM (cn : Nat → Nat → Bool) (X h : Nat) : Nat := mk8 (fun k => X.testBit k && cn h k)
theorem canM_lt (cn : Nat → Nat → Bool) (X h : Nat) : canM cn X h < 256 := mk8_lt _
theorem canM_bit {cn : Nat → Nat → Bool} {X h k : Nat} (hX : X < 256) : (canM cn X h).testBit k = (X.testBit k && cn h k) := by
  unfold canM mk8
  rw [mkN_bit]
  cases hx : X.testBit k
  · simp
  · have := bit_lt8 hX hx
    simp [this]
theorem canM_sub {cn : Nat → Nat → Bool} {X h : Nat} (hX : X < 256) : mSub (canM cn X h) X := mSub_bit.mpr fun k hk => by
  rw [canM_bit hX] at hk; simp at hk; exact hk.1
def wOK (mi : Int) (md : Nat → Nat → Int) (C : MC) (h k : Nat) : Prop := ∃ m : Int, (0 ≤ m ∧ m ≤ 99) ∧ (mi = 1 → m = md h k) ∧ C 47 ((8 * h + k : Nat) : Int) = m * 16777216 + rowW h k
theorem lShl24 : ∀ m : Nat, m < 100 → lShl (m : Int) 24 = m * 16777216 := by decide +kernel
theorem lShlrow : ∀ h : Nat, h < 8 → ∀ k : Nat, k < 8 → lShl (h : Int) (3 * (7 - (k : Int))) = rowW h k := by decide +kernel
theorem rowW_bd : ∀ h : Nat, h < 8 → ∀ k : Nat, k < 8 → 0 ≤ rowW h k ∧ rowW h k < 16777216 := by decide +kernel
theorem mkN_or {p : Nat → Bool} {k : Nat} (h : p k = true) : mkN p k ||| 2 ^ k = mkN p (k + 1) := Nat.eq_of_testBit_eq fun j => by
  rw [Nat.testBit_or, Nat.testBit_two_pow, mkN_bit, mkN_bit]
  by_cases e : k = j
  · subst e; simp [h]
  · have : (j < k) = (j < k + 1) := by apply propext; omega
    simp [e, this]
theorem mkN_not {p : Nat → Bool} {k : Nat} (h : p k = false) : mkN p (k + 1) = mkN p k := by
  show mkN p k + (if p k then 2 ^ k else 0) = mkN p k
  rw [h]
  rfl
theorem iOr_zero {x : Int} (hx : in32 x) : iOr x 0 = x := by
  unfold iOr
  rw [show Int32.ofInt 0 = 0 from rfl, Int32.or_zero, toI32 hx]
theorem in32_nat {x : Nat} (h : x < 2147483648) : in32 (x : Int) := by unfold in32; omega
/-- rows that looking at a beat may change -/
def lkR (r : Int) : Prop := r = 40 ∨ r = 42 ∨ r = 43 ∨ r = 45 ∨ r = 47
theorem s_look38 {d b n X h : Nat} {a mi : Int} {S : MS} {C0 : MC} {cn : Nat → Nat → Bool} {md : Nat → Nat → Int} {Q : Qt} (F : Fix S) (ha : isSt a) (hX : X < 256) (hn : n ≤ 6) (hh : h < n) (hask : AskC S C0 a b n mi cn md) (hx0 : C0 44 9 = X)
    (hk : ∀ C' : MC, (∀ r, ¬ lkR r → C' r = C0 r) → (∀ j, j < h + 1 → C' 45 (j : Int) = canM cn X j ∧ ∀ k, k < 8 → X.testBit k = true → wOK mi md C' j k) → K_X3_lookAt_18 (d + 7) 0 0 a b mi ((h + 1 : Nat) : Int) S C' Q) :
    ∀ m k : Nat, k + m = 8 → ∀ C : MC, (∀ r, ¬ lkR r → C r = C0 r) → (∀ j, j < h → C 45 (j : Int) = canM cn X j ∧ ∀ k, k < 8 → X.testBit k = true → wOK mi md C j k) → C 45 (h : Int) = mkN (fun k => X.testBit k && cn h k) k → (∀ j, j < k → X.testBit j = true → wOK mi md C h j) → K_X3_lookAt_38 (d + 7) 0 0 a b mi h k S C Q := by
  have hst : ∀ r, (a ≤ r ∧ r < a + 8) ∨ 108 ≤ r → ¬ lkR r := fun r hr => by unfold lkR; rcases ha with h | h | h | h | h <;> omega
  intro m
  induction m with
  | zero =>
    intro k hk8 C h1 h2 h3 h4
    have : k = 8 := by omega
    subst this
    refine b_X3_lookAt_38 F ha ⟨fun _ => ?_, fun z => absurd (by decide) z⟩
    rw [w32_succ (by omega)]
    refine hk C h1 (fun j hj => ?_)
    by_cases e : j = h
    · subst e; exact ⟨h3, fun k hk hx => h4 k hk hx⟩
    · exact h2 j (by omega)
  | succ m ih =>
    intro k hk8 C h1 h2 h3 h4
    have hx9 : C 44 9 = X := by rw [h1 44 (by unfold lkR; omega)]; exact hx0
    refine b_X3_lookAt_38 F ha ⟨fun z => by omega, fun _ => ⟨fun z => ?_, fun z => ?_⟩⟩
    · rw [hx9, isin_iff hX (by omega)] at z
      rw [w32_succ (by omega)]
      have hz : X.testBit k = false := by simpa using z
      refine ih (k + 1) (by omega) C h1 h2 ?_ (fun j hj hx => ?_)
      · rw [mkN_not (by show (X.testBit k && cn h k) = false; rw [hz]; rfl)]; exact h3
      · by_cases e : j = k
        · rw [e, hz] at hx; cases hx
        · exact h4 j (by omega) hx
    · rw [hx9, isin_iff hX (by omega)] at z
      refine hask d C h k _ (fun r hr => by rw [h1 r (hst r hr)]) hh (by omega) (fun C2 g1 g2 g3 g4 => ⟨rfl, by omega, fun e => ⟨by omega, ?_⟩, fun e => ⟨by omega, ?_⟩⟩)
      · have hcn : cn h k = false := by
          cases hc : cn h k
          · rfl
          · rw [hc] at g2; simp at g2; omega
        rw [g1 45 (by decide) (by decide) (by decide), h3, iOr_zero (in32_nat (Nat.lt_trans (mkN_lt _ _) (by have := Nat.pow_le_pow_right (n := 2) (by decide) (show k ≤ 8 by omega); omega)))]
        refine s_rowPlace F (by omega) ⟨rfl, ?_⟩
        rw [w32_lit (x := (h : Int) * 8) (by omega), w32_lit (x := (h : Int) * 8 + k) (by omega), w32_succ (by omega)]
        refine ⟨by omega, ?_⟩
        have e1 := lShl24 (C2 40 2).toNat (by omega)
        rw [Int.toNat_of_nonneg g3.1] at e1
        have e2 := lShlrow h (by omega) k (by omega)
        have e3 := rowW_bd h (by omega) k (by omega)
        rw [e1, e2, w64_of (x := C2 40 2 * 16777216 + rowW h k) (by unfold in64; omega)]
        have hrow : ∀ r j, r ≠ 45 → r ≠ 47 → upC (upC C2 45 (h : Int) (mkN (fun k => X.testBit k && cn h k) k : Int)) 47 ((h : Int) * 8 + k) (C2 40 2 * 16777216 + rowW h k) r j = C2 r j := fun r j q1 q2 => by rw [upC_ne q2, upC_ne q1]
        have hw : ∀ j i : Nat, j < 8 → i < 8 → ¬ (j = h ∧ i = k) → upC (upC C2 45 (h : Int) (mkN (fun k => X.testBit k && cn h k) k : Int)) 47 ((h : Int) * 8 + k) (C2 40 2 * 16777216 + rowW h k) 47 ((8 * j + i : Nat) : Int) = C 47 ((8 * j + i : Nat) : Int) := fun j i q1 q2 q3 => by
          rw [upC_sK (by omega), upC_ne (by decide), g1 47 (by decide) (by decide) (by decide)]
        refine ih (k + 1) (by omega) _ (fun r hr => ?_) (fun j hj => ⟨?_, fun i hi hx => ?_⟩) ?_ (fun i hi hx => ?_)
        · unfold lkR at hr
          rw [← h1 r (by unfold lkR; omega), upC_ne (by omega), upC_ne (by omega), g1 r (by omega) (by omega) (by omega)]
        · rw [upC_ne (by decide), upC_sK (by omega), g1 45 (by decide) (by decide) (by decide)]
          exact (h2 j hj).1
        · obtain ⟨m, m1, m2, m3⟩ := (h2 j hj).2 i hi hx
          exact ⟨m, m1, m2, by rw [hw j i (by omega) hi (by omega)]; exact m3⟩
        · rw [upC_ne (by decide), upC_at, mkN_not (by show (X.testBit k && cn h k) = false; rw [hcn]; simp)]
        · by_cases e : i = k
          · subst e
            refine ⟨C2 40 2, g3, g4, ?_⟩
            rw [show ((8 * h + i : Nat) : Int) = (h : Int) * 8 + i by omega, upC_at]
          · obtain ⟨m, m1, m2, m3⟩ := h4 i (by omega) hx
            exact ⟨m, m1, m2, by rw [hw h i (by omega) (by omega) (by omega)]; exact m3⟩
      · have hcn : cn h k = true := by
          cases hc : cn h k
          · rw [hc] at g2; simp at g2; omega
          · rfl
        have hlt : mkN (fun k => X.testBit k && cn h k) k < 256 := Nat.lt_of_lt_of_le (mkN_lt _ _) (Nat.pow_le_pow_right (n := 2) (by decide) (show k ≤ 8 by omega))
        have hp2 : 2 ^ k < 256 := Nat.pow_lt_pow_right (by decide) (show k < 8 by omega)
        rw [g1 45 (by decide) (by decide) (by decide), h3, iShl1 k (by omega), iOr_nat (by omega) (by omega), mkN_or (by show (X.testBit k && cn h k) = true; rw [z, hcn]; rfl)]
        refine s_rowPlace F (by omega) ⟨rfl, ?_⟩
        rw [w32_lit (x := (h : Int) * 8) (by omega), w32_lit (x := (h : Int) * 8 + k) (by omega), w32_succ (by omega)]
        refine ⟨by omega, ?_⟩
        have e1 := lShl24 (C2 40 2).toNat (by omega)
        rw [Int.toNat_of_nonneg g3.1] at e1
        have e2 := lShlrow h (by omega) k (by omega)
        have e3 := rowW_bd h (by omega) k (by omega)
        rw [e1, e2, w64_of (x := C2 40 2 * 16777216 + rowW h k) (by unfold in64; omega)]
        have hw : ∀ j i : Nat, j < 8 → i < 8 → ¬ (j = h ∧ i = k) → upC (upC C2 45 (h : Int) (mkN (fun k => X.testBit k && cn h k) (k + 1) : Int)) 47 ((h : Int) * 8 + k) (C2 40 2 * 16777216 + rowW h k) 47 ((8 * j + i : Nat) : Int) = C 47 ((8 * j + i : Nat) : Int) := fun j i q1 q2 q3 => by
          rw [upC_sK (by omega), upC_ne (by decide), g1 47 (by decide) (by decide) (by decide)]
        refine ih (k + 1) (by omega) _ (fun r hr => ?_) (fun j hj => ⟨?_, fun i hi hx => ?_⟩) ?_ (fun i hi hx => ?_)
        · unfold lkR at hr
          rw [← h1 r (by unfold lkR; omega), upC_ne (by omega), upC_ne (by omega), g1 r (by omega) (by omega) (by omega)]
        · rw [upC_ne (by decide), upC_sK (by omega), g1 45 (by decide) (by decide) (by decide)]
          exact (h2 j hj).1
        · obtain ⟨m, m1, m2, m3⟩ := (h2 j hj).2 i hi hx
          exact ⟨m, m1, m2, by rw [hw j i (by omega) hi (by omega)]; exact m3⟩
        · rw [upC_ne (by decide), upC_at]
        · by_cases e : i = k
          · subst e
            refine ⟨C2 40 2, g3, g4, ?_⟩
            rw [show ((8 * h + i : Nat) : Int) = (h : Int) * 8 + i by omega, upC_at]
          · obtain ⟨m, m1, m2, m3⟩ := h4 i (by omega) hx
            exact ⟨m, m1, m2, by rw [hw h i (by omega) (by omega) (by omega)]; exact m3⟩
/-- what stands behind looking at a beat -/
def Lk (C0 C : MC) (X n : Nat) (mi : Int) (cn : Nat → Nat → Bool) (md : Nat → Nat → Int) : Prop :=
  (∀ r, ¬ lkR r → r ≠ 44 → C r = C0 r) ∧ C 44 9 = X ∧ ∀ j, j < n → C 45 (j : Int) = canM cn X j ∧ ∀ k, k < 8 → X.testBit k = true → wOK mi md C j k
theorem s_look18 {d b n X : Nat} {a mi : Int} {S : MS} {C0 : MC} {cn : Nat → Nat → Bool} {md : Nat → Nat → Int} {Q : Qt} (F : Fix S) (ha : isSt a) (hX : X < 256) (hn : n ≤ 6) (hask : AskC S C0 a b n mi cn md) (hx0 : C0 44 9 = X) (hn0 : C0 a 0 = n)
    (hk : ∀ C' : MC, (∀ r, ¬ lkR r → C' r = C0 r) → (∀ j, j < n → C' 45 (j : Int) = canM cn X j ∧ ∀ k, k < 8 → X.testBit k = true → wOK mi md C' j k) → Q 0 S C') :
    ∀ m h : Nat, h + m = n → ∀ C : MC, (∀ r, ¬ lkR r → C r = C0 r) → (∀ j, j < h → C 45 (j : Int) = canM cn X j ∧ ∀ k, k < 8 → X.testBit k = true → wOK mi md C j k) → K_X3_lookAt_18 (d + 7) 0 0 a b mi h S C Q := by
  have hst : ¬ lkR a := by unfold lkR; rcases ha with h | h | h | h | h <;> omega
  intro m
  induction m with
  | zero =>
    intro h hm C h1 h2
    have : h = n := by omega
    subst this
    refine b_X3_lookAt_18 F ha ⟨fun _ => hk C h1 h2, fun z => ?_⟩
    rw [h1 a hst, hn0] at z
    omega
  | succ m ih =>
    intro h hm C h1 h2
    refine b_X3_lookAt_18 F ha ⟨fun z => ?_, fun _ => ⟨by omega, ?_⟩⟩
    · rw [h1 a hst, hn0] at z
      omega
    · refine s_look38 (C0 := C0) F ha hX hn (by omega) hask hx0 (fun C' g1 g2 => ih (h + 1) (by omega) C' g1 g2) 8 0 rfl _ (fun r hr => ?_) (fun j hj => ⟨?_, fun k hk hx => ?_⟩) ?_ (fun j hj => absurd hj (Nat.not_lt_zero j))
      · rw [upC_ne (by unfold lkR at hr; omega)]; exact h1 r hr
      · rw [upC_sK (by omega)]; exact (h2 j hj).1
      · obtain ⟨m, m1, m2, m3⟩ := (h2 j hj).2 k hk hx
        exact ⟨m, m1, m2, by rw [upC_ne (by decide)]; exact m3⟩
      · rw [upC_at]; rfl
theorem s_lookAt {d b n X : Nat} {a mi : Int} {S : MS} {C : MC} {cn : Nat → Nat → Bool} {md : Nat → Nat → Int} {Q : Qt} (F : Fix S) (ha : isSt a) (hb : b < 16) (hX : X < 256) (hn : n ≤ 6) (hask : AskC (upP S 44 8 a) C a b n mi cn md) (hx : C (a + 4) b = X) (hn0 : C a 0 = n)
    (hk : ∀ C' : MC, Lk C C' X n mi cn md → Q 0 (upP S 44 8 a) C') : K_X3_lookAt_0 (d + 7) 0 0 a b mi S C Q := by
  have hst : a ≠ 44 := by rcases ha with h | h | h | h | h <;> omega
  refine b_X3_lookAt_0 F ha ⟨by omega, ?_⟩
  refine s_look18 (n := n) (X := X) (C0 := upC C 44 9 (C (a + 4) b)) (cn := cn) (md := md) (fix_street F) ha hX hn ?_ ?_ ?_ ?_ n 0 (by omega) _ (fun r _ => rfl) (fun j hj => absurd hj (Nat.not_lt_zero j))
  · intro d C' h k Q g1
    refine hask d C' h k Q (fun r hr => ?_)
    rw [g1 r hr, upC_ne (by rcases ha with h | h | h | h | h <;> omega)]
  · rw [upC_at, hx]
  · rw [upC_ne hst]; exact hn0
  · intro C' g1 g2
    refine hk C' ⟨fun r hr h44 => ?_, ?_, g2⟩
    · rw [g1 r hr, upC_ne h44]
    · rw [g1 44 (by unfold lkR; omega), upC_at, hx]
