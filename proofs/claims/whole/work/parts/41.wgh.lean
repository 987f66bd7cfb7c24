/-! 41.wgh: the class weighs parts and finds the lightest way -/
/-- the next part -/
def nxS (most : Nat) : Nat → Nat → Nat
  | 0, x => x
  | f + 1, x => if x &&& most = x then x else nxS most f (x + 1)
theorem nxS_ge (most : Nat) : ∀ f x, x ≤ nxS most f x
  | 0, x => Nat.le_refl x
  | f + 1, x => by
    unfold nxS
    split
    · exact Nat.le_refl x
    · exact Nat.le_trans (Nat.le_succ x) (nxS_ge most f (x + 1))
theorem nxS_no {most : Nat} : ∀ f x r, x ≤ r → r < nxS most f x → ¬ mSub r most
  | 0, x, r, h1, h2 => by unfold nxS at h2; omega
  | f + 1, x, r, h1, h2 => by
    unfold nxS at h2
    split at h2
    · omega
    · rename_i hz
      by_cases e : r = x
      · rw [e]; exact hz
      · exact nxS_no f (x + 1) r (by omega) h2
theorem nxS_is {most : Nat} : ∀ f x r, x ≤ r → r < x + f → mSub r most → mSub (nxS most f x) most
  | 0, x, r, h1, h2, _ => by omega
  | f + 1, x, r, h1, h2, h3 => by
    unfold nxS
    split
    · rename_i hz; exact hz
    · rename_i hz
      by_cases e : r = x
      · rw [e] at h3; exact absurd h3 hz
      · exact nxS_is f (x + 1) r (by omega) (by omega) h3
set_option maxRecDepth 100000 in
theorem nxt_all : ∀ most : Nat, most < 256 → ∀ p : Nat, p < most → (p &&& most = p) → iAnd (w32 ((p : Int) - (most : Int))) (most : Int) = ((nxS most 256 (p + 1) : Nat) : Int) := by decide +kernel
theorem nxt_ok {most p : Nat} (hm : most < 256) (hp : p < most) (hs : mSub p most) : ∃ q : Nat, iAnd (w32 ((p : Int) - (most : Int))) (most : Int) = (q : Int) ∧ p < q ∧ mSub q most ∧ ∀ r, mSub r most → p < r → q ≤ r := by
  refine ⟨nxS most 256 (p + 1), nxt_all most hm p hp hs, nxS_ge _ _ _, nxS_is 256 (p + 1) most (by omega) (by omega) (mSub_refl most), fun r hr hpr => ?_⟩
  rcases Nat.lt_or_ge r (nxS most 256 (p + 1)) with h | h
  · exact absurd hr (nxS_no 256 (p + 1) r hpr h)
  · exact h
set_option maxRecDepth 100000 in
theorem pc8_all : ∀ P : Nat, P < 256 → pc8 (P : Int) = sm (fun _ => 1) P := by decide +kernel
def spanB (P R low : Nat) : Bool := decide (iShl 2 (R : Int) ≤ iShr (P : Int) (low : Int)) == (List.range 8).any (fun j => P.testBit j && decide (low + R < j))
set_option maxRecDepth 100000 in
theorem span_all : ∀ P : Nat, P < 256 → ∀ R : Nat, R < 8 → ∀ low : Nat, low < 8 → P.testBit low = true → spanB P R low = true := by decide +kernel
theorem fit_iff {P low : Nat} {H R : Int} (hP : P < 256) (hR : 0 ≤ R ∧ R ≤ 7) (hl : low < 8) (hb : P.testBit low = true) (hlow : ∀ j, P.testBit j = true → low ≤ j) : fit H R P ↔ pc8 (P : Int) ≤ H ∧ ¬ iShl 2 R ≤ iShr (P : Int) (low : Int) := by
  have e := span_all P hP R.toNat (by omega) low hl hb
  unfold spanB at e
  rw [Int.toNat_of_nonneg hR.1] at e
  simp only [beq_iff_eq] at e
  rw [pc8_all P hP]
  unfold fit
  constructor
  · intro h
    refine ⟨h.1, fun z => ?_⟩
    rw [decide_eq_true z] at e
    have e2 := e.symm
    rw [List.any_eq_true] at e2
    obtain ⟨j, j1, j2⟩ := e2
    simp at j2
    have := h.2 low j hl (List.mem_range.mp j1) hb j2.1
    omega
  · intro h
    refine ⟨h.1, fun i j hi hj bi bj => ?_⟩
    rw [decide_eq_false h.2] at e
    have e2 := e.symm
    rw [List.any_eq_false] at e2
    have := e2 j (List.mem_range.mpr hj)
    simp [bj] at this
    have := hlow i bi
    omega
/-- the street looked at: houses, hands, reaches -/
def Bt (C : MC) (a : Int) (n : Nat) (hd rc : Nat → Int) : Prop := n ≤ 6 ∧ C a 0 = n ∧ ∀ h : Nat, h < n → C (a + 1) h = hd h ∧ C (a + 2) h = rc h ∧ (1 ≤ hd h ∧ hd h ≤ 8) ∧ 0 ≤ rc h ∧ rc h ≤ 7
theorem Bt_cong {C C' : MC} {a : Int} {n : Nat} {hd rc : Nat → Int} (h : Bt C a n hd rc) (h0 : C' a = C a) (h1 : C' (a + 1) = C (a + 1)) (h2 : C' (a + 2) = C (a + 2)) : Bt C' a n hd rc := by
  unfold Bt at h ⊢
  rw [h0, h1, h2]
  exact h
def lowB (P k : Nat) : Bool := !(P.testBit k) || (List.range 8).any (fun j => P.testBit j && decide (j < k)) || iAnd (P : Int) (w32 ((P : Int) - 1)) == ((P ^^^ 2 ^ k : Nat) : Int)
set_option maxRecDepth 100000 in
theorem lowB_all : ∀ P : Nat, P < 256 → ∀ k : Nat, k < 8 → lowB P k = true := by decide +kernel
theorem low_all {P k : Nat} (hP : P < 256) (hk : k < 8) (hb : P.testBit k = true) (hl : ∀ j : Nat, P.testBit j = true → k ≤ j) : iAnd (P : Int) (w32 ((P : Int) - 1)) = ((P ^^^ 2 ^ k : Nat) : Int) := by
  have := lowB_all P hP k hk
  unfold lowB at this
  rw [hb] at this
  simp only [Bool.or_eq_true, Bool.not_true, beq_iff_eq, List.any_eq_true] at this
  rcases this with (z | ⟨j, j1, j2⟩) | z
  · cases z
  · simp at j2
    have := hl j j2.1
    omega
  · exact z
theorem low_diff {P k : Nat} (h : P.testBit k = true) : P ^^^ 2 ^ k = mDiff P (2 ^ k) := xor_sub (pow_sub h)
theorem smN_pow {f : Nat → Int} (k : Nat) : ∀ m : Nat, smN f (2 ^ k) m = if k < m then f k else 0
  | 0 => rfl
  | m + 1 => by
    unfold smN
    rw [smN_pow k m, Nat.testBit_two_pow]
    by_cases e : k = m
    · subst e; simp
    · by_cases e2 : k < m
      · have h1 : k < m + 1 := by omega
        simp [e, e2, h1]
      · have h1 : ¬ k < m + 1 := by omega
        simp [e, e2, h1]
theorem sm_pow {f : Nat → Int} (k : Nat) (hk : k < 8) : sm f (2 ^ k) = f k := by
  unfold sm
  rw [smN_pow, if_pos hk]
/-- what a part of house h weighs: wx, or no part -/
def pwOK (C : MC) (ok : Nat → Nat → Prop) (wx : Nat → Nat → Int) (h P : Nat) : Prop := (ok h P → C 48 P = sm (wx h) P) ∧ (¬ ok h P → C 48 P = 1152921504606846976)
theorem s_weighParts {d n h X : Nat} {a : Int} {S : MS} {C : MC} {cn : Nat → Nat → Bool} {hd rc : Nat → Int} {wx : Nat → Nat → Int} {Q : Qt} (F : Fix S) (ha : isSt a) (hS : S.2.2.2.1 44 8 = a) (hB : Bt C a n hd rc) (hh : h < n) (hX : X < 256) (hc : C 45 h = canM cn X h)
    (hw : ∀ k, k < 8 → X.testBit k = true → C 47 ((8 * h + k : Nat) : Int) = wx h k ∧ 0 ≤ wx h k ∧ wx h k ≤ 2000000000)
    (hk : ∀ C' : MC, Fp (fun x _ => x = 48) C C' → (∀ P, mSub P (canM cn X h) → pwOK C' (okP cn hd rc) wx h P) → Q 0 S C') : K_X3_weighParts_0 (d + 1) 0 0 h S C Q := by
  obtain ⟨b1, b2, b3⟩ := hB
  obtain ⟨b3, b4, b5, b6⟩ := b3 h hh
  have hm : canM cn X h < 256 := canM_lt _ _ _
  have hst : a ≠ 48 := by rcases ha with z | z | z | z | z <;> omega
  refine b_X3_weighParts_0 F ⟨by omega, ?_⟩
  rw [hc]
  generalize hmo : canM cn X h = most at *
  have hmX : mSub most X := by rw [← hmo]; exact canM_sub hX
  have hmc : ∀ k, most.testBit k = true → cn h k = true := fun k z => by rw [← hmo, canM_bit hX] at z; simp at z; exact z.2
  have okf : ∀ P, mSub P most → (okP cn hd rc h P ↔ fit (hd h) (rc h) P) := fun P hP => ⟨fun o => o.2, fun o => ⟨fun k z => hmc k (mSub_bit.mp hP k z), o⟩⟩
  have go : ∀ (f p k : Nat), most - p ≤ f → p ≤ most → k ≤ p → mSub p most → ∀ C' : MC, Fp (fun x _ => x = 48) C C' → (∀ P, mSub P most → P ≤ p → pwOK C' (okP cn hd rc) wx h P) → K_X3_weighParts_19 (d + 1) 0 0 h most p k S C' Q := by
    intro f
    induction f with
    | zero =>
      intro p k hf hp hkp hs C' hC hP
      have : p = most := by omega
      subst this
      exact b_X3_weighParts_19 F ⟨fun _ => hk C' hC (fun P h1 => hP P h1 (mSub_le h1)), fun _ => ⟨fun _ => hk C' hC (fun P h1 => hP P h1 (mSub_le h1)), fun z => absurd rfl z⟩⟩
    | succ f ih =>
      intro p k hf hp hkp hs C' hC hP
      by_cases e : p = most
      · subst e
        exact b_X3_weighParts_19 F ⟨fun _ => hk C' hC (fun P h1 => hP P h1 (mSub_le h1)), fun _ => ⟨fun _ => hk C' hC (fun P h1 => hP P h1 (mSub_le h1)), fun z => absurd rfl z⟩⟩
      · obtain ⟨q, q1, q2, q3, q4⟩ := nxt_ok hm (by omega) hs
        refine b_X3_weighParts_19 F ⟨fun z => by omega, fun _ => ⟨fun z => by omega, fun _ => ?_⟩⟩
        rw [q1]
        have hq : q < 256 := Nat.lt_of_le_of_lt (mSub_le q3) hm
        refine s_lowestKey F hq (by omega) (fun low l1 l2 l3 => ⟨rfl, s_bitCount F (by omega) ⟨rfl, fun st5 hst5 => ?_⟩⟩)
        rw [hS] at hst5
        subst hst5
        have r1 : C' (a + 1) h = hd h := by rw [hC (a + 1) h (by rcases ha with z | z | z | z | z <;> omega)]; exact b3
        have r2 : C' (a + 2) h = rc h := by rw [hC (a + 2) h (by rcases ha with z | z | z | z | z <;> omega)]; exact b4
        have hfit := fit_iff (H := hd h) hq b6 l1 l2 l3
        have hbad : ¬ fit (hd h) (rc h) q → K_X3_weighParts_83 (d + 1) 0 0 h most q k low 0 S C' Q := by
          intro hb
          refine b_X3_weighParts_83 F ⟨fun _ => ⟨by omega, ?_⟩, fun z => absurd rfl z⟩
          rw [w32_succ (by omega)]
          refine ih q (k + 1) (by omega) (mSub_le q3) (by omega) q3 _ (Fp_up rfl hC) (fun P p1 p2 => ?_)
          by_cases e2 : P = q
          · subst e2
            exact ⟨fun o => absurd ((okf P q3).mp o) hb, fun _ => upC_at _ _ _ _⟩
          · have : P ≤ p := by
              rcases Nat.lt_or_ge p P with z | z
              · have := q4 P p1 z; omega
              · exact z
            unfold pwOK
            rw [upC_sK (by omega)]
            exact hP P p1 this
        refine ⟨ha, by omega, ?_⟩
        rw [r1, r2]
        refine ⟨fun z => hbad (fun z2 => by have := (hfit.mp z2).1; omega), fun z => ⟨by omega, fun z2 => hbad (fun z3 => (hfit.mp z3).2 z2), fun z2 => ?_⟩⟩
        have hgood : fit (hd h) (rc h) q := hfit.mpr ⟨by omega, z2⟩
        have er := low_all hq l1 l2 l3
        rw [low_diff l2] at er
        have hrs : mSub (mDiff q (2 ^ low)) most := mSub_trans (mSub_diff _ _) q3
        have hrl : mDiff q (2 ^ low) ≤ p := by
          rcases Nat.lt_or_ge p (mDiff q (2 ^ low)) with z | z
          · have h1 := q4 _ hrs z
            have h2 := mDiff_lt (pow_sub l2) (Nat.pos_iff_ne_zero.mp (Nat.two_pow_pos low))
            omega
          · exact z
        have hrok : okP cn hd rc h (mDiff q (2 ^ low)) := okP_sub ((okf q q3).mpr hgood) (mSub_diff _ _)
        have hr := (hP _ hrs hrl).1 hrok
        have hwl := hw low l1 (mSub_bit.mp hmX low (mSub_bit.mp q3 low l2))
        refine b_X3_weighParts_83 F ⟨fun z => absurd z (by decide), fun _ => ?_⟩
        rw [er, w32_lit (x := (h : Int) * 8) (by omega), w32_lit (x := (h : Int) * 8 + low) (by omega), hr, hC 47 _ (by omega), show (h : Int) * 8 + low = ((8 * h + low : Nat) : Int) by omega, hwl.1]
        have hsm : sm (wx h) q = sm (wx h) (mDiff q (2 ^ low)) + wx h low := by rw [sm_split (pow_sub l2), sm_pow low l1]
        have hbd : 0 ≤ sm (wx h) (mDiff q (2 ^ low)) ∧ sm (wx h) (mDiff q (2 ^ low)) ≤ 8 * 2000000000 := by
          have e9 : sm (wx h) (mDiff q (2 ^ low)) = sm (fun k => if X.testBit k then wx h k else 0) (mDiff q (2 ^ low)) := sm_cong (fun k _ z => by rw [if_pos (mSub_bit.mp (mSub_trans hrs hmX) k z)])
          rw [e9]
          refine sm_bd (by decide) (fun k hk => ?_)
          by_cases hx : X.testBit k = true
          · rw [if_pos hx]; exact (hw k hk hx).2
          · rw [if_neg hx]; omega
        rw [← hsm, w64_of (x := sm (wx h) q) (by unfold in64; omega), w32_succ (by omega)]
        have hlt : mDiff q (2 ^ low) < 256 := by omega
        refine ⟨by omega, by omega, by omega, ih q (k + 1) (by omega) (mSub_le q3) (by omega) q3 _ (Fp_up rfl hC) (fun P p1 p2 => ?_)⟩
        by_cases e2 : P = q
        · subst e2
          exact ⟨fun _ => upC_at _ _ _ _, fun o => absurd ((okf P q3).mpr hgood) o⟩
        · have : P ≤ p := by
            rcases Nat.lt_or_ge p P with z | z
            · have := q4 P p1 z; omega
            · exact z
          unfold pwOK
          rw [upC_sK (by omega)]
          exact hP P p1 this
  refine go most 0 0 (by omega) (by omega) (by omega) (mSub_zero most) _ (Fp_up rfl Fp_rf) (fun P p1 p2 => ?_)
  have : P = 0 := by omega
  subst this
  refine ⟨fun _ => ?_, fun o => absurd (okP_zero (by omega)) o⟩
  rw [show ((0 : Nat) : Int) = 0 from rfl, upC_at, sm_zero]
