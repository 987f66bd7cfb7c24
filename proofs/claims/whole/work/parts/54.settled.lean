/-! 54.settled: the fewest payments -/
def dIx (a b : Nat) : Int := 6 * (a : Int) + (b : Int)
theorem dbL_zero {pl : Nat → Nat → Int} {κ : Int → Int} {n : Nat} (hp : ∀ b k, b < 16 → k < 8 → pl b k = -1 ∨ (0 ≤ pl b k ∧ pl b k < n)) (ho : ∀ k : Nat, k < 8 → -1 ≤ κ k ∧ κ k < n) (hn : n ≤ 6) {x y : Nat} (hx : x < 6) (hy : y < 6) (hxy : ¬ (x < n ∧ y < n)) : ∀ t, t ≤ 128 → dbL pl κ t (dIx x y) = 0
  | 0, _ => rfl
  | t + 1, ht => by
    have ih := dbL_zero hp ho hn hx hy hxy t (by omega)
    have h1 := hp (t / 8) (t % 8) (by omega) (by omega)
    have h2 := ho (t % 8) (by omega)
    unfold dbL
    split
    · rename_i hc
      show (if dIx x y = _ then dbL pl κ t (dIx x y) + 1 else dbL pl κ t (dIx x y)) = 0
      rw [if_neg (by unfold dIx; omega)]
      exact ih
    · exact ih
/-- what house h is owed more than it owes -/
def balN (δ : Int → Int) (m h : Nat) : Int := sumR (fun o => δ (dIx o h) - δ (dIx h o)) m
theorem sumR_ext {g : Nat → Int} {n : Nat} : ∀ m, n ≤ m → (∀ j, n ≤ j → j < m → g j = 0) → sumR g m = sumR g n
  | 0, h, _ => by have : n = 0 := by omega
                  rw [this]
  | m + 1, h, hz => by
    by_cases e : n = m + 1
    · rw [e]
    · show sumR g m + g m = _
      rw [sumR_ext m (by omega) (fun j h1 h2 => hz j h1 (by omega)), hz m (by omega) (by omega), Int.add_zero]
theorem sumR_neg {g : Nat → Int} : ∀ m, sumR (fun j => -g j) m = -sumR g m
  | 0 => rfl
  | m + 1 => by
    show sumR (fun j => -g j) m + -g m = -(sumR g m + g m)
    rw [sumR_neg m]
    omega
theorem sumR_sub {g g' : Nat → Int} (m : Nat) : sumR (fun P => g P - g' P) m = sumR g m - sumR g' m := by
  have : (fun P => g P - g' P) = (fun P => g P + (fun j => -g' j) P) := funext fun P => by show g P - g' P = g P + -g' P; omega
  rw [this, sumR_add, sumR_neg]
  omega
theorem smN_sumR {f : Nat → Int} {X : Nat} : ∀ m, smN f X m = sumR (fun h => if X.testBit h then f h else 0) m
  | 0 => rfl
  | m + 1 => by unfold smN sumR; rw [smN_sumR m]
theorem sm_6 {f : Nat → Int} {X : Nat} (hX : X < 64) : sm f X = sumR (fun h => if X.testBit h then f h else 0) 6 := by
  unfold sm
  rw [smN_sumR]
  refine sumR_ext 8 (by decide) (fun j h1 h2 => ?_)
  have : X.testBit j = false := by
    cases hb : X.testBit j
    · rfl
    · have := bit_lt6 hX hb; omega
  rw [this]
  rfl
def trm (δ : Int → Int) (X a b : Nat) : Int := if X.testBit b && !X.testBit a then δ (dIx a b) else if X.testBit a && !X.testBit b then -δ (dIx a b) else 0
theorem owed_sm {δ : Int → Int} {X : Nat} (hX : X < 64) : sumR (fun a => sumR (fun b => trm δ X a b) 6) 6 = sm (balN δ 6) X := by
  have e1 : (fun a => sumR (fun b => trm δ X a b) 6) = (fun a => sumR (fun b => if X.testBit b then δ (dIx a b) else 0) 6 - sumR (fun b => if X.testBit a then δ (dIx a b) else 0) 6) := funext fun a => by
    rw [← sumR_sub]
    refine sumR_cong 6 (fun b _ => ?_)
    unfold trm
    cases X.testBit a <;> cases X.testBit b <;> simp
  rw [e1, sumR_sub, sumR_comm, ← sumR_sub, sm_6 hX]
  refine sumR_cong 6 (fun h _ => ?_)
  cases hx : X.testBit h
  · simp only [Bool.false_eq_true, if_false]
    rw [sumR_zero]
    rfl
  · simp only [if_true]
    unfold balN
    rw [sumR_sub]
theorem bal_bd {δ : Int → Int} {m h : Nat} (hδ : ∀ i, 0 ≤ δ i ∧ δ i ≤ 128) : -(128 * m) ≤ balN δ m h ∧ balN δ m h ≤ 128 * m := by
  unfold balN
  induction m with
  | zero => simp [sumR]
  | succ m ih =>
    have h1 := hδ (dIx m h)
    have h2 := hδ (dIx h m)
    show _ ≤ sumR _ m + (δ (dIx m h) - δ (dIx h m)) ∧ sumR _ m + (δ (dIx m h) - δ (dIx h m)) ≤ _
    omega
theorem bal_tot {δ : Int → Int} {n : Nat} : sumR (fun h => balN δ n h) n = 0 := by
  have e : (fun h => balN δ n h) = (fun h => sumR (fun o => δ (dIx o h)) n - sumR (fun o => δ (dIx h o)) n) := funext fun h => by unfold balN; rw [sumR_sub]
  rw [e, sumR_sub, sumR_comm]
  omega
theorem s_balanceOf {d mc ms n h : Nat} {S : MS} {C : MC} {δ : Int → Int} {Q : Qt} (F : Fix S) (hn : n ≤ 6) (hh : h < n) (hδ : ∀ i, 0 ≤ δ i ∧ δ i ≤ 128) (hC : ∀ i, 0 ≤ i → i < 36 → C 53 i = δ i) (hk : Q (balN δ n h) S C) : K_X1_balanceOf_0 d mc ms h n S C Q := by
  refine b_X1_balanceOf_0 F ?_
  refine up_ind (α := Unit) (P := fun _ _ => True) (K := fun m _ => K_X1_balanceOf_5 d mc ms h n (balN δ m h) (m : Int) S C Q) n ?_ ?_ 0 (by omega) () trivial
  · intro _ _
    exact b_X1_balanceOf_5 F ⟨fun _ => hk, fun z => by omega⟩
  · intro m _ hm _ ih
    have h1 := hδ (dIx m h)
    have h2 := hδ (dIx h m)
    have h3 := bal_bd (m := m) (h := h) hδ
    refine b_X1_balanceOf_5 F ⟨fun z => by omega, fun _ => ?_⟩
    rw [w32_lit (x := (m : Int) * 6) (by omega), w32_lit (x := (m : Int) * 6 + h) (by omega), w32_lit (x := (h : Int) * 6) (by omega), w32_lit (x := (h : Int) * 6 + m) (by omega), hC _ (by omega) (by omega), hC _ (by omega) (by omega), show (m : Int) * 6 + h = dIx m h by unfold dIx; omega, show (h : Int) * 6 + m = dIx h m by unfold dIx; omega, w32_lit (x := δ (dIx m h) - δ (dIx h m)) (by omega), w32_lit (x := balN δ m h + (δ (dIx m h) - δ (dIx h m))) (by omega), w32_succ (by omega)]
    exact ⟨by unfold dIx; omega, by unfold dIx; omega, ih () trivial⟩
theorem s_payments {d n : Nat} {S : MS} {C : MC} {δ : Int → Int} {Q : Qt} (F : Fix S) (hn : n ≤ 6) (hδ : ∀ i, 0 ≤ δ i ∧ δ i ≤ 128) (hC : ∀ i, 0 ≤ i → i < 36 → C 53 i = δ i) (hk : ∀ C' g, Fp (fun a _ => a = 54) C C' → GMx (fun X => sm (balN δ n) X = 0) (2 ^ n - 1) g → Q (w32 (n - g)) S C') : K_X1_payments_0 (d + 1) 0 0 n S C Q := by
  have hp64 : 2 ^ n ≤ 64 := Nat.pow_le_pow_right (n := 2) (by decide) hn
  have hp0 := Nat.two_pow_pos n
  have hz : zAdd (fun X => sm (balN δ n) X = 0) := zAdd_sm
  refine b_X1_payments_0 F ?_
  refine up_ind (α := MC) (P := fun H C' => 1 ≤ H → Fp (fun a _ => a = 54) C C' ∧ ∀ G : Nat, G < H → GMx (fun X => sm (balN δ n) X = 0) G (C' 54 G)) (K := fun H C' => 1 ≤ H → K_X1_payments_9 (d + 1) 0 0 n (H : Int) S C' Q) (2 ^ n) ?_ ?_ 1 (by omega) _ (fun _ => ⟨Fp_up rfl Fp_rf, fun G hG => ?_⟩) (Nat.le_refl 1)
  · intro C1 hC1 h1
    obtain ⟨c1, c2⟩ := hC1 h1
    refine b_X1_payments_9 F ?_
    rw [(all_eq hn).1, iShl1 n (by omega)]
    exact ⟨fun _ => ⟨by omega, hk C1 _ c1 (c2 (2 ^ n - 1) (by omega))⟩, fun z => by omega⟩
  · intro H C1 hH hC1 ih h1
    obtain ⟨c1, c2⟩ := hC1 h1
    have hH64 : H < 64 := by omega
    refine b_X1_payments_9 F ?_
    rw [iShl1 n (by omega)]
    refine ⟨fun z => by omega, fun _ => ?_⟩
    have hbit : ∀ j, H.testBit j = true → j < n := fun j hj => by
      rcases Nat.lt_or_ge j n with q | q
      · exact q
      · have h1 : 2 ^ j ≤ H := mSub_le (pow_sub hj)
        have h2 : 2 ^ n ≤ 2 ^ j := Nat.pow_le_pow_right (n := 2) (by decide) q
        omega
    have hg : ∀ j, H.testBit j = true → GMx (fun X => sm (balN δ n) X = 0) (mDiff H (2 ^ j)) (C1 54 ((mDiff H (2 ^ j) : Nat) : Int)) := fun j hj => c2 _ (mDiff_lt (pow_sub hj) (Nat.pos_iff_ne_zero.mp (Nat.two_pow_pos j)))
    refine up_ind (α := Int × Int) (P := fun j D => (0 ≤ D.1 ∧ (∀ i, i < j → H.testBit i = true → C1 54 ((mDiff H (2 ^ i) : Nat) : Int) ≤ D.1) ∧ (D.1 = 0 ∨ ∃ i, i < j ∧ H.testBit i = true ∧ D.1 = C1 54 ((mDiff H (2 ^ i) : Nat) : Int))) ∧ (-(768 * j) ≤ D.2 ∧ D.2 ≤ 768 * j) ∧ D.2 = smN (balN δ n) H j) (K := fun j D => K_X1_payments_24 (d + 1) 0 0 n H D.1 D.2 (j : Int) S C1 Q) n ?_ ?_ 0 (by omega) (0, 0) ⟨⟨Int.le_refl _, fun i hi => absurd hi (Nat.not_lt_zero i), Or.inl rfl⟩, by simp, rfl⟩
    · intro D ⟨⟨p1, p2, p3⟩, p4, p5⟩
      have hall : smN (balN δ n) H n = sm (balN δ n) H := by
        unfold sm
        rw [smN_sumR, smN_sumR]
        refine (sumR_ext 8 (by omega) (fun j h1 h2 => ?_)).symm
        have : H.testBit j = false := by
          cases hb : H.testBit j
          · rfl
          · have := hbit j hb; omega
        rw [this]; rfl
      have hst : ∀ b : Bool, (b = true ↔ D.2 = 0) → GMx (fun X => sm (balN δ n) X = 0) H (if b then D.1 + 1 else D.1) := by
        intro b hb
        refine GMx_step hz (g := fun j => C1 54 ((mDiff H (2 ^ j) : Nat) : Int)) (by omega) (by rw [hb, p5, hall]) hg (fun j hj => p2 j (hbit j hj) hj) ?_
        rcases p3 with q | ⟨i, q1, q2, q3⟩
        · obtain ⟨j, hj⟩ := exists_bit (show H ≠ 0 by omega)
          refine ⟨j, hj, ?_⟩
          have h1 := p2 j (hbit j hj) hj
          have h2 := (hg j hj).1
          omega
        · exact ⟨i, q2, q3⟩
      have put : ∀ v : Int, GMx (fun X => sm (balN δ n) X = 0) H v → K_X1_payments_9 (d + 1) 0 0 n (w32 ((H : Int) + 1)) S (upC C1 54 H v) Q := by
        intro v hv
        rw [w32_succ (by omega)]
        refine ih _ (fun _ => ⟨Fp_up rfl c1, fun G hG => ?_⟩) (by omega)
        by_cases e : G = H
        · subst e; rw [upC_at]; exact hv
        · rw [upC_sK (by omega)]; exact c2 G (by omega)
      have hle : D.1 ≤ 100 := by
        have h1 := hst false
        rcases p3 with q | ⟨i, q1, q2, q3⟩
        · omega
        · have hgi := (hg i q2)
          -- no more heaps than houses
          have hpk : ∀ (c X : Nat), X < 256 → Pk (fun X => sm (balN δ n) X = 0) c X → (c : Int) ≤ sm (fun _ => 1) X := by
            intro c
            induction c with
            | zero =>
              intro X _ _
              have := sm_mono (f := fun _ => 1) (mSub_zero X) (fun _ _ => by decide)
              rw [sm_zero] at this
              exact this
            | succ c ihc =>
              rintro X hX ⟨Y, y1, y2, y3, y4⟩
              have h3 := ihc _ (Nat.lt_of_le_of_lt (mDiff_le X Y) hX) y4
              have h4 := sm_split (f := fun _ => 1) y1
              obtain ⟨j, hj⟩ := exists_bit y2
              have h5 := sm_mono (f := fun _ => 1) (pow_sub hj) (fun _ _ => by decide)
              rw [sm1_pow j (bit_lt8 hX (mSub_bit.mp y1 j hj))] at h5
              omega
          have h6 := hpk _ _ (Nat.lt_of_le_of_lt (mDiff_le H (2 ^ i)) (by omega)) hgi.2.1
          have h7 := sm1_8 (mDiff H (2 ^ i))
          have h8 := hgi.1
          omega
      refine b_X1_payments_24 F ⟨fun _ => ⟨fun z => ⟨by omega, put _ (hst false (by simp [z]))⟩, fun z => ⟨by omega, ?_⟩⟩, fun z => by omega⟩
      rw [w32_lit (x := D.1 + 1) (by omega)]
      exact put _ (hst true (by simp [z]))
    · intro j D hj ⟨⟨p1, p2, p3⟩, p4, p5⟩ ihj
      refine b_X1_payments_24 F ⟨fun z => by omega, fun _ => ⟨fun z => ?_, fun z => ?_⟩⟩
      · have hb : H.testBit j = false := by
          cases hb : H.testBit j
          · rfl
          · exact absurd ((isin_iff (show H < 256 by omega) (by omega)).mpr hb) z
        rw [w32_succ (by omega)]
        refine ihj D ⟨⟨p1, fun i hi hib => ?_, ?_⟩, by omega, ?_⟩
        · by_cases e : i = j
          · rw [e, hb] at hib; cases hib
          · exact p2 i (by omega) hib
        · rcases p3 with q | ⟨i, q1, q2⟩
          · exact Or.inl q
          · exact Or.inr ⟨i, by omega, q2⟩
        · show D.2 = smN (balN δ n) H j + (if H.testBit j then balN δ n j else 0)
          rw [hb, p5]; simp
      · have hb : H.testBit j = true := (isin_iff (show H < 256 by omega) (by omega)).mp z
        have hpj : 2 ^ j < 64 := Nat.pow_lt_pow_right (by decide) (show j < 6 by omega)
        have hbb := bal_bd (m := n) (h := j) hδ
        have hmd := mDiff_le H (2 ^ j)
        rw [iShl1 j (by omega), iDiff_nat (by omega) (by omega)]
        refine ⟨by omega, s_balanceOf F hn (by omega) hδ (fun i x0 x1 => by rw [c1 53 i (by omega)]; exact hC i x0 x1) ⟨rfl, ?_⟩⟩
        rw [w32_lit (x := D.2 + balN δ n j) (by omega), w32_succ (by omega)]
        refine ihj (max D.1 (C1 54 ((mDiff H (2 ^ j) : Nat) : Int)), D.2 + balN δ n j) ⟨⟨?_, fun i hi hib => ?_, ?_⟩, ?_, ?_⟩
        · show 0 ≤ max _ _; omega
        · show _ ≤ max _ _
          by_cases e : i = j
          · rw [e]; exact Int.le_max_right _ _
          · have := p2 i (by omega) hib
            exact Int.le_trans this (Int.le_max_left _ _)
        · show max D.1 _ = 0 ∨ _
          rcases Int.le_total D.1 (C1 54 ((mDiff H (2 ^ j) : Nat) : Int)) with q | q
          · right; exact ⟨j, by omega, hb, by rw [Int.max_eq_right q]⟩
          · rw [Int.max_eq_left q]
            rcases p3 with y | ⟨i, q1, q2, q3⟩
            · exact Or.inl y
            · exact Or.inr ⟨i, by omega, q2, q3⟩
        · show -(768 * ((j + 1 : Nat) : Int)) ≤ D.2 + balN δ n j ∧ D.2 + balN δ n j ≤ 768 * ((j + 1 : Nat) : Int)
          omega
        · show D.2 + balN δ n j = smN (balN δ n) H j + (if H.testBit j then balN δ n j else 0)
          rw [hb, p5]; simp
  · have : G = 0 := by omega
    subst this
    rw [show ((0 : Nat) : Int) = 0 from rfl, upC_at]
    exact GMx_zero
/-! the reference -/
theorem trm_bd {δ : Int → Int} {X a b : Nat} (hδ : ∀ i, 0 ≤ δ i ∧ δ i ≤ 128) : -128 ≤ trm δ X a b ∧ trm δ X a b ≤ 128 := by
  have := hδ (dIx a b)
  unfold trm
  split
  · omega
  · split <;> omega
theorem sumR_abs {g : Nat → Int} {c : Int} : ∀ m : Nat, (∀ P, P < m → -c ≤ g P ∧ g P ≤ c) → -(c * m) ≤ sumR g m ∧ sumR g m ≤ c * m
  | 0, _ => by simp [sumR]
  | m + 1, h => by
    have h1 := sumR_abs m (fun P hP => h P (by omega))
    have h2 := h m (by omega)
    have e : c * ((m + 1 : Nat) : Int) = c * m + c := by rw [Int.natCast_add, Int.mul_add]; simp
    rw [e]
    show _ ≤ sumR g m + g m ∧ sumR g m + g m ≤ _
    omega
theorem s_owedMore {d X : Nat} {S : MS} {C : MC} {δ : Int → Int} {Q : Qt} (F : Fix S) (hX : X < 64) (hδ : ∀ i, 0 ≤ δ i ∧ δ i ≤ 128) (hC : ∀ i, 0 ≤ i → i < 36 → C 101 i = δ i) (hk : Q (sm (balN δ 6) X) S C) : K_X11_owedMore_0 (d + 1) 0 0 X S C Q := by
  rw [← owed_sm hX] at hk
  have rowb : ∀ a, -768 ≤ sumR (fun b => trm δ X a b) 6 ∧ sumR (fun b => trm δ X a b) 6 ≤ 768 := fun a => by
    have := sumR_abs (g := fun b => trm δ X a b) (c := 128) 6 (fun b _ => trm_bd hδ)
    omega
  refine b_X11_owedMore_0 F ?_
  refine up_ind (α := Unit) (P := fun _ _ => True) (K := fun a _ => K_X11_owedMore_4 (d + 1) 0 0 X (sumR (fun a => sumR (fun b => trm δ X a b) 6) a) (a : Int) S C Q) 6 ?_ ?_ 0 (by omega) () trivial
  · intro _ _
    exact b_X11_owedMore_4 F ⟨fun _ => hk, fun z => absurd (by decide) z⟩
  · intro a _ ha _ ih
    have hs := sumR_abs (g := fun a => sumR (fun b => trm δ X a b) 6) (c := 768) a (fun P _ => by have := rowb P; omega)
    refine b_X11_owedMore_4 F ⟨fun z => by omega, fun _ => ?_⟩
    refine up_ind (α := Unit) (P := fun _ _ => True) (K := fun b _ => K_X11_owedMore_13 (d + 1) 0 0 X (sumR (fun a => sumR (fun b => trm δ X a b) 6) a + sumR (fun b => trm δ X a b) b) (a : Int) (b : Int) S C Q) 6 ?_ ?_ 0 (by omega) () trivial |> fun h => by
      have e : sumR (fun a => sumR (fun b => trm δ X a b) 6) a + sumR (fun b => trm δ X a b) 0 = sumR (fun a => sumR (fun b => trm δ X a b) 6) a := Int.add_zero _
      rw [e] at h
      exact h
    · intro _ _
      refine b_X11_owedMore_13 F ⟨fun _ => ?_, fun z => absurd (by decide) z⟩
      rw [w32_succ (by omega)]
      exact ih () trivial
    · intro b _ hb _ ihb
      have ih2 := ihb () trivial
      have hs2 := sumR_abs (g := fun b => trm δ X a b) (c := 128) b (fun P _ => trm_bd hδ)
      have hd := hδ (dIx a b)
      have e2 : sumR (fun b => trm δ X a b) (b + 1) = sumR (fun b => trm δ X a b) b + trm δ X a b := rfl
      rw [e2] at ih2
      have ia := isin_iff (show X < 256 by omega) (show a < 9 by omega)
      have ib := isin_iff (show X < 256 by omega) (show b < 9 by omega)
      have z0 : trm δ X a b = 0 → K_X11_owedMore_13 (d + 1) 0 0 X (w32 (sumR (fun a => sumR (fun b => trm δ X a b) 6) a + sumR (fun b => trm δ X a b) b + 0)) (a : Int) (w32 ((b : Int) + 1)) S C Q := fun h0 => by
        rw [h0, Int.add_zero] at ih2
        rw [Int.add_zero, w32_lit (by omega), w32_succ (by omega)]
        exact ih2
      have k53 : ¬ (X.testBit b = true ∧ X.testBit a = false) → K_X11_owedMore_53 (d + 1) 0 0 X (a : Int) (b : Int) (sumR (fun a => sumR (fun b => trm δ X a b) 6) a + sumR (fun b => trm δ X a b) b) S C Q := by
        intro hno
        refine b_X11_owedMore_53 F (s_isIn F fun r1 hr1 => ⟨rfl, fun y => z0 ?_, fun y => s_isIn F fun r2 hr2 => ⟨rfl, fun y2 => z0 ?_, fun y2 => ?_⟩⟩)
        · have h1 : X.testBit a = false := by
            cases h1 : X.testBit a
            · rfl
            · have := ia.mpr h1; omega
          unfold trm
          cases h2 : X.testBit b
          · simp [h1]
          · exact absurd ⟨h2, h1⟩ hno
        · have h1 : X.testBit a = true := ia.mp (by omega)
          have h2 : X.testBit b = true := ib.mp (by omega)
          unfold trm
          simp [h1, h2]
        · have h1 : X.testBit a = true := ia.mp (by omega)
          have h2 : X.testBit b = false := by
            cases h2 : X.testBit b
            · rfl
            · have := ib.mpr h2; omega
          have et : trm δ X a b = -δ (dIx a b) := by unfold trm; simp [h1, h2]
          rw [et] at ih2
          rw [w32_lit (x := 6 * (a : Int)) (by omega), w32_lit (x := 6 * (a : Int) + b) (by omega), hC _ (by omega) (by omega), show 6 * (a : Int) + b = dIx a b from rfl, w32_lit (x := -δ (dIx a b)) (by omega), w32_lit (by omega), w32_succ (by omega)]
          refine ⟨by unfold dIx; omega, ?_⟩
          rw [← Int.add_assoc] at ih2
          exact ih2
      refine b_X11_owedMore_13 F ⟨fun z => by omega, fun _ => s_isIn F fun r1 hr1 => ⟨rfl, fun y => k53 (fun q => ?_), fun y => s_isIn F fun r2 hr2 => ⟨rfl, fun y2 => k53 (fun q => ?_), fun y2 => ?_⟩⟩⟩
      · have := ib.mpr q.1; omega
      · have : X.testBit a = true := ia.mp (by omega)
        rw [this] at q; cases q.2
      · have h2 : X.testBit b = true := ib.mp (by omega)
        have h1 : X.testBit a = false := by
          cases h1 : X.testBit a
          · rfl
          · have := ia.mpr h1; omega
        have et : trm δ X a b = δ (dIx a b) := by unfold trm; simp [h1, h2]
        rw [et] at ih2
        rw [w32_lit (x := 6 * (a : Int)) (by omega), w32_lit (x := 6 * (a : Int) + b) (by omega), hC _ (by omega) (by omega), show 6 * (a : Int) + b = dIx a b from rfl, w32_lit (by omega), w32_succ (by omega)]
        refine ⟨by unfold dIx; omega, ?_⟩
        rw [← Int.add_assoc] at ih2
        exact ih2
theorem s_settled47 {d A : Nat} {S : MS} {C : MC} {δ : Int → Int} {Q : Qt} (F : Fix S) (hA : A < 64) (hδ : ∀ i, 0 ≤ δ i ∧ δ i ≤ 128) (hC : ∀ i, 0 ≤ i → i < 36 → C 101 i = δ i) (hk : ∀ C' v, Fp (fun a _ => a = 102) C C' → MMx (fun X => sm (balN δ 6) X = 0) A v → Q (w32 (pc8 A - v)) S C') : K_X11_settled_47 (d + 2) 0 0 A 0 S C Q := by
  refine up_ind (α := MC) (P := fun s C' => Fp (fun a _ => a = 102) C C' ∧ ∀ Y, mSub Y A → Y < s → MMx (fun X => sm (balN δ 6) X = 0) Y (C' 102 Y) ∧ C' 102 Y ≤ Y) (K := fun s C' => K_X11_settled_47 (d + 2) 0 0 A (s : Int) S C' Q) (A + 1) ?_ ?_ 0 (by omega) C ⟨Fp_rf, fun Y _ hY => absurd hY (Nat.not_lt_zero Y)⟩
  · intro C1 ⟨c1, c2⟩
    exact b_X11_settled_47 F ⟨fun _ => s_ones F (by omega) ⟨rfl, by omega, hk C1 _ c1 (c2 A (mSub_refl A) (by omega)).1⟩, fun z => by omega⟩
  · intro s C1 hs ⟨c1, c2⟩ ih
    have skip : ¬ mSub s A → K_X11_settled_47 (d + 2) 0 0 A (w32 ((s : Int) + 1)) S C1 Q := by
      intro hno
      rw [w32_succ (by omega)]
      refine ih C1 ⟨c1, fun Y hY hlt => c2 Y hY ?_⟩
      have : Y ≠ s := fun e => hno (e ▸ hY)
      omega
    refine b_X11_settled_47 F ⟨fun z => by omega, fun _ => ?_⟩
    rw [iDiff_nat (by omega) (by omega)]
    refine ⟨fun z => ?_, fun z => skip (fun q => z (by rw [mDiff_eq_zero.mpr q]; rfl))⟩
    have hsub : mSub s A := mDiff_eq_zero.mp (by omega)
    have fin : ∀ v : Int, MMx (fun X => sm (balN δ 6) X = 0) s v → v ≤ s → K_X11_settled_47 (d + 2) 0 0 A (w32 ((s : Int) + 1)) S (upC C1 102 s v) Q := by
      intro v hv hvs
      rw [w32_succ (by omega)]
      refine ih _ ⟨Fp_up rfl c1, fun Y hY hlt => ?_⟩
      by_cases e : Y = s
      · subst e; rw [upC_at]; exact ⟨hv, hvs⟩
      · rw [upC_sK (by omega)]; exact c2 Y hY (by omega)
    refine ⟨fun z2 => ⟨by omega, ?_⟩, fun z2 => ⟨by omega, ?_⟩⟩
    · have go : ∀ (f p : Nat), p ≤ f → mSub p s → ∀ v : Int, -1 ≤ v → v ≤ s → (∀ Y, mSub Y s → p < Y → sm (balN δ 6) Y = 0 → C1 102 ((mDiff s Y : Nat) : Int) ≠ -1 → C1 102 ((mDiff s Y : Nat) : Int) + 1 ≤ v) → (v = -1 ∨ ∃ Y, mSub Y s ∧ Y ≠ 0 ∧ sm (balN δ 6) Y = 0 ∧ C1 102 ((mDiff s Y : Nat) : Int) ≠ -1 ∧ v = C1 102 ((mDiff s Y : Nat) : Int) + 1) → K_X11_settled_80 (d + 2) 0 0 A s p S (upC C1 102 s v) Q := by
        intro f
        induction f with
        | zero =>
          intro p hp hps v hv hvs h1 h2
          have : p = 0 := by omega
          subst this
          refine b_X11_settled_80 F ⟨fun _ => fin v (MMx_step (m := fun Y => C1 102 ((Y : Nat) : Int)) (by omega) (fun Y hY h0 => (c2 _ (mSub_trans (mSub_diff _ _) hsub) (mDiff_lt hY h0)).1) (fun Y hY h0 => h1 Y hY (by omega)) h2) hvs, fun y => absurd (by decide) y⟩
        | succ f ihf =>
          intro p hp hps v hv hvs h1 h2
          by_cases e : p = 0
          · exact ihf p (by omega) hps v hv hvs h1 h2
          · obtain ⟨q, q1, q2, q3, q4⟩ := prv_ok (show s < 256 by omega) hps e
            have hple := mSub_le hps
            have hx : iXor (s : Int) (p : Int) = ((mDiff s p : Nat) : Int) := by rw [iXor_nat (by omega) (by omega), xor_sub hps]
            have hmd := mDiff_lt hps e
            have cont : ∀ v2 : Int, -1 ≤ v2 → v2 ≤ s → v ≤ v2 → (sm (balN δ 6) p = 0 → C1 102 ((mDiff s p : Nat) : Int) ≠ -1 → C1 102 ((mDiff s p : Nat) : Int) + 1 ≤ v2) → (v2 = -1 ∨ ∃ Y, mSub Y s ∧ Y ≠ 0 ∧ sm (balN δ 6) Y = 0 ∧ C1 102 ((mDiff s Y : Nat) : Int) ≠ -1 ∧ v2 = C1 102 ((mDiff s Y : Nat) : Int) + 1) → K_X11_settled_80 (d + 2) 0 0 A s (iAnd (w32 ((p : Int) - 1)) (s : Int)) S (upC C1 102 s v2) Q := by
              intro v2 w1 w2 w3 w4 w5
              rw [q1]
              refine ihf q (by omega) q3 v2 w1 w2 (fun Y hY hlt hz hne => ?_) w5
              by_cases e3 : Y = p
              · rw [e3] at hz hne ⊢; exact w4 hz hne
              · have : p < Y := by
                  rcases Nat.lt_or_ge Y p with y | y
                  · have := q4 Y hY y; omega
                  · omega
                exact Int.le_trans (h1 Y hY this hz hne) w3
            refine b_X11_settled_80 F ⟨fun y => by omega, fun _ => s_owedMore F (by omega) hδ (fun i x0 x1 => by rw [upC_ne (by decide), c1 101 i (by omega)]; exact hC i x0 x1) ⟨rfl, fun y => cont v hv hvs (Int.le_refl _) (fun q => absurd q y) h2, fun y => ?_⟩⟩
            have e102 : upC C1 102 s v 102 ((mDiff s p : Nat) : Int) = C1 102 ((mDiff s p : Nat) : Int) := upC_sK (by omega)
            have hb2 := c2 _ (mSub_trans (mSub_diff s p) hsub) hmd
            have hb3 := hb2.1.1
            have hb4 := hb2.2
            rw [hx, e102]
            refine ⟨by omega, fun y2 => cont v hv hvs (Int.le_refl _) (fun _ q => absurd y2 q) h2, fun y2 => ⟨by omega, by omega, ?_⟩⟩
            rw [w32_lit (x := C1 102 ((mDiff s p : Nat) : Int) + 1) (by omega), upC_at]
            have e6 : ∀ x : Int, upC (upC C1 102 s v) 102 s x = upC C1 102 s x := fun x => by
              funext z j
              rw [upC_get, upC_get, upC_get]
              split <;> rfl
            refine b_X11_greater_0 F ⟨fun y3 => ⟨rfl, by omega, ?_⟩, fun y3 => ⟨rfl, by omega, ?_⟩⟩
            · rw [e6]
              exact cont _ (by omega) (by omega) y3 (fun _ _ => Int.le_refl _) (Or.inr ⟨p, hps, e, y, y2, rfl⟩)
            · rw [e6]
              exact cont v hv hvs (Int.le_refl _) (fun _ _ => by omega) h2
      exact go s s (Nat.le_refl _) (mSub_refl s) (-1) (by omega) (by omega) (fun Y hY hlt => by have := mSub_le hY; omega) (Or.inl rfl)
    · have : s = 0 := by omega
      subst this
      refine b_X11_settled_80 F ⟨fun _ => fin 0 MMx_zero (by omega), fun y => absurd (by decide) y⟩
theorem s_settled13 {d : Nat} {S : MS} {C : MC} {δ : Int → Int} {Q : Qt} (F : Fix S) (hδ : ∀ i, 0 ≤ δ i ∧ δ i ≤ 128) (hC : ∀ i, 0 ≤ i → i < 36 → C 101 i = δ i) (hk : ∀ C' v A, Fp (fun a _ => a = 102) C C' → A < 64 → (∀ h, A.testBit h = true ↔ h < 6 ∧ balN δ 6 h ≠ 0) → MMx (fun X => sm (balN δ 6) X = 0) A v → Q (w32 (pc8 A - v)) S C') : K_X11_settled_13 (d + 2) 0 0 0 0 S C Q := by
  refine up_ind (α := Nat) (P := fun m A => A < 2 ^ m ∧ ∀ h, A.testBit h = true ↔ h < m ∧ balN δ 6 h ≠ 0) (K := fun m A => K_X11_settled_13 (d + 2) 0 0 (A : Int) (m : Int) S C Q) 6 ?_ ?_ 0 (by omega) 0 ⟨by decide, fun h => by simp⟩
  · intro A ⟨a1, a2⟩
    exact b_X11_settled_13 F ⟨fun _ => s_settled47 F a1 hδ hC (fun C' v f m => hk C' v A f a1 a2 m), fun z => absurd (by decide) z⟩
  · intro m A hm ⟨a1, a2⟩ ih
    have hA64 : A < 64 := Nat.lt_of_lt_of_le a1 (Nat.pow_le_pow_right (n := 2) (by decide) (show m ≤ 6 by omega))
    have hpm : 2 ^ m < 64 := Nat.pow_lt_pow_right (by decide) (show m < 6 by omega)
    refine b_X11_settled_13 F ⟨fun z => by omega, fun _ => ?_⟩
    rw [iShl1 m (by omega)]
    refine s_owedMore F hpm hδ hC ⟨rfl, fun y => ?_, fun y => ?_⟩
    all_goals
      rw [sm_pow m (by omega)] at y
      rw [w32_succ (by omega)]
    · rw [iOr_nat (by omega) (by omega)]
      refine ih (A ||| 2 ^ m) ⟨Nat.or_lt_two_pow (Nat.lt_of_lt_of_le a1 (Nat.pow_le_pow_right (n := 2) (by decide) (by omega))) (Nat.pow_lt_pow_right (by decide) (by omega)), fun h => ?_⟩
      rw [Nat.testBit_or, Nat.testBit_two_pow, Bool.or_eq_true, a2 h]
      constructor
      · rintro (⟨q1, q2⟩ | q1)
        · exact ⟨by omega, q2⟩
        · simp at q1; subst q1; exact ⟨by omega, y⟩
      · rintro ⟨q1, q2⟩
        by_cases e : h = m
        · subst e; simp
        · exact Or.inl ⟨by omega, q2⟩
    · rw [iOr_zero (in32_nat (by omega))]
      refine ih A ⟨Nat.lt_of_lt_of_le a1 (Nat.pow_le_pow_right (n := 2) (by decide) (by omega)), fun h => ?_⟩
      rw [a2 h]
      constructor
      · rintro ⟨q1, q2⟩; exact ⟨by omega, q2⟩
      · rintro ⟨q1, q2⟩
        by_cases e : h = m
        · subst e; exact absurd y q2
        · exact ⟨by omega, q2⟩
theorem sm1_full : ∀ n : Nat, n < 7 → sm (fun _ => 1) (2 ^ n - 1) = n := by decide
theorem set_eq {δ : Int → Int} {n A : Nat} {g v : Int} (hn : n ≤ 6) (hz0 : ∀ x y : Nat, x < 6 → y < 6 → ¬ (x < n ∧ y < n) → δ (dIx x y) = 0) (hA : A < 64) (hAb : ∀ h, A.testBit h = true ↔ h < 6 ∧ balN δ 6 h ≠ 0) (hg : GMx (fun X => sm (balN δ n) X = 0) (2 ^ n - 1) g) (hv : MMx (fun X => sm (balN δ 6) X = 0) A v) : (n : Int) - g = pc8 A - v := by
  obtain ⟨_, e2⟩ := all_eq hn
  have hp64 : 2 ^ n ≤ 64 := Nat.pow_le_pow_right (n := 2) (by decide) hn
  have hb : ∀ h, h < n → balN δ n h = balN δ 6 h := fun h hh => by
    unfold balN
    refine (sumR_ext 6 hn (fun j h1 h2 => ?_)).symm
    rw [hz0 j h h2 (by omega) (by omega), hz0 h j (by omega) h2 (by omega)]; rfl
  have hb0 : ∀ h, n ≤ h → h < 6 → balN δ 6 h = 0 := fun h h1 h2 => by
    unfold balN
    have : (fun o => δ (dIx o h) - δ (dIx h o)) = (fun o => δ (dIx o h) - δ (dIx h o)) := rfl
    rw [sumR_cong 6 (g' := fun _ => 0) (fun o ho => by rw [hz0 o h ho h2 (by omega), hz0 h o h2 ho (by omega)]; rfl), sumR_zero]
  have hAF : mSub A (2 ^ n - 1) := mSub_bit.mpr fun h hh => by
    obtain ⟨q1, q2⟩ := (hAb h).mp hh
    rw [Nat.testBit_two_pow_sub_one]
    have : h < n := by
      rcases Nat.lt_or_ge h n with z | z
      · exact z
      · exact absurd (hb0 h z q1) q2
    simp [this]
  -- the two ways to speak of even heaps
  have hzz : (fun X => sm (balN δ n) X = 0) = (fun X => sm (fun h => if h < n then balN δ 6 h else balN δ n h) X = 0) := by
    funext X
    have : sm (balN δ n) X = sm (fun h => if h < n then balN δ 6 h else balN δ n h) X := sm_cong (fun h _ _ => by
      by_cases z : h < n
      · rw [if_pos z, hb h z]
      · rw [if_neg z])
    rw [this]
  have hGM : ∀ X, mSub X (2 ^ n - 1) → (sm (balN δ n) X = 0 ↔ sm (balN δ 6) X = 0) := fun X hX => by
    have : sm (balN δ n) X = sm (balN δ 6) X := sm_cong (fun h _ hh => by
      have := mSub_bit.mp hX h hh
      rw [Nat.testBit_two_pow_sub_one] at this
      simp at this
      exact hb h this)
    rw [this]
  have pkc : ∀ (c X : Nat), mSub X (2 ^ n - 1) → (Pk (fun X => sm (balN δ n) X = 0) c X ↔ Pk (fun X => sm (balN δ 6) X = 0) c X) := by
    intro c
    induction c with
    | zero => intro X _; exact Iff.rfl
    | succ c ih =>
      intro X hX
      constructor
      · rintro ⟨Y, y1, y2, y3, y4⟩
        exact ⟨Y, y1, y2, (hGM Y (mSub_trans y1 hX)).mp y3, (ih _ (mSub_trans (mSub_diff _ _) hX)).mp y4⟩
      · rintro ⟨Y, y1, y2, y3, y4⟩
        exact ⟨Y, y1, y2, (hGM Y (mSub_trans y1 hX)).mpr y3, (ih _ (mSub_trans (mSub_diff _ _) hX)).mpr y4⟩
  have hg6 : GMx (fun X => sm (balN δ 6) X = 0) (2 ^ n - 1) g := ⟨hg.1, (pkc _ _ (mSub_refl _)).mp hg.2.1, fun c hc => hg.2.2 c ((pkc _ _ (mSub_refl _)).mpr hc)⟩
  have hsplit := sm_split (f := fun _ => 1) hAF
  have hnn := sm_mono (f := fun _ => 1) (mSub_zero (mDiff (2 ^ n - 1) A)) (fun _ _ => by decide)
  rw [sm_zero] at hnn
  obtain ⟨m, hm⟩ : ∃ m : Nat, sm (fun _ => 1) (mDiff (2 ^ n - 1) A) = m := ⟨(sm (fun _ => 1) (mDiff (2 ^ n - 1) A)).toNat, by omega⟩
  have zA : sm (balN δ 6) A = 0 := by
    have h1 : sm (balN δ 6) (2 ^ n - 1) = sm (balN δ 6) (mDiff (2 ^ n - 1) A) + sm (balN δ 6) A := sm_split hAF
    have h2 : sm (balN δ 6) (mDiff (2 ^ n - 1) A) = 0 := by
      rw [sm_cong (g := fun _ => 0) (fun h _ hh => ?_)]
      · unfold sm; rw [smN_sumR]; rw [sumR_cong 8 (g' := fun _ => 0) (fun j _ => by split <;> rfl), sumR_zero]
      · rw [mDiff_bit, Nat.testBit_two_pow_sub_one] at hh
        simp at hh
        apply Classical.byContradiction
        intro hne
        have := (hAb h).mpr ⟨by omega, hne⟩
        rw [hh.2] at this; cases this
    have h3 : sm (balN δ 6) (2 ^ n - 1) = 0 := by
      rw [sm_6 e2]
      refine Eq.trans ?_ (bal_tot (δ := δ) (n := n))
      rw [sumR_ext (n := n) 6 hn (fun j h1 h2 => by
        rw [Nat.testBit_two_pow_sub_one]
        have : ¬ j < n := by omega
        simp [this])]
      refine sumR_cong n (fun h hh => ?_)
      rw [Nat.testBit_two_pow_sub_one]
      simp [hh, hb h hh]
    omega
  have hz : zAdd (fun X => sm (balN δ 6) X = 0) := zAdd_sm
  have h4 := heaps_eq hz m (show 2 ^ n - 1 < 256 by omega) hAF (fun h h1 h2 => ?_) (by omega) zA hg6 hv
  · rw [pc8_all A (by omega)]
    have h5 := sm1_full n (by omega)
    have := h4.2
    omega
  · rw [Nat.testBit_two_pow_sub_one] at h1
    simp at h1
    show sm (balN δ 6) (2 ^ h) = 0
    rw [sm_pow h (by omega)]
    apply Classical.byContradiction
    intro hne
    have := (hAb h).mpr ⟨by omega, hne⟩
    rw [h2] at this; cases this
theorem q_settled {d : Nat} {S : MS} {C : MC} {P : Int → Int → MS → MC → Prop} (hAC : AskCls) (hAM : AskMod) (I : Inv S C) (k : PS S P) : K_X10_settled_0 (d + 106) 0 0 S C (fun r S2 C2 => Fix S2 ∧ S2.2.2.2.2 = S.2.2.2.2 ∧ K_X11_settled_0 (d + 106) 0 0 S2 C2 (fun r2 Sq C3 => Sq = S2 ∧ P r r2 S2 C3)) := by
  have F := I.1
  obtain ⟨n, hn⟩ : ∃ n : Nat, C 83 45 = n := ⟨(C 83 45).toNat, by have := I.2.1.1.2.1; omega⟩
  have hK := KOk_of I.2.1
  have hn6 : n ≤ 6 := by have := hK.1; omega
  have h10 : C 1 0 = n := by rw [I.2.1.1.1]; exact hn
  have hX : ∀ b, b < 16 → mxK (C 83) b < 256 := fun b hb => (mxK_ok hK hb).2
  refine b_X10_settled_0 F (s_tally (d := d + 95) F hK hn h10 (fun j x0 x1 => (I.2.1.2.1 j x0 x1).1) (SpC_of hAC isSt1 I.2.1 hn) (fun r3 S2 C2 h1 h2 h3 => ⟨h1.1, fun y => ?_, fun y => ?_⟩))
  · have e83 : C2 83 = C 83 := funext fun j => h2 83 j (by unfold tlx plx; omega)
    refine ⟨h1.1, h1.2.2.2.2.1, b_X11_settled_0 h1.1 (s_laysDebts (d := d) h1.1 hAM (by rw [e83]; exact hK) (by rw [e83]; exact hn) (fun r' C3 f3 h4 => ⟨rfl, fun y2 => ?_, fun y2 => ⟨rfl, ?_⟩⟩))⟩
    all_goals rw [e83] at h4
    · rcases Tal_eq hn6 hX h3 h4 with ⟨q1, q2⟩ | ⟨q1, q2, _⟩
      · exact absurd q2 y2
      · omega
    · exact k _ _ _ (Inv_sc I h1.1 (S44_Ss h1) (Fp_tr (Fp_mono h2 tlx_scr) (Fp_mono f3 dbx_scr))) h1.2.2.2.2.1
  · rcases h3 with ⟨q, _⟩ | ⟨q1, pl, q2, q3⟩
    · exact absurd q y
    · have hδ : ∀ i, 0 ≤ dbL pl (C 83) 128 i ∧ dbL pl (C 83) 128 i ≤ 128 := fun i => dbL_bd pl (C 83) 128 i
      have c10 : C2 1 0 = n := by rw [h2 1 0 (by unfold tlx plx; omega)]; exact h10
      rw [c10]
      refine s_payments (d := d + 104) h1.1 hn6 hδ q3 (fun C3 g f3 hg => ⟨rfl, h1.1, h1.2.2.2.2.1, ?_⟩)
      have f3' : Fp scr C C3 := Fp_tr (Fp_mono h2 tlx_scr) (Fp_mono f3 (fun a _ q => by unfold scr; omega))
      have e83 : C3 83 = C 83 := funext fun j => by rw [f3 83 j (by omega), h2 83 j (by unfold tlx plx; omega)]
      refine b_X11_settled_0 h1.1 (s_laysDebts (d := d) h1.1 hAM (by rw [e83]; exact hK) (by rw [e83]; exact hn) (fun r' C4 f4 h4 => ⟨rfl, fun y2 => ?_, fun y2 => ?_⟩))
      all_goals
        rw [e83] at h4
        have ht := Tal_eq hn6 hX (Or.inr ⟨rfl, pl, q2, q3⟩ : TalC C2 (C 83) n 1) h4
      · rcases ht with ⟨z1, z2⟩ | ⟨_, _, pl2, z1, z2⟩
        · omega
        · have hC4 : ∀ i, 0 ≤ i → i < 36 → C4 101 i = dbL pl (C 83) 128 i := fun i x0 x1 => by rw [(z2 i x0 x1).2, ← (z2 i x0 x1).1]; exact q3 i x0 x1
          refine s_settled13 (d := d + 104) h1.1 hδ hC4 (fun C5 v A f5 hA hAb hm => ⟨rfl, ?_⟩)
          have e := set_eq hn6 (fun x y hx hy hxy => dbL_zero (n := n) (fun b k hb hk => PlB_rng (q2 b hb) hk) (fun k hk => by have := hK.2.2.1 k (by omega) (by omega); omega) hn6 hx hy hxy 128 (Nat.le_refl _)) hA hAb hg hm
          rw [e]
          exact k _ _ _ (Inv_sc I h1.1 (S44_Ss h1) (Fp_tr f3' (Fp_tr (Fp_mono f4 dbx_scr) (Fp_mono f5 (fun a _ q => by unfold scr; omega))))) h1.2.2.2.2.1
      · rcases ht with ⟨z1, z2⟩ | ⟨_, z2, _⟩
        · omega
        · omega
