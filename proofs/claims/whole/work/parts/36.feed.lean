/-! 36.feed: feed, row -/
def by4 (x : Int) (i : Int) : Int := nB (i2b (iShr x (24 - 8 * i)))
theorem nB_bd (y : Int) : -128 ≤ nB y ∧ nB y ≤ 127 := by
  have h1 := Int8.toInt_lt (Int32.ofInt y).toInt8
  have h2 := Int8.le_toInt (Int32.ofInt y).toInt8
  show -128 ≤ ((Int32.ofInt y).toInt8.toInt32).toInt ∧ ((Int32.ofInt y).toInt8.toInt32).toInt ≤ 127
  rw [Int8.toInt_toInt32]
  omega
theorem s_add {d mc ms : Nat} {x : Int} {S : MS} {C : MC} {Q : Qt} (F : Fix S) (hl : 0 ≤ C 27 1 ∧ C 27 1 + 4 ≤ 400) (h : ∀ C', Fp (fun a k => (a = 27 ∧ k = 1) ∨ (a = 28 ∧ C 27 1 ≤ k)) C C' → C' 27 1 = C 27 1 + 4 → (∀ i : Nat, i < 4 → C' 28 (C 27 1 + i) = by4 x i) → Q 0 S C') : K_X8_add_0 d mc ms x S C Q := by
  refine b_X8_add_0 F ?_
  refine up_ind (α := MC) (P := fun k C' => Fp (fun a k => (a = 27 ∧ k = 1) ∨ (a = 28 ∧ C 27 1 ≤ k)) C C' ∧ C' 27 1 = C 27 1 + k ∧ ∀ i : Nat, i < k → C' 28 (C 27 1 + i) = by4 x i) (K := fun k C' => K_X8_add_3 d mc ms x (24 - 8 * (k : Int)) S C' Q) 4 ?_ ?_ 0 (by omega) C ⟨Fp_rf, by omega, fun i hi => absurd hi (Nat.not_lt_zero i)⟩
  · intro C' hC
    exact b_X8_add_3 F ⟨fun _ => h C' hC.1 hC.2.1 hC.2.2, fun z => absurd (by decide) z⟩
  · intro k C' hk hC ih
    obtain ⟨f1, f2, f3⟩ := hC
    refine b_X8_add_3 F ⟨fun z => by omega, fun _ => ⟨fun z => by omega, fun _ => ⟨by omega, ?_⟩⟩⟩
    have e1 : w32 (24 - 8 * (k : Int) + (-8)) = 24 - 8 * ((k + 1 : Nat) : Int) := by rw [w32_lit (by omega)]; omega
    rw [e1]
    refine ih _ ⟨Fp_up (Or.inl ⟨rfl, rfl⟩) (Fp_up (Or.inr ⟨rfl, by omega⟩) f1), ?_, fun i hi => ?_⟩
    · rw [upC_at, f2, w32_lit (by omega)]; omega
    · rw [upC_ne (by decide), f2]
      by_cases e : i = k
      · subst e; rw [upC_at]; rfl
      · rw [upC_sK (by omega)]; exact f3 i (by omega)
theorem upC_id {C : MC} {a k v : Int} (h : C a k = v) : upC C a k v = C := by
  funext x j
  rw [upC_get]
  split
  · rename_i z; rw [z.1, z.2, h]
  · rfl
theorem q_4 {j : Nat} (h : j < 20) : j < 4 ∨ (∃ q : Nat, j = 4 + q ∧ q < 4) ∨ (∃ q : Nat, j = 8 + q ∧ q < 4) ∨ (∃ q : Nat, j = 12 + q ∧ q < 4) ∨ (∃ q : Nat, j = 16 + q ∧ q < 4) := by
  rcases (by omega : j < 4 ∨ (4 ≤ j ∧ j < 8) ∨ (8 ≤ j ∧ j < 12) ∨ (12 ≤ j ∧ j < 16) ∨ 16 ≤ j) with z | z | z | z | z
  · exact Or.inl z
  · exact Or.inr (Or.inl ⟨j - 4, by omega, by omega⟩)
  · exact Or.inr (Or.inr (Or.inl ⟨j - 8, by omega, by omega⟩))
  · exact Or.inr (Or.inr (Or.inr (Or.inl ⟨j - 12, by omega, by omega⟩)))
  · exact Or.inr (Or.inr (Or.inr (Or.inr ⟨j - 16, by omega, by omega⟩)))
theorem q_feed {d : Nat} {l1 l2 l3 l4 l5 : Int} {S : MS} {C : MC} {P : Int → Int → MC → Prop} (I : Inv S C) (k : ∀ r C', Inv S C' → P r r C') : K_X10_feed_0 (d + 1) 0 0 l1 l2 l3 l4 l5 S C (fun r Sq C2 => Sq = S ∧ K_X11_feed_0 (d + 1) 0 0 l1 l2 l3 l4 l5 S C2 (fun r2 Sq C3 => Sq = S ∧ P r r2 C3)) := by
  have F := I.1
  obtain ⟨t1, t2, t3⟩ := I.2.2.2.2.1
  refine b_X10_feed_0 F ?_
  rw [w32_lit (x := C 27 1 + 20) (by omega)]
  refine ⟨fun z => ?_, fun z => ⟨rfl, b_X11_feed_0 F ⟨fun z2 => ?_, fun _ => ⟨rfl, k _ _ I⟩⟩⟩⟩
  · generalize hL : C 27 1 = L at *
    refine s_add F (by omega) (fun C1 f1 n1 g1 => ⟨rfl, ?_⟩)
    refine s_add F (by omega) (fun C2 f2 n2 g2 => ⟨rfl, ?_⟩)
    refine s_add F (by omega) (fun C3 f3 n3 g3 => ⟨rfl, ?_⟩)
    refine s_add F (by omega) (fun C4 f4 n4 g4 => ⟨rfl, ?_⟩)
    refine s_add F (by omega) (fun C5 f5 n5 g5 => ⟨rfl, rfl, ?_⟩)
    rw [hL] at f1 n1 g1
    rw [n1] at f2 n2 g2
    rw [n2] at f3 n3 g3
    rw [n3] at f4 n4 g4
    rw [n4] at f5 n5 g5
    have fr : Fp (fun a k => (a = 27 ∧ k = 1) ∨ (a = 28 ∧ L ≤ k)) C C5 := Fp_tr (Fp_tr (Fp_tr (Fp_tr f1 (Fp_mono f2 (by omega))) (Fp_mono f3 (by omega))) (Fp_mono f4 (by omega))) (Fp_mono f5 (by omega))
    have v5 : ∀ i : Nat, i < 4 → C5 28 (L + 16 + i) = by4 l5 i := fun i hi => by have := g5 i hi; rwa [show L + 4 + 4 + 4 + 4 + (i : Int) = L + 16 + i by omega] at this
    have v4 : ∀ i : Nat, i < 4 → C5 28 (L + 12 + i) = by4 l4 i := fun i hi => by rw [f5 28 _ (by omega)]; have := g4 i hi; rwa [show L + 4 + 4 + 4 + (i : Int) = L + 12 + i by omega] at this
    have v3 : ∀ i : Nat, i < 4 → C5 28 (L + 8 + i) = by4 l3 i := fun i hi => by rw [f5 28 _ (by omega), f4 28 _ (by omega)]; have := g3 i hi; rwa [show L + 4 + 4 + (i : Int) = L + 8 + i by omega] at this
    have v2 : ∀ i : Nat, i < 4 → C5 28 (L + 4 + i) = by4 l2 i := fun i hi => by rw [f5 28 _ (by omega), f4 28 _ (by omega), f3 28 _ (by omega)]; exact g2 i hi
    have v1 : ∀ i : Nat, i < 4 → C5 28 (L + i) = by4 l1 i := fun i hi => by rw [f5 28 _ (by omega), f4 28 _ (by omega), f3 28 _ (by omega), f2 28 _ (by omega)]; exact g1 i hi
    have hn5 : C5 27 1 = L + 20 := by omega
    have h13 : C5 81 13 = L := by rw [fr 81 13 (by omega)]; omega
    refine b_X11_feed_0 F ?_
    rw [h13, w32_lit (x := L + 20) (by omega)]
    refine ⟨fun _ => ?_, fun z2 => absurd z z2⟩
    generalize hD : upC (upC (upC (upC (upC C5 89 0 l1) 89 1 l2) 89 2 l3) 89 3 l4) 89 4 l5 = D
    have hDf : Fp (fun a _ => a = 89) C5 D := by rw [← hD]; exact Fp_up rfl (Fp_up rfl (Fp_up rfl (Fp_up rfl (Fp_up rfl Fp_rf))))
    have w0 : D 89 0 = l1 := by rw [← hD]; simp [upC]
    have w1 : D 89 1 = l2 := by rw [← hD]; simp [upC]
    have w2 : D 89 2 = l3 := by rw [← hD]; simp [upC]
    have w3 : D 89 3 = l4 := by rw [← hD]; simp [upC]
    have w4 : D 89 4 = l5 := by rw [← hD]; simp [upC]
    refine up_ind (α := MC) (P := fun j C' => Fp (fun a k => a = 88 ∧ L ≤ k) D C' ∧ ∀ i : Nat, i < j → C' 88 (L + i) = C5 28 (L + i)) (K := fun j C' => K_X11_feed_55 (d + 1) 0 0 (j : Int) S C' (fun r2 Sq C3 => Sq = S ∧ P (C5 27 1) r2 C3)) 20 ?_ ?_ 0 (by omega) D ⟨Fp_rf, fun i hi => absurd hi (Nat.not_lt_zero i)⟩
    · intro C' hC
      obtain ⟨c1, c2⟩ := hC
      have e13 : C' 81 13 = L := by rw [c1 81 13 (by omega), hDf 81 13 (by decide)]; exact h13
      refine b_X11_feed_55 F ⟨fun _ => ⟨rfl, ?_⟩, fun z => absurd (by decide) z⟩
      rw [e13, w32_lit (x := L + 20) (by omega), hn5]
      refine k _ _ ?_
      have hf : Fp (fun a k => (a = 27 ∧ k = 1) ∨ (a = 28 ∧ L ≤ k) ∨ a = 89 ∨ (a = 88 ∧ L ≤ k) ∨ (a = 81 ∧ k = 13)) C (upC C' 81 13 (L + 20)) := Fp_up (by omega) (Fp_tr (Fp_tr (Fp_mono fr (by omega)) (Fp_mono hDf (by omega))) (Fp_mono c1 (by omega)))
      have I' := I
      obtain ⟨-, ⟨a1, a2, a3, a4, a5, a6⟩, -⟩ := I'
      have q1 : upC C' 81 13 (L + 20) 27 1 = L + 20 := by rw [upC_ne (by decide), c1 27 1 (by omega), hDf 27 1 (by decide), hn5]
      refine Inv_p I hf (by refine ⟨?_, ?_, ?_, ?_, ?_⟩ <;> intros <;> omega) ⟨Ra_p a1 hf (by refine ⟨?_, ?_, ?_, ?_⟩ <;> intros <;> omega), Rb_p a2 hf (by refine ⟨?_, ?_⟩ <;> intros <;> omega), Rc_p a3 hf (by refine ⟨?_, ?_⟩ <;> intros <;> omega), Rd_p a4 hf (by refine ⟨?_, ?_, ?_⟩ <;> intros <;> omega), Re_p a5 hf (by refine ⟨?_, ?_, ?_, ?_⟩ <;> intros <;> omega), Rf_p a6 hf (by refine ⟨?_, ?_⟩ <;> intros <;> omega)⟩ (IvR_cong I.2.2.2.1 (hf _ _ (by omega)) (hf _ _ (by omega)) (fp_row hf (by intros; omega)) (fp_row hf (by intros; omega))) ?_ (IvX_p I.2.2.2.2.2.1 hf (by refine ⟨?_, ?_, ?_, ?_, ?_, ?_⟩ <;> omega)) (IvU_p I.2.2.2.2.2.2.1 hf (by refine ⟨?_, ?_, ?_, ?_⟩ <;> intros <;> omega))
      unfold IvT
      rw [q1, upC_at]
      refine ⟨rfl, by omega, fun i x0 x1 => ?_⟩
      have e28 : upC C' 81 13 (L + 20) 28 i = C5 28 i := by rw [upC_ne (by decide), c1 28 i (by omega), hDf 28 i (by omega)]
      have e88 : upC C' 81 13 (L + 20) 88 i = C' 88 i := by rw [upC_ne (by decide)]
      rw [e28, e88]
      by_cases hi : i < L
      · rw [c1 88 i (by omega), hDf 88 i (by omega), fr 88 i (by omega), fr 28 i (by omega)]
        exact t3 i x0 hi
      · obtain ⟨j, hj⟩ : ∃ j : Nat, i = L + j := ⟨(i - L).toNat, by omega⟩
        subst hj
        rw [c2 j (by omega)]
        refine ⟨rfl, ?_⟩
        have rng : ∀ x y : Int, -128 ≤ by4 x y ∧ by4 x y ≤ 127 := fun x y => nB_bd _
        rcases q_4 (j := j) (by omega) with q | ⟨q, e, hq⟩ | ⟨q, e, hq⟩ | ⟨q, e, hq⟩ | ⟨q, e, hq⟩
        · rw [v1 j q]; exact rng _ _
        · rw [show L + (j : Int) = L + 4 + q by omega, v2 q hq]; exact rng _ _
        · rw [show L + (j : Int) = L + 8 + q by omega, v3 q hq]; exact rng _ _
        · rw [show L + (j : Int) = L + 12 + q by omega, v4 q hq]; exact rng _ _
        · rw [show L + (j : Int) = L + 16 + q by omega, v5 q hq]; exact rng _ _
    · intro j C' hj hC ih
      obtain ⟨c1, c2⟩ := hC
      have e13 : C' 81 13 = L := by rw [c1 81 13 (by omega), hDf 81 13 (by decide)]; exact h13
      have e89 : ∀ i, C' 89 i = D 89 i := fun i => c1 89 i (by omega)
      refine b_X11_feed_55 F ⟨fun z => by omega, fun _ => ?_⟩
      rw [e13, Int.tdiv_eq_ediv_of_nonneg (by omega), Int.tmod_eq_emod_of_nonneg (by omega), w32_lit (x := (j : Int) / 4) (by omega), w32_lit (x := L + (j : Int)) (by omega), w32_lit (x := (j : Int) % 4) (by omega), w32_lit (x := 8 * ((j : Int) % 4)) (by omega), w32_lit (x := 24 - 8 * ((j : Int) % 4)) (by omega), w32_succ (by omega), e89]
      refine ⟨by omega, by omega, ih _ ⟨Fp_up ⟨rfl, by omega⟩ c1, fun i hi => ?_⟩⟩
      by_cases e : i = j
      · subst e
        rw [upC_at]
        show by4 (D 89 ((i : Int) / 4)) ((i : Int) % 4) = _
        rcases q_4 (j := i) (by omega) with q | ⟨q, e, hq⟩ | ⟨q, e, hq⟩ | ⟨q, e, hq⟩ | ⟨q, e, hq⟩
        · rw [show (i : Int) / 4 = 0 by omega, show (i : Int) % 4 = i by omega, w0, v1 i q]
        · rw [show (i : Int) / 4 = 1 by omega, show (i : Int) % 4 = q by omega, w1, show L + (i : Int) = L + 4 + q by omega, v2 q hq]
        · rw [show (i : Int) / 4 = 2 by omega, show (i : Int) % 4 = q by omega, w2, show L + (i : Int) = L + 8 + q by omega, v3 q hq]
        · rw [show (i : Int) / 4 = 3 by omega, show (i : Int) % 4 = q by omega, w3, show L + (i : Int) = L + 12 + q by omega, v4 q hq]
        · rw [show (i : Int) / 4 = 4 by omega, show (i : Int) % 4 = q by omega, w4, show L + (i : Int) = L + 16 + q by omega, v5 q hq]
      · rw [upC_sK (by omega)]; exact c2 i (by omega)
  · rw [← t1, w32_lit (x := C 27 1 + 20) (by omega)] at z2
    omega
/-! row -/
theorem and255 : ∀ j : Nat, j < 256 → iAnd ((j : Int) - 128) 255 = if j < 128 then (j : Int) + 128 else (j : Int) - 128 := by decide +kernel
theorem and255' {x : Int} (h : -128 ≤ x ∧ x ≤ 127) : iAnd x 255 = if x < 0 then x + 256 else x := by
  have := and255 (x + 128).toNat (by omega)
  rw [Int.toNat_of_nonneg (by omega : 0 ≤ x + 128), show x + 128 - 128 = x by omega] at this
  rw [this]
  split <;> split <;> omega
def rwM (tp r : Int → Int) : Nat → Int → Int
  | 0 => r
  | m + 1 => if 0 ≤ tp (2 * m) ∧ tp (2 * m) < 16 then (fun b => if b = tp (2 * m) then iAnd (tp (2 * m + 1)) 255 else rwM tp r m b) else rwM tp r m
def rwT (tp : Int → Int) : Nat → Int
  | 0 => 0
  | m + 1 => if 0 ≤ tp (2 * m) ∧ tp (2 * m) < 16 then rwT tp m + 1 else rwT tp m
theorem rwT_bd (tp : Int → Int) : ∀ m : Nat, 0 ≤ rwT tp m ∧ rwT tp m ≤ m
  | 0 => by simp [rwT]
  | m + 1 => by
    have := rwT_bd tp m
    unfold rwT
    split <;> omega
theorem rwM_bd {tp r : Int → Int} {M : Nat} (hr : ∀ b, 0 ≤ b → b < 16 → 0 ≤ r b ∧ r b ≤ 255) (ht : ∀ i : Int, 0 ≤ i → i < 2 * M → -128 ≤ tp i ∧ tp i ≤ 127) : ∀ m : Nat, m ≤ M → ∀ b, 0 ≤ b → b < 16 → 0 ≤ rwM tp r m b ∧ rwM tp r m b ≤ 255
  | 0, _, b, x0, x1 => hr b x0 x1
  | m + 1, hm, b, x0, x1 => by
    have ih := rwM_bd hr ht m (by omega) b x0 x1
    unfold rwM
    split
    · show 0 ≤ (if b = tp (2 * m) then iAnd (tp (2 * m + 1)) 255 else rwM tp r m b) ∧ (if b = tp (2 * m) then iAnd (tp (2 * m + 1)) 255 else rwM tp r m b) ≤ 255
      split
      · have := ht (2 * m + 1) (by omega) (by omega)
        rw [and255' this]
        split <;> omega
      · exact ih
    · exact ih
theorem s_byteAt {d mc ms : Nat} {x : Int} {S : MS} {C : MC} {Q : Qt} (F : Fix S) (hx : 0 ≤ x ∧ x < C 27 1) (hl : C 27 1 ≤ 400) (h : Q (iAnd (C 28 x) 255) S C) : K_X8_byteAt_0 d mc ms x S C Q :=
  b_X8_byteAt_0 F ⟨fun z => by omega, fun _ => ⟨fun z => by omega, fun _ => ⟨by omega, h⟩⟩⟩
theorem s_rowC {d L : Nat} {S : MS} {C : MC} {Q : Qt} (F : Fix S) (hL : C 27 1 = L) (hL4 : L ≤ 400) (h0 : C 0 15 = 0) (ht : ∀ i : Int, 0 ≤ i → i < L → -128 ≤ C 28 i ∧ C 28 i ≤ 127)
    (h : ∀ C', Fp (fun a k => a = 5 ∨ (a = 0 ∧ k = 15)) C C' → (∀ b, C' 5 b = rwM (C 28) (C 5) (L / 2) b) → C' 0 15 = ((L / 2 : Nat) : Int) - rwT (C 28) (L / 2) + (L % 2 : Nat) → Q (rwT (C 28) (L / 2)) S (upC (upC (upC C' 27 1 0) 55 3 0) 0 16 0)) : K_X10_row_26 (d + 2) 0 0 0 0 S C Q := by
  refine up_ind (α := MC) (P := fun m C' => Fp (fun a k => a = 5 ∨ (a = 0 ∧ k = 15)) C C' ∧ (∀ b, C' 5 b = rwM (C 28) (C 5) m b) ∧ C' 0 15 = (m : Int) - rwT (C 28) m) (K := fun m C' => K_X10_row_26 (d + 2) 0 0 (rwT (C 28) m) (2 * (m : Int)) S C' Q) (L / 2) ?_ ?_ 0 (by omega) C ⟨Fp_rf, fun b => rfl, by rw [h0]; rfl⟩
  · intro C' hC
    obtain ⟨c1, c2, c3⟩ := hC
    have e27 : C' 27 1 = L := by rw [c1 27 1 (by omega)]; exact hL
    have fin : ∀ (x : Int) (C2 : MC), L ≤ x → C2 27 1 = L → Q (rwT (C 28) (L / 2)) S (upC (upC (upC C2 27 1 0) 55 3 0) 0 16 0) → K_X10_row_26 (d + 2) 0 0 (rwT (C 28) (L / 2)) x S C2 Q := fun x C2 hx h27 hQ =>
      b_X10_row_26 F ⟨fun _ => b_X0_clear_0 F ⟨rfl, b_X10_accept_0 F ⟨rfl, hQ⟩⟩, fun z => by omega⟩
    have hb := rwT_bd (C 28) (L / 2)
    by_cases hodd : L % 2 = 0
    · refine fin _ _ (by omega) e27 (h C' c1 c2 ?_)
      rw [hodd, c3]
      omega
    · refine b_X10_row_26 F ?_
      rw [e27, w32_lit (x := 2 * ((L / 2 : Nat) : Int) + 1) (by omega), w32_lit (x := 2 * ((L / 2 : Nat) : Int) + 2) (by omega)]
      refine ⟨fun z => by omega, fun _ => ⟨fun _ => ?_, fun z => by omega⟩⟩
      refine fin _ _ (by omega) (by rw [upC_ne (by decide)]; exact e27) (h _ (Fp_up (Or.inr ⟨rfl, rfl⟩) c1) (fun b => by rw [upC_ne (by decide)]; exact c2 b) ?_)
      rw [upC_at, c3, w32_lit (by omega)]
      omega
  · intro m C' hm hC ih
    obtain ⟨c1, c2, c3⟩ := hC
    have e27 : C' 27 1 = L := by rw [c1 27 1 (by omega)]; exact hL
    have e28 : ∀ i, C' 28 i = C 28 i := fun i => c1 28 i (by omega)
    have hb := rwT_bd (C 28) m
    have t0 := ht (2 * m) (by omega) (by omega)
    have a0 := and255' t0
    refine b_X10_row_26 F ?_
    rw [e27, w32_lit (x := 2 * (m : Int) + 1) (by omega), w32_lit (x := 2 * (m : Int) + 2) (by omega)]
    refine ⟨fun z => by omega, fun _ => ⟨fun z => by omega, fun _ => s_byteAt F (by omega) (by omega) ⟨rfl, ?_⟩⟩⟩
    have e2 : 2 * ((m + 1 : Nat) : Int) = 2 * (m : Int) + 2 := by omega
    rw [e28]
    refine s_isBeatC F fun r hr => ⟨rfl, fun z => ?_, fun z => ?_⟩
    · have hno : ¬ (0 ≤ C 28 (2 * m) ∧ C 28 (2 * m) < 16) := fun q => by
        rw [a0, if_neg (by omega)] at hr
        omega
      have eT : rwT (C 28) (m + 1) = rwT (C 28) m := if_neg hno
      have eM : rwM (C 28) (C 5) (m + 1) = rwM (C 28) (C 5) m := if_neg hno
      have := ih (upC C' 0 15 (w32 (C' 0 15 + 1))) ⟨Fp_up (Or.inr ⟨rfl, rfl⟩) c1, fun b => by rw [eM, upC_ne (by decide)]; exact c2 b, by rw [upC_at, eT, c3, w32_lit (by omega)]; omega⟩
      rw [eT, e2] at this
      exact this
    · have hyes : 0 ≤ C 28 (2 * m) ∧ C 28 (2 * m) < 16 := by
        rw [a0] at hr
        split at hr <;> omega
      have eT : rwT (C 28) (m + 1) = rwT (C 28) m + 1 := if_pos hyes
      have eM : rwM (C 28) (C 5) (m + 1) = (fun b => if b = C 28 (2 * m) then iAnd (C 28 (2 * m + 1)) 255 else rwM (C 28) (C 5) m b) := if_pos hyes
      refine s_byteAt F (by omega) (by omega) ⟨rfl, s_byteAt F (by omega) (by omega) ⟨rfl, ?_⟩⟩
      rw [e28, e28, a0, if_neg (by omega), w32_lit (x := rwT (C 28) m + 1) (by omega)]
      refine ⟨hyes, ?_⟩
      have := ih (upC C' 5 (C 28 (2 * m)) (iAnd (C 28 (2 * m + 1)) 255)) ⟨Fp_up (Or.inl rfl) c1, fun b => by
        rw [eM]
        show _ = if b = C 28 (2 * m) then _ else _
        rw [upC_get]
        by_cases q : b = C 28 (2 * m)
        · rw [if_pos ⟨rfl, q⟩, if_pos q]
        · rw [if_neg (fun z => q z.2), if_neg q]; exact c2 b, by rw [upC_ne (by decide), eT, c3]; omega⟩
      rw [eT, e2] at this
      exact this
theorem s_rowM {d L : Nat} {S : MS} {C : MC} {Q : Qt} (F : Fix S) (hL4 : L ≤ 400) (h0 : C 81 6 = (L % 2 : Nat)) (ht : ∀ i : Int, 0 ≤ i → i < L → -128 ≤ C 88 i ∧ C 88 i ≤ 127)
    (h : ∀ C', Fp (fun a k => (a = 83 ∧ 8 ≤ k ∧ k < 24) ∨ (a = 81 ∧ k = 6)) C C' → (∀ b, 0 ≤ b → b < 16 → C' 83 (8 + b) = rwM (C 88) (fun b => C 83 (8 + b)) (L / 2) b) → C' 81 6 = ((L / 2 : Nat) : Int) - rwT (C 88) (L / 2) + (L % 2 : Nat) → Q (rwT (C 88) (L / 2)) S (upC (upC C' 81 42 0) 81 0 0)) : K_X11_row_32 (d + 2) 0 0 (L : Int) 0 0 S C Q := by
  refine up_ind (α := MC) (P := fun m C' => Fp (fun a k => (a = 83 ∧ 8 ≤ k ∧ k < 24) ∨ (a = 81 ∧ k = 6)) C C' ∧ (∀ b, 0 ≤ b → b < 16 → C' 83 (8 + b) = rwM (C 88) (fun b => C 83 (8 + b)) m b) ∧ C' 81 6 = (m : Int) - rwT (C 88) m + (L % 2 : Nat)) (K := fun m C' => K_X11_row_32 (d + 2) 0 0 (L : Int) (rwT (C 88) m) (2 * (m : Int)) S C' Q) (L / 2) ?_ ?_ 0 (by omega) C ⟨Fp_rf, fun b _ _ => rfl, by rw [h0]; show _ = (0 : Int) - 0 + _; omega⟩
  · intro C' hC
    obtain ⟨c1, c2, c3⟩ := hC
    refine b_X11_row_32 F ?_
    rw [w32_lit (x := 2 * ((L / 2 : Nat) : Int) + 2) (by omega)]
    exact ⟨fun _ => s_goodAnew F ⟨rfl, h C' c1 c2 c3⟩, fun z => by omega⟩
  · intro m C' hm hC ih
    obtain ⟨c1, c2, c3⟩ := hC
    have e88 : ∀ i, C' 88 i = C 88 i := fun i => c1 88 i (by omega)
    have hb := rwT_bd (C 88) m
    have t0 := ht (2 * m) (by omega) (by omega)
    refine b_X11_row_32 F ?_
    rw [w32_lit (x := 2 * (m : Int) + 2) (by omega), w32_lit (x := 2 * (m : Int) + 1) (by omega), e88]
    have e2 : 2 * ((m + 1 : Nat) : Int) = 2 * (m : Int) + 2 := by omega
    refine ⟨fun z => by omega, fun _ => ⟨by omega, s_isBeatM F fun r hr => ⟨rfl, fun z => ?_, fun z => ?_⟩⟩⟩
    · have hno : ¬ (0 ≤ C 88 (2 * m) ∧ C 88 (2 * m) < 16) := by omega
      have eT : rwT (C 88) (m + 1) = rwT (C 88) m := if_neg hno
      have eM : rwM (C 88) (fun b => C 83 (8 + b)) (m + 1) = rwM (C 88) (fun b => C 83 (8 + b)) m := if_neg hno
      have := ih (upC C' 81 6 (w32 (C' 81 6 + 1))) ⟨Fp_up (Or.inr ⟨rfl, rfl⟩) c1, fun b x0 x1 => by rw [eM, upC_ne (by decide)]; exact c2 b x0 x1, by rw [upC_at, eT, c3, w32_lit (by omega)]; omega⟩
      rw [eT, e2] at this
      exact this
    · have hyes : 0 ≤ C 88 (2 * m) ∧ C 88 (2 * m) < 16 := by omega
      have eT : rwT (C 88) (m + 1) = rwT (C 88) m + 1 := if_pos hyes
      have eM : rwM (C 88) (fun b => C 83 (8 + b)) (m + 1) = (fun b => if b = C 88 (2 * m) then iAnd (C 88 (2 * m + 1)) 255 else rwM (C 88) (fun b => C 83 (8 + b)) m b) := if_pos hyes
      rw [e88, e88, w32_lit (x := 8 + C 88 (2 * m)) (by omega), w32_lit (x := rwT (C 88) m + 1) (by omega)]
      refine ⟨by omega, by omega, by omega, ?_⟩
      have := ih (upC C' 83 (8 + C 88 (2 * m)) (iAnd (C 88 (2 * m + 1)) 255)) ⟨Fp_up (Or.inl ⟨rfl, by omega⟩) c1, fun b x0 x1 => by
        rw [eM]
        show _ = if b = C 88 (2 * m) then _ else _
        rw [upC_get]
        by_cases q : b = C 88 (2 * m)
        · rw [if_pos ⟨rfl, by omega⟩, if_pos q]
        · rw [if_neg (fun z => q (by omega)), if_neg q]; exact c2 b x0 x1, by rw [upC_ne (by decide), eT, c3]; omega⟩
      rw [eT, e2] at this
      exact this
theorem rwT_cong {t t' : Int → Int} {M : Nat} (h : ∀ i : Int, 0 ≤ i → i < 2 * M → t i = t' i) : ∀ m : Nat, m ≤ M → rwT t m = rwT t' m
  | 0, _ => rfl
  | m + 1, hm => by unfold rwT; rw [rwT_cong h m (by omega), h (2 * m) (by omega) (by omega)]
theorem rwM_cong {t t' r r' : Int → Int} {M : Nat} (h : ∀ i : Int, 0 ≤ i → i < 2 * M → t i = t' i) (hr : ∀ b, 0 ≤ b → b < 16 → r b = r' b) : ∀ m : Nat, m ≤ M → ∀ b, 0 ≤ b → b < 16 → rwM t r m b = rwM t' r' m b
  | 0, _, b, x0, x1 => hr b x0 x1
  | m + 1, hm, b, x0, x1 => by
    unfold rwM
    rw [h (2 * m) (by omega) (by omega), h (2 * m + 1) (by omega) (by omega)]
    split
    · show (if _ then _ else rwM t r m b) = (if _ then _ else rwM t' r' m b)
      rw [rwM_cong h hr m (by omega) b x0 x1]
    · exact rwM_cong h hr m (by omega) b x0 x1
theorem q_row {d : Nat} {S : MS} {C : MC} {P : Int → Int → MC → Prop} (I : Inv S C) (k : ∀ r C', Inv S C' → P r r C') : K_X10_row_0 (d + 2) 0 0 S C (fun r Sq C2 => Sq = S ∧ K_X11_row_0 (d + 2) 0 0 S C2 (fun r2 Sq C3 => Sq = S ∧ P r r2 C3)) := by
  have F := I.1
  obtain ⟨t1, t2, t3⟩ := I.2.2.2.2.1
  obtain ⟨a1, a2, a3, a4, a5, a6⟩ := I.2.1
  obtain ⟨L, hL⟩ : ∃ L : Nat, C 27 1 = L := ⟨(C 27 1).toNat, by omega⟩
  refine b_X10_row_0 F ⟨fun z => ?_, fun z => ?_⟩
  · refine s_rowC (L := L) F (by rw [upC_ne (by decide)]; exact hL) (by omega) (upC_at _ _ _ _) (fun i x0 x1 => by rw [upC_ne (by decide)]; exact (t3 i x0 (by omega)).2) (fun C1 f1 m1 k1 => ⟨rfl, ?_⟩)
    rw [upC_ne (by decide), upC_ne (by decide)] at m1
    rw [upC_ne (by decide)] at k1
    rw [upC_ne (by decide)]
    generalize hD : upC (upC (upC C1 27 1 0) 55 3 0) 0 16 0 = D
    have fD : Fp (fun a k => a = 5 ∨ (a = 0 ∧ (k = 15 ∨ k = 16)) ∨ (a = 27 ∧ k = 1) ∨ (a = 55 ∧ k = 3)) C D := by
      rw [← hD]
      exact Fp_up (by omega) (Fp_up (by omega) (Fp_up (by omega) (Fp_tr (Fp_up (by omega) Fp_rf) (Fp_mono f1 (by omega)))))
    have n13 : D 81 13 = L := by rw [fD 81 13 (by omega)]; omega
    refine b_X11_row_0 F ⟨fun _ => ?_, fun z2 => by omega⟩
    rw [n13, Int.tmod_eq_emod_of_nonneg (by omega), w32_lit (x := (L : Int) % 2) (by omega)]
    generalize hE : upC (upC D 81 13 0) 81 6 ((L : Int) % 2) = E
    have fE : Fp (fun a k => a = 81 ∧ (k = 13 ∨ k = 6)) D E := by rw [← hE]; exact Fp_up (by omega) (Fp_up (by omega) Fp_rf)
    have e88 : ∀ i, E 88 i = C 88 i := fun i => by rw [fE 88 i (by omega), fD 88 i (by omega)]
    have e83 : ∀ i, E 83 i = C 83 i := fun i => by rw [fE 83 i (by omega), fD 83 i (by omega)]
    have e6 : E 81 6 = (L % 2 : Nat) := by rw [← hE, upC_at]; omega
    refine s_rowM (L := L) F (by omega) e6 (fun i x0 x1 => by rw [e88]; have := t3 i x0 (by omega); omega) (fun C2 f2 m2 k2 => ⟨rfl, ?_⟩)
    have eT : rwT (E 88) (L / 2) = rwT (C 28) (L / 2) := rwT_cong (M := L / 2) (fun i x0 x1 => by rw [e88]; exact (t3 i x0 (by omega)).1.symm) _ (Nat.le_refl _)
    rw [eT]
    refine k _ _ ?_
    have hf : Fp (fun a k => a = 5 ∨ (a = 0 ∧ (k = 15 ∨ k = 16)) ∨ (a = 27 ∧ k = 1) ∨ (a = 55 ∧ k = 3) ∨ (a = 81 ∧ (k = 13 ∨ k = 6 ∨ k = 42 ∨ k = 0)) ∨ (a = 83 ∧ 8 ≤ k ∧ k < 24)) C (upC (upC C2 81 42 0) 81 0 0) := Fp_up (by omega) (Fp_up (by omega) (Fp_tr (Fp_tr (Fp_mono fD (by omega)) (Fp_mono fE (by omega))) (Fp_mono f2 (by omega))))
    generalize hG : upC (upC C2 81 42 0) 81 0 0 = G at hf ⊢
    have r2 : ∀ b k, b ≠ 81 → G b k = C2 b k := fun b k hb => by rw [← hG, upC_ne hb, upC_ne hb]
    have rD : ∀ b k, b ≠ 81 → b ≠ 83 → G b k = D b k := fun b k h1 h2 => by rw [r2 b k h1, f2 b k (by omega), fE b k (by omega)]
    have q7 : G 0 16 = 0 := by rw [rD 0 16 (by decide) (by decide), ← hD]; simp [upC]
    have q8 : G 81 0 = 0 := by rw [← hG]; simp [upC]
    have q9 : G 55 3 = 0 := by rw [rD 55 3 (by decide) (by decide), ← hD]; simp [upC]
    have q10 : G 81 42 = 0 := by rw [← hG]; simp [upC]
    have q11 : G 27 1 = 0 := by rw [rD 27 1 (by decide) (by decide), ← hD]; simp [upC]
    have q12 : G 81 13 = 0 := by rw [← hG, upC_sK (by decide), upC_sK (by decide), f2 81 13 (by omega), ← hE, upC_sK (by decide), upC_at]
    have q13 : G 0 15 = G 81 6 := by
      rw [rD 0 15 (by decide) (by decide), ← hD, upC_sK (by decide), upC_ne (by decide), upC_ne (by decide), k1, ← hG, upC_sK (by decide), upC_sK (by decide), k2, eT]
    refine Inv_p I hf (by refine ⟨?_, ?_, ?_, ?_, ?_⟩ <;> intros <;> omega) ⟨Ra_p a1 hf (by refine ⟨?_, ?_, ?_, ?_⟩ <;> intros <;> omega), Rb_p a2 hf (by refine ⟨?_, ?_⟩ <;> intros <;> omega), ?_, Rd_p a4 hf (by refine ⟨?_, ?_, ?_⟩ <;> intros <;> omega), Re_p a5 hf (by refine ⟨?_, ?_, ?_, ?_⟩ <;> intros <;> omega), Rf_p a6 hf (by refine ⟨?_, ?_⟩ <;> intros <;> omega)⟩ (IvR_p I.2.2.2.1 hf q7 q8 (by intros; omega)) ?_ ?_ (IvU_none q9 q10)
    · intro b x0 x1
      show G 5 b = G 83 (8 + b) ∧ _
      have s1 : G 5 b = rwM (C 28) (C 5) (L / 2) b := by rw [rD 5 b (by decide) (by decide), ← hD, upC_ne (by decide), upC_ne (by decide), upC_ne (by decide)]; exact m1 b
      have s2 : G 83 (8 + b) = rwM (E 88) (fun b => E 83 (8 + b)) (L / 2) b := by rw [r2 83 _ (by decide)]; exact m2 b x0 x1
      have s3 : rwM (E 88) (fun b => E 83 (8 + b)) (L / 2) b = rwM (C 28) (C 5) (L / 2) b := rwM_cong (M := L / 2) (fun i x0 x1 => by rw [e88]; exact (t3 i x0 (by omega)).1.symm) (fun b x0 x1 => by rw [e83]; exact (a3 b x0 x1).1.symm) _ (Nat.le_refl _) b x0 x1
      have s4 := rwM_bd (tp := C 28) (r := C 5) (M := L / 2) (fun b x0 x1 => by have : C 5 b = _ ∧ _ := a3 b x0 x1; omega) (fun i x0 x1 => (t3 i x0 (by omega)).2) (L / 2) (Nat.le_refl _) b x0 x1
      rw [s1, s2, s3]
      exact ⟨rfl, s4⟩
    · unfold IvT
      rw [q11, q12]
      exact ⟨rfl, by decide, fun i x0 x1 => by omega⟩
    · obtain ⟨x1, x2, x3⟩ := I.2.2.2.2.2.1
      refine ⟨q13, ?_, ?_⟩
      · rw [hf 29 11 (by omega), hf 81 14 (by omega)]; exact x2
      · rw [hf 59 4 (by omega), hf 81 43 (by omega)]; exact x3
  · refine s_refuse F (by unfold okR; omega) ⟨rfl, rfl, ?_⟩
    have e : rfC C (-6) 81 13 = 0 := by unfold rfC; rw [upC_ne (by decide), upC_ne (by decide)]; omega
    refine b_X11_row_0 F ⟨fun z2 => absurd e z2, fun _ => ?_⟩
    rw [upC_id e]
    exact s_refuses F (by unfold okR; omega) ⟨rfl, rfl, k _ _ (Inv_refuse (by unfold okR; omega) I)⟩
