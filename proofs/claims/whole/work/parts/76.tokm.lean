/-! 76.tokm: the reference splits its tape -/
def WdM (C : MC) : Prop := ∀ i : Nat, i < 136 → C 87 i = wmL.getD i 0
theorem WdM_of {C : MC} (h : IvW C) : WdM C := fun i hi => by have := h i (by omega) (by omega); rwa [Int.toNat_natCast] at this
theorem m_small {d mc ms : Nat} {l : Int} {S : MS} {C : MC} {Q : Qt} (F : Fix S) (h0 : smB l = false → Q 0 S C) (h1 : smB l = true → Q 1 S C) : K_X11_isSmall_0 d mc ms l S C Q := by
  have f : ¬ (97 ≤ l ∧ l ≤ 122) → Q 0 S C := fun z => h0 (by cases e : smB l with | false => rfl | true => rw [smB_iff] at e; exact absurd e z)
  exact b_X11_isSmall_0 F ⟨fun z => f (by omega), fun z => ⟨fun y => f (by omega), fun y => h1 (smB_iff.mpr (by omega))⟩⟩
theorem m_digit {d mc ms : Nat} {l : Int} {S : MS} {C : MC} {Q : Qt} (F : Fix S) (h0 : dgB l = false → Q 0 S C) (h1 : dgB l = true → Q 1 S C) : K_X11_isDigit_0 d mc ms l S C Q := by
  have f : ¬ (48 ≤ l ∧ l ≤ 57) → Q 0 S C := fun z => h0 (by cases e : dgB l with | false => rfl | true => rw [dgB_iff] at e; exact absurd e z)
  exact b_X11_isDigit_0 F ⟨fun z => f (by omega), fun z => ⟨fun y => f (by omega), fun y => h1 (dgB_iff.mpr (by omega))⟩⟩
theorem w32_in1 {a b : Nat} (ha : a ≤ 100000) (hb : b ≤ 100000) : w32 ((a : Int) + w32 ((b : Int) + 1)) = ((a + b + 1 : Nat) : Int) := by
  have e0 : w32 ((b : Int) + 1) = ((b + 1 : Nat) : Int) := w32_nat1 hb
  have e1 : w32 ((a : Int) + ((b + 1 : Nat) : Int)) = (a : Int) + ((b + 1 : Nat) : Int) := w32_lit (by omega)
  exact (congrArg (fun z => w32 ((a : Int) + z)) e0).trans (e1.trans (by omega))
theorem m_word57 {d f st i t : Nat} {w : List Int} {B : Nat → Int} {N : Nat} {S : MS} {C : MC} {Q : Qt} (F : Fix S) (hB : BtM B N C) (hW : WdM C) (hi : i ≤ 1000) (hf : f + w.length ≤ N) (hL : ∀ j, j < w.length → wmL.getD (st + j) 0 = w.getD j 0 ∧ 97 ≤ w.getD j 0 ∧ w.getD j 0 ≤ 122) (h136 : st + w.length < 136) (h1 : (∀ j, j < w.length → B (f + j) = w.getD j 0) → Q i S C) (h0 : ¬ (∀ j, j < w.length → B (f + j) = w.getD j 0) → K_X11_wordOf_5 d 0 0 (f : Int) (t : Int) ((i + 1 : Nat) : Int) ((st + w.length + 1 : Nat) : Int) S C Q) : K_X11_wordOf_57 d 0 0 (f : Int) (t : Int) (i : Int) (st : Int) (w.length : Int) 1 0 S C Q := by
  have hN := hB.1
  have i1 : ∀ j, j < w.length → w32 ((st : Int) + (j : Int)) = ((st + j : Nat) : Int) := fun j hj => by rw [w32_lit (by omega)]; omega
  have i2 : ∀ j, j < w.length → w32 ((f : Int) + (j : Int)) = ((f + j : Nat) : Int) := fun j hj => by rw [w32_lit (by omega)]; omega
  have i3 : ∀ j, j < w.length → w32 ((j : Int) + 1) = ((j + 1 : Nat) : Int) := fun j hj => w32_nat1 (by omega)
  have b1 : ∀ j, j < w.length → (0 : Int) ≤ ((st + j : Nat) : Int) ∧ ((st + j : Nat) : Int) < 136 := fun j hj => by omega
  have b2 : ∀ j, j < w.length → (0 : Int) ≤ ((f + j : Nat) : Int) ∧ ((f + j : Nat) : Int) < 400 := fun j hj => by omega
  have n1 : ∀ j, j < w.length → f + j < N := fun j hj => by omega
  have n2 : ∀ j, j < w.length → st + j < 136 := fun j hj => by omega
  have g1 : i ≤ 100000 := by omega
  have g2 : st ≤ 100000 := by omega
  have g3 : w.length ≤ 100000 := by omega
  have e1 : w32 ((i : Int) + 1) = ((i + 1 : Nat) : Int) := w32_nat1 g1
  have e2 : w32 ((st : Int) + w32 ((w.length : Int) + 1)) = ((st + w.length + 1 : Nat) : Int) := w32_in1 g2 g3
  have no : ¬ (∀ j, j < w.length → B (f + j) = w.getD j 0) → ∀ j : Nat, K_X11_wordOf_57 d 0 0 (f : Int) (t : Int) (i : Int) (st : Int) (w.length : Int) 0 (j : Int) S C Q := by
    intro z j
    refine b_X11_wordOf_57 F ?_
    rw [e1, e2]
    exact ⟨fun _ => ⟨fun _ => h0 z, fun y => absurd rfl y⟩, fun _ => ⟨fun _ => ⟨fun _ => h0 z, fun y => absurd rfl y⟩, fun y => absurd rfl y⟩⟩
  clear e1 e2
  refine up_ind (α := Unit) (P := fun j _ => ∀ x, x < j → B (f + x) = w.getD x 0) (K := fun j _ => K_X11_wordOf_57 d 0 0 (f : Int) (t : Int) (i : Int) (st : Int) (w.length : Int) 1 (j : Int) S C Q) w.length ?_ ?_ 0 (Nat.zero_le _) () (fun x hx => absurd hx (Nat.not_lt_zero x))
  · intro _ hp
    exact b_X11_wordOf_57 F ⟨fun _ => ⟨fun y => absurd y (by decide), fun _ => h1 hp⟩, fun z => absurd (Int.le_refl _) z⟩
  · intro j _ hj hp ih
    obtain ⟨w1, w2⟩ := hL j hj
    refine b_X11_wordOf_57 F ⟨fun z => absurd z (Int.not_le.mpr (Int.ofNat_lt.mpr hj)), fun _ => ⟨fun y => absurd y (by decide), fun _ => ?_⟩⟩
    rw [i1 j hj, i2 j hj, hW (st + j) (n2 j hj), (hB.2 (f + j) (n1 j hj)).1, w1, i3 j hj]
    refine ⟨b1 j hj, b2 j hj, fun z => no (fun y => z (y j hj).symm) (j + 1), fun z => ih () (fun x hx => ?_)⟩
    by_cases q : x = j
    · rw [q]; exact z.symm
    · exact hp x (Nat.lt_of_le_of_ne (Nat.le_of_lt_succ hx) q)
theorem m_word {d f t : Nat} {B : Nat → Int} {N : Nat} {S : MS} {C : MC} {Q : Qt} (F : Fix S) (hB : BtM B N C) (hW : WdM C) (hft : f ≤ t) (ht : t ≤ N) : ∀ (ws : List (List Int)) (i st : Nat), i + ws.length ≤ 1000 → locB wmL st ws = true → Q (match ixOf (sl B f t) ws i with | some j => (j : Int) | none => 0) S C → K_X11_wordOf_5 d 0 0 (f : Int) (t : Int) (i : Int) (st : Int) S C Q
  | [], i, st, hi, hl, h => by
    have := locB_nil hl
    exact b_X11_wordOf_5 F ⟨fun _ => h, fun z => by omega⟩
  | w :: ws, i, st, hi, hl, h => by
    have hN := hB.1
    obtain ⟨l1, l2, l3, l4⟩ := locB_inv hl
    rw [List.length_cons] at hi
    have next : sl B f t ≠ w → K_X11_wordOf_5 d 0 0 (f : Int) (t : Int) ((i + 1 : Nat) : Int) ((st + w.length + 1 : Nat) : Int) S C Q := by
      intro z
      refine m_word F hB hW hft ht ws (i + 1) (st + w.length + 1) (by omega) l4 ?_
      unfold ixOf at h
      rw [if_neg z] at h
      exact h
    have gi : i ≤ 1000 := by omega
    have g1 : i ≤ 100000 := by omega
    have g2 : st ≤ 100000 := by omega
    have g3 : w.length ≤ 100000 := by omega
    have gl : ((t - f : Nat) : Int) = (w.length : Int) → f + w.length ≤ N := fun z => by omega
    have gl2 : (w.length : Int) = ((t - f : Nat) : Int) → t - f = w.length := fun z => by omega
    have gb : (0 : Int) ≤ ((st + w.length : Nat) : Int) ∧ ((st + w.length : Nat) : Int) < 136 := by omega
    have i1 : ∀ j, j ≤ w.length → w32 ((st : Int) + (j : Int)) = ((st + j : Nat) : Int) := fun j hj => by rw [w32_lit (by omega)]; omega
    have i3 : ∀ j, j < w.length → w32 ((j : Int) + 1) = ((j + 1 : Nat) : Int) := fun j hj => w32_nat1 (by omega)
    have n2 : ∀ j, j < w.length → st + j < 136 := fun j hj => by omega
    have b1 : ∀ j, j < w.length → (0 : Int) ≤ ((st + j : Nat) : Int) ∧ ((st + j : Nat) : Int) < 136 := fun j hj => by omega
    have n32 : ∀ x : Int, 97 ≤ x ∧ x ≤ 122 → ¬ x = 32 := fun x hx => by omega
    refine b_X11_wordOf_5 F ⟨fun z => by omega, fun _ => ?_⟩
    have e2 : w32 ((t : Int) - (f : Int)) = ((t - f : Nat) : Int) := by rw [w32_lit (by omega)]; omega
    refine up_ind (α := Unit) (P := fun _ _ => True) (K := fun j _ => K_X11_wordOf_18 d 0 0 (f : Int) (t : Int) (i : Int) (st : Int) (j : Int) S C Q) w.length ?_ ?_ 0 (Nat.zero_le _) () trivial
    · intro _ _
      refine b_X11_wordOf_18 F ?_
      rw [i1 w.length (Nat.le_refl _), e2, hW (st + w.length) l3, l2]
      clear e2
      refine ⟨gb, fun _ => ⟨fun z => ?_, fun z => m_word57 F hB hW gi (gl z.symm) l1 l3 (fun y => ?_) (fun y => next (fun q => y (sl_eq.mp q).2))⟩, fun z => absurd rfl z⟩
      · have nx := next (fun q => z (by rw [(sl_eq.mp q).1]))
        refine b_X11_wordOf_57 F ?_
        rw [w32_nat1 (p := i) g1, w32_in1 g2 g3]
        exact ⟨fun _ => ⟨fun _ => nx, fun y => absurd rfl y⟩, fun _ => ⟨fun _ => ⟨fun _ => nx, fun y => absurd rfl y⟩, fun y => absurd rfl y⟩⟩
      · unfold ixOf at h
        rw [if_pos (sl_eq.mpr ⟨gl2 z, y⟩)] at h
        exact h
    · intro j _ hj _ ih
      obtain ⟨w1, w2⟩ := l1 j hj
      refine b_X11_wordOf_18 F ?_
      rw [i1 j (Nat.le_of_lt hj), hW (st + j) (n2 j hj), w1, i3 j hj]
      exact ⟨b1 j hj, fun z => absurd z (n32 _ w2), fun _ => ih () trivial⟩
theorem m_wordOf {d f t : Nat} {B : Nat → Int} {N : Nat} {S : MS} {C : MC} {Q : Qt} (F : Fix S) (hB : BtM B N C) (hW : WdM C) (hft : f ≤ t) (ht : t ≤ N) (h : Q (cWord (sl B f t)) S C) : K_X11_wordOf_0 d 0 0 (f : Int) (t : Int) S C Q :=
  b_X11_wordOf_0 F (m_word F hB hW hft ht WM 1 0 (by decide +kernel) loc_M h)
def tmx (a k : Int) : Prop := a = 90 ∨ a = 91 ∨ a = 92 ∨ (a = 81 ∧ k = 18)
theorem BtM_fp {B : Nat → Int} {N : Nat} {C C' : MC} (h : BtM B N C) (f : Fp tmx C C') : BtM B N C' := by
  unfold BtM
  rw [fp_row (a := 88) f (fun k => by unfold tmx; omega)]
  exact h
theorem WdM_fp {C C' : MC} (h : WdM C) (f : Fp tmx C C') : WdM C' := by
  unfold WdM
  rw [fp_row (a := 87) f (fun k => by unfold tmx; omega)]
  exact h
def RowM (B : Nat → Int) (C : MC) (j : Nat) (x : Nat × Nat) : Prop := C 90 j = cdM B x.1 x.2 ∧ C 91 j = vlM B x.1 x.2 ∧ C 92 j = x.1
theorem RowM_cong {B : Nat → Int} {C C' : MC} {j : Nat} {x : Nat × Nat} (h : RowM B C j x) (h1 : C' 90 j = C 90 j) (h2 : C' 91 j = C 91 j) (h3 : C' 92 j = C 92 j) : RowM B C' j x := by
  unfold RowM
  rw [h1, h2, h3]
  exact h
def A18 (C : MC) (m : Nat) : Prop := C 81 18 = m ∧ C 91 m = 0
def PV (B : Nat → Int) (f m : Nat) (C : MC) (j : Nat) (D : MC) : Prop := Fp tmx C D ∧ D 90 = C 90 ∧ D 92 = C 92 ∧ D 91 m = numM B f j ∧ (∀ i : Int, i ≠ m → D 91 i = C 91 i) ∧ D 81 18 = m
/-- the end of a token, once its code stands: the value, then on -/
theorem m_169 {d f t m : Nat} {B : Nat → Int} {N : Nat} {S : MS} {C : MC} {Q : Qt} (F : Fix S) (hB : BtM B N C) (hft : f < t) (ht : t ≤ N) (hm : m < 400) (hA : A18 C m) (hd : dgB (B f) = true → ∀ j, f ≤ j → j < t → dgB (B j) = true) (h : ∀ C', Fp tmx C C' → C' 90 = C 90 → C' 92 = C 92 → C' 91 m = vlM B f t → (∀ j : Int, j ≠ m → C' 91 j = C 91 j) → C' 81 18 = ((m + 1 : Nat) : Int) → K_X11_splits_7 (d + 1) 0 0 (N : Int) (t : Int) S C' Q) : K_X11_splits_169 (d + 1) 0 0 (N : Int) (B f) (t : Int) (f : Int) S C Q := by
  have hN := hB.1
  have bm : (0 : Int) ≤ (m : Int) ∧ (m : Int) < 401 := by omega
  have m5 : m ≤ 100000 := by omega
  by_cases q : dgB (B f) = true
  · have hd2 : ∀ j, j < t - f → 48 ≤ B (f + j) ∧ B (f + j) ≤ 57 := fun j hj => dgB_iff.mp (hd q (f + j) (by omega) (by omega))
    have te : (t : Int) ≤ ((f + (t - f) : Nat) : Int) := by omega
    refine up_ind (α := MC) (P := PV B f m C) (K := fun j D => K_X11_splits_169 (d + 1) 0 0 (N : Int) (B f) (t : Int) ((f + j : Nat) : Int) S D Q) (t - f) ?_ ?_ 0 (Nat.zero_le _) C ⟨Fp_rf, rfl, rfl, hA.2, fun _ _ => rfl, hA.1⟩
    · intro D ⟨p1, p2, p3, p4, p5, p6⟩
      refine b_X11_splits_169 F ⟨fun _ => ?_, fun z => absurd te z⟩
      rw [p6, w32_nat1 (p := m) m5]
      refine h _ (Fp_up (Or.inr (Or.inr (Or.inr ⟨rfl, rfl⟩))) p1) (by rw [upC_ne (by decide)]; exact p2) (by rw [upC_ne (by decide)]; exact p3) ?_ (fun j hj => by rw [upC_ne (by decide)]; exact p5 j hj) (upC_at _ _ _ _)
      rw [upC_ne (by decide), p4]
      unfold vlM
      rw [if_pos q]
    · intro j D hj hP ih
      have n1 : f + j < N := by omega
      have n2 : ¬ (t : Int) ≤ ((f + j : Nat) : Int) := by omega
      have n3 : (0 : Int) ≤ ((f + j : Nat) : Int) ∧ ((f + j : Nat) : Int) < 400 := by omega
      have k4 : f + j ≤ 100000 := by omega
      have hx := hd2 j hj
      have hv := (num_rel j (fun i hi => hd2 i (by omega))).1
      have k5 : -2147483648 ≤ 10 * numM B f j ∧ 10 * numM B f j < 2147483648 := by omega
      have k6 : -2147483648 ≤ 10 * numM B f j + B (f + j) ∧ 10 * numM B f j + B (f + j) < 2147483648 := by omega
      have k7 : -2147483648 ≤ 10 * numM B f j + B (f + j) - 48 ∧ 10 * numM B f j + B (f + j) - 48 < 2147483648 := by omega
      have n4 : w32 (((f + j : Nat) : Int) + 1) = ((f + (j + 1) : Nat) : Int) := w32_nat1 k4
      have n5 := w32_lit k5
      have n6 := w32_lit k6
      have n7 := w32_lit k7
      obtain ⟨p1, p2, p3, p4, p5, p6⟩ := hP
      have eb := ((BtM_fp hB p1).2 (f + j) n1).1
      refine b_X11_splits_169 F ⟨fun z => absurd z n2, fun _ => m_digit F (fun y => ?_) (fun _ => ⟨rfl, fun y => absurd y (by decide), fun _ => ?_⟩)⟩
      · rw [q] at y; cases y
      rw [p6, p4, eb, n4, n5, n6, n7]
      refine ⟨bm, fun y => ⟨bm, n3, bm, ?_⟩, fun y => ⟨bm, bm, ?_⟩⟩
      · refine ih _ ⟨Fp_up (Or.inr (Or.inl rfl)) p1, by rw [upC_ne (by decide)]; exact p2, by rw [upC_ne (by decide)]; exact p3, ?_, fun i hi => by rw [upC_sK hi]; exact p5 i hi, by rw [upC_ne (by decide)]; exact p6⟩
        rw [upC_at]
        show _ = (if numM B f j ≤ 1000000 then _ else _)
        rw [if_pos y]
      · refine ih _ ⟨Fp_up (Or.inr (Or.inl rfl)) p1, by rw [upC_ne (by decide)]; exact p2, by rw [upC_ne (by decide)]; exact p3, ?_, fun i hi => by rw [upC_sK hi]; exact p5 i hi, by rw [upC_ne (by decide)]; exact p6⟩
        rw [upC_at]
        show _ = (if numM B f j ≤ 1000000 then _ else _)
        rw [if_neg y]
  · have ev : vlM B f t = 0 := by unfold vlM; rw [if_neg q]
    have fin : K_X11_splits_7 (d + 1) 0 0 (N : Int) (t : Int) S (upC C 81 18 (w32 (C 81 18 + 1))) Q := by
      rw [hA.1, w32_nat1 (p := m) m5]
      exact h _ (Fp_up (Or.inr (Or.inr (Or.inr ⟨rfl, rfl⟩))) Fp_rf) (by rw [upC_ne (by decide)]) (by rw [upC_ne (by decide)]) (by rw [upC_ne (by decide), ev]; exact hA.2) (fun j hj => by rw [upC_ne (by decide)]) (upC_at _ _ _ _)
    exact b_X11_splits_169 F ⟨fun _ => fin, fun _ => m_digit F (fun _ => ⟨rfl, fun _ => fin, fun y => absurd rfl y⟩) (fun y => absurd y q)⟩
theorem w100 {x : Int} (h : 0 ≤ x ∧ x ≤ 255) : w32 (100 + x) = 100 + x := w32_lit (by omega)
theorem ub_bd {x : Int} (h : -128 ≤ x ∧ x ≤ 127) : 0 ≤ ub x ∧ ub x ≤ 255 := by unfold ub; split <;> omega
theorem m_100 {d f t m : Nat} {B : Nat → Int} {N : Nat} {S : MS} {C : MC} {Q : Qt} (F : Fix S) (hB : BtM B N C) (hW : WdM C) (hft : f < t) (ht : t ≤ N) (hm : m < 400) (h18 : C 81 18 = m) (hd : dgB (B f) = true → ∀ j, f ≤ j → j < t → dgB (B j) = true) (h : ∀ C', Fp tmx C C' → RowM B C' m (f, t) → (∀ j : Int, j ≠ m → C' 90 j = C 90 j ∧ C' 91 j = C 91 j ∧ C' 92 j = C 92 j) → C' 81 18 = ((m + 1 : Nat) : Int) → K_X11_splits_7 (d + 1) 0 0 (N : Int) (t : Int) S C' Q) : K_X11_splits_100 (d + 1) 0 0 (N : Int) (f : Int) (B f) (t : Int) S C Q := by
  have hN := hB.1
  have hb := (hB.2 f (by omega)).2
  have bm : (0 : Int) ≤ (m : Int) ∧ (m : Int) < 401 := by clear h h18; omega
  refine b_X11_splits_100 F ?_
  rw [h18]
  refine ⟨bm, bm, ?_⟩
  generalize hD : upC (upC C 92 (m : Int) (f : Int)) 91 (m : Int) 0 = D
  have fD : Fp tmx C D := by
    rw [← hD]
    exact Fp_up (Or.inr (Or.inl rfl)) (Fp_up (Or.inr (Or.inr (Or.inl rfl))) Fp_rf)
  have d18 : D 81 18 = m := by rw [← hD, upC_ne (by decide), upC_ne (by decide)]; exact h18
  have d92 : D 92 m = f := by rw [← hD, upC_ne (by decide), upC_at]
  have d91 : D 91 m = 0 := by rw [← hD, upC_at]
  have dn : ∀ j : Int, j ≠ m → D 90 j = C 90 j ∧ D 91 j = C 91 j ∧ D 92 j = C 92 j := fun j hj => by
    rw [← hD]
    exact ⟨by rw [upC_ne (by decide), upC_ne (by decide)], by rw [upC_sK hj, upC_ne (by decide)], by rw [upC_ne (by decide), upC_sK hj]⟩
  have go : ∀ c : Int, c = cdM B f t → K_X11_splits_169 (d + 1) 0 0 (N : Int) (B f) (t : Int) (f : Int) S (upC D 90 (m : Int) c) Q := by
    intro c hc
    have fE : Fp tmx C (upC D 90 (m : Int) c) := Fp_up (Or.inl rfl) fD
    refine m_169 F (BtM_fp hB fE) hft ht hm ⟨by rw [upC_ne (by decide)]; exact d18, by rw [upC_ne (by decide)]; exact d91⟩ hd (fun C' f' g1 g2 g3 g4 g5 => h C' (Fp_tr fE f') ⟨?_, g3, ?_⟩ (fun j hj => ?_) g5)
    · rw [g1, upC_at, hc]
    · rw [g2, upC_ne (by decide)]; exact d92
    · rw [g1, g2, g4 j hj, upC_sK hj, upC_ne (by decide), upC_ne (by decide)]; exact dn j hj
  refine m_small F (fun y => ⟨rfl, fun _ => m_digit F (fun y2 => ⟨rfl, fun _ => ⟨bm, go _ ?_⟩, fun q => absurd rfl q⟩) (fun y2 => ⟨rfl, fun q => absurd q (by decide), fun _ => ⟨bm, go _ ?_⟩⟩), fun q => absurd rfl q⟩) (fun y => ⟨rfl, fun q => absurd q (by decide), fun _ => m_wordOf F (BtM_fp hB fD) (WdM_fp hW fD) (Nat.le_of_lt hft) ht ⟨rfl, bm, go _ ?_⟩⟩)
  · unfold cdM
    rw [if_neg (by rw [y]; decide), if_neg (by rw [y2]; decide), and255' hb]
    show w32 (100 + ub (B f)) = _
    rw [w100 (ub_bd hb)]
  · unfold cdM
    rw [if_neg (by rw [y]; decide), if_pos y2]
  · unfold cdM
    rw [if_pos y]
theorem m_run43 {d f : Nat} {B : Nat → Int} {N : Nat} {S : MS} {C : MC} {Q : Qt} (F : Fix S) (hB : BtM B N C) (hs : dgB (B f) = false) : ∀ (n k : Nat), k ≤ N → N ≤ k + n → K_X11_splits_100 (d + 1) 0 0 (N : Int) (f : Int) (B f) (runT smB B N n k : Int) S C Q → K_X11_splits_43 (d + 1) 0 0 (N : Int) (f : Int) (B f) (k : Int) S C Q
  | 0, k, h1, h2, h => by
    refine b_X11_splits_43 F ⟨fun _ => m_digit F (fun _ => ⟨rfl, fun _ => h, fun q => absurd rfl q⟩) (fun y => ?_), fun z => by omega⟩
    rw [hs] at y; cases y
  | n + 1, k, h1, h2, h => by
    have hN := hB.1
    unfold runT at h
    refine b_X11_splits_43 F ⟨fun z => m_digit F (fun _ => ⟨rfl, fun _ => ?_, fun q => absurd rfl q⟩) (fun y => ?_), fun z => ?_⟩
    · rw [if_neg (fun y => by omega)] at h; exact h
    · rw [hs] at y; cases y
    · have hk : k < N := by omega
      rw [(hB.2 k hk).1, w32_nat1 (by omega)]
      refine ⟨by omega, m_small F (fun y => ⟨rfl, fun _ => m_digit F (fun _ => ⟨rfl, fun _ => ?_, fun q => absurd rfl q⟩) (fun y => ?_), fun q => absurd rfl q⟩) (fun y => ⟨rfl, fun q => absurd q (by decide), fun _ => ?_⟩)⟩
      · rw [if_neg (fun q => by rw [y] at q; exact absurd q.2 (by decide))] at h
        exact h
      · rw [hs] at y; cases y
      · rw [if_pos ⟨hk, y⟩] at h
        exact m_run43 F hB hs n (k + 1) hk (by omega) h
theorem m_run75 {d f : Nat} {B : Nat → Int} {N : Nat} {S : MS} {C : MC} {Q : Qt} (F : Fix S) (hB : BtM B N C) : ∀ (n k : Nat), k ≤ N → N ≤ k + n → K_X11_splits_100 (d + 1) 0 0 (N : Int) (f : Int) (B f) (runT dgB B N n k : Int) S C Q → K_X11_splits_75 (d + 1) 0 0 (N : Int) (f : Int) (B f) (k : Int) S C Q
  | 0, k, h1, h2, h => b_X11_splits_75 F ⟨fun _ => h, fun z => by omega⟩
  | n + 1, k, h1, h2, h => by
    have hN := hB.1
    unfold runT at h
    refine b_X11_splits_75 F ⟨fun z => ?_, fun z => ?_⟩
    · rw [if_neg (fun y => by omega)] at h; exact h
    · have hk : k < N := by omega
      rw [(hB.2 k hk).1, w32_nat1 (by omega)]
      refine ⟨by omega, m_digit F (fun y => ⟨rfl, fun _ => ?_, fun q => absurd rfl q⟩) (fun y => ⟨rfl, fun q => absurd q (by decide), fun _ => ?_⟩)⟩
      · rw [if_neg (fun q => by rw [y] at q; exact absurd q.2 (by decide))] at h
        exact h
      · rw [if_pos ⟨hk, y⟩] at h
        exact m_run75 F hB n (k + 1) hk (by omega) h
theorem m_split {d : Nat} {B : Nat → Int} {N : Nat} {S : MS} {Q : Qt} (F : Fix S) : ∀ (n k : Nat) (acc : List (Nat × Nat)) (C : MC), BtM B N C → WdM C → N ≤ k + n → acc.length ≤ k → k ≤ N → C 81 18 = acc.length → (∀ j x, acc[j]? = some x → RowM B C j x) → (∀ C', Fp tmx C C' → C' 81 18 = (acc ++ tkL B N n k).length → (∀ j x, (acc ++ tkL B N n k)[j]? = some x → RowM B C' j x) → C' 90 ((acc ++ tkL B N n k).length : Int) = 0 → C' 91 ((acc ++ tkL B N n k).length : Int) = 0 → C' 92 ((acc ++ tkL B N n k).length : Int) = N → Q 0 S C') → K_X11_splits_7 (d + 1) 0 0 (N : Int) (k : Int) S C Q := by
  have fin : ∀ (acc : List (Nat × Nat)) (C : MC), acc.length ≤ 400 → C 81 18 = acc.length → (∀ j x, acc[j]? = some x → RowM B C j x) → (∀ C', Fp tmx C C' → C' 81 18 = acc.length → (∀ j x, acc[j]? = some x → RowM B C' j x) → C' 90 (acc.length : Int) = 0 → C' 91 (acc.length : Int) = 0 → C' 92 (acc.length : Int) = N → Q 0 S C') → ((0 : Int) ≤ C 81 18 ∧ C 81 18 < 401) ∧ ((0 : Int) ≤ C 81 18 ∧ C 81 18 < 401) ∧ ((0 : Int) ≤ C 81 18 ∧ C 81 18 < 401) ∧ Q 0 S (upC (upC (upC C 92 (C 81 18) (N : Int)) 90 (C 81 18) 0) 91 (C 81 18) 0) := by
    intro acc C hl h18 hr h
    have bm : (0 : Int) ≤ (acc.length : Int) ∧ (acc.length : Int) < 401 := by clear h h18 hr; omega
    rw [h18]
    refine ⟨bm, bm, bm, h _ (Fp_up (Or.inr (Or.inl rfl)) (Fp_up (Or.inl rfl) (Fp_up (Or.inr (Or.inr (Or.inl rfl))) Fp_rf))) ?_ (fun j x hj => ?_) ?_ (upC_at _ _ _ _) ?_⟩
    · rw [upC_ne (by decide), upC_ne (by decide), upC_ne (by decide)]; exact h18
    · have hlt : j < acc.length := (List.getElem?_eq_some_iff.mp hj).1
      have ne : (j : Int) ≠ (acc.length : Int) := fun z => by omega
      exact RowM_cong (hr j x hj) (by rw [upC_ne (by decide), upC_sK ne, upC_ne (by decide)]) (by rw [upC_sK ne, upC_ne (by decide), upC_ne (by decide)]) (by rw [upC_ne (by decide), upC_ne (by decide), upC_sK ne])
    · rw [upC_ne (by decide), upC_at]
    · rw [upC_ne (by decide), upC_ne (by decide), upC_at]
  intro n
  induction n with
  | zero =>
    intro k acc C hB hW hk hl hkN h18 hr h
    have hN := hB.1
    unfold tkL at h
    rw [List.append_nil] at h
    exact b_X11_splits_7 F ⟨fun _ => fin acc C (by omega) h18 hr h, fun z => by omega⟩
  | succ n ih =>
    intro k acc C hB hW hk hl hkN h18 hr h
    have hN := hB.1
    unfold tkL at h
    refine b_X11_splits_7 F ⟨fun z => ?_, fun z => ?_⟩
    · rw [if_pos (by omega), List.append_nil] at h
      exact fin acc C (by omega) h18 hr h
    · have hkl : k < N := by omega
      obtain ⟨t1, t2⟩ := endT_bd (B := B) hkl
      rw [if_neg (by omega)] at h
      rw [(hB.2 k hkl).1, w32_nat1 (by omega)]
      refine ⟨by omega, fun y => ?_, fun y => ?_⟩
      · rw [if_neg y] at h
        have el : acc ++ (k, endT B N k) :: tkL B N n (endT B N k) = (acc ++ [(k, endT B N k)]) ++ tkL B N n (endT B N k) := by simp
        rw [el] at h
        have h100 : K_X11_splits_100 (d + 1) 0 0 (N : Int) (k : Int) (B k) (endT B N k : Int) S C Q := by
          refine m_100 F hB hW t1 t2 (by omega) h18 (fun q => endT_dig hkl q) (fun C1 f1 r1 r2 r3 => ?_)
          refine ih (endT B N k) (acc ++ [(k, endT B N k)]) C1 (BtM_fp hB f1) (WdM_fp hW f1) (by omega) (by rw [List.length_append, List.length_singleton]; omega) t2 (by rw [List.length_append, List.length_singleton]; exact r3) (fun j x hj => ?_) (fun C' f' => h C' (Fp_tr f1 f'))
          by_cases q : j = acc.length
          · rw [q, List.getElem?_append_right (Nat.le_refl _), Nat.sub_self] at hj
            cases hj
            rw [q]; exact r1
          · have hlt : j < acc.length := by
              have := (List.getElem?_eq_some_iff.mp hj).1
              rw [List.length_append, List.length_singleton] at this
              omega
            rw [List.getElem?_append_left hlt] at hj
            obtain ⟨g1, g2, g3⟩ := r2 j (fun z => by omega)
            exact RowM_cong (hr j x hj) g1 g2 g3
        unfold endT at h100
        refine m_small F (fun y2 => ⟨rfl, fun _ => m_digit F (fun y3 => ⟨rfl, fun _ => ?_, fun q => absurd rfl q⟩) (fun y3 => ⟨rfl, fun q => absurd q (by decide), fun _ => ?_⟩), fun q => absurd rfl q⟩) (fun y2 => ⟨rfl, fun q => absurd q (by decide), fun _ => ?_⟩)
        · rw [if_neg (by rw [y2]; decide), if_neg (by rw [y3]; decide)] at h100
          exact h100
        · rw [if_neg (by rw [y2]; decide), if_pos y3] at h100
          exact m_run75 F hB 400 (k + 1) hkl (by omega) h100
        · rw [if_pos y2] at h100
          have nd : dgB (B k) = false := by
            cases e : dgB (B k) with
            | false => rfl
            | true => rw [dgB_iff] at e; rw [smB_iff] at y2; omega
          exact m_run43 F hB nd 400 (k + 1) hkl (by omega) h100
      · rw [if_pos y] at h
        exact ih (k + 1) acc C hB hW (by omega) (by omega) hkl h18 hr h
theorem m_splits {d : Nat} {B : Nat → Int} {N : Nat} {S : MS} {C : MC} {Q : Qt} (F : Fix S) (hB : BtM B N C) (hW : WdM C) (h : ∀ C', Fp tmx C C' → C' 81 18 = (tkL B N 400 0).length → (∀ j x, (tkL B N 400 0)[j]? = some x → RowM B C' j x) → C' 90 ((tkL B N 400 0).length : Int) = 0 → C' 91 ((tkL B N 400 0).length : Int) = 0 → C' 92 ((tkL B N 400 0).length : Int) = N → Q 0 S C') : K_X11_splits_0 (d + 1) 0 0 (N : Int) S C Q := by
  have f0 : Fp tmx C (upC C 81 18 0) := Fp_up (Or.inr (Or.inr (Or.inr ⟨rfl, rfl⟩))) Fp_rf
  exact b_X11_splits_0 F (m_split F 400 0 [] _ (BtM_fp hB f0) (WdM_fp hW f0) (by have := hB.1; omega) (by decide) (Nat.zero_le _) (upC_at _ _ _ _) (fun j x hj => by simp at hj) (fun C' f' => h C' (Fp_tr f0 f')))
