/-! 85.lays: the reference keeps tokens; what stays of the invariant -/
theorem wl1 {c : Int} {n j : Nat} (hc : 0 ≤ c ∧ c ≤ 10000) (hn : n ≤ 6) (hj : j ≤ 400) : w32 (w32 (c + w32 (400 * (n : Int))) + (j : Int)) = c + 400 * n + j := by
  rw [w32_lit (x := 400 * (n : Int)) (by omega), w32_lit (x := c + 400 * (n : Int)) (by omega), w32_lit (x := c + 400 * (n : Int) + (j : Int)) (by omega)]
def lyx (n : Nat) (a k : Int) : Prop := a = 83 ∧ (k = 49 + n ∨ (56 + 400 * (n : Int) ≤ k ∧ k < 456 + 400 * (n : Int)) ∨ (2856 + 400 * (n : Int) ≤ k ∧ k < 3256 + 400 * (n : Int)))
def LyP (τ : Tks) (n : Nat) (C : MC) (m : Nat) (D : MC) : Prop := Fp (lyx n) C D ∧ D 83 (49 + n) = τ.length ∧ ∀ j : Nat, j < m → D 83 (56 + 400 * n + j) = tc τ j ∧ D 83 (2856 + 400 * n + j) = tv τ j
theorem m_lays {d n : Nat} {τ : Tks} {S : MS} {C : MC} {Q : Qt} (F : Fix S) (hn : n ≤ 6) (hl : τ.length ≤ 400) (T : MTok τ C) (h : ∀ C', LyP τ n C τ.length C' → Q 0 S C') : K_X11_lays_0 d 0 0 (n : Int) S C Q := by
  have e49 : w32 (49 + (n : Int)) = 49 + n := w32_lit (by clear T h; omega)
  have b49 : (0 : Int) ≤ 49 + (n : Int) ∧ 49 + (n : Int) < 5656 := by clear T h e49; omega
  refine b_X11_lays_0 F ?_
  rw [e49, T.1]
  clear e49
  refine ⟨b49, ?_⟩
  have f0 : Fp (lyx n) C (upC C 83 (49 + (n : Int)) (τ.length : Int)) := Fp_up ⟨rfl, Or.inl rfl⟩ Fp_rf
  refine up_ind (α := MC) (P := LyP τ n C) (K := fun m D => K_X11_lays_15 d 0 0 (n : Int) (m : Int) S D Q) τ.length ?_ ?_ 0 (Nat.zero_le _) _ ⟨f0, upC_at _ _ _ _, fun j hj => absurd hj (Nat.not_lt_zero j)⟩
  · intro D hP
    have e18 : D 81 18 = τ.length := by rw [hP.1 81 18 (fun q => absurd q.1 (by decide))]; exact T.1
    refine b_X11_lays_15 F ⟨fun _ => h D hP, fun z => absurd (by rw [e18]; exact Int.le_refl _) z⟩
  · intro m D hm hP ih
    have bm : (0 : Int) ≤ (m : Int) ∧ (m : Int) < 401 := by clear T h ih; omega
    have b1 : (0 : Int) ≤ 56 + 400 * (n : Int) + (m : Int) ∧ 56 + 400 * (n : Int) + (m : Int) < 5656 := by clear T h ih; omega
    have b2 : (0 : Int) ≤ 2856 + 400 * (n : Int) + (m : Int) ∧ 2856 + 400 * (n : Int) + (m : Int) < 5656 := by clear T h ih; omega
    have n1 : 49 + (n : Int) ≠ 56 + 400 * (n : Int) + (m : Int) := by clear T h ih; omega
    have n2 : 49 + (n : Int) ≠ 2856 + 400 * (n : Int) + (m : Int) := by clear T h ih; omega
    have n3 : ∀ j : Nat, j < 400 → 56 + 400 * (n : Int) + (j : Int) ≠ 2856 + 400 * (n : Int) + (m : Int) := fun j hj => by clear T h ih; omega
    have n4 : ∀ j : Nat, j < 400 → 2856 + 400 * (n : Int) + (j : Int) ≠ 56 + 400 * (n : Int) + (m : Int) := fun j hj => by clear T h ih; omega
    have n5 : ∀ j : Nat, j ≠ m → 56 + 400 * (n : Int) + (j : Int) ≠ 56 + 400 * (n : Int) + (m : Int) := fun j hj => by clear T h ih; omega
    have n6 : ∀ j : Nat, j ≠ m → 2856 + 400 * (n : Int) + (j : Int) ≠ 2856 + 400 * (n : Int) + (m : Int) := fun j hj => by clear T h ih; omega
    have m4 : m < 400 := by clear T h ih; omega
    have x1 : lyx n 83 (56 + 400 * (n : Int) + (m : Int)) := ⟨rfl, Or.inr (Or.inl (by clear T h ih; omega))⟩
    have x2 : lyx n 83 (2856 + 400 * (n : Int) + (m : Int)) := ⟨rfl, Or.inr (Or.inr (by clear T h ih; omega))⟩
    have n7 : ∀ j : Nat, j < m + 1 → j ≠ m → j < m := fun j h1 h2 => by clear T h ih; omega
    have e18 : D 81 18 = τ.length := by rw [hP.1 81 18 (fun q => absurd q.1 (by decide))]; exact T.1
    have e90 : D 90 = C 90 := fp_row hP.1 (fun k q => absurd q.1 (by decide))
    have e91 : D 91 = C 91 := fp_row hP.1 (fun k q => absurd q.1 (by decide))
    obtain ⟨t1, t2⟩ := T.2 m hm
    refine b_X11_lays_15 F ⟨fun z => absurd (by rw [e18] at z; exact z) (Int.not_le.mpr (Int.ofNat_lt.mpr hm)), fun _ => ?_⟩
    rw [wl1 (by decide) hn (Nat.le_of_lt m4), wl1 (by decide) hn (Nat.le_of_lt m4), e90, e91, t1, t2, w32_nat1 (p := m) (Nat.le_trans (Nat.le_of_lt m4) (by decide))]
    refine ⟨bm, b1, bm, b2, ih _ ⟨Fp_up x2 (Fp_up x1 hP.1), ?_, fun j hj => ?_⟩⟩
    · rw [upC_sK n2, upC_sK n1]; exact hP.2.1
    · by_cases q : j = m
      · subst q
        exact ⟨by rw [upC_sK (n3 j m4), upC_at], by rw [upC_at]⟩
      · have hj2 := n7 j hj q
        obtain ⟨g1, g2⟩ := hP.2.2 j hj2
        have j4 : j < 400 := Nat.lt_trans hj2 m4
        exact ⟨by rw [upC_sK (n3 j j4), upC_sK (n5 j q)]; exact g1, by rw [upC_sK (n6 j q), upC_sK (n4 j j4)]; exact g2⟩
theorem toks_of {τ : Tks} {κ : Int → Int} {n : Nat} (h0 : κ (49 + n) = τ.length) (h : ∀ j : Nat, j < τ.length → κ (56 + 400 * n + j) = tc τ j ∧ κ (2856 + 400 * n + j) = tv τ j) : toks κ (n : Int) = τ := by
  apply List.ext_getElem?
  intro j
  unfold toks
  rw [h0, Int.toNat_natCast]
  by_cases q : j < τ.length
  · rw [List.getElem?_map, List.getElem?_range q, List.getElem?_eq_getElem q]
    obtain ⟨g1, g2⟩ := h j q
    show some (κ (56 + 400 * (n : Int) + (j : Int)), κ (2856 + 400 * (n : Int) + (j : Int))) = some τ[j]
    rw [g1, g2]
    unfold tc tv
    rw [List.getD_eq_getElem?_getD, List.getElem?_eq_getElem q]
    rfl
  · rw [List.getElem?_eq_none (l := τ) (by omega), List.getElem?_eq_none (by rw [List.length_map, List.length_range]; omega)]
/-! what stays -/
def gnx (a k : Int) : Prop := scr a k ∨ (a = 27 ∧ k = 1) ∨ (a = 81 ∧ (k = 0 ∨ k = 13 ∨ k = 14 ∨ k = 43)) ∨ (a = 29 ∧ k = 11) ∨ (a = 59 ∧ k = 4) ∨ (a = 0 ∧ k = 16) ∨ a = 64 ∨ a = 82
theorem Inv_gen {S S' : MS} {C C' : MC} (I : Inv S C) (F' : Fix S') (hs : Ss S S') (h : Fp gnx C C') (hT' : IvT C') (hX' : IvX C') (hR' : IvR C') : Inv S' C' := by
  obtain ⟨F, iN, iI, iR, iT, iX, iU, iE, iW⟩ := I
  have hT := TxK_ss hs
  have rw1 : ∀ b, (∀ k, ¬ gnx b k) → C' b = C b := fun b hb => fp_row h hb
  refine ⟨F', RS_cong2 (RS_S iN hT (fun i _ _ => hs.2.2.2.2 _ i (by omega) (by omega) (by omega))) (fun j x0 x1 => rw1 _ (fun k => by unfold gnx scr; omega)) (fun b hb => rw1 b (fun k => by unfold gnx scr; omega)) (fun i hi => h 83 i (by unfold gnx scr; unfold ktI at hi; omega)),
    IvI_cong (IvI_S iI hT (fun a i ha => hs.2.2.2.2 _ i (by omega) (by omega) (by omega))) (rw1 _ (fun k => by unfold gnx scr; omega)) (rw1 _ (fun k => by unfold gnx scr; omega)) (rw1 _ (fun k => by unfold gnx scr; omega)) (fun b x0 x1 => rw1 _ (fun k => by unfold gnx scr; omega)) (fun b hb => rw1 b (fun k => by unfold gnx scr; omega)), hR', hT', hX',
    IvU_cong iU (h _ _ (by unfold gnx scr; omega)) (h _ _ (by unfold gnx scr; omega)) (fun i hi => h _ _ (by unfold gnx scr; omega)) (rw1 _ (fun k => by unfold gnx scr; omega)) (rw1 _ (fun k => by unfold gnx scr; omega)) (rw1 _ (fun k => by unfold gnx scr; omega)) (rw1 _ (fun k => by unfold gnx scr; omega)),
    IvE_cong iE (h _ _ (by unfold gnx scr; omega)) (h _ _ (by unfold gnx scr; omega)) (rw1 _ (fun k => by unfold gnx scr; omega)) (rw1 _ (fun k => by unfold gnx scr; omega)) (rw1 _ (fun k => by unfold gnx scr; omega)), IvW_cong iW (rw1 _ (fun k => by unfold gnx scr; omega))⟩
theorem IvT_0 {C : MC} (h1 : C 27 1 = 0) (h2 : C 81 13 = 0) : IvT C := ⟨by rw [h1, h2], by rw [h1]; decide, fun i x0 x1 => absurd (by rw [h1] at x1; exact x1) (Int.not_lt.mpr x0)⟩
/-- after a refusal by both -/
theorem IvR_ref {S : MS} {C C' : MC} {x : Int} (I : Inv S C) (hx : okR x) (h1 : C' 0 16 = x) (h2 : C' 81 0 = x) (h3 : C' 64 = rfC C x 64) (h4 : C' 82 = rfM C x 82) : IvR C' := by
  have I2 := (Inv_refuse hx I).2.2.2.1
  refine IvR_cong I2 ?_ ?_ ?_ ?_
  · rw [h1]; unfold rfM rfC; rw [upC_ne (by decide), upC_ne (by decide), upC_ne (by decide), upC_at]
  · rw [h2]; unfold rfM rfC; rw [upC_ne (by decide), upC_at]
  · rw [h3]
    unfold rfM
    rw [upC_ne (by decide), upC_ne (by decide)]
  · rw [h4]
    funext k
    simp [rfM, rfC, upC]
theorem rfC_64 {C C1 : MC} {x : Int} (h : C1 64 = C 64) : rfC C1 x 64 = rfC C x 64 := by
  funext k
  simp [rfC, upC, h]
theorem rfM_82 {C C1 : MC} {x : Int} (h : C1 82 = C 82) : rfM C1 x 82 = rfM C x 82 := by
  funext k
  simp [rfM, upC, h]
theorem TxtIs_cong {T T' : Nat → Int → Int} {l : List Cla} {cd : List Int} (h : TxtIs T l cd) (e : ∀ a, a ≤ 6 → T' a = T a) : TxtIs T' l cd := by
  unfold TxtIs
  rw [e 0 (by decide), e 1 (by decide), e 2 (by decide), e 3 (by decide), e 4 (by decide), e 5 (by decide), e 6 (by decide)]
  exact h
theorem LawRel_new {S S' : MS} {C C' : MC} {t i : Int} {κ κ' : Int → Int} (h : LawRel S C t κ i) (hi : 0 ≤ i ∧ i < 6) (hT : TxK S S') (hc : ∀ b, 108 ≤ b → b < S.1 → C' b = C b) (hk : κ' (49 + i) = κ (49 + i) ∧ ∀ j, 0 ≤ j → j < 400 → κ' (56 + 400 * i + j) = κ (56 + 400 * i + j) ∧ κ' (2856 + 400 * i + j) = κ (2856 + 400 * i + j)) : LawRel S' C' t κ' i := by
  obtain ⟨h1, h3, h2, h4⟩ := h
  obtain ⟨r1, r2⟩ := hT t h1.1 h1.2
  have b6 := h1.1.2.1
  have et : toks κ' i = toks κ i := by
    unfold toks
    rw [hk.1]
    apply List.map_congr_left
    intro j hj
    have := List.mem_range.mp hj
    obtain ⟨g1, g2⟩ := hk.2 j (by omega) (by omega)
    rw [g1, g2]
  unfold LawRel LnT
  rw [et, hk.1, r2 1 (by decide) (by decide), r2 2 (by decide) (by decide), r2 3 (by decide) (by decide), r2 4 (by decide) (by decide), r2 5 (by decide) (by decide), r2 6 (by decide) (by decide)]
  obtain ⟨g1, l, cd, g2, g3, g4⟩ := h2
  exact ⟨⟨r1, h1.2⟩, h3, ⟨g1, l, cd, g2, TxtIs_cong g3 (fun a ha => hc _ (by omega) (by omega)), g4⟩, h4⟩
theorem RS_new {S S' : MS} {C C' : MC} {a : Int} {κ κ' : Int → Int} (h : RS S C a κ) (hT : TxK S S') (hr : ∀ i, 0 ≤ i → i < 6 → S'.2.2.2.1 (a + 6) i = S.2.2.2.1 (a + 6) i) (h0 : ∀ j, 0 ≤ j → j < 8 → C' (a + j) = C (a + j)) (hc : ∀ b, 108 ≤ b → b < S.1 → C' b = C b) (hk : ∀ i, κ' i = κ i) : RS S' C' a κ' := by
  have e0 : C' a = C a := by have := h0 0 (by omega) (by omega); rwa [Int.add_zero] at this
  obtain ⟨h1, h2, h3, h4, h5, h6⟩ := h
  refine ⟨Ra_cong h1 (by rw [e0]) (h0 1 (by omega) (by omega)) (h0 2 (by omega) (by omega)) (fun i _ => hk i), Rb_cong h2 (h0 3 (by omega) (by omega)) (fun i _ => hk i), Rc_cong h3 (h0 4 (by omega) (by omega)) (fun i _ => hk i), Rd_cong h4 (by rw [e0]) (h0 5 (by omega) (by omega)) (fun i _ => hk i), ?_, Rf_cong h6 (h0 7 (by omega) (by omega)) (fun i _ => hk i)⟩
  unfold Re at h5 ⊢
  rw [e0, hk 47, hk 48]
  refine ⟨h5.1, h5.2.1, fun t x0 x1 => ?_, fun t x0 x1 => ?_⟩
  · rw [hr t x0 x1]
    rcases h5.2.2.1 t x0 x1 with e | e
    · exact Or.inl e
    · exact Or.inr ⟨(hT _ e.1 e.2).1, e.2⟩
  · have h6 := h5.1.2.2
    rw [hr t x0 (by omega)]
    exact LawRel_new (h5.2.2.2 t x0 x1) ⟨x0, by omega⟩ hT hc ⟨hk _, fun j _ _ => ⟨hk _, hk _⟩⟩
