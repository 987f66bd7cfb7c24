/-! 37.image: one street copied from another; image, back -/
def CpS (S S' : MS) (a b : Int) : Prop := S'.1 = S.1 ∧ S'.2.1 = S.2.1 ∧ S'.2.2.1 = S.2.2.1 ∧ S'.2.2.2.2 = S.2.2.2.2 ∧ (∀ x k, x ≠ a + 6 → S'.2.2.2.1 x k = S.2.2.2.1 x k) ∧ ∀ i, 0 ≤ i → i < 6 → S'.2.2.2.1 (a + 6) i = S.2.2.2.1 (b + 6) i
def CpC (C C' : MC) (a b : Int) : Prop := (∀ x, x < a ∨ a + 8 ≤ x → C' x = C x) ∧ (C' a 0 = C b 0 ∧ C' a 6 = C b 6 ∧ C' a 8 = C b 8 ∧ C' a 9 = C b 9) ∧ (∀ j, 0 ≤ j → j < 6 → C' (a + 1) j = C (b + 1) j ∧ C' (a + 2) j = C (b + 2) j ∧ C' (a + 5) j = C (b + 5) j) ∧ (∀ j, 0 ≤ j → j < 8 → C' (a + 3) j = C (b + 3) j) ∧ (∀ j, 0 ≤ j → j < 16 → C' (a + 4) j = C (b + 4) j) ∧ ∀ j, 0 ≤ j → j < 3 → C' (a + 7) j = C (b + 7) j
theorem cpC_ne {C : MC} {a sp b dp n x : Int} (h : x ≠ b) : cpC C a sp b dp n x = C x := by
  funext j
  unfold cpC
  rw [if_neg (fun z => h z.1)]
theorem cpC_at {C : MC} {a b n j : Int} (h : 0 ≤ j ∧ j < n) : cpC C a 0 b 0 n b j = C a j := by
  unfold cpC
  rw [if_pos ⟨rfl, by omega, by omega⟩]
  congr 1
  omega
theorem s_copyFrom {d mc ms : Nat} {a b : Int} {S : MS} {C : MC} {Q : Qt} (F : Fix S) (ha : isSt a) (hb : isSt b) (hab : a ≠ b) (hlaw : ∀ i, 0 ≤ i → i < 6 → S.2.2.2.1 (b + 6) i = -1 ∨ ((0 ≤ S.2.2.2.1 (b + 6) i ∧ S.2.2.2.1 (b + 6) i < S.1) ∧ S.2.1 (S.2.2.2.1 (b + 6) i) = 9)) (h : ∀ S' C', Fix S' → CpS S S' a b → CpC C C' a b → Q 0 S' C') : K_X7_copyFrom_0 (d + 1) mc ms a b S C Q := by
  have far : a + 8 ≤ b ∨ b + 8 ≤ a := by unfold isSt at ha hb; omega
  refine b_X7_copyFrom_0 F ha hb ?_
  generalize hD : upC (cpC (cpC (cpC (cpC (cpC (upC C a 0 (C b 0)) (b + 1) 0 (a + 1) 0 6) (b + 2) 0 (a + 2) 0 6) (b + 3) 0 (a + 3) 0 8) (b + 4) 0 (a + 4) 0 16) (b + 5) 0 (a + 5) 0 6) a 6 ((cpC (cpC (cpC (cpC (cpC (upC C a 0 (C b 0)) (b + 1) 0 (a + 1) 0 6) (b + 2) 0 (a + 2) 0 6) (b + 3) 0 (a + 3) 0 8) (b + 4) 0 (a + 4) 0 16) (b + 5) 0 (a + 5) 0 6) b 6) = D
  have d0 : ∀ x, x < a ∨ a + 6 ≤ x → D x = C x := fun x hx => by
    rw [← hD, upC_ne (by omega), cpC_ne (by omega), cpC_ne (by omega), cpC_ne (by omega), cpC_ne (by omega), cpC_ne (by omega), upC_ne (by omega)]
  have d6 : D a 6 = C b 6 := by rw [← hD, upC_at, cpC_ne (by omega), cpC_ne (by omega), cpC_ne (by omega), cpC_ne (by omega), cpC_ne (by omega), upC_ne (by omega)]
  have d00 : ∀ j, j ≠ 6 → D a j = if j = 0 then C b 0 else C a j := fun j hj => by
    rw [← hD, upC_sK hj, cpC_ne (by omega), cpC_ne (by omega), cpC_ne (by omega), cpC_ne (by omega), cpC_ne (by omega), upC_get]
    by_cases e : j = 0
    · rw [if_pos ⟨rfl, e⟩, if_pos e]
    · rw [if_neg (fun z => e z.2), if_neg e]
  have d1 : ∀ j, 0 ≤ j → j < 6 → D (a + 1) j = C (b + 1) j := fun j x0 x1 => by
    rw [← hD, upC_ne (by omega), cpC_ne (by omega), cpC_ne (by omega), cpC_ne (by omega), cpC_ne (by omega), cpC_at ⟨x0, x1⟩, upC_ne (by omega)]
  have d2 : ∀ j, 0 ≤ j → j < 6 → D (a + 2) j = C (b + 2) j := fun j x0 x1 => by
    rw [← hD, upC_ne (by omega), cpC_ne (by omega), cpC_ne (by omega), cpC_ne (by omega), cpC_at ⟨x0, x1⟩, cpC_ne (by omega), upC_ne (by omega)]
  have d3 : ∀ j, 0 ≤ j → j < 8 → D (a + 3) j = C (b + 3) j := fun j x0 x1 => by
    rw [← hD, upC_ne (by omega), cpC_ne (by omega), cpC_ne (by omega), cpC_at ⟨x0, x1⟩, cpC_ne (by omega), cpC_ne (by omega), upC_ne (by omega)]
  have d4 : ∀ j, 0 ≤ j → j < 16 → D (a + 4) j = C (b + 4) j := fun j x0 x1 => by
    rw [← hD, upC_ne (by omega), cpC_ne (by omega), cpC_at ⟨x0, x1⟩, cpC_ne (by omega), cpC_ne (by omega), cpC_ne (by omega), upC_ne (by omega)]
  have d5 : ∀ j, 0 ≤ j → j < 6 → D (a + 5) j = C (b + 5) j := fun j x0 x1 => by
    rw [← hD, upC_ne (by omega), cpC_at ⟨x0, x1⟩, cpC_ne (by omega), cpC_ne (by omega), cpC_ne (by omega), cpC_ne (by omega), upC_ne (by omega)]
  clear hD
  refine up_ind (α := MS) (P := fun k S' => Fix S' ∧ S'.1 = S.1 ∧ S'.2.1 = S.2.1 ∧ S'.2.2.1 = S.2.2.1 ∧ S'.2.2.2.2 = S.2.2.2.2 ∧ (∀ x k, x ≠ a + 6 → S'.2.2.2.1 x k = S.2.2.2.1 x k) ∧ ∀ i : Nat, i < k → S'.2.2.2.1 (a + 6) i = S.2.2.2.1 (b + 6) i) (K := fun k S' => K_X7_copyFrom_93 (d + 1) mc ms a b (k : Int) S' D Q) 6 ?_ ?_ 0 (by omega) S ⟨F, rfl, rfl, rfl, rfl, fun _ _ _ => rfl, fun i hi => absurd hi (Nat.not_lt_zero i)⟩
  · intro S' ⟨F', p1, p2, p3, p4, p5, p6⟩
    refine b_X7_copyFrom_93 F' ha hb ⟨fun _ => h S' _ F' ⟨p1, p2, p3, p4, p5, fun i x0 x1 => ?_⟩ ⟨fun x hx => ?_, ⟨?_, ?_, ?_, ?_⟩, fun j x0 x1 => ⟨?_, ?_, ?_⟩, fun j x0 x1 => ?_, fun j x0 x1 => ?_, fun j x0 x1 => ?_⟩, fun z => absurd (by decide) z⟩
    · have := p6 i.toNat (by omega)
      rwa [Int.toNat_of_nonneg x0] at this
    · rw [cpC_ne (by omega), upC_ne (by omega), upC_ne (by omega), d0 x (by omega)]
    · rw [cpC_ne (by omega), upC_sK (by decide), upC_sK (by decide), d00 0 (by decide), if_pos rfl]
    · rw [cpC_ne (by omega), upC_sK (by decide), upC_sK (by decide), d6]
    · rw [cpC_ne (by omega), upC_sK (by decide), upC_at, d0 b (by omega)]
    · rw [cpC_ne (by omega), upC_at, upC_ne (by omega), d0 b (by omega)]
    · rw [cpC_ne (by omega), upC_ne (by omega), upC_ne (by omega), d1 j x0 x1]
    · rw [cpC_ne (by omega), upC_ne (by omega), upC_ne (by omega), d2 j x0 x1]
    · rw [cpC_ne (by omega), upC_ne (by omega), upC_ne (by omega), d5 j x0 x1]
    · rw [cpC_ne (by omega), upC_ne (by omega), upC_ne (by omega), d3 j x0 x1]
    · rw [cpC_ne (by omega), upC_ne (by omega), upC_ne (by omega), d4 j x0 x1]
    · rw [cpC_at ⟨x0, x1⟩, upC_ne (by omega), upC_ne (by omega), d0 (b + 7) (by omega)]
  · intro k S' hk ⟨F', p1, p2, p3, p4, p5, p6⟩ ih
    have e : S'.2.2.2.1 (b + 6) k = S.2.2.2.1 (b + 6) k := p5 _ _ (by omega)
    have hl := hlaw k (by omega) (by omega)
    refine b_X7_copyFrom_93 F' ha hb ⟨fun z => by omega, fun _ => ⟨by omega, ⟨by omega, ?_⟩, ?_⟩⟩
    · rw [e, p1, p2]; exact hl
    · rw [w32_succ (by omega)]
      refine ih _ ⟨fix_laws F' ha, p1, p2, p3, p4, fun x j hx => ?_, fun i hi => ?_⟩
      · show upC S'.2.2.2.1 _ _ _ x j = _
        rw [upC_ne hx]; exact p5 x j hx
      · show upC S'.2.2.2.1 _ _ _ (a + 6) i = _
        by_cases q : i = k
        · subst q; rw [upC_at]; exact e
        · rw [upC_sK (by omega)]; exact p6 i (by omega)
theorem CpS_TxK {S S' : MS} {a b : Int} (ha : isSt a) (h : CpS S S' a b) : TxK S S' := by
  intro t ht h108
  obtain ⟨p1, p2, p3, p4, p5, p6⟩ := h
  have e : S'.2.2.2.1 t = S.2.2.2.1 t := funext fun k => p5 t k (by unfold isSt at ha; omega)
  refine ⟨?_, fun _ _ _ => by rw [p3]⟩
  unfold TxO at ht ⊢
  rw [p1, p2, e]
  exact ht
theorem RS_copy {S S' : MS} {C C' : MC} {a b : Int} {κ : Int → Int} (ha : isSt a) (h : RS S C b κ) (hs : CpS S S' a b) (hc : CpC C C' a b) : RS S' C' a κ := by
  obtain ⟨h1, h2, h3, h4, h5, h6⟩ := h
  obtain ⟨c0, ⟨c1, c2, c3, c4⟩, c5, c6, c7, c8⟩ := hc
  have hT := CpS_TxK ha hs
  have hrow := hs.2.2.2.2.2
  refine ⟨⟨by rw [c1]; exact h1.1, h1.2.1, fun j x0 x1 => ?_⟩, fun k x0 x1 => ?_, fun k x0 x1 => ?_, ⟨by rw [c2]; exact h4.1, h4.2.1, fun i x0 x1 => ?_⟩, ⟨by rw [c3]; exact h5.1, by rw [c4]; exact h5.2.1, fun t x0 x1 => ?_, fun t x0 x1 => ?_⟩, ?_⟩
  · rw [(c5 j x0 x1).1, (c5 j x0 x1).2.1]; exact h1.2.2 j x0 x1
  · rw [c6 k x0 x1]; exact h2 k x0 x1
  · rw [c7 k x0 x1]; exact h3 k x0 x1
  · rw [(c5 i x0 x1).2.2]; exact h4.2.2 i x0 x1
  · rw [hrow t x0 x1]
    rcases h5.2.2.1 t x0 x1 with e | e
    · exact Or.inl e
    · exact Or.inr ⟨(hT _ e.1 e.2).1, e.2⟩
  · have h6 := h5.1.2.2
    rw [hrow t x0 (by omega)]
    obtain ⟨q1, q2, q3, q4⟩ := h5.2.2.2 t x0 x1
    obtain ⟨r1, r2⟩ := hT _ q1.1 q1.2
    have e : (fun j : Nat => C' (S.2.2.2.1 (b + 6) t + j)) = (fun j : Nat => C (S.2.2.2.1 (b + 6) t + j)) := funext fun j => c0 _ (by unfold isSt at ha; omega)
    unfold LawRel LnT
    rw [r2 1 (by decide) (by decide), r2 6 (by decide) (by decide), r2 2 (by decide) (by decide), r2 3 (by decide) (by decide), r2 4 (by decide) (by decide), r2 5 (by decide) (by decide), e]
    exact ⟨⟨r1, q1.2⟩, q2, q3, q4⟩
  · unfold Rf
    rw [c8 0 (by omega) (by omega), c8 1 (by omega) (by omega), c8 2 (by omega) (by omega)]
    exact h6
theorem laws_ok {S : MS} {C : MC} {b : Int} {κ : Int → Int} (h : RS S C b κ) : ∀ i, 0 ≤ i → i < 6 → S.2.2.2.1 (b + 6) i = -1 ∨ ((0 ≤ S.2.2.2.1 (b + 6) i ∧ S.2.2.2.1 (b + 6) i < S.1) ∧ S.2.1 (S.2.2.2.1 (b + 6) i) = 9) := by
  intro i x0 x1
  rcases h.2.2.2.2.1.2.2.1 i x0 x1 with e | e
  · exact Or.inl e
  · exact Or.inr ⟨⟨e.1.1, by have := e.1.2.1; omega⟩, e.1.2.2.1⟩
theorem s_imageM {d k : Nat} {S : MS} {C : MC} {Q : Qt} (F : Fix S) (hk : k < 2) (h : ∀ C', Fp (fun a j => a = 84 ∧ 5656 * (k : Int) ≤ j ∧ j < 5656 * (k : Int) + 5656) C C' → (∀ i : Int, 0 ≤ i → i < 5656 → C' 84 (5656 * (k : Int) + i) = C 83 i) → Q 0 S (upC (upC C' 85 (k : Int) 1) 81 0 0)) : K_X11_image_17 (d + 1) 0 0 k 0 S C Q := by
  refine up_ind (α := MC) (P := fun m C' => Fp (fun a j => a = 84 ∧ 5656 * (k : Int) ≤ j ∧ j < 5656 * (k : Int) + 5656) C C' ∧ ∀ i : Nat, i < m → C' 84 (5656 * (k : Int) + i) = C 83 i) (K := fun m C' => K_X11_image_17 (d + 1) 0 0 k (m : Int) S C' Q) 5656 ?_ ?_ 0 (by omega) C ⟨Fp_rf, fun i hi => absurd hi (Nat.not_lt_zero i)⟩
  · intro C' ⟨c1, c2⟩
    refine b_X11_image_17 F ⟨fun _ => ⟨by omega, b_X11_good_0 F ⟨rfl, h C' c1 (fun i x0 x1 => ?_)⟩⟩, fun z => absurd (by decide) z⟩
    have := c2 i.toNat (by omega)
    rwa [Int.toNat_of_nonneg x0] at this
  · intro m C' hm ⟨c1, c2⟩ ih
    refine b_X11_image_17 F ⟨fun z => by omega, fun _ => ?_⟩
    rw [w32_lit (x := 5656 * (k : Int)) (by omega), w32_lit (x := 5656 * (k : Int) + m) (by omega), w32_succ (by omega), c1 83 m (by omega)]
    refine ⟨by omega, by omega, ih _ ⟨Fp_up ⟨rfl, by omega⟩ c1, fun i hi => ?_⟩⟩
    by_cases e : i = m
    · subst e; rw [upC_at]
    · rw [upC_sK (by omega)]; exact c2 i (by omega)
theorem s_backM {d k : Nat} {S : MS} {C : MC} {Q : Qt} (F : Fix S) (hk : k < 2) (h : ∀ C', Fp (fun a j => a = 83 ∧ 0 ≤ j ∧ j < 5656) C C' → (∀ i : Int, 0 ≤ i → i < 5656 → C' 83 i = C 84 (5656 * (k : Int) + i)) → Q 0 S (upC (upC C' 81 42 0) 81 0 0)) : K_X11_back_33 (d + 2) 0 0 k 0 S C Q := by
  refine up_ind (α := MC) (P := fun m C' => Fp (fun a j => a = 83 ∧ 0 ≤ j ∧ j < 5656) C C' ∧ ∀ i : Nat, i < m → C' 83 i = C 84 (5656 * (k : Int) + i)) (K := fun m C' => K_X11_back_33 (d + 2) 0 0 k (m : Int) S C' Q) 5656 ?_ ?_ 0 (by omega) C ⟨Fp_rf, fun i hi => absurd hi (Nat.not_lt_zero i)⟩
  · intro C' ⟨c1, c2⟩
    refine b_X11_back_33 F ⟨fun _ => s_goodAnew F ⟨rfl, h C' c1 (fun i x0 x1 => ?_)⟩, fun z => absurd (by decide) z⟩
    have := c2 i.toNat (by omega)
    rwa [Int.toNat_of_nonneg x0] at this
  · intro m C' hm ⟨c1, c2⟩ ih
    refine b_X11_back_33 F ⟨fun z => by omega, fun _ => ?_⟩
    rw [w32_lit (x := 5656 * (k : Int)) (by omega), w32_lit (x := 5656 * (k : Int) + m) (by omega), w32_succ (by omega), c1 84 _ (by omega)]
    refine ⟨by omega, by omega, ih _ ⟨Fp_up ⟨rfl, by omega⟩ c1, fun i hi => ?_⟩⟩
    by_cases e : i = m
    · subst e; rw [upC_at]
    · rw [upC_sK (by omega)]; exact c2 i (by omega)
theorem nZ1 : nZ 1 = 1 := by decide +kernel
theorem nZ0 : nZ 0 = 0 := by decide +kernel
/-- what must be told for the loop behind a call that changes S -/
def PS (S : MS) (P : Int → Int → MS → MC → Prop) : Prop := ∀ r S' C', Inv S' C' → S'.2.2.2.2 = S.2.2.2.2 → P r r S' C'
theorem q_image {d : Nat} {l : Int} {S : MS} {C : MC} {P : Int → Int → MS → MC → Prop} (I : Inv S C) (k : PS S P) : K_X10_image_0 (d + 2) 0 0 l S C (fun r S2 C2 => Fix S2 ∧ S2.2.2.2.2 = S.2.2.2.2 ∧ K_X11_image_0 (d + 2) 0 0 l S2 C2 (fun r2 Sq C3 => Sq = S2 ∧ P r r2 S2 C3)) := by
  have F := I.1
  have bad : ¬ (0 ≤ l ∧ l < 2) → K_X10_refuse_0 (d + 1) 0 0 (-1) S C (fun r Sq C2 => Sq = S ∧ Fix S ∧ S.2.2.2.2 = S.2.2.2.2 ∧ K_X11_image_0 (d + 2) 0 0 l S C2 (fun r2 Sq C3 => Sq = S ∧ P r r2 S C3)) := by
    intro hl
    refine s_refuse F (by unfold okR; omega) ⟨rfl, F, rfl, ?_⟩
    exact b_X11_image_0 F (s_lies F fun r hr => ⟨rfl, fun z => by omega, fun _ => s_refuses F (by unfold okR; omega) ⟨rfl, rfl, k _ _ _ (Inv_refuse (by unfold okR; omega) I) rfl⟩⟩)
  refine b_X10_image_0 F ⟨fun z => bad (by omega), fun z => ⟨fun z2 => ⟨by omega, ?_⟩, fun z2 => bad (by omega)⟩⟩
  obtain ⟨n, rfl⟩ : ∃ n : Nat, l = n := ⟨l.toNat, by omega⟩
  have ha : isSt (65 + 8 * (n : Int)) := by unfold isSt; omega
  refine s_copyFrom F ha isSt1 (by omega) (laws_ok I.2.1) (fun S1 C1 F1 hs hc => ⟨F1, by omega, b_X10_accept_0 F1 ⟨rfl, F1, hs.2.2.2.1, ?_⟩⟩)
  rw [nZ1]
  refine b_X11_image_0 F1 (s_lies F1 fun r hr => ⟨rfl, fun _ => ?_, fun z => by omega⟩)
  refine s_imageM (k := n) F1 (by omega) (fun C2 f2 g2 => ⟨rfl, k _ _ _ ?_ hs.2.2.2.1⟩)
  have hn := RS_copy ha I.2.1 hs hc
  have hT := CpS_TxK ha hs
  have hrow : ∀ x k, x ≠ 65 + 8 * (n : Int) + 6 → S1.2.2.2.1 x k = S.2.2.2.1 x k := hs.2.2.2.2.1
  -- the cells of before, without the street copied to
  have hf : ∀ a j : Int, (a < 65 + 8 * (n : Int) ∨ 65 + 8 * (n : Int) + 8 ≤ a) → ¬ (a = 26 ∧ j = n) → ¬ (a = 0 ∧ j = 16) → ¬ (a = 84 ∧ 5656 * (n : Int) ≤ j ∧ j < 5656 * (n : Int) + 5656) → ¬ (a = 85 ∧ j = n) → ¬ (a = 81 ∧ j = 0) → upC (upC C2 85 (n : Int) 1) 81 0 0 a j = C a j := fun a j h1 h2 h3 h4 h5 h6 => by
    rw [upC_get, if_neg h6, upC_get, if_neg h5, f2 a j h4, upC_get, if_neg h3, upC_get, if_neg h2, hc.1 a h1]
  have hst : ∀ a j : Int, 65 + 8 * (n : Int) ≤ a → a < 65 + 8 * (n : Int) + 8 → upC (upC C2 85 (n : Int) 1) 81 0 0 a j = C1 a j := fun a j h1 h2 => by
    rw [upC_ne (by omega), upC_ne (by omega), f2 a j (by omega), upC_ne (by omega), upC_ne (by omega)]
  have e84 : ∀ i : Int, 0 ≤ i → i < 5656 → upC (upC C2 85 (n : Int) 1) 81 0 0 84 (5656 * (n : Int) + i) = C 83 i := fun i x0 x1 => by
    rw [upC_ne (by decide), upC_ne (by decide), g2 i x0 x1, upC_ne (by decide), upC_ne (by decide), hc.1 83 (by omega)]
  have e26 : upC (upC C2 85 (n : Int) 1) 81 0 0 26 n = 1 := by
    rw [upC_ne (by decide), upC_ne (by decide), f2 26 n (by omega), upC_ne (by decide), upC_at]
  have e85 : upC (upC C2 85 (n : Int) 1) 81 0 0 85 n = 1 := by rw [upC_ne (by decide), upC_at]
  have e016 : upC (upC C2 85 (n : Int) 1) 81 0 0 0 16 = 0 := by
    rw [upC_ne (by decide), upC_ne (by decide), f2 0 16 (by omega), upC_at]
  generalize hG : upC (upC C2 85 (n : Int) 1) 81 0 0 = G at *
  have e810 : G 81 0 = 0 := by rw [← hG, upC_at]
  obtain ⟨-, iN, iI, iR, iT, iX, iU, iE, iW⟩ := I
  have rw1 : ∀ b, b < 65 + 8 * (n : Int) ∨ 65 + 8 * (n : Int) + 8 ≤ b → b ≠ 26 → b ≠ 0 → b ≠ 84 → b ≠ 85 → b ≠ 81 → G b = C b := fun b h1 h2 h3 h4 h5 h6 => funext fun j => hf b j h1 (by omega) (by omega) (by omega) (by omega) (by omega)
  refine ⟨F1, RS_cong2 (RS_S iN hT (fun i _ _ => hrow _ i (by omega))) (fun j x0 x1 => rw1 _ (by omega) (by omega) (by omega) (by omega) (by omega) (by omega)) (fun b hb => rw1 b (by omega) (by omega) (by omega) (by omega) (by omega) (by omega)) (fun i _ => by rw [rw1 83 (by omega) (by omega) (by omega) (by omega) (by omega) (by omega)]), ?_, ⟨by rw [e016, e810], by rw [rw1 64 (by omega) (by omega) (by omega) (by omega) (by omega) (by omega), rw1 82 (by omega) (by omega) (by omega) (by omega) (by omega) (by omega)]; exact iR.2⟩,
    IvT_cong iT (hf _ _ (by omega) (by omega) (by omega) (by omega) (by omega) (by omega)) (hf _ _ (by omega) (by omega) (by omega) (by omega) (by omega) (by omega)) (rw1 _ (by omega) (by omega) (by omega) (by omega) (by omega) (by omega)) (rw1 _ (by omega) (by omega) (by omega) (by omega) (by omega) (by omega)),
    IvX_cong iX (hf _ _ (by omega) (by omega) (by omega) (by omega) (by omega) (by omega)) (hf _ _ (by omega) (by omega) (by omega) (by omega) (by omega) (by omega)) (hf _ _ (by omega) (by omega) (by omega) (by omega) (by omega) (by omega)) (hf _ _ (by omega) (by omega) (by omega) (by omega) (by omega) (by omega)) (hf _ _ (by omega) (by omega) (by omega) (by omega) (by omega) (by omega)) (hf _ _ (by omega) (by omega) (by omega) (by omega) (by omega) (by omega)),
    IvU_cong iU (hf _ _ (by omega) (by omega) (by omega) (by omega) (by omega) (by omega)) (hf _ _ (by omega) (by omega) (by omega) (by omega) (by omega) (by omega)) (fun i _ => hf _ _ (by omega) (by omega) (by omega) (by omega) (by omega) (by omega)) (rw1 _ (by omega) (by omega) (by omega) (by omega) (by omega) (by omega)) (rw1 _ (by omega) (by omega) (by omega) (by omega) (by omega) (by omega)) (rw1 _ (by omega) (by omega) (by omega) (by omega) (by omega) (by omega)) (rw1 _ (by omega) (by omega) (by omega) (by omega) (by omega) (by omega)),
    IvE_cong iE (hf _ _ (by omega) (by omega) (by omega) (by omega) (by omega) (by omega)) (hf _ _ (by omega) (by omega) (by omega) (by omega) (by omega) (by omega)) (rw1 _ (by omega) (by omega) (by omega) (by omega) (by omega) (by omega)) (rw1 _ (by omega) (by omega) (by omega) (by omega) (by omega) (by omega)) (rw1 _ (by omega) (by omega) (by omega) (by omega) (by omega) (by omega)), IvW_cong iW (rw1 _ (by omega) (by omega) (by omega) (by omega) (by omega) (by omega))⟩
  intro j x0 x1
  by_cases hj : j = n
  · subst hj
    rw [e26, e85]
    refine ⟨⟨rfl, Or.inr rfl⟩, fun _ => ?_⟩
    exact RS_cong2 hn (fun i y0 y1 => funext fun q => hst _ q (by omega) (by omega)) (fun b hb => funext fun q => by rw [rw1 b (by omega) (by omega) (by omega) (by omega) (by omega) (by omega), hc.1 b (by omega)]) (fun i hi => by
      unfold ktI at hi
      exact e84 i (by omega) (by omega))
  · obtain ⟨i1, i2⟩ := iI j x0 x1
    have q1 : G 26 j = C 26 j := hf _ _ (by omega) (by omega) (by omega) (by omega) (by omega) (by omega)
    have q2 : G 85 j = C 85 j := hf _ _ (by omega) (by omega) (by omega) (by omega) (by omega) (by omega)
    rw [q1, q2]
    refine ⟨i1, fun e => ?_⟩
    exact RS_cong2 (RS_S (i2 e) hT (fun i _ _ => hrow _ i (by omega))) (fun i y0 y1 => rw1 _ (by omega) (by omega) (by omega) (by omega) (by omega) (by omega)) (fun b hb => rw1 b (by omega) (by omega) (by omega) (by omega) (by omega) (by omega)) (fun i hi => by
      unfold ktI at hi
      exact hf 84 _ (by omega) (by omega) (by omega) (by omega) (by omega) (by omega))
theorem q_back {d : Nat} {l : Int} {S : MS} {C : MC} {P : Int → Int → MS → MC → Prop} (I : Inv S C) (k : PS S P) : K_X10_back_0 (d + 2) 0 0 l S C (fun r S2 C2 => Fix S2 ∧ S2.2.2.2.2 = S.2.2.2.2 ∧ K_X11_back_0 (d + 2) 0 0 l S2 C2 (fun r2 Sq C3 => Sq = S2 ∧ P r r2 S2 C3)) := by
  have F := I.1
  have bad : ¬ (0 ≤ l ∧ l < 2) → K_X10_refuse_0 (d + 1) 0 0 (-1) S C (fun r Sq C2 => Sq = S ∧ Fix S ∧ S.2.2.2.2 = S.2.2.2.2 ∧ K_X11_back_0 (d + 2) 0 0 l S C2 (fun r2 Sq C3 => Sq = S ∧ P r r2 S C3)) := by
    intro hl
    refine s_refuse F (by unfold okR; omega) ⟨rfl, F, rfl, ?_⟩
    exact b_X11_back_0 F (s_lies F fun r hr => ⟨rfl, fun z => by omega, fun _ => s_refuses F (by unfold okR; omega) ⟨rfl, rfl, k _ _ _ (Inv_refuse (by unfold okR; omega) I) rfl⟩⟩)
  refine b_X10_back_0 F ⟨fun z => bad (by omega), fun z => ⟨fun z2 => ⟨by omega, fun z3 => ⟨by omega, ?_⟩, fun z3 => ?_⟩, fun z2 => bad (by omega)⟩⟩
  · obtain ⟨n, rfl⟩ : ∃ n : Nat, l = n := ⟨l.toNat, by omega⟩
    have hb : isSt (65 + 8 * (n : Int)) := by unfold isSt; omega
    obtain ⟨i1, i2⟩ := I.2.2.1 n (by omega) (by omega)
    have hk1 : C 26 n = 1 := by omega
    have hR := i2 hk1
    refine s_copyFrom F isSt1 hb (by omega) (laws_ok hR) (fun S1 C1 F1 hs hc => ⟨F1, b_X0_clear_0 F1 ⟨rfl, b_X10_accept_0 F1 ⟨rfl, F1, hs.2.2.2.1, ?_⟩⟩⟩)
    have c85 : upC (upC C1 55 3 0) 0 16 0 85 n = 1 := by rw [upC_ne (by decide), upC_ne (by decide), hc.1 85 (by omega)]; omega
    refine b_X11_back_0 F1 (s_lies F1 fun r hr => ⟨rfl, fun _ => ⟨by omega, fun _ => ?_, fun z => by omega⟩, fun z => by omega⟩)
    refine s_backM (k := n) F1 (by omega) (fun C2 f2 g2 => ⟨rfl, k _ _ _ ?_ hs.2.2.2.1⟩)
    have hn := RS_copy isSt1 hR hs hc
    have hT := CpS_TxK isSt1 hs
    have hrow : ∀ x k, x ≠ 1 + 6 → S1.2.2.2.1 x k = S.2.2.2.1 x k := hs.2.2.2.2.1
    have hf : ∀ a j : Int, (a < 1 ∨ 1 + 8 ≤ a) → ¬ (a = 55 ∧ j = 3) → ¬ (a = 0 ∧ j = 16) → a ≠ 83 → ¬ (a = 81 ∧ (j = 0 ∨ j = 42)) → upC (upC C2 81 42 0) 81 0 0 a j = C a j := fun a j h1 h2 h3 h4 h5 => by
      rw [upC_get, if_neg (by omega), upC_get, if_neg (by omega), f2 a j (by omega), upC_get, if_neg h3, upC_get, if_neg h2, hc.1 a h1]
    have hst : ∀ a j : Int, 1 ≤ a → a < 1 + 8 → upC (upC C2 81 42 0) 81 0 0 a j = C1 a j := fun a j h1 h2 => by
      rw [upC_ne (by omega), upC_ne (by omega), f2 a j (by omega), upC_ne (by omega), upC_ne (by omega)]
    have e83 : ∀ i : Int, 0 ≤ i → i < 5656 → upC (upC C2 81 42 0) 81 0 0 83 i = C 84 (5656 * (n : Int) + i) := fun i x0 x1 => by
      rw [upC_ne (by decide), upC_ne (by decide), g2 i x0 x1, upC_ne (by decide), upC_ne (by decide), hc.1 84 (by omega)]
    have e553 : upC (upC C2 81 42 0) 81 0 0 55 3 = 0 := by
      rw [upC_ne (by decide), upC_ne (by decide), f2 55 3 (by omega), upC_ne (by decide), upC_at]
    have e016 : upC (upC C2 81 42 0) 81 0 0 0 16 = 0 := by
      rw [upC_ne (by decide), upC_ne (by decide), f2 0 16 (by omega), upC_at]
    generalize hG : upC (upC C2 81 42 0) 81 0 0 = G at *
    have e810 : G 81 0 = 0 := by rw [← hG, upC_at]
    have e8142 : G 81 42 = 0 := by rw [← hG, upC_sK (by decide), upC_at]
    obtain ⟨-, iN, iI, iR, iT, iX, iU, iE, iW⟩ := I
    have rw1 : ∀ b, b < 1 ∨ 1 + 8 ≤ b → b ≠ 55 → b ≠ 0 → b ≠ 83 → b ≠ 81 → G b = C b := fun b h1 h2 h3 h4 h5 => funext fun j => hf b j h1 (by omega) (by omega) (by omega) (by omega)
    refine ⟨F1, RS_cong2 hn (fun j x0 x1 => funext fun q => hst _ q (by omega) (by omega)) (fun b hb => funext fun q => by rw [rw1 b (by omega) (by omega) (by omega) (by omega) (by omega), hc.1 b (by omega)]) (fun i hi => by
        unfold ktI at hi
        exact e83 i (by omega) (by omega)), IvI_cong (IvI_S iI hT (fun a i ha => hrow _ i (by omega))) (rw1 _ (by omega) (by omega) (by omega) (by omega) (by omega)) (rw1 _ (by omega) (by omega) (by omega) (by omega) (by omega)) (rw1 _ (by omega) (by omega) (by omega) (by omega) (by omega)) (fun b x0 x1 => rw1 _ (by omega) (by omega) (by omega) (by omega) (by omega)) (fun b hb => rw1 b (by omega) (by omega) (by omega) (by omega) (by omega)), ⟨by rw [e016, e810], by rw [rw1 64 (by omega) (by omega) (by omega) (by omega) (by omega), rw1 82 (by omega) (by omega) (by omega) (by omega) (by omega)]; exact iR.2⟩,
      IvT_cong iT (hf _ _ (by omega) (by omega) (by omega) (by omega) (by omega)) (hf _ _ (by omega) (by omega) (by omega) (by omega) (by omega)) (rw1 _ (by omega) (by omega) (by omega) (by omega) (by omega)) (rw1 _ (by omega) (by omega) (by omega) (by omega) (by omega)),
      IvX_cong iX (hf _ _ (by omega) (by omega) (by omega) (by omega) (by omega)) (hf _ _ (by omega) (by omega) (by omega) (by omega) (by omega)) (hf _ _ (by omega) (by omega) (by omega) (by omega) (by omega)) (hf _ _ (by omega) (by omega) (by omega) (by omega) (by omega)) (hf _ _ (by omega) (by omega) (by omega) (by omega) (by omega)) (hf _ _ (by omega) (by omega) (by omega) (by omega) (by omega)),
      IvU_none e553 e8142,
      IvE_cong iE (hf _ _ (by omega) (by omega) (by omega) (by omega) (by omega)) (hf _ _ (by omega) (by omega) (by omega) (by omega) (by omega)) (rw1 _ (by omega) (by omega) (by omega) (by omega) (by omega)) (rw1 _ (by omega) (by omega) (by omega) (by omega) (by omega)) (rw1 _ (by omega) (by omega) (by omega) (by omega) (by omega)), IvW_cong iW (rw1 _ (by omega) (by omega) (by omega) (by omega) (by omega))⟩
  · refine s_refuse F (by unfold okR; omega) ⟨rfl, F, rfl, ?_⟩
    have e : rfC C (-2) 85 l = 0 := by unfold rfC; rw [upC_ne (by decide), upC_ne (by decide)]; have := (I.2.2.1 l (by omega) (by omega)).1; omega
    exact b_X11_back_0 F (s_lies F fun r hr => ⟨rfl, fun _ => ⟨by omega, fun z4 => absurd e z4, fun _ => s_refuses F (by unfold okR; omega) ⟨rfl, rfl, k _ _ _ (Inv_refuse (by unfold okR; omega) I) rfl⟩⟩, fun z4 => by omega⟩)
