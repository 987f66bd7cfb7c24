/-! 98.ord1: the call orders, both -/
def ogx (a k : Int) : Prop := gnx a k ∨ ckF a k
theorem ogx_83 {i : Int} (h : ktI i) (h2 : 25 ≤ i) : ¬ ogx 83 i := by unfold ktI at h; unfold ogx gnx scr ckF; omega
theorem ogx_row {a : Int} (h : a = 1 ∨ a = 2 ∨ a = 3 ∨ a = 6 ∨ a = 7 ∨ 107 ≤ a ∨ a = 26 ∨ a = 84 ∨ a = 85 ∨ a = 87 ∨ (65 ≤ a ∧ a < 81) ∨ a = 20 ∨ a = 21) : ∀ k, ¬ ogx a k := fun k => by unfold ogx gnx scr ckF; omega
theorem Inv_ord {S S' : MS} {C C' : MC} {w : Int → Int} (I : Inv S C) (F' : Fix S') (hs : Ss S S') (h : Fp ogx C C') (hw : UOk (C 1 0) w) (hst : StC C' w) (hm : ∀ i, 0 ≤ i → i < 25 → C' 83 i = w i) (hT' : IvT C') (hX' : IvX C') (hR' : IvR C') (hU' : IvU C') : Inv S' C' := by
  obtain ⟨F, iN, iI, iR, iT, iX, iU, iE, iW⟩ := I
  have hT := TxK_ss hs
  have rw1 : ∀ b, (b = 1 ∨ b = 2 ∨ b = 3 ∨ b = 6 ∨ b = 7 ∨ 107 ≤ b ∨ b = 26 ∨ b = 84 ∨ b = 85 ∨ b = 87 ∨ (65 ≤ b ∧ b < 81) ∨ b = 20 ∨ b = 21) → C' b = C b := fun b hb => fp_row h (ogx_row hb)
  have kh : ∀ i, ktI i → 25 ≤ i → C' 83 i = C 83 i := fun i h1 h2 => h 83 i (ogx_83 h1 h2)
  obtain ⟨a1, a2, a3, a4, a5, a6⟩ := RS_S iN hT (fun i _ _ => hs.2.2.2.2 _ i (by decide) (by decide) (by decide))
  have r1 : C' 1 = C 1 := rw1 1 (by decide)
  have e45 : C 83 45 = C 1 0 := a1.1.symm
  have q45 : C' 83 45 = C 1 0 := (kh 45 (by unfold ktI; decide) (by decide)).trans e45
  have x81 : C' 8 1 = C 8 1 := h 8 1 (by unfold ogx gnx scr ckF; decide)
  have x82 : C' 8 2 = C 8 2 := h 8 2 (by unfold ogx gnx scr ckF; decide)
  have k43 := kh 43 (by unfold ktI; decide) (by decide)
  have k44 := kh 44 (by unfold ktI; decide) (by decide)
  have b24 : ∀ k : Int, 0 ≤ k → k < 8 → k < 25 := fun k _ _ => by clear e45 q45 x81 x82 k43 k44; omega
  have b8 : ∀ b : Int, 0 ≤ b → b < 16 → 0 ≤ 8 + b ∧ 8 + b < 25 ∧ 8 ≤ 8 + b ∧ 8 + b < 24 := fun b _ _ => by clear e45 q45 x81 x82 k43 k44; omega
  have nRS : RS S' C' 1 (C' 83) := by
    refine ⟨Ra_cong a1 (by rw [r1]) (rw1 2 (by decide)) (rw1 3 (by decide)) (fun i hi => kh i (by unfold ktI; clear e45 q45 x81 x82 k43 k44; omega) (by clear e45 q45 x81 x82 k43 k44; omega)), fun k k0 k1 => ?_, fun b b0 b1 => ?_, Rd_cong a4 (by rw [r1]) (rw1 6 (by decide)) (fun i hi => kh i (by unfold ktI; clear e45 q45 x81 x82 k43 k44; omega) (by clear e45 q45 x81 x82 k43 k44; omega)), Re_cong a5 (by rw [r1]) (by rw [r1]) (fun b hb => rw1 b (by clear e45 q45 x81 x82 k43 k44; omega)) (fun i hi => kh i (by unfold ktI; unfold lwI at hi; clear e45 q45 x81 x82 k43 k44; omega) (by unfold lwI at hi; clear e45 q45 x81 x82 k43 k44; omega)), ?_⟩
    · show C' 4 k = C' 83 k ∧ _
      rw [hst.1 k k0 k1, hm k k0 (b24 k k0 k1), q45]
      exact ⟨rfl, hw.1 k k0 k1⟩
    · show C' 5 b = C' 83 (8 + b) ∧ _
      have bb := b8 b b0 b1
      rw [hst.2.1 b b0 b1, hm (8 + b) bb.1 bb.2.1]
      exact ⟨rfl, hw.2.1 (8 + b) bb.2.2.1 bb.2.2.2⟩
    · refine ⟨?_, ?_, ?_⟩
      · show C' 8 0 = C' 83 24 ∧ _
        rw [hst.2.2, hm 24 (by decide) (by decide)]
        exact ⟨rfl, hw.2.2⟩
      · show C' 8 1 = C' 83 43 ∧ _
        rw [x81, k43]
        exact a6.2.1
      · show C' 8 2 = C' 83 44 ∧ _
        rw [x82, k44]
        exact a6.2.2
  refine ⟨F', nRS, IvI_cong (IvI_S iI hT (fun a i ha => ?_)) (rw1 _ (by decide)) (rw1 _ (by decide)) (rw1 _ (by decide)) (fun b x0 x1 => rw1 _ (by clear e45 q45 x81 x82 k43 k44; omega)) (fun b hb => rw1 b (by clear e45 q45 x81 x82 k43 k44; omega)), hR', hT', hX', hU', IvE_cong iE (h _ _ (by unfold ogx gnx scr ckF; decide)) (h _ _ (by unfold ogx gnx scr ckF; decide)) (rw1 _ (by decide)) (rw1 _ (by decide)) (rw1 _ (by decide)), IvW_cong iW (rw1 _ (by decide))⟩
  rcases ha with rfl | rfl
  · exact hs.2.2.2.2 _ i (by decide) (by decide) (by decide)
  · exact hs.2.2.2.2 _ i (by decide) (by decide) (by decide)
theorem crn_og {a k : Int} (q : crn a k) : ogx a k := by
  rcases q with rfl | rfl | q | q | rfl | rfl | rfl | q | q | q
  · exact Or.inr (Or.inl rfl)
  · exact Or.inr (Or.inr (Or.inl rfl))
  · exact Or.inr (Or.inr (Or.inr (Or.inl q)))
  · exact Or.inr (Or.inr (Or.inr (Or.inr (Or.inl q))))
  · exact Or.inr (by unfold ckF; omega)
  · exact Or.inr (by unfold ckF; omega)
  · exact Or.inr (by unfold ckF; omega)
  · exact Or.inl (Or.inl (Or.inr (Or.inr (Or.inr (Or.inl ⟨q.1, by omega⟩)))))
  · exact Or.inl (Or.inl (Or.inr (Or.inr (Or.inr (Or.inr (Or.inl ⟨q.1, by omega⟩))))))
  · exact Or.inl (Or.inl (Or.inr (Or.inr (Or.inl ⟨by omega, by omega⟩))))
theorem crm_og {a k : Int} (q : crm a k) : ogx a k := by
  rcases q with q | q
  · exact crn_og q
  · exact Or.inl (Or.inr (Or.inr (Or.inr (Or.inr (Or.inl q)))))
theorem scr_ly {k : Int} (h : k = 55 ∨ (2456 ≤ k ∧ k < 2856) ∨ 5256 ≤ k) : scr 83 k := Or.inr (Or.inr (Or.inr (Or.inr (Or.inr (Or.inr (Or.inr (Or.inr (Or.inr (Or.inr ⟨rfl, h⟩)))))))))
theorem mrn_og {a k : Int} (q : mrn a k) : ogx a k := by
  rcases q with rfl | ⟨rfl, q⟩ | q | rfl | rfl | q
  · exact Or.inr (by unfold ckF; omega)
  · by_cases y : k = 42
    · exact Or.inr (by unfold ckF; omega)
    · exact Or.inl (Or.inl (scr_81 (by omega) (by omega) (by omega) (by omega) (by omega) (by omega) (by omega)))
  · exact Or.inr (by unfold ckF; omega)
  · exact Or.inl (Or.inl (Or.inr (Or.inr (Or.inr (Or.inr (Or.inr (Or.inr (Or.inr (Or.inr (Or.inr (Or.inl rfl)))))))))))
  · exact Or.inl (Or.inl (scr_hi (by decide)))
  · exact Or.inl (Or.inl (scr_hi ⟨by omega, by omega⟩))
theorem mox_og {a k : Int} (q : mox a k) : ogx a k := by
  rcases q with q | rfl | rfl | q | q
  · exact mrn_og q
  · exact Or.inl (Or.inl (Or.inr (Or.inr (Or.inr (Or.inr (Or.inr (Or.inr (Or.inl rfl))))))))
  · exact Or.inl (Or.inl (Or.inr (Or.inr (Or.inr (Or.inr (Or.inr (Or.inr (Or.inr (Or.inr (Or.inl rfl))))))))))
  · obtain ⟨rfl, q⟩ := q
    exact Or.inl (Or.inl (scr_ly (by omega)))
  · exact Or.inl (Or.inr (Or.inr (Or.inl ⟨q.1, Or.inl q.2⟩)))
theorem moy_og {a k : Int} (q : moy a k) : ogx a k := by
  rcases q with q | q
  · exact mox_og q
  · exact Or.inl (Or.inr (Or.inr (Or.inl ⟨q.1, Or.inr (Or.inr (Or.inr q.2))⟩)))
theorem rfC_43 {C : MC} {v x : Int} : rfC (upC C 81 43 v) x = upC (rfC C x) 81 43 v := by
  funext a k
  unfold rfC
  by_cases h : a = 81
  · subst h
    rw [upC_ne (by decide), upC_ne (by decide)]
    by_cases h2 : k = 43
    · subst h2; rw [upC_at, upC_at]
    · rw [upC_sK h2, upC_sK h2, upC_ne (by decide), upC_ne (by decide)]
  · rw [upC_ne (a := 81) h]
    simp [upC, h]
