/-! 87.qlaw: the call law, both -/
theorem lt400 {x : Int} (h : 0 ≤ x ∧ x ≤ 400) : x.toNat ≤ 400 := by omega
theorem ltToNat {x : Int} {i : Nat} (h : i < x.toNat) : (i : Int) < x := by omega
theorem BtC_of {C : MC} (h : IvT C) : BtC (fun i => C 28 i) (C 27 1).toNat C := by
  obtain ⟨t1, t2, t3⟩ := h
  have e := Int.toNat_of_nonneg t2.1
  clear t1
  exact ⟨e.symm, lt400 t2, fun i hi => ⟨rfl, (t3 i (Int.natCast_nonneg i) (ltToNat hi)).2⟩⟩
theorem BtM_of {C C' : MC} (h : IvT C) (e : C' 88 = C 88) : BtM (fun i => C 28 i) (C 27 1).toNat C' := by
  obtain ⟨t1, t2, t3⟩ := h
  refine ⟨lt400 t2, fun i hi => ?_⟩
  rw [e]
  have := t3 i (Int.natCast_nonneg i) (ltToNat hi)
  exact ⟨this.1.symm, this.2⟩
theorem rd0_81 {C C' : MC} (f : Fp rd0 C C') : ∀ a, 81 ≤ a → C' a = C a := fun a ha => fp_row f (fun k => by unfold rd0; omega)
theorem md0_lo {C C' : MC} (f : Fp md0 C C') : ∀ a, a < 81 ∨ 92 < a → C' a = C a := fun a ha => fp_row f (fun k => by unfold md0; omega)
theorem md0_82 {C C' : MC} (f : Fp md0 C C') : C' 82 = C 82 ∧ C' 83 = C 83 := ⟨fp_row f (fun k => by unfold md0; omega), fp_row f (fun k => by unfold md0; omega)⟩
theorem scr_81 {k : Int} (h1 : k ≠ 0) (h2 : k ≠ 6) (h3 : k ≠ 13) (h4 : k ≠ 14) (h5 : k ≠ 42) (h6 : k ≠ 43) (h7 : k ≠ 51) : scr 81 k := Or.inr (Or.inr (Or.inr (Or.inr (Or.inr (Or.inl ⟨rfl, h1, h2, h3, h4, h5, h6, h7⟩)))))
theorem scr_hi {a k : Int} (h : 89 ≤ a ∧ a < 104) : scr a k := Or.inr (Or.inr (Or.inr (Or.inr (Or.inr (Or.inr (Or.inr (Or.inl h)))))))
theorem md0_gn {a k : Int} (q : md0 a k) : gnx a k := by
  rcases q with rfl | rfl | rfl | ⟨rfl, q⟩
  · exact Or.inl (scr_hi (by decide))
  · exact Or.inl (scr_hi (by decide))
  · exact Or.inl (scr_hi (by decide))
  · rcases q with q | q | q | q
    · exact Or.inl (scr_81 (by omega) (by omega) (by omega) (by omega) (by omega) (by omega) (by omega))
    · exact Or.inr (Or.inr (Or.inl ⟨rfl, Or.inr (Or.inl q)⟩))
    · exact Or.inr (Or.inr (Or.inl ⟨rfl, Or.inr (Or.inr (Or.inl q))⟩))
    · exact Or.inl (scr_81 (by omega) (by omega) (by omega) (by omega) (by omega) (by omega) (by omega))
theorem rd0_gn {a k : Int} (q : rd0 a k) : gnx a k := by
  rcases q with q | rfl | q
  · exact Or.inr (Or.inl q)
  · by_cases y : k = 11
    · exact Or.inr (Or.inr (Or.inr (Or.inl ⟨rfl, y⟩)))
    · exact Or.inl (Or.inr (Or.inl ⟨rfl, y⟩))
  · exact Or.inl (Or.inr (Or.inr (Or.inl ⟨q.1, by omega⟩)))
theorem rd0_rows {C C' : MC} (f : Fp rd0 C C') : C' 1 = C 1 ∧ C' 59 = C 59 ∧ C' 64 = C 64 := ⟨fp_row f (fun k => by unfold rd0; omega), fp_row f (fun k => by unfold rd0; omega), fp_row f (fun k => by unfold rd0; omega)⟩
/-- both refuse behind a reading: what stays -/
theorem Inv_rdref {S : MS} {C C1 C2 C3 : MC} {x : Int} (I : Inv S C) (hx : okR x) (f1 : Fp gnx C C1) (h64 : C1 64 = C 64) (h82 : C1 82 = C 82) (h27 : C1 27 1 = 0) (e2 : C2 = rfC C1 x) (f3 : Fp md0 C2 C3) (h13 : C3 81 13 = 0) (h11 : C1 29 11 = C3 81 14) (hst : C1 59 4 = C1 81 43) : Inv S (rfM C3 x) := by
  have lo := md0_lo f3
  have g : Fp gnx C (rfM C3 x) := by
    unfold rfM
    refine Fp_up (Or.inr (Or.inr (Or.inr (Or.inr (Or.inr (Or.inr (Or.inr rfl))))))) (Fp_up (Or.inr (Or.inr (Or.inl ⟨rfl, Or.inl rfl⟩))) (Fp_tr ?_ (Fp_mono f3 (fun a k q => md0_gn q))))
    rw [e2]
    unfold rfC
    exact Fp_up (Or.inr (Or.inr (Or.inr (Or.inr (Or.inr (Or.inr (Or.inl rfl))))))) (Fp_up (Or.inr (Or.inr (Or.inr (Or.inr (Or.inr (Or.inl ⟨rfl, rfl⟩)))))) f1)
  have r29 : rfM C3 x 29 = C1 29 := by
    unfold rfM
    rw [upC_ne (by decide), upC_ne (by decide), lo 29 (by decide), e2]
    unfold rfC
    rw [upC_ne (by decide), upC_ne (by decide)]
  have r27 : rfM C3 x 27 = C1 27 := by
    unfold rfM
    rw [upC_ne (by decide), upC_ne (by decide), lo 27 (by decide), e2]
    unfold rfC
    rw [upC_ne (by decide), upC_ne (by decide)]
  have r59 : rfM C3 x 59 = C1 59 := by
    unfold rfM
    rw [upC_ne (by decide), upC_ne (by decide), lo 59 (by decide), e2]
    unfold rfC
    rw [upC_ne (by decide), upC_ne (by decide)]
  have r81 : ∀ k, k ≠ 0 → rfM C3 x 81 k = C3 81 k := fun k hk => by
    unfold rfM
    rw [upC_ne (by decide), upC_sK hk]
  have r43 : C3 81 43 = C1 81 43 := by
    rw [f3 81 43 (by unfold md0; decide), e2]
    unfold rfC
    rw [upC_ne (by decide), upC_ne (by decide)]
  refine Inv_gen I I.1 (Ss_rf S) g (IvT_0 (by rw [r27]; exact h27) (by rw [r81 13 (by decide)]; exact h13)) ⟨?_, ?_, ?_⟩ (IvR_ref I hx ?_ ?_ ?_ ?_)
  · rw [g 0 15 (by unfold gnx scr; decide), g 81 6 (by unfold gnx scr; decide)]
    exact I.2.2.2.2.2.1.1
  · rw [r29, r81 14 (by decide)]; exact h11
  · rw [r59, r81 43 (by decide), r43]; exact hst
  · unfold rfM
    rw [upC_ne (by decide), upC_ne (by decide), lo 0 (by decide), e2]
    unfold rfC
    rw [upC_ne (by decide), upC_at]
  · unfold rfM
    rw [upC_ne (by decide), upC_at]
  · have : rfM C3 x 64 = C3 64 := by unfold rfM; rw [upC_ne (by decide), upC_ne (by decide)]
    rw [this, lo 64 (by decide), e2, rfC_64 h64]
  · refine rfM_82 ?_
    rw [(md0_82 f3).1, e2]
    unfold rfC
    rw [upC_ne (by decide), upC_ne (by decide)]
    exact h82
