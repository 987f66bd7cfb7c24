/-! 99a.init: what both start with -/
theorem int_nat {p : Int → Prop} (m : Nat) (h : ∀ n : Nat, n < m → p (n : Int)) : ∀ j : Int, 0 ≤ j → j < (m : Int) → p j := fun j h0 h1 => by
  have := h j.toNat (by omega)
  rwa [Int.toNat_of_nonneg h0] at this
theorem pl_len : ∀ a : Nat, a < 108 → (fPL.getD a []).length ≤ 64 := by decide +kernel
theorem pl_ok : ∀ a : Nat, a < 108 → ∀ k : Nat, k < 64 → (fPL.getD a []).getD k (-9) = -9 ∨ apU p_108 (fun _ _ => -1) (a : Int) (k : Int) = (fPL.getD a []).getD k (-9) := by decide +kernel
theorem Fix_start (sc : Int × (Int → Int)) : Fix (Sn 108 p_108 sc) := by
  refine ⟨Int.le_refl _, fun a h0 h1 => ⟨if_pos ⟨h0, h1⟩, if_pos ⟨h0, h1⟩⟩, fun a k h0 h1 h2 h3 => ?_⟩
  show apU p_108 (fun _ _ => -1) a k = fxP a k
  unfold fxP at h3 ⊢
  have ha : a.toNat < 108 := by omega
  by_cases q : k.toNat < 64
  · rcases pl_ok a.toNat ha k.toNat q with e | e
    · exact absurd e h3
    · rw [Int.toNat_of_nonneg h0, Int.toNat_of_nonneg h2] at e
      exact e
  · have := pl_len a.toNat ha
    refine absurd ?_ h3
    rw [List.getD_eq_getElem?_getD, List.getElem?_eq_none (by omega)]
    rfl
theorem st_a : ∀ n : Nat, n < 6 → apU u_200 C0z (1 + 1) (n : Int) = apU u_200 C0z 83 (25 + (n : Int)) ∧ apU u_200 C0z (1 + 2) (n : Int) = apU u_200 C0z 83 (31 + (n : Int)) := by decide +kernel
theorem st_b : ∀ n : Nat, n < 8 → apU u_200 C0z (1 + 3) (n : Int) = apU u_200 C0z 83 (n : Int) ∧ -1 ≤ apU u_200 C0z 83 (n : Int) ∧ apU u_200 C0z 83 (n : Int) < apU u_200 C0z 83 45 := by decide +kernel
theorem st_c : ∀ n : Nat, n < 16 → apU u_200 C0z (1 + 4) (n : Int) = apU u_200 C0z 83 (8 + (n : Int)) ∧ 0 ≤ apU u_200 C0z 83 (8 + (n : Int)) ∧ apU u_200 C0z 83 (8 + (n : Int)) ≤ 255 := by decide +kernel
theorem st_d : ∀ n : Nat, n < 6 → apU u_200 C0z (1 + 5) (n : Int) = apU u_200 C0z 83 (37 + (n : Int)) ∧ 0 ≤ apU u_200 C0z 83 (37 + (n : Int)) ∧ apU u_200 C0z 83 (37 + (n : Int)) ≤ 255 := by decide +kernel
theorem st_e : ∀ n : Nat, n < 6 → apU p_108 (fun _ _ => -1) (1 + 6) (n : Int) = -1 := by decide +kernel
theorem st_i : ∀ n : Nat, n < 2 → apU u_200 C0z 26 (n : Int) = apU u_200 C0z 85 (n : Int) ∧ apU u_200 C0z 26 (n : Int) = 0 := by decide +kernel
theorem st_w : ∀ n : Nat, n < 136 → apU u_200 C0z 87 (n : Int) = wmL.getD n 0 := by decide +kernel
theorem st_45 : apU u_200 C0z 83 45 = 0 := by decide +kernel
theorem st_47 : apU u_200 C0z 83 47 = 0 := by decide +kernel
theorem Inv_start (sc : Int × (Int → Int)) : Inv (Sn 108 p_108 sc) (apU u_200 C0z) := by
  have nneg : ∀ j : Int, 0 ≤ j → ¬ j < apU u_200 C0z 83 45 := fun j hj => by rw [st_45]; exact Int.not_lt.mpr hj
  have tb := int_nat (p := fun n => apU u_200 C0z (1 + 3) n = apU u_200 C0z 83 n ∧ -1 ≤ apU u_200 C0z 83 n ∧ apU u_200 C0z 83 n < apU u_200 C0z 83 45) 8 st_b
  have tc := int_nat (p := fun n => apU u_200 C0z (1 + 4) n = apU u_200 C0z 83 (8 + n) ∧ 0 ≤ apU u_200 C0z 83 (8 + n) ∧ apU u_200 C0z 83 (8 + n) ≤ 255) 16 st_c
  have td := int_nat (p := fun n => apU u_200 C0z (1 + 5) n = apU u_200 C0z 83 (37 + n) ∧ 0 ≤ apU u_200 C0z 83 (37 + n) ∧ apU u_200 C0z 83 (37 + n) ≤ 255) 6 st_d
  have te := int_nat (p := fun n => (Sn 108 p_108 sc).2.2.2.1 (1 + 6) n = -1) 6 (fun n hn => sn_p (st_e n hn))
  refine ⟨Fix_start sc, ⟨⟨by decide +kernel, by decide +kernel, fun j h0 h1 => ?_⟩, fun b h0 h1 => tb b h0 h1, fun b h0 h1 => tc b h0 h1, ⟨by decide +kernel, by decide +kernel, fun b h0 h1 => td b h0 h1⟩, ⟨by decide +kernel, by decide +kernel, fun t h0 h1 => Or.inl (te t h0 h1), fun t h0 h1 => absurd h1 (by rw [st_47]; exact Int.not_lt.mpr h0)⟩, by decide +kernel, by decide +kernel, by decide +kernel⟩, fun k h0 h1 => ?_, by unfold IvR; decide +kernel, IvT_0 (by decide +kernel) (by decide +kernel), by unfold IvX; decide +kernel, IvU_none (by decide +kernel) (by decide +kernel), ⟨by decide +kernel, by decide +kernel, fun z => absurd z (by decide +kernel)⟩, fun i h0 h1 => ?_⟩
  · have := int_nat (p := fun j => apU u_200 C0z (1 + 1) j = apU u_200 C0z 83 (25 + j) ∧ apU u_200 C0z (1 + 2) j = apU u_200 C0z 83 (31 + j)) 6 st_a j h0 h1
    exact ⟨this.1, this.2, fun z => absurd z (nneg j h0)⟩
  · have := int_nat (p := fun j => apU u_200 C0z 26 j = apU u_200 C0z 85 j ∧ apU u_200 C0z 26 j = 0) 2 st_i k h0 h1
    exact ⟨⟨this.1, Or.inl this.2⟩, fun z => absurd (this.2.symm.trans z) (by decide)⟩
  · have := st_w i.toNat (by omega)
    rwa [Int.toNat_of_nonneg h0] at this
