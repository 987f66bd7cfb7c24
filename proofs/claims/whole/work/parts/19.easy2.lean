/-! 19.easy2: calls that write a little -/
theorem Inv_mk {S : MS} {C C' : MC} (I : Inv S C) (hlo : Lo C C') (hN : RS S C' 1 (C' 83)) (hR : IvR C') (hT : IvT C') (hX : IvX C') (hU : IvU C') (hI : C' 26 = C 26 ∧ C' 85 = C 85 ∧ C' 84 = C 84 ∧ ∀ b, 65 ≤ b → b < 81 → C' b = C b) (hE : C' 0 14 = C 0 14 ∧ C' 81 51 = C 81 51 ∧ C' 20 = C 20 ∧ C' 21 = C 21 ∧ C' 107 = C 107) (hW : C' 87 = C 87) : Inv S C' := by
  obtain ⟨F, iN, iI, iR, iT, iX, iU, iE, iW⟩ := I
  exact ⟨F, hN, IvI_cong iI hI.1 hI.2.1 hI.2.2.1 hI.2.2.2 hlo, hR, hT, hX, hU, IvE_cong iE hE.1 hE.2.1 hE.2.2.1 hE.2.2.2.1 hE.2.2.2.2, IvW_cong iW hW⟩
theorem IvR_acc {C C' : MC} (h : IvR C) (h1 : C' 0 16 = 0) (h2 : C' 81 0 = 0) (h3 : C' 64 = C 64) (h4 : C' 82 = C 82) : IvR C' := by
  unfold IvR at h ⊢
  rw [h1, h2, h3, h4]
  exact ⟨rfl, h.2⟩
/-- two refusals, side by side -/
theorem q_ref {d d' : Nat} {x : Int} {S : MS} {C : MC} {P : Int → Int → MC → Prop} (I : Inv S C) (hx : okR x) (k : ∀ r C', Inv S C' → P r r C') {G : MC → Prop} (hG : ∀ C2, (K_X11_refuses_0 d' 0 0 x S C2 (fun r Sq C3 => Sq = S ∧ (Sq = S ∧ P x r C3)) → G C2)) : K_X10_refuse_0 d 0 0 x S C (fun r Sq C2 => Sq = S ∧ (r = x ∧ G C2)) :=
  s_refuse I.1 hx ⟨rfl, rfl, hG _ (s_refuses I.1 hx ⟨rfl, rfl, k _ _ (Inv_refuse hx I)⟩)⟩
theorem q_end {d : Nat} {l : Int} {S : MS} {C : MC} {P : Int → Int → MC → Prop} (I : Inv S C) (k : ∀ r C', Inv S C' → P r r C') : K_X10_end_0 (d + 1) 0 0 l S C (fun r Sq C2 => Sq = S ∧ K_X11_end_0 (d + 1) 0 0 l S C2 (fun r2 Sq C3 => Sq = S ∧ P r r2 C3)) := by
  have F := I.1
  obtain ⟨t1, t2, t3⟩ := I.2.2.2.2.1
  have bad : ¬ (0 ≤ l ∧ l ≤ C 27 1) → K_X11_end_0 (d + 1) 0 0 l S C (fun r2 Sq C3 => Sq = S ∧ P (-1) r2 C3) := fun hb =>
    b_X11_end_0 F (s_lies F fun r hr => ⟨rfl, fun e => by omega, fun e => ⟨rfl, k _ _ I⟩⟩)
  refine b_X10_end_0 F ⟨fun a => ⟨rfl, bad (by omega)⟩, fun a => ⟨fun b => ⟨rfl, ?_⟩, fun b => ⟨rfl, bad (by omega)⟩⟩⟩
  refine b_X11_end_0 F (s_lies F fun r hr => ⟨rfl, fun e => ⟨rfl, k _ _ ?_⟩, fun e => ?_⟩)
  · have hrow : ∀ b, b ≠ 27 → b ≠ 81 → upC (upC C 27 1 l) 81 13 l b = C b := fun b h0 h1 => by rw [upC_ne h1, upC_ne h0]
    have h81 : ∀ j, j ≠ 13 → upC (upC C 27 1 l) 81 13 l 81 j = C 81 j := fun j hj => by rw [upC_sK hj, upC_ne (by decide)]
    refine Inv_mk I (Lo_up (by decide) (Lo_up (by decide) (Lo_rf C))) (RS_cong I.2.1 (fun j x0 x1 => hrow _ (by omega) (by omega)) (Lo_up (by decide) (Lo_up (by decide) (Lo_rf C))) (fun i => by rw [hrow 83 (by decide) (by decide)])) (IvR_cong I.2.2.2.1 (by rw [hrow _ (by decide) (by decide)]) (h81 _ (by decide)) (hrow _ (by decide) (by decide)) (hrow _ (by decide) (by decide))) ?_ (IvX_cong I.2.2.2.2.2.1 (by rw [hrow _ (by decide) (by decide)]) (h81 _ (by decide)) (by rw [hrow _ (by decide) (by decide)]) (h81 _ (by decide)) (by rw [hrow _ (by decide) (by decide)]) (h81 _ (by decide)))
      (IvU_cong I.2.2.2.2.2.2.1 (by rw [hrow _ (by decide) (by decide)]) (h81 _ (by decide)) (fun i _ => by rw [hrow _ (by decide) (by decide)]) (hrow _ (by decide) (by decide)) (hrow _ (by decide) (by decide)) (hrow _ (by decide) (by decide)) (hrow _ (by decide) (by decide)))
      ⟨hrow _ (by decide) (by decide), hrow _ (by decide) (by decide), hrow _ (by decide) (by decide), fun b x0 x1 => hrow _ (by omega) (by omega)⟩ ⟨by rw [hrow _ (by decide) (by decide)], h81 _ (by decide), hrow _ (by decide) (by decide), hrow _ (by decide) (by decide), hrow _ (by decide) (by decide)⟩ (hrow _ (by decide) (by decide))
    have e1 : upC (upC C 27 1 l) 81 13 l 27 1 = l := by rw [upC_ne (by decide), upC_at]
    have e2 : upC (upC C 27 1 l) 81 13 l 81 13 = l := upC_at _ _ _ _
    unfold IvT
    rw [e1, e2, hrow 28 (by decide) (by decide), hrow 88 (by decide) (by decide)]
    exact ⟨rfl, by omega, fun i x0 x1 => t3 i x0 (by omega)⟩
  · have e1 : upC C 27 1 l 81 13 = C 81 13 := by rw [upC_ne (by decide)]
    rw [e1] at hr
    omega
theorem q_forget {d : Nat} {S : MS} {C : MC} {P : Int → Int → MC → Prop} (I : Inv S C) (k : ∀ r C', Inv S C' → P r r C') : K_X10_forget_0 d 0 0 S C (fun r Sq C2 => Sq = S ∧ K_X11_forget_0 d 0 0 S C2 (fun r2 Sq C3 => Sq = S ∧ P r r2 C3)) := by
  have F := I.1
  obtain ⟨a1, a2, a3, a4, a5, a6⟩ := I.2.1
  refine b_X10_forget_0 F ⟨rfl, b_X11_forget_0 F ⟨rfl, ?_⟩⟩
  have e : upC C 1 6 0 83 46 = C 1 6 := by rw [upC_ne (by decide)]; exact a4.1.symm
  rw [e]
  refine k _ _ ?_
  have hlo : Lo C (upC (upC C 1 6 0) 83 46 0) := Lo_up (by decide) (Lo_up (by decide) (Lo_rf C))
  have hrow : ∀ b, b ≠ 1 → b ≠ 83 → upC (upC C 1 6 0) 83 46 0 b = C b := fun b h0 h1 => by rw [upC_ne h1, upC_ne h0]
  have h1 : ∀ j, j ≠ 6 → upC (upC C 1 6 0) 83 46 0 1 j = C 1 j := fun j hj => by rw [upC_ne (by decide), upC_sK hj]
  have h83 : ∀ j, j ≠ 46 → upC (upC C 1 6 0) 83 46 0 83 j = C 83 j := fun j hj => by rw [upC_sK hj, upC_ne (by decide)]
  refine Inv_mk I hlo ⟨Ra_cong a1 (h1 _ (by decide)) (hrow _ (by decide) (by decide)) (hrow _ (by decide) (by decide)) (fun i hi => h83 i (by omega)), Rb_cong a2 (hrow _ (by decide) (by decide)) (fun i hi => h83 i (by omega)), Rc_cong a3 (hrow _ (by decide) (by decide)) (fun i hi => h83 i (by omega)), ?_, Re_cong a5 (h1 _ (by decide)) (h1 _ (by decide)) hlo (fun i hi => h83 i (by unfold lwI at hi; omega)), Rf_cong a6 (hrow _ (by decide) (by decide)) (fun i hi => h83 i (by omega))⟩ (IvR_cong I.2.2.2.1 (by rw [hrow _ (by decide) (by decide)]) (by rw [hrow _ (by decide) (by decide)]) (hrow _ (by decide) (by decide)) (hrow _ (by decide) (by decide))) (IvT_cong I.2.2.2.2.1 (by rw [hrow _ (by decide) (by decide)]) (by rw [hrow _ (by decide) (by decide)]) (hrow _ (by decide) (by decide)) (hrow _ (by decide) (by decide)))
    (IvX_cong I.2.2.2.2.2.1 (by rw [hrow _ (by decide) (by decide)]) (by rw [hrow _ (by decide) (by decide)]) (by rw [hrow _ (by decide) (by decide)]) (by rw [hrow _ (by decide) (by decide)]) (by rw [hrow _ (by decide) (by decide)]) (by rw [hrow _ (by decide) (by decide)]))
    (IvU_cong I.2.2.2.2.2.2.1 (by rw [hrow _ (by decide) (by decide)]) (by rw [hrow _ (by decide) (by decide)]) (fun i hi => h83 i (by omega)) (hrow _ (by decide) (by decide)) (hrow _ (by decide) (by decide)) (hrow _ (by decide) (by decide)) (hrow _ (by decide) (by decide)))
    ⟨hrow _ (by decide) (by decide), hrow _ (by decide) (by decide), hrow _ (by decide) (by decide), fun b x0 x1 => hrow _ (by omega) (by omega)⟩ ⟨by rw [hrow _ (by decide) (by decide)], by rw [hrow _ (by decide) (by decide)], hrow _ (by decide) (by decide), hrow _ (by decide) (by decide), hrow _ (by decide) (by decide)⟩ (hrow _ (by decide) (by decide))
  have e1 : upC (upC C 1 6 0) 83 46 0 1 6 = 0 := by rw [upC_ne (by decide), upC_at]
  unfold Rd
  rw [e1, upC_at]
  refine ⟨rfl, by decide, fun i x0 x1 => ?_⟩
  rw [h83 _ (by omega), hrow _ (by decide) (by decide)]
  exact a4.2.2 i x0 x1
