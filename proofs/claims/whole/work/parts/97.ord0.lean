/-! 97.ord0: orders, around the runs -/
theorem s_laysAside1 {d mc ms : Nat} {S : MS} {C : MC} {Q : Qt} (F : Fix S) (h : ∀ C', Fp (fun a _ => a = 86) C C' → (∀ i : Nat, i < 25 → C' 86 (25 + (i : Int)) = C 83 (i : Int)) → Q 0 S C') : K_X11_laysAside_0 d mc ms 1 S C Q := by
  refine b_X11_laysAside_0 F ?_
  refine up_ind (P := fun k C' => Fp (fun a _ => a = 86) C C' ∧ ∀ i : Nat, i < k → C' 86 (25 + (i : Int)) = C 83 (i : Int)) (K := fun k C' => K_X11_laysAside_2 d mc ms 1 (k : Int) S C' Q) 25 (fun C1 c => ?_) (fun m C1 hm c ih => ?_) 0 (by omega) C ⟨Fp_rf, fun i hi => by omega⟩
  · exact b_X11_laysAside_2 F ⟨fun _ => h C1 c.1 c.2, fun z => by omega⟩
  · obtain ⟨c1, c2⟩ := c
    refine b_X11_laysAside_2 F ⟨fun z => by omega, fun _ => ?_⟩
    have e0 : w32 (25 * 1) = 25 := by decide +kernel
    rw [e0, w32_lit (x := 25 + (m : Int)) (by omega), w32_lit (x := (m : Int) + 1) (by omega)]
    refine ⟨by omega, by omega, ih _ ⟨Fp_up rfl c1, fun i hi => ?_⟩⟩
    by_cases e : i = m
    · subst e; rw [upC_at]; exact c1 83 _ (fun q : (83 : Int) = 86 => absurd q (by decide))
    · rw [upC_sK (by omega)]; exact c2 i (by omega)
theorem s_takesBack1 {d mc ms : Nat} {S : MS} {C : MC} {Q : Qt} (F : Fix S) (h : ∀ C', Fp (fun a k => a = 83 ∧ 0 ≤ k ∧ k < 25) C C' → (∀ i : Nat, i < 25 → C' 83 (i : Int) = C 86 (25 + (i : Int))) → Q 0 S C') : K_X11_takesBack_0 d mc ms 1 S C Q := by
  refine b_X11_takesBack_0 F ?_
  refine up_ind (P := fun k C' => Fp (fun a k => a = 83 ∧ 0 ≤ k ∧ k < 25) C C' ∧ ∀ i : Nat, i < k → C' 83 (i : Int) = C 86 (25 + (i : Int))) (K := fun k C' => K_X11_takesBack_2 d mc ms 1 (k : Int) S C' Q) 25 (fun C1 c => ?_) (fun m C1 hm c ih => ?_) 0 (by omega) C ⟨Fp_rf, fun i hi => by omega⟩
  · exact b_X11_takesBack_2 F ⟨fun _ => h C1 c.1 c.2, fun z => by omega⟩
  · obtain ⟨c1, c2⟩ := c
    refine b_X11_takesBack_2 F ⟨fun z => by omega, fun _ => ?_⟩
    have e0 : w32 (25 * 1) = 25 := by decide +kernel
    rw [e0, w32_lit (x := 25 + (m : Int)) (by omega), w32_lit (x := (m : Int) + 1) (by omega)]
    refine ⟨by omega, by omega, ih _ ⟨Fp_up (by omega) c1, fun i hi => ?_⟩⟩
    by_cases e : i = m
    · subst e; rw [upC_at]; exact c1 86 _ (by omega)
    · rw [upC_sK (by omega)]; exact c2 i (by omega)
theorem s_o27 {d : Nat} {S : MS} {C : MC} {Q : Qt} (F : Fix S) (h : ∀ C', Fp (fun a _ => a = 105) C C' → (∀ i : Nat, i < 416 → C' 105 (i : Int) = C 104 (i : Int)) → K_X11_lays_0 d 0 0 6 S C' (fun _ Sq C2 => Sq = S ∧ K_X11_orders_95 (d + 1) 0 0 (C' 81 42) (w32 (2400 + (C2 83 55))) 0 S (upC (upC (upC C2 81 27 0) 81 28 (-1)) 81 44 2400) Q)) : K_X11_orders_27 (d + 1) 0 0 0 S C Q := by
  refine up_ind (P := fun k C' => Fp (fun a _ => a = 105) C C' ∧ ∀ i : Nat, i < k → C' 105 (i : Int) = C 104 (i : Int)) (K := fun k C' => K_X11_orders_27 (d + 1) 0 0 (k : Int) S C' Q) 416 (fun C1 c => ?_) (fun m C1 hm c ih => ?_) 0 (by omega) C ⟨Fp_rf, fun i hi => by omega⟩
  · exact b_X11_orders_27 F ⟨fun _ => h C1 c.1 c.2, fun z => by omega⟩
  · obtain ⟨c1, c2⟩ := c
    refine b_X11_orders_27 F ⟨fun z => by omega, fun _ => ?_⟩
    rw [w32_lit (x := (m : Int) + 1) (by omega)]
    refine ⟨by omega, by omega, ih _ ⟨Fp_up rfl c1, fun i hi => ?_⟩⟩
    by_cases e : i = m
    · subst e; rw [upC_at]; exact c1 104 _ (fun q : (104 : Int) = 105 => absurd q (by decide))
    · rw [upC_sK (by omega)]; exact c2 i (by omega)
theorem s_o122 {d : Nat} {l1 l3 : Int} {S : MS} {C : MC} {Q : Qt} (F : Fix S) (h : ∀ C', Fp (fun a _ => a = 104) C C' → (∀ i : Nat, i < 416 → C' 104 (i : Int) = C 105 (i : Int)) → Q (-3) S (rfM (upC (upC C' 81 42 l1) 81 43 l3) (-3))) : K_X11_orders_122 (d + 1) 0 0 l1 l3 0 S C Q := by
  refine up_ind (P := fun k C' => Fp (fun a _ => a = 104) C C' ∧ ∀ i : Nat, i < k → C' 104 (i : Int) = C 105 (i : Int)) (K := fun k C' => K_X11_orders_122 (d + 1) 0 0 l1 l3 (k : Int) S C' Q) 416 (fun C1 c => ?_) (fun m C1 hm c ih => ?_) 0 (by omega) C ⟨Fp_rf, fun i hi => by omega⟩
  · exact b_X11_orders_122 F ⟨fun _ => s_refuses F (by unfold okR; omega) ⟨rfl, h C1 c.1 c.2⟩, fun z => by omega⟩
  · obtain ⟨c1, c2⟩ := c
    refine b_X11_orders_122 F ⟨fun z => by omega, fun _ => ?_⟩
    rw [w32_lit (x := (m : Int) + 1) (by omega)]
    refine ⟨by omega, by omega, ih _ ⟨Fp_up rfl c1, fun i hi => ?_⟩⟩
    by_cases e : i = m
    · subst e; rw [upC_at]; exact c1 105 _ (fun q : (105 : Int) = 104 => absurd q (by decide))
    · rw [upC_sK (by omega)]; exact c2 i (by omega)
theorem HsM_cel {C C' : MC} {kd kd' : Int → Int} {n : Nat} {W : Nat → Int → Int} (h : HsM C kd n W) (e1 : ∀ i : Nat, i < 25 → C' 83 i = C 83 i) (e2 : C' 81 42 = C 81 42) (e3 : ∀ k : Nat, k < 416 → C' 104 k = C 104 k) (e4 : ∀ j : Nat, kd' j = kd j) : HsM C' kd' n W := by
  obtain ⟨h1, h2, h3⟩ := h
  refine ⟨fun i x0 x1 => ?_, e2.trans h2, fun i hi => ?_⟩
  · have := e1 i.toNat (by omega)
    rw [Int.toNat_of_nonneg x0] at this
    rw [this]; exact h1 i x0 x1
  · clear h2 e2
    obtain ⟨g1, g2⟩ := h3 i hi
    refine ⟨fun q x0 x1 => ?_, ?_⟩
    · have := e3 (26 * i + q.toNat) (by omega)
      rw [show ((26 * i + q.toNat : Nat) : Int) = 26 * (i : Int) + q by omega] at this
      rw [this]; exact g1 q x0 x1
    · have := e3 (26 * i + 25) (by omega)
      rw [show ((26 * i + 25 : Nat) : Int) = 26 * (i : Int) + 25 by omega] at this
      rw [this, e4]; exact g2
def mox (a k : Int) : Prop := mrn a k ∨ a = 86 ∨ a = 105 ∨ lyx 6 a k ∨ (a = 81 ∧ k = 0)
def moy (a k : Int) : Prop := mox a k ∨ (a = 81 ∧ k = 43)
theorem nlyx {k : Int} (h : k < 55 ∨ (56 ≤ k ∧ k < 2456) ∨ (2856 ≤ k ∧ k < 5256)) : ¬ lyx 6 83 k := by unfold lyx; omega
theorem nlya {a k : Int} (h : a ≠ 83) : ¬ lyx 6 a k := fun q => h q.1
theorem m_ord {d nn n0 : Nat} {τ : Tks} {cb : List (Cla × Bool)} {kd0 : Nat → Int} {W0 : Nat → Int → Int} {S : MS} {E : MC} {Q : Qt} (hAM : AskMod) (F : Fix S) (hK : KOk (E 83)) (h45 : E 83 45 = nn) (hl : τ.length ≤ 400) (T : MTok τ E) (hp : Prs τ cb 0) (hcb : ∀ c, c ∈ cb → (0 ≤ c.1.1.1 ∧ c.1.1.1 ≤ 3) ∧ (1 ≤ c.1.1.2 ∧ c.1.1.2 ≤ 20)) (h12 : cb.length ≤ 12) (hn0 : n0 ≤ 16) (hM : HsM E (fun j => kd0 j.toNat) n0 W0) (hw : UOk nn (W0 n0))
    (kOk : ∀ y G, alF (nn : Int) (E 83) nn n0 cb 0 (n0, W0, kd0, -1) = .inr y → Fp mox E G → HsM G (fun j => y.2.2.1 j.toNat) y.1 y.2.1 → G 81 0 = 0 → Q ((y.1 - n0 : Nat) : Int) S G)
    (kFl : ∀ (j : Nat) G, alF (nn : Int) (E 83) nn n0 cb 0 (n0, W0, kd0, -1) = .inl j → Fp moy E G → HsM G (fun j => kd0 j.toNat) n0 W0 → G 81 43 = j → Q (-3) S (rfM G (-3))) : K_X11_laysAside_0 (d + 107) 0 0 1 S E (fun _ Sq C4 => Sq = S ∧ K_X11_orders_27 (d + 108) 0 0 0 S C4 Q) := by
  have hlen : 0 + cb.length ≤ 100 := by clear h45 T; omega
  have hx0 : n0 + 20 * cb.length ≤ 256 := by clear h45 T; omega
  have l24 : w32 (2400 + (τ.length : Int)) = 2400 + (τ.length : Int) := w32_lit (by clear h45 T; omega)
  have e55 : (49 : Int) + ((6 : Nat) : Int) = 55 := by decide
  have e56 : ∀ j : Nat, (56 : Int) + 400 * ((6 : Nat) : Int) + (j : Int) = 2456 + (j : Int) := fun j => by clear h45 T l24; omega
  have e28 : ∀ j : Nat, (2856 : Int) + 400 * ((6 : Nat) : Int) + (j : Int) = 5256 + (j : Int) := fun j => by clear h45 T l24; omega
  have kt : ∀ i, ktI i → ¬ lyx 6 83 i := fun i hi => nlyx (by unfold ktI at hi; clear h45 T l24; omega)
  have lo25 : ∀ i : Nat, i < 25 → (i : Int) < 55 ∧ 0 ≤ (i : Int) ∧ (i : Int) < 25 := fun i hi => by clear h45 T l24; omega
  refine s_laysAside1 F (fun E1 f1 g1 => ⟨rfl, s_o27 (d := d + 107) F (fun E2 f2 g2 => ?_)⟩)
  have T2 : MTok τ E2 := by
    unfold MTok
    rw [fp_row (a := 81) f2 (fun k => by decide), fp_row (a := 90) f2 (fun k => by decide), fp_row (a := 91) f2 (fun k => by decide), fp_row (a := 81) f1 (fun k => by decide), fp_row (a := 90) f1 (fun k => by decide), fp_row (a := 91) f1 (fun k => by decide)]
    exact T
  have r12 : ∀ a, a ≠ 86 → a ≠ 105 → E2 a = E a := fun a h1 h2 => by rw [fp_row (a := a) f2 (fun k => h2), fp_row (a := a) f1 (fun k => h1)]
  have key : K_X11_lays_0 (d + 107) 0 0 ((6 : Nat) : Int) S E2 (fun _ Sq C2 => Sq = S ∧ K_X11_orders_95 (d + 108) 0 0 (E2 81 42) (w32 (2400 + (C2 83 55))) 0 S (upC (upC (upC C2 81 27 0) 81 28 (-1)) 81 44 2400) Q) := by
    refine m_lays F (by decide) hl T2 (fun E3 ly => ⟨rfl, ?_⟩)
    obtain ⟨y1, y2, y3⟩ := ly
    rw [e55] at y2
    rw [y2, l24]
    generalize hC0 : upC (upC (upC E3 81 27 0) 81 28 (-1)) 81 44 2400 = C0
    have c0a : ∀ a, a ≠ 81 → C0 a = E3 a := fun a ha => by rw [← hC0, upC_ne ha, upC_ne ha, upC_ne ha]
    have c0k : ∀ k, k ≠ 27 → k ≠ 28 → k ≠ 44 → C0 81 k = E3 81 k := fun k h1 h2 h3 => by rw [← hC0, upC_sK h3, upC_sK h2, upC_sK h1]
    have f3 : Fp mox E C0 := by
      rw [← hC0]
      refine Fp_up (Or.inl (by unfold mrn; decide)) (Fp_up (Or.inl (by unfold mrn; decide)) (Fp_up (Or.inl (by unfold mrn; decide)) ?_))
      exact Fp_tr (Fp_mono f1 (fun a k q => Or.inr (Or.inl q))) (Fp_tr (Fp_mono f2 (fun a k q => Or.inr (Or.inr (Or.inl q)))) (Fp_mono y1 (fun a k q => Or.inr (Or.inr (Or.inr (Or.inl q))))))
    have k83 : ∀ i, ktI i → C0 83 i = E 83 i := fun i hi => by rw [c0a 83 (by decide), y1 83 i (kt i hi), r12 83 (by decide) (by decide)]
    have r104 : C0 104 = E 104 := by rw [c0a 104 (by decide), fp_row (a := 104) y1 (fun k => nlya (by decide)), r12 104 (by decide) (by decide)]
    have r86 : C0 86 = E1 86 := by rw [c0a 86 (by decide), fp_row (a := 86) y1 (fun k => nlya (by decide)), fp_row (a := 86) f2 (fun k => by decide)]
    have r105 : C0 105 = E2 105 := by rw [c0a 105 (by decide), fp_row (a := 105) y1 (fun k => nlya (by decide))]
    have r42 : C0 81 42 = E 81 42 := by rw [c0k 42 (by decide) (by decide) (by decide), y1 81 42 (nlya (by decide)), r12 81 (by decide) (by decide)]
    have ME : MEnv C0 (E 83) nn τ := ⟨hK, h45, fun i hi _ => k83 i hi, hl, fun j hj => by
      obtain ⟨u1, u2⟩ := y3 j hj
      rw [e56] at u1
      rw [e28] at u2
      rw [c0a 83 (by decide)]
      exact ⟨u1, u2⟩⟩
    have mr0 : MRun C0 nn n0 (n0, W0, kd0, -1) C0 := by
      refine ⟨Fp_rf, HsM_cel hM (fun i hi => k83 _ (Or.inl ?_)) r42 (fun k _ => by rw [r104]) (fun _ => rfl), ?_, ?_, Nat.le_refl _, hw, (by unfold Bd; decide : Bd (-1))⟩
      · have := lo25 i hi
        exact ⟨this.2.1, this.1⟩
      · show C0 81 27 = ((n0 - n0 : Nat) : Int)
        rw [← hC0, upC_sK (by decide), upC_sK (by decide), upC_at, Nat.sub_self]
        rfl
      · rw [← hC0, upC_sK (by decide), upC_at]
    have h44 : C0 81 44 = 2400 + ((0 : Nat) : Int) := by rw [← hC0, upC_at]; rfl
    have res := m_95 (d := d) (n0 := n0) (l1 := E2 81 42) (Q := Q) hAM F ME cb 0 0 (n0, W0, kd0, -1) C0 hp hcb hlen hx0 mr0 h44 (fun y C' ey mr => ?_) (fun j C' ey fC => ?_)
    · exact res
    · obtain ⟨a, b, c, e, g, _⟩ := mr
      rw [c]
      exact kOk y _ ey (Fp_up (Or.inr (Or.inr (Or.inr (Or.inr ⟨rfl, rfl⟩)))) (Fp_tr f3 (Fp_mono a (fun a k q => Or.inl q)))) (HsM_row b (upC_ne (by decide)) (upC_sK (by decide)) (upC_ne (by decide))) (upC_at _ _ _ _)
    · refine s_takesBack1 F (fun C6 f6 g6 => ⟨rfl, s_o122 (d := d + 107) F (fun C7 f7 g7 => ?_)⟩)
      have e42 : E2 81 42 = E 81 42 := by rw [r12 81 (by decide) (by decide)]
      rw [e42]
      refine kFl j _ ey ?_ (HsM_cel hM (fun i hi => ?_) ?_ (fun k hk => ?_) (fun _ => rfl)) (upC_at _ _ _ _)
      · refine Fp_up (Or.inr ⟨rfl, rfl⟩) (Fp_up (Or.inl (Or.inl (by unfold mrn; decide))) ?_)
        refine Fp_tr (Fp_mono f3 (fun a k q => Or.inl q)) (Fp_tr (Fp_mono fC (fun a k q => Or.inl (Or.inl q))) (Fp_tr (Fp_mono f6 (fun a k q => Or.inl (Or.inl (Or.inr (Or.inr (Or.inl q)))))) (Fp_mono f7 (fun a k q => Or.inl (Or.inl (Or.inl q))))))
      · rw [upC_ne (by decide), upC_ne (by decide), fp_row (a := 83) f7 (fun k => by decide), g6 i hi, fC 86 _ (by unfold mrn; clear h45 T l24 r42 h44 y2; omega), r86]
        exact g1 i hi
      · rw [upC_sK (by decide), upC_at]
      · rw [upC_ne (by decide), upC_ne (by decide), g7 k hk, f6 105 _ (fun q => absurd q.1 (by decide)), fC 105 _ (by unfold mrn; clear h45 T l24 r42 h44 y2; omega), r105, g2 k hk, fp_row (a := 104) f1 (fun k => by decide)]
  exact key
