/-! 24.easy5: house, terms, drawn -/
theorem q_houseM {d : Nat} {l1 l2 : Int} {S : MS} {C : MC} {Q : Qt} (F : Fix S) (hm : 0 ≤ C 83 45 ∧ C 83 45 ≤ 6)
    (h1 : ((1 ≤ l1 ∧ l1 ≤ 8) ∧ 0 ≤ l2 ∧ l2 ≤ 7) → C 83 45 < 6 → Q (C 83 45) S (upC (upC (upC (upC (upC C 83 (25 + C 83 45) l1) 83 (31 + C 83 45) l2) 83 45 (C 83 45 + 1)) 81 42 0) 81 0 0)) (h2 : ¬ ((1 ≤ l1 ∧ l1 ≤ 8) ∧ 0 ≤ l2 ∧ l2 ≤ 7) → Q (-1) S (rfM C (-1))) (h3 : ((1 ≤ l1 ∧ l1 ≤ 8) ∧ 0 ≤ l2 ∧ l2 ≤ 7) → C 83 45 = 6 → Q (-5) S (rfM C (-5))) : K_X11_house_0 (d + 2) 0 0 l1 l2 S C Q := by
  refine b_X11_house_0 F (s_lies F fun r hr => ⟨rfl, fun e => ?_, fun e => s_lies F fun r2 hr2 => ⟨rfl, fun e2 => b_X11_many_0 F ⟨rfl, fun e3 => ?_, fun e3 => ?_⟩, fun e2 => ?_⟩⟩)
  · exact s_refuses F (by unfold okR; omega) ⟨rfl, h2 (by omega)⟩
  · rw [w32_lit (x := 25 + C 83 45) (by omega), w32_lit (x := 31 + C 83 45) (by omega), upC_sK (by omega), upC_sK (by omega), w32_lit (x := C 83 45 + 1) (by omega)]
    exact ⟨by omega, by omega, s_goodAnew F ⟨rfl, h1 (by omega) (by omega)⟩⟩
  · exact s_refuses F (by unfold okR; omega) ⟨rfl, h3 (by omega) e3⟩
  · exact s_refuses F (by unfold okR; omega) ⟨rfl, h2 (by omega)⟩
theorem q_house {d : Nat} {l1 l2 : Int} {S : MS} {C : MC} {P : Int → Int → MC → Prop} (I : Inv S C) (k : ∀ r C', Inv S C' → P r r C') : K_X10_house_0 (d + 2) 0 0 l1 l2 S C (fun r Sq C2 => Sq = S ∧ K_X11_house_0 (d + 2) 0 0 l1 l2 S C2 (fun r2 Sq C3 => Sq = S ∧ P r r2 C3)) := by
  have F := I.1
  obtain ⟨a1, a2, a3, a4, a5, a6⟩ := I.2.1
  obtain ⟨d1, d2, d3⟩ := a1
  have bad1 : ¬ ((1 ≤ l1 ∧ l1 ≤ 8) ∧ 0 ≤ l2 ∧ l2 ≤ 7) → K_X10_refuse_0 (d + 1) 0 0 (-1) S C (fun r Sq C2 => Sq = S ∧ Sq = S ∧ K_X11_house_0 (d + 2) 0 0 l1 l2 S C2 (fun r2 Sq C3 => Sq = S ∧ P r r2 C3)) := by
    intro hl
    refine s_refuse F (by unfold okR; omega) ⟨rfl, rfl, ?_⟩
    exact q_houseM F (by rw [rf83 83 (by decide) (by decide)]; exact d2) (fun h => absurd h hl) (fun _ => ⟨rfl, k _ _ (Inv_refuse (by unfold okR; omega) I)⟩) (fun h => absurd h hl)
  refine b_X10_house_0 F ⟨fun h1 => (bad1 (by omega)).mono (fun x S' C' h => ⟨h.1, h.1 ▸ h.2⟩), fun h1 => ⟨fun h2 => (bad1 (by omega)).mono (fun x S' C' h => ⟨h.1, h.1 ▸ h.2⟩), fun h2 => ⟨fun h3 => (bad1 (by omega)).mono (fun x S' C' h => ⟨h.1, h.1 ▸ h.2⟩), fun h3 => ⟨fun h4 => ⟨fun h5 => ⟨by omega, by omega, ?_⟩, fun h5 => ?_⟩, fun h4 => (bad1 (by omega)).mono (fun x S' C' h => ⟨h.1, h.1 ▸ h.2⟩)⟩⟩⟩⟩
  · refine b_X0_clear_0 F ⟨rfl, b_X10_accept_0 F ⟨rfl, rfl, ?_⟩⟩
    rw [upC_ne (by decide), upC_at, w32_lit (x := C 1 0 + 1) (by omega), w32_lit (x := C 1 0 + 1 - 1) (by omega)]
    have hr : ∀ j, upC (upC (upC (upC (upC C 2 (C 1 0) l1) 3 (C 1 0) l2) 1 0 (C 1 0 + 1)) 55 3 0) 0 16 0 83 j = C 83 j := fun j => by rw [upC_ne (by decide), upC_ne (by decide), upC_ne (by decide), upC_ne (by decide), upC_ne (by decide)]
    refine q_houseM F (by rw [hr]; exact d2) (fun _ _ => ⟨rfl, ?_⟩) (fun h => by omega) (fun _ h => by rw [hr] at h; omega)
    rw [hr 45, ← d1, show C 1 0 + 1 - 1 = C 1 0 by omega]
    refine k _ _ ?_
    have hf : Fp (fun a k => (a = 2 ∧ k = C 1 0) ∨ (a = 3 ∧ k = C 1 0) ∨ (a = 1 ∧ k = 0) ∨ (a = 55 ∧ k = 3) ∨ (a = 0 ∧ k = 16) ∨ (a = 83 ∧ (k = 25 + C 1 0 ∨ k = 31 + C 1 0 ∨ k = 45)) ∨ (a = 81 ∧ (k = 0 ∨ k = 42))) C (upC (upC (upC (upC (upC (upC (upC (upC (upC (upC C 2 (C 1 0) l1) 3 (C 1 0) l2) 1 0 (C 1 0 + 1)) 55 3 0) 0 16 0) 83 (25 + C 1 0) l1) 83 (31 + C 1 0) l2) 83 45 (C 1 0 + 1)) 81 42 0) 81 0 0) := Fp_up (by omega) (Fp_up (by omega) (Fp_up (by omega) (Fp_up (by omega) (Fp_up (by omega) (Fp_up (by omega) (Fp_up (by omega) (Fp_up (by omega) (Fp_up (by omega) (Fp_up (by omega) Fp_rf)))))))))
    generalize hC' : upC (upC (upC (upC (upC (upC (upC (upC (upC (upC C 2 (C 1 0) l1) 3 (C 1 0) l2) 1 0 (C 1 0 + 1)) 55 3 0) 0 16 0) 83 (25 + C 1 0) l1) 83 (31 + C 1 0) l2) 83 45 (C 1 0 + 1)) 81 42 0) 81 0 0 = C' at hf ⊢
    have q1 : C' 1 0 = C 1 0 + 1 := by rw [← hC']; simp [upC]
    have q2 : C' 83 45 = C 1 0 + 1 := by rw [← hC']; simp [upC]
    have q3 : C' 2 (C 1 0) = l1 := by rw [← hC']; simp [upC]
    have q4 : C' 3 (C 1 0) = l2 := by rw [← hC']; simp [upC]
    have q5 : C' 83 (31 + C 1 0) = l2 := by rw [← hC', upC_ne (by decide), upC_ne (by decide), upC_sK (by omega), upC_at]
    have q6 : C' 83 (25 + C 1 0) = l1 := by rw [← hC', upC_ne (by decide), upC_ne (by decide), upC_sK (by omega), upC_sK (by omega), upC_at]
    have q7 : C' 0 16 = 0 := by rw [← hC']; simp [upC]
    have q8 : C' 81 0 = 0 := by rw [← hC']; simp [upC]
    have q9 : C' 55 3 = 0 := by rw [← hC']; simp [upC]
    have q10 : C' 81 42 = 0 := by rw [← hC']; simp [upC]
    refine Inv_p I hf (by refine ⟨?_, ?_, ?_, ?_, ?_⟩ <;> intros <;> omega) ⟨?_, ?_, Rc_p a3 hf (by refine ⟨?_, ?_⟩ <;> intros <;> omega), Rd_p a4 hf (by refine ⟨?_, ?_, ?_⟩ <;> intros <;> omega), Re_p a5 hf (by refine ⟨?_, ?_, ?_, ?_⟩ <;> intros <;> omega), Rf_p a6 hf (by refine ⟨?_, ?_⟩ <;> intros <;> omega)⟩ (IvR_p I.2.2.2.1 hf q7 q8 (by intros; omega)) (IvT_p I.2.2.2.2.1 hf (by refine ⟨?_, ?_, ?_⟩ <;> intros <;> omega)) (IvX_p I.2.2.2.2.2.1 hf (by refine ⟨?_, ?_, ?_, ?_, ?_, ?_⟩ <;> omega)) (IvU_none q9 q10)
    · unfold Ra
      rw [q1, q2]
      refine ⟨rfl, by omega, fun j x0 x1 => ?_⟩
      show C' 2 j = C' 83 (25 + j) ∧ C' 3 j = C' 83 (31 + j) ∧ _
      by_cases hj : j = C 1 0
      · rw [hj, q3, q4, q5, q6]
        exact ⟨rfl, rfl, fun _ => by omega⟩
      · rw [hf 2 j (by omega), hf 3 j (by omega), hf 83 (25 + j) (by omega), hf 83 (31 + j) (by omega)]
        have z := d3 j x0 x1
        exact ⟨z.1, z.2.1, fun hlt => z.2.2 (by omega)⟩
    · intro j x0 x1
      have z := a2 j x0 x1
      rw [fp_row hf (a := 1 + 3) (by intros; omega), hf 83 j (by omega), q2]
      omega
  · refine s_refuse F (by unfold okR; omega) ⟨rfl, rfl, ?_⟩
    exact q_houseM F (by rw [rf83 83 (by decide) (by decide)]; exact d2) (fun _ h => by rw [rf83 83 (by decide) (by decide)] at h; omega) (fun h => by omega) (fun _ _ => ⟨rfl, k _ _ (Inv_refuse (by unfold okR; omega) I)⟩)
theorem q_drawn {d : Nat} {l1 l2 : Int} {S : MS} {C : MC} {P : Int → Int → MC → Prop} (I : Inv S C) (k : ∀ r, P r r C) : K_X10_drawn_0 (d + 1) 0 0 l1 l2 S C (fun r Sq C2 => Sq = S ∧ K_X11_drawn_0 (d + 1) 0 0 l1 l2 S C2 (fun r2 Sq C3 => Sq = S ∧ P r r2 C3)) := by
  have F := I.1
  obtain ⟨e1, e2, e3⟩ := I.2.2.2.2.2.2.2.1
  have none : ¬ (C 0 14 = 1 ∧ ((l2 = 0 ∧ 0 ≤ l1 ∧ l1 < 16) ∨ (l2 = 1 ∧ 0 ≤ l1 ∧ l1 < 8))) → K_X11_drawn_0 (d + 1) 0 0 l1 l2 S C (fun r2 Sq C3 => Sq = S ∧ P (-1) r2 C3) := by
    intro hn
    refine b_X11_drawn_0 F ⟨fun _ => ⟨rfl, k _⟩, fun h0 => s_lies F fun r hr => ⟨rfl, fun _ => ⟨rfl, k _⟩, fun h1 => ⟨fun h2 => s_lies F fun r2 hr2 => ⟨rfl, fun h3 => by omega, fun _ => ⟨rfl, k _⟩⟩, fun h2 => s_lies F fun r2 hr2 => ⟨rfl, fun h3 => by omega, fun _ => ⟨rfl, k _⟩⟩⟩⟩⟩
  refine b_X10_drawn_0 F ⟨fun h0 => ⟨fun h1 => ⟨fun h2 => ⟨rfl, none (by omega)⟩, fun h2 => s_isKeyC F fun r hr => ⟨rfl, fun h3 => ⟨rfl, none (by omega)⟩, fun h3 => ⟨by omega, rfl, ?_⟩⟩⟩, fun h1 => s_isBeatC F fun r hr => ⟨rfl, fun h3 => ⟨fun h4 => ⟨rfl, none (by omega)⟩, fun h4 => by omega⟩, fun h3 => ⟨by omega, rfl, ?_⟩⟩⟩, fun h0 => ⟨rfl, none (by omega)⟩⟩
  · rw [(e3 (by omega)).1 l1 (by omega) (by omega)]
    refine b_X11_drawn_0 F ⟨fun z => by omega, fun _ => s_lies F fun r hr => ⟨rfl, fun z => by omega, fun _ => ⟨fun _ => s_lies F fun r2 hr2 => ⟨rfl, fun _ => ⟨fun _ => ?_, fun z => by omega⟩, fun z => by omega⟩, fun z => by omega⟩⟩⟩
    rw [w32_lit (by omega), Int.zero_add]
    exact ⟨by omega, rfl, k _⟩
  · rw [(e3 (by omega)).2 l1 (by omega) (by omega)]
    refine b_X11_drawn_0 F ⟨fun z => by omega, fun _ => s_lies F fun r hr => ⟨rfl, fun z => by omega, fun _ => ⟨fun z => by omega, fun _ => s_lies F fun r2 hr2 => ⟨rfl, fun _ => ⟨fun z => by omega, fun _ => ?_⟩, fun z => by omega⟩⟩⟩⟩
    rw [w32_lit (by omega)]
    exact ⟨by omega, rfl, k _⟩
