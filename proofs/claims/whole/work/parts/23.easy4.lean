/-! 23.easy4: motif, house, terms -/
theorem s_goodAnew {d mc ms : Nat} {x : Int} {S : MS} {C : MC} {Q : Qt} (F : Fix S) (h : Q x S (upC (upC C 81 42 0) 81 0 0)) : K_X11_goodAnew_0 (d + 1) mc ms x S C Q :=
  b_X11_goodAnew_0 F (b_X11_good_0 F ⟨rfl, h⟩)
theorem rf83 {C : MC} {x : Int} (a : Int) (ha : 81 < a) (h2 : a ≠ 82) : rfC C x a = C a := by unfold rfC; rw [upC_ne (by omega), upC_ne (by omega)]
theorem q_motifM {d : Nat} {l : Int} {S : MS} {C : MC} {Q : Qt} (F : Fix S) (hm : 0 ≤ C 83 46 ∧ C 83 46 ≤ 6)
    (h1 : (0 ≤ l ∧ l ≤ 255) → C 83 46 < 6 → Q (C 83 46 + 1) S (upC (upC (upC C 83 (37 + C 83 46) l) 83 46 (C 83 46 + 1)) 81 0 0)) (h2 : ¬ (0 ≤ l ∧ l ≤ 255) → Q (-1) S (rfM C (-1))) (h3 : (0 ≤ l ∧ l ≤ 255) → C 83 46 = 6 → Q (-5) S (rfM C (-5))) : K_X11_motif_0 (d + 1) 0 0 l S C Q := by
  refine b_X11_motif_0 F (s_lies F fun r hr => ⟨rfl, fun e => ⟨fun e2 => ?_, fun e2 => ?_⟩, fun e => ?_⟩)
  · rw [w32_lit (x := 37 + C 83 46) (by omega), w32_lit (x := C 83 46 + 1) (by omega), upC_sK (by omega), w32_lit (x := C 83 46 + 1) (by omega)]
    exact ⟨by omega, b_X11_good_0 F ⟨rfl, h1 (by omega) (by omega)⟩⟩
  · exact s_refuses F (by unfold okR; omega) ⟨rfl, h3 (by omega) e2⟩
  · exact s_refuses F (by unfold okR; omega) ⟨rfl, h2 (by omega)⟩
theorem q_motif {d : Nat} {l : Int} {S : MS} {C : MC} {P : Int → Int → MC → Prop} (I : Inv S C) (k : ∀ r C', Inv S C' → P r r C') : K_X10_motif_0 (d + 1) 0 0 l S C (fun r Sq C2 => Sq = S ∧ K_X11_motif_0 (d + 1) 0 0 l S C2 (fun r2 Sq C3 => Sq = S ∧ P r r2 C3)) := by
  have F := I.1
  obtain ⟨a1, a2, a3, a4, a5, a6⟩ := I.2.1
  obtain ⟨d1, d2, d3⟩ := a4
  have bad1 : ¬ (0 ≤ l ∧ l ≤ 255) → K_X11_motif_0 (d + 1) 0 0 l S (rfC C (-1)) (fun r2 Sq C3 => Sq = S ∧ P (-1) r2 C3) := by
    intro hl
    refine q_motifM F (by rw [rf83 83 (by decide) (by decide)]; exact d2) (fun h => absurd h hl) (fun _ => ⟨rfl, k _ _ (Inv_refuse (by unfold okR; omega) I)⟩) (fun h => absurd h hl)
  refine b_X10_motif_0 F ⟨fun h1 => s_refuse F (by unfold okR; omega) ⟨rfl, rfl, bad1 (by omega)⟩, fun h1 => ⟨fun h2 => ⟨fun h3 => ?_, fun h3 => ?_⟩, fun h2 => s_refuse F (by unfold okR; omega) ⟨rfl, rfl, bad1 (by omega)⟩⟩⟩
  · refine ⟨by omega, b_X10_accept_0 F ⟨rfl, rfl, ?_⟩⟩
    rw [w32_lit (x := C 1 6 + 1) (by omega)]
    have hr : ∀ j, upC (upC (upC C 6 (C 1 6) l) 1 6 (C 1 6 + 1)) 0 16 0 83 j = C 83 j := fun j => by rw [upC_ne (by decide), upC_ne (by decide), upC_ne (by decide)]
    refine q_motifM F (by rw [hr]; exact d2) (fun _ _ => ⟨rfl, ?_⟩) (fun h => by omega) (fun _ h => by rw [hr] at h; omega)
    rw [hr 46, ← d1]
    refine k _ _ ?_
    have hf : Fp (fun a k => (a = 6 ∧ k = C 1 6) ∨ (a = 1 ∧ k = 6) ∨ (a = 0 ∧ k = 16) ∨ (a = 83 ∧ (k = 37 + C 1 6 ∨ k = 46)) ∨ (a = 81 ∧ k = 0)) C (upC (upC (upC (upC (upC (upC C 6 (C 1 6) l) 1 6 (C 1 6 + 1)) 0 16 0) 83 (37 + C 1 6) l) 83 46 (C 1 6 + 1)) 81 0 0) := Fp_up (by omega) (Fp_up (by omega) (Fp_up (by omega) (Fp_up (by omega) (Fp_up (by omega) (Fp_up (by omega) Fp_rf)))))
    refine Inv_p I hf (by refine ⟨?_, ?_, ?_, ?_, ?_⟩ <;> intros <;> omega) ⟨Ra_p a1 hf (by refine ⟨?_, ?_, ?_, ?_⟩ <;> intros <;> omega), Rb_p a2 hf (by refine ⟨?_, ?_⟩ <;> intros <;> omega), Rc_p a3 hf (by refine ⟨?_, ?_⟩ <;> intros <;> omega), ?_, Re_p a5 hf (by refine ⟨?_, ?_, ?_, ?_⟩ <;> intros <;> omega), Rf_p a6 hf (by refine ⟨?_, ?_⟩ <;> intros <;> omega)⟩ (IvR_p I.2.2.2.1 hf (by simp [upC]) (by simp [upC]) (by intros; omega)) (IvT_p I.2.2.2.2.1 hf (by refine ⟨?_, ?_, ?_⟩ <;> intros <;> omega)) (IvX_p I.2.2.2.2.2.1 hf (by refine ⟨?_, ?_, ?_, ?_, ?_, ?_⟩ <;> omega)) (IvU_p I.2.2.2.2.2.2.1 hf (by refine ⟨?_, ?_, ?_, ?_⟩ <;> intros <;> omega))
    generalize hC' : upC (upC (upC (upC (upC (upC C 6 (C 1 6) l) 1 6 (C 1 6 + 1)) 0 16 0) 83 (37 + C 1 6) l) 83 46 (C 1 6 + 1)) 81 0 0 = C' at hf
    have q1 : C' 1 6 = C 1 6 + 1 := by rw [← hC']; simp [upC]
    have q2 : C' 83 46 = C 1 6 + 1 := by rw [← hC']; simp [upC]
    have q3 : C' 6 (C 1 6) = l := by rw [← hC']; simp [upC]
    have q4 : C' 83 (37 + C 1 6) = l := by
      rw [← hC', upC_ne (by decide), upC_sK (by omega), upC_at]
    unfold Rd
    rw [q1, q2]
    refine ⟨rfl, by omega, fun i x0 x1 => ?_⟩
    show C' 6 i = C' 83 (37 + i) ∧ _
    by_cases hi : i = C 1 6
    · rw [hi, q3, q4]; omega
    · rw [hf 6 i (by omega), hf 83 (37 + i) (by omega)]
      exact d3 i x0 x1
  · refine s_refuse F (by unfold okR; omega) ⟨rfl, rfl, ?_⟩
    refine q_motifM F (by rw [rf83 83 (by decide) (by decide)]; exact d2) (fun _ h => by rw [rf83 83 (by decide) (by decide)] at h; omega) (fun h => by omega) (fun _ _ => ⟨rfl, k _ _ (Inv_refuse (by unfold okR; omega) I)⟩)
