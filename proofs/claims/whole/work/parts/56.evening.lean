/-! 56.evening: evenings, both -/
theorem s_laysAside {d mc ms : Nat} {S : MS} {C : MC} {Q : Qt} (F : Fix S) (h : ∀ C', Fp (fun a k => a = 86 ∧ 0 ≤ k ∧ k < 25) C C' → (∀ i : Nat, i < 25 → C' 86 (i : Int) = C 83 (i : Int)) → Q 0 S C') : K_X11_laysAside_0 d mc ms 0 S C Q := by
  refine b_X11_laysAside_0 F ?_
  refine up_ind (P := fun k C' => Fp (fun a k => a = 86 ∧ 0 ≤ k ∧ k < 25) C C' ∧ ∀ i : Nat, i < k → C' 86 (i : Int) = C 83 (i : Int)) (K := fun k C' => K_X11_laysAside_2 d mc ms 0 (k : Int) S C' Q) 25 (fun C1 c => ?_) (fun m C1 hm c ih => ?_) 0 (by omega) C ⟨Fp_rf, fun i hi => by omega⟩
  · exact b_X11_laysAside_2 F ⟨fun _ => h C1 c.1 c.2, fun z => by omega⟩
  · obtain ⟨c1, c2⟩ := c
    refine b_X11_laysAside_2 F ⟨fun z => by omega, fun _ => ?_⟩
    have e0 : w32 (25 * 0) = 0 := by decide +kernel
    rw [e0, Int.zero_add, w32_lit (x := (m : Int)) (by omega), w32_lit (x := (m : Int) + 1) (by omega)]
    refine ⟨by omega, by omega, ih _ ⟨Fp_up (by omega) c1, fun i hi => ?_⟩⟩
    by_cases e : i = m
    · subst e; rw [upC_at]; exact c1 83 _ (by omega)
    · rw [upC_sK (by omega)]; exact c2 i (by omega)
theorem s_takesBack {d mc ms : Nat} {S : MS} {C : MC} {Q : Qt} (F : Fix S) (h : ∀ C', Fp (fun a k => a = 83 ∧ 0 ≤ k ∧ k < 25) C C' → (∀ i : Nat, i < 25 → C' 83 (i : Int) = C 86 (i : Int)) → Q 0 S C') : K_X11_takesBack_0 d mc ms 0 S C Q := by
  refine b_X11_takesBack_0 F ?_
  refine up_ind (P := fun k C' => Fp (fun a k => a = 83 ∧ 0 ≤ k ∧ k < 25) C C' ∧ ∀ i : Nat, i < k → C' 83 (i : Int) = C 86 (i : Int)) (K := fun k C' => K_X11_takesBack_2 d mc ms 0 (k : Int) S C' Q) 25 (fun C1 c => ?_) (fun m C1 hm c ih => ?_) 0 (by omega) C ⟨Fp_rf, fun i hi => by omega⟩
  · exact b_X11_takesBack_2 F ⟨fun _ => h C1 c.1 c.2, fun z => by omega⟩
  · obtain ⟨c1, c2⟩ := c
    refine b_X11_takesBack_2 F ⟨fun z => by omega, fun _ => ?_⟩
    have e0 : w32 (25 * 0) = 0 := by decide +kernel
    rw [e0, Int.zero_add, w32_lit (x := (m : Int)) (by omega), w32_lit (x := (m : Int) + 1) (by omega)]
    refine ⟨by omega, by omega, ih _ ⟨Fp_up (by omega) c1, fun i hi => ?_⟩⟩
    by_cases e : i = m
    · subst e; rw [upC_at]; exact c1 86 _ (by omega)
    · rw [upC_sK (by omega)]; exact c2 i (by omega)
theorem s_even120 {d : Nat} {l3 : Int} {S : MS} {C : MC} {Q : Qt} (F : Fix S) (h : ∀ C', Fp (fun a k => (a = 107 ∨ a = 83) ∧ 0 ≤ k ∧ k < 25) C C' → (∀ i : Nat, i < 25 → C' 107 (i : Int) = C 83 (i : Int) ∧ C' 83 (i : Int) = C 86 (i : Int)) → Q l3 S (upC C' 81 0 0)) : K_X11_evenings_120 (d + 1) 0 0 l3 0 S C Q := by
  refine up_ind (P := fun k C' => Fp (fun a k => a = 107 ∧ 0 ≤ k ∧ k < 25) C C' ∧ ∀ i : Nat, i < k → C' 107 (i : Int) = C 83 (i : Int)) (K := fun k C' => K_X11_evenings_120 (d + 1) 0 0 l3 (k : Int) S C' Q) 25 (fun C1 c => ?_) (fun m C1 hm c ih => ?_) 0 (by omega) C ⟨Fp_rf, fun i hi => by omega⟩
  · obtain ⟨c1, c2⟩ := c
    refine b_X11_evenings_120 F ⟨fun _ => s_takesBack F (fun C2 f2 g2 => ⟨rfl, b_X11_good_0 F ⟨rfl, h C2 ?_ ?_⟩⟩), fun z => by omega⟩
    · exact Fp_tr (Fp_mono c1 (fun a k q => by omega)) (Fp_mono f2 (fun a k q => by omega))
    · intro i hi
      rw [g2 i hi, f2 107 _ (by omega), c1 86 _ (by omega)]
      exact ⟨c2 i hi, rfl⟩
  · obtain ⟨c1, c2⟩ := c
    refine b_X11_evenings_120 F ⟨fun z => by omega, fun _ => ?_⟩
    rw [w32_lit (x := (m : Int) + 1) (by omega)]
    refine ⟨by omega, by omega, ih _ ⟨Fp_up (by omega) c1, fun i hi => ?_⟩⟩
    by_cases e : i = m
    · subst e; rw [upC_at]; exact c1 83 _ (by omega)
    · rw [upC_sK (by omega)]; exact c2 i (by omega)
/-- what evenings may touch -/
def evA (a k : Int) : Prop := scr a k ∨ (17 ≤ a ∧ a < 25) ∨ (a = 0 ∧ (k = 14 ∨ k = 16)) ∨ (a = 81 ∧ (k = 0 ∨ k = 51)) ∨ a = 107
theorem Inv_ev {S S' : MS} {C C' : MC} (I : Inv S C) (F' : Fix S') (hs : Ss S S') (h : Fp evA C C') (hR : C' 0 16 = C' 81 0) (hE : IvE C') : Inv S' C' := by
  obtain ⟨F, iN, iI, iR, iT, iX, iU, iE, iW⟩ := I
  have hT := TxK_ss hs
  have rw1 : ∀ b, (∀ k, ¬ evA b k) → C' b = C b := fun b hb => fp_row h hb
  refine ⟨F', RS_cong2 (RS_S iN hT (fun i _ _ => hs.2.2.2.2 _ i (by omega) (by omega) (by omega))) (fun j x0 x1 => rw1 _ (fun k => by unfold evA scr; omega)) (fun b hb => rw1 b (fun k => by unfold evA scr; omega)) (fun i hi => h 83 i (by unfold evA scr; unfold ktI at hi; omega)),
    IvI_cong (IvI_S iI hT (fun a i ha => hs.2.2.2.2 _ i (by omega) (by omega) (by omega))) (rw1 _ (fun k => by unfold evA scr; omega)) (rw1 _ (fun k => by unfold evA scr; omega)) (rw1 _ (fun k => by unfold evA scr; omega)) (fun b x0 x1 => rw1 _ (fun k => by unfold evA scr; omega)) (fun b hb => rw1 b (fun k => by unfold evA scr; omega)),
    ⟨hR, by rw [rw1 64 (fun k => by unfold evA scr; omega), rw1 82 (fun k => by unfold evA scr; omega)]; exact iR.2⟩,
    IvT_cong iT (h _ _ (by unfold evA scr; omega)) (h _ _ (by unfold evA scr; omega)) (rw1 _ (fun k => by unfold evA scr; omega)) (rw1 _ (fun k => by unfold evA scr; omega)),
    IvX_cong iX (h _ _ (by unfold evA scr; omega)) (h _ _ (by unfold evA scr; omega)) (h _ _ (by unfold evA scr; omega)) (h _ _ (by unfold evA scr; omega)) (h _ _ (by unfold evA scr; omega)) (h _ _ (by unfold evA scr; omega)),
    IvU_cong iU (h _ _ (by unfold evA scr; omega)) (h _ _ (by unfold evA scr; omega)) (fun i hi => h _ _ (by unfold evA scr; omega)) (rw1 _ (fun k => by unfold evA scr; omega)) (rw1 _ (fun k => by unfold evA scr; omega)) (rw1 _ (fun k => by unfold evA scr; omega)) (rw1 _ (fun k => by unfold evA scr; omega)),
    hE, IvW_cong iW (rw1 _ (fun k => by unfold evA scr; omega))⟩
theorem q_evenings {d : Nat} {l1 l2 : Int} {S : MS} {C : MC} {P : Int → Int → MS → MC → Prop} (hAC : AskCls) (hAM : AskMod) (I : Inv S C) (k : PS S P) : K_X10_evenings_0 (d + 106) 0 0 l1 l2 S C (fun r S2 C2 => Fix S2 ∧ S2.2.2.2.2 = S.2.2.2.2 ∧ K_X11_evenings_0 (d + 106) 0 0 l1 l2 S2 C2 (fun r2 Sq C3 => Sq = S2 ∧ P r r2 S2 C3)) := by
  have F := I.1
  obtain ⟨n, hn⟩ : ∃ n : Nat, C 83 45 = n := ⟨(C 83 45).toNat, by have := I.2.1.1.2.1; omega⟩
  have hK := KOk_of I.2.1
  have hn6 : n ≤ 6 := by have := hK.1; omega
  have h10 : C 1 0 = n := by rw [I.2.1.1.1]; exact hn
  have bad : ¬ ((0 ≤ l1 ∧ l1 ≤ 1000000) ∧ (1 ≤ l2 ∧ l2 ≤ 60)) → K_X10_refuse_0 (d + 105) 0 0 (-1) S C (fun r Sq C2 => Sq = S ∧ Fix S ∧ S.2.2.2.2 = S.2.2.2.2 ∧ K_X11_evenings_0 (d + 106) 0 0 l1 l2 S C2 (fun r2 Sq C3 => Sq = S ∧ P r r2 S C3)) := by
    intro hl
    refine s_refuse F (by unfold okR; omega) ⟨rfl, F, rfl, ?_⟩
    refine b_X11_evenings_0 F (s_lies F fun r hr => ⟨rfl, fun _ => s_refuses F (by unfold okR; omega) ⟨rfl, rfl, k _ _ _ (Inv_refuse (by unfold okR; omega) I) rfl⟩, fun z => s_lies F fun r5 hr5 => ⟨rfl, fun z5 => by omega, fun _ => s_refuses F (by unfold okR; omega) ⟨rfl, rfl, k _ _ _ (Inv_refuse (by unfold okR; omega) I) rfl⟩⟩⟩)
  refine b_X10_evenings_0 F ⟨fun z => bad (by omega), fun z1 => ⟨fun z => bad (by omega), fun z2 => ⟨fun z => bad (by omega), fun z3 => ⟨fun z4 => ⟨fun z5 => ?_, fun z5 => ?_⟩, fun z => bad (by omega)⟩⟩⟩⟩
  · refine s_copyFrom (d := d + 104) F isSt17 isSt1 (by omega) (laws_ok I.2.1) (fun S1 C1 F1 hs hc => ⟨F1, ?_⟩)
    have hn0 : n ≠ 0 := by omega
    have hR1 : RS S1 (upC C1 0 14 1) 17 (C 83) := RS_cong (RS_copy isSt17 I.2.1 hs hc) (fun j x0 x1 => upC_ne (by omega)) (fun b hb => upC_ne (by omega)) (fun _ => rfl)
    refine (even_main (d := d) (S := S1) (C := upC C1 0 14 1) hAC hAM hn6 hn0 (by omega) l2.toNat 0 (by omega) (by omega) S1 (upC C1 0 14 1) (C 83) l1 0 ⟨F1, rfl, rfl, rfl, rfl, fun _ _ _ => rfl⟩ Fp_rf hR1 hn (by omega) (by omega)).mono (fun r S2 C2 hq => ?_)
    obtain ⟨κ', q1, ⟨C9, q2, q2b⟩, q3, q4, q5⟩ := hq
    have hsS : Ss S S2 := Ss_tr ⟨hs.1, hs.2.1, hs.2.2.1, hs.2.2.2.1, fun a k _ _ h3 => hs.2.2.2.2.1 a k (by omega)⟩ (S44_Ss q1)
    have f2 : Fp evA C C2 := by
      rw [q2b]
      refine Fp_up (by unfold evA; omega) (Fp_tr (Fp_up (by unfold evA; omega) ?_) (Fp_mono q2 (fun a k q => by unfold evx plx at q; unfold evA scr; omega)))
      intro a j hj
      rw [hc.1 a (by unfold evA at hj; omega)]
    have e83 : C2 83 = C 83 := funext fun j => by rw [q2b, upC_ne (by decide), q2 83 j (by unfold evx plx; omega), upC_ne (by decide), hc.1 83 (by omega)]
    refine ⟨q1.1, hsS.2.2.2.1, b_X11_evenings_0 q1.1 (s_lies q1.1 fun r1 hr1 => ⟨rfl, fun z => by omega, fun z => s_lies q1.1 fun r5 hr5 => ⟨rfl, fun z5 => s_many q1.1 ⟨rfl, fun z6 => ?_, fun z6 => by rw [e83] at z6; omega⟩, fun z => by omega⟩⟩)⟩
    refine s_laysAside q1.1 (fun C3 f3 g3 => ⟨rfl, ?_⟩)
    have e3 : C3 83 = C 83 := funext fun j => by rw [f3 83 j (by omega), upC_ne (by decide), upC_ne (by decide), e83]
    refine q5 S2 C3 _ q1.1 e3 (by rw [f3 81 52 (by omega), upC_sK (by decide), upC_at]) (fun C4 f4 e4 => ?_)
    refine s_even120 (d := d + 105) q1.1 (fun C5 f5 g5 => ⟨rfl, k _ _ _ ?_ hsS.2.2.2.1⟩)
    -- the end state
    have g3' : ∀ i : Nat, i < 25 → C5 83 (i : Int) = C 83 (i : Int) := fun i hi => by
      rw [(g5 i hi).2, f4 86 _ (by unfold emx mpx asx; omega), g3 i hi, upC_ne (by decide), upC_ne (by decide), e83]
    have hi83 : ∀ j : Int, 25 ≤ j → C5 83 j = C 83 j := fun j hj => by
      rw [f5 83 j (by omega), e4, q4 j hj]
    have f35 : Fp evA C2 (upC C5 81 0 0) := by
      refine Fp_up (by unfold evA; omega) ?_
      intro a j hj
      by_cases e : a = 83
      · subst e
        by_cases hj2 : 25 ≤ j
        · rw [hi83 j hj2, e83]
        · by_cases hj3 : 0 ≤ j
          · obtain ⟨i, rfl⟩ : ∃ i : Nat, j = i := ⟨j.toNat, by omega⟩
            rw [g3' i (by omega), e83]
          · rw [f5 83 j (by omega), f4 83 j (by unfold emx mpx asx; omega), e3, e83]
      · rw [f5 a j (by unfold evA at hj; omega), f4 a j (by unfold evA scr at hj; unfold emx mpx asx; omega), f3 a j (by unfold evA scr at hj; omega), upC_get, if_neg (by unfold evA at hj; omega), upC_get, if_neg (by unfold evA scr at hj; omega)]
    have st : ∀ a : Int, a = 20 ∨ a = 21 → upC C5 81 0 0 a = C2 a := fun a ha => funext fun j => by
      rw [upC_ne (by omega), f5 a j (by omega), f4 a j (by unfold emx mpx asx; omega), f3 a j (by omega), upC_ne (by omega), upC_ne (by omega)]
    have c14 : upC C5 81 0 0 0 14 = 1 := by
      rw [upC_ne (by decide), f5 0 14 (by omega), f4 0 14 (by unfold emx mpx asx; omega), f3 0 14 (by omega), upC_ne (by decide), upC_ne (by decide), q2b, upC_sK (by decide), q2 0 14 (by unfold evx plx; omega), upC_at]
    have c51 : upC C5 81 0 0 81 51 = 1 := by
      rw [upC_sK (by decide), f5 81 51 (by omega), f4 81 51 (by unfold emx mpx asx; omega), f3 81 51 (by omega), upC_at]
    have c16 : upC C5 81 0 0 0 16 = 0 := by
      rw [upC_ne (by decide), f5 0 16 (by omega), f4 0 16 (by unfold emx mpx asx; omega), f3 0 16 (by omega), upC_ne (by decide), upC_ne (by decide), q2b, upC_at]
    have r107 : ∀ i : Nat, i < 25 → upC C5 81 0 0 107 (i : Int) = κ' i := fun i hi => by rw [upC_ne (by decide), (g5 i hi).1, e4]
    refine Inv_ev I q1.1 hsS (Fp_tr f2 f35) (by rw [c16, upC_at]) ⟨by rw [c14, c51], by rw [c14]; exact Or.inr rfl, fun _ => ⟨fun j x0 x1 => ?_, fun b x0 x1 => ?_⟩⟩
    · obtain ⟨i, rfl⟩ : ∃ i : Nat, j = i := ⟨j.toNat, by omega⟩
      rw [st 20 (Or.inl rfl), r107 i (by omega)]
      exact (q3.2.1 _ x0 x1).1
    · obtain ⟨i, rfl⟩ : ∃ i : Nat, b = i := ⟨b.toNat, by omega⟩
      have := r107 (8 + i) (by omega)
      rw [st 21 (Or.inr rfl), show (8 : Int) + (i : Int) = ((8 + i : Nat) : Int) by omega, this]
      exact (q3.2.2.1 _ x0 x1).1
  · refine s_refuse F (by unfold okR; omega) ⟨rfl, F, rfl, ?_⟩
    have e83 : rfC C (-3) 83 45 = n := by unfold rfC; rw [upC_ne (by decide), upC_ne (by decide)]; exact hn
    refine b_X11_evenings_0 F (s_lies F fun r1 hr1 => ⟨rfl, fun z => by omega, fun z => s_lies F fun r5 hr5 => ⟨rfl, fun z5 => s_many F ⟨rfl, fun z6 => ?_, fun z6 => ?_⟩, fun z => by omega⟩⟩)
    · rw [e83] at z6; omega
    · exact s_refuses F (by unfold okR; omega) ⟨rfl, rfl, k _ _ _ (Inv_refuse (by unfold okR; omega) I) rfl⟩
