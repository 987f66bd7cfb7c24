/-! 72.rdm2: the reference reads parts, sums, tests -/
theorem t_leaf {d : Nat} {τ : Tks} {o : Bool} {p lv : Nat} {S : MS} {C : MC} {Q : Qt} (F : Fix S) (T : TkM τ o C) (h19 : C 81 19 = p) (hp : p ≤ τ.length) (h20 : C 81 20 = lv) (hlv : lv ≤ 50) (h21 : C 81 21 = -1) (h0 : 50 ≤ lv → Q 0 S (upC (upC C 81 21 (C 92 p)) 81 20 51)) (h1 : lv < 50 → Q 0 S (upC (upC C 81 20 ((lv + 1 : Nat) : Int)) 81 19 ((p + 1 : Nat) : Int))) : K_X11_leaf_0 (d + 2) 0 0 S C Q := by
  have hN := T.2.1
  have e92 := (T.2.2.1 p hp).2.2.2
  have n92 : C 92 (p : Int) ≠ -1 := by intro z; rw [z] at e92; exact absurd e92 (by decide)
  refine b_X11_leaf_0 (d := d + 1) F ?_
  rw [h20]
  refine ⟨fun z => ?_, fun z => ?_⟩
  · have hl : lv < 50 := by clear h0 h1 T h19 h20 h21 e92 n92; omega
    refine b_X11_fine_0 F ⟨fun y => absurd (by rw [upC_sK (by decide)]; exact h21) y, fun _ => ⟨rfl, fun y => absurd y (by decide), fun _ => ?_⟩⟩
    rw [upC_sK (by decide), h19, w32_nat1 (p := p) (Nat.le_trans hp (Nat.le_trans hN (by decide))), w32_nat1 (p := lv) (Nat.le_trans hlv (by decide))]
    exact h1 hl
  · have hl : lv = 50 := by clear h0 h1 T h19 h20 h21 e92 n92; omega
    refine t_faults F h19 (by omega) h21 ⟨rfl, ?_⟩
    rw [upC_sK (by decide), h20, hl]
    refine b_X11_fine_0 F ⟨fun _ => ⟨rfl, fun _ => h0 (by omega), fun y => absurd rfl y⟩, fun y => absurd (by rw [upC_sK (by decide), upC_at] at y; exact y) n92⟩
theorem m_part {τ : Tks} {o : Bool} {m dp : Nat} {inner : Option (Rdr Sem)} (hdp : dp ≤ 8) (hin : (dp = 8 ∧ inner = none) ∨ (dp < 8 ∧ ∃ s, inner = some s ∧ RdM τ o m s (fun d S C Q => K_X11_readSum_0 d 0 0 ((dp + 1 : Nat) : Int) S C Q) ∧ Gd τ SBd s)) : RdM τ o (m + 4) (partP τ o inner) (fun d S C Q => K_X11_readPart_0 d 0 0 (dp : Int) S C Q) := by
  refine ⟨fun d S C Q p lv c0 hm F T hp hlv h19 h20 h21 hk => ?_, fun d S C Q hm F h21 hk => ?_⟩
  · obtain ⟨e, rfl⟩ : ∃ e, d = e + 4 := ⟨d - 4, by omega⟩
    have hN := T.2.1
    obtain ⟨e90, e91, etv, e92⟩ := T.2.2.1 p hp
    have hb : (0 : Int) ≤ (p : Int) ∧ (p : Int) < 401 := by clear hk T h19 h20 h21 e90 e91 e92; omega
    have w1 : w32 ((dp : Int) + 1) = ((dp + 1 : Nat) : Int) := w32_nat1 (Nat.le_trans hdp (by decide))
    have n92 : C 92 (p : Int) ≠ -1 := by intro z; rw [z] at e92; exact absurd e92 (by decide)
    refine b_X11_readPart_0 (d := e + 3) F (b_X11_fine_0 F ⟨fun z => absurd h21 z, fun _ => ⟨rfl, fun _ => ?_, fun y => absurd y (by decide)⟩⟩)
    rw [h19, e90]
    refine ⟨hb, t_sign F (by decide) ⟨rfl, fun z => ?_, fun z => ?_⟩⟩
    · -- no bracket
      have z : ¬ tc τ p = 191 := z
      have hpr : partP τ o inner p lv c0 = if 50 ≤ lv then .inl p else if tc τ p = 50 ∧ 0 ≤ tv τ p ∧ tv τ p ≤ 1000 then leafP (fun _ => some (tv τ p)) (p + 1) lv (16 * tv τ p + 1) else wordP τ o p lv := by
        unfold partP
        rw [if_neg z]
      rw [hpr] at hk
      have flt : partP τ o inner p lv c0 = .inl p → K_X11_faults_0 (e + 3) 0 0 S C (fun _ Sq C6 => Sq = S ∧ Q 0 S C6) := by
        intro z2
        rw [hpr] at z2
        refine t_faults F h19 (by omega) h21 ⟨rfl, hk _ (fm21 Fp_rf) ?_⟩
        rw [z2]
        exact ⟨hp, upC_at _ _ _ _⟩
      have h111 : (tc τ p = 50 ∧ tv τ p ≤ 1000) ∨ (C 81 8 ≤ tc τ p ∧ tc τ p ≤ C 81 9) → K_X11_readPart_111 (e + 4) 0 0 (tc τ p) S C Q := by
        intro hc
        have o10 := T.2.2.2.1
        rw [T.2.2.2.2.1, T.2.2.2.2.2] at hc
        refine b_X11_readPart_111 (d := e + 3) F (t_leaf (d := e + 1) F T h19 hp h20 hlv h21 (fun y => ⟨rfl, ?_⟩) (fun y => ⟨rfl, ?_⟩))
        · rw [if_pos y] at hk
          have fB : Fp mrx C (upC (upC C 81 21 (C 92 p)) 81 20 51) := fm20 (fm21 Fp_rf)
          have hq := hk _ fB ⟨hp, by rw [upC_sK (by decide), upC_at]⟩
          have nb : upC (upC C 81 21 (C 92 p)) 81 20 51 81 21 ≠ -1 := by rw [upC_sK (by decide), upC_at]; exact n92
          refine ⟨fun _ => ⟨fun _ => hq, fun _ => ⟨fun _ => hq, fun _ => t_mnumB F nb ⟨rfl, hq⟩⟩⟩, fun _ => ⟨fun _ => ⟨fun _ => hq, fun _ => ⟨fun _ => hq, fun _ => t_mnumB F nb ⟨rfl, hq⟩⟩⟩, fun _ => t_mnumB F nb ⟨rfl, fun _ => hq, fun _ => ⟨fun _ => hq, fun _ => t_mnumB F nb ⟨rfl, hq⟩⟩⟩⟩⟩
        · rw [if_neg (by omega)] at hk
          have fG : Fp mrx C (upC (upC C 81 20 ((lv + 1 : Nat) : Int)) 81 19 ((p + 1 : Nat) : Int)) := fm19 (fm20 Fp_rf)
          generalize hD : upC (upC C 81 20 ((lv + 1 : Nat) : Int)) 81 19 ((p + 1 : Nat) : Int) = D at fG
          have d19 : D 81 19 = ((p + 1 : Nat) : Int) := by rw [← hD, upC_at]
          have d20 : D 81 20 = ((lv + 1 : Nat) : Int) := by rw [← hD, upC_sK (by decide), upC_at]
          have d21 : D 81 21 = -1 := by rw [← hD, upC_sK (by decide), upC_sK (by decide)]; exact h21
          have TD := TkM_fp T fG
          have d10 := TD.2.2.2.1
          have hp1 : p + 1 ≤ τ.length := by
            have : tc τ p ≠ 0 := by
              clear hk hD TD d19 d20 d21 d10 T h19 h20 h21 e90 e91 e92 o10
              cases o <;> simp at hc <;> omega
            have := tc_in this
            omega
          have m92' := m92 fG
          cases o with
          | false =>
            have hq : Q 0 S D := by
              refine hk D fG ?_
              by_cases y50 : tc τ p = 50 ∧ 0 ≤ tv τ p ∧ tv τ p ≤ 1000
              · rw [if_pos y50]; exact ⟨d19, d20, d21⟩
              · rw [if_neg y50]
                have hr : 8 ≤ tc τ p ∧ tc τ p ≤ 15 := by
                  simp only [Bool.false_eq_true, if_false] at hc
                  clear hk hD TD d19 d20 d21 d10 T h19 h20 h21 e90 e91 e92 o10
                  omega
                unfold wordP
                simp only [Bool.false_eq_true, if_false]
                rw [if_pos hr]
                exact ⟨d19, d20, d21⟩
            exact ⟨fun _ => ⟨fun _ => hq, fun y2 => absurd d10 y2⟩, fun y2 => absurd d10 y2⟩
          | true =>
            have n10 : D 81 10 ≠ 0 := by rw [d10]; decide
            simp only [if_true] at hc
            by_cases h14 : tc τ p = 14
            · have hw : ∀ C', Fp mrx C C' → PoM τ C C' (wordP τ true p lv) → Q 0 S C' := by
                rw [if_neg (fun y2 => by rw [h14] at y2; exact absurd y2.1 (by decide))] at hk
                exact hk
              unfold wordP at hw
              simp only [if_true] at hw
              rw [if_pos h14] at hw
              have fin : ∀ C8 : MC, Q 0 S C8 → ((C8 81 10 = 0 → Q 0 S C8) ∧ (¬ C8 81 10 = 0 → ((¬ tc τ p = 20 → Q 0 S C8) ∧ (tc τ p = 20 → K_X11_mustNumber_0 (e + 3) 0 0 0 15 S C8 (fun _ Sq C10 => Sq = S ∧ Q 0 S C10))))) := fun C8 hq => ⟨fun _ => hq, fun _ => ⟨fun _ => hq, fun y2 => absurd (h14.symm.trans y2) (by decide)⟩⟩
              refine ⟨fun y2 => absurd y2 n10, fun _ => ⟨fun y2 => absurd h14 y2, fun _ => t_mnum (d := e + 1) F TD d19 hp1 d21 (fun y2 => ⟨rfl, fin _ (hw _ (fm21 fG) ?_)⟩) (fun y2 => ⟨rfl, fin _ (hw _ (fm19 fG) ?_)⟩)⟩⟩
              · rw [if_neg y2]; exact ⟨hp1, by rw [upC_at, m92']⟩
              · rw [if_pos y2]; exact ⟨upC_at _ _ _ _, by rw [upC_sK (by decide)]; exact d20, by rw [upC_sK (by decide)]; exact d21⟩
            · by_cases h20' : tc τ p = 20
              · have hw : ∀ C', Fp mrx C C' → PoM τ C C' (wordP τ true p lv) → Q 0 S C' := by
                  rw [if_neg (fun y2 => by rw [h20'] at y2; exact absurd y2.1 (by decide))] at hk
                  exact hk
                unfold wordP at hw
                simp only [if_true] at hw
                rw [if_neg h14, if_pos h20'] at hw
                refine ⟨fun y2 => absurd y2 n10, fun _ => ⟨fun _ => ⟨fun y2 => absurd y2 n10, fun _ => ⟨fun y2 => absurd h20' y2, fun _ => t_mnum (d := e + 1) F TD d19 hp1 d21 (fun y2 => ⟨rfl, hw _ (fm21 fG) ?_⟩) (fun y2 => ⟨rfl, hw _ (fm19 fG) ?_⟩)⟩⟩, fun y2 => absurd y2 h14⟩⟩
                · rw [if_neg y2]; exact ⟨hp1, by rw [upC_at, m92']⟩
                · rw [if_pos y2]; exact ⟨upC_at _ _ _ _, by rw [upC_sK (by decide)]; exact d20, by rw [upC_sK (by decide)]; exact d21⟩
              · have hq : Q 0 S D := by
                  refine hk D fG ?_
                  by_cases y50 : tc τ p = 50 ∧ 0 ≤ tv τ p ∧ tv τ p ≤ 1000
                  · rw [if_pos y50]; exact ⟨d19, d20, d21⟩
                  · rw [if_neg y50]
                    have hr : 15 ≤ tc τ p ∧ tc τ p ≤ 19 := by
                      clear hk hD TD d19 d20 d21 d10 T h19 h20 h21 e90 e91 e92 o10
                      omega
                    unfold wordP
                    simp only [if_true]
                    rw [if_neg h14, if_neg h20', if_pos hr]
                    exact ⟨d19, d20, d21⟩
                exact ⟨fun y2 => absurd y2 n10, fun _ => ⟨fun _ => ⟨fun _ => hq, fun _ => ⟨fun _ => hq, fun y2 => absurd y2 h20'⟩⟩, fun y2 => absurd y2 h14⟩⟩
      have nowd : ¬ (tc τ p = 50 ∧ 0 ≤ tv τ p ∧ tv τ p ≤ 1000) → (tc τ p < C 81 8 ∨ C 81 9 < tc τ p) → partP τ o inner p lv c0 = .inl p := by
        intro y1 y2
        rw [hpr, if_neg y1]
        rw [T.2.2.2.2.1, T.2.2.2.2.2] at y2
        split
        · rfl
        · unfold wordP
          clear hk T h19 h20 h21 e90 e91 e92 flt h111 hpr n92
          cases o with
          | false => simp only [Bool.false_eq_true, if_false] at y2 ⊢; rw [if_neg (by omega)]
          | true => simp only [if_true] at y2 ⊢; rw [if_neg (by omega), if_neg (by omega), if_neg (by omega)]
      refine ⟨fun y => ⟨fun y2 => flt (nowd (fun q => y q.1) (Or.inl y2)), fun y2 => ⟨fun y3 => flt (nowd (fun q => y q.1) (Or.inr y3)), fun y3 => h111 (Or.inr ⟨Int.not_lt.mp y2, Int.not_lt.mp y3⟩)⟩⟩, fun y => ⟨by rw [h19]; exact hb, ?_⟩⟩
      rw [h19, e91]
      refine ⟨fun y2 => h111 (Or.inl ⟨y, y2⟩), fun y2 => ⟨fun y3 => flt (nowd (fun q => y2 q.2.2) (Or.inl y3)), fun y3 => ⟨fun y4 => flt (nowd (fun q => y2 q.2.2) (Or.inr y4)), fun y4 => ?_⟩⟩⟩
      exfalso
      rw [T.2.2.2.2.2, y] at y4
      cases o <;> exact absurd (by decide) y4
    · -- a bracket
      have z : tc τ p = 191 := z
      have hpr : partP τ o inner p lv c0 = brP τ 193 inner p lv c0 := by
        unfold partP
        rw [if_pos z]
      rw [hpr] at hk
      have hp1 : p + 1 ≤ τ.length := by
        have := tc_in (τ := τ) (p := p) (by rw [z]; decide)
        omega
      rcases hin with ⟨h8, hi⟩ | ⟨h8, s, hi, hs, hG⟩
      · refine ⟨fun y => absurd (by rw [h8]; rfl) y, fun _ => t_faults F h19 (by omega) h21 ⟨rfl, b_X11_fine_0 F ⟨fun _ => ⟨rfl, fun y => absurd rfl y, fun _ => hk _ (fm21 Fp_rf) ?_⟩, fun y => absurd (by rw [upC_at] at y; exact y) n92⟩⟩⟩
        rw [hi]
        exact ⟨hp, upC_at _ _ _ _⟩
      · refine ⟨fun _ => b_X11_fine_0 F ⟨fun y => absurd h21 y, fun _ => ⟨rfl, fun _ => ?_, fun y => absurd y (by decide)⟩⟩, fun y => absurd y (by clear hk T h19 h20 h21 e90 e91 e92; omega)⟩
        rw [h19, w1, w32_nat1 (p := p) (Nat.le_trans hp (Nat.le_trans hN (by decide)))]
        have fU : Fp mrx C (upC C 81 19 ((p + 1 : Nat) : Int)) := fm19 Fp_rf
        refine hs.1 (e + 3) S _ _ (p + 1) lv c0 (by omega) F (TkM_fp T fU) hp1 hlv (upC_at _ _ _ _) (by rw [upC_sK (by decide)]; exact h20) (by rw [upC_sK (by decide)]; exact h21) (fun C1 f1 po => ⟨rfl, t_sign F (by decide) ⟨rfl, ?_⟩⟩)
        have f2 := Fp_tr fU f1
        rw [hi] at hk
        unfold brP at hk
        simp only at hk
        cases hr : s (p + 1) lv c0 with
        | inl q =>
          rw [hr] at po hk
          have e21 : C1 81 21 = C 92 q := by rw [po.2, m92 fU]
          exact t_mustB (d := e + 1) F (bad_of T po.1 e21) ⟨rfl, hk C1 f2 ⟨po.1, e21⟩⟩
        | inr t =>
          obtain ⟨g, q, lv', cd'⟩ := t
          rw [hr] at po hk
          obtain ⟨a1, a2, _⟩ := hG _ _ _ _ _ _ _ hr
          simp only at hk
          refine t_must (d := e + 1) F (TkM_fp T f2) po.1 a1.2 po.2.2 (fun y => ⟨rfl, hk _ (fm21 f2) ?_⟩) (fun y => ⟨rfl, hk _ (fm19 f2) ?_⟩)
          · rw [if_neg (show ¬ tc τ q = 193 from y)]; exact ⟨a1.2, by rw [upC_at, m92 f2]⟩
          · rw [if_pos (show tc τ q = 193 from y)]; exact ⟨upC_at _ _ _ _, by rw [upC_sK (by decide)]; exact po.2.1, by rw [upC_sK (by decide)]; exact po.2.2⟩
  · obtain ⟨e, rfl⟩ : ∃ e, d = e + 4 := ⟨d - 4, by omega⟩
    exact b_X11_readPart_0 (d := e + 3) F (b_X11_fine_0 F ⟨fun _ => ⟨rfl, fun y => absurd rfl y, fun _ => hk C Fp_rf rfl⟩, fun z => absurd z h21⟩)
theorem m_sum {τ : Tks} {o : Bool} {m : Nat} {l : Int} {pt : Rdr Sem} (hpt : RdM τ o (m + 1) pt (fun d S C Q => K_X11_readPart_0 d 0 0 l S C Q)) (hG : Gd τ SBd pt) : RdM τ o (m + 3) (sumP τ pt) (fun d S C Q => K_X11_readSum_0 d 0 0 l S C Q) :=
  m_seq (m_seq hpt hG (lp_term τ o l) rfl (fun d S C Q F h => b_X11_readTerm_0 F h)) (Gd_seq hG) (lp_sum τ o l) rfl (fun d S C Q F h => b_X11_readSum_0 F h)
theorem m_pt (τ : Tks) (o : Bool) : ∀ (g dp : Nat), dp + g = 8 → RdM τ o (6 * g + 5) (ptP τ o g) (fun d S C Q => K_X11_readPart_0 d 0 0 (dp : Int) S C Q)
  | 0, dp, h => RdM_up (m_part (m := 0) (by omega) (Or.inl ⟨by omega, rfl⟩)) (by omega)
  | g + 1, dp, h => RdM_up (m_part (m := 6 * g + 7) (by omega) (Or.inr ⟨by omega, _, rfl, m_sum (m := 6 * g + 4) (m_pt τ o g (dp + 1) (by omega)) (Gd_pt τ o g), Gd_sum (Gd_pt τ o g)⟩)) (by omega)
theorem m_sumg (τ : Tks) (o : Bool) (g dp : Nat) (h : dp + g = 8) : RdM τ o (6 * g + 7) (sumP τ (ptP τ o g)) (fun d S C Q => K_X11_readSum_0 d 0 0 (dp : Int) S C Q) := m_sum (m := 6 * g + 4) (m_pt τ o g dp h) (Gd_pt τ o g)
/-! tests -/
theorem notP_hi {τ : Tks} : ∀ (n p : Nat) (b : Bool), p ≤ τ.length → (notP τ n p b).2 ≤ τ.length
  | 0, p, b, h => by unfold notP; exact h
  | n + 1, p, b, h => by
    unfold notP
    split
    · rename_i z
      have := tc_in (τ := τ) (p := p) (by rw [z]; decide)
      exact notP_hi n (p + 1) (!b) (by omega)
    · exact h
theorem t_nots {d : Nat} {τ : Tks} {o : Bool} {l : Int} {S : MS} {Q : Qt} (F : Fix S) : ∀ (n p : Nat) (b : Bool) (C : MC), TkM τ o C → p ≤ τ.length → τ.length ≤ p + n → C 81 19 = p → C 81 21 = -1 → (∀ C', C' = C ∨ C' = upC C 81 19 ((notP τ n p b).2 : Int) → C' 81 19 = ((notP τ n p b).2 : Int) → K_X11_readPlain_2 (d + 2) 0 0 l 0 S C' Q) → K_X11_readPlain_2 (d + 2) 0 0 l 1 S C Q
  | 0, p, b, C, T, hp, hn, h19, h21, hk => by
    unfold notP at hk
    refine b_X11_readPlain_2 (d := d + 1) F ⟨fun y => absurd y (by decide), fun _ => t_takes F T h19 hp h21 (fun z => ⟨rfl, hk C (Or.inl rfl) h19⟩) (fun z => ?_)⟩
    rw [tc_hi (by omega)] at z
    cases z
  | n + 1, p, b, C, T, hp, hn, h19, h21, hk => by
    unfold notP at hk
    refine b_X11_readPlain_2 (d := d + 1) F ⟨fun y => absurd y (by decide), fun _ => t_takes F T h19 hp h21 (fun z => ⟨rfl, ?_⟩) (fun z => ⟨rfl, ?_⟩)⟩
    · rw [if_neg z] at hk
      exact hk C (Or.inl rfl) h19
    · rw [if_pos z] at hk
      have hp1 := tc_in (τ := τ) (p := p) (by rw [z]; decide)
      refine t_nots F n (p + 1) (!b) _ (TkM_fp T (fm19 Fp_rf)) hp1 (by omega) (upC_at _ _ _ _) (by rw [upC_sK (by decide)]; exact h21) (fun C' e1 e2 => hk C' ?_ e2)
      right
      rcases e1 with e1 | e1
      · rw [e1] at e2 ⊢
        rw [upC_at] at e2
        rw [e2]
      · rw [e1]
        funext a k
        rw [upC_get, upC_get, upC_get]
        split <;> rfl
theorem m_plain {τ : Tks} {o : Bool} {m dp : Nat} {su : Rdr Sem} {inner : Option (Rdr TSem)} (hdp : dp ≤ 8) (hsu : RdM τ o m su (fun d S C Q => K_X11_readSum_0 d 0 0 (dp : Int) S C Q)) (hGs : Gd τ SBd su) (hin : (dp = 8 ∧ inner = none) ∨ (dp < 8 ∧ ∃ s, inner = some s ∧ RdM τ o m s (fun d S C Q => K_X11_readTest_0 d 0 0 ((dp + 1 : Nat) : Int) S C Q) ∧ Gd τ Tr s)) : RdM τ o (m + 4) (plainP τ su inner) (fun d S C Q => K_X11_readPlain_0 d 0 0 (dp : Int) S C Q) := by
  refine ⟨fun d S C Q p lv c0 hm F T hp hlv h19 h20 h21 hk => ?_, fun d S C Q hm F h21 hk => ?_⟩
  · obtain ⟨e, rfl⟩ : ∃ e, d = e + 4 := ⟨d - 4, by omega⟩
    have hN := T.2.1
    refine b_X11_readPlain_0 (d := e + 3) F (t_nots (d := e + 2) F 400 p false C T hp (by omega) h19 h21 (fun D eD d19 => ?_))
    have hq := notP_hi (τ := τ) 400 p false hp
    have hk2 : ∀ C', Fp mrx C C' → PoM τ C C' (posP τ su inner (notP τ 400 p false).2 lv c0) → Q 0 S C' := by
      intro C' f po
      refine hk C' f ?_
      unfold plainP
      cases hs : posP τ su inner (notP τ 400 p false).2 lv c0 with
      | inl q => rw [hs] at po; exact po
      | inr t => rw [hs] at po; exact po
    clear hk
    generalize (notP τ 400 p false).2 = q0 at eD d19 hq hk2
    have fD : Fp mrx C D := by
      rcases eD with z | z
      · rw [z]; exact Fp_rf
      · rw [z]; exact fm19 Fp_rf
    have d20 : D 81 20 = lv := by
      rcases eD with z | z
      · rw [z]; exact h20
      · rw [z, upC_sK (by decide)]; exact h20
    have d21 : D 81 21 = -1 := by
      rcases eD with z | z
      · rw [z]; exact h21
      · rw [z, upC_sK (by decide)]; exact h21
    have TD := TkM_fp T fD
    have m9 := m92 fD
    clear eD h19 h20 h21
    obtain ⟨e90, e91, etv, e92⟩ := TD.2.2.1 q0 hq
    have hb : (0 : Int) ≤ (q0 : Int) ∧ (q0 : Int) < 401 := by clear hk2 T TD d19 d20 d21 e90 e91 e92; omega
    have w1 : w32 ((dp : Int) + 1) = ((dp + 1 : Nat) : Int) := w32_nat1 (Nat.le_trans hdp (by decide))
    have n92 : D 92 (q0 : Int) ≠ -1 := by intro z; rw [z] at e92; exact absurd e92 (by decide)
    refine b_X11_readPlain_2 (d := e + 3) F ⟨fun _ => b_X11_fine_0 F ⟨fun z => absurd d21 z, fun _ => ⟨rfl, fun _ => ?_, fun y => absurd y (by decide)⟩⟩, fun y => absurd rfl y⟩
    rw [d19, e90]
    refine ⟨hb, t_sign F (by decide) ⟨rfl, fun z => ?_, fun z => ?_⟩⟩
    · -- a comparison
      have z : ¬ tc τ q0 = 140 := z
      have hk3 : ∀ C', Fp mrx C C' → PoM τ C C' (cmprP τ su q0 lv c0) → Q 0 S C' := by
        intro C' f po
        refine hk2 C' f ?_
        unfold posP
        rw [if_neg z]
        exact po
      clear hk2
      unfold cmprP at hk3
      refine hsu.1 (e + 3) S D _ q0 lv c0 (by omega) F TD hq hlv d19 d20 d21 (fun C1 f1 po => ⟨rfl, t_sign F (by decide) ⟨rfl, ?_⟩⟩)
      have f2 := Fp_tr fD f1
      cases hs : su q0 lv c0 with
      | inl q =>
        rw [hs] at po hk3
        have e21 : C1 81 21 = C 92 q := by rw [po.2, m9]
        have nb := bad_of T po.1 e21
        exact t_takesB (d := e + 2) F nb ⟨rfl, fun y => absurd rfl y, fun _ => t_sign F (by decide) ⟨rfl, t_takesB (d := e + 2) F nb ⟨rfl, fun y => absurd rfl y, fun _ => t_sign F (by decide) ⟨rfl, t_mustB (d := e + 1) F nb ⟨rfl, hsu.2 (e + 3) S C1 _ (by omega) F nb (fun C2 f3 e3 => ⟨rfl, hk3 C2 (Fp_tr f2 f3) ⟨po.1, by rw [e3, e21]⟩⟩)⟩⟩⟩⟩⟩
      | inr t =>
        obtain ⟨g, q, lv', cd'⟩ := t
        rw [hs] at po hk3
        obtain ⟨a1, a2, _⟩ := hGs _ _ _ _ _ _ _ hs
        simp only at hk3
        have T1 := TkM_fp T f2
        have second : ∀ Cx : MC, isCmp (tc τ q) = true → Cx = upC C1 81 19 ((q + 1 : Nat) : Int) → K_X11_readSum_0 (e + 3) 0 0 (dp : Int) S Cx (fun _ Sq C12 => Sq = S ∧ Q 0 S C12) := by
          intro Cx hc ex
          rw [ex]
          have hq1 : q + 1 ≤ τ.length := by
            have := tc_in (τ := τ) (p := q) (by rw [isCmp_iff] at hc; omega)
            omega
          have fU : Fp mrx C (upC C1 81 19 ((q + 1 : Nat) : Int)) := fm19 f2
          refine hsu.1 (e + 3) S _ _ (q + 1) lv' (c0 + cd'.length) (by omega) F (TkM_fp T fU) hq1 (a2.2 hlv) (upC_at _ _ _ _) (by rw [upC_sK (by decide)]; exact po.2.1) (by rw [upC_sK (by decide)]; exact po.2.2) (fun C2 f3 po2 => ⟨rfl, hk3 C2 (Fp_tr fU f3) ?_⟩)
          rw [if_pos hc]
          have := PoM_tr fU po2
          cases hs2 : su (q + 1) lv' (c0 + cd'.length) with
          | inl r => rw [hs2] at this; exact this
          | inr t => rw [hs2] at this; exact this
        refine t_takes (d := e + 2) F T1 po.1 a1.2 po.2.2 (fun z1 => ⟨rfl, fun y => absurd rfl y, fun _ => t_sign F (by decide) ⟨rfl, t_takes (d := e + 2) F T1 po.1 a1.2 po.2.2 (fun z2 => ⟨rfl, fun y => absurd rfl y, fun _ => t_sign F (by decide) ⟨rfl, t_must (d := e + 1) F T1 po.1 a1.2 po.2.2 (fun z3 => ⟨rfl, ?_⟩) (fun z3 => ⟨rfl, second _ (by rw [isCmp_iff]; omega) rfl⟩)⟩⟩) (fun z2 => ⟨rfl, fun _ => second _ (by rw [isCmp_iff]; omega) rfl, fun y => absurd y (by decide)⟩)⟩⟩) (fun z1 => ⟨rfl, fun _ => second _ (by rw [isCmp_iff]; omega) rfl, fun y => absurd y (by decide)⟩)
        have hc : ¬ isCmp (tc τ q) = true := by rw [isCmp_iff]; omega
        have e21 : upC C1 81 21 (C1 92 (q : Int)) 81 21 = C 92 q := by rw [upC_at, m92 f2]
        refine hsu.2 (e + 3) S _ _ (by omega) F (bad_of T a1.2 e21) (fun C2 f3 e3 => ⟨rfl, hk3 C2 (Fp_tr (fm21 f2) f3) ?_⟩)
        rw [if_neg hc]
        exact ⟨a1.2, by rw [e3, e21]⟩
    · -- a bracket
      have z : tc τ q0 = 140 := z
      have hk3 : ∀ C', Fp mrx C C' → PoM τ C C' (brP τ 141 inner q0 lv c0) → Q 0 S C' := by
        intro C' f po
        refine hk2 C' f ?_
        unfold posP
        rw [if_pos z]
        exact po
      clear hk2
      have hp1 : q0 + 1 ≤ τ.length := by
        have := tc_in (τ := τ) (p := q0) (by rw [z]; decide)
        omega
      rcases hin with ⟨h8, hi⟩ | ⟨h8, s, hi, hs, hG⟩
      · refine ⟨fun y => absurd (by rw [h8]; rfl) y, fun _ => t_faults F d19 (by omega) d21 ⟨rfl, b_X11_fine_0 F ⟨fun _ => ⟨rfl, fun y => absurd rfl y, fun _ => hk3 _ (fm21 fD) ?_⟩, fun y => absurd (by rw [upC_at] at y; exact y) n92⟩⟩⟩
        rw [hi]
        exact ⟨hq, by rw [upC_at, m9]⟩
      · refine ⟨fun _ => b_X11_fine_0 F ⟨fun y => absurd d21 y, fun _ => ⟨rfl, fun _ => ?_, fun y => absurd y (by decide)⟩⟩, fun y => absurd y (by clear hk3 T TD d19 d20 d21 e90 e91 e92; omega)⟩
        rw [d19, w1, w32_nat1 (p := q0) (Nat.le_trans hq (Nat.le_trans hN (by decide)))]
        have fU : Fp mrx C (upC D 81 19 ((q0 + 1 : Nat) : Int)) := fm19 fD
        refine hs.1 (e + 3) S _ _ (q0 + 1) lv c0 (by omega) F (TkM_fp T fU) hp1 hlv (upC_at _ _ _ _) (by rw [upC_sK (by decide)]; exact d20) (by rw [upC_sK (by decide)]; exact d21) (fun C1 f1 po => ⟨rfl, t_sign F (by decide) ⟨rfl, ?_⟩⟩)
        have f2 := Fp_tr fU f1
        rw [hi] at hk3
        unfold brP at hk3
        simp only at hk3
        cases hr : s (q0 + 1) lv c0 with
        | inl q =>
          rw [hr] at po hk3
          have e21 : C1 81 21 = C 92 q := by rw [po.2, m92 fU]
          exact t_mustB (d := e + 1) F (bad_of T po.1 e21) ⟨rfl, hk3 C1 f2 ⟨po.1, e21⟩⟩
        | inr t =>
          obtain ⟨g, q, lv', cd'⟩ := t
          rw [hr] at po hk3
          obtain ⟨a1, a2, _⟩ := hG _ _ _ _ _ _ _ hr
          simp only at hk3
          refine t_must (d := e + 1) F (TkM_fp T f2) po.1 a1.2 po.2.2 (fun y => ⟨rfl, hk3 _ (fm21 f2) ?_⟩) (fun y => ⟨rfl, hk3 _ (fm19 f2) ?_⟩)
          · rw [if_neg (show ¬ tc τ q = 141 from y)]; exact ⟨a1.2, by rw [upC_at, m92 f2]⟩
          · rw [if_pos (show tc τ q = 141 from y)]; exact ⟨upC_at _ _ _ _, by rw [upC_sK (by decide)]; exact po.2.1, by rw [upC_sK (by decide)]; exact po.2.2⟩
  · obtain ⟨e, rfl⟩ : ∃ e, d = e + 4 := ⟨d - 4, by omega⟩
    refine b_X11_readPlain_0 (d := e + 3) F (b_X11_readPlain_2 (d := e + 3) F ⟨fun y => absurd y (by decide), fun _ => t_takesB (d := e + 2) F h21 ⟨rfl, b_X11_readPlain_2 (d := e + 3) F ⟨fun _ => b_X11_fine_0 F ⟨fun _ => ⟨rfl, fun y => absurd rfl y, fun _ => hk C Fp_rf rfl⟩, fun z => absurd z h21⟩, fun y => absurd rfl y⟩⟩⟩)
theorem m_test {τ : Tks} {o : Bool} {m : Nat} {l : Int} {pl : Rdr TSem} (hpt : RdM τ o (m + 1) pl (fun d S C Q => K_X11_readPlain_0 d 0 0 l S C Q)) (hG : Gd τ Tr pl) : RdM τ o (m + 3) (testP τ pl) (fun d S C Q => K_X11_readTest_0 d 0 0 l S C Q) :=
  m_lazy (m_lazy hpt hG (lp_both τ o l) (by decide) (fun d S C Q F h => b_X11_readBoth_0 F h)) (Gd_lazy hG) (lp_test τ o l) (by decide) (fun d S C Q F h => b_X11_readTest_0 F h)
theorem m_pl (τ : Tks) (o : Bool) : ∀ (g dp : Nat), dp + g = 8 → RdM τ o (6 * g + 12) (plP τ o g) (fun d S C Q => K_X11_readPlain_0 d 0 0 (dp : Int) S C Q)
  | 0, dp, h => RdM_up (m_plain (m := 7) (by omega) (m_sumg τ o 0 dp h) (Gd_sum (Gd_pt τ o 0)) (Or.inl ⟨by omega, rfl⟩)) (by omega)
  | g + 1, dp, h => RdM_up (m_plain (m := 6 * g + 14) (by omega) (RdM_up (m_sumg τ o (g + 1) dp h) (by omega)) (Gd_sum (Gd_pt τ o (g + 1))) (Or.inr ⟨by omega, _, rfl, m_test (m := 6 * g + 11) (m_pl τ o g (dp + 1) (by omega)) (Gd_pl τ o g), Gd_test (Gd_pl τ o g)⟩)) (by omega)
theorem m_sum8 (τ : Tks) (o : Bool) : RdM τ o 70 (sum8 τ o) (fun d S C Q => K_X11_readSum_0 d 0 0 0 S C Q) := RdM_up (m_sumg τ o 8 0 rfl) (by decide)
theorem m_test8 (τ : Tks) (o : Bool) : RdM τ o 70 (test8 τ o) (fun d S C Q => K_X11_readTest_0 d 0 0 0 S C Q) := RdM_up (m_test (m := 59) (m_pl τ o 8 0 rfl) (Gd_pl τ o 8)) (by decide)
