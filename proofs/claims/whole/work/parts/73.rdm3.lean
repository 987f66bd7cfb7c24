/-! 73.rdm3: the reference reads clauses and texts -/
abbrev pC (d : Nat) (S : MS) (C : MC) (Q : Qt) : Prop := K_X11_takes0_0 d 0 0 4 S C (fun r Sq C2 => Sq = S ∧ ((r = 0 → Q 0 S C2) ∧ (¬ r = 0 → K_X11_readTest_0 d 0 0 0 S C2 (fun _ Sq C8 => Sq = S ∧ Q 0 S C8))))
abbrev pT (d : Nat) (S : MS) (C : MC) (Q : Qt) : Prop := K_X11_takes0_0 d 0 0 27 S C (fun r Sq C2 => Sq = S ∧ ((r = 0 → pC d S C2 Q) ∧ (¬ r = 0 → K_X11_mustNumber_0 d 0 0 1 20 S C2 (fun _ Sq C8 => Sq = S ∧ pC d S C8 Q))))
abbrev p2 (c : Int) (d : Nat) (S : MS) (C : MC) (Q : Qt) : Prop := K_X11_readSum_0 d 0 0 0 S C (fun _ Sq C2 => Sq = S ∧ K_X11_must_0 d 0 0 c S C2 (fun _ Sq C4 => Sq = S ∧ K_X11_readSum_0 d 0 0 0 S C4 (fun _ Sq C6 => Sq = S ∧ pT d S C6 Q)))
theorem m_cond (τ : Tks) (o : Bool) (k : Int → TSem → Cla) : RdM τ o 71 (condP τ o k) pC := by
  refine ⟨fun d S C Q p lv c0 hm F T hp hlv h19 h20 h21 hk => ?_, fun d S C Q hm F h21 hk => ?_⟩
  · obtain ⟨e, rfl⟩ : ∃ e, d = e + 1 := ⟨d - 1, by omega⟩
    unfold condP at hk
    refine t_takes F T h19 hp h21 (fun z => ⟨rfl, fun _ => hk C Fp_rf (by rw [if_neg z]; exact ⟨h19, h20, h21⟩), fun y => absurd rfl y⟩) (fun z => ⟨rfl, fun y => absurd y (by decide), fun _ => ?_⟩)
    have hp1 := tc_in (τ := τ) (p := p) (by rw [z]; decide)
    have fU : Fp mrx C (upC C 81 19 ((p + 1 : Nat) : Int)) := fm19 Fp_rf
    refine (m_test8 τ o).1 (e + 1) S _ _ (p + 1) lv c0 (by omega) F (TkM_fp T fU) hp1 hlv (upC_at _ _ _ _) (by rw [upC_sK (by decide)]; exact h20) (by rw [upC_sK (by decide)]; exact h21) (fun C1 f1 po => ⟨rfl, hk C1 (Fp_tr fU f1) ?_⟩)
    have := PoM_tr fU po
    rw [if_pos z]
    cases hs : test8 τ o (p + 1) lv c0 with
    | inl q => rw [hs] at this; exact this
    | inr t => rw [hs] at this; exact this
  · obtain ⟨e, rfl⟩ : ∃ e, d = e + 1 := ⟨d - 1, by omega⟩
    exact t_takesB F h21 ⟨rfl, fun _ => hk C Fp_rf rfl, fun y => absurd rfl y⟩
theorem m_rule (τ : Tks) : RdM τ false 72 (ruleP τ) (fun d S C Q => K_X11_readClause_0 d 0 0 S C Q) := by
  refine ⟨fun d S C Q p lv c0 hm F T hp hlv h19 h20 h21 hk => ?_, fun d S C Q hm F h21 hk => ?_⟩
  · obtain ⟨e, rfl⟩ : ∃ e, d = e + 3 := ⟨d - 3, by omega⟩
    have hN := T.2.1
    have fU : Fp mrx C (upC C 81 19 ((p + 1 : Nat) : Int)) := fm19 Fp_rf
    have u20 : upC C 81 19 ((p + 1 : Nat) : Int) 81 20 = lv := by rw [upC_sK (by decide)]; exact h20
    have u21 : upC C 81 19 ((p + 1 : Nat) : Int) 81 21 = -1 := by rw [upC_sK (by decide)]; exact h21
    refine b_X11_readClause_0 (d := e + 2) F (t_takes (d := e + 1) F T h19 hp h21 (fun z1 => ⟨rfl, fun _ => t_takes (d := e + 1) F T h19 hp h21 (fun z2 => ⟨rfl, fun y => absurd rfl y, fun _ => t_must (d := e) F T h19 hp h21 (fun z3 => ⟨rfl, ?_⟩) (fun z3 => ⟨rfl, ?_⟩)⟩) (fun z2 => ⟨rfl, fun _ => ?_, fun y => absurd y (by decide)⟩), fun y => absurd rfl y⟩) (fun z1 => ⟨rfl, fun y => absurd y (by decide), fun _ => ?_⟩))
    · have e21 : upC C 81 21 (C 92 (p : Int)) 81 21 = C 92 p := upC_at _ _ _ _
      refine (m_cond τ false (fun i t => ((6, 1), (-1, -1, i), (fun _ => some 0, fun _ => some 0, t)))).2 (e + 2) S _ _ (by omega) F (bad_of T hp e21) (fun C1 f1 e1 => hk C1 (Fp_tr (fm21 Fp_rf) f1) ?_)
      unfold ruleP
      rw [if_neg z1, if_neg z2, if_neg z3]
      exact ⟨hp, by rw [e1, e21]⟩
    · have hp1 := tc_in (τ := τ) (p := p) (by rw [z3]; decide)
      refine (m_cond τ false (fun i t => ((6, 1), (-1, -1, i), (fun _ => some 0, fun _ => some 0, t)))).1 (e + 2) S _ _ (p + 1) lv c0 (by omega) F (TkM_fp T fU) hp1 hlv (upC_at _ _ _ _) u20 u21 (fun C1 f1 po => hk C1 (Fp_tr fU f1) ?_)
      unfold ruleP
      rw [if_neg z1, if_neg z2, if_pos z3]
      exact PoM_tr fU po
    · have hp1 := tc_in (τ := τ) (p := p) (by rw [z2]; decide)
      refine (m_cond τ false (fun i t => ((5, 1), (-1, -1, i), (fun _ => some 0, fun _ => some 0, t)))).1 (e + 2) S _ _ (p + 1) lv c0 (by omega) F (TkM_fp T fU) hp1 hlv (upC_at _ _ _ _) u20 u21 (fun C1 f1 po => hk C1 (Fp_tr fU f1) ?_)
      unfold ruleP
      rw [if_neg z1, if_pos z2]
      exact PoM_tr fU po
    · have hp1 := tc_in (τ := τ) (p := p) (by rw [z1]; decide)
      unfold ruleP at hk
      rw [if_pos z1] at hk
      refine (m_sum8 τ false).1 (e + 2) S _ _ (p + 1) lv c0 (by omega) F (TkM_fp T fU) hp1 hlv (upC_at _ _ _ _) u20 u21 (fun C1 f1 po => ⟨rfl, ?_⟩)
      have f2 := Fp_tr fU f1
      have po2 := PoM_tr fU po
      cases hs : sum8 τ false (p + 1) lv c0 with
      | inl q =>
        rw [hs] at po2 hk
        exact (m_cond τ false (fun i t => ((6, 1), (-1, -1, i), (fun _ => some 0, fun _ => some 0, t)))).2 (e + 2) S C1 _ (by omega) F (bad_of T po2.1 po2.2) (fun C2 f3 e3 => hk C2 (Fp_tr f2 f3) ⟨po2.1, by rw [e3, po2.2]⟩)
      | inr t =>
        obtain ⟨g, q, lv', cd'⟩ := t
        rw [hs] at po2 hk
        obtain ⟨a1, a2, _⟩ := Gd_sum8 τ false _ _ _ _ _ _ _ hs
        simp only at hk
        refine (m_cond τ false (fun i t => ((4, 1), ((c0 : Int), -1, i), (g, fun _ => some 0, t)))).1 (e + 2) S C1 _ q lv' (c0 + (cd'.length + 1)) (by omega) F (TkM_fp T f2) a1.2 (a2.2 hlv) po2.1 po2.2.1 po2.2.2 (fun C2 f3 po3 => hk C2 (Fp_tr f2 f3) ?_)
        have po4 := PoM_tr f2 po3
        cases hs2 : condP τ false (fun i t => ((4, 1), ((c0 : Int), -1, i), (g, fun _ => some 0, t))) q lv' (c0 + (cd'.length + 1)) with
        | inl r => rw [hs2] at po4; exact po4
        | inr t => rw [hs2] at po4; exact po4
  · obtain ⟨e, rfl⟩ : ∃ e, d = e + 3 := ⟨d - 3, by omega⟩
    exact b_X11_readClause_0 (d := e + 2) F (t_takesB (d := e + 1) F h21 ⟨rfl, fun _ => t_takesB (d := e + 1) F h21 ⟨rfl, fun y => absurd rfl y, fun _ => t_mustB (d := e) F h21 ⟨rfl, (m_cond τ false (fun i t => ((6, 1), (-1, -1, i), (fun _ => some 0, fun _ => some 0, t)))).2 (e + 2) S C _ (by omega) F h21 hk⟩⟩, fun y => absurd rfl y⟩)
theorem m_tail (τ : Tks) (v i j : Int) (f g : Sem) : RdM τ true 72 (tailP τ v i j f g) pT := by
  refine ⟨fun d S C Q p lv c0 hm F T hp hlv h19 h20 h21 hk => ?_, fun d S C Q hm F h21 hk => ?_⟩
  · obtain ⟨e, rfl⟩ : ∃ e, d = e + 2 := ⟨d - 2, by omega⟩
    unfold tailP timesP at hk
    have fU : Fp mrx C (upC C 81 19 ((p + 1 : Nat) : Int)) := fm19 Fp_rf
    refine t_takes (d := e + 1) F T h19 hp h21 (fun z => ⟨rfl, fun _ => ?_, fun y => absurd rfl y⟩) (fun z => ⟨rfl, fun y => absurd y (by decide), fun _ => ?_⟩)
    · rw [if_neg z] at hk
      exact (m_cond τ true _).1 (e + 2) S C Q p lv c0 (by omega) F T hp hlv h19 h20 h21 hk
    · have hp1 := tc_in (τ := τ) (p := p) (by rw [z]; decide)
      rw [if_pos z] at hk
      refine t_mnum (d := e) F (TkM_fp T fU) (upC_at _ _ _ _) hp1 (by rw [upC_sK (by decide)]; exact h21) (fun y => ⟨rfl, ?_⟩) (fun y => ⟨rfl, ?_⟩)
      · rw [if_neg y] at hk
        have e21 : upC (upC C 81 19 ((p + 1 : Nat) : Int)) 81 21 (upC C 81 19 ((p + 1 : Nat) : Int) 92 ((p + 1 : Nat) : Int)) 81 21 = C 92 ((p + 1 : Nat) : Int) := by rw [upC_at, upC_ne (by decide)]
        exact (m_cond τ true (fun k t => ((v, 1), (i, j, k), (f, g, t)))).2 (e + 2) S _ Q (by omega) F (bad_of T hp1 e21) (fun C1 f1 e1 => hk C1 (Fp_tr (fm21 fU) f1) ⟨hp1, by rw [e1, e21]⟩)
      · rw [if_pos y] at hk
        have hp2 := tc_in (τ := τ) (p := p + 1) (by rw [y.1]; decide)
        have fV : Fp mrx C (upC (upC C 81 19 ((p + 1 : Nat) : Int)) 81 19 ((p + 1 + 1 : Nat) : Int)) := fm19 fU
        exact (m_cond τ true _).1 (e + 2) S _ Q (p + 2) lv c0 (by omega) F (TkM_fp T fV) hp2 hlv (upC_at _ _ _ _) (by rw [upC_sK (by decide), upC_sK (by decide)]; exact h20) (by rw [upC_sK (by decide), upC_sK (by decide)]; exact h21) (fun C1 f1 po => hk C1 (Fp_tr fV f1) (PoM_tr fV po))
  · obtain ⟨e, rfl⟩ : ∃ e, d = e + 2 := ⟨d - 2, by omega⟩
    exact t_takesB (d := e + 1) F h21 ⟨rfl, fun _ => (m_cond τ true (fun k t => ((v, 1), (i, j, k), (f, g, t)))).2 (e + 2) S C Q (by omega) F h21 hk, fun y => absurd rfl y⟩
theorem PoM_app {τ : Tks} {C C' : MC} {cd : List Int} {r : PR Cla} (h : PoM τ C C' r) : PoM τ C C' (appP cd r) := by
  cases r with
  | inl q => exact h
  | inr t => exact h
theorem m_two (τ : Tks) (v c : Int) (hc : c ≠ 0) : RdM τ true 72 (twoP τ v c) (p2 c) := by
  refine ⟨fun d S C Q p lv c0 hm F T hp hlv h19 h20 h21 hk => ?_, fun d S C Q hm F h21 hk => ?_⟩
  · obtain ⟨e, rfl⟩ : ∃ e, d = e + 2 := ⟨d - 2, by omega⟩
    unfold twoP at hk
    have badT := fun (C1 : MC) (f1 : Fp mrx C C1) (q : Nat) (hq : q ≤ τ.length) (e1 : C1 81 21 = C 92 q) (hq2 : ∀ C', Fp mrx C C' → C' 81 21 = C 92 q → Q 0 S C') => (m_tail τ v 0 0 (fun _ => some 0) (fun _ => some 0)).2 (e + 2) S C1 Q (by omega) F (bad_of T hq e1) (fun C2 f2 e2 => hq2 C2 (Fp_tr f1 f2) (by rw [e2, e1]))
    refine (m_sum8 τ true).1 (e + 2) S C _ p lv c0 (by omega) F T hp hlv h19 h20 h21 (fun C1 f1 po => ⟨rfl, ?_⟩)
    cases hs : sum8 τ true p lv c0 with
    | inl q =>
      rw [hs] at po hk
      have nb := bad_of T po.1 po.2
      exact t_mustB (d := e) F nb ⟨rfl, (m_sum8 τ true).2 (e + 2) S C1 _ (by omega) F nb (fun C2 f2 e2 => ⟨rfl, badT C2 (Fp_tr f1 f2) q po.1 (by rw [e2, po.2]) (fun C' f' e' => hk C' f' ⟨po.1, e'⟩)⟩)⟩
    | inr t =>
      obtain ⟨g, q, lv', cd'⟩ := t
      rw [hs] at po hk
      obtain ⟨a1, a2, _⟩ := Gd_sum8 τ true _ _ _ _ _ _ _ hs
      simp only at hk
      refine t_must (d := e) F (TkM_fp T f1) po.1 a1.2 po.2.2 (fun z => ⟨rfl, ?_⟩) (fun z => ⟨rfl, ?_⟩)
      · have e21 : upC C1 81 21 (C1 92 (q : Int)) 81 21 = C 92 q := by rw [upC_at, m92 f1]
        have nb := bad_of T a1.2 e21
        refine (m_sum8 τ true).2 (e + 2) S _ _ (by omega) F nb (fun C2 f2 e2 => ⟨rfl, badT C2 (Fp_tr (fm21 f1) f2) q a1.2 (by rw [e2, e21]) (fun C' f' e' => hk C' f' ?_)⟩)
        rw [if_neg z]
        exact ⟨a1.2, e'⟩
      · have hq1 := tc_in (τ := τ) (p := q) (by rw [z]; exact hc)
        rw [if_pos z] at hk
        have fU : Fp mrx C (upC C1 81 19 ((q + 1 : Nat) : Int)) := fm19 f1
        refine (m_sum8 τ true).1 (e + 2) S _ _ (q + 1) lv' (c0 + (cd'.length + 1)) (by omega) F (TkM_fp T fU) hq1 (a2.2 hlv) (upC_at _ _ _ _) (by rw [upC_sK (by decide)]; exact po.2.1) (by rw [upC_sK (by decide)]; exact po.2.2) (fun C2 f2 po2 => ⟨rfl, ?_⟩)
        have po3 := PoM_tr fU po2
        have f3 := Fp_tr fU f2
        cases hs2 : sum8 τ true (q + 1) lv' (c0 + (cd'.length + 1)) with
        | inl r =>
          rw [hs2] at po3 hk
          exact badT C2 f3 r po3.1 po3.2 (fun C' f' e' => hk C' f' ⟨po3.1, e'⟩)
        | inr t =>
          obtain ⟨g2, q2, lv2, cd2⟩ := t
          rw [hs2] at po3 hk
          obtain ⟨b1, b2', _⟩ := Gd_sum8 τ true _ _ _ _ _ _ _ hs2
          simp only at hk
          exact (m_tail τ v _ _ g g2).1 (e + 2) S C2 Q q2 lv2 _ (by omega) F (TkM_fp T f3) b1.2 (b2'.2 (a2.2 hlv)) po3.1 po3.2.1 po3.2.2 (fun C' f' po' => hk C' (Fp_tr f3 f') (PoM_app (PoM_tr f3 po')))
  · obtain ⟨e, rfl⟩ : ∃ e, d = e + 2 := ⟨d - 2, by omega⟩
    refine (m_sum8 τ true).2 (e + 2) S C _ (by omega) F h21 (fun C1 f1 e1 => ⟨rfl, ?_⟩)
    have n1 : C1 81 21 ≠ -1 := by rw [e1]; exact h21
    refine t_mustB (d := e) F n1 ⟨rfl, (m_sum8 τ true).2 (e + 2) S C1 _ (by omega) F n1 (fun C2 f2 e2 => ⟨rfl, (m_tail τ v 0 0 (fun _ => some 0) (fun _ => some 0)).2 (e + 2) S C2 Q (by omega) F (by rw [e2]; exact n1) (fun C3 f3 e3 => hk C3 (Fp_tr f1 (Fp_tr f2 f3)) (by rw [e3, e2, e1]))⟩)⟩
theorem m_order (τ : Tks) : RdM τ true 74 (orderP τ) (fun d S C Q => K_X11_readOrder_0 d 0 0 S C Q) := by
  refine ⟨fun d S C Q p lv c0 hm F T hp hlv h19 h20 h21 hk => ?_, fun d S C Q hm F h21 hk => ?_⟩
  · obtain ⟨e, rfl⟩ : ∃ e, d = e + 3 := ⟨d - 3, by omega⟩
    have fU : Fp mrx C (upC C 81 19 ((p + 1 : Nat) : Int)) := fm19 Fp_rf
    have u20 : upC C 81 19 ((p + 1 : Nat) : Int) 81 20 = lv := by rw [upC_sK (by decide)]; exact h20
    have u21 : upC C 81 19 ((p + 1 : Nat) : Int) 81 21 = -1 := by rw [upC_sK (by decide)]; exact h21
    unfold orderP at hk
    refine b_X11_readOrder_0 (d := e + 2) F (t_takes (d := e + 1) F T h19 hp h21 (fun z1 => ⟨rfl, fun _ => t_takes (d := e + 1) F T h19 hp h21 (fun z2 => ⟨rfl, fun _ => t_takes (d := e + 1) F T h19 hp h21 (fun z3 => ⟨rfl, fun _ => t_must (d := e) F T h19 hp h21 (fun z4 => ⟨rfl, ?_⟩) (fun z4 => ⟨rfl, ?_⟩), fun y => absurd rfl y⟩) (fun z3 => ⟨rfl, fun y => absurd y (by decide), fun _ => ?_⟩), fun y => absurd rfl y⟩) (fun z2 => ⟨rfl, fun y => absurd y (by decide), fun _ => ?_⟩), fun y => absurd rfl y⟩) (fun z1 => ⟨rfl, fun y => absurd y (by decide), fun _ => ?_⟩))
    · rw [if_neg z1, if_neg z2, if_neg z3, if_neg z4] at hk
      have e21 : upC C 81 21 (C 92 (p : Int)) 81 21 = C 92 p := upC_at _ _ _ _
      exact (m_tail τ 3 (-1) (-1) (fun _ => some 0) (fun _ => some 0)).2 (e + 2) S _ Q (by omega) F (bad_of T hp e21) (fun C1 f1 e1 => hk C1 (Fp_tr (fm21 Fp_rf) f1) ⟨hp, by rw [e1, e21]⟩)
    · rw [if_neg z1, if_neg z2, if_neg z3, if_pos z4] at hk
      have hp1 := tc_in (τ := τ) (p := p) (by rw [z4]; decide)
      exact (m_tail τ 3 (-1) (-1) (fun _ => some 0) (fun _ => some 0)).1 (e + 2) S _ Q (p + 1) lv c0 (by omega) F (TkM_fp T fU) hp1 hlv (upC_at _ _ _ _) u20 u21 (fun C1 f1 po => hk C1 (Fp_tr fU f1) (PoM_tr fU po))
    · rw [if_neg z1, if_neg z2, if_pos z3] at hk
      have hp1 := tc_in (τ := τ) (p := p) (by rw [z3]; decide)
      refine (m_sum8 τ true).1 (e + 2) S _ _ (p + 1) lv c0 (by omega) F (TkM_fp T fU) hp1 hlv (upC_at _ _ _ _) u20 u21 (fun C1 f1 po => ⟨rfl, ?_⟩)
      have po2 := PoM_tr fU po
      have f2 := Fp_tr fU f1
      cases hs : sum8 τ true (p + 1) lv c0 with
      | inl q =>
        rw [hs] at po2 hk
        exact (m_tail τ 2 0 0 (fun _ => some 0) (fun _ => some 0)).2 (e + 2) S C1 Q (by omega) F (bad_of T po2.1 po2.2) (fun C2 f3 e3 => hk C2 (Fp_tr f2 f3) ⟨po2.1, by rw [e3, po2.2]⟩)
      | inr t =>
        obtain ⟨g, q, lv', cd'⟩ := t
        rw [hs] at po2 hk
        obtain ⟨a1, a2, _⟩ := Gd_sum8 τ true _ _ _ _ _ _ _ hs
        simp only at hk
        exact (m_tail τ 2 _ _ g _).1 (e + 2) S C1 Q q lv' _ (by omega) F (TkM_fp T f2) a1.2 (a2.2 hlv) po2.1 po2.2.1 po2.2.2 (fun C' f' po' => hk C' (Fp_tr f2 f') (PoM_app (PoM_tr f2 po')))
    · rw [if_neg z1, if_pos z2] at hk
      have hp1 := tc_in (τ := τ) (p := p) (by rw [z2]; decide)
      exact (m_two τ 1 24 (by decide)).1 (e + 2) S _ Q (p + 1) lv c0 (by omega) F (TkM_fp T fU) hp1 hlv (upC_at _ _ _ _) u20 u21 (fun C1 f1 po => hk C1 (Fp_tr fU f1) (PoM_tr fU po))
    · rw [if_pos z1] at hk
      have hp1 := tc_in (τ := τ) (p := p) (by rw [z1]; decide)
      exact (m_two τ 0 22 (by decide)).1 (e + 2) S _ Q (p + 1) lv c0 (by omega) F (TkM_fp T fU) hp1 hlv (upC_at _ _ _ _) u20 u21 (fun C1 f1 po => hk C1 (Fp_tr fU f1) (PoM_tr fU po))
  · obtain ⟨e, rfl⟩ : ∃ e, d = e + 3 := ⟨d - 3, by omega⟩
    exact b_X11_readOrder_0 (d := e + 2) F (t_takesB (d := e + 1) F h21 ⟨rfl, fun _ => t_takesB (d := e + 1) F h21 ⟨rfl, fun _ => t_takesB (d := e + 1) F h21 ⟨rfl, fun _ => t_mustB (d := e) F h21 ⟨rfl, (m_tail τ 3 (-1) (-1) (fun _ => some 0) (fun _ => some 0)).2 (e + 2) S C Q (by omega) F h21 hk⟩, fun y => absurd rfl y⟩, fun y => absurd rfl y⟩, fun y => absurd rfl y⟩)
def oneP (τ : Tks) (o : Bool) : Rdr Cla := if o then orderP τ else ruleP τ
theorem m_one (τ : Tks) (o : Bool) : RdM τ o 75 (oneP τ o) (fun d S C Q => K_X11_readOne_0 d 0 0 S C Q) := by
  have e10 : ∀ {C : MC}, TkM τ o C → C 81 10 = b2 o := fun T => T.2.2.2.1
  refine ⟨fun d S C Q p lv c0 hm F T hp hlv h19 h20 h21 hk => ?_, fun d S C Q hm F h21 hk => ?_⟩
  · obtain ⟨e, rfl⟩ : ∃ e, d = e + 1 := ⟨d - 1, by omega⟩
    have o10 := e10 T
    cases o with
    | false => exact b_X11_readOne_0 (d := e) F ⟨fun _ => (m_rule τ).1 e S C _ p lv c0 (by omega) F T hp hlv h19 h20 h21 (fun C1 f1 po => ⟨rfl, hk C1 f1 po⟩), fun z => absurd o10 z⟩
    | true => exact b_X11_readOne_0 (d := e) F ⟨fun z => absurd (o10.symm.trans z) (by decide), fun _ => (m_order τ).1 e S C _ p lv c0 (by omega) F T hp hlv h19 h20 h21 (fun C1 f1 po => ⟨rfl, hk C1 f1 po⟩)⟩
  · obtain ⟨e, rfl⟩ : ∃ e, d = e + 1 := ⟨d - 1, by omega⟩
    exact b_X11_readOne_0 (d := e) F ⟨fun _ => (m_rule τ).2 e S C _ (by omega) F h21 (fun C1 f1 po => ⟨rfl, hk C1 f1 po⟩), fun _ => (m_order τ).2 e S C _ (by omega) F h21 (fun C1 f1 po => ⟨rfl, hk C1 f1 po⟩)⟩
theorem Gd_cond {τ : Tks} {o : Bool} {k : Int → TSem → Cla} {p lv c0 : Nat} {cl : Cla} {q lv' : Nat} {cd : List Int} (e : condP τ o k p lv c0 = .inr (cl, q, lv', cd)) (hp : p ≤ τ.length) : (p ≤ q ∧ q ≤ τ.length) ∧ (lv ≤ lv' ∧ (lv ≤ 50 → lv' ≤ 50)) := by
  rcases condP_inv e with ⟨_, t, cd1, e1, _⟩ | ⟨_, _, e2, e3, _⟩
  · obtain ⟨a1, a2, _⟩ := Gd_test8 τ o _ _ _ _ _ _ _ e1
    exact ⟨by omega, by omega⟩
  · exact ⟨by omega, by omega⟩
def TrC (_ : Cla) : Prop := True
def GdC (τ : Tks) (rd : Rdr Cla) : Prop := ∀ p lv c0 f q lv' cd, rd p lv c0 = .inr (f, q, lv', cd) → (p < q ∧ q ≤ τ.length) ∧ (lv ≤ lv' ∧ (lv ≤ 50 → lv' ≤ 50))
theorem Gd_rule (τ : Tks) : GdC τ (ruleP τ) := by
  intro p lv c0 cl q lv' cd e
  rcases ruleP_inv e with ⟨z, f, q1, lv1, cd1, cd2, e1, e2, _⟩ | ⟨z, e1⟩
  · obtain ⟨a1, a2, _⟩ := Gd_sum8 τ false _ _ _ _ _ _ _ e1
    obtain ⟨b1, b2⟩ := Gd_cond e2 a1.2
    exact ⟨by omega, by omega⟩
  · have hp := tc_in (τ := τ) (p := p) (by omega)
    obtain ⟨b1, b2⟩ := Gd_cond e1 hp
    exact ⟨by omega, by omega⟩
theorem tailP_inv {τ : Tks} {v i j : Int} {f g : Sem} {p lv c0 : Nat} {cl : Cla} {q lv' : Nat} {cd : List Int} (e : tailP τ v i j f g p lv c0 = .inr (cl, q, lv', cd)) : ∃ (n : Int) (p1 : Nat), (1 ≤ n ∧ n ≤ 20) ∧ ((tc τ p = 27 ∧ tc τ (p + 1) = 50 ∧ n = tv τ (p + 1) ∧ p1 = p + 2) ∨ (tc τ p ≠ 27 ∧ n = 1 ∧ p1 = p)) ∧ condP τ true (fun k t => ((v, n), (i, j, k), (f, g, t))) p1 lv c0 = .inr (cl, q, lv', cd) := by
  unfold tailP timesP at e
  split at e
  · rename_i z
    split at e
    · rename_i y
      exact ⟨tv τ (p + 1), p + 2, y.2, Or.inl ⟨z, y.1, rfl, rfl⟩, e⟩
    · cases e
  · rename_i z
    exact ⟨1, p, by decide, Or.inr ⟨z, rfl, rfl⟩, e⟩
theorem Gd_tail {τ : Tks} {v i j : Int} {f g : Sem} {p lv c0 : Nat} {cl : Cla} {q lv' : Nat} {cd : List Int} (e : tailP τ v i j f g p lv c0 = .inr (cl, q, lv', cd)) (hp : p ≤ τ.length) : (p ≤ q ∧ q ≤ τ.length) ∧ (lv ≤ lv' ∧ (lv ≤ 50 → lv' ≤ 50)) := by
  obtain ⟨n, p1, hn, h, e1⟩ := tailP_inv e
  have hp1 : p ≤ p1 ∧ p1 ≤ τ.length := by
    rcases h with ⟨_, y, _, z⟩ | ⟨_, _, z⟩
    · have := tc_in (τ := τ) (p := p + 1) (by rw [y]; decide); omega
    · omega
  obtain ⟨b1, b2⟩ := Gd_cond e1 hp1.2
  exact ⟨by omega, by omega⟩
theorem appP_inv {α : Type} {cd0 : List Int} {r : PR α} {x : α} {q lv : Nat} {cd : List Int} (e : appP cd0 r = .inr (x, q, lv, cd)) : ∃ cd2, r = .inr (x, q, lv, cd2) ∧ cd = cd0 ++ cd2 := by
  cases r with
  | inl q => cases e
  | inr t =>
    obtain ⟨a, b, c, d⟩ := t
    cases e
    exact ⟨d, rfl, rfl⟩
theorem twoP_inv {τ : Tks} {v c : Int} {p lv c0 : Nat} {cl : Cla} {q lv' : Nat} {cd : List Int} (e : twoP τ v c p lv c0 = .inr (cl, q, lv', cd)) : ∃ f q1 lv1 cd1 g q2 lv2 cd2 cd3, sum8 τ true p lv c0 = .inr (f, q1, lv1, cd1) ∧ tc τ q1 = c ∧ sum8 τ true (q1 + 1) lv1 (c0 + (cd1.length + 1)) = .inr (g, q2, lv2, cd2) ∧ tailP τ v c0 ((c0 + (cd1.length + 1) : Nat) : Int) f g q2 lv2 (c0 + (cd1.length + 1) + (cd2.length + 1)) = .inr (cl, q, lv', cd3) ∧ cd = (cd1 ++ (0 :: (cd2 ++ [0]))) ++ cd3 := by
  unfold twoP at e
  cases hs : sum8 τ true p lv c0 with
  | inl q => rw [hs] at e; cases e
  | inr t =>
    obtain ⟨f, q1, lv1, cd1⟩ := t
    rw [hs] at e
    simp only at e
    split at e
    · rename_i z
      cases hs2 : sum8 τ true (q1 + 1) lv1 (c0 + (cd1.length + 1)) with
      | inl q => rw [hs2] at e; cases e
      | inr t =>
        obtain ⟨g, q2, lv2, cd2⟩ := t
        rw [hs2] at e
        simp only at e
        obtain ⟨cd3, e3, e4⟩ := appP_inv e
        exact ⟨f, q1, lv1, cd1, g, q2, lv2, cd2, cd3, rfl, z, hs2, e3, e4⟩
    · cases e
theorem orderP_inv {τ : Tks} {p lv c0 : Nat} {cl : Cla} {q lv' : Nat} {cd : List Int} (e : orderP τ p lv c0 = .inr (cl, q, lv', cd)) : (tc τ p = 21 ∧ twoP τ 0 22 (p + 1) lv c0 = .inr (cl, q, lv', cd)) ∨ (tc τ p = 23 ∧ twoP τ 1 24 (p + 1) lv c0 = .inr (cl, q, lv', cd)) ∨ (tc τ p = 25 ∧ ∃ f q1 lv1 cd1 cd3, sum8 τ true (p + 1) lv c0 = .inr (f, q1, lv1, cd1) ∧ tailP τ 2 c0 (-1) f (fun _ => some 0) q1 lv1 (c0 + (cd1.length + 1)) = .inr (cl, q, lv', cd3) ∧ cd = (cd1 ++ [0]) ++ cd3) ∨ (tc τ p = 26 ∧ tailP τ 3 (-1) (-1) (fun _ => some 0) (fun _ => some 0) (p + 1) lv c0 = .inr (cl, q, lv', cd)) := by
  unfold orderP at e
  split at e
  · rename_i z; exact Or.inl ⟨z, e⟩
  split at e
  · rename_i z; exact Or.inr (Or.inl ⟨z, e⟩)
  split at e
  · rename_i z
    cases hs : sum8 τ true (p + 1) lv c0 with
    | inl q => rw [hs] at e; cases e
    | inr t =>
      obtain ⟨f, q1, lv1, cd1⟩ := t
      rw [hs] at e
      simp only at e
      obtain ⟨cd3, e3, e4⟩ := appP_inv e
      exact Or.inr (Or.inr (Or.inl ⟨z, f, q1, lv1, cd1, cd3, rfl, e3, e4⟩))
  split at e
  · rename_i z; exact Or.inr (Or.inr (Or.inr ⟨z, e⟩))
  · cases e
theorem Gd_two {τ : Tks} {v c : Int} {p lv c0 : Nat} {cl : Cla} {q lv' : Nat} {cd : List Int} (e : twoP τ v c p lv c0 = .inr (cl, q, lv', cd)) : (p ≤ q ∧ q ≤ τ.length) ∧ (lv ≤ lv' ∧ (lv ≤ 50 → lv' ≤ 50)) := by
  obtain ⟨f, q1, lv1, cd1, g, q2, lv2, cd2, cd3, e1, z, e2, e3, _⟩ := twoP_inv e
  obtain ⟨a1, a2, _⟩ := Gd_sum8 τ true _ _ _ _ _ _ _ e1
  obtain ⟨b1, b2, _⟩ := Gd_sum8 τ true _ _ _ _ _ _ _ e2
  obtain ⟨c1, c2⟩ := Gd_tail e3 b1.2
  exact ⟨by omega, by omega⟩
theorem Gd_order (τ : Tks) : GdC τ (orderP τ) := by
  intro p lv c0 cl q lv' cd e
  rcases orderP_inv e with ⟨z, e1⟩ | ⟨z, e1⟩ | ⟨z, f, q1, lv1, cd1, cd3, e1, e2, _⟩ | ⟨z, e1⟩
  · obtain ⟨a, b⟩ := Gd_two e1; exact ⟨by omega, by omega⟩
  · obtain ⟨a, b⟩ := Gd_two e1; exact ⟨by omega, by omega⟩
  · obtain ⟨a1, a2, _⟩ := Gd_sum8 τ true _ _ _ _ _ _ _ e1
    obtain ⟨c1, c2⟩ := Gd_tail e2 a1.2
    exact ⟨by omega, by omega⟩
  · have hp := tc_in (τ := τ) (p := p) (by omega)
    obtain ⟨c1, c2⟩ := Gd_tail e1 hp
    exact ⟨by omega, by omega⟩
theorem Gd_one (τ : Tks) (o : Bool) : GdC τ (oneP τ o) := by cases o with
  | false => exact Gd_rule τ
  | true => exact Gd_order τ
/-! texts -/
def flt {β : Type} : Sum Nat β → Option Nat
  | .inl q => some q
  | .inr _ => none
def mry (a k : Int) : Prop := a = 81 ∧ (k = 14 ∨ k = 19 ∨ k = 20 ∨ k = 21)
theorem mrx_y {C C' : MC} (f : Fp mrx C C') : Fp mry C C' := Fp_mono f (fun a k q => by unfold mrx at q; unfold mry; omega)
def PoT (τ : Tks) (C C' : MC) (r : Int) : Option Nat → Prop
  | some q => r = 0 ∧ q ≤ τ.length ∧ C' 81 14 = C 92 q
  | none => r = 1 ∧ C' 81 14 = -1
theorem t_endB {d : Nat} {l : Int} {S : MS} {C : MC} {Q : Qt} (F : Fix S) (h21 : C 81 21 ≠ -1) (h0 : Q 0 S (upC C 81 14 (C 81 21))) : K_X11_reads_34 (d + 2) 0 0 l S C Q :=
  b_X11_reads_34 (d := d + 1) F (t_sign F (by decide) ⟨rfl, t_takesB F h21 ⟨rfl, fun _ => b_X11_fine_0 F ⟨fun _ => ⟨rfl, fun _ => b_X11_fine_0 F ⟨fun _ => ⟨rfl, Or.inl rfl, h0⟩, fun z => absurd (by rw [upC_sK (by decide)] at z; exact z) h21⟩, fun y => absurd rfl y⟩, fun z => absurd z h21⟩, fun y => absurd rfl y⟩⟩)
theorem t_reads {τ : Tks} {o : Bool} {d : Nat} {S : MS} {Q : Qt} (hd : 76 ≤ d) (F : Fix S) : ∀ (n q lv c0 : Nat) (C : MC), n ≤ 11 → TkM τ o C → q ≤ τ.length → lv ≤ 50 → C 81 19 = q → C 81 20 = lv → C 81 21 = -1 → (∀ C' r, Fp mry C C' → PoT τ C C' r (if q = τ.length then none else if tc τ q = 159 then flt (textP τ (oneP τ o) n (q + 1) lv c0) else some q) → Q r S C') → K_X11_reads_34 d 0 0 (12 - (n : Int)) S C Q := by
  obtain ⟨e, rfl⟩ : ∃ e, d = e + 3 := ⟨d - 3, by omega⟩
  intro n
  induction n with
  | zero =>
    intro q lv c0 C hn T hq hlv h19 h20 h21 hk
    have hN := T.2.1
    have h18 := T.1
    refine b_X11_reads_34 (d := e + 2) F (t_sign F (by decide) ⟨rfl, t_takes (d := e + 1) F T h19 hq h21 (fun z => ⟨rfl, fun _ => b_X11_fine_0 F ⟨fun y => absurd h21 y, fun _ => ⟨rfl, fun y => absurd y (by decide), fun _ => ?_⟩⟩, fun y => absurd rfl y⟩) (fun z => ⟨rfl, fun y => absurd y (by decide), fun _ => ⟨fun y => absurd rfl y, fun _ => ?_⟩⟩)⟩)
    · rw [h18, h19]
      refine ⟨fun y => b_X11_fine_0 F ⟨fun y2 => absurd (by rw [upC_sK (by decide)]; exact h21) y2, fun _ => ⟨rfl, Or.inr rfl, hk _ 1 (Fp_up ⟨rfl, Or.inl rfl⟩ Fp_rf) ?_⟩⟩, fun y => t_faults (d := e + 1) F h19 (by omega) h21 ⟨rfl, ?_⟩⟩
      · rw [if_pos (by omega)]
        exact ⟨rfl, by rw [upC_at]; exact h21⟩
      · have e21 : upC C 81 21 (C 92 (q : Int)) 81 21 = C 92 q := upC_at _ _ _ _
        have nb := bad_of T hq e21
        refine b_X11_fine_0 F ⟨fun _ => ⟨rfl, Or.inl rfl, hk _ 0 (Fp_up ⟨rfl, Or.inl rfl⟩ (mrx_y (fm21 Fp_rf))) ?_⟩, fun y2 => absurd (by rw [upC_sK (by decide)] at y2; exact y2) nb⟩
        rw [if_neg (by omega), if_neg (by omega)]
        exact ⟨rfl, hq, by rw [upC_at, e21]⟩
    · have hq1 := tc_in (τ := τ) (p := q) (by rw [z]; decide)
      have fU : Fp mrx C (upC C 81 19 ((q + 1 : Nat) : Int)) := fm19 Fp_rf
      refine t_faults (d := e + 1) F (upC_at _ _ _ _) (by omega) (by rw [upC_sK (by decide)]; exact h21) ⟨rfl, ?_⟩
      have e21 : upC (upC C 81 19 ((q + 1 : Nat) : Int)) 81 21 (upC C 81 19 ((q + 1 : Nat) : Int) 92 ((q + 1 : Nat) : Int)) 81 21 = C 92 ((q + 1 : Nat) : Int) := by rw [upC_at, upC_ne (by decide)]
      have nb := bad_of T hq1 e21
      refine b_X11_fine_0 F ⟨fun _ => ⟨rfl, fun _ => t_endB (d := e + 1) F nb (hk _ 0 (Fp_up ⟨rfl, Or.inl rfl⟩ (mrx_y (fm21 fU))) ?_), fun y => absurd rfl y⟩, fun y => absurd y nb⟩
      rw [if_neg (by omega), if_pos (show tc τ q = 159 from z)]
      exact ⟨rfl, hq1, by rw [upC_at, e21]⟩
  | succ n ih =>
    intro q lv c0 C hn T hq hlv h19 h20 h21 hk
    have hN := T.2.1
    have h18 := T.1
    have wl : w32 (12 - ((n + 1 : Nat) : Int) + 1) = 12 - (n : Int) := by rw [w32_lit (by omega)]; omega
    refine b_X11_reads_34 (d := e + 2) F (t_sign F (by decide) ⟨rfl, t_takes (d := e + 1) F T h19 hq h21 (fun z => ⟨rfl, fun _ => b_X11_fine_0 F ⟨fun y => absurd h21 y, fun _ => ⟨rfl, fun y => absurd y (by decide), fun _ => ?_⟩⟩, fun y => absurd rfl y⟩) (fun z => ⟨rfl, fun y => absurd y (by decide), fun _ => ⟨fun _ => ?_, fun y => ?_⟩⟩)⟩)
    · rw [h18, h19]
      refine ⟨fun y => b_X11_fine_0 F ⟨fun y2 => absurd (by rw [upC_sK (by decide)]; exact h21) y2, fun _ => ⟨rfl, Or.inr rfl, hk _ 1 (Fp_up ⟨rfl, Or.inl rfl⟩ Fp_rf) ?_⟩⟩, fun y => t_faults (d := e + 1) F h19 (by omega) h21 ⟨rfl, ?_⟩⟩
      · rw [if_pos (by omega)]
        exact ⟨rfl, by rw [upC_at]; exact h21⟩
      · have e21 : upC C 81 21 (C 92 (q : Int)) 81 21 = C 92 q := upC_at _ _ _ _
        have nb := bad_of T hq e21
        refine b_X11_fine_0 F ⟨fun _ => ⟨rfl, Or.inl rfl, hk _ 0 (Fp_up ⟨rfl, Or.inl rfl⟩ (mrx_y (fm21 Fp_rf))) ?_⟩, fun y2 => absurd (by rw [upC_sK (by decide)] at y2; exact y2) nb⟩
        rw [if_neg (by omega), if_neg (by omega)]
        exact ⟨rfl, hq, by rw [upC_at, e21]⟩
    · have hq1 := tc_in (τ := τ) (p := q) (by rw [z]; decide)
      have fU : Fp mrx C (upC C 81 19 ((q + 1 : Nat) : Int)) := fm19 Fp_rf
      rw [if_neg (by omega), if_pos (show tc τ q = 159 from z)] at hk
      unfold textP at hk
      rw [wl]
      refine b_X11_fine_0 F ⟨fun y => absurd (by rw [upC_sK (by decide)]; exact h21) y, fun _ => ⟨rfl, fun y => absurd y (by decide), fun _ => ?_⟩⟩
      refine (m_one τ o).1 (e + 2) S _ _ (q + 1) lv c0 (by omega) F (TkM_fp T fU) hq1 hlv (upC_at _ _ _ _) (by rw [upC_sK (by decide)]; exact h20) (by rw [upC_sK (by decide)]; exact h21) (fun C1 f1 po => ⟨rfl, ?_⟩)
      have po2 := PoM_tr fU po
      have f2 := Fp_tr fU f1
      cases hs : oneP τ o (q + 1) lv c0 with
      | inl r =>
        rw [hs] at po2 hk
        exact t_endB (d := e + 1) F (bad_of T po2.1 po2.2) (hk _ 0 (Fp_up ⟨rfl, Or.inl rfl⟩ (mrx_y f2)) ⟨rfl, po2.1, by rw [upC_at, po2.2]⟩)
      | inr t =>
        obtain ⟨cl, q2, lv2, cd2⟩ := t
        rw [hs] at po2 hk
        obtain ⟨a1, a2⟩ := Gd_one τ o _ _ _ _ _ _ _ hs
        simp only at hk
        refine ih q2 lv2 (c0 + cd2.length) C1 (by omega) (TkM_fp T f2) a1.2 (a2.2 hlv) po2.1 po2.2.1 po2.2.2 (fun C' r f' po' => hk C' r (Fp_tr (mrx_y f2) f') ?_)
        have m9 := m92 f2
        by_cases y1 : q2 = τ.length
        · rw [if_pos y1] at po' ⊢
          exact po'
        · rw [if_neg y1] at po' ⊢
          by_cases y2 : tc τ q2 = 159
          · rw [if_pos y2] at po' ⊢
            cases hs2 : textP τ (oneP τ o) n (q2 + 1) lv2 (c0 + cd2.length) with
            | inl r => rw [hs2] at po'; exact ⟨po'.1, po'.2.1, by rw [po'.2.2, m9]⟩
            | inr t => rw [hs2] at po'; exact po'
          · rw [if_neg y2] at po' ⊢
            exact ⟨po'.1, po'.2.1, by rw [po'.2.2, m9]⟩
    · omega
theorem m_text {τ : Tks} {o : Bool} {d : Nat} {S : MS} {C : MC} {Q : Qt} (hd : 76 ≤ d) (F : Fix S) (T : TkM τ o C) (h19 : C 81 19 = 0) (h20 : C 81 20 = 0) (h21 : C 81 21 = -1) (hk : ∀ C' r, Fp mry C C' → PoT τ C C' r (flt (textP τ (oneP τ o) 12 0 0 0)) → Q r S C') : K_X11_readOne_0 d 0 0 S C (fun _ Sq C4 => Sq = S ∧ K_X11_reads_34 (d + 1) 0 0 1 S C4 Q) := by
  refine (m_one τ o).1 d S _ _ 0 0 0 (by omega) F T (Nat.zero_le _) (by decide) h19 h20 h21 (fun C1 f1 po => ⟨rfl, ?_⟩)
  unfold textP at hk
  obtain ⟨e, rfl⟩ : ∃ e, d = e + 1 := ⟨d - 1, by omega⟩
  cases hs : oneP τ o 0 0 0 with
  | inl r =>
    rw [hs] at po hk
    exact t_endB (d := e) F (bad_of T po.1 po.2) (hk _ 0 (Fp_up ⟨rfl, Or.inl rfl⟩ (mrx_y f1)) ⟨rfl, po.1, by rw [upC_at, po.2]⟩)
  | inr t =>
    obtain ⟨cl, q2, lv2, cd2⟩ := t
    rw [hs] at po hk
    obtain ⟨a1, a2⟩ := Gd_one τ o _ _ _ _ _ _ _ hs
    simp only at hk
    refine t_reads (d := e + 2) (by omega) F 11 q2 lv2 (0 + cd2.length) C1 (by omega) (TkM_fp T f1) a1.2 (a2.2 (by decide)) po.1 po.2.1 po.2.2 (fun C' r f' po' => hk C' r (Fp_tr (mrx_y f1) f') ?_)
    have m9 := m92 f1
    by_cases y1 : q2 = τ.length
    · rw [if_pos y1] at po' ⊢
      exact po'
    · rw [if_neg y1] at po' ⊢
      by_cases y2 : tc τ q2 = 159
      · rw [if_pos y2] at po' ⊢
        cases hs2 : textP τ (oneP τ o) 11 (q2 + 1) lv2 (0 + cd2.length) with
        | inl r => rw [hs2] at po'; exact ⟨po'.1, po'.2.1, by rw [po'.2.2, m9]⟩
        | inr t => rw [hs2] at po'; exact po'
      · rw [if_neg y2] at po' ⊢
        exact ⟨po'.1, po'.2.1, by rw [po'.2.2, m9]⟩
