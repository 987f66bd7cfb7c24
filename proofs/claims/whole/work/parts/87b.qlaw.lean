/-! 87b.qlaw: the call law, both -/
theorem upP_sc (X : MS) (a k v : Int) : (upP X a k v).2.2.2.2 = X.2.2.2.2 := rfl
theorem okR6 : okR (-6) := by unfold okR; omega
theorem okR5 : okR (-5) := by unfold okR; omega
theorem lt6 {n : Nat} {x : Int} (h : x = n) (h2 : x < 6) : n < 6 := by omega
theorem get_n {x y : Int} (h : x = y) (h1 : 0 ≤ y) : ∃ n : Nat, y = n ∧ x = n := ⟨y.toNat, by omega, by omega⟩
theorem n_ne6 {n : Nat} (h : n < 6) : ¬ (n : Int) = 6 := by omega
theorem n_bd6 {n : Nat} (h : n < 6) : (0 : Int) ≤ (n : Int) ∧ (n : Int) < 6 := by omega
theorem eq6 {x y : Int} (h : x = y) (h1 : y ≤ 6) (h2 : ¬ x < 6) : y = 6 := by omega
theorem lyx_47 {n : Nat} : ¬ lyx n 83 47 := by unfold lyx; omega
theorem n47 {n j : Nat} : (49 + (n : Int) ≠ 47) ∧ (56 + 400 * (n : Int) + (j : Int) ≠ 47) ∧ (2856 + 400 * (n : Int) + (j : Int) ≠ 47) := by omega
theorem q_law {d : Nat} {S : MS} {C : MC} {P : Int → Int → MS → MC → Prop} (I : Inv S C) (k : PS S P) : K_X10_law_0 (d + 100) 7 469 S C (fun r S2 C2 => Fix S2 ∧ S2.2.2.2.2 = S.2.2.2.2 ∧ K_X11_law_0 (d + 100) 0 0 S2 C2 (fun r2 Sq C3 => Sq = S2 ∧ P r r2 S2 C3)) := by
  have F := I.1
  have iT := I.2.2.2.2.1
  have iX := I.2.2.2.2.2.1
  have hW := WdM_of I.2.2.2.2.2.2.2.2
  have h108 := F.1
  have hS : ∀ a, a < 108 → a < S.1 := fun a ha => Int.lt_of_lt_of_le ha h108
  have hS0 : ∀ a : Int, a < 108 → ∀ b, S.1 ≤ b → b ≠ a := fun a ha b hb => by omega
  have hd1 : 70 ≤ d + 99 := by omega
  have hd2 : 80 ≤ d + 99 := by omega
  have hN400 : (C 27 1).toNat ≤ 400 := lt400 iT.2.1
  have lyb : ∀ (n : Nat) (a k : Int), S.1 ≤ a → ¬ lyx n a k := fun n a k ha q => by unfold lyx at q; omega
  have mdb : ∀ (a k : Int), S.1 ≤ a → ¬ md0 a k := fun a k ha q => by unfold md0 at q; omega
  have lys : ∀ (n : Nat) (a k : Int), a < 81 → ¬ lyx n a k := fun n a k ha q => by unfold lyx at q; omega
  have sm : ∀ a : Int, a < 81 → a ≠ 81 ∧ a ≠ 83 := fun a ha => by omega
  have bg : ∀ a : Int, 81 ≤ a → a < 108 → a ≠ 0 ∧ a ≠ 1 ∧ a ≠ 64 ∧ a < S.1 := fun a h0 h1 => by omega
  have sz : (0 : Int) ≤ S.1 ∧ S.1 < S.1 + 1 + ((6 : Nat) : Int) := by omega
  obtain ⟨⟨e18, e47⟩, _⟩ := I.2.1.2.2.2.2.1
  refine b_X10_law_0 (d := d + 99) (mc := 0) (ms := 0) F ⟨fun z => ?_, fun z => ?_⟩
  · obtain ⟨n, hn, c18⟩ := get_n e18 e47.1
    have hn6 : n < 6 := lt6 c18 z
    have n1000 : n ≤ 1000 := Nat.le_trans (Nat.le_of_lt hn6) (by decide)
    have n100k : n ≤ 100000 := Nat.le_trans (Nat.le_of_lt hn6) (by decide)
    have hNI : C 81 13 = ((C 27 1).toNat : Int) := by rw [← iT.1]; exact (Int.toNat_of_nonneg iT.2.1.1).symm
    refine c_read (o := false) hd1 F (BtC_of iT) (fun C1 r f1 h27 po => ⟨rfl, ?_⟩)
    generalize hB : (fun i : Nat => C 28 (i : Int)) = B at po
    generalize hNn : (C 27 1).toNat = N at po hN400 hNI
    generalize hl : tkL B N 400 0 = l at po
    have hl400 : l.length ≤ 400 := by rw [← hl]; exact tkL_400 hN400
    have f1g : Fp gnx C C1 := Fp_mono f1 (fun a k q => rd0_gn q)
    have hi1 := rd0_81 f1
    have mdl : ∀ (C2 : MC) (S2 : MS) (Q : Qt), Fix S2 → (∀ a, 81 ≤ a → a < 108 → C2 a = C a) → (∀ C' r, Fp md0 C2 C' → C' 81 13 = 0 → MTok (tkT B l) C' → PoN N l C' r (flt (textP (tkT B l) (oneP (tkT B l) false) 12 0 0 0)) → Q r S2 C') → K_X11_readsAs_0 (d + 99) 0 0 (b2 false) S2 C2 Q := by
      intro C2 S2 Q F2 hc hk
      have hBM : BtM B N C2 := by
        rw [← hB, ← hNn]
        exact BtM_of iT (hc 88 (by decide) (by decide))
      have hW2 : WdM C2 := by
        unfold WdM
        rw [hc 87 (by decide) (by decide)]
        exact hW
      refine m_readsAs (o := false) hd2 F2 hBM hW2 (by rw [hc 81 (by decide) (by decide)]; exact hNI) (fun C' r f' g1 g2 g3 => ?_)
      rw [hl] at g2 g3
      exact hk C' r f' g1 g2 g3
    cases hs : textP (tkT B l) (oneP (tkT B l) false) 12 0 0 0 with
    | inl q =>
      rw [hs] at po mdl
      refine ⟨fun y => absurd po.1 y, fun _ => s_refuse F okR6 ⟨rfl, F, rfl, ?_⟩⟩
      have c2 : ∀ a, 81 ≤ a → a < 108 → rfC C1 (-6) a = C a := fun a h0 h1 => by
        unfold rfC
        rw [upC_ne (bg a h0 h1).2.2.1, upC_ne (bg a h0 h1).1]
        exact hi1 a h0
      refine b_X11_law_0 (d := d + 99) F ⟨fun _ => mdl (rfC C1 (-6)) S _ F c2 (fun C3 r3 f3 h13 mt pn => ⟨rfl, fun y => absurd pn.1 y, fun _ => s_refuses F okR6 ⟨rfl, rfl, k _ _ _ ?_ rfl⟩⟩), fun y => ?_⟩
      · refine Inv_rdref I okR6 f1g (rd0_rows f1).2.2 (hi1 82 (by decide)) h27 rfl f3 h13 (by rw [po.2, pn.2]) ?_
        rw [(rd0_rows f1).2.1, hi1 81 (by decide)]
        exact iX.2.2
      · rw [c2 83 (by decide) (by decide), hn] at y
        exact absurd y (n_ne6 hn6)
    | inr pr =>
      obtain ⟨cls, cd⟩ := pr
      rw [hs] at po mdl
      obtain ⟨p1, p2, p3, p4, p5⟩ := po
      have hp : lawP (tkT B l) = .inr (cls, cd) := hs
      have hτ : (tkT B l).length ≤ 400 := by rw [tkT_len]; exact hl400
      have lc : cls.length ≤ 12 := textP_len _ _ _ _ _ _ hp
      have ld : cd.length ≤ 400 := Nat.le_trans (Nat.le_trans (Nat.le_add_left _ 0) (textP_cd (ln_rule _) _ _ _ _ _ _ hp)) hτ
      refine ⟨fun _ => ?_, fun y => absurd (p1.symm.trans y) (by decide)⟩
      have c1r : C1 1 = C 1 := (rd0_rows f1).1
      refine x9_copy (d := d + 96) (cn := cls.length) (cm := cd.length) F rfl lc ld p3.1 p3.2.1 p5 ⟨cpL_fix F rfl 6, ⟨?_, Or.inr ⟨?_, ?_⟩⟩, ?_⟩
      · rw [c1r, c18]; exact n_bd6 hn6
      · rw [cpL_1 rfl 6]; exact sz
      · rw [cpL_t rfl 6, if_pos rfl]
      rw [c1r, c18, cpE_lo (hS 1 (by decide)), c1r, c18, w32_pm n1000, w32_nat1 (p := n) n100k]
      have F' : Fix (upP (cpL S.1 (lenF cls.length cd.length) S 6) 7 (n : Int) S.1) := fix_laws (a := 1) (cpL_fix F rfl 6) isSt1
      have hsc : (upP (cpL S.1 (lenF cls.length cd.length) S 6) 7 (n : Int) S.1).2.2.2.2 = S.2.2.2.2 := (upP_sc _ _ _ _).trans (cpL_sc 6)
      have hInv : ∀ G : MC, Inv (upP (cpL S.1 (lenF cls.length cd.length) S 6) 7 (n : Int) S.1) G → ∀ r, P r r (upP (cpL S.1 (lenF cls.length cd.length) S 6) 7 (n : Int) S.1) G := fun G hI r => k r _ G hI hsc
      have mk := fun (G : MC) => @Inv_law S C C1 G n cls.length cd.length S.1 (tkT B l) cls cd I rfl hn hn6 hτ hp rfl rfl p3
      generalize upP (cpL S.1 (lenF cls.length cd.length) S 6) 7 (n : Int) S.1 = S' at F' hsc hInv mk ⊢
      refine b_X10_accept_0 F' ⟨rfl, F', hsc, ?_⟩
      generalize hD : upC (upC (cpE S.1 cls.length cd.length C1) 1 8 ((n + 1 : Nat) : Int)) 0 16 0 = D
      have dE : ∀ a, a ≠ 0 → a ≠ 1 → D a = cpE S.1 cls.length cd.length C1 a := fun a h1 h2 => by rw [← hD, upC_ne h1, upC_ne h2]
      have dM : ∀ a, 81 ≤ a → a < 108 → D a = C a := fun a h0 h1 => by rw [dE a (bg a h0 h1).1 (bg a h0 h1).2.1, cpE_lo (bg a h0 h1).2.2.2]; exact hi1 a h0
      refine b_X11_law_0 (d := d + 99) F' ⟨fun _ => mdl D _ _ F' dM (fun C3 r3 f3 h13 mt pn => ⟨rfl, fun _ => ?_, fun y => absurd (pn.1.symm.trans y) (by decide)⟩), fun y => ?_⟩
      · have c47 : C3 83 47 = n := by rw [(md0_82 f3).2, dM 83 (by decide) (by decide)]; exact hn
        rw [c47]
        refine m_lays F' (Nat.le_of_lt hn6) hτ mt (fun C4 ly => ⟨rfl, ?_⟩)
        have c47' : C4 83 47 = n := by rw [ly.1 83 47 lyx_47]; exact c47
        rw [c47', w32_pm n1000, w32_nat1 (p := n) n100k]
        refine b_X11_good_0 F' ⟨rfl, rfl, hInv _ ?_ _⟩
        generalize hG : upC (upC C4 83 47 ((n + 1 : Nat) : Int)) 81 0 0 = G
        have gA : ∀ a k, a < S.1 → ¬ lwx n a k → G a k = C a k := by
          intro a k ha hk
          rw [← hG, upC_get, if_neg (fun q => hk (Or.inr (Or.inr (Or.inr (Or.inr (Or.inr (Or.inr q))))))), upC_get, if_neg (fun q => hk (Or.inr (Or.inr (Or.inr (Or.inr (Or.inr (Or.inl q))))))), ly.1 a k (fun q => hk (Or.inr (Or.inr (Or.inr (Or.inr (Or.inl q)))))), f3 a k (fun q => hk (Or.inr (Or.inl q))), ← hD, upC_get, if_neg (fun q => hk (Or.inr (Or.inr (Or.inr (Or.inl q))))), upC_get, if_neg (fun q => hk (Or.inr (Or.inr (Or.inl q)))), cpE_lo ha, f1 a k (fun q => hk (Or.inl q))]
        have gN : ∀ a, S.1 ≤ a → G a = cpE S.1 cls.length cd.length C1 a := by
          intro a ha
          rw [← hG, upC_ne (hS0 81 (by decide) a ha), upC_ne (hS0 83 (by decide) a ha), fp_row ly.1 (fun k => lyb n a k ha), fp_row f3 (fun k => mdb a k ha), dE a (hS0 0 (by decide) a ha) (hS0 1 (by decide) a ha)]
        have gU : ∀ a, a ≠ 81 → a ≠ 83 → G a = C4 a := fun a h1 h2 => by rw [← hG, upC_ne h1, upC_ne h2]
        have gL : ∀ a, a < 81 → G a = D a := fun a ha => by rw [gU a (sm a ha).1 (sm a ha).2, fp_row ly.1 (fun k => lys n a k ha), md0_lo f3 a (Or.inl ha)]
        have g83 : ∀ k, k ≠ 47 → G 83 k = C4 83 k := fun k hk => by rw [← hG, upC_ne (by decide), upC_sK hk]
        have g81 : ∀ k, k ≠ 0 → G 81 k = C3 81 k := fun k hk => by rw [← hG, upC_sK hk, upC_ne (by decide), ly.1 81 k (fun q => absurd q.1 (by decide))]
        refine mk G gA gN ?_ ?_ ?_ (fun j hj => ?_) ?_ ?_ ?_ ?_ ?_ ?_
        · rw [gL 1 (by decide), ← hD, upC_ne (by decide), upC_at]
        · rw [← hG, upC_ne (by decide), upC_at]
        · rw [g83 _ (n47 (n := n) (j := 0)).1]; exact ly.2.1
        · rw [g83 _ (n47 (n := n) (j := j)).2.1, g83 _ (n47 (n := n) (j := j)).2.2]; exact ly.2.2 j hj
        · rw [gL 0 (by decide), ← hD, upC_at]
        · rw [← hG, upC_at]
        · rw [gL 27 (by decide), dE 27 (by decide) (by decide), cpE_lo (hS 27 (by decide))]; exact h27
        · rw [g81 13 (by decide)]; exact h13
        · rw [gL 29 (by decide), dE 29 (by decide) (by decide), cpE_lo (hS 29 (by decide))]; exact p2
        · rw [g81 14 (by decide)]; exact pn.2
      · rw [dM 83 (by decide) (by decide), hn] at y
        exact absurd y (n_ne6 hn6)
  · have h6 : C 83 47 = 6 := eq6 e18 e47.2 z
    refine s_refuse F okR5 ⟨rfl, F, rfl, ?_⟩
    have c83 : rfC (upC C 27 1 0) (-5) 83 47 = 6 := by
      unfold rfC
      rw [upC_ne (by decide), upC_ne (by decide), upC_ne (by decide)]; exact h6
    refine b_X11_law_0 (d := d + 99) F ⟨fun y => absurd c83 y, fun _ => s_refuses F okR5 ⟨rfl, rfl, k _ _ _ ?_ rfl⟩⟩
    have f1 : Fp gnx C (upC C 27 1 0) := Fp_up (Or.inr (Or.inl ⟨rfl, rfl⟩)) Fp_rf
    refine Inv_rdref (C1 := upC C 27 1 0) I okR5 f1 (by rw [upC_ne (by decide)]) (by rw [upC_ne (by decide)]) (upC_at _ _ _ _) rfl (C3 := upC (rfC (upC C 27 1 0) (-5)) 81 13 0) (Fp_up (Or.inr (Or.inr (Or.inr ⟨rfl, Or.inr (Or.inl rfl)⟩))) Fp_rf) (upC_at _ _ _ _) ?_ ?_
    · rw [upC_ne (by decide), upC_sK (by decide)]
      unfold rfC
      rw [upC_ne (by decide), upC_ne (by decide), upC_ne (by decide)]
      exact iX.2.1
    · rw [upC_ne (by decide), upC_ne (by decide)]
      exact iX.2.2
