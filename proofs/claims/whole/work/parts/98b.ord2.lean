/-! 98b.ord2: the call orders, both -/
theorem nat_of0 {x : Int} (h : 0 ≤ x) : ∃ n : Nat, x = n := ⟨x.toNat, by omega⟩
theorem min16 (n : Nat) : min n 16 ≤ 16 := Nat.min_le_right _ _
theorem rf3 : okR (-3) := by unfold okR; omega
/-- what comes behind the class's calls, in the reference's frame -/
def mdo (a k : Int) : Prop := md0 a k ∨ (a = 81 ∧ k = 43)
theorem mdo_og {a k : Int} (q : mdo a k) : ogx a k := by
  rcases q with q | q
  · exact Or.inl (md0_gn q)
  · exact Or.inl (Or.inr (Or.inr (Or.inl ⟨q.1, Or.inr (Or.inr (Or.inr q.2))⟩)))
theorem lo_mox {a k : Int} (h : a < 81) : ¬ mox a k := by
  intro q
  rcases q with q | q | q | q | q
  · unfold mrn at q; omega
  · omega
  · omega
  · have := q.1; omega
  · omega
theorem lo_moy {a k : Int} (h : a < 81) : ¬ moy a k := by
  intro q
  rcases q with q | q
  · exact lo_mox h q
  · omega
theorem mox_81 {k : Int} (h : k = 13 ∨ k = 14 ∨ k = 43 ∨ k = 6) : ¬ mox 81 k := by
  intro q
  rcases q with q | q | q | q | q
  · unfold mrn at q; omega
  · exact absurd q (by decide)
  · exact absurd q (by decide)
  · exact absurd q.1 (by decide)
  · omega
theorem moy_81 {k : Int} (h : k = 13 ∨ k = 14 ∨ k = 6) : ¬ moy 81 k := by
  intro q
  rcases q with q | q
  · exact mox_81 (by omega) q
  · omega
theorem mox_82 {k : Int} : ¬ mox 82 k := by
  intro q
  rcases q with q | q | q | q | q
  · unfold mrn at q; omega
  · exact absurd q (by decide)
  · exact absurd q (by decide)
  · exact absurd q.1 (by decide)
  · exact absurd q.1 (by decide)
theorem moy_82 {k : Int} : ¬ moy 82 k := by
  intro q
  rcases q with q | q
  · exact mox_82 q
  · exact absurd q.1 (by decide)
theorem mdo_lo {C C' : MC} (f : Fp mdo C C') : ∀ a, a < 81 → C' a = C a := fun a ha => fp_row f (fun k => by unfold mdo md0; omega)
theorem q_orders {d : Nat} {S : MS} {C : MC} {P : Int → Int → MS → MC → Prop} (hAC : AskCls) (hAM : AskMod) (I : Inv S C) (k : PS S P) : K_X10_orders_0 (d + 108) 0 0 S C (fun r S2 C2 => Fix S2 ∧ S2.2.2.2.2 = S.2.2.2.2 ∧ K_X11_orders_0 (d + 108) 0 0 S2 C2 (fun r2 Sq C3 => Sq = S2 ∧ P r r2 S2 C3)) := by
  have F := I.1
  have iT := I.2.2.2.2.1
  have iX := I.2.2.2.2.2.1
  have iR := I.2.2.2.1
  have hW := WdM_of I.2.2.2.2.2.2.2.2
  have hK := KOk_of I.2.1
  have e45 : C 83 45 = C 1 0 := I.2.1.1.1.symm
  obtain ⟨nn, hnn⟩ := nat_of0 hK.1.1
  have hd1 : 70 ≤ d + 107 := by clear hnn e45; omega
  have hd2 : 80 ≤ d + 107 := by clear hnn e45; omega
  have hN400 : (C 27 1).toNat ≤ 400 := lt400 iT.2.1
  have hNI : C 81 13 = ((C 27 1).toNat : Int) := by rw [← iT.1]; exact (Int.toNat_of_nonneg iT.2.1.1).symm
  obtain ⟨n0, W0, hn0, hC, hM, hW0⟩ := hist_of I
  have hB0 : BtC (fun i => C 28 i) (C 27 1).toNat (upC C 59 4 (-1)) := by
    have b := BtC_of iT
    unfold BtC at b ⊢
    rw [upC_ne (by decide), upC_ne (by decide)]
    exact b
  refine b_X10_orders_0 (d := d + 107) F ?_
  refine c_read (o := true) hd1 F hB0 (fun C1 r f1 h27 po => ⟨rfl, ?_⟩)
  generalize hB : (fun i : Nat => C 28 (i : Int)) = B at po
  generalize hNn : (C 27 1).toNat = N at po hN400 hNI
  generalize hl : tkL B N 400 0 = l at po
  have hl400 : l.length ≤ 400 := by rw [← hl]; exact tkL_400 hN400
  have f1o : Fp ogx C C1 := Fp_tr (Fp_up (Or.inl (Or.inr (Or.inr (Or.inr (Or.inr (Or.inl ⟨rfl, rfl⟩)))))) Fp_rf) (Fp_mono f1 (fun a k q => Or.inl (rd0_gn q)))
  have f1g : Fp gnx C C1 := Fp_tr (Fp_up (Or.inr (Or.inr (Or.inr (Or.inr (Or.inl ⟨rfl, rfl⟩))))) Fp_rf) (Fp_mono f1 (fun a k q => rd0_gn q))
  have row1 : ∀ a, (∀ k, ¬ rd0 a k) → a ≠ 59 → C1 a = C a := fun a h1 h2 => by rw [fp_row f1 h1, upC_ne h2]
  have hi1 : ∀ a, 81 ≤ a → C1 a = C a := fun a ha => row1 a (fun k q => by unfold rd0 at q; clear hnn e45 hNI; omega) (fun z => by rw [z] at ha; exact absurd ha (by decide))
  have lo1 : ∀ a, a < 27 ∨ a = 55 ∨ a = 56 ∨ a = 57 ∨ a = 58 ∨ a = 64 → C1 a = C a := fun a ha => row1 a (fun k q => by unfold rd0 at q; clear hnn e45 hNI; omega) (fun z => by rw [z] at ha; exact absurd ha (by decide))
  have c594 : C1 59 4 = -1 := by rw [f1 59 4 (by unfold rd0; decide), upC_at]
  have mdl : ∀ (C2 : MC) (S2 : MS) (Q : Qt), Fix S2 → C2 88 = C 88 → C2 87 = C 87 → C2 81 13 = C 81 13 → (∀ C' r, Fp md0 C2 C' → C' 81 13 = 0 → MTok (tkT B l) C' → PoN N l C' r (flt (textP (tkT B l) (oneP (tkT B l) true) 12 0 0 0)) → Q r S2 C') → K_X11_readsAs_0 (d + 107) 0 0 (b2 true) S2 C2 Q := by
    intro C2 S2 Q F2 h88 h87 h13 hk
    have hBM : BtM B N C2 := by
      rw [← hB, ← hNn]
      exact BtM_of iT h88
    have hW2 : WdM C2 := by
      unfold WdM
      rw [h87]
      exact hW
    refine m_readsAs (o := true) hd2 F2 hBM hW2 (by rw [h13]; exact hNI) (fun C' r f' g1 g2 g3 => ?_)
    rw [hl] at g2 g3
    exact hk C' r f' g1 g2 g3
  cases hs : textP (tkT B l) (oneP (tkT B l) true) 12 0 0 0 with
  | inl q =>
    rw [hs] at po mdl
    refine ⟨fun y => absurd po.1 y, fun _ => s_refuse F okR6 ⟨rfl, F, rfl, ?_⟩⟩
    have c2 : ∀ a, 81 ≤ a → rfC C1 (-6) a = C a := fun a h0 => by
      unfold rfC
      rw [upC_ne (fun z => by rw [z] at h0; exact absurd h0 (by decide)), upC_ne (fun z => by rw [z] at h0; exact absurd h0 (by decide))]
      exact hi1 a h0
    refine b_X11_orders_0 (d := d + 107) F (mdl (upC (rfC C1 (-6)) 81 43 (-1)) S _ F (by rw [upC_ne (by decide)]; exact c2 88 (by decide)) (by rw [upC_ne (by decide)]; exact c2 87 (by decide)) (by rw [upC_sK (by decide), c2 81 (by decide)]) (fun C3 r3 f3 h13 mt pn => ⟨rfl, fun y => absurd pn.1 y, fun _ => s_refuses F okR6 ⟨rfl, rfl, k _ _ _ ?_ rfl⟩⟩))
    refine Inv_rdref (C1 := upC C1 81 43 (-1)) I okR6 (Fp_up (Or.inr (Or.inr (Or.inl ⟨rfl, Or.inr (Or.inr (Or.inr rfl))⟩))) f1g) (by rw [upC_ne (by decide)]; exact lo1 64 (by decide)) (by rw [upC_ne (by decide)]; exact hi1 82 (by decide)) (by rw [upC_ne (by decide)]; exact h27) rfC_43.symm f3 h13 ?_ ?_
    · rw [upC_ne (by decide), po.2, pn.2]
    · rw [upC_ne (by decide), upC_at]; exact c594
  | inr pr =>
    obtain ⟨cls, cd⟩ := pr
    rw [hs] at po mdl
    obtain ⟨p1, p2, p3, p4, p5⟩ := po
    have hp : textP (tkT B l) (orderP (tkT B l)) 12 0 0 0 = .inr (cls, cd) := hs
    have hτ : (tkT B l).length ≤ 400 := by rw [tkT_len]; exact hl400
    have lc : cls.length ≤ 12 := textP_len _ _ _ _ _ _ hp
    have ld : cd.length ≤ 400 := Nat.le_trans (Nat.le_trans (Nat.le_add_left _ 0) (textP_cd (ln_order _) _ _ _ _ _ _ hp)) hτ
    obtain ⟨cb, hcb1, hcb2, hcb3⟩ := text_prs 12 0 0 0 cls cd hp (Nat.zero_le _)
    have lcb : cb.length ≤ 12 := by rw [← List.length_map (as := cb) (f := Prod.fst), hcb1]; exact lc
    have hRS : RS S C1 1 (C 83) := RS_cong2 I.2.1 (fun j x0 x1 => lo1 _ (Or.inl (by clear hnn e45 hNI p1 p2 c594 h27; omega))) (fun b hb => hi1 b (Int.le_trans (by decide) hb)) (fun _ _ => rfl)
    have E : CEnv S C1 (C 83) nn cls cd cb := ⟨hRS, hnn, p3, ld, lc, hcb1, fun p hp1 => ⟨(hcb3 p hp1).1, (hcb3 p hp1).2.1, fun ht => by
      obtain ⟨j, j1, j2⟩ := (hcb3 p hp1).2.2 ht
      exact p4 j (by rw [tkT_len] at j1; exact j1) j2⟩⟩
    have hC1 : HsC C1 n0 W0 := HsC_row hC (fun a ha => lo1 a (by unfold hrow at ha; clear hnn e45 hNI p1 p2 c594 h27; omega))
    have e56 : C1 56 = C 56 := lo1 56 (by decide)
    have e10 : C1 1 = C 1 := lo1 1 (by decide)
    have hw0 : UOk nn (W0 n0) := by
      have := hC.2.2.2 n0 (Nat.le_refl _)
      rw [← e45, hnn] at this
      exact this
    have cbo : ∀ c, c ∈ cb → (0 ≤ c.1.1.1 ∧ c.1.1.1 ≤ 3) ∧ (1 ≤ c.1.1.2 ∧ c.1.1.2 ≤ 20) := fun c hc => ⟨(hcb3 c hc).1.1, (hcb3 c hc).1.2.1⟩
    refine ⟨fun _ => ?_, fun y => absurd (p1.symm.trans y) (by decide)⟩
    refine c_runAll (d := d + 77) hAC F E hn0 hC1 (fun y S' D ey hy s4 fD hD kD => ⟨s4.1, fun _ => b_X10_accept_0 s4.1 ⟨rfl, s4.1, s4.2.2.2.2.1, ?_⟩, fun z => absurd (Int.natCast_nonneg _) z⟩) (fun i S' D ey s4 fD h594 hD kD => ⟨s4.1, fun z => absurd z (by decide), fun _ => s_refuse s4.1 rf3 ⟨rfl, s4.1, s4.2.2.2.2.1, ?_⟩⟩)
    · have F' := s4.1
      have dhi : ∀ a, 81 ≤ a → D a = C a := fun a ha => by rw [fp_row fD (fun k q => by unfold crn at q; clear hnn e45 hNI p1 p2 c594 h27; omega)]; exact hi1 a ha
      generalize hD2 : upC D 0 16 0 = D2
      have d2 : ∀ a, a ≠ 0 → D2 a = D a := fun a ha => by rw [← hD2, upC_ne ha]
      have d2h : ∀ a, 81 ≤ a → D2 a = C a := fun a ha => (d2 a (fun z => by rw [z] at ha; exact absurd ha (by decide))).trans (dhi a ha)
      refine b_X11_orders_0 (d := d + 107) F' (mdl (upC D2 81 43 (-1)) S' _ F' (by rw [upC_ne (by decide)]; exact d2h 88 (by decide)) (by rw [upC_ne (by decide)]; exact d2h 87 (by decide)) (by rw [upC_sK (by decide), d2h 81 (by decide)]) (fun C3 r3 f3 h13 mt pn => ⟨rfl, fun _ => ?_, fun y => absurd (pn.1.symm.trans y) (by decide)⟩))
      have f3o : Fp mdo D2 C3 := Fp_tr (Fp_up (Or.inr ⟨rfl, rfl⟩) Fp_rf) (Fp_mono f3 (fun a k q => Or.inl q))
      have c83 : C3 83 = C 83 := by rw [(md0_82 f3).2, upC_ne (by decide), d2h 83 (by decide)]
      have c3lo := mdo_lo f3o
      have hM3 : HsM C3 (fun j => (fun j : Nat => C1 56 j) j.toNat) n0 W0 := HsM_cel hM (fun i hi => by rw [c83]) (by rw [f3o 81 42 (by unfold mdo md0; decide), d2h 81 (by decide)]) (fun k hk => by rw [md0_lo f3 104 (by decide), upC_ne (by decide), d2h 104 (by decide)]) (fun j => by rw [e56]; rfl)
      refine m_ord (d := d) (τ := tkT B l) (cb := cb) (nn := nn) (n0 := n0) (kd0 := fun j : Nat => C1 56 j) (W0 := W0) hAM F' (by rw [c83]; exact hK) (by rw [c83]; exact hnn) hτ mt hcb2 cbo lcb hn0 hM3 hw0 (fun y' G ey' fG hG g0 => ?_) (fun j G ey' fG hG g43 => ?_)
      · rw [c83, ey] at ey'
        injection ey' with ey'
        subst ey'
        refine ⟨rfl, k _ _ _ ?_ s4.2.2.2.2.1⟩
        have glo : ∀ a, a < 81 → G a = D2 a := fun a ha => by rw [fp_row fG (fun k => lo_mox ha), c3lo a ha]
        have gD : ∀ a, a < 81 → a ≠ 0 → G a = D a := fun a ha h0 => by rw [glo a ha, d2 a h0]
        have fo : Fp ogx C G := Fp_tr (Fp_tr f1o (Fp_mono fD (fun a k q => crn_og q))) (Fp_tr (by rw [← hD2]; exact Fp_up (Or.inl (Or.inr (Or.inr (Or.inr (Or.inr (Or.inr (Or.inl ⟨rfl, rfl⟩))))))) Fp_rf) (Fp_tr (Fp_mono f3o (fun a k q => mdo_og q)) (Fp_mono fG (fun a k q => mox_og q))))
        have hGc : HsC G (min y.1 16) (fun j => y.2.1 (y.1 - min y.1 16 + j)) := HsC_row hD (fun a ha => gD a (by unfold hrow at ha; clear hnn e45 hNI p1 p2 c594 h27 g0 h13; omega) (fun z => by rw [z] at ha; unfold hrow at ha; exact absurd ha (by decide)))
        have hGm : HsM G (G 56) (min y.1 16) (fun j => y.2.1 (y.1 - min y.1 16 + j)) := HsM_shift hG (fun j hj => by rw [gD 56 (by decide) (by decide), kD j hj]; rfl)
        have g45 : G 83 45 = G 1 0 := by rw [fo 83 45 (ogx_83 (by unfold ktI; decide) (by decide)), fp_row fo (ogx_row (a := 1) (by decide))]; exact e45
        have gw : UOk (C 1 0) ((fun j => y.2.1 (y.1 - min y.1 16 + j)) (min y.1 16)) := by
          have := hGc.2.2.2 (min y.1 16) (Nat.le_refl _)
          rw [fp_row fo (ogx_row (a := 1) (by decide))] at this
          exact this
        have m81 : ∀ k, (k = 13 ∨ k = 14 ∨ k = 43 ∨ k = 6) → G 81 k = C3 81 k := fun k hk => fG 81 k (mox_81 hk)
        refine Inv_ord I F' (S44_Ss s4) fo gw hGc.2.1 hGm.1 (IvT_0 ?_ ?_) ⟨?_, ?_, ?_⟩ ⟨?_, ?_⟩ (IvU_of (min16 _) hGc hGm g45)
        · rw [gD 27 (by decide) (by decide), fD 27 1 (by unfold crn; decide)]; exact h27
        · rw [m81 13 (by decide)]; exact h13
        · rw [fo 0 15 (by unfold ogx gnx scr ckF; decide), fo 81 6 (by unfold ogx gnx scr ckF; decide)]
          exact iX.1
        · rw [gD 29 (by decide) (by decide), fD 29 11 (by unfold crn; decide), p2, m81 14 (by decide), pn.2]
        · rw [gD 59 (by decide) (by decide), fD 59 4 (by unfold crn; decide), c594, m81 43 (by decide), f3 81 43 (by unfold md0; decide), upC_at]
        · rw [glo 0 (by decide), ← hD2, upC_at, g0]
        · have r64 : G 64 = C 64 := by rw [gD 64 (by decide) (by decide), fp_row fD (fun k q => by unfold crn at q; clear hnn e45 hNI p1 p2 c594 h27 g0 h13; omega), lo1 64 (by decide)]
          have r82 : G 82 = C 82 := by rw [fp_row fG (fun k => mox_82), (md0_82 f3).1, upC_ne (by decide), d2h 82 (by decide)]
          rw [r64, r82]
          exact iR.2
      · rw [c83, ey] at ey'
        exact absurd ey' (by intro z; cases z)
    · have F' := s4.1
      have dhi : ∀ a, 81 ≤ a → D a = C a := fun a ha => by rw [fp_row fD (fun k q => by unfold crm crn at q; clear hnn e45 hNI p1 p2 c594 h27 h594; omega)]; exact hi1 a ha
      generalize hD2 : rfC D (-3) = D2
      have d2 : ∀ a, a ≠ 0 → a ≠ 64 → D2 a = D a := fun a ha hb => by rw [← hD2]; unfold rfC; rw [upC_ne hb, upC_ne ha]
      have d2h : ∀ a, 81 ≤ a → D2 a = C a := fun a ha => (d2 a (fun z => by rw [z] at ha; exact absurd ha (by decide)) (fun z => by rw [z] at ha; exact absurd ha (by decide))).trans (dhi a ha)
      refine b_X11_orders_0 (d := d + 107) F' (mdl (upC D2 81 43 (-1)) S' _ F' (by rw [upC_ne (by decide)]; exact d2h 88 (by decide)) (by rw [upC_ne (by decide)]; exact d2h 87 (by decide)) (by rw [upC_sK (by decide), d2h 81 (by decide)]) (fun C3 r3 f3 h13 mt pn => ⟨rfl, fun _ => ?_, fun y => absurd (pn.1.symm.trans y) (by decide)⟩))
      have f3o : Fp mdo D2 C3 := Fp_tr (Fp_up (Or.inr ⟨rfl, rfl⟩) Fp_rf) (Fp_mono f3 (fun a k q => Or.inl q))
      have c83 : C3 83 = C 83 := by rw [(md0_82 f3).2, upC_ne (by decide), d2h 83 (by decide)]
      have c3lo := mdo_lo f3o
      have hM3 : HsM C3 (fun j => (fun j : Nat => C1 56 j) j.toNat) n0 W0 := HsM_cel hM (fun i hi => by rw [c83]) (by rw [f3o 81 42 (by unfold mdo md0; decide), d2h 81 (by decide)]) (fun k hk => by rw [md0_lo f3 104 (by decide), upC_ne (by decide), d2h 104 (by decide)]) (fun j => by rw [e56]; rfl)
      refine m_ord (d := d) (τ := tkT B l) (cb := cb) (nn := nn) (n0 := n0) (kd0 := fun j : Nat => C1 56 j) (W0 := W0) hAM F' (by rw [c83]; exact hK) (by rw [c83]; exact hnn) hτ mt hcb2 cbo lcb hn0 hM3 hw0 (fun y' G ey' fG hG g0 => ?_) (fun j G ey' fG hG g43 => ?_)
      · rw [c83, ey] at ey'
        exact absurd ey' (by intro z; cases z)
      · rw [c83, ey] at ey'
        injection ey' with ey'
        subst ey'
        refine ⟨rfl, k _ _ _ ?_ s4.2.2.2.2.1⟩
        generalize hH : rfM G (-3) = H
        have hG81 : ∀ k, k ≠ 0 → H 81 k = G 81 k := fun k hk => by rw [← hH]; unfold rfM; rw [upC_ne (by decide), upC_sK hk]
        have hGa : ∀ a, a ≠ 81 → a ≠ 82 → H a = G a := fun a h1 h2 => by rw [← hH]; unfold rfM; rw [upC_ne h2, upC_ne h1]
        have glo : ∀ a, a < 81 → H a = D2 a := fun a ha => by rw [hGa a (fun z => by rw [z] at ha; exact absurd ha (by decide)) (fun z => by rw [z] at ha; exact absurd ha (by decide)), fp_row fG (fun k => lo_moy ha), c3lo a ha]
        have gD : ∀ a, a < 81 → a ≠ 0 → a ≠ 64 → H a = D a := fun a ha h0 h1 => by rw [glo a ha, d2 a h0 h1]
        have fo : Fp ogx C H := by
          refine Fp_tr (Fp_tr f1o (Fp_mono fD (fun a k q => crm_og q))) (Fp_tr (C1 := D2) ?_ (Fp_tr (Fp_mono f3o (fun a k q => mdo_og q)) (Fp_tr (Fp_mono fG (fun a k q => moy_og q)) ?_)))
          · rw [← hD2]
            unfold rfC
            exact Fp_up (Or.inl (Or.inr (Or.inr (Or.inr (Or.inr (Or.inr (Or.inr (Or.inl rfl)))))))) (Fp_up (Or.inl (Or.inr (Or.inr (Or.inr (Or.inr (Or.inr (Or.inl ⟨rfl, rfl⟩))))))) Fp_rf)
          · rw [← hH]
            unfold rfM
            exact Fp_up (Or.inl (Or.inr (Or.inr (Or.inr (Or.inr (Or.inr (Or.inr (Or.inr rfl)))))))) (Fp_up (Or.inl (Or.inr (Or.inr (Or.inl ⟨rfl, Or.inl rfl⟩)))) Fp_rf)
        have hGc : HsC H n0 W0 := HsC_row hD (fun a ha => gD a (by unfold hrow at ha; clear hnn e45 hNI p1 p2 c594 h27 h594 g43 h13; omega) (fun z => by rw [z] at ha; unfold hrow at ha; exact absurd ha (by decide)) (fun z => by rw [z] at ha; unfold hrow at ha; exact absurd ha (by decide)))
        have hGm : HsM H (H 56) n0 W0 := by
          have h0 : HsM H (fun j => (fun j : Nat => C1 56 j) j.toNat) n0 W0 := HsM_row hG (hGa 83 (by decide) (by decide)) (hG81 42 (by decide)) (hGa 104 (by decide) (by decide))
          obtain ⟨u1, u2, u3⟩ := h0
          refine ⟨u1, u2, fun i hi => ⟨(u3 i hi).1, ?_⟩⟩
          rw [(u3 i hi).2, gD 56 (by decide) (by decide) (by decide)]
          show C1 56 ((((n0 - min n0 16 + i : Nat) : Int).toNat : Nat) : Int) = _
          rw [Int.toNat_natCast]
          have hmn : min n0 16 = n0 := Nat.min_eq_left hn0
          rw [hmn] at hi ⊢
          rw [Nat.sub_self, Nat.zero_add]
          exact (kD i hi).symm
        have g45 : H 83 45 = H 1 0 := by rw [fo 83 45 (ogx_83 (by unfold ktI; decide) (by decide)), fp_row fo (ogx_row (a := 1) (by decide))]; exact e45
        have gw : UOk (C 1 0) (W0 n0) := hC.2.2.2 n0 (Nat.le_refl _)
        refine Inv_ord I F' (S44_Ss s4) fo gw hGc.2.1 hGm.1 (IvT_0 ?_ ?_) ⟨?_, ?_, ?_⟩ (IvR_ref I rf3 ?_ ?_ ?_ ?_) (IvU_of hn0 hGc hGm g45)
        · rw [gD 27 (by decide) (by decide) (by decide), fD 27 1 (by unfold crm crn; decide)]; exact h27
        · rw [hG81 13 (by decide), fG 81 13 (moy_81 (by decide))]; exact h13
        · rw [fo 0 15 (by unfold ogx gnx scr ckF; decide), fo 81 6 (by unfold ogx gnx scr ckF; decide)]
          exact iX.1
        · rw [gD 29 (by decide) (by decide) (by decide), fD 29 11 (by unfold crm crn; decide), p2, hG81 14 (by decide), fG 81 14 (moy_81 (by decide)), pn.2]
        · rw [gD 59 (by decide) (by decide) (by decide), h594, hG81 43 (by decide), g43]
        · rw [glo 0 (by decide), ← hD2]
          unfold rfC
          rw [upC_ne (by decide), upC_at]
        · rw [← hH]
          unfold rfM
          rw [upC_ne (by decide), upC_at]
        · rw [glo 64 (by decide), ← hD2]
          refine rfC_64 ?_
          rw [fp_row fD (fun k q => by unfold crm crn at q; clear hnn e45 hNI p1 p2 c594 h27 h594 g43 h13; omega), lo1 64 (by decide)]
        · rw [← hH]
          refine rfM_82 ?_
          rw [fp_row fG (fun k => moy_82), (md0_82 f3).1, upC_ne (by decide), d2h 82 (by decide)]
