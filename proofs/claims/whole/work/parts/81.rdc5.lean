/-! 81.rdc5: the class reads orders and texts -/
abbrev qT (d j : Nat) (S : MS) (C : MC) (Q : Qt) : Prop := K_X4_readTimes_0 d 0 0 (j : Int) S C (fun r1 Sq C2 => Sq = S ∧ ((r1 = 0 → Q 0 S C2) ∧ (¬ r1 = 0 → K_X4_readCondition_0 d 0 0 (j : Int) S C2 (fun r3 Sq C4 => Sq = S ∧ ((r3 = 0 → Q 0 S C4) ∧ (¬ r3 = 0 → Q 1 S C4))))))
theorem c_tail {τ : Tks} {d j p0 p lv : Nat} {pre : List Int} {v i0 j0 : Int} {f g : Sem} {S : MS} {C0 C : MC} {Q : Qt} (hd : 62 ≤ d) (hj : j < 12) (F : Fix S) (T : TkC τ true C0) (fC : Fp (clx j) C0 C) (hp : p ≤ τ.length) (hlv : lv ≤ 50) (hpl : pre.length ≤ p) (st : RdS C p lv 8 pre) (dr : DrF τ C0 C p0 p) (h31 : C 31 j = v ∧ C 33 j = i0 ∧ C 34 j = j0) (h32 : C 32 j = 1) (h35 : C 35 j = -1) (z0 : C 30 0 = ((j + 1 : Nat) : Int)) (hk0 : ∀ q C', tailP τ v i0 j0 f g p lv pre.length = .inl q → Fp (clx j) C0 C' → q ≤ τ.length → C' 29 7 = q → Q 0 S C') (hk1 : ∀ c q lv' cd C', tailP τ v i0 j0 f g p lv pre.length = .inr (c, q, lv', cd) → Fp (clx j) C0 C' → RdS C' q lv' 8 (pre ++ cd) → DrF τ C0 C' p0 q → ClR C' j c → C' 30 0 = ((j + 1 : Nat) : Int) → Q 1 S C') : qT d j S C Q := by
  obtain ⟨e, rfl⟩ : ∃ e, d = e + 1 := ⟨d - 1, by omega⟩
  have TC := TkC_cl T fC
  have hN := T.2.1
  have bj : (0 : Int) ≤ (j : Int) ∧ (j : Int) < 12 := ⟨Int.natCast_nonneg j, Int.ofNat_lt.mpr hj⟩
  have q278 := tk_eq TC hp k278
  have rest : ∀ (p1 : Nat) (nt : Int) (C5 : MC), Fp (clx j) C0 C5 → p1 ≤ τ.length → pre.length ≤ p1 → RdS C5 p1 lv 8 pre → DrF τ C0 C5 p0 p1 → (C5 31 j = v ∧ C5 33 j = i0 ∧ C5 34 j = j0) → C5 32 j = nt → C5 35 j = -1 → C5 30 0 = ((j + 1 : Nat) : Int) → tailP τ v i0 j0 f g p lv pre.length = condP τ true (fun k t => ((v, nt), (i0, j0, k), (f, g, t))) p1 lv pre.length → K_X4_readCondition_0 (e + 1) 0 0 (j : Int) S C5 (fun r3 Sq C4 => Sq = S ∧ ((r3 = 0 → Q 0 S C4) ∧ (¬ r3 = 0 → Q 1 S C4))) := by
    intro p1 nt C5 f5 hp5 hpl5 st5 dr5 a1 a2 a5 a6 et
    rw [et] at hk0 hk1
    refine c_cond (kc := fun k t => ((v, nt), (i0, j0, k), (f, g, t))) (by omega) hj F (TkC_cl T f5) hp5 hlv hpl5 st5 a5 (fun q C' er f' hq h7 => ⟨rfl, fun _ => hk0 q C' er (Fp_tr f5 f') hq h7, fun y => absurd rfl y⟩) (fun i t q lv' cd C' er f' rw' z' i' st' dr' => ⟨rfl, fun y => absurd y (by decide), fun _ => hk1 _ q lv' cd C' er (Fp_tr f5 f') st' (DrF_tr dr5 dr') ⟨?_, ?_, ?_, ?_, i'⟩ (by rw [z']; exact a6)⟩)
    · rw [rw' 31 (by decide)]; exact a1.1
    · rw [rw' 32 (by decide)]; exact a2
    · rw [rw' 33 (by decide)]; exact a1.2.1
    · rw [rw' 34 (by decide)]; exact a1.2.2
  refine b_X4_readTimes_0 (d := e) F ?_
  rw [st.2.1]
  refine ⟨fun z => ?_, fun z => ⟨rfl, fun y => absurd y (by decide), fun _ => rest p 1 C fC hp hpl st dr h31 h32 h35 z0 ?_⟩⟩
  · have ht := q278.mp z
    have hp1 := tc_in (τ := τ) (p := p) (by rw [ht]; decide)
    refine c_next F TC hp1 st (fun C2 f2 st2 e2 => ⟨rfl, ?_⟩)
    have g2 : Fp (clx j) C0 C2 := Fp_tr fC (crx_cl f2)
    have T2 := TkC_cl T g2
    have dr2 := DrF_tr dr (DrF_one (p := p) e2 (by rw [ht]; decide))
    have bd := in_bd hp1 hN
    have qn := c_num (p := p + 1) (hi := 20) T2 hp1 (by decide)
    rw [st2.2.1, st2.1]
    have bad : ¬ (tc τ (p + 1) = 50 ∧ 1 ≤ tv τ (p + 1) ∧ tv τ (p + 1) ≤ 20) → Q 0 S C2 := by
      intro y
      refine hk0 (p + 1) C2 ?_ g2 hp1 st2.1
      unfold tailP timesP
      rw [if_pos ht, if_neg y]
    refine ⟨fun y => ⟨rfl, fun _ => bad (fun x => y ((tk_eq (p := p + 1) T2 hp1 k284).mpr x.1)), fun x => absurd rfl x⟩, fun y => ⟨bd, fun y2 => ⟨rfl, fun _ => bad (fun x => ?_), fun x => absurd rfl x⟩, fun y2 => ⟨bd, fun y3 => ?_, fun y3 => ⟨rfl, fun _ => bad (fun x => y3 (qn.mpr ⟨x.1, Int.le_trans (by decide) x.2.1, x.2.2⟩).2), fun x => absurd rfl x⟩⟩⟩⟩
    · rw [c_nval (p := p + 1) T2 hp1 ⟨x.1, Int.le_trans (by decide) x.2.1, Int.le_trans x.2.2 (by decide)⟩] at y2
      exact absurd x.2.1 (Int.not_le.mpr y2)
    · have hh := qn.mp ⟨y, y3⟩
      have ev := c_nval (p := p + 1) T2 hp1 ⟨hh.1, hh.2.1, Int.le_trans hh.2.2 (by decide)⟩
      rw [ev] at y2 ⊢
      have hh2 : tc τ (p + 1) = 50 ∧ 1 ≤ tv τ (p + 1) ∧ tv τ (p + 1) ≤ 20 := ⟨hh.1, Int.not_lt.mp y2, hh.2.2⟩
      have hp2 := tc_in (τ := τ) (p := p + 1) (by rw [hh.1]; decide)
      have fU : Fp (clx j) C0 (upC C2 32 (j : Int) (tv τ (p + 1))) := fcl (by decide) g2
      refine ⟨bd, bj, c_next F (TkC_cl T fU) hp2 (RdS_row (by decide) st2) (fun C4 f4 st4 e4 => ⟨rfl, ⟨rfl, fun y => absurd y (by decide), fun _ => ?_⟩⟩)⟩
      have r4 : ∀ a, 31 ≤ a ∧ a ≤ 35 → C4 a = upC C2 32 (j : Int) (tv τ (p + 1)) a := crx_row f4
      have r2 : ∀ a, 31 ≤ a ∧ a ≤ 35 → C2 a = C a := crx_row f2
      refine rest (p + 2) (tv τ (p + 1)) C4 (Fp_tr fU (crx_cl f4)) hp2 (Nat.le_succ_of_le (Nat.le_succ_of_le hpl)) st4 (DrF_tr dr2 (DrF_one (p := p + 1) (by rw [e4, upC_ne (by decide)]) (by rw [hh.1]; decide))) ⟨?_, ?_, ?_⟩ ?_ ?_ ?_ ?_
      · rw [r4 31 (by decide), upC_ne (by decide), r2 31 (by decide)]; exact h31.1
      · rw [r4 33 (by decide), upC_ne (by decide), r2 33 (by decide)]; exact h31.2.1
      · rw [r4 34 (by decide), upC_ne (by decide), r2 34 (by decide)]; exact h31.2.2
      · rw [r4 32 (by decide), upC_at]
      · rw [r4 35 (by decide), upC_ne (by decide), r2 35 (by decide)]; exact h35
      · rw [crx_30 f4, upC_ne (by decide), crx_30 f2]; exact z0
      · unfold tailP timesP
        rw [if_pos ht, if_pos hh2]
  · unfold tailP timesP
    rw [if_neg (fun y => z (q278.mpr y))]
theorem kOV : ∀ n : Nat, n < 286 → (((n : Int) < 272 ∨ 275 < (n : Int)) → mcK n ≠ 21 ∧ mcK n ≠ 23 ∧ mcK n ≠ 25 ∧ mcK n ≠ 26) ∧ (n = 272 → mcK n = 21) ∧ (n = 273 → mcK n = 23) ∧ (n = 274 → mcK n = 25) ∧ (n = 275 → mcK n = 26) := by decide +kernel
theorem w32_ov {n : Nat} (h1 : 272 ≤ n) (h2 : n ≤ 275) : w32 (w32 ((n : Int) - 272) + 0) = ((n - 272 : Nat) : Int) := by rw [w32_lit (x := (n : Int) - 272) (by omega), w32_lit (by omega)]; omega
theorem c_order {τ : Tks} {d j p lv : Nat} {pre : List Int} {S : MS} {C : MC} {Q : Qt} (hd : 63 ≤ d) (hj : j < 12) (F : Fix S) (T : TkC τ true C) (hp : p ≤ τ.length) (hlv : lv ≤ 50) (hpl : pre.length ≤ p) (st : RdS C p lv 8 pre) (hk : ∀ C' r, Fp (clx j) C C' → PoK τ C C' p j pre r (orderP τ p lv pre.length) → Q r S C') : K_X4_readOrder_0 d 0 0 (j : Int) S C Q := by
  obtain ⟨e, rfl⟩ : ∃ e, d = e + 1 := ⟨d - 1, by omega⟩
  obtain ⟨n, hn, hn2, hn3⟩ := tkN T hp
  obtain ⟨t0, t21, t23, t25, t26⟩ := kOV n hn2
  have hN := T.2.1
  have bj : (0 : Int) ≤ (j : Int) ∧ (j : Int) < 12 := ⟨Int.natCast_nonneg j, Int.ofNat_lt.mpr hj⟩
  have no : ((n : Int) < 272 ∨ 275 < (n : Int)) → Q 0 S C := fun z => hk C 0 Fp_rf (by
    obtain ⟨y1, y2, y3, y4⟩ := t0 z
    unfold orderP
    rw [if_neg (by rw [hn3]; exact y1), if_neg (by rw [hn3]; exact y2), if_neg (by rw [hn3]; exact y3), if_neg (by rw [hn3]; exact y4)]
    exact ⟨rfl, hp, st.1⟩)
  refine b_X4_readOrder_0 (d := e) F ?_
  rw [st.2.1, hn]
  refine ⟨fun z => no (Or.inl z), fun z => ⟨fun z2 => ?_, fun z2 => no (Or.inr (Int.not_le.mp z2))⟩⟩
  have g1 : 272 ≤ n := Int.ofNat_le.mp (Int.not_lt.mp z)
  have g2 : n ≤ 275 := Int.ofNat_le.mp z2
  rw [w32_ov g1 g2]
  have hv4 : n = 272 ∨ n = 273 ∨ n = 274 ∨ n = 275 := by clear hk no st; omega
  have htn : tc τ p = 21 ∨ tc τ p = 23 ∨ tc τ p = 25 ∨ tc τ p = 26 := by
    rw [hn3]
    rcases hv4 with q | q | q | q
    · exact Or.inl (t21 q)
    · exact Or.inr (Or.inl (t23 q))
    · exact Or.inr (Or.inr (Or.inl (t25 q)))
    · exact Or.inr (Or.inr (Or.inr (t26 q)))
  have hp1 : p < τ.length := tc_in (by rcases htn with q | q | q | q <;> rw [q] <;> decide)
  have n18 : tc τ p ≠ 18 := by rcases htn with q | q | q | q <;> rw [q] <;> decide
  refine c_begin F hj st (fun C2 f2 st2 e2 c0 ⟨c1, c2, c3, c4, c5⟩ => ⟨rfl, c_next F (TkC_cl T f2) hp1 st2 (fun C4 f4 st4 e4 => ⟨rfl, ?_⟩)⟩)
  have g4 : Fp (clx j) C C4 := Fp_tr f2 (crx_cl f4)
  have T4 := TkC_cl T g4
  have dr4 : DrF τ C C4 p (p + 1) := DrF_one (e4.trans e2) n18
  have r4 : ∀ a, 31 ≤ a ∧ a ≤ 35 → C4 a = C2 a := crx_row f4
  have z4 : C4 30 0 = ((j + 1 : Nat) : Int) := by rw [crx_30 f4]; exact c0
  -- the end of every order
  have tail : ∀ (p1 lv1 : Nat) (pre1 : List Int) (C5 : MC) (v i0 j0 : Int) (f g : Sem), Fp (clx j) C C5 → p1 ≤ τ.length → lv1 ≤ 50 → pre1.length ≤ p1 → RdS C5 p1 lv1 8 pre1 → DrF τ C C5 p p1 → ((n - 272 : Nat) : Int) = v → C5 31 = C4 31 → C5 32 = C4 32 → C5 33 j = i0 → C5 34 j = j0 → C5 35 = C4 35 → C5 30 0 = ((j + 1 : Nat) : Int) → (∀ q, tailP τ v i0 j0 f g p1 lv1 pre1.length = .inl q → orderP τ p lv pre.length = .inl q) → (∀ c q lv' cd, tailP τ v i0 j0 f g p1 lv1 pre1.length = .inr (c, q, lv', cd) → ∃ cd', orderP τ p lv pre.length = .inr (c, q, lv', cd') ∧ pre1 ++ cd = pre ++ cd') → qT e j S C5 Q := by
    intro p1 lv1 pre1 C5 v i0 j0 f g f5 hp5 hlv5 hpl5 st5 dr5 hv a1 a2 a3 a4 a5 a6 h0 h1
    refine c_tail (v := v) (i0 := i0) (j0 := j0) (f := f) (g := g) (by omega) hj F T f5 hp5 hlv5 hpl5 st5 dr5 ⟨by rw [a1, r4 31 (by decide), c1]; exact hv, a3, a4⟩ (by rw [a2, r4 32 (by decide)]; exact c2) (by rw [a5, r4 35 (by decide)]; exact c5) a6 (fun q C' er f' hq h7 => hk C' 0 f' (by rw [h0 q er]; exact ⟨rfl, hq, h7⟩)) (fun c q lv' cd C' er f' st' dr' cl' z' => ?_)
    obtain ⟨cd', er', ec⟩ := h1 c q lv' cd er
    rw [ec] at st'
    exact hk C' 1 f' (by rw [er']; exact ⟨rfl, st', dr', cl', z'⟩)
  -- pass
  have hpass : ((n - 272 : Nat) : Int) = 3 → K_X4_readOrder_85 (e + 1) 0 0 (j : Int) ((n - 272 : Nat) : Int) S C4 Q := by
    intro y
    have n275 : n = 275 := by clear hk no st tail; omega
    have m26 : tc τ p = 26 := by rw [hn3]; exact t26 n275
    refine b_X4_readOrder_85 (d := e) F ⟨fun x => absurd (y.symm.trans x) (by decide), fun _ => ⟨fun _ => ?_, fun x => absurd (y.symm.trans x) (by decide)⟩⟩
    refine tail (p + 1) lv pre C4 3 (-1) (-1) (fun _ => some 0) (fun _ => some 0) g4 hp1 hlv (Nat.le_succ_of_le hpl) st4 dr4 y rfl rfl (by rw [r4 33 (by decide)]; exact c3) (by rw [r4 34 (by decide)]; exact c4) rfl z4 (fun q er => ?_) (fun c q lv' cd er => ⟨cd, ?_, rfl⟩)
    · unfold orderP
      rw [m26]
      exact er
    · unfold orderP
      rw [m26]
      exact er
  refine ⟨hpass, fun y => ⟨bj, ?_⟩⟩
  have n3 : n = 272 ∨ n = 273 ∨ n = 274 := by clear hk no st tail hpass; omega
  rw [st4.2.2.2.2.1]
  have fU : Fp (clx j) C (upC C4 33 (j : Int) (pre.length : Int)) := fcl (by decide) g4
  refine (c_sum8 τ true) e S _ _ (p + 1) lv pre (by omega) F (TkC_cl T fU) hp1 hlv (Nat.le_succ_of_le hpl) (RdS_row (by decide) st4) (fun C6 r f6 po => ⟨rfl, ?_⟩)
  have g6 : Fp (clx j) C C6 := Fp_tr fU (crx_cl f6)
  have drU : DrF τ C (upC C4 33 (j : Int) (pre.length : Int)) p (p + 1) := DrF_one (by rw [upC_ne (by decide)]; exact e4.trans e2) n18
  cases hs : sum8 τ true (p + 1) lv pre.length with
  | inl q =>
    rw [hs] at po
    refine ⟨fun y => absurd po.1 y, fun _ => hk C6 0 g6 ?_⟩
    have : orderP τ p lv pre.length = .inl q := by
      unfold orderP
      rw [hn3]
      rcases n3 with x | x | x
      · rw [t21 x]; unfold twoP; rw [hs]; rfl
      · rw [t23 x]; unfold twoP; rw [hs]; rfl
      · rw [t25 x, hs]; rfl
    rw [this]
    exact ⟨rfl, po.2⟩
  | inr t =>
    obtain ⟨f, q, lv', cd⟩ := t
    rw [hs] at po
    obtain ⟨a1, a2, _⟩ := Gd_sum8 τ true _ _ _ _ _ _ _ hs
    have a3 := ln_sum8 τ true _ _ _ _ _ _ _ hs
    refine ⟨fun _ => ?_, fun y => absurd (po.1.symm.trans y) (by decide)⟩
    refine c_emit (v := 0) (t := 0) F po.2.1 (by rw [List.length_append]; clear hk no st tail hpass; omega) (by decide) (by decide) (fun C8 f8 st8 e8 => ⟨rfl, ?_⟩)
    have ea : (pre ++ cd) ++ [16 * ((0 : Nat) : Int) + ((0 : Nat) : Int)] = pre ++ (cd ++ [0]) := by simp
    rw [ea] at st8
    have ln : (pre ++ (cd ++ [0])).length = pre.length + (cd.length + 1) := by simp
    have r8 : ∀ a, 31 ≤ a ∧ a ≤ 35 → C8 a = upC C4 33 (j : Int) (pre.length : Int) a := fun a ha => by rw [crx_row f8 a ha, crx_row f6 a ha]
    have g8 : Fp (clx j) C C8 := Fp_tr g6 (crx_cl f8)
    have dr8 := DrF_tr drU (DrF_tr po.2.2 (DrF_nil (p := q) e8))
    have z8 : C8 30 0 = ((j + 1 : Nat) : Int) := by rw [crx_30 f8, crx_30 f6, upC_ne (by decide)]; exact z4
    have s33 : C8 33 j = (pre.length : Int) := by rw [r8 33 (by decide), upC_at]
    have s34 : C8 34 j = -1 := by rw [r8 34 (by decide), upC_ne (by decide), r4 34 (by decide)]; exact c4
    have T8 := TkC_cl T g8
    by_cases n274 : n = 274
    · -- shift
      have m25 : tc τ p = 25 := by rw [hn3]; exact t25 n274
      have e2v : ((n - 272 : Nat) : Int) = 2 := by rw [n274]; rfl
      refine b_X4_readOrder_85 (d := e) F ⟨fun x => absurd (e2v.symm.trans x) (by decide), fun _ => ⟨fun _ => ?_, fun x => absurd (e2v.symm.trans x) (by decide)⟩⟩
      refine tail q lv' (pre ++ (cd ++ [0])) C8 2 (pre.length : Int) (-1) f (fun _ => some 0) g8 a1.2 (a2.2 hlv) (by rw [ln]; clear hk no st tail hpass; omega) st8 dr8 e2v (by rw [r8 31 (by decide), upC_ne (by decide)]) (by rw [r8 32 (by decide), upC_ne (by decide)]) s33 s34 (by rw [r8 35 (by decide), upC_ne (by decide)]) z8 (fun q2 er => ?_) (fun c q2 lv2 cd2 er => ⟨(cd ++ [0]) ++ cd2, ?_, by simp⟩)
      · rw [ln] at er
        have : orderP τ p lv pre.length = appP (cd ++ [0]) (tailP τ 2 (pre.length : Int) (-1) f (fun _ => some 0) q lv' (pre.length + (cd.length + 1))) := by
          unfold orderP
          rw [m25, hs]
          rfl
        rw [this, er]
        rfl
      · rw [ln] at er
        have : orderP τ p lv pre.length = appP (cd ++ [0]) (tailP τ 2 (pre.length : Int) (-1) f (fun _ => some 0) q lv' (pre.length + (cd.length + 1))) := by
          unfold orderP
          rw [m25, hs]
          rfl
        rw [this, er]
        rfl
    · -- note, give
      have two : ∀ (vv : Int) (cc kk : Int), ((n - 272 : Nat) : Int) = vv → orderP τ p lv pre.length = twoP τ vv cc (p + 1) lv pre.length → cc ≠ 0 → cc ≠ 18 → (∀ n : Nat, n < 286 → (mcK n = cc ↔ (n : Int) = kk)) → K_X4_readOrder_111 (e + 1) 0 0 (j : Int) (C8 29 8) kk S C8 Q := by
        intro vv cc kk hvv ho hc0 hc18 hkk
        have qk := tk_eq T8 a1.2 hkk
        unfold twoP at ho
        rw [hs] at ho
        simp only at ho
        refine b_X4_readOrder_111 (d := e) F ?_
        rw [st8.2.1]
        refine ⟨fun x => ?_, fun x => ?_⟩
        · have htq := qk.mp x
          have hq1 := tc_in (τ := τ) (p := q) (by rw [htq]; exact hc0)
          rw [if_pos htq] at ho
          refine c_next F T8 hq1 st8 (fun Ca fa sa ea' => ⟨rfl, bj, ?_⟩)
          rw [sa.2.2.2.2.1, ln]
          have ga : Fp (clx j) C Ca := Fp_tr g8 (crx_cl fa)
          have fV : Fp (clx j) C (upC Ca 34 (j : Int) ((pre.length + (cd.length + 1) : Nat) : Int)) := fcl (by decide) ga
          have drV : DrF τ C (upC Ca 34 (j : Int) ((pre.length + (cd.length + 1) : Nat) : Int)) p (q + 1) := DrF_tr dr8 (DrF_one (by rw [upC_ne (by decide)]; exact ea') (by rw [htq]; exact hc18))
          refine (c_sum8 τ true) e S _ _ (q + 1) lv' (pre ++ (cd ++ [0])) (by omega) F (TkC_cl T fV) hq1 (a2.2 hlv) (by rw [ln]; clear hk no st tail hpass; omega) (RdS_row (by decide) sa) (fun Cb rb fb pb => ⟨rfl, ?_⟩)
          have gb : Fp (clx j) C Cb := Fp_tr fV (crx_cl fb)
          rw [ln] at pb
          cases hs2 : sum8 τ true (q + 1) lv' (pre.length + (cd.length + 1)) with
          | inl q2 =>
            rw [hs2] at pb ho
            exact ⟨fun y => absurd pb.1 y, fun _ => hk Cb 0 gb (by rw [ho]; exact ⟨rfl, pb.2⟩)⟩
          | inr t2 =>
            obtain ⟨g0, q2, lv2, cd2⟩ := t2
            rw [hs2] at pb ho
            obtain ⟨b1, b2', _⟩ := Gd_sum8 τ true _ _ _ _ _ _ _ hs2
            have b3 := ln_sum8 τ true _ _ _ _ _ _ _ hs2
            simp only at ho
            refine ⟨fun _ => ?_, fun y => absurd (pb.1.symm.trans y) (by decide)⟩
            refine c_emit (v := 0) (t := 0) F pb.2.1 (by rw [List.length_append, ln]; clear hk no st tail hpass; omega) (by decide) (by decide) (fun Cc fc sc ec => ⟨rfl, ?_⟩)
            have eb : (pre ++ (cd ++ [0])) ++ cd2 ++ [16 * ((0 : Nat) : Int) + ((0 : Nat) : Int)] = pre ++ (cd ++ (0 :: (cd2 ++ [0]))) := by simp
            rw [eb] at sc
            have ln2 : (pre ++ (cd ++ (0 :: (cd2 ++ [0])))).length = pre.length + (cd.length + 1) + (cd2.length + 1) := by simp; omega
            have rc : ∀ a, 31 ≤ a ∧ a ≤ 35 → Cc a = upC Ca 34 (j : Int) ((pre.length + (cd.length + 1) : Nat) : Int) a := fun a ha => by rw [crx_row fc a ha, crx_row fb a ha]
            have ra : ∀ a, 31 ≤ a ∧ a ≤ 35 → Ca a = C8 a := crx_row fa
            refine tail q2 lv2 (pre ++ (cd ++ (0 :: (cd2 ++ [0])))) Cc vv (pre.length : Int) ((pre.length + (cd.length + 1) : Nat) : Int) f g0 (Fp_tr gb (crx_cl fc)) b1.2 (b2'.2 (a2.2 hlv)) (by rw [ln2]; clear hk no st tail hpass; omega) sc (DrF_tr drV (DrF_tr pb.2.2 (DrF_nil ec))) hvv ?_ ?_ ?_ ?_ ?_ ?_ (fun q3 er => ?_) (fun c q3 lv3 cd3 er => ⟨(cd ++ (0 :: (cd2 ++ [0]))) ++ cd3, ?_, by simp⟩)
            · rw [rc 31 (by decide), upC_ne (by decide), ra 31 (by decide), r8 31 (by decide), upC_ne (by decide)]
            · rw [rc 32 (by decide), upC_ne (by decide), ra 32 (by decide), r8 32 (by decide), upC_ne (by decide)]
            · rw [rc 33 (by decide), upC_ne (by decide), ra 33 (by decide)]; exact s33
            · rw [rc 34 (by decide), upC_at]
            · rw [rc 35 (by decide), upC_ne (by decide), ra 35 (by decide), r8 35 (by decide), upC_ne (by decide)]
            · rw [crx_30 fc, crx_30 fb, upC_ne (by decide), crx_30 fa]; exact z8
            · rw [ln2] at er
              rw [ho, er]
              rfl
            · rw [ln2] at er
              rw [ho, er]
              rfl
        · rw [if_neg (fun y => x (qk.mpr y))] at ho
          exact hk C8 0 g8 (by rw [ho]; exact ⟨rfl, a1.2, st8.1⟩)
      rcases n3 with x | x | x
      · have m21 : tc τ p = 21 := by rw [hn3]; exact t21 x
        have ev : ((n - 272 : Nat) : Int) = 0 := by rw [x]; rfl
        refine b_X4_readOrder_85 (d := e) F ⟨fun _ => ⟨fun y => absurd ev y, fun _ => two 0 22 276 ev (by unfold orderP; rw [if_pos m21]) (by decide) (by decide) k276⟩, fun y => absurd ev y⟩
      · have m23 : tc τ p = 23 := by rw [hn3]; exact t23 x
        have ev : ((n - 272 : Nat) : Int) = 1 := by rw [x]; rfl
        refine b_X4_readOrder_85 (d := e) F ⟨fun y => absurd (ev.symm.trans y) (by decide), fun _ => ⟨fun y => absurd ev y, fun _ => ⟨fun _ => two 1 24 277 ev (by unfold orderP; rw [m23]; rfl) (by decide) (by decide) k277, fun y => absurd (ev.symm.trans y) (by decide)⟩⟩⟩
      · exact absurd x n274
