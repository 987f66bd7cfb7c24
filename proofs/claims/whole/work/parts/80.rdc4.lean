/-! 80.rdc4: the class reads clauses -/
def clx (j : Nat) (a k : Int) : Prop := crx a k ∨ (a = 30 ∧ k = 0) ∨ (31 ≤ a ∧ a ≤ 35 ∧ k = j)
theorem crx_cl {j : Nat} {C C' : MC} (f : Fp crx C C') : Fp (clx j) C C' := Fp_mono f (fun a k q => Or.inl q)
theorem TkC_cl {τ : Tks} {o : Bool} {j : Nat} {C C' : MC} (h : TkC τ o C) (f : Fp (clx j) C C') : TkC τ o C' := by
  unfold TkC TkJ
  rw [f 29 5 (by unfold clx crx; omega), f 29 6 (by unfold clx crx; omega), fp_row (a := 37) f (fun k => by unfold clx crx; omega), fp_row (a := 39) f (fun k => by unfold clx crx; omega)]
  exact h
theorem RdS_row {C : MC} {p lv g : Nat} {pre : List Int} {a k v : Int} (ha : 31 ≤ a ∧ a ≤ 35) (st : RdS C p lv g pre) : RdS (upC C a k v) p lv g pre := by
  obtain ⟨s1, s2, s3, s4, s5, s6⟩ := st
  have n29 : (29 : Int) ≠ a := fun z => by rw [← z] at ha; exact absurd ha.1 (by decide)
  have n30 : (30 : Int) ≠ a := fun z => by rw [← z] at ha; exact absurd ha.1 (by decide)
  have n36 : (36 : Int) ≠ a := fun z => by rw [← z] at ha; exact absurd ha.2 (by decide)
  have n37 : (37 : Int) ≠ a := fun z => by rw [← z] at ha; exact absurd ha.2 (by decide)
  exact ⟨by rw [upC_ne n29]; exact s1, by rw [upC_ne n29, upC_ne n37]; exact s2, by rw [upC_ne n29]; exact s3, by rw [upC_ne n29]; exact s4, by rw [upC_ne n30]; exact s5, fun j y hj => by rw [upC_ne n36]; exact s6 j y hj⟩
theorem crx_row {C C' : MC} (f : Fp crx C C') (a : Int) (ha : 31 ≤ a ∧ a ≤ 35) : C' a = C a := fp_row f (fun k => by unfold crx; omega)
theorem crx_30 {C C' : MC} (f : Fp crx C C') : C' 30 0 = C 30 0 := f 30 0 (by unfold crx; decide)
theorem fcl {j : Nat} {C C' : MC} {a v : Int} (ha : 31 ≤ a ∧ a ≤ 35) (f : Fp (clx j) C C') : Fp (clx j) C (upC C' a (j : Int) v) := Fp_up (Or.inr (Or.inr ⟨ha.1, ha.2, rfl⟩)) f
/-- a clause's condition -/
theorem c_cond {τ : Tks} {o : Bool} {d j p lv : Nat} {pre : List Int} {kc : Int → TSem → Cla} {S : MS} {C : MC} {Q : Qt} (hd : 61 ≤ d) (hj : j < 12) (F : Fix S) (T : TkC τ o C) (hp : p ≤ τ.length) (hlv : lv ≤ 50) (hpl : pre.length ≤ p) (st : RdS C p lv 8 pre) (h35 : C 35 j = -1) (hk0 : ∀ q C', condP τ o kc p lv pre.length = .inl q → Fp (clx j) C C' → q ≤ τ.length → C' 29 7 = q → Q 0 S C') (hk1 : ∀ i t q lv' cd C', condP τ o kc p lv pre.length = .inr (kc i t, q, lv', cd) → Fp (clx j) C C' → (∀ a, 31 ≤ a ∧ a ≤ 34 → C' a = C a) → C' 30 0 = C 30 0 → C' 35 j = i → RdS C' q lv' 8 (pre ++ cd) → DrF τ C C' p q → Q 1 S C') : K_X4_readCondition_0 d 0 0 (j : Int) S C Q := by
  obtain ⟨e, rfl⟩ : ∃ e, d = e + 1 := ⟨d - 1, by omega⟩
  have q279 := tk_eq T hp k279
  have bj : (0 : Int) ≤ (j : Int) ∧ (j : Int) < 12 := ⟨Int.natCast_nonneg j, Int.ofNat_lt.mpr hj⟩
  unfold condP at hk0 hk1
  refine b_X4_readCondition_0 (d := e) F ?_
  rw [st.2.1]
  refine ⟨fun z => ?_, fun z => ?_⟩
  · have ht := q279.mp z
    have hp1 := tc_in (τ := τ) (p := p) (by rw [ht]; decide)
    rw [if_pos ht] at hk0 hk1
    refine c_next F T hp1 st (fun C2 f2 st2 e2 => ⟨rfl, bj, ?_⟩)
    rw [st2.2.2.2.2.1]
    have fU : Fp (clx j) C (upC C2 35 (j : Int) (pre.length : Int)) := fcl (by decide) (crx_cl f2)
    have eU : upC C2 35 (j : Int) (pre.length : Int) 30 2 = C 30 2 := by rw [upC_ne (by decide)]; exact e2
    refine (c_test8 τ o) e S _ _ (p + 1) lv pre (by omega) F (TkC_cl T fU) hp1 hlv (Nat.le_succ_of_le hpl) (RdS_row (by decide) st2) (fun C4 r f4 po => ⟨rfl, ?_⟩)
    have g4 : Fp (clx j) C C4 := Fp_tr fU (crx_cl f4)
    have dr : DrF τ C (upC C2 35 (j : Int) (pre.length : Int)) p (p + 1) := DrF_one eU (by rw [ht]; decide)
    cases hs : test8 τ o (p + 1) lv pre.length with
    | inl q =>
      rw [hs] at po hk0
      exact ⟨fun y => absurd po.1 y, fun _ => hk0 q C4 rfl g4 po.2.1 po.2.2⟩
    | inr t =>
      obtain ⟨f, q, lv', cd⟩ := t
      rw [hs] at po hk1
      obtain ⟨a1, a2, _⟩ := Gd_test8 τ o _ _ _ _ _ _ _ hs
      have a3 := ln_test8 τ o _ _ _ _ _ _ _ hs
      have hN := T.2.1
      refine ⟨fun _ => ?_, fun y => absurd (po.1.symm.trans y) (by decide)⟩
      refine c_emit (v := 0) (t := 0) F po.2.1 (by rw [List.length_append]; omega) (by decide) (by decide) (fun C6 f6 st6 e6 => ⟨rfl, ?_⟩)
      have ea : (pre ++ cd) ++ [16 * ((0 : Nat) : Int) + ((0 : Nat) : Int)] = pre ++ (cd ++ [0]) := by simp
      rw [ea] at st6
      have rw1 : ∀ a, 31 ≤ a ∧ a ≤ 35 → C6 a = upC C2 35 (j : Int) (pre.length : Int) a := fun a ha => by rw [crx_row f6 a ha, crx_row f4 a ha]
      refine hk1 (pre.length : Int) f q lv' (cd ++ [0]) C6 rfl (Fp_tr g4 (crx_cl f6)) (fun a ha => ?_) ?_ ?_ st6 (DrF_tr dr (DrF_tr po.2.2 (DrF_nil e6)))
      · rw [rw1 a ⟨ha.1, Int.le_trans ha.2 (by decide)⟩, upC_ne (fun y => by rw [y] at ha; exact absurd ha.2 (by decide)), crx_row f2 a ⟨ha.1, Int.le_trans ha.2 (by decide)⟩]
      · rw [crx_30 f6, crx_30 f4, upC_ne (by decide), crx_30 f2]
      · rw [rw1 35 (by decide), upC_at]
  · have ht : tc τ p ≠ 4 := fun y => z (q279.mpr y)
    rw [if_neg ht] at hk1
    exact hk1 (-1) (fun _ => some true) p lv [] C rfl Fp_rf (fun a _ => rfl) rfl h35 (by rw [List.append_nil]; exact st) (DrF_nil rfl)
def ClR (C : MC) (j : Nat) (c : Cla) : Prop := C 31 j = c.1.1 ∧ C 32 j = c.1.2 ∧ C 33 j = c.2.1.1 ∧ C 34 j = c.2.1.2.1 ∧ C 35 j = c.2.1.2.2
theorem c_begin {d j : Nat} {v : Int} {p lv g : Nat} {pre : List Int} {S : MS} {C : MC} {Q : Qt} (F : Fix S) (hj : j < 12) (st : RdS C p lv g pre) (h : ∀ C', Fp (clx j) C C' → RdS C' p lv g pre → C' 30 2 = C 30 2 → C' 30 0 = ((j + 1 : Nat) : Int) → (C' 31 j = v ∧ C' 32 j = 1 ∧ C' 33 j = -1 ∧ C' 34 j = -1 ∧ C' 35 j = -1) → Q 0 S C') : K_X9_begin_0 d 0 0 (j : Int) v S C Q := by
  have bj : (0 : Int) ≤ (j : Int) ∧ (j : Int) < 12 := ⟨Int.natCast_nonneg j, Int.ofNat_lt.mpr hj⟩
  have st0 : RdS (upC C 30 0 ((j + 1 : Nat) : Int)) p lv g pre := by
    obtain ⟨s1, s2, s3, s4, s5, s6⟩ := st
    exact ⟨by rw [upC_ne (by decide)]; exact s1, by rw [upC_ne (by decide), upC_ne (by decide)]; exact s2, by rw [upC_ne (by decide)]; exact s3, by rw [upC_ne (by decide)]; exact s4, by rw [upC_sK (by decide)]; exact s5, fun j y hj => by rw [upC_ne (by decide)]; exact s6 j y hj⟩
  refine b_X9_begin_0 F ⟨fun z => absurd z (Int.not_lt.mpr bj.1), fun _ => ⟨fun _ => ⟨bj, bj, bj, bj, bj, ?_⟩, fun z => absurd bj.2 z⟩⟩
  rw [w32_nat1 (p := j) (Nat.le_trans (Nat.le_of_lt hj) (by decide))]
  refine h _ (fcl (by decide) (fcl (by decide) (fcl (by decide) (fcl (by decide) (fcl (by decide) (Fp_up (Or.inr (Or.inl ⟨rfl, rfl⟩)) Fp_rf)))))) (RdS_row (by decide) (RdS_row (by decide) (RdS_row (by decide) (RdS_row (by decide) (RdS_row (by decide) st0))))) ?_ ?_ ⟨?_, ?_, ?_, ?_, ?_⟩
  · rw [upC_ne (by decide), upC_ne (by decide), upC_ne (by decide), upC_ne (by decide), upC_ne (by decide), upC_sK (by decide)]
  · rw [upC_ne (by decide), upC_ne (by decide), upC_ne (by decide), upC_ne (by decide), upC_ne (by decide), upC_at]
  · rw [upC_ne (by decide), upC_ne (by decide), upC_ne (by decide), upC_ne (by decide), upC_at]
  · rw [upC_ne (by decide), upC_ne (by decide), upC_ne (by decide), upC_at]
  · rw [upC_ne (by decide), upC_ne (by decide), upC_at]
  · rw [upC_ne (by decide), upC_at]
  · rw [upC_at]
def PoK (τ : Tks) (C C' : MC) (p j : Nat) (pre : List Int) (r : Int) : PR Cla → Prop
  | .inl q => r = 0 ∧ q ≤ τ.length ∧ C' 29 7 = q
  | .inr (c, q, lv', cd) => r = 1 ∧ RdS C' q lv' 8 (pre ++ cd) ∧ DrF τ C C' p q ∧ ClR C' j c ∧ C' 30 0 = ((j + 1 : Nat) : Int)
theorem kRV : ∀ n : Nat, n < 286 → (((n : Int) < 269 ∨ 271 < (n : Int)) → mcK n ≠ 1 ∧ mcK n ≠ 2 ∧ mcK n ≠ 3) ∧ (269 ≤ n → n ≤ 271 → mcK n = (n : Int) - 268) := by decide +kernel
theorem w32_rv {n : Nat} (h1 : 269 ≤ n) (h2 : n ≤ 271) : w32 (w32 ((n : Int) - 269) + 4) = (n : Int) - 265 := by rw [w32_lit (x := (n : Int) - 269) (by omega), w32_lit (by omega)]; omega
theorem c_rule {τ : Tks} {d j p lv : Nat} {pre : List Int} {S : MS} {C : MC} {Q : Qt} (hd : 62 ≤ d) (hj : j < 12) (F : Fix S) (T : TkC τ false C) (hp : p ≤ τ.length) (hlv : lv ≤ 50) (hpl : pre.length ≤ p) (st : RdS C p lv 8 pre) (hk : ∀ C' r, Fp (clx j) C C' → PoK τ C C' p j pre r (ruleP τ p lv pre.length) → Q r S C') : K_X4_readRule_0 d 0 0 (j : Int) S C Q := by
  obtain ⟨e, rfl⟩ : ∃ e, d = e + 1 := ⟨d - 1, by omega⟩
  obtain ⟨n, hn, hn2, hn3⟩ := tkN T hp
  obtain ⟨t1, t2⟩ := kRV n hn2
  have bj : (0 : Int) ≤ (j : Int) ∧ (j : Int) < 12 := ⟨Int.natCast_nonneg j, Int.ofNat_lt.mpr hj⟩
  have no : ((n : Int) < 269 ∨ 271 < (n : Int)) → Q 0 S C := fun z => hk C 0 Fp_rf (by
    obtain ⟨y1, y2, y3⟩ := t1 z
    unfold ruleP
    rw [if_neg (by rw [hn3]; exact y1), if_neg (by rw [hn3]; exact y2), if_neg (by rw [hn3]; exact y3)]
    exact ⟨rfl, hp, st.1⟩)
  refine b_X4_readRule_0 (d := e) F ?_
  rw [st.2.1, hn]
  refine ⟨fun z => no (Or.inl z), fun z => ⟨fun z2 => ?_, fun z2 => no (Or.inr (Int.not_le.mp z2))⟩⟩
  have g1 : 269 ≤ n := Int.ofNat_le.mp (Int.not_lt.mp z)
  have g2 : n ≤ 271 := Int.ofNat_le.mp z2
  have htc : tc τ p = (n : Int) - 268 := by rw [hn3]; exact t2 g1 g2
  have hp1 : p < τ.length := tc_in (by rw [htc]; clear hk no st; omega)
  have n18 : tc τ p ≠ 18 := by rw [htc]; clear hk no st; omega
  rw [w32_rv g1 g2]
  refine c_begin F hj st (fun C2 f2 st2 e2 c0 ⟨c1, c2, c3, c4, c5⟩ => ⟨rfl, c_next F (TkC_cl T f2) hp1 st2 (fun C4 f4 st4 e4 => ⟨rfl, ?_⟩)⟩)
  have g4 : Fp (clx j) C C4 := Fp_tr f2 (crx_cl f4)
  have T4 := TkC_cl T g4
  have dr4 : DrF τ C C4 p (p + 1) := DrF_one (e4.trans e2) n18
  have r4 : ∀ a, 31 ≤ a ∧ a ≤ 35 → C4 a = C2 a := crx_row f4
  have z4 : C4 30 0 = ((j + 1 : Nat) : Int) := by rw [crx_30 f4]; exact c0
  have rest : ∀ (p1 lv1 : Nat) (pre1 : List Int) (C5 : MC) (kc : Int → TSem → Cla) (v f0 : Int) (hv : (n : Int) - 265 = v) (hkc : ∀ i t, (kc i t).1 = (v, 1) ∧ (kc i t).2.1 = (f0, -1, i)), Fp (clx j) C C5 → p1 ≤ τ.length → lv1 ≤ 50 → pre1.length ≤ p1 → RdS C5 p1 lv1 8 pre1 → DrF τ C C5 p p1 → C5 31 = C4 31 → C5 32 = C4 32 → C5 33 j = f0 → C5 34 = C4 34 → C5 35 = C4 35 → C5 30 0 = ((j + 1 : Nat) : Int) → (∀ q C', condP τ false kc p1 lv1 pre1.length = .inl q → Fp (clx j) C C' → q ≤ τ.length → C' 29 7 = q → Q 0 S C') → (∀ i t q lv' cd C', condP τ false kc p1 lv1 pre1.length = .inr (kc i t, q, lv', cd) → Fp (clx j) C C' → RdS C' q lv' 8 (pre1 ++ cd) → DrF τ C C' p q → ClR C' j (kc i t) → C' 30 0 = ((j + 1 : Nat) : Int) → Q 1 S C') → K_X4_readCondition_0 e 0 0 (j : Int) S C5 (fun r Sq C6 => Sq = S ∧ ((r = 0 ∨ r = 1) ∧ Q r S C6)) := by
    intro p1 lv1 pre1 C5 kc v f0 hv hkc f5 hp5 hlv5 hpl5 st5 dr5 a1 a2 a3 a4 a5 a6 h0 h1
    refine c_cond (kc := kc) (by omega) hj F (TkC_cl T f5) hp5 hlv5 hpl5 st5 (by rw [a5, r4 35 (by decide)]; exact c5) (fun q C' er f' hq h7 => ⟨rfl, Or.inl rfl, h0 q C' er (Fp_tr f5 f') hq h7⟩) (fun i t q lv' cd C' er f' rw' z' i' st' dr' => ⟨rfl, Or.inr rfl, h1 i t q lv' cd C' er (Fp_tr f5 f') st' (DrF_tr dr5 dr') ?_ (by rw [z']; exact a6)⟩)
    obtain ⟨k1, k2⟩ := hkc i t
    refine ⟨?_, ?_, ?_, ?_, ?_⟩
    · rw [rw' 31 (by decide), a1, r4 31 (by decide), c1, k1]; exact hv
    · rw [rw' 32 (by decide), a2, r4 32 (by decide), c2, k1]
    · rw [rw' 33 (by decide), a3, k2]
    · rw [rw' 34 (by decide), a4, r4 34 (by decide), c4, k2]
    · rw [i', k2]
  refine ⟨fun y => ?_, fun y => ⟨bj, ?_⟩⟩
  · -- lends, bars
    have m1 : ¬ tc τ p = 1 := by rw [htc]; intro q; exact y (by clear hk no st rest; omega)
    have c33 : C4 33 j = -1 := by rw [r4 33 (by decide)]; exact c3
    by_cases m2 : tc τ p = 2
    · have hr : ruleP τ p lv pre.length = condP τ false (fun i t => ((5, 1), (-1, -1, i), (fun _ => some 0, fun _ => some 0, t))) (p + 1) lv pre.length := by unfold ruleP; rw [if_neg m1, if_pos m2]
      rw [hr] at hk
      exact rest (p + 1) lv pre C4 (fun i t => ((5, 1), (-1, -1, i), (fun _ => some 0, fun _ => some 0, t))) 5 (-1) (by rw [htc] at m2; clear hk no st rest; omega) (fun i t => ⟨rfl, rfl⟩) g4 hp1 hlv (Nat.le_succ_of_le hpl) st4 dr4 rfl rfl c33 rfl rfl z4 (fun q C' er f' hq h7 => hk C' 0 f' (by rw [er]; exact ⟨rfl, hq, h7⟩)) (fun i t q lv' cd C' er f' st' dr' cl' z' => hk C' 1 f' (by rw [er]; exact ⟨rfl, st', dr', cl', z'⟩))
    · have m3 : tc τ p = 3 := by rw [htc] at m1 m2 ⊢; clear hk no st rest; omega
      have hr : ruleP τ p lv pre.length = condP τ false (fun i t => ((6, 1), (-1, -1, i), (fun _ => some 0, fun _ => some 0, t))) (p + 1) lv pre.length := by unfold ruleP; rw [if_neg m1, if_neg m2, if_pos m3]
      rw [hr] at hk
      exact rest (p + 1) lv pre C4 (fun i t => ((6, 1), (-1, -1, i), (fun _ => some 0, fun _ => some 0, t))) 6 (-1) (by rw [htc] at m3; clear hk no st rest; omega) (fun i t => ⟨rfl, rfl⟩) g4 hp1 hlv (Nat.le_succ_of_le hpl) st4 dr4 rfl rfl c33 rfl rfl z4 (fun q C' er f' hq h7 => hk C' 0 f' (by rw [er]; exact ⟨rfl, hq, h7⟩)) (fun i t q lv' cd C' er f' st' dr' cl' z' => hk C' 1 f' (by rw [er]; exact ⟨rfl, st', dr', cl', z'⟩))
  · -- minds
    have m1 : tc τ p = 1 := by rw [htc]; clear hk no st rest; omega
    unfold ruleP at hk
    rw [if_pos m1] at hk
    rw [st4.2.2.2.2.1]
    have fU : Fp (clx j) C (upC C4 33 (j : Int) (pre.length : Int)) := fcl (by decide) g4
    refine (c_sum8 τ false) e S _ _ (p + 1) lv pre (by omega) F (TkC_cl T fU) hp1 hlv (Nat.le_succ_of_le hpl) (RdS_row (by decide) st4) (fun C6 r f6 po => ⟨rfl, ?_⟩)
    have g6 : Fp (clx j) C C6 := Fp_tr fU (crx_cl f6)
    have drU : DrF τ C (upC C4 33 (j : Int) (pre.length : Int)) p (p + 1) := DrF_one (by rw [upC_ne (by decide)]; exact e4.trans e2) n18
    cases hs : sum8 τ false (p + 1) lv pre.length with
    | inl q =>
      rw [hs] at po hk
      exact ⟨fun y => absurd po.1 y, fun _ => hk C6 0 g6 ⟨rfl, po.2⟩⟩
    | inr t =>
      obtain ⟨f, q, lv', cd⟩ := t
      rw [hs] at po hk
      obtain ⟨a1, a2, _⟩ := Gd_sum8 τ false _ _ _ _ _ _ _ hs
      have a3 := ln_sum8 τ false _ _ _ _ _ _ _ hs
      have hN := T.2.1
      simp only at hk
      refine ⟨fun _ => ?_, fun y => absurd (po.1.symm.trans y) (by decide)⟩
      refine c_emit (v := 0) (t := 0) F po.2.1 (by rw [List.length_append]; clear hk no st rest; omega) (by decide) (by decide) (fun C8 f8 st8 e8 => ⟨rfl, ?_⟩)
      have ea : (pre ++ cd) ++ [16 * ((0 : Nat) : Int) + ((0 : Nat) : Int)] = pre ++ (cd ++ [0]) := by simp
      rw [ea] at st8
      have ln : (pre ++ (cd ++ [0])).length = pre.length + (cd.length + 1) := by simp
      have r8 : ∀ a, 31 ≤ a ∧ a ≤ 35 → C8 a = upC C4 33 (j : Int) (pre.length : Int) a := fun a ha => by rw [crx_row f8 a ha, crx_row f6 a ha]
      refine rest q lv' (pre ++ (cd ++ [0])) C8 (fun i t => ((4, 1), ((pre.length : Int), -1, i), (f, fun _ => some 0, t))) 4 (pre.length : Int) (by rw [htc] at m1; clear hk no st rest; omega) (fun i t => ⟨rfl, rfl⟩) (Fp_tr g6 (crx_cl f8)) a1.2 (a2.2 hlv) (by rw [ln]; clear hk no st rest; omega) st8 (DrF_tr drU (DrF_tr po.2.2 (DrF_nil e8))) (by rw [r8 31 (by decide), upC_ne (by decide)]) (by rw [r8 32 (by decide), upC_ne (by decide)]) (by rw [r8 33 (by decide), upC_at]) (by rw [r8 34 (by decide), upC_ne (by decide)]) (by rw [r8 35 (by decide), upC_ne (by decide)]) (by rw [crx_30 f8, crx_30 f6, upC_ne (by decide)]; exact z4) (fun q2 C' er f' hq h7 => hk C' 0 f' ?_) (fun i t q2 lv2 cd2 C' er f' st' dr' cl' z' => hk C' 1 f' ?_)
      · rw [ln] at er
        rw [er]
        exact ⟨rfl, hq, h7⟩
      · rw [ln] at er
        rw [er]
        have eb : (pre ++ (cd ++ [0])) ++ cd2 = pre ++ (cd ++ (0 :: cd2)) := by simp
        rw [eb] at st'
        exact ⟨rfl, st', dr', cl', z'⟩
