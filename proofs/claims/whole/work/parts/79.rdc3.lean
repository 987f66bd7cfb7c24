/-! 79.rdc3: the class reads parts and tests -/
theorem RdS_open {C : MC} {p lv g : Nat} {pre : List Int} (st : RdS C p lv (g + 1) pre) (hg : g ≤ 8) : RdS (upC C 29 10 (w32 (C 29 10 + 1))) p lv g pre := by
  obtain ⟨s1, s2, s3, s4, s5, s6⟩ := st
  refine ⟨by rw [upC_sK (by decide)]; exact s1, by rw [upC_sK (by decide), upC_ne (by decide)]; exact s2, by rw [upC_sK (by decide)]; exact s3, ?_, by rw [upC_ne (by decide)]; exact s5, fun j y hj => by rw [upC_ne (by decide)]; exact s6 j y hj⟩
  rw [upC_at, s4]
  clear s1 s2 s3 s4 s5 s6
  rw [w32_lit (by omega)]
  omega
theorem RdS_shut {C : MC} {p lv g : Nat} {pre : List Int} (st : RdS C p lv g pre) (hg : g ≤ 8) : RdS (upC C 29 10 (w32 (C 29 10 - 1))) p lv (g + 1) pre := by
  obtain ⟨s1, s2, s3, s4, s5, s6⟩ := st
  refine ⟨by rw [upC_sK (by decide)]; exact s1, by rw [upC_sK (by decide), upC_ne (by decide)]; exact s2, by rw [upC_sK (by decide)]; exact s3, ?_, by rw [upC_ne (by decide)]; exact s5, fun j y hj => by rw [upC_ne (by decide)]; exact s6 j y hj⟩
  rw [upC_at, s4]
  clear s1 s2 s3 s4 s5 s6
  rw [w32_lit (by omega)]
  omega
theorem RdS_leaf {C : MC} {p lv g : Nat} {pre : List Int} (st : RdS C p lv g pre) : RdS (upC C 29 9 ((lv + 1 : Nat) : Int)) p (lv + 1) g pre := by
  obtain ⟨s1, s2, s3, s4, s5, s6⟩ := st
  exact ⟨by rw [upC_sK (by decide)]; exact s1, by rw [upC_sK (by decide), upC_ne (by decide)]; exact s2, upC_at _ _ _ _, by rw [upC_sK (by decide)]; exact s4, by rw [upC_ne (by decide)]; exact s5, fun j y hj => by rw [upC_ne (by decide)]; exact s6 j y hj⟩
theorem f29 {C : MC} {k v : Int} (hk : 7 ≤ k ∧ k ≤ 10) : Fp crx C (upC C 29 k v) := Fp_up (Or.inl ⟨rfl, hk⟩) Fp_rf
theorem PoC_tr {α : Type} {τ : Tks} {C C1 C' : MC} {p g : Nat} {pre : List Int} {r : Int} {x : PR α} (e : C1 30 2 = C 30 2) (h : PoC τ C1 C' p g pre r x) : PoC τ C C' p g pre r x := by
  cases x with
  | inl q => exact h
  | inr t => exact ⟨h.1, h.2.1, ⟨fun z => h.2.2.1 (e.trans z), h.2.2.2.1, fun z => h.2.2.2.2 (by rw [e]; exact z)⟩⟩
theorem PoC_01 {α : Type} {τ : Tks} {C C' : MC} {p g : Nat} {pre : List Int} {r : Int} {x : PR α} (h : PoC τ C C' p g pre r x) : r = 0 ∨ r = 1 := by
  cases x with
  | inl q => exact Or.inl h.1
  | inr t => exact Or.inr h.1
/-- what stands in brackets -/
theorem c_br {α : Type} {τ : Tks} {o : Bool} {m g : Nat} {c k : Int} {d : Nat} {s : Rdr α} {P : α → Prop} {p lv : Nat} {pre : List Int} {S : MS} {C : MC} {Q : Qt} {K : Nat → MS → MC → Qt → Prop} (hm : m ≤ d) (hg : g ≤ 8) (hs : RdC τ o m g s K) (hG : Gd τ P s) (hkc : ∀ n : Nat, n < 286 → (mcK n = c ↔ (n : Int) = k)) (hc : c ≠ 0) (hc18 : c ≠ 18) (F : Fix S) (T : TkC τ o C) (hp : p < τ.length) (n18 : tc τ p ≠ 18) (hlv : lv ≤ 50) (hpl : pre.length ≤ p) (st : RdS C p lv (g + 1) pre) (hk0 : ∀ q C', Fp crx C C' → brP τ c (some s) p lv pre.length = .inl q → q ≤ τ.length → C' 29 7 = q → Q 0 S C') (hk1 : ∀ f q lv' cd C', Fp crx C C' → brP τ c (some s) p lv pre.length = .inr (f, q, lv', cd) → RdS C' q lv' (g + 1) (pre ++ cd) → DrF τ C C' p q → Q 1 S C') : K_X4_next_0 d 0 0 S (upC C 29 10 (w32 (C 29 10 + 1))) (fun _ Sq C4 => Sq = S ∧ K d S C4 (fun r5 Sq C6 => Sq = S ∧ ((r5 = 0 → Q 0 S C6) ∧ (¬ r5 = 0 → ((C6 29 8 = k → K_X4_next_0 d 0 0 S (upC C6 29 10 (w32 (C6 29 10 - 1))) (fun _ Sq C8 => Sq = S ∧ Q 1 S C8)) ∧ (¬ C6 29 8 = k → Q 0 S C6)))))) := by
  have fO : Fp crx C (upC C 29 10 (w32 (C 29 10 + 1))) := f29 (by decide)
  refine c_next F (TkC_fp T fO) hp (RdS_open st hg) (fun C4 f4 st4 e4 => ⟨rfl, ?_⟩)
  have g4 := Fp_tr fO f4
  have e4' : C4 30 2 = C 30 2 := by rw [e4, upC_ne (by decide)]
  have dr4 : DrF τ C C4 p (p + 1) := DrF_one e4' n18
  refine hs d S C4 _ (p + 1) lv pre hm F (TkC_fp T g4) hp hlv (Nat.le_succ_of_le hpl) st4 (fun C6 r f6 po => ⟨rfl, ?_⟩)
  have g6 := Fp_tr g4 f6
  unfold brP at hk0 hk1
  simp only at hk0 hk1
  cases hr : s (p + 1) lv pre.length with
  | inl q =>
    rw [hr] at po hk0
    exact ⟨fun _ => hk0 q C6 g6 rfl po.2.1 po.2.2, fun y => absurd po.1 y⟩
  | inr t =>
    obtain ⟨f, q, lv', cd⟩ := t
    rw [hr] at po hk0 hk1
    obtain ⟨a1, a2, _⟩ := hG _ _ _ _ _ _ _ hr
    simp only at hk0 hk1
    have T6 := TkC_fp T g6
    have q6 := tk_eq T6 a1.2 hkc
    refine ⟨fun y => absurd (po.1.symm.trans y) (by decide), fun _ => ?_⟩
    rw [po.2.1.2.1]
    refine ⟨fun z => ?_, fun z => hk0 q C6 g6 (by rw [if_neg (fun y => z (q6.mpr y))]) a1.2 po.2.1.1⟩
    have ht := q6.mp z
    have hq1 := tc_in (τ := τ) (p := q) (by rw [ht]; exact hc)
    have fS : Fp crx C6 (upC C6 29 10 (w32 (C6 29 10 - 1))) := f29 (by decide)
    refine c_next F (TkC_fp T6 fS) hq1 (RdS_shut po.2.1 hg) (fun C8 f8 st8 e8 => ⟨rfl, hk1 f (q + 1) lv' cd C8 (Fp_tr g6 (Fp_tr fS f8)) (by rw [if_pos ht]) st8 (DrF_tr dr4 (DrF_tr po.2.2 (DrF_one ?_ (by rw [ht]; exact hc18))))⟩)
    rw [e8, upC_ne (by decide)]
theorem lt8 {g : Nat} (hg : g + 1 ≤ 8) : (8 : Int) - ((g + 1 : Nat) : Int) < 8 := by omega
theorem c_part {τ : Tks} {o : Bool} {m g : Nat} {inner : Option (Rdr Sem)} (hg : g ≤ 8) (hin : (g = 0 ∧ inner = none) ∨ ∃ g' s, g = g' + 1 ∧ inner = some s ∧ RdC τ o m g' s (fun d S C Q => K_X4_sum_0 d 0 0 S C Q) ∧ Gd τ SBd s) : RdC τ o (m + 3) g (partP τ o inner) (fun d S C Q => K_X4_part_0 d 0 0 S C Q) := by
  intro d S C Q p lv pre hm F T hp hlv hpl st hk
  obtain ⟨e, rfl⟩ : ∃ e, d = e + 3 := ⟨d - 3, by omega⟩
  have hN := T.2.1
  have q91 := tk_eq T hp k91
  have s1 := st.1
  have s8 := st.2.1
  have s9 := st.2.2.1
  have s10 := st.2.2.2.1
  have e6 := T.2.2.2
  have bd := in_bd hp hN
  refine b_X4_part_0 (d := e + 2) F ?_
  rw [s8, s9, s1, s10]
  refine ⟨fun z => ?_, fun z => ?_⟩
  · have z' : tc τ p ≠ 191 := fun y => z (q91.mpr y)
    have hpr : partP τ o inner p lv pre.length = if 50 ≤ lv then .inl p else if tc τ p = 50 ∧ 0 ≤ tv τ p ∧ tv τ p ≤ 1000 then leafP (fun _ => some (tv τ p)) (p + 1) lv (16 * tv τ p + 1) else wordP τ o p lv := by
      unfold partP
      rw [if_neg z']
    rw [hpr] at hk
    refine ⟨fun zl => ?_, fun zl => hk C 0 Fp_rf (by rw [if_pos (by clear hk st s1 s8 s9 s10 e6; omega)]; exact ⟨rfl, hp, s1⟩)⟩
    have hl : ¬ 50 ≤ lv := by clear hk st s1 s8 s9 s10 e6; omega
    rw [if_neg hl] at hk
    rw [w32_nat1 (p := lv) (Nat.le_trans hlv (by decide))]
    have fD : Fp crx C (upC C 29 9 ((lv + 1 : Nat) : Int)) := f29 (by decide)
    have TD := TkC_fp T fD
    have stD := RdS_leaf st
    have eD : upC C 29 9 ((lv + 1 : Nat) : Int) 30 2 = C 30 2 := by rw [upC_ne (by decide)]
    have qn := c_num (hi := 1000) T hp (by decide)
    have word : ¬ (tc τ p = 50 ∧ 0 ≤ tv τ p ∧ tv τ p ≤ 1000) → ((C 29 6 = 0 → K_X4_readRuleWord_0 (e + 2) 0 0 S (upC C 29 9 ((lv + 1 : Nat) : Int)) (fun r1 Sq C2 => Sq = S ∧ ((r1 = 0 ∨ r1 = 1) ∧ Q r1 S C2))) ∧ (¬ C 29 6 = 0 → K_X4_readOrderWord_0 (e + 2) 0 0 S (upC C 29 9 ((lv + 1 : Nat) : Int)) (fun r3 Sq C4 => Sq = S ∧ ((r3 = 0 ∨ r3 = 1) ∧ Q r3 S C4)))) := by
      intro nz
      rw [if_neg nz] at hk
      cases o with
      | false =>
        refine ⟨fun _ => c_rword (d := e + 1) F TD hp hpl stD (fun C' r f' po => ⟨rfl, PoC_01 po, hk C' r (Fp_tr fD f') (PoC_tr eD po)⟩), fun y => absurd e6 y⟩
      | true =>
        refine ⟨fun y => absurd (e6.symm.trans y) (by decide), fun _ => c_oword (d := e) F TD hp hpl stD (fun C' r f' po => ⟨rfl, PoC_01 po, hk C' r (Fp_tr fD f') (PoC_tr eD po)⟩)⟩
    refine ⟨fun y => word (fun q => y ((tk_eq T hp k284).mpr q.1)), fun y => ⟨bd, fun y2 => word (fun q => absurd (qn.mpr q).2 (Int.not_le.mpr y2)), fun y2 => ⟨bd, ?_⟩⟩⟩
    have hh := qn.mp ⟨y, Int.not_lt.mp y2⟩
    have hp1 : p < τ.length := tc_in (by rw [hh.1]; decide)
    rw [c_nval T hp hh]
    rw [if_pos hh] at hk
    obtain ⟨v, hv⟩ : ∃ v : Nat, tv τ p = v := ⟨(tv τ p).toNat, (Int.toNat_of_nonneg hh.2.1).symm⟩
    have hv2 : v < 1024 := by rw [hv] at hh; clear hk st s1 s8 s9 s10 e6 hv qn y y2 word; omega
    rw [hv] at hk ⊢
    refine c_emit (t := 1) F stD (Nat.lt_of_le_of_lt hpl (Nat.lt_of_lt_of_le hp1 hN)) hv2 (by decide) (fun C2 f2 st2 e2 => ⟨rfl, c_next F (TkC_fp TD f2) hp1 st2 (fun C4 f4 st4 e4 => ⟨rfl, hk C4 1 (Fp_tr fD (Fp_tr f2 f4)) ⟨rfl, st4, DrF_one (e4.trans (e2.trans eD)) (by rw [hh.1]; decide)⟩⟩)⟩)
  · have z' := q91.mp z
    have hpr : partP τ o inner p lv pre.length = brP τ 193 inner p lv pre.length := by
      unfold partP
      rw [if_pos z']
    rw [hpr] at hk
    have hp1 : p < τ.length := tc_in (by rw [z']; decide)
    rcases hin with ⟨h8, hi⟩ | ⟨g', s, h8, hi, hs, hG⟩
    · refine ⟨fun y => absurd y (by rw [h8]; decide), fun _ => hk C 0 Fp_rf ?_⟩
      rw [hi]
      exact ⟨rfl, hp, s1⟩
    · subst h8
      refine ⟨fun _ => ?_, fun y => absurd (lt8 hg) y⟩
      rw [hi] at hk
      rw [← s10]
      exact c_br (Nat.le_trans (Nat.le_of_add_le_add_right (b := 3) hm) (Nat.le_add_right e 2)) (Nat.le_of_succ_le hg) hs hG k93 (by decide) (by decide) F T hp1 (by rw [z']; decide) hlv hpl st (fun q C' f' er hq h7 => hk C' 0 f' (by rw [er]; exact ⟨rfl, hq, h7⟩)) (fun f q lv' cd C' f' er st' dr' => hk C' 1 f' (by rw [er]; exact ⟨rfl, st', dr'⟩))
theorem c_sum {τ : Tks} {o : Bool} {m g : Nat} {pt : Rdr Sem} (hpt : RdC τ o (m + 1) g pt (fun d S C Q => K_X4_part_0 d 0 0 S C Q)) (hG : Gd τ SBd pt) (hL : Ln pt) : RdC τ o (m + 3) g (sumP τ pt) (fun d S C Q => K_X4_sum_0 d 0 0 S C Q) :=
  c_seq (m := m + 1) (Kpt := fun d S C Q => K_X4_product_0 d 0 0 S C Q) (c_seq (m := m) (K0 := fun d S C Q => K_X4_product_0 d 0 0 S C Q) hpt hG hL (lc_term τ o) (by decide) (by decide) (fun d S C Q F h => b_X4_product_0 F h)) (Gd_seq hG) (ln_seq hL) (lc_sum τ o) (by decide) (by decide) (fun d S C Q F h => b_X4_sum_0 F h)
theorem c_pt (τ : Tks) (o : Bool) : ∀ (g : Nat), g ≤ 8 → RdC τ o (5 * g + 4) g (ptP τ o g) (fun d S C Q => K_X4_part_0 d 0 0 S C Q)
  | 0, h => RdC_up (c_part (m := 0) (by decide) (Or.inl ⟨rfl, rfl⟩)) (by decide)
  | g + 1, h => RdC_up (c_part (m := 5 * g + 6) h (Or.inr ⟨g, _, rfl, rfl, c_sum (m := 5 * g + 3) (c_pt τ o g (by omega)) (Gd_pt τ o g) (ln_pt τ o g), Gd_sum (Gd_pt τ o g)⟩)) (by omega)
theorem c_sumg (τ : Tks) (o : Bool) (g : Nat) (h : g ≤ 8) : RdC τ o (5 * g + 6) g (sumP τ (ptP τ o g)) (fun d S C Q => K_X4_sum_0 d 0 0 S C Q) := c_sum (m := 5 * g + 3) (c_pt τ o g h) (Gd_pt τ o g) (ln_pt τ o g)
/-! tests -/
theorem c_nots {τ : Tks} {o : Bool} {d p0 lv g : Nat} {pre : List Int} {S : MS} {C0 : MC} {Q : Qt} (F : Fix S) (T : TkC τ o C0) : ∀ (n p : Nat) (b : Bool) (C : MC), n ≤ 400 → Fp crx C0 C → p ≤ τ.length → RdS C p lv g pre → DrF τ C0 C p0 p → (∀ C', Fp crx C0 C' → RdS C' (notP τ n p b).2 lv g pre → DrF τ C0 C' p0 (notP τ n p b).2 → K_X4_plain_41 (d + 1) 0 0 (b2 (notP τ n p b).1) S C' Q) → K_X4_plain_4 (d + 1) 0 0 (b2 b) ((400 - n : Nat) : Int) S C Q
  | 0, p, b, C, hn, fC, hp, st, dr, hk => b_X4_plain_4 F ⟨fun _ => hk C fC st dr, fun z => absurd (by decide) z⟩
  | n + 1, p, b, C, hn, fC, hp, st, dr, hk => by
    have TC := TkC_fp T fC
    have q := tk_eq TC hp k282
    unfold notP at hk
    refine b_X4_plain_4 F ⟨fun z => absurd z (nat400 (by omega)), fun _ => ?_⟩
    rw [st.2.1, w32_l hn]
    refine ⟨fun z => ?_, fun z => ?_⟩
    · rw [if_neg (fun y => z (q.mpr y))] at hk
      exact hk C fC st dr
    · have ht := q.mp z
      rw [if_pos ht] at hk
      have hp1 := tc_in (τ := τ) (p := p) (by rw [ht]; decide)
      have go : ∀ Cn, Fp crx C Cn → RdS Cn (p + 1) lv g pre → Cn 30 2 = C 30 2 → K_X4_plain_4 (d + 1) 0 0 (b2 (!b)) ((400 - n : Nat) : Int) S Cn Q := fun Cn fn sn en => c_nots F T n (p + 1) (!b) Cn (by omega) (Fp_tr fC fn) hp1 sn (DrF_tr dr (DrF_one en (by rw [ht]; decide))) hk
      refine ⟨fun y => c_next F TC hp1 st (fun Cn fn sn en => ⟨rfl, ?_⟩), fun y => c_next F TC hp1 st (fun Cn fn sn en => ⟨rfl, ?_⟩)⟩
      · have := go Cn fn sn en
        cases b with
        | true => exact this
        | false => exact absurd rfl y
      · have := go Cn fn sn en
        cases b with
        | true => exact absurd y (by decide)
        | false => exact this
/-- at a plain's end: the not -/
theorem c_notend {τ : Tks} {o : Bool} {d p0 p q lv g : Nat} {nt : Bool} {pre cd : List Int} {S : MS} {C0 C : MC} {Q : Qt} (F : Fix S) (st : RdS C q lv g (pre ++ cd)) (dr : DrF τ C0 C p0 q) (hl : nt = true → (pre ++ cd).length < 400) (hk : ∀ C', Fp crx C C' → RdS C' q lv g (pre ++ (if nt then cd ++ [11] else cd)) → DrF τ C0 C' p0 q → Q 1 S C') : (b2 nt = 0 → Q 1 S C) ∧ (¬ b2 nt = 0 → K_X9_emit_0 d 0 0 11 0 S C (fun _ Sq C10 => Sq = S ∧ Q 1 S C10)) := by
  cases nt with
  | false => exact ⟨fun _ => hk C Fp_rf st dr, fun y => absurd rfl y⟩
  | true =>
    refine ⟨fun y => absurd y (by decide), fun _ => c_emit (v := 0) (t := 11) F st (hl rfl) (by decide) (by decide) (fun C2 f2 st2 e2 => ⟨rfl, hk C2 f2 ?_ (DrF_tr dr (DrF_nil e2))⟩)⟩
    have ea : (pre ++ cd) ++ [16 * ((0 : Nat) : Int) + ((11 : Nat) : Int)] = pre ++ (if true then cd ++ [11] else cd) := by simp
    rw [ea] at st2
    exact st2
theorem c_plain {τ : Tks} {o : Bool} {m g : Nat} {su : Rdr Sem} {inner : Option (Rdr TSem)} (hg : g ≤ 8) (hsu : RdC τ o m g su (fun d S C Q => K_X4_sum_0 d 0 0 S C Q)) (hGs : Gd τ SBd su) (hLs : Ln su) (hin : (g = 0 ∧ inner = none) ∨ ∃ g' s, g = g' + 1 ∧ inner = some s ∧ RdC τ o m g' s (fun d S C Q => K_X4_test_0 d 0 0 S C Q) ∧ Gd τ Tr s ∧ Ln s) : RdC τ o (m + 2) g (plainP τ su inner) (fun d S C Q => K_X4_plain_0 d 0 0 S C Q) := by
  intro d S C Q p lv pre hm F T hp hlv hpl st hk
  obtain ⟨e, rfl⟩ : ∃ e, d = e + 2 := ⟨d - 2, by omega⟩
  have hN := T.2.1
  refine b_X4_plain_0 (d := e + 1) F ?_
  refine c_nots (d := e + 1) (p0 := p) F T 400 p false C (Nat.le_refl _) Fp_rf hp st (DrF_nil rfl) (fun D fD stD drD => ?_)
  have hqle := notP_le τ 400 p false
  have hq := notP_hi (τ := τ) 400 p false hp
  have hodd := notP_odd τ 400 p false
  unfold plainP at hk
  generalize hnt : (notP τ 400 p false).1 = nt at hk hodd
  generalize (notP τ 400 p false).2 = q0 at stD drD hqle hq hodd hk
  have hodd2 : nt = true → p < q0 := fun z => hodd (by rw [z]; rfl)
  clear hodd hnt
  have TD := TkC_fp T fD
  have q40 := tk_eq TD hq k40
  have s8 := stD.2.1
  have s10 := stD.2.2.2.1
  have hpl0 : pre.length ≤ q0 := Nat.le_trans hpl hqle
  -- the end
  have ending : ∀ (f : TSem) (q lv' : Nat) (cd : List Int) (C1 : MC), posP τ su inner q0 lv pre.length = .inr (f, q, lv', cd) → q ≤ τ.length → q0 + cd.length ≤ q → Fp crx C C1 → RdS C1 q lv' g (pre ++ cd) → DrF τ C C1 p q → (b2 nt = 0 → Q 1 S C1) ∧ (¬ b2 nt = 0 → K_X9_emit_0 (e + 1) 0 0 11 0 S C1 (fun _ Sq C10 => Sq = S ∧ Q 1 S C10)) := by
    intro f q lv' cd C1 er hq1 hq2 f1 st1 dr1
    rw [er] at hk
    exact c_notend (o := o) (p := p) F st1 dr1 (fun z => by have := hodd2 z; rw [List.length_append]; omega) (fun C' f' st' dr' => hk C' 1 (Fp_tr f1 f') ⟨rfl, st', dr'⟩)
  have fault : ∀ (q : Nat) (C1 : MC), posP τ su inner q0 lv pre.length = .inl q → Fp crx C C1 → q ≤ τ.length → C1 29 7 = q → Q 0 S C1 := by
    intro q C1 er f1 hq1 h7
    rw [er] at hk
    exact hk C1 0 f1 ⟨rfl, hq1, h7⟩
  refine b_X4_plain_41 (d := e + 1) F ?_
  rw [s8, s10]
  refine ⟨fun z => ?_, fun z => ?_⟩
  · have hpos : posP τ su inner q0 lv pre.length = cmprP τ su q0 lv pre.length := by
      unfold posP
      rw [if_neg (fun y => z (q40.mpr y))]
    rw [hpos] at ending fault
    unfold cmprP at ending fault
    refine hsu (e + 1) S D _ q0 lv pre (by omega) F TD hq hlv hpl0 stD (fun C2 r f2 po => ⟨rfl, ?_⟩)
    have g2 := Fp_tr fD f2
    cases hs : su q0 lv pre.length with
    | inl q =>
      rw [hs] at po fault
      exact ⟨fun _ => fault q C2 rfl g2 po.2.1 po.2.2, fun y => absurd po.1 y⟩
    | inr t =>
      obtain ⟨f1, q, lv', cd⟩ := t
      rw [hs] at po ending fault
      obtain ⟨a1, a2, _⟩ := hGs _ _ _ _ _ _ _ hs
      have a3 := hLs _ _ _ _ _ _ _ hs
      simp only at ending fault
      have T2 := TkC_fp T g2
      have q60 := tk_eq T2 a1.2 k60
      have q61 := tk_eq T2 a1.2 k61
      have q62 := tk_eq T2 a1.2 k62
      have t8 := po.2.1.2.1
      have go : ∀ ct : Nat, isCmp (tc τ q) = true → cmpC (tc τ q) = (ct : Int) → ct < 16 → K_X4_next_0 (e + 1) 0 0 S C2 (fun _ Sq C4 => Sq = S ∧ K_X4_sum_0 (e + 1) 0 0 S C4 (fun r5 Sq C6 => Sq = S ∧ ((¬ r5 = 0 → K_X9_emit_0 (e + 1) 0 0 (ct : Int) 0 S C6 (fun _ Sq C8 => Sq = S ∧ ((b2 nt = 0 → Q 1 S C8) ∧ (¬ b2 nt = 0 → K_X9_emit_0 (e + 1) 0 0 11 0 S C8 (fun _ Sq C10 => Sq = S ∧ Q 1 S C10))))) ∧ (r5 = 0 → Q 0 S C6)))) := by
        intro ct hc hct hct2
        have hc3 := isCmp_iff.mp hc
        have hq1 := tc_in (τ := τ) (p := q) (by rcases hc3 with y | y | y <;> rw [y] <;> decide)
        have n18 : tc τ q ≠ 18 := by rcases hc3 with y | y | y <;> rw [y] <;> decide
        rw [if_pos hc] at ending fault
        refine c_next F T2 hq1 po.2.1 (fun C4 f4 st4 e4 => ⟨rfl, ?_⟩)
        have g4 := Fp_tr g2 f4
        refine hsu (e + 1) S C4 _ (q + 1) lv' (pre ++ cd) (by omega) F (TkC_fp T g4) hq1 (a2.2 hlv) (by rw [List.length_append]; omega) st4 (fun C6 r6 f6 po6 => ⟨rfl, ?_⟩)
        have g6 := Fp_tr g4 f6
        rw [List.length_append] at po6
        cases hs2 : su (q + 1) lv' (pre.length + cd.length) with
        | inl r =>
          rw [hs2] at po6 fault
          exact ⟨fun y => absurd po6.1 y, fun _ => fault r C6 rfl g6 po6.2.1 po6.2.2⟩
        | inr t2 =>
          obtain ⟨f2', q2, lv2, cd2⟩ := t2
          rw [hs2] at po6 ending
          obtain ⟨b1, b2', _⟩ := hGs _ _ _ _ _ _ _ hs2
          have b3 := hLs _ _ _ _ _ _ _ hs2
          simp only at ending
          refine ⟨fun _ => ?_, fun y => absurd (po6.1.symm.trans y) (by decide)⟩
          refine c_emit (v := 0) F po6.2.1 (by rw [List.length_append, List.length_append]; omega) (by decide) hct2 (fun C8 f8 st8 e8 => ⟨rfl, ?_⟩)
          have ea : ((pre ++ cd) ++ cd2) ++ [16 * ((0 : Nat) : Int) + (ct : Int)] = pre ++ (cd ++ (cd2 ++ [cmpC (tc τ q)])) := by rw [hct]; simp
          rw [ea] at st8
          refine ending _ q2 lv2 _ C8 rfl b1.2 ?_ (Fp_tr g6 f8) st8 (DrF_tr drD (DrF_tr po.2.2 (DrF_tr (DrF_one e4 n18) (DrF_tr po6.2.2 (DrF_nil e8)))))
          simp only [List.length_append, List.length_singleton]
          omega
      refine ⟨fun y => absurd (po.1.symm.trans y) (by decide), fun _ => ?_⟩
      rw [t8]
      refine ⟨fun y => b_X4_plain_146 (d := e + 1) F ?_, fun y => ⟨fun y2 => b_X4_plain_146 (d := e + 1) F ?_, fun y2 => ⟨fun y3 => b_X4_plain_146 (d := e + 1) F ?_, fun y3 => ?_⟩⟩⟩
      · have ht := q60.mp y
        refine b_X4_comparison_0 F ⟨fun x => absurd (t8.trans y) x, fun _ => ⟨rfl, go 8 (by rw [ht]; rfl) (by rw [ht]; rfl) (by decide)⟩⟩
      · have ht := q62.mp y2
        refine b_X4_comparison_0 F ⟨fun x => ⟨fun x2 => absurd (t8.trans y2) x2, fun _ => ⟨rfl, go 9 (by rw [ht]; rfl) (by rw [ht]; rfl) (by decide)⟩⟩, fun x => absurd (t8.symm.trans x) y⟩
      · have ht := q61.mp y3
        refine b_X4_comparison_0 F ⟨fun x => ⟨fun x2 => ⟨rfl, go 10 (by rw [ht]; rfl) (by rw [ht]; rfl) (by decide)⟩, fun x2 => absurd (t8.symm.trans x2) y2⟩, fun x => absurd (t8.symm.trans x) y⟩
      · refine fault q C2 ?_ g2 a1.2 po.2.1.1
        rw [if_neg (fun x => ?_)]
        rcases isCmp_iff.mp x with x | x | x
        · exact y (q60.mpr x)
        · exact y2 (q62.mpr x)
        · exact y3 (q61.mpr x)
  · have ht := q40.mp z
    have hpos : posP τ su inner q0 lv pre.length = brP τ 141 inner q0 lv pre.length := by
      unfold posP
      rw [if_pos ht]
    rw [hpos] at ending fault
    have hp1 : q0 < τ.length := tc_in (by rw [ht]; decide)
    rcases hin with ⟨h8, hi⟩ | ⟨g', s, h8, hi, hs, hG, hL⟩
    · refine ⟨fun y => absurd y (by rw [h8]; decide), fun _ => fault q0 D ?_ fD hq stD.1⟩
      rw [hi]
      rfl
    · subst h8
      refine ⟨fun _ => ?_, fun y => absurd (lt8 hg) y⟩
      rw [hi] at ending fault
      rw [← s10]
      have fO : Fp crx D (upC D 29 10 (w32 (D 29 10 + 1))) := f29 (by decide)
      refine c_next F (TkC_fp TD fO) hp1 (RdS_open stD (Nat.le_of_succ_le hg)) (fun C4 f4 st4 e4 => ⟨rfl, ?_⟩)
      have g4 := Fp_tr fD (Fp_tr fO f4)
      have e4' : C4 30 2 = D 30 2 := by rw [e4, upC_ne (by decide)]
      have dr4 := DrF_tr drD (DrF_one (p := q0) e4' (by rw [ht]; decide))
      refine hs (e + 1) S C4 _ (q0 + 1) lv pre (by omega) F (TkC_fp T g4) hp1 hlv (Nat.le_succ_of_le hpl0) st4 (fun C6 r f6 po => ⟨rfl, ?_⟩)
      have g6 := Fp_tr g4 f6
      unfold brP at ending fault
      simp only at ending fault
      cases hr : s (q0 + 1) lv pre.length with
      | inl q =>
        rw [hr] at po fault
        exact ⟨fun _ => fault q C6 rfl g6 po.2.1 po.2.2, fun y => absurd po.1 y⟩
      | inr t =>
        obtain ⟨f, q, lv', cd⟩ := t
        rw [hr] at po ending fault
        obtain ⟨a1, a2, _⟩ := hG _ _ _ _ _ _ _ hr
        have a3 := hL _ _ _ _ _ _ _ hr
        simp only at ending fault
        have T6 := TkC_fp T g6
        have q6 := tk_eq T6 a1.2 k41
        refine ⟨fun y => absurd (po.1.symm.trans y) (by decide), fun _ => ?_⟩
        rw [po.2.1.2.1]
        refine ⟨fun y => ?_, fun y => fault q C6 (by rw [if_neg (fun x => y (q6.mpr x))]) g6 a1.2 po.2.1.1⟩
        have ht2 := q6.mp y
        have hq1 := tc_in (τ := τ) (p := q) (by rw [ht2]; decide)
        have fS : Fp crx C6 (upC C6 29 10 (w32 (C6 29 10 - 1))) := f29 (by decide)
        rw [if_pos ht2] at ending
        refine c_next F (TkC_fp T6 fS) hq1 (RdS_shut po.2.1 (Nat.le_of_succ_le hg)) (fun C8 f8 st8 e8 => ⟨rfl, ending f (q + 1) lv' cd C8 rfl hq1 (by omega) (Fp_tr g6 (Fp_tr fS f8)) st8 (DrF_tr dr4 (DrF_tr po.2.2 (DrF_one ?_ (by rw [ht2]; decide))))⟩)
        rw [e8, upC_ne (by decide)]
theorem c_test {τ : Tks} {o : Bool} {m g : Nat} {pl : Rdr TSem} (hpt : RdC τ o (m + 1) g pl (fun d S C Q => K_X4_plain_0 d 0 0 S C Q)) (hG : Gd τ Tr pl) (hL : Ln pl) : RdC τ o (m + 3) g (testP τ pl) (fun d S C Q => K_X4_test_0 d 0 0 S C Q) :=
  c_lazy (m := m + 1) (t := 13) (Kpt := fun d S C Q => K_X4_both_0 d 0 0 S C Q) (c_lazy (m := m) (t := 12) (K0 := fun d S C Q => K_X4_both_0 d 0 0 S C Q) hpt hG hL (lz_both τ o) (by decide) (by decide) (by decide) (fun d S C Q F h => b_X4_both_0 F h)) (Gd_lazy hG) (ln_lazy hL) (lz_test τ o) (by decide) (by decide) (by decide) (fun d S C Q F h => b_X4_test_0 F h)
theorem c_pl (τ : Tks) (o : Bool) : ∀ (g : Nat), g ≤ 8 → RdC τ o (5 * g + 9) g (plP τ o g) (fun d S C Q => K_X4_plain_0 d 0 0 S C Q)
  | 0, h => RdC_up (c_plain (m := 6) (by decide) (c_sumg τ o 0 h) (Gd_sum (Gd_pt τ o 0)) (ln_sum (ln_pt τ o 0)) (Or.inl ⟨rfl, rfl⟩)) (by decide)
  | g + 1, h => RdC_up (c_plain (m := 5 * g + 12) h (RdC_up (c_sumg τ o (g + 1) h) (by omega)) (Gd_sum (Gd_pt τ o (g + 1))) (ln_sum (ln_pt τ o (g + 1))) (Or.inr ⟨g, _, rfl, rfl, RdC_up (c_test (m := 5 * g + 8) (c_pl τ o g (by omega)) (Gd_pl τ o g) (ln_pl τ o g)) (by omega), Gd_test (Gd_pl τ o g), ln_lazy (ln_lazy (ln_pl τ o g))⟩)) (by omega)
theorem c_sum8 (τ : Tks) (o : Bool) : RdC τ o 60 8 (sum8 τ o) (fun d S C Q => K_X4_sum_0 d 0 0 S C Q) := RdC_up (c_sumg τ o 8 (by decide)) (by decide)
theorem c_test8 (τ : Tks) (o : Bool) : RdC τ o 60 8 (test8 τ o) (fun d S C Q => K_X4_test_0 d 0 0 S C Q) := RdC_up (c_test (m := 48) (c_pl τ o 8 (by decide)) (Gd_pl τ o 8) (ln_pl τ o 8)) (by decide)
