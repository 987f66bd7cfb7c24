/-! 44.cover: whether it can be had, in the class -/
def mskS (A : Nat → Nat) : Nat → Nat → Bool := fun h k => (A h).testBit k
theorem shl2_all : ∀ s : Nat, s < 15 → iShl 2 (s : Int) = ((2 ^ (s + 1) : Nat) : Int) := by decide +kernel
theorem near_eq {A X low : Nat} {R : Int} (hA : A < 256) (hX : X < 256) (hl : low < 8) (hR : 0 ≤ R ∧ R ≤ 7) : iAnd (iAnd (A : Int) (X : Int)) (w32 (iShl 2 (w32 ((low : Int) + R)) - 1)) = ((nearM A X low R : Nat) : Int) := by
  obtain ⟨r, hr⟩ : ∃ r : Nat, R = r := ⟨R.toNat, by omega⟩
  subst hr
  have e1 : w32 ((low : Int) + (r : Int)) = ((low + r : Nat) : Int) := by rw [w32_lit (by omega)]; omega
  have hp : 2 ^ (low + r + 1) ≤ 32768 := Nat.pow_le_pow_right (n := 2) (by decide) (show low + r + 1 ≤ 15 by omega)
  have hp0 : 0 < 2 ^ (low + r + 1) := Nat.two_pow_pos _
  have e2 : w32 (((2 ^ (low + r + 1) : Nat) : Int) - 1) = ((2 ^ (low + r + 1) - 1 : Nat) : Int) := by rw [w32_lit (by omega)]; omega
  rw [e1, shl2_all (low + r) (by omega), e2, iAnd_nat (by omega) (by omega), iAnd_nat (by have : A &&& X ≤ A := Nat.and_le_left; omega) (by omega)]
  have e3 : A &&& X &&& (2 ^ (low + r + 1) - 1) = nearM A X low (r : Int) := by
    apply Nat.eq_of_testBit_eq
    intro k
    rw [Nat.testBit_and, Nat.testBit_and, near_bit hX, Nat.testBit_two_pow_sub_one]
    by_cases z : k < low + r + 1
    · rw [decide_eq_true z, decide_eq_true (by omega)]
    · rw [decide_eq_false z, decide_eq_false (by omega)]
  rw [e3]
def negB (P k : Nat) : Bool := !(P.testBit k) || (List.range 8).any (fun j => P.testBit j && decide (j < k)) || iAnd (P : Int) (w32 (-(P : Int))) == ((2 ^ k : Nat) : Int)
set_option maxRecDepth 100000 in
theorem negB_all : ∀ P : Nat, P < 256 → ∀ k : Nat, k < 8 → negB P k = true := by decide +kernel
theorem neg_low {P k : Nat} (hP : P < 256) (hk : k < 8) (hb : P.testBit k = true) (hl : ∀ j : Nat, P.testBit j = true → k ≤ j) : iAnd (P : Int) (w32 (-(P : Int))) = ((2 ^ k : Nat) : Int) := by
  have := negB_all P hP k hk
  unfold negB at this
  rw [hb] at this
  simp only [Bool.or_eq_true, Bool.not_true, beq_iff_eq, List.any_eq_true] at this
  rcases this with (z | ⟨j, j1, j2⟩) | z
  · cases z
  · simp at j2
    have := hl j j2.1
    omega
  · exact z
theorem and_pow_ne {P k : Nat} : P &&& 2 ^ k ≠ 0 ↔ P.testBit k = true := by
  constructor
  · intro h
    obtain ⟨j, hj⟩ := exists_bit h
    rw [Nat.testBit_and, Nat.testBit_two_pow] at hj
    simp at hj
    rw [hj.2]; exact hj.1
  · intro h z
    have := congrArg (fun x => x.testBit k) z
    simp [Nat.testBit_and, Nat.testBit_two_pow, h] at this
theorem bit_lt6 {x k : Nat} (hx : x < 64) (h : x.testBit k = true) : k < 6 := by
  rcases Nat.lt_or_ge k 6 with h1 | h1
  · exact h1
  · rw [Nat.testBit_lt_two_pow (Nat.lt_of_lt_of_le hx (Nat.le_trans (by decide : 64 ≤ 2 ^ 6) (Nat.pow_le_pow_right (by decide) h1)))] at h
    cases h
/-- houses of a crowd -/
def inH (n G : Nat) : Nat → Prop := fun h => h < n ∧ G.testBit h = true
theorem s_covered {d n : Nat} {a : Int} {S : MS} {C : MC} {A : Nat → Nat} {hd rc : Nat → Int} (F : Fix S) (ha : isSt a) (hS : S.2.2.2.1 44 8 = a) (hB : Bt C a n hd rc) (hA : ∀ h, h < n → C 45 h = A h ∧ A h < 256) :
    ∀ (f X G : Nat) (Q : Qt), sm (fun _ => 1) X ≤ f → X < 256 → G < 64 → (∀ r, (r = 1 ∧ Cv (okP (mskS A) hd rc) (inH n G) X ∨ r = 0 ∧ ¬ Cv (okP (mskS A) hd rc) (inH n G) X) → Q r S C) → K_X3_covered_0 (d + 2 * f + 1) 0 0 X G S C Q := by
  obtain ⟨b1, b2, b3⟩ := hB
  have h0 : ∀ G h, inH n G h → okP (mskS A) hd rc h 0 := fun G h hh => okP_zero (by have := (b3 h hh.1).2.2.1; omega)
  intro f
  induction f with
  | zero =>
    intro X G Q hf hX hG h
    have : X = 0 := by
      apply Classical.byContradiction
      intro hne
      obtain ⟨k, hk⟩ := exists_bit hne
      have h1 := sm_mono (f := fun _ => 1) (pow_sub hk) (fun _ _ => by decide)
      rw [sm1_pow k (bit_lt8 hX hk)] at h1
      omega
    subst this
    exact b_X3_covered_0 F ⟨fun z => absurd rfl z, fun _ => h 1 (Or.inl ⟨rfl, Cv_zero (h0 G)⟩)⟩
  | succ f ih =>
    intro X G Q hf hX hG h
    refine b_X3_covered_0 F ⟨fun z => ?_, fun z => ?_⟩
    · have hX0 : X ≠ 0 := fun e => z (by rw [e]; rfl)
      refine s_lowestKey F hX hX0 (fun low l1 l2 l3 => ⟨rfl, ?_⟩)
      -- the rest of the keys is less
      have less : ∀ P, P.testBit low = true → mSub P X → sm (fun _ => 1) (mDiff X P) ≤ f ∧ mDiff X P < 256 := fun P p1 p2 => by
        have e1 := sm_split (f := fun _ => 1) p2
        have e2 := sm_mono (f := fun _ => 1) (pow_sub p1) (fun _ _ => by decide)
        rw [sm1_pow low l1] at e2
        have := mDiff_le X P
        omega
      refine up_ind (α := Unit) (P := fun h _ => ∀ j, j < h → ¬ (inH n G j ∧ ∃ a, Vd (okP (mskS A) hd rc) (inH n G) X a ∧ a low = j)) (K := fun h _ => K_X3_covered_14 (d + 2 * (f + 1) + 1) 0 0 X G low (h : Int) S C Q) n ?_ ?_ 0 (by omega) () (fun j hj => absurd hj (Nat.not_lt_zero j))
      · intro _ hP
        refine b_X3_covered_14 F (fun st hst => ?_)
        rw [hS] at hst
        subst hst
        refine ⟨ha, fun _ => h 0 (Or.inr ⟨rfl, fun ⟨w, hw⟩ => ?_⟩), fun z => by omega⟩
        have hl := hw.1 low l2
        exact hP (w low) hl.1 ⟨hl, w, hw, rfl⟩
      · intro hh _ hhn hP ihu
        obtain ⟨c1, c2⟩ := hA hh hhn
        obtain ⟨c3, c4, c5, c6⟩ := b3 hh hhn
        have next : ¬ (inH n G hh ∧ ∃ a, Vd (okP (mskS A) hd rc) (inH n G) X a ∧ a low = hh) → K_X3_covered_14 (d + 2 * (f + 1) + 1) 0 0 X G low (w32 ((hh : Int) + 1)) S C Q := by
          intro hno
          rw [w32_succ (by omega)]
          refine ihu () (fun j hj => ?_)
          by_cases e : j = hh
          · rw [e]; exact hno
          · exact hP j (by omega)
        refine b_X3_covered_14 F (fun st hst => ?_)
        rw [hS] at hst
        subst hst
        refine ⟨ha, fun z => by omega, fun _ => ⟨fun z => next (fun q => z ?_), fun z => ⟨by omega, fun z2 => next (fun q => z2 ?_), fun z2 => ⟨by omega, by omega, ?_⟩⟩⟩⟩
        · exact (isin_iff (by omega) (by omega)).mpr q.1.2
        · obtain ⟨q1, w, hw, e⟩ := q
          have hpl : (prt w X hh).testBit low = true := by rw [prt_bit hX, l2, e]; simp
          rw [c1]
          exact (isin_iff c2 (by omega)).mpr ((hw.2 hh q1).1 low hpl)
        · rw [isin_iff (by omega) (by omega)] at z
          rw [c1, isin_iff c2 (by omega)] at z2
          rw [c1, c4, near_eq c2 hX l1 c6, iShl1 hh (by omega), iDiff_nat (by omega) (by have := Nat.pow_lt_pow_right (a := 2) (by decide) (show hh < 6 by omega); omega)]
          have hH : ∀ j, inH n G j ↔ inH n (mDiff G (2 ^ hh)) j ∨ j = hh := fun j => by
            unfold inH
            rw [mDiff_bit, Nat.testBit_two_pow]
            by_cases e : j = hh
            · subst e; simp [hhn, z]
            · have : ¬ hh = j := fun q => e q.symm
              simp [e, this]
          have hn' : ¬ inH n (mDiff G (2 ^ hh)) hh := fun q => by
            have := q.2
            rw [mDiff_bit, Nat.testBit_two_pow] at this
            simp at this
          have pick := cov_pick (cn := mskS A) (hd := hd) (rc := rc) (H := inH n (mDiff G (2 ^ hh))) (H' := inH n G) (X := X) (A := A hh) (low := low) (h := hh) hX hH hn' (fun k hk => hk) (fun k _ hk => hk) l2 l3 c6.1
          have hG2 : mDiff G (2 ^ hh) < 64 := Nat.lt_of_le_of_lt (mDiff_le _ _) hG
          generalize hN : nearM (A hh) X low (rc hh) = N at *
          have hN256 : N < 256 := by rw [← hN]; exact mk8_lt _
          have hNX : mSub N X := by rw [← hN]; exact near_sub hX
          have hNlow : N.testBit low = true := by rw [← hN, near_bit hX, z2, l2]; simp; omega
          have hNl : ∀ j, N.testBit j = true → low ≤ j := fun j hj => l3 j (mSub_bit.mp hNX j hj)
          -- what coveredFrom tells
          have fin : ∀ r : Int, (r = 1 ∧ (∃ a, Vd (okP (mskS A) hd rc) (inH n G) X a ∧ a low = hh) ∨ r = 0 ∧ ¬ (∃ a, Vd (okP (mskS A) hd rc) (inH n G) X a ∧ a low = hh)) → S = S ∧ ((r = 0 → K_X3_covered_14 (d + 2 * (f + 1) + 1) 0 0 X G low (w32 ((hh : Int) + 1)) S C Q) ∧ (¬ r = 0 → Q 1 S C)) := by
            intro r hr
            refine ⟨rfl, fun z3 => next (fun q => ?_), fun z3 => ?_⟩
            · rcases hr with ⟨e, _⟩ | ⟨_, e⟩
              · omega
              · exact e q.2
            · rcases hr with ⟨_, w, hw, _⟩ | ⟨e, _⟩
              · exact h 1 (Or.inl ⟨rfl, w, hw⟩)
              · exact absurd e z3
          refine b_X3_coveredFrom_0 F (fun st hst => ?_)
          rw [hS] at hst
          subst hst
          refine ⟨ha, by omega, s_bitCount F (by omega) ⟨rfl, ?_⟩⟩
          rw [c3, pc8_all N hN256]
          refine ⟨fun hc => ?_, fun hc => ?_⟩
          · rw [neg_low hN256 l1 hNlow hNl]
            have go : ∀ (g p : Nat), p ≤ g → mSub p N → (∀ P, mSub P N → p < P → ¬ (P.testBit low = true ∧ sm (fun _ => 1) P = hd hh ∧ Cv (okP (mskS A) hd rc) (inH n (mDiff G (2 ^ hh))) (mDiff X P))) → K_X3_coveredFrom_41 (d + 2 * f + 1 + 1) 0 0 N X ((mDiff G (2 ^ hh) : Nat) : Int) (hd hh) ((2 ^ low : Nat) : Int) p S C (fun r2 Sq C3 => Sq = S ∧ ((r2 = 0 → K_X3_covered_14 (d + 2 * (f + 1) + 1) 0 0 X G low (w32 ((hh : Int) + 1)) S C3 Q) ∧ (¬ r2 = 0 → Q 1 S C3))) := by
              intro g
              induction g with
              | zero =>
                intro p hp hps hno
                have : p = 0 := by omega
                subst this
                refine b_X3_coveredFrom_41 F ⟨fun _ => fin 0 (Or.inr ⟨rfl, fun q => ?_⟩), fun z => absurd (by decide) z⟩
                obtain ⟨_, _, ⟨q1, _⟩ | ⟨_, P, p1, p2, p3, p4⟩⟩ := pick.mp q
                · omega
                · refine hno P p1 ?_ ⟨p2, p3, p4⟩
                  rcases Nat.eq_zero_or_pos P with e | e
                  · rw [e, Nat.zero_testBit] at p2; cases p2
                  · exact e
              | succ g ihg =>
                intro p hp hps hno
                by_cases e : p = 0
                · exact ihg p (by omega) hps hno
                · obtain ⟨q, q1, q2, q3, q4⟩ := prv_ok hN256 hps e
                  have hp256 : p < 256 := Nat.lt_of_le_of_lt (mSub_le hps) hN256
                  have hpw : 2 ^ low < 256 := Nat.pow_lt_pow_right (by decide) (show low < 8 by omega)
                  have cont : ¬ (p.testBit low = true ∧ sm (fun _ => 1) p = hd hh ∧ Cv (okP (mskS A) hd rc) (inH n (mDiff G (2 ^ hh))) (mDiff X p)) → K_X3_coveredFrom_41 (d + 2 * f + 1 + 1) 0 0 N X ((mDiff G (2 ^ hh) : Nat) : Int) (hd hh) ((2 ^ low : Nat) : Int) (iAnd (w32 ((p : Int) - 1)) (N : Int)) S C (fun r2 Sq C3 => Sq = S ∧ ((r2 = 0 → K_X3_covered_14 (d + 2 * (f + 1) + 1) 0 0 X G low (w32 ((hh : Int) + 1)) S C3 Q) ∧ (¬ r2 = 0 → Q 1 S C3))) := by
                    intro hn2
                    rw [q1]
                    refine ihg q (by omega) q3 (fun P p1 p2 => ?_)
                    by_cases e3 : P = p
                    · rw [e3]; exact hn2
                    · refine hno P p1 ?_
                      rcases Nat.lt_or_ge P p with y | y
                      · have := q4 P p1 y; omega
                      · omega
                  refine b_X3_coveredFrom_41 F ⟨fun z => by omega, fun _ => ⟨fun y => cont (fun q => ?_), fun y => s_bitCount F (by omega) ⟨rfl, fun y2 => cont (fun q => ?_), fun y2 => ?_⟩⟩⟩
                  · rw [iAnd_nat (by omega) (by omega)] at y
                    exact and_pow_ne.mpr q.1 (by omega)
                  · rw [pc8_all p hp256] at y2
                    exact y2 q.2.1
                  · rw [pc8_all p hp256] at y2
                    have hpl : p.testBit low = true := by
                      rw [iAnd_nat (by omega) (by omega)] at y
                      exact and_pow_ne.mp (fun e => y (by rw [e]; rfl))
                    have hl := less p hpl (mSub_trans hps hNX)
                    rw [iDiff_nat (by omega) (by omega)]
                    refine ih (mDiff X p) (mDiff G (2 ^ hh)) _ hl.1 hl.2 hG2 (fun r hr => ⟨rfl, fun y3 => cont (fun q => ?_), fun y3 => fin 1 (Or.inl ⟨rfl, pick.mpr ⟨z2, c5.1, Or.inr ⟨hc, p, hps, hpl, y2, ?_⟩⟩⟩)⟩)
                    · rcases hr with ⟨e, _⟩ | ⟨_, e⟩
                      · omega
                      · exact e q.2.2
                    · rcases hr with ⟨_, e⟩ | ⟨e, _⟩
                      · exact e
                      · exact absurd e y3
            exact go N N (Nat.le_refl _) (mSub_refl N) (fun P p1 p2 => by have := mSub_le p1; omega)
          · have hl := less N hNlow hNX
            rw [iDiff_nat (by omega) (by omega)]
            refine ih (mDiff X N) (mDiff G (2 ^ hh)) _ hl.1 hl.2 hG2 (fun r hr => ⟨rfl, by omega, fin r ?_⟩)
            rcases hr with ⟨e, q⟩ | ⟨e, q⟩
            · exact Or.inl ⟨e, pick.mpr ⟨z2, c5.1, Or.inl ⟨by omega, q⟩⟩⟩
            · refine Or.inr ⟨e, fun q2 => ?_⟩
              obtain ⟨_, _, ⟨_, q3⟩ | ⟨q3, _⟩⟩ := pick.mp q2
              · exact q q3
              · omega
    · have : X = 0 := by omega
      subst this
      exact h 1 (Or.inl ⟨rfl, Cv_zero (h0 G)⟩)
theorem sm1_8 (X : Nat) : sm (fun _ => 1) X ≤ 8 := (sm_bd (b := 1) (by decide) (fun _ _ => by decide)).2
theorem s_coveredBy {d n X G : Nat} {a : Int} {S : MS} {C : MC} {A : Nat → Nat} {hd rc : Nat → Int} {Q : Qt} (F : Fix S) (ha : isSt a) (hS : S.2.2.2.1 44 8 = a) (hB : Bt C a n hd rc) (hA : ∀ h, h < n → C 45 h = A h ∧ A h < 256) (hX : C 44 9 = X) (hX2 : X < 256) (hG : G < 64)
    (h : ∀ r, (r = 1 ∧ Cv (okP (mskS A) hd rc) (inH n G) X ∨ r = 0 ∧ ¬ Cv (okP (mskS A) hd rc) (inH n G) X) → Q r S C) : K_X3_coveredBy_0 (d + 18) 0 0 G S C Q := by
  have hB' := hB
  obtain ⟨b1, b2, b3⟩ := hB'
  refine b_X3_coveredBy_0 F ?_
  refine up_ind (α := Nat) (P := fun j p => p < 256 ∧ ∀ k, p.testBit k = true ↔ ∃ i, i < j ∧ G.testBit i = true ∧ (A i).testBit k = true) (K := fun j p => K_X3_coveredBy_4 (d + 18) 0 0 G (p : Int) (j : Int) S C Q) n ?_ ?_ 0 (by omega) 0 ⟨by decide, fun k => by simp⟩
  · intro p ⟨p1, p2⟩
    refine b_X3_coveredBy_4 F (fun st hst => ?_)
    rw [hS] at hst
    subst hst
    rw [hX, iDiff_nat (by omega) (by omega)]
    refine ⟨ha, fun _ => ⟨fun z => h 0 (Or.inr ⟨rfl, fun ⟨w, hw⟩ => z ?_⟩), fun z => s_covered (d := d) F ha hS hB hA 8 X G _ (sm1_8 X) hX2 hG (fun r hr => ⟨rfl, fun z2 => h 0 ?_, fun z2 => h 1 ?_⟩)⟩, fun z => by omega⟩
    · have : mDiff X p = 0 := mDiff_eq_zero.mpr (mSub_bit.mpr fun k hk => by
        rw [p2 k]
        have h1 := hw.1 k hk
        refine ⟨w k, h1.1, h1.2, ?_⟩
        exact (hw.2 (w k) h1).1 k (by rw [prt_bit hX2, hk]; simp))
      rw [this]; rfl
    · rcases hr with ⟨e, _⟩ | ⟨_, e⟩
      · omega
      · exact Or.inr ⟨rfl, e⟩
    · rcases hr with ⟨_, e⟩ | ⟨e, _⟩
      · exact Or.inl ⟨rfl, e⟩
      · exact absurd e z2
  · intro j p hj ⟨p1, p2⟩ ih
    obtain ⟨c1, c2⟩ := hA j hj
    refine b_X3_coveredBy_4 F (fun st hst => ?_)
    rw [hS] at hst
    subst hst
    refine ⟨ha, fun z => by omega, fun _ => ⟨fun z => ?_, fun z => ⟨by omega, ?_⟩⟩⟩
    · rw [isin_iff (by omega) (by omega)] at z
      rw [iOr_zero (in32_nat (by omega)), w32_succ (by omega)]
      refine ih p ⟨p1, fun k => ?_⟩
      rw [p2 k]
      constructor
      · rintro ⟨i, i1, i2⟩; exact ⟨i, by omega, i2⟩
      · rintro ⟨i, i1, i2, i3⟩
        by_cases e : i = j
        · subst e; exact absurd i2 z
        · exact ⟨i, by omega, i2, i3⟩
    · rw [isin_iff (by omega) (by omega)] at z
      rw [c1, iOr_nat (by omega) (by omega), w32_succ (by omega)]
      refine ih (p ||| A j) ⟨Nat.or_lt_two_pow (n := 8) p1 c2, fun k => ?_⟩
      rw [Nat.testBit_or, Bool.or_eq_true, p2 k]
      constructor
      · rintro (⟨i, i1, i2⟩ | q)
        · exact ⟨i, by omega, i2⟩
        · exact ⟨j, by omega, z, q⟩
      · rintro ⟨i, i1, i2, i3⟩
        by_cases e : i = j
        · subst e; exact Or.inr i3
        · exact Or.inl ⟨i, by omega, i2, i3⟩
theorem Cv_ok {ok ok' : Nat → Nat → Prop} {H : Nat → Prop} {X : Nat} (hX : X < 256) (h : ∀ j P, H j → mSub P X → (ok j P ↔ ok' j P)) : Cv ok H X ↔ Cv ok' H X := by
  constructor
  · rintro ⟨a, v⟩; exact ⟨a, v.1, fun j hj => (h j _ hj (prt_sub hX)).mp (v.2 j hj)⟩
  · rintro ⟨a, v⟩; exact ⟨a, v.1, fun j hj => (h j _ hj (prt_sub hX)).mpr (v.2 j hj)⟩
theorem Cv_canM {cn : Nat → Nat → Bool} {hd rc : Nat → Int} {H : Nat → Prop} {X : Nat} (hX : X < 256) : Cv (okP (mskS (canM cn X)) hd rc) H X ↔ Cv (okP cn hd rc) H X := by
  refine Cv_ok hX (fun j P _ hP => ?_)
  unfold okP mskS
  constructor
  · rintro ⟨h1, h2⟩
    refine ⟨fun k hk => ?_, h2⟩
    have := h1 k hk
    rw [canM_bit hX] at this; simp at this; exact this.2
  · rintro ⟨h1, h2⟩
    refine ⟨fun k hk => ?_, h2⟩
    rw [canM_bit hX, mSub_bit.mp hP k hk, h1 k hk]; rfl
