/-! 75.tokc: the class splits its tape -/
def locB (L : List Int) : Nat → List (List Int) → Bool
  | st, [] => st == 136
  | st, w :: ws => (List.range w.length).all (fun j => (L.getD (st + j) 0 == w.getD j 0) && decide (97 ≤ w.getD j 0 ∧ w.getD j 0 ≤ 122)) && (L.getD (st + w.length) 0 == 32) && decide (st + w.length < 136) && locB L (st + w.length + 1) ws
theorem loc_C : locB wrdL 0 WL = true := by decide +kernel
theorem loc_M : locB wmL 0 WM = true := by decide +kernel
theorem locB_inv {L : List Int} {st : Nat} {w : List Int} {ws : List (List Int)} (h : locB L st (w :: ws) = true) : (∀ j, j < w.length → L.getD (st + j) 0 = w.getD j 0 ∧ 97 ≤ w.getD j 0 ∧ w.getD j 0 ≤ 122) ∧ L.getD (st + w.length) 0 = 32 ∧ st + w.length < 136 ∧ locB L (st + w.length + 1) ws = true := by
  unfold locB at h
  rw [Bool.and_eq_true, Bool.and_eq_true, Bool.and_eq_true, List.all_eq_true] at h
  obtain ⟨⟨⟨h1, h2⟩, h3⟩, h4⟩ := h
  refine ⟨fun j hj => ?_, by simpa using h2, of_decide_eq_true h3, h4⟩
  have := h1 j (List.mem_range.mpr hj)
  rw [Bool.and_eq_true] at this
  exact ⟨by simpa using this.1, of_decide_eq_true this.2⟩
theorem locB_nil {L : List Int} {st : Nat} (h : locB L st [] = true) : st = 136 := by unfold locB at h; simpa using h
theorem wrdC_nat (n : Nat) : wrdC (n : Int) = wrdL.getD n 0 := by unfold wrdC; rw [Int.toNat_natCast]
theorem c_byte {d mc ms : Nat} {B : Nat → Int} {N k : Nat} {S : MS} {C : MC} {Q : Qt} (F : Fix S) (hB : BtC B N C) (hk : k < N) (h : Q (ub (B k)) S C) : K_X8_byteAt_0 d mc ms (k : Int) S C Q := by
  obtain ⟨b1, b2, b3⟩ := hB
  obtain ⟨e1, e2⟩ := b3 k hk
  refine s_byteAt F ⟨Int.natCast_nonneg k, by rw [b1]; exact Int.ofNat_lt.mpr hk⟩ (by rw [b1]; exact Int.ofNat_le.mpr b2) ?_
  rw [e1, and255' e2]
  exact h
theorem ub_eq {x y : Int} (h : -128 ≤ x ∧ x ≤ 127) (hy : 97 ≤ y ∧ y ≤ 122) : ub x = y ↔ x = y := by unfold ub; split <;> omega
theorem sm_ub {x : Int} (h : -128 ≤ x ∧ x ≤ 127) : smB (ub x) = smB x := by
  have : smB (ub x) = true ↔ smB x = true := by rw [smB_iff, smB_iff]; unfold ub; split <;> omega
  cases h1 : smB (ub x) <;> cases h2 : smB x <;> simp_all
theorem dg_ub {x : Int} (h : -128 ≤ x ∧ x ≤ 127) : dgB (ub x) = dgB x := by
  have : dgB (ub x) = true ↔ dgB x = true := by rw [dgB_iff, dgB_iff]; unfold ub; split <;> omega
  cases h1 : dgB (ub x) <;> cases h2 : dgB x <;> simp_all
theorem c_letter {d mc ms : Nat} {l : Int} {S : MS} {C : MC} {Q : Qt} (F : Fix S) (h0 : smB l = false → Q 0 S C) (h1 : smB l = true → Q 1 S C) : K_X10_isLetter_0 d mc ms l S C Q := by
  have f : ¬ (97 ≤ l ∧ l ≤ 122) → Q 0 S C := fun z => h0 (by cases e : smB l with | false => rfl | true => rw [smB_iff] at e; exact absurd e z)
  exact b_X10_isLetter_0 F ⟨fun z => f (by omega), fun z => ⟨fun y => f (by omega), fun y => h1 (smB_iff.mpr (by omega))⟩⟩
theorem c_digit {d mc ms : Nat} {l : Int} {S : MS} {C : MC} {Q : Qt} (F : Fix S) (h0 : dgB l = false → Q 0 S C) (h1 : dgB l = true → Q 1 S C) : K_X10_isDigit_0 d mc ms l S C Q := by
  have f : ¬ (48 ≤ l ∧ l ≤ 57) → Q 0 S C := fun z => h0 (by cases e : dgB l with | false => rfl | true => rw [dgB_iff] at e; exact absurd e z)
  exact b_X10_isDigit_0 F ⟨fun z => f (by omega), fun z => ⟨fun y => f (by omega), fun y => h1 (dgB_iff.mpr (by omega))⟩⟩
theorem c_same {d f st : Nat} {w : List Int} {B : Nat → Int} {N : Nat} {S : MS} {C : MC} {Q : Qt} (F : Fix S) (hB : BtC B N C) (hf : f + w.length ≤ N) (hL : ∀ j, j < w.length → wrdL.getD (st + j) 0 = w.getD j 0 ∧ 97 ≤ w.getD j 0 ∧ w.getD j 0 ≤ 122) (h136 : st + w.length < 136) (h1 : (∀ j, j < w.length → B (f + j) = w.getD j 0) → Q 1 S C) (h0 : ¬ (∀ j, j < w.length → B (f + j) = w.getD j 0) → Q 0 S C) : K_X8_sameSigns_0 (d + 6) 0 0 (f : Int) (st : Int) ((st + w.length : Nat) : Int) S C Q := by
  have hN := hB.2.1
  refine b_X8_sameSigns_0 F ?_
  refine up_ind (α := Unit) (P := fun j _ => ∀ i, i < j → B (f + i) = w.getD i 0) (K := fun j _ => K_X8_sameSigns_3 (d + 6) 0 0 (f : Int) (st : Int) ((st + w.length : Nat) : Int) ((st + j : Nat) : Int) S C Q) w.length ?_ ?_ 0 (Nat.zero_le _) () (fun i hi => absurd hi (Nat.not_lt_zero i))
  · intro _ hp
    exact b_X8_sameSigns_3 F ⟨fun _ => h1 hp, fun z => absurd (Int.le_refl _) z⟩
  · intro j _ hj hp ih
    obtain ⟨w1, w2⟩ := hL j hj
    have hb := (hB.2.2 (f + j) (by omega)).2
    have ei : w32 (w32 ((f : Int) + ((st + j : Nat) : Int)) - (st : Int)) = ((f + j : Nat) : Int) := by rw [w32_lit (x := (f : Int) + ((st + j : Nat) : Int)) (by omega), w32_lit (by omega)]; omega
    refine b_X8_sameSigns_3 F ⟨fun z => by omega, fun _ => ?_⟩
    rw [ei]
    refine c_byte F hB (by omega) ⟨rfl, by omega, ?_⟩
    rw [wrdC_nat, w1, ub_eq hb w2, w32_nat1 (by omega)]
    refine ⟨fun z => ih () (fun i hi => ?_), fun z => h0 (fun y => z (y j hj))⟩
    by_cases q : i = j
    · rw [q]; exact z
    · exact hp i (by omega)
theorem c_word {d f t : Nat} {B : Nat → Int} {N : Nat} {S : MS} {C : MC} {Q : Qt} (F : Fix S) (hB : BtC B N C) (hft : f ≤ t) (ht : t ≤ N) : ∀ (ws : List (List Int)) (i st : Nat), i + ws.length ≤ 1000 → locB wrdL st ws = true → Q (match ixOf (sl B f t) ws i with | some j => 256 + (j : Int) | none => 283) S C → K_X8_wordAt_10 (d + 7) 0 0 (f : Int) (t : Int) (256 + (i : Int)) (st : Int) (st : Int) S C Q
  | [], i, st, hi, hl, h => by
    have := locB_nil hl
    exact b_X8_wordAt_10 (d := d + 1) F ⟨fun _ => h, fun z => by omega⟩
  | w :: ws, i, st, hi, hl, h => by
    have hN := hB.2.1
    obtain ⟨l1, l2, l3, l4⟩ := locB_inv hl
    rw [List.length_cons] at hi
    have ek : w32 (256 + (i : Int) + 1) = 256 + ((i + 1 : Nat) : Int) := by rw [w32_lit (by omega)]; omega
    have next : sl B f t ≠ w → K_X8_wordAt_10 (d + 1 + 6) 0 0 (f : Int) (t : Int) (w32 (256 + (i : Int) + 1)) (w32 (((st + w.length : Nat) : Int) + 1)) (w32 (((st + w.length : Nat) : Int) + 1)) S C Q := by
      intro z
      rw [ek, w32_nat1 (by omega)]
      refine c_word F hB hft ht ws (i + 1) (st + w.length + 1) (by omega) l4 ?_
      unfold ixOf at h
      rw [if_neg z] at h
      exact h
    refine up_ind (α := Unit) (P := fun _ _ => True) (K := fun j _ => K_X8_wordAt_10 (d + 7) 0 0 (f : Int) (t : Int) (256 + (i : Int)) (st : Int) ((st + j : Nat) : Int) S C Q) w.length ?_ ?_ 0 (Nat.zero_le _) () trivial
    · intro _ _
      have e1 : w32 (((st + w.length : Nat) : Int) - (st : Int)) = w.length := by rw [w32_lit (by omega)]; omega
      have e2 : w32 ((t : Int) - (f : Int)) = ((t - f : Nat) : Int) := by rw [w32_lit (by omega)]; omega
      refine b_X8_wordAt_10 (d := d + 1) F ⟨fun z => by omega, fun _ => ⟨by omega, ?_⟩⟩
      rw [wrdC_nat, l2, e1, e2]
      refine ⟨fun z => absurd rfl z, fun _ => ⟨fun z => next (fun y => z (by rw [(sl_eq.mp y).1])), fun z => c_same (d := d) F hB (by omega) l1 l3 (fun y => ⟨rfl, fun q => absurd q (by decide), fun _ => ?_⟩) (fun y => ⟨rfl, fun _ => next (fun q => y (sl_eq.mp q).2), fun q => absurd rfl q⟩)⟩⟩
      unfold ixOf at h
      rw [if_pos (sl_eq.mpr ⟨by omega, y⟩)] at h
      exact h
    · intro j _ hj _ ih
      obtain ⟨w1, w2⟩ := l1 j hj
      refine b_X8_wordAt_10 (d := d + 1) F ⟨fun z => by omega, fun _ => ⟨by omega, ?_⟩⟩
      rw [wrdC_nat, w1, w32_nat1 (by omega)]
      exact ⟨fun _ => ih () trivial, fun z => by omega⟩
theorem c_wordAt {d f t : Nat} {B : Nat → Int} {N : Nat} {S : MS} {C : MC} {Q : Qt} (F : Fix S) (hB : BtC B N C) (hft : f ≤ t) (ht : t ≤ N) (h : Q (kWord (sl B f t)) S C) : K_X8_wordAt_0 (d + 7) 0 0 (f : Int) (t : Int) S C Q :=
  b_X8_wordAt_0 (d := d + 1) F (c_word (d := d) F hB hft ht WL 0 0 (by rw [WL_len]; decide) loc_C h)
theorem numC_bd {B : Nat → Int} {f n : Nat} (h : ∀ j, j < n → 48 ≤ B (f + j) ∧ B (f + j) ≤ 57) : 0 ≤ numC B f n ∧ numC B f n ≤ 1001 := by
  obtain ⟨a, b, c⟩ := num_rel n h
  by_cases q : numM B f n ≤ 1000
  · have := b q; omega
  · have := c (by omega); omega
theorem c_number {d f t : Nat} {B : Nat → Int} {N : Nat} {S : MS} {C : MC} {Q : Qt} (F : Fix S) (hB : BtC B N C) (hft : f ≤ t) (ht : t ≤ N) (hd : ∀ j, f ≤ j → j < t → dgB (B j) = true) (h : Q (numC B f (t - f)) S C) : K_X8_numberAt_0 (d + 1) 0 0 (f : Int) (t : Int) S C Q := by
  have hN := hB.2.1
  have hd2 : ∀ j, j < t - f → 48 ≤ B (f + j) ∧ B (f + j) ≤ 57 := fun j hj => dgB_iff.mp (hd (f + j) (by omega) (by omega))
  refine b_X8_numberAt_0 F ?_
  refine up_ind (α := Unit) (P := fun _ _ => True) (K := fun j _ => K_X8_numberAt_5 (d + 1) 0 0 (t : Int) (numC B f j) ((f + j : Nat) : Int) S C Q) (t - f) ?_ ?_ 0 (Nat.zero_le _) () trivial
  · intro _ _
    exact b_X8_numberAt_5 F ⟨fun _ => h, fun z => by omega⟩
  · intro j _ hj _ ih
    refine b_X8_numberAt_5 F ⟨fun z => by omega, fun _ => c_byte F hB (by omega) ⟨rfl, ?_⟩⟩
    have hx := hd2 j hj
    have ha := numC_bd (fun i hi => hd2 i (by omega)) (n := j)
    have eu : ub (B (f + j)) = B (f + j) := by unfold ub; rw [if_neg (by omega)]
    have := ih () trivial
    rw [eu, w32_lit (x := numC B f j * 10) (by omega), w32_lit (x := numC B f j * 10 + B (f + j)) (by omega), w32_lit (x := numC B f j * 10 + B (f + j) - 48) (by omega), w32_nat1 (by omega), Int.mul_comm (numC B f j) 10]
    exact this
theorem c_run15 {d : Nat} {B : Nat → Int} {N : Nat} {S : MS} {C : MC} {Q : Qt} (F : Fix S) (hB : BtC B N C) : ∀ (n k : Nat), k ≤ N → N ≤ k + n → Q (runT smB B N n k) S C → K_X8_tokenEnd_15 (d + 1) 0 0 (k : Int) S C Q
  | 0, k, h1, h2, h => by
    have e := hB.1
    exact b_X8_tokenEnd_15 F ⟨fun _ => h, fun z => absurd (by rw [e]; exact Int.ofNat_le.mpr (by omega)) z⟩
  | n + 1, k, h1, h2, h => by
    have e := hB.1
    have hN := hB.2.1
    unfold runT at h
    refine b_X8_tokenEnd_15 F ?_
    rw [e]
    refine ⟨fun z => ?_, fun z => ?_⟩
    · rw [if_neg (fun y => by omega)] at h; exact h
    · have hk : k < N := by omega
      have hb := (hB.2.2 k hk).2
      refine c_byte F hB hk ⟨rfl, c_letter F (fun y => ⟨rfl, fun _ => ?_, fun q => absurd rfl q⟩) (fun y => ⟨rfl, fun q => absurd q (by decide), fun _ => ?_⟩)⟩
      · rw [sm_ub hb] at y
        rw [if_neg (fun q => by rw [y] at q; exact absurd q.2 (by decide))] at h
        exact h
      · rw [sm_ub hb] at y
        rw [if_pos ⟨hk, y⟩] at h
        rw [w32_nat1 (by omega)]
        exact c_run15 F hB n (k + 1) hk (by omega) h
theorem c_run51 {d : Nat} {B : Nat → Int} {N : Nat} {S : MS} {C : MC} {Q : Qt} (F : Fix S) (hB : BtC B N C) : ∀ (n k : Nat), k ≤ N → N ≤ k + n → Q (runT dgB B N n k) S C → K_X8_tokenEnd_51 (d + 1) 0 0 (k : Int) S C Q
  | 0, k, h1, h2, h => by
    have e := hB.1
    exact b_X8_tokenEnd_51 F ⟨fun _ => h, fun z => absurd (by rw [e]; exact Int.ofNat_le.mpr (by omega)) z⟩
  | n + 1, k, h1, h2, h => by
    have e := hB.1
    have hN := hB.2.1
    unfold runT at h
    refine b_X8_tokenEnd_51 F ?_
    rw [e]
    refine ⟨fun z => ?_, fun z => ?_⟩
    · rw [if_neg (fun y => by omega)] at h; exact h
    · have hk : k < N := by omega
      have hb := (hB.2.2 k hk).2
      refine c_byte F hB hk ⟨rfl, c_digit F (fun y => ⟨rfl, fun _ => ?_, fun q => absurd rfl q⟩) (fun y => ⟨rfl, fun q => absurd q (by decide), fun _ => ?_⟩)⟩
      · rw [dg_ub hb] at y
        rw [if_neg (fun q => by rw [y] at q; exact absurd q.2 (by decide))] at h
        exact h
      · rw [dg_ub hb] at y
        rw [if_pos ⟨hk, y⟩] at h
        rw [w32_nat1 (by omega)]
        exact c_run51 F hB n (k + 1) hk (by omega) h
theorem c_end {d k : Nat} {B : Nat → Int} {N : Nat} {S : MS} {C : MC} {Q : Qt} (F : Fix S) (hB : BtC B N C) (hk : k < N) (h : Q (endT B N k) S C) : K_X8_tokenEnd_0 (d + 1) 0 0 (k : Int) S C Q := by
  have hN := hB.2.1
  have hb := (hB.2.2 k hk).2
  unfold endT at h
  refine b_X8_tokenEnd_0 F (c_byte F hB hk ⟨rfl, c_letter F (fun y => ⟨rfl, fun _ => c_byte F hB hk ⟨rfl, c_digit F (fun y2 => ⟨rfl, fun _ => ?_, fun q => absurd rfl q⟩) (fun y2 => ⟨rfl, fun q => absurd q (by decide), fun _ => ?_⟩)⟩, fun q => absurd rfl q⟩) (fun y => ⟨rfl, fun q => absurd q (by decide), fun _ => ?_⟩)⟩)
  · rw [sm_ub hb] at y
    rw [dg_ub hb] at y2
    rw [if_neg (by rw [y]; decide), if_neg (by rw [y2]; decide)] at h
    rw [w32_nat1 (by omega)]
    exact h
  · rw [sm_ub hb] at y
    rw [dg_ub hb] at y2
    rw [if_neg (by rw [y]; decide), if_pos y2] at h
    rw [w32_nat1 (by omega)]
    exact c_run51 F hB 400 (k + 1) hk (by omega) h
  · rw [sm_ub hb] at y
    rw [if_pos y] at h
    rw [w32_nat1 (by omega)]
    exact c_run15 F hB 400 (k + 1) hk (by omega) h
def tkx (a k : Int) : Prop := a = 37 ∨ a = 38 ∨ a = 39 ∨ (a = 29 ∧ k = 5)
theorem BtC_fp {B : Nat → Int} {N : Nat} {C C' : MC} (h : BtC B N C) (f : Fp tkx C C') : BtC B N C' := by
  unfold BtC
  rw [fp_row (a := 27) f (fun k => by unfold tkx; omega), fp_row (a := 28) f (fun k => by unfold tkx; omega)]
  exact h
def RowC (B : Nat → Int) (C : MC) (j : Nat) (x : Nat × Nat) : Prop := C 37 j = kdC B x.1 x.2 ∧ C 38 j = x.1 ∧ (kdC B x.1 x.2 = 284 → C 39 j = numC B x.1 (x.2 - x.1))
theorem c_add {d f m : Nat} {B : Nat → Int} {N : Nat} {S : MS} {C : MC} {Q : Qt} (F : Fix S) (hB : BtC B N C) (hf : f < N) (hm : m < 400) (h5 : C 29 5 = m) (h : ∀ C', Fp tkx C C' → RowC B C' m (f, endT B N f) → (∀ j : Int, j ≠ m → C' 37 j = C 37 j ∧ C' 38 j = C 38 j ∧ C' 39 j = C 39 j) → C' 29 5 = ((m + 1 : Nat) : Int) → Q 0 S C') : K_X4_addToken_0 (d + 8) 0 0 (f : Int) (endT B N f : Int) S C Q := by
  have hN := hB.2.1
  have hb := (hB.2.2 f hf).2
  obtain ⟨t1, t2⟩ := endT_bd (B := B) hf
  have bm : (0 : Int) ≤ (m : Int) ∧ (m : Int) < 401 := by clear h h5; omega
  have wm : w32 ((m : Int) + 1) = ((m + 1 : Nat) : Int) := w32_nat1 (by omega)
  refine b_X4_addToken_0 (d := d + 7) F (c_byte F hB hf ⟨rfl, ?_⟩)
  rw [h5]
  refine ⟨bm, bm, ?_⟩
  generalize hD : upC (upC C 39 (m : Int) (-1)) 37 (m : Int) (ub (B f)) = D
  have fD : Fp tkx C D := by
    rw [← hD]
    exact Fp_up (Or.inl rfl) (Fp_up (Or.inr (Or.inr (Or.inl rfl))) Fp_rf)
  have d5 : D 29 5 = m := by rw [← hD, upC_ne (by decide), upC_ne (by decide)]; exact h5
  have hBD := BtC_fp hB fD
  have d37 : D 37 m = ub (B f) := by rw [← hD, upC_at]
  have dn : ∀ j : Int, j ≠ m → D 37 j = C 37 j ∧ D 38 j = C 38 j ∧ D 39 j = C 39 j := fun j hj => by
    rw [← hD]
    refine ⟨by rw [upC_sK hj, upC_sK hj], by rw [upC_ne (by decide), upC_ne (by decide)], by rw [upC_sK hj, upC_sK hj]⟩
  have x38 : ∀ a k : Int, a = 38 → tkx a k := fun a k z => Or.inr (Or.inl z)
  refine c_digit F (fun y => ⟨rfl, fun _ => c_letter F (fun y2 => ⟨rfl, fun _ => ?_, fun q => absurd rfl q⟩) (fun y2 => ⟨rfl, fun q => absurd q (by decide), fun _ => c_wordAt (d := d) F hBD (by omega) t2 ⟨rfl, ?_⟩⟩), fun q => absurd rfl q⟩) (fun y => ⟨rfl, fun q => absurd q (by decide), fun _ => ?_⟩)
  · rw [dg_ub hb] at y
    rw [sm_ub hb] at y2
    rw [d5, wm]
    have ek : kdC B f (endT B N f) = ub (B f) := by unfold kdC; rw [if_neg (by rw [y]; decide), if_neg (by rw [y2]; decide)]
    refine ⟨bm, h _ (Fp_up (Or.inr (Or.inr (Or.inr ⟨rfl, rfl⟩))) (Fp_up (Or.inr (Or.inl rfl)) fD)) ⟨?_, ?_, fun z => ?_⟩ (fun j hj => ?_) (upC_at _ _ _ _)⟩
    · rw [upC_ne (by decide), upC_ne (by decide), ek]; exact d37
    · rw [upC_ne (by decide), upC_at]
    · have := (kd_rel (t := endT B N f) hb).2.2.mp z
      rw [y] at this; cases this
    · rw [upC_ne (by decide), upC_ne (by decide), upC_ne (by decide), upC_sK hj, upC_ne (by decide), upC_ne (by decide)]; exact dn j hj
  · rw [dg_ub hb] at y
    rw [sm_ub hb] at y2
    rw [d5, wm]
    have ek : kdC B f (endT B N f) = kWord (sl B f (endT B N f)) := by unfold kdC; rw [if_neg (by rw [y]; decide), if_pos y2]
    refine ⟨bm, bm, h _ (Fp_up (Or.inr (Or.inr (Or.inr ⟨rfl, rfl⟩))) (Fp_up (Or.inr (Or.inl rfl)) (Fp_up (Or.inl rfl) fD))) ⟨?_, ?_, fun z => ?_⟩ (fun j hj => ?_) (upC_at _ _ _ _)⟩
    · rw [upC_ne (by decide), upC_ne (by decide), upC_at, ek]
    · rw [upC_ne (by decide), upC_at]
    · have := (kd_rel (t := endT B N f) hb).2.2.mp z
      rw [y] at this; cases this
    · rw [upC_ne (by decide), upC_ne (by decide), upC_sK hj, upC_ne (by decide), upC_sK hj, upC_ne (by decide), upC_ne (by decide), upC_ne (by decide), upC_ne (by decide)]; exact dn j hj
  · rw [dg_ub hb] at y
    rw [d5]
    have fE : Fp tkx C (upC D 37 (m : Int) 284) := Fp_up (Or.inl rfl) fD
    have ek : kdC B f (endT B N f) = 284 := by unfold kdC; rw [if_pos y]
    refine ⟨bm, c_number (d := d + 6) F (BtC_fp hB fE) (by omega) t2 (endT_dig hf y) ⟨rfl, ?_⟩⟩
    rw [upC_ne (by decide), d5, wm]
    refine ⟨bm, bm, h _ (Fp_up (Or.inr (Or.inr (Or.inr ⟨rfl, rfl⟩))) (Fp_up (Or.inr (Or.inl rfl)) (Fp_up (Or.inr (Or.inr (Or.inl rfl))) fE))) ⟨?_, ?_, fun z => ?_⟩ (fun j hj => ?_) (upC_at _ _ _ _)⟩
    · rw [upC_ne (by decide), upC_ne (by decide), upC_ne (by decide), upC_at, ek]
    · rw [upC_ne (by decide), upC_at]
    · rw [upC_ne (by decide), upC_ne (by decide), upC_at]
    · rw [upC_ne (by decide), upC_ne (by decide), upC_ne (by decide), upC_sK hj, upC_ne (by decide), upC_sK hj, upC_ne (by decide), upC_ne (by decide), upC_ne (by decide), upC_ne (by decide), upC_sK hj, upC_ne (by decide)]; exact dn j hj
theorem RowC_cong {B : Nat → Int} {C C' : MC} {j : Nat} {x : Nat × Nat} (h : RowC B C j x) (h1 : C' 37 j = C 37 j) (h2 : C' 38 j = C 38 j) (h3 : C' 39 j = C 39 j) : RowC B C' j x := by
  unfold RowC
  rw [h1, h2, h3]
  exact h
theorem c_split {d : Nat} {B : Nat → Int} {N : Nat} {S : MS} {Q : Qt} (F : Fix S) : ∀ (n k : Nat) (acc : List (Nat × Nat)) (C : MC), BtC B N C → k + n ≥ 400 → n ≤ 400 → acc.length ≤ k → k ≤ N → C 29 5 = acc.length → (∀ j x, acc[j]? = some x → RowC B C j x) → (∀ C', Fp tkx C C' → C' 29 5 = (acc ++ tkL B N n k).length → (∀ j x, (acc ++ tkL B N n k)[j]? = some x → RowC B C' j x) → C' 37 ((acc ++ tkL B N n k).length : Int) = 285 → C' 38 ((acc ++ tkL B N n k).length : Int) = N → Q 0 S C') → K_X4_splitTape_9 (d + 9) 0 0 (k : Int) ((400 - n : Nat) : Int) S C Q := by
  intro n
  induction n with
  | zero =>
    intro k acc C hB hk hn hl hkN h5 hr h
    have hN := hB.2.1
    have e1 := hB.1
    have bm : (0 : Int) ≤ (acc.length : Int) ∧ (acc.length : Int) < 401 := by clear h h5 hr; omega
    unfold tkL at h
    rw [List.append_nil] at h
    refine b_X4_splitTape_9 (d := d + 8) F ⟨fun _ => ?_, fun z => absurd (by decide) z⟩
    rw [h5, e1]
    refine ⟨bm, bm, h _ (Fp_up (Or.inr (Or.inl rfl)) (Fp_up (Or.inl rfl) Fp_rf)) ?_ (fun j x hj => ?_) ?_ (upC_at _ _ _ _)⟩
    · rw [upC_ne (by decide), upC_ne (by decide)]; exact h5
    · have hlt : j < acc.length := (List.getElem?_eq_some_iff.mp hj).1
      have ne : (j : Int) ≠ (acc.length : Int) := fun z => by omega
      exact RowC_cong (hr j x hj) (by rw [upC_ne (by decide), upC_sK ne]) (by rw [upC_sK ne, upC_ne (by decide)]) (by rw [upC_ne (by decide), upC_ne (by decide)])
    · rw [upC_ne (by decide), upC_at]
  | succ n ih =>
    intro k acc C hB hk hn hl hkN h5 hr h
    have hN := hB.2.1
    have e1 := hB.1
    have bm : (0 : Int) ≤ (acc.length : Int) ∧ (acc.length : Int) < 401 := by clear h h5 hr ih; omega
    have wn : w32 (((400 - (n + 1) : Nat) : Int) + 1) = ((400 - n : Nat) : Int) := by rw [w32_nat1 (by omega)]; omega
    unfold tkL at h
    refine b_X4_splitTape_9 (d := d + 8) F ⟨fun z => by omega, fun _ => ?_⟩
    rw [h5, e1]
    refine ⟨fun z => ?_, fun z => ?_⟩
    · rw [if_pos (by omega), List.append_nil] at h
      refine ⟨bm, bm, h _ (Fp_up (Or.inr (Or.inl rfl)) (Fp_up (Or.inl rfl) Fp_rf)) ?_ (fun j x hj => ?_) ?_ (upC_at _ _ _ _)⟩
      · rw [upC_ne (by decide), upC_ne (by decide)]; exact h5
      · have hlt : j < acc.length := (List.getElem?_eq_some_iff.mp hj).1
        have ne : (j : Int) ≠ (acc.length : Int) := fun z => by omega
        exact RowC_cong (hr j x hj) (by rw [upC_ne (by decide), upC_sK ne]) (by rw [upC_sK ne, upC_ne (by decide)]) (by rw [upC_ne (by decide), upC_ne (by decide)])
      · rw [upC_ne (by decide), upC_at]
    · have hkl : k < N := by omega
      have hb := (hB.2.2 k hkl).2
      obtain ⟨t1, t2⟩ := endT_bd (B := B) hkl
      rw [if_neg (by omega)] at h
      rw [wn]
      refine c_end (d := d + 7) F hB hkl ⟨rfl, c_byte F hB hkl ⟨rfl, fun y => ?_, fun y => ?_⟩⟩
      · have y' : B k = 32 := by unfold ub at y; split at y <;> omega
        rw [if_pos y'] at h
        have et : endT B N k = k + 1 := by
          unfold endT
          rw [if_neg (by rw [smB_iff]; omega), if_neg (by rw [dgB_iff]; omega)]
        rw [et]
        exact ih (k + 1) acc C hB (by omega) (by omega) (by omega) hkl h5 hr h
      · have y' : ¬ B k = 32 := fun q => y (by rw [q]; rfl)
        rw [if_neg y'] at h
        refine c_add (d := d) F hB hkl (by omega) h5 (fun C1 f1 r1 r2 r3 => ⟨rfl, ?_⟩)
        have el : acc ++ (k, endT B N k) :: tkL B N n (endT B N k) = (acc ++ [(k, endT B N k)]) ++ tkL B N n (endT B N k) := by simp
        rw [el] at h
        refine ih (endT B N k) (acc ++ [(k, endT B N k)]) C1 (BtC_fp hB f1) (by omega) (by omega) (by rw [List.length_append, List.length_singleton]; omega) t2 (by rw [List.length_append, List.length_singleton]; exact r3) (fun j x hj => ?_) (fun C' f' => h C' (Fp_tr f1 f'))
        by_cases q : j = acc.length
        · rw [q, List.getElem?_append_right (Nat.le_refl _), Nat.sub_self] at hj
          cases hj
          rw [q]; exact r1
        · have hlt : j < acc.length := by
            have := (List.getElem?_eq_some_iff.mp hj).1
            rw [List.length_append, List.length_singleton] at this
            omega
          rw [List.getElem?_append_left hlt] at hj
          obtain ⟨g1, g2, g3⟩ := r2 j (fun z => by omega)
          exact RowC_cong (hr j x hj) g1 g2 g3
theorem c_splitTape {d : Nat} {B : Nat → Int} {N : Nat} {S : MS} {C : MC} {Q : Qt} (F : Fix S) (hB : BtC B N C) (h : ∀ C', Fp tkx C C' → C' 29 5 = (tkL B N 400 0).length → (∀ j x, (tkL B N 400 0)[j]? = some x → RowC B C' j x) → C' 37 ((tkL B N 400 0).length : Int) = 285 → C' 38 ((tkL B N 400 0).length : Int) = N → Q 0 S C') : K_X4_splitTape_0 (d + 9) 0 0 S C Q := by
  have f0 : Fp tkx C (upC C 29 5 0) := Fp_up (Or.inr (Or.inr (Or.inr ⟨rfl, rfl⟩))) Fp_rf
  exact b_X4_splitTape_0 (d := d + 8) F (c_split F 400 0 [] _ (BtC_fp hB f0) (by decide) (by decide) (by decide) (Nat.zero_le _) (upC_at _ _ _ _) (fun j x hj => by simp at hj) (fun C' f' => h C' (Fp_tr f0 f')))
