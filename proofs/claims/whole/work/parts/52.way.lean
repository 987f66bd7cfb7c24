/-! 52.way: the reference lays the first of the least ways; who -/
def lowN (X k : Nat) : Nat := mkN (fun j => X.testBit j) k
theorem lowN_bit (X k j : Nat) : (lowN X k).testBit j = (decide (j < k) && X.testBit j) := mkN_bit _ k j
theorem lowN_sub (X k : Nat) : mSub (lowN X k) X := mSub_bit.mpr fun j hj => by rw [lowN_bit] at hj; simp at hj; exact hj.2
theorem lowN_8 {X : Nat} (hX : X < 256) : lowN X 8 = X := Nat.eq_of_testBit_eq fun j => by
  rw [lowN_bit]
  cases hx : X.testBit j
  · simp
  · have := bit_lt8 hX hx; simp [this]
theorem lowN_suc {X k : Nat} (h : X.testBit k = true) : lowN X (k + 1) = lowN X k ||| 2 ^ k := (mkN_or h).symm
theorem lowN_not {X k : Nat} (h : X.testBit k = false) : lowN X (k + 1) = lowN X k := mkN_not h
def updN (f : Nat → Nat) (k h : Nat) : Nat → Nat := fun j => if j = k then h else f j
theorem prt_upd {f : Nat → Nat} {X k h j : Nat} (hX : X < 256) (hx : X.testBit k = true) : prt (updN f k h) (lowN X (k + 1)) j = if j = h then prt f (lowN X k) j ||| 2 ^ k else prt f (lowN X k) j := by
  have h1 : lowN X (k + 1) < 256 := Nat.lt_of_le_of_lt (mSub_le (lowN_sub X (k + 1))) hX
  have h2 : lowN X k < 256 := Nat.lt_of_le_of_lt (mSub_le (lowN_sub X k)) hX
  apply Nat.eq_of_testBit_eq
  intro i
  rw [prt_bit h1, lowN_bit]
  unfold updN
  by_cases e : i = k
  · subst e
    by_cases e2 : j = h
    · rw [if_pos e2, Nat.testBit_or, Nat.testBit_two_pow]; simp [hx, e2]
    · have : ¬ h = j := fun q => e2 q.symm
      rw [if_neg e2, prt_bit h2, lowN_bit]; simp [this]
  · have hlt : (i < k + 1) = (i < k) := by apply propext; omega
    by_cases e2 : j = h
    · rw [if_pos e2, Nat.testBit_or, Nat.testBit_two_pow, prt_bit h2, lowN_bit]
      have : ¬ k = i := fun q => e q.symm
      simp [e, this, hlt]
    · rw [if_neg e2, prt_bit h2, lowN_bit]; simp [e, hlt]
theorem diff_low {X k : Nat} (hx : X.testBit k = true) : mDiff (mDiff X (lowN X k)) (2 ^ k) = mDiff X (lowN X (k + 1)) := Nat.eq_of_testBit_eq fun i => by
  rw [mDiff_bit, mDiff_bit, mDiff_bit, lowN_bit, lowN_bit, Nat.testBit_two_pow]
  by_cases e : k = i
  · subst e; simp [hx]
  · have hlt : (i < k + 1) = (i < k) := by apply propext; omega
    simp [e, hlt]
theorem low_no {X k j : Nat} (h : k < 8) : (prt (fun _ => 0) 0 j) = 0 := Nat.eq_of_testBit_eq fun i => by rw [prt_bit (by decide)]; simp
/-- what stands when the first k keys are laid -/
def WyI (C0 C : MC) (κ : Int → Int) (b n X : Nat) (u : Int) (k : Nat) (f : Nat → Nat) : Prop :=
  Fp mpx C0 C ∧ PtM C κ b X n ∧ (∀ h, h < n → C 97 h = prt f (lowN X k) h) ∧ (∀ j, (lowN X k).testBit j = true → f j < n) ∧
  (∃ a, Vd (okX κ b X) (fun h => h < n) X a ∧ (∀ j, (lowN X k).testBit j = true → a j = f j) ∧ wt (mdK κ b) X a = u) ∧
  (∀ a, Vd (okX κ b X) (fun h => h < n) X a → wt (mdK κ b) X a = u → ∀ i, i < k → X.testBit i = true → (∀ j, j < i → X.testBit j = true → a j = f j) → f i ≤ a i) ∧
  ∀ j : Nat, j < k → C 98 j = if X.testBit j then (f j : Int) else -1
theorem s_way75 {d b n X k : Nat} {S : MS} {C0 : MC} {κ : Int → Int} {u : Int} {f : Nat → Nat} {Q : Qt} (F : Fix S) (h83 : C0 83 = κ) (hn : κ 45 = n) (hn6 : n ≤ 6) (hX : X < 256) (hk8 : k < 8) (hx : X.testBit k = true) (hu : u < 1000001) (hum : ∀ a, Vd (okX κ b X) (fun h => h < n) X a → u ≤ wt (mdK κ b) X a)
    (hnext : ∀ C' f', WyI C0 C' κ b n X u (k + 1) f' → K_X11_laysWay_15 (d + 2) 0 0 ((mDiff X (lowN X (k + 1)) : Nat) : Int) u ((k + 1 : Nat) : Int) S C' Q) :
    ∀ (g h : Nat), h + g = n → ∀ C : MC, Fp mpx C0 C → PtM C κ b X n → (∀ j, j < n → C 97 j = ((if j = h then prt f (lowN X k) j ||| 2 ^ k else prt f (lowN X k) j : Nat) : Int)) → (∀ j, (lowN X k).testBit j = true → f j < n) →
    (∃ a, Vd (okX κ b X) (fun h => h < n) X a ∧ (∀ j, (lowN X k).testBit j = true → a j = f j) ∧ wt (mdK κ b) X a = u) → (∀ a, Vd (okX κ b X) (fun h => h < n) X a → wt (mdK κ b) X a = u → (∀ j, (lowN X k).testBit j = true → a j = f j) → h ≤ a k) →
    (∀ a, Vd (okX κ b X) (fun h => h < n) X a → wt (mdK κ b) X a = u → ∀ i, i < k → X.testBit i = true → (∀ j, j < i → X.testBit j = true → a j = f j) → f i ≤ a i) → (∀ j : Nat, j < k → C 98 j = if X.testBit j then (f j : Int) else -1) →
    K_X11_laysWay_75 (d + 2) 0 0 ((mDiff X (lowN X (k + 1)) : Nat) : Int) u k h S C Q := by
  intro g
  induction g with
  | zero =>
    intro h hg C hf hpt h97 hfn hex hlow hlex h98
    exfalso
    obtain ⟨a, va, ag, e⟩ := hex
    have h1 := hlow a va e ag
    have h2 : a k < n := va.1 k hx
    omega
  | succ g ih =>
    intro h hg C hf hpt h97 hfn hex hlow hlex h98
    have e83 : ∀ C', Fp mpx C0 C' → C' 83 = κ := fun C' hf => by rw [← h83]; exact funext fun j => hf 83 j (by unfold mpx asx; omega)
    have hbit : ∀ j, (lowN X (k + 1)).testBit j = true → j = k ∨ (lowN X k).testBit j = true := fun j hj => by
      rw [lowN_bit] at hj ⊢
      simp only [Bool.and_eq_true, decide_eq_true_eq] at hj ⊢
      by_cases e : j = k
      · exact Or.inl e
      · exact Or.inr ⟨by omega, hj.2⟩
    have hkk : (lowN X (k + 1)).testBit k = true := by rw [lowN_bit, hx]; simp
    have hlk : ∀ j, (lowN X k).testBit j = true → (lowN X (k + 1)).testBit j = true ∧ j ≠ k := fun j hj => by
      rw [lowN_bit] at hj ⊢
      simp at hj ⊢
      exact ⟨⟨by omega, hj.2⟩, by omega⟩
    have hpk : 2 ^ k < 256 := Nat.pow_lt_pow_right (by decide) (show k < 8 by omega)
    refine b_X11_laysWay_75 F (s_leastG (d := d) (κ := κ) (b := b) (X := X) (D := lowN X (k + 1)) (f := updN f k h) F (by rw [e83 C hf]; exact hn) hn6 hX (lowN_sub _ _) (fun j hj => ?_) hpt (fun j hj => ?_) (fun C1 v f1 v1 v2 v3 => ⟨rfl, fun z => ?_, fun z => ?_⟩))
    · unfold updN
      by_cases e : j = k
      · rw [if_pos e]; omega
      · rw [if_neg e]; exact hfn j ((hbit j hj).resolve_left e)
    · rw [prt_upd hX hx]; exact h97 j hj
    · rw [w32_succ (by omega)]
      refine ⟨by omega, hnext _ (updN f k h) ⟨?_, ?_, fun j hj => ?_, fun j hj => ?_, ?_, fun a va ea i hi hxi ag => ?_, fun j hj => ?_⟩⟩
      · exact Fp_up (by unfold mpx; omega) (Fp_tr hf (Fp_mono f1 (fun a k q => by unfold mpx; omega)))
      · intro j P hj hP; rw [upC_ne (by decide), f1 94 _ (by omega)]; exact hpt j P hj hP
      · rw [upC_ne (by decide), f1 97 _ (by omega), prt_upd hX hx]; exact h97 j hj
      · unfold updN
        by_cases e : j = k
        · rw [if_pos e]; omega
        · rw [if_neg e]; exact hfn j ((hbit j hj).resolve_left e)
      · obtain ⟨a, va, ag, e⟩ := v2 (by omega)
        exact ⟨a, va, ag, by omega⟩
      · have ag2 : ∀ j, j < i → X.testBit j = true → a j = f j := fun j hj hxj => by
          have := ag j hj hxj
          unfold updN at this
          rw [if_neg (by omega)] at this
          exact this
        unfold updN
        by_cases e : i = k
        · rw [if_pos e]
          subst e
          exact hlow a va ea (fun j hj => by
            rw [lowN_bit] at hj
            simp at hj
            exact ag2 j hj.1 hj.2)
        · rw [if_neg e]
          exact hlex a va ea i (by omega) hxi ag2
      · unfold updN
        by_cases e : j = k
        · subst e; rw [upC_at, if_pos hx, if_pos rfl]
        · rw [upC_sK (by omega), if_neg e, f1 98 _ (by omega)]
          exact h98 j (by omega)
    · -- not this house
      have hlow2 : ∀ a, Vd (okX κ b X) (fun h => h < n) X a → wt (mdK κ b) X a = u → (∀ j, (lowN X k).testBit j = true → a j = f j) → h + 1 ≤ a k := by
        intro a va ea ag
        have h1 := hlow a va ea ag
        rcases Nat.eq_or_lt_of_le h1 with e | e
        · exfalso
          have h2 := v3 a va (fun j hj => by
            unfold updN
            by_cases e2 : j = k
            · rw [if_pos e2, e2]; exact e.symm
            · rw [if_neg e2]; exact ag j ((hbit j hj).resolve_left e2))
          obtain ⟨a2, va2, _, e2⟩ := v2 (by omega)
          have := hum a2 va2
          omega
        · exact e
      have hh1 : h + 1 < n := by
        obtain ⟨a, va, ag, e⟩ := hex
        have h1 := hlow2 a va e ag
        have h2 : a k < n := va.1 k hx
        omega
      have q1 : C1 97 h = ((prt f (lowN X k) h ||| 2 ^ k : Nat) : Int) := by rw [f1 97 _ (by omega), h97 h (by omega), if_pos rfl]
      have q2 : C1 97 ((h + 1 : Nat) : Int) = ((prt f (lowN X k) (h + 1) : Nat) : Int) := by rw [f1 97 _ (by omega), h97 (h + 1) hh1, if_neg (by omega)]
      have hp1 : prt f (lowN X k) h ||| 2 ^ k < 256 := Nat.or_lt_two_pow (n := 8) (prt_lt _ _ _) hpk
      have hp2 := prt_lt f (lowN X k) (h + 1)
      have hl256 : lowN X k < 256 := Nat.lt_of_le_of_lt (mSub_le (lowN_sub X k)) hX
      have hd : mDiff (prt f (lowN X k) h ||| 2 ^ k) (2 ^ k) = prt f (lowN X k) h := Nat.eq_of_testBit_eq fun i => by
        rw [mDiff_bit, Nat.testBit_or, Nat.testBit_two_pow, prt_bit hl256, lowN_bit]
        by_cases e : k = i
        · subst e; simp
        · simp [e]
      rw [w32_succ (by omega), q1, iShl1 k (by omega), iDiff_nat (by omega) (by omega), hd, upC_sK (by omega), q2, iOr_nat (by omega) (by omega)]
      refine ⟨by omega, by omega, by omega, by omega, ih (h + 1) (by omega) _ (Fp_up (by unfold mpx; omega) (Fp_up (by unfold mpx; omega) (Fp_tr hf (Fp_mono f1 (fun a k q => by unfold mpx; omega))))) (fun j P hj hP => by rw [upC_ne (by decide), upC_ne (by decide), f1 94 _ (by omega)]; exact hpt j P hj hP) (fun j hj => ?_) hfn hex hlow2 hlex (fun j hj => by rw [upC_ne (by decide), upC_ne (by decide), f1 98 _ (by omega)]; exact h98 j hj)⟩
      by_cases e : j = h + 1
      · subst e; rw [upC_at, if_pos rfl]
      · rw [upC_sK (by omega), if_neg e]
        by_cases e2 : j = h
        · subst e2; rw [upC_at]
        · rw [upC_sK (by omega), f1 97 _ (by omega), h97 j hj, if_neg e2]
def WyR (C' : MC) (κ : Int → Int) (b n : Nat) (u r : Int) : Prop := (u = 1000001 ∧ r = 0 ∧ ∀ k : Nat, k < 8 → C' 98 k = -1) ∨ (u < 1000001 ∧ r = 1 ∧ ∃ f, Way κ b n (mxK κ b) u f ∧ ∀ k : Nat, k < 8 → C' 98 k = if (mxK κ b).testBit k then (f k : Int) else -1)
theorem s_laysWay {d b n : Nat} {S : MS} {C : MC} {Q : Qt} (F : Fix S) (hA : AskMod) (hK : KOk (C 83)) (hn : C 83 45 = n) (hb : b < 16) (hk : ∀ r u C', Fp mpx C C' → Lst (okK (C 83) b) (mdK (C 83) b) 1000001 0 (fun h => h < n) (mxK (C 83) b) u → WyR C' (C 83) b n u r → Q r S C') : K_X11_laysWay_0 (d + 104) 0 0 b S C Q := by
  have hn6 : n ≤ 6 := by have := hK.1; omega
  obtain ⟨m1, m2⟩ := mxK_ok hK hb
  refine b_X11_laysWay_0 F (s_musicAt F (by omega) ⟨rfl, s_leastAt F hA hK hn hb (fun C1 u f1 p1 g1 l1 => ⟨rfl, ?_⟩)⟩)
  generalize hκ : C 83 = κ at *
  rw [m1]
  generalize hXX : mxK κ b = X at *
  have k83 : ∀ C', Fp mpx C C' → C' 83 = κ := fun C' hf => by rw [← hκ]; exact funext fun j => hf 83 j (by unfold mpx asx; omega)
  rcases Int.lt_or_le u 1000001 with hu | hu
  · obtain ⟨a0, va0, ea0⟩ := l1.2.1 hu
    have hum : ∀ a, Vd (okX κ b X) (fun h => h < n) X a → u ≤ wt (mdK κ b) X a := fun a va => by
      have := l1.2.2 a ((Vd_X m2).mp va)
      omega
    have fin : ∀ C' f, WyI C C' κ b n X u 8 f → Q 1 S C' := by
      intro C' f ⟨w1, w2, w3, w4, w5, w6, w7⟩
      refine hk 1 u C' w1 l1 (Or.inr ⟨hu, rfl, f, ?_, ?_⟩)
      · rw [hXX]
        obtain ⟨a, va, ag, e⟩ := w5
        rw [lowN_8 m2] at ag
        have hpf : ∀ j, prt f X j = prt a X j := fun j => Nat.eq_of_testBit_eq fun k => by
          rw [prt_bit m2, prt_bit m2]
          cases hx : X.testBit k
          · rfl
          · rw [ag k hx]
        have hwf : wt (mdK κ b) X f = wt (mdK κ b) X a := sm_cong (fun k _ hx => by rw [ag k hx])
        refine ⟨⟨fun k hx => by rw [← ag k hx]; exact va.1 k hx, fun j hj => by rw [hpf]; exact (va.2 j hj).1⟩, by rw [hwf]; exact e, fun a2 va2 e2 k hx ag2 => ?_⟩
        exact w6 a2 ((Vd_X m2).mpr va2) e2 k (bit_lt8 m2 hx) hx ag2
      · rw [hXX]; exact w7
    have go : ∀ (g k : Nat), k + g = 8 → ∀ C' f, WyI C C' κ b n X u k f → K_X11_laysWay_15 (d + 104) 0 0 ((mDiff X (lowN X k) : Nat) : Int) u (k : Int) S C' Q := by
      intro g
      induction g with
      | zero =>
        intro k hk8 C' f hw
        have : k = 8 := by omega
        subst this
        exact b_X11_laysWay_15 F ⟨fun _ => ⟨fun z => by omega, fun _ => fin C' f hw⟩, fun z => absurd (by decide) z⟩
      | succ g ih =>
        intro k hk8 C' f hw
        obtain ⟨w1, w2, w3, w4, w5, w6, w7⟩ := hw
        have hml : mDiff X (lowN X k) < 256 := Nat.lt_of_le_of_lt (mDiff_le _ _) m2
        have hbk : (mDiff X (lowN X k)).testBit k = X.testBit k := by rw [mDiff_bit, lowN_bit]; simp
        refine b_X11_laysWay_15 F ⟨fun z => by omega, fun _ => ⟨by omega, s_isIn F fun r hr => ⟨rfl, fun z => ?_, fun z => ⟨fun _ => ?_, fun y => by omega⟩⟩⟩⟩
        · have hx : X.testBit k = false := by
            cases hx : X.testBit k
            · rfl
            · have := (isin_iff hml (show k < 9 by omega)).mpr (by rw [hbk]; exact hx); omega
          rw [w32_succ (by omega), ← lowN_not hx]
          refine ih (k + 1) (by omega) _ f ⟨Fp_up (by unfold mpx; omega) w1, fun h P hh hP => by rw [upC_ne (by decide)]; exact w2 h P hh hP, fun h hh => by rw [upC_ne (by decide), lowN_not hx]; exact w3 h hh, by rw [lowN_not hx]; exact w4, by rw [lowN_not hx]; exact w5, fun a va ea i hi hxi ag => ?_, fun j hj => ?_⟩
          · by_cases e : i = k
            · rw [e, hx] at hxi; cases hxi
            · exact w6 a va ea i (by omega) hxi ag
          · by_cases e : j = k
            · subst e; rw [upC_at, hx]; rfl
            · rw [upC_sK (by omega)]; exact w7 j (by omega)
        · have hx : X.testBit k = true := by rw [← hbk]; exact (isin_iff hml (show k < 9 by omega)).mp (by omega)
          have hpk : 2 ^ k < 256 := Nat.pow_lt_pow_right (by decide) (show k < 8 by omega)
          obtain ⟨aa, vaa, agg, eaa⟩ := w5
          have hn1 : 0 < n := by have : aa k < n := vaa.1 k hx; omega
          have q0 : upC C' 98 k (-1) 97 0 = ((prt f (lowN X k) 0 : Nat) : Int) := by
            rw [upC_ne (by decide)]
            exact w3 0 hn1
          have hp0 := prt_lt f (lowN X k) 0
          rw [q0, iShl1 k (by omega), iOr_nat (by omega) (by omega), iDiff_nat (by omega) (by omega), diff_low hx]
          refine s_way75 (d := d + 102) (C0 := C) (f := f) F hκ hn hn6 m2 (by omega) hx hu hum (fun C2 f2 hw2 => ih (k + 1) (by omega) C2 f2 hw2) n 0 (by omega) _ (Fp_up (by unfold mpx; omega) (Fp_up (by unfold mpx; omega) w1)) (fun h P hh hP => by rw [upC_ne (by decide), upC_ne (by decide)]; exact w2 h P hh hP) (fun j hj => ?_) w4 ⟨aa, vaa, agg, eaa⟩ (fun a va ea ag => Nat.zero_le _) w6 (fun j hj => by rw [upC_ne (by decide), upC_sK (by omega)]; exact w7 j hj)
          by_cases e : j = 0
          · subst e; rw [show ((0 : Nat) : Int) = 0 from rfl, upC_at, if_pos rfl]
          · rw [upC_sK (by omega), upC_ne (by decide), if_neg e]; exact w3 j hj
    have z0 : lowN X 0 = 0 := rfl
    have hw0 : WyI C C1 κ b n X u 0 a0 := by
      refine ⟨f1, p1, fun h hh => ?_, fun j hj => ?_, ⟨a0, (Vd_X m2).mpr va0, fun j hj => rfl, by omega⟩, fun a va ea i hi => absurd hi (Nat.not_lt_zero i), fun j hj => absurd hj (Nat.not_lt_zero j)⟩
      · have : prt a0 (lowN X 0) h = 0 := Nat.eq_of_testBit_eq fun i => by rw [z0, prt_bit (by decide)]; simp
        rw [this]; exact g1 h (by omega)
      · rw [z0, Nat.zero_testBit] at hj; cases hj
    have := go 8 0 rfl C1 a0 hw0
    rw [z0, mDiff_zero] at this
    exact this
  · have eu : u = 1000001 := by have := l1.1; omega
    subst eu
    refine up_ind (α := MC) (P := fun k C' => Fp mpx C C' ∧ ∀ j : Nat, j < k → C' 98 j = -1) (K := fun k C' => K_X11_laysWay_15 (d + 104) 0 0 X 1000001 (k : Int) S C' Q) 8 ?_ ?_ 0 (by omega) C1 ⟨f1, fun j hj => absurd hj (Nat.not_lt_zero j)⟩
    · intro C2 ⟨c1, c2⟩
      exact b_X11_laysWay_15 F ⟨fun _ => ⟨fun _ => hk 0 1000001 C2 c1 l1 (Or.inl ⟨rfl, rfl, c2⟩), fun z => absurd (by decide) z⟩, fun z => absurd (by decide) z⟩
    · intro k C2 hk8 ⟨c1, c2⟩ ih
      have next : K_X11_laysWay_15 (d + 104) 0 0 X 1000001 (w32 ((k : Int) + 1)) S (upC C2 98 k (-1)) Q := by
        rw [w32_succ (by omega)]
        refine ih _ ⟨Fp_up (by unfold mpx; omega) c1, fun j hj => ?_⟩
        by_cases e : j = k
        · subst e; rw [upC_at]
        · rw [upC_sK (by omega)]; exact c2 j (by omega)
      exact b_X11_laysWay_15 F ⟨fun z => by omega, fun _ => ⟨by omega, s_isIn F fun r hr => ⟨rfl, fun _ => next, fun _ => ⟨fun y => absurd rfl y, fun _ => next⟩⟩⟩⟩
/-- what the class's players tell of a beat: who plays which key -/
theorem plays_eq {κ : Int → Int} {b n : Nat} {v u r : Int} {C' : MC} (hn : n ≤ 6) (hX : mxK κ b < 256) (hv : MinB n (hdK κ) (rcK κ) (mxK κ b) (cnK κ b) (mdK κ b) v) (hu : Lst (okK κ b) (mdK κ b) 1000001 0 (fun h => h < n) (mxK κ b) u) (hw : WyR C' κ b n u r) : (v < NV → r = 1 ∧ ∀ a, Vd (okK κ b) (fun h => h < n) (mxK κ b) a → v = wt (mdK κ b) (mxK κ b) a * 16777216 + wt rowW (mxK κ b) a → ∀ k : Nat, k < 8 → C' 98 k = if (mxK κ b).testBit k then (a k : Int) else -1) ∧ (¬ v < NV → r = 0 ∧ ∀ k : Nat, k < 8 → C' 98 k = -1) := by
  obtain ⟨l1, l2⟩ := Lst_lex hn (fun h k _ => mdK_bd κ b h k) hv hu
  refine ⟨fun hlt => ?_, fun hge => ?_⟩
  · obtain ⟨hu1, a1, va1, ea1, ev1⟩ := l1 hlt
    rcases hw with ⟨q1, _⟩ | ⟨q1, q2, f, q3, q4⟩
    · omega
    · refine ⟨q2, fun a va ea k hk => ?_⟩
      have hra := row_bd (a := a) (X := mxK κ b) (fun k _ hx => by have : a k < n := va.1 k hx; omega)
      have hr1 := row_bd (a := a1) (X := mxK κ b) (fun k _ hx => by have : a1 k < n := va1.1 k hx; omega)
      have hwa : wt (mdK κ b) (mxK κ b) a = u := by omega
      have := way_eq hn hX hv va ea hwa q3
      rw [q4 k hk]
      cases hx : (mxK κ b).testBit k
      · rfl
      · rw [this k hx]
  · have := (l2 hge).1
    rcases hw with ⟨q1, q2, q3⟩ | ⟨q1, _⟩
    · exact ⟨q2, q3⟩
    · omega
theorem q_who {d : Nat} {l1 l2 : Int} {S : MS} {C : MC} {P : Int → Int → MS → MC → Prop} (hAC : AskCls) (hAM : AskMod) (I : Inv S C) (k : PS S P) : K_X10_who_0 (d + 105) 0 0 l1 l2 S C (fun r S2 C2 => Fix S2 ∧ S2.2.2.2.2 = S.2.2.2.2 ∧ K_X11_who_0 (d + 105) 0 0 l1 l2 S2 C2 (fun r2 Sq C3 => Sq = S2 ∧ P r r2 S2 C3)) := by
  have F := I.1
  obtain ⟨n, hn⟩ : ∃ n : Nat, C 83 45 = n := ⟨(C 83 45).toNat, by have := I.2.1.1.2.1; omega⟩
  have hK := KOk_of I.2.1
  have hn6 : n ≤ 6 := by have := hK.1; omega
  have bad : ¬ ((0 ≤ l1 ∧ l1 < 16) ∧ 0 ≤ l2 ∧ l2 < 8) → Fix S ∧ S.2.2.2.2 = S.2.2.2.2 ∧ K_X11_who_0 (d + 105) 0 0 l1 l2 S C (fun r2 Sq C3 => Sq = S ∧ P (-1) r2 S C3) := fun hl => ⟨F, rfl, b_X11_who_0 F (s_isBeatM F fun r hr => ⟨rfl, fun _ => ⟨rfl, k _ _ _ I rfl⟩, fun z => s_isKeyM F fun r2 hr2 => ⟨rfl, fun z2 => by omega, fun _ => ⟨rfl, k _ _ _ I rfl⟩⟩⟩)⟩
  refine b_X10_who_0 F (s_isBeatC F fun r hr => ⟨rfl, fun z => bad (by omega), fun z => s_isKeyC F fun r2 hr2 => ⟨rfl, fun z2 => ?_, fun z2 => bad (by omega)⟩⟩)
  obtain ⟨b, rfl⟩ : ∃ b : Nat, l1 = b := ⟨l1.toNat, by omega⟩
  obtain ⟨key, rfl⟩ : ∃ key : Nat, l2 = key := ⟨l2.toNat, by omega⟩
  have hb : b < 16 := by omega
  have hk8 : key < 8 := by omega
  obtain ⟨ha, h1, h2, h3, h4⟩ := SpC_of hAC isSt1 I.2.1 hn
  obtain ⟨x1, x2⟩ := mxK_ok hK hb
  have F1 := fix_street F (v := 1)
  -- the reference behind it
  have mod : ∀ (C2 : MC) (v rr : Int), Fp plx C C2 → MinB n (hdK (C 83)) (rcK (C 83)) (mxK (C 83) b) (cnK (C 83) b) (mdK (C 83) b) v → (∀ a, v < NV → Vd (okK (C 83) b) (fun h => h < n) (mxK (C 83) b) a → v = wt (mdK (C 83) b) (mxK (C 83) b) a * 16777216 + wt rowW (mxK (C 83) b) a → rr = if (mxK (C 83) b).testBit key then (a key : Int) else -1) → (¬ v < NV → rr = -1) → K_X11_who_0 (d + 105) 0 0 (b : Int) (key : Int) (upP S 44 8 1) C2 (fun r2 Sq C3 => Sq = upP S 44 8 1 ∧ P rr r2 (upP S 44 8 1) C3) := by
    intro C2 v rr f2 hv hra hrb
    have e83 := pl83 f2
    refine b_X11_who_0 F1 (s_isBeatM F1 fun r hr => ⟨rfl, fun z => by omega, fun _ => s_isKeyM F1 fun r2 hr2 => ⟨rfl, fun _ => ?_, fun z => by omega⟩⟩)
    refine s_laysWay (d := d) F1 hAM (by rw [e83]; exact hK) (by rw [e83]; exact hn) hb (fun r3 u C3 f3 l3 w3 => ⟨rfl, by omega, rfl, ?_⟩)
    rw [e83] at l3 w3
    obtain ⟨p1, p2⟩ := plays_eq hn6 x2 hv l3 w3
    have e : rr = C3 98 key := by
      by_cases hlt : v < NV
      · obtain ⟨a, va, ea, _⟩ := Lst_v hn6 (fun h k => mdK_bd (C 83) b h k) hv hlt
        rw [hra a hlt va ea, (p1 hlt).2 a va ea key hk8]
      · rw [hrb hlt, (p2 hlt).2 key hk8]
    rw [← e]
    exact k _ _ _ (Inv_pl I (S44_up F 1) f2 f3) rfl
  refine s_lightestWay (d := d + 96) F ha hb h1 (h2 b hb).1 (h2 b hb).2 (h3 b) (h4 b 1 hb (Or.inr rfl) _ (S44_up F 1)) (fun C2 v f2 l2 e9 e49 => ⟨F1, fun y => ⟨F1, rfl, ?_⟩, fun y => ?_⟩)
  · rw [lCmp_ge] at y
    exact mod C2 v (-1) f2 l2 (fun a hlt => by unfold NV at hlt; omega) (fun _ => rfl)
  · rw [lCmp_ge] at y
    have hlt : v < NV := by unfold NV; omega
    obtain ⟨a, va, ea, eb, ec⟩ := Lst_v hn6 (fun h k => mdK_bd (C 83) b h k) l2 hlt
    refine s_player (d := d + 103) (a := a) (md := mdK (C 83) b) (X := mxK (C 83) b) F1 hk8 x2 e9 e49 (fun k _ hx => by have : a k < n := va.1 k hx; omega) ea eb ⟨rfl, F1, rfl, ?_⟩
    refine mod C2 v _ f2 l2 (fun a2 _ va2 ea2 => ?_) (fun q => absurd hlt q)
    have hra := row_bd (a := a) (X := mxK (C 83) b) (fun k _ hx => by have : a k < n := va.1 k hx; omega)
    have hr2 := row_bd (a := a2) (X := mxK (C 83) b) (fun k _ hx => by have : a2 k < n := va2.1 k hx; omega)
    cases hx : (mxK (C 83) b).testBit key
    · rfl
    · have d1 := row_digit (a := a) (X := mxK (C 83) b) (fun k _ hx => by have : a k < n := va.1 k hx; omega) hk8 hx
      have d2 := row_digit (a := a2) (X := mxK (C 83) b) (fun k _ hx => by have : a2 k < n := va2.1 k hx; omega) hk8 hx
      have : wt rowW (mxK (C 83) b) a = wt rowW (mxK (C 83) b) a2 := by omega
      rw [this] at d1
      simp only [if_true]
      omega
