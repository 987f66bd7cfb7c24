/-! 46.parts: the reference lays parts and finds the least -/
/-- a kept row as it may stand -/
def KOk (κ : Int → Int) : Prop := (0 ≤ κ 45 ∧ κ 45 ≤ 6) ∧ (∀ j, 0 ≤ j → j < κ 45 → (1 ≤ κ (25 + j) ∧ κ (25 + j) ≤ 8) ∧ 0 ≤ κ (31 + j) ∧ κ (31 + j) ≤ 7) ∧ (∀ k, 0 ≤ k → k < 8 → -1 ≤ κ k ∧ κ k < κ 45) ∧ (∀ b, 0 ≤ b → b < 16 → 0 ≤ κ (8 + b) ∧ κ (8 + b) ≤ 255) ∧ (0 ≤ κ 24 ∧ κ 24 ≤ 999) ∧ (0 ≤ κ 44 ∧ κ 44 ≤ 9) ∧ (0 ≤ κ 47 ∧ κ 47 ≤ 6) ∧ (-1 ≤ κ 48 ∧ κ 48 < κ 47) ∧ ∀ t, 0 ≤ t → t < κ 47 → (0 ≤ κ (49 + t) ∧ κ (49 + t) ≤ 400) ∧ TokOK (toks κ t)
theorem KOk_of {S : MS} {C : MC} {a : Int} {κ : Int → Int} (h : RS S C a κ) : KOk κ := by
  obtain ⟨a1, a2, a3, a4, a5, a6⟩ := h
  refine ⟨a1.2.1, fun j x0 x1 => ?_, fun k x0 x1 => (a2 k x0 x1).2, fun b x0 x1 => (a3 b x0 x1).2, a6.1.2, a6.2.2.2, a5.1.2, a5.2.1.2, fun t x0 x1 => ?_⟩
  · have := a1.2.1
    exact (a1.2.2 j x0 (by omega)).2.2 x1
  · obtain ⟨q1, q2, q3, _⟩ := a5.2.2.2 t x0 x1
    obtain ⟨r1, l, cd, r2, _⟩ := q3
    exact ⟨q2, r1, l, cd, r2⟩
def asx (a k : Int) : Prop := (a = 81 ∧ 22 ≤ k ∧ k ≤ 25) ∨ a = 93
/-- what the reference's law tells -/
def AskMod : Prop := ∀ (d : Nat) (S : MS) (C : MC) (h k b n : Nat), Fix S → KOk (C 83) → C 83 45 = n → h < n → k < 8 → b < 16 →
  (∀ Q : Qt, (∀ C', Fp asx C C' → Q (if cnK (C 83) b h k then 1 else 0) S C') → K_X11_canPlay_0 (d + 100) 0 0 h k b S C Q) ∧ (∀ Q : Qt, (∀ C', Fp asx C C' → Q (mdK (C 83) b h k) S C') → K_X11_mindedAt_0 (d + 100) 0 0 h k b S C Q)
theorem fit_span {P lo hi : Nat} {H R : Int} (hP : P < 256) (h1 : P.testBit lo = true) (h2 : ∀ j, P.testBit j = true → lo ≤ j) (h3 : P.testBit hi = true) (h4 : ∀ j, P.testBit j = true → j ≤ hi) : fit H R P ↔ pc8 (P : Int) ≤ H ∧ (hi : Int) - lo ≤ R := by
  rw [pc8_all P hP]
  unfold fit
  constructor
  · intro h
    have := h.2 lo hi (bit_lt8 hP h1) (bit_lt8 hP h3) h1 h3
    exact ⟨h.1, by omega⟩
  · intro h
    refine ⟨h.1, fun i j _ _ bi bj => ?_⟩
    have := h2 i bi
    have := h4 j bj
    omega
theorem s_canHold {d n h P : Nat} {S : MS} {C : MC} {Q : Qt} (F : Fix S) (hn : n ≤ 6) (hh : h < n) (hP : P < 256) (hH : 0 ≤ C 83 (25 + (h : Int))) (hk : ∀ r, (r = 1 ∧ fit (C 83 (25 + (h : Int))) (C 83 (31 + (h : Int))) P ∨ r = 0 ∧ ¬ fit (C 83 (25 + (h : Int))) (C 83 (31 + (h : Int))) P) → Q r S C) : K_X11_canHold_0 (d + 1) 0 0 h P S C Q := by
  by_cases e : P = 0
  · subst e
    exact b_X11_canHold_0 F ⟨fun z => absurd rfl z, fun _ => hk 1 (Or.inl ⟨rfl, fit_zero hH⟩)⟩
  · refine b_X11_canHold_0 F ⟨fun _ => ?_, fun z => by omega⟩
    have hi : ∀ lo : Nat, P.testBit lo = true → (∀ j, P.testBit j = true → lo ≤ j) → ∀ m : Nat, m < 8 → (∀ j, m < j → P.testBit j = false) → K_X11_canHold_26 (d + 1) 0 0 h P lo m S C Q := by
      intro lo l1 l2 m
      induction m with
      | zero =>
        intro hm hj
        have hb0 : P.testBit 0 = true := by
          obtain ⟨j, hb⟩ := exists_bit e
          by_cases z : j = 0
          · rw [← z]; exact hb
          · rw [hj j (by omega)] at hb; cases hb
        have hl0 : lo = 0 := by have := l2 0 hb0; omega
        have hf := fit_span (H := C 83 (25 + (h : Int))) (R := C 83 (31 + (h : Int))) hP l1 l2 hb0 (fun j z => by
          rcases Nat.eq_zero_or_pos j with q | q
          · omega
          · rw [hj j q] at z; cases z)
        refine b_X11_canHold_26 F (s_isIn F fun r hr => ⟨rfl, fun z => s_ones F (by omega) ⟨rfl, ?_⟩, fun z => ?_⟩)
        · rw [w32_lit (x := 25 + (h : Int)) (by omega), w32_lit (x := 31 + (h : Int)) (by omega), w32_lit (x := ((0 : Nat) : Int) - (lo : Int)) (by omega)]
          refine ⟨by omega, fun y => hk 0 (Or.inr ⟨rfl, fun q => by have := (hf.mp q).1; omega⟩), fun y => ⟨by omega, fun y2 => hk 0 (Or.inr ⟨rfl, fun q => by have := (hf.mp q).2; omega⟩), fun y2 => hk 1 (Or.inl ⟨rfl, hf.mpr ⟨by omega, by omega⟩⟩)⟩⟩
        · exfalso
          have := (isin_iff hP (show 0 < 9 by decide)).mpr hb0
          omega
      | succ m ih =>
        intro hm hj
        refine b_X11_canHold_26 F (s_isIn F fun r hr => ⟨rfl, fun z => s_ones F (by omega) ⟨rfl, ?_⟩, fun z => ?_⟩)
        · have hb0 : P.testBit (m + 1) = true := (isin_iff hP (by omega)).mp (by omega)
          have hf := fit_span (H := C 83 (25 + (h : Int))) (R := C 83 (31 + (h : Int))) hP l1 l2 hb0 (fun j z => by
            rcases Nat.lt_or_ge (m + 1) j with q | q
            · rw [hj j q] at z; cases z
            · exact q)
          have hlo := bit_lt8 hP l1
          rw [w32_lit (x := 25 + (h : Int)) (by omega), w32_lit (x := 31 + (h : Int)) (by omega), w32_lit (x := ((m + 1 : Nat) : Int) - (lo : Int)) (by omega)]
          refine ⟨by omega, fun y => hk 0 (Or.inr ⟨rfl, fun q => by have := (hf.mp q).1; omega⟩), fun y => ⟨by omega, fun y2 => hk 0 (Or.inr ⟨rfl, fun q => by have := (hf.mp q).2; omega⟩), fun y2 => hk 1 (Or.inl ⟨rfl, hf.mpr ⟨by omega, by omega⟩⟩)⟩⟩
        · rw [w32_pred (by omega)]
          refine ih (by omega) (fun j hjm => ?_)
          by_cases q : j = m + 1
          · cases hb : P.testBit (m + 1)
            · rw [q]; exact hb
            · have := (isin_iff hP (show m + 1 < 9 by omega)).mpr hb
              omega
          · exact hj j (by omega)
    have lo : ∀ g m : Nat, m + g = 8 → (∀ j, j < m → P.testBit j = false) → K_X11_canHold_8 (d + 1) 0 0 h P m S C Q := by
      intro g
      induction g with
      | zero =>
        intro m hm hj
        obtain ⟨j, hb⟩ := exists_bit e
        have := bit_lt8 hP hb
        rw [hj j (by omega)] at hb; cases hb
      | succ g ih =>
        intro m hm hj
        refine b_X11_canHold_8 F (s_isIn F fun r hr => ⟨rfl, fun z => ?_, fun z => ?_⟩)
        · have hb0 : P.testBit m = true := (isin_iff hP (by omega)).mp (by omega)
          refine hi m hb0 (fun j hb => ?_) 7 (by decide) (fun j hj7 => ?_)
          · rcases Nat.lt_or_ge j m with q | q
            · rw [hj j q] at hb; cases hb
            · exact q
          · cases hb : P.testBit j
            · rfl
            · have := bit_lt8 hP hb; omega
        · rw [w32_succ (by omega)]
          refine ih (m + 1) (by omega) (fun j hjm => ?_)
          by_cases q : j = m
          · cases hb : P.testBit m
            · rw [q]; exact hb
            · have := (isin_iff hP (show m < 9 by omega)).mpr hb
              omega
          · exact hj j (by omega)
    exact lo 8 0 rfl (fun j hj => absurd hj (Nat.not_lt_zero j))
def hdK (κ : Int → Int) (h : Nat) : Int := κ (25 + (h : Int))
def rcK (κ : Int → Int) (h : Nat) : Int := κ (31 + (h : Int))
def okK (κ : Int → Int) (b : Nat) : Nat → Nat → Prop := okP (cnK κ b) (hdK κ) (rcK κ)
def okX (κ : Int → Int) (b X h P : Nat) : Prop := okK κ b h P ∧ mSub P X
/-- the parts are laid -/
def PtM (C : MC) (κ : Int → Int) (b X n : Nat) : Prop := ∀ h P : Nat, h < n → P < 256 → (okX κ b X h P → C 94 ((256 * h + P : Nat) : Int) = sm (mdK κ b h) P) ∧ (¬ okX κ b X h P → C 94 ((256 * h + P : Nat) : Int) = 1000001)
def ptx (a k : Int) : Prop := asx a k ∨ a = 94 ∨ a = 95
theorem s_many {d mc ms : Nat} {S : MS} {C : MC} {Q : Qt} (F : Fix S) (h : Q (C 83 45) S C) : K_X11_many_0 d mc ms S C Q := b_X11_many_0 F h
theorem s_lesser {d mc ms : Nat} {x y : Int} {S : MS} {C : MC} {Q : Qt} (F : Fix S) (h : Q (min x y) S C) : K_X11_lesser_0 d mc ms x y S C Q := by
  refine b_X11_lesser_0 F ⟨fun z => ?_, fun z => ?_⟩
  · rw [Int.min_eq_right z] at h; exact h
  · rw [Int.min_eq_left (by omega)] at h; exact h
theorem s_laysParts {d b n X : Nat} {S : MS} {C : MC} {Q : Qt} (F : Fix S) (hA : AskMod) (hK : KOk (C 83)) (hn : C 83 45 = n) (hb : b < 16) (hX : X < 256) (hk : ∀ C', Fp ptx C C' → PtM C' (C 83) b X n → Q 0 S C') : K_X11_laysParts_0 (d + 101) 0 0 b X S C Q := by
  have hn6 : n ≤ 6 := by have := hK.1; omega
  generalize hκ : C 83 = κ at hK hk hn
  have hm99 : ∀ h k, 0 ≤ mdK κ b h k ∧ mdK κ b h k ≤ 99 := fun h k => mdK_bd κ b h k
  have k83 : ∀ C', Fp ptx C C' → C' 83 = κ := fun C' hf => by rw [← hκ]; exact funext fun j => hf 83 j (by unfold ptx asx; omega)
  refine b_X11_laysParts_0 F ?_
  refine up_ind (α := MC) (P := fun h C' => Fp ptx C C' ∧ PtM C' κ b X h) (K := fun h C' => K_X11_laysParts_2 (d + 101) 0 0 b X (h : Int) S C' Q) n ?_ ?_ 0 (by omega) C ⟨Fp_rf, fun h P hh _ => absurd hh (Nat.not_lt_zero h)⟩
  · intro C1 ⟨c1, c2⟩
    refine b_X11_laysParts_2 F (s_many F ⟨rfl, fun _ => hk C1 c1 c2, fun z => ?_⟩)
    rw [k83 C1 c1] at z
    omega
  · intro h C1 hh ⟨c1, c2⟩ ih
    refine b_X11_laysParts_2 F (s_many F ⟨rfl, fun z => by rw [k83 C1 c1] at z; omega, fun _ => ?_⟩)
    -- what is minded, key by key
    refine up_ind (α := MC) (P := fun k C' => Fp ptx C C' ∧ PtM C' κ b X h ∧ ∀ j : Nat, j < k → C' 95 j = if X.testBit j && cnK κ b h j then mdK κ b h j else 1000001) (K := fun k C' => K_X11_laysParts_13 (d + 101) 0 0 b X (h : Int) (k : Int) S C' Q) 8 ?_ ?_ 0 (by omega) C1 ⟨c1, c2, fun j hj => absurd hj (Nat.not_lt_zero j)⟩
    · intro C2 ⟨c3, c4, c5⟩
      refine b_X11_laysParts_13 F ⟨fun _ => ?_, fun z => absurd (by decide) z⟩
      refine up_ind (α := MC) (P := fun P C' => Fp (fun a _ => a = 94) C2 C' ∧ PtM C' κ b X h ∧ ∀ R : Nat, R < P → (okX κ b X h R → C' 94 ((256 * h + R : Nat) : Int) = sm (mdK κ b h) R) ∧ (¬ okX κ b X h R → C' 94 ((256 * h + R : Nat) : Int) = 1000001)) (K := fun P C' => K_X11_laysParts_70 (d + 101) 0 0 b X (h : Int) (P : Int) S C' Q) 256 ?_ ?_ 0 (by omega) C2 ⟨Fp_rf, c4, fun R hR => absurd hR (Nat.not_lt_zero R)⟩
      · intro C3 ⟨e1, e2, e3⟩
        refine b_X11_laysParts_70 F ⟨fun _ => ?_, fun z => absurd (by decide) z⟩
        rw [w32_succ (by omega)]
        refine ih C3 ⟨Fp_tr c3 (Fp_mono e1 (fun a k q => by unfold ptx; omega)), fun g P hg hP => ?_⟩
        by_cases q : g = h
        · subst q; exact e3 P hP
        · exact e2 g P (by omega) hP
      · intro P C3 hP ⟨e1, e2, e3⟩ ihP
        have fin : ∀ v : Int, (okX κ b X h P → v = sm (mdK κ b h) P) → (¬ okX κ b X h P → v = 1000001) → ((0 : Int) ≤ w32 ((w32 (256 * (h : Int))) + P) ∧ w32 ((w32 (256 * (h : Int))) + P) < 1536) ∧ K_X11_laysParts_70 (d + 101) 0 0 b X (h : Int) (w32 ((P : Int) + 1)) S (upC C3 94 (w32 ((w32 (256 * (h : Int))) + P)) v) Q := by
          intro v hv1 hv2
          rw [w32_lit (x := 256 * (h : Int)) (by omega), w32_lit (x := 256 * (h : Int) + P) (by omega), w32_succ (by omega), show 256 * (h : Int) + P = ((256 * h + P : Nat) : Int) by omega]
          refine ⟨by omega, ihP _ ⟨Fp_up rfl e1, fun g R hg hR => ?_, fun R hR => ?_⟩⟩
          · rw [upC_sK (by omega)]; exact e2 g R hg hR
          · by_cases q : R = P
            · subst q; rw [upC_at]; exact ⟨hv1, hv2⟩
            · rw [upC_sK (by omega)]; exact e3 R (by omega)
        have lay : ∀ s : Int, s = 0 ∨ s = 1000001 → (s = 0 → mSub P X ∧ fit (hdK κ h) (rcK κ h) P) → (s = 1000001 → ¬ okX κ b X h P) → K_X11_laysParts_109 (d + 101) 0 0 b X (h : Int) (P : Int) s 0 S C3 Q := by
          intro s hs hs1 hs2
          refine up_ind (α := Int) (P := fun k s => (s = smN (mdK κ b h) P k ∧ (mSub P X ∧ fit (hdK κ h) (rcK κ h) P) ∧ ∀ j, j < k → P.testBit j = true → cnK κ b h j = true) ∨ (1000001 ≤ s ∧ s ≤ 2000000 ∧ ¬ okX κ b X h P)) (K := fun k s => K_X11_laysParts_109 (d + 101) 0 0 b X (h : Int) (P : Int) s (k : Int) S C3 Q) 8 ?_ ?_ 0 (by omega) s ?_
          · intro s hs
            refine b_X11_laysParts_109 F ⟨fun _ => s_lesser F ⟨rfl, fin _ (fun o => ?_) (fun o => ?_)⟩, fun z => absurd (by decide) z⟩
            · rcases hs with ⟨q, _⟩ | ⟨_, _, q⟩
              · have := sm_bd (f := mdK κ b h) (X := P) (by decide) (fun k _ => hm99 h k)
                have q : s = sm (mdK κ b h) P := q
                rw [Int.min_eq_right (by omega)]; exact q
              · exact absurd o q
            · rcases hs with ⟨_, q1, q2⟩ | ⟨q1, _, _⟩
              · exact absurd ⟨⟨fun k hk => q2 k (bit_lt8 hP hk) hk, q1.2⟩, q1.1⟩ o
              · rw [Int.min_eq_left q1]
          · intro k s hk hs ihk
            have hbd := smN_bd (f := mdK κ b h) (X := P) (b := 99) (by decide) (fun j _ => hm99 h j) k (by omega)
            refine b_X11_laysParts_109 F ⟨fun z => by omega, fun _ => ⟨fun z => s_lesser F ⟨rfl, fin _ (fun o => ?_) (fun o => ?_)⟩, fun z => s_isIn F fun r hr => ⟨rfl, fun y => ?_, fun y => ⟨by omega, ?_⟩⟩⟩⟩
            · rcases hs with ⟨q, _⟩ | ⟨_, _, q⟩
              · omega
              · exact absurd o q
            · rw [Int.min_eq_left z]
            · rcases hs with ⟨q1, q2, q3⟩ | ⟨q, _⟩
              · have hbk : P.testBit k = false := by
                  cases hb2 : P.testBit k
                  · rfl
                  · have := (isin_iff hP (show k < 9 by omega)).mpr hb2; omega
                rw [w32_lit (x := s + 0) (by omega), w32_succ (by omega)]
                refine ihk _ (Or.inl ⟨?_, q2, fun j hj hjb => ?_⟩)
                · show s + 0 = smN (mdK κ b h) P k + (if P.testBit k then mdK κ b h k else 0)
                  rw [hbk, q1]; rfl
                · by_cases q : j = k
                  · rw [q, hbk] at hjb; cases hjb
                  · exact q3 j (by omega) hjb
              · omega
            · rcases hs with ⟨q1, q2, q3⟩ | ⟨q, _⟩
              · have hbk : P.testBit k = true := (isin_iff hP (show k < 9 by omega)).mp (by omega)
                have e95 : C3 95 k = if X.testBit k && cnK κ b h k then mdK κ b h k else 1000001 := by rw [e1 95 k (by omega)]; exact c5 k hk
                have hxk : X.testBit k = true := mSub_bit.mp q2.1 k hbk
                rw [hxk, Bool.true_and] at e95
                have hk99 := hm99 h k
                cases hcn : cnK κ b h k
                · rw [hcn] at e95
                  simp only [Bool.false_eq_true, if_false] at e95
                  rw [e95, w32_lit (x := s + 1000001) (by omega), w32_succ (by omega)]
                  refine ihk _ (Or.inr ⟨by omega, by omega, fun o => ?_⟩)
                  rw [o.1.1 k hbk] at hcn; cases hcn
                · rw [hcn] at e95
                  simp only [if_true] at e95
                  rw [e95, w32_lit (x := s + mdK κ b h k) (by omega), w32_succ (by omega)]
                  refine ihk _ (Or.inl ⟨?_, q2, fun j hj hjb => ?_⟩)
                  · show s + mdK κ b h k = smN (mdK κ b h) P k + (if P.testBit k then mdK κ b h k else 0)
                    rw [hbk, q1]; rfl
                  · by_cases q : j = k
                    · rw [q]; exact hcn
                    · exact q3 j (by omega) hjb
              · omega
          · rcases hs with q | q
            · subst q; exact Or.inl ⟨rfl, hs1 rfl, fun j hj => absurd hj (Nat.not_lt_zero j)⟩
            · subst q; exact Or.inr ⟨by omega, by omega, hs2 rfl⟩
        refine b_X11_laysParts_70 F ⟨fun z => by omega, fun _ => ?_⟩
        rw [iDiff_nat (by omega) (by omega)]
        refine ⟨fun z => lay 1000001 (Or.inr rfl) (fun q => by omega) (fun _ o => z (by rw [mDiff_eq_zero.mpr o.2]; rfl)), fun z => ?_⟩
        have hsub : mSub P X := mDiff_eq_zero.mp (by omega)
        have e83 : C3 83 = κ := by rw [← k83 C2 c3]; exact funext fun j => e1 83 j (by omega)
        have hH := (hK.2.1 h (by omega) (by omega)).1.1
        refine s_canHold F hn6 hh hP (by rw [e83]; omega) (fun r hr => ⟨rfl, fun y => lay 1000001 (Or.inr rfl) (fun q => by omega) (fun _ o => ?_), fun y => lay 0 (Or.inl rfl) (fun _ => ⟨hsub, ?_⟩) (fun q => by omega)⟩)
        · rw [e83] at hr
          rcases hr with ⟨q, _⟩ | ⟨_, q⟩
          · omega
          · exact q o.1.2
        · rw [e83] at hr
          rcases hr with ⟨_, q⟩ | ⟨q, _⟩
          · exact q
          · omega
    · intro k C2 hk8 ⟨c3, c4, c5⟩ ihk
      have e83 := k83 C2 c3
      have step : ∀ (C3 : MC) (v : Int), Fp asx C2 C3 → v = (if X.testBit k && cnK κ b h k then mdK κ b h k else 1000001) → K_X11_laysParts_13 (d + 101) 0 0 b X (h : Int) (w32 ((k : Int) + 1)) S (upC C3 95 k v) Q := by
        intro C3 v f3 hv
        rw [w32_succ (by omega)]
        refine ihk _ ⟨Fp_up (by unfold ptx; omega) (Fp_tr c3 (Fp_mono f3 (fun a k q => Or.inl q))), fun g P hg hP => ?_, fun j hj => ?_⟩
        · rw [upC_ne (by decide), f3 94 _ (by unfold asx; omega)]; exact c4 g P hg hP
        · by_cases q : j = k
          · subst q; rw [upC_at]; exact hv
          · rw [upC_sK (by omega), f3 95 j (by unfold asx; omega)]; exact c5 j (by omega)
      refine b_X11_laysParts_13 F ⟨fun z => by omega, fun _ => s_isIn F fun r hr => ⟨rfl, fun z => ⟨by omega, step C2 _ Fp_rf ?_⟩, fun z => ?_⟩⟩
      · have : X.testBit k = false := by
          cases hb2 : X.testBit k
          · rfl
          · have := (isin_iff hX (show k < 9 by omega)).mpr hb2; omega
        rw [this]; rfl
      · have hxk : X.testBit k = true := (isin_iff hX (show k < 9 by omega)).mp (by omega)
        have hA1 := hA d S C2 h k b n F (by rw [e83]; exact hK) (by rw [e83]; exact hn) hh hk8 hb
        refine hA1.1 _ (fun C3 f3 => ⟨rfl, fun y => ⟨by omega, step C3 _ f3 ?_⟩, fun y => ?_⟩)
        · rw [e83, b01] at y
          rw [y, Bool.and_false]; rfl
        · rw [e83, b01] at y
          have hcn : cnK κ b h k = true := by simpa using y
          have e83' : C3 83 = κ := by rw [← e83]; exact funext fun j => f3 83 j (by unfold asx; omega)
          have hA2 := hA d S C3 h k b n F (by rw [e83']; exact hK) (by rw [e83']; exact hn) hh hk8 hb
          refine hA2.2 _ (fun C4 f4 => ⟨rfl, by omega, step C4 _ (Fp_tr f3 f4) ?_⟩)
          rw [e83', hxk, hcn]; rfl
