/-! 51.who: might, who -/
def mrg (f : Nat → Nat) (D : Nat) (a : Nat → Nat) : Nat → Nat := fun k => if D.testBit k then f k else a k
theorem prt_mrg {f a : Nat → Nat} {D X j : Nat} (hX : X < 256) (hD : mSub D X) : prt (mrg f D a) X j = prt f D j ||| prt a (mDiff X D) j := Nat.eq_of_testBit_eq fun k => by
  rw [prt_bit hX, Nat.testBit_or, prt_bit (Nat.lt_of_le_of_lt (mSub_le hD) hX), prt_bit (Nat.lt_of_le_of_lt (mDiff_le _ _) hX), mDiff_bit]
  unfold mrg
  have := mSub_bit.mp hD k
  cases hd : D.testBit k
  · simp
  · rw [this hd]; simp
theorem Vd_mrg {κ : Int → Int} {b X D : Nat} {H : Nat → Prop} {f a : Nat → Nat} (hX : X < 256) (hD : mSub D X) (hf : ∀ k, D.testBit k = true → H (f k)) : Vd (okG κ b X (prt f D)) H (mDiff X D) a ↔ Vd (okX κ b X) H X (mrg f D a) := by
  constructor
  · intro v
    refine ⟨fun k hk => ?_, fun j hj => ?_⟩
    · unfold mrg
      cases hd : D.testBit k
      · simp only [Bool.false_eq_true, if_false]
        exact v.1 k (by rw [mDiff_bit, hk, hd]; rfl)
      · simp only [if_true]; exact hf k hd
    · rw [prt_mrg hX hD]; exact v.2 j hj
  · intro v
    refine ⟨fun k hk => ?_, fun j hj => ?_⟩
    · rw [mDiff_bit] at hk
      simp at hk
      have := v.1 k hk.1
      unfold mrg at this
      rw [hk.2] at this
      simpa using this
    · have := v.2 j hj
      rw [prt_mrg hX hD] at this
      exact this
theorem wt_mrg {w : Nat → Nat → Int} {f a : Nat → Nat} {D X : Nat} (hD : mSub D X) : wt w X (mrg f D a) = wt w (mDiff X D) a + wt w D f := by
  unfold wt
  rw [sm_split hD]
  congr 1
  · refine sm_cong fun k _ hk => ?_
    rw [mDiff_bit] at hk
    simp at hk
    unfold mrg
    rw [hk.2]
    simp
  · refine sm_cong fun k _ hk => ?_
    unfold mrg
    rw [hk]
    simp
theorem off_wt {w : Nat → Nat → Int} {f : Nat → Nat} {D n : Nat} (hD : D < 256) : ∀ m, m ≤ n → offL (fun h => sm (w h) (prt f D h)) n m = sm (fun k => w (f k) k) (mk8 (fun k => D.testBit k && (decide (n - m ≤ f k) && decide (f k < n))))
  | 0, _ => by
    have : mk8 (fun k => D.testBit k && (decide (n - 0 ≤ f k) && decide (f k < n))) = 0 := Nat.eq_of_testBit_eq fun k => by
      unfold mk8
      rw [mkN_bit, Nat.zero_testBit]
      by_cases z : f k < n
      · have : ¬ n - 0 ≤ f k := by omega
        simp [this]
      · simp [z]
    rw [this, sm_zero]
    rfl
  | m + 1, hm => by
    show offL _ n m + sm (w (n - 1 - m)) (prt f D (n - 1 - m)) = _
    rw [off_wt hD m (by omega)]
    have bit : ∀ m k, (mk8 (fun k => D.testBit k && (decide (n - m ≤ f k) && decide (f k < n)))).testBit k = (D.testBit k && (decide (n - m ≤ f k) && decide (f k < n))) := fun m k => by
      unfold mk8
      rw [mkN_bit]
      cases hd : D.testBit k
      · simp
      · have := bit_lt8 hD hd
        simp [this]
    have hs : mSub (prt f D (n - 1 - m)) (mk8 (fun k => D.testBit k && (decide (n - (m + 1) ≤ f k) && decide (f k < n)))) := mSub_bit.mpr fun k hk => by
      rw [prt_bit hD] at hk
      simp at hk
      rw [bit, hk.1, hk.2]
      have h1 : n - (m + 1) ≤ n - 1 - m := by omega
      have h2 : n - 1 - m < n := by omega
      simp [h1, h2]
    have hd : mDiff (mk8 (fun k => D.testBit k && (decide (n - (m + 1) ≤ f k) && decide (f k < n)))) (prt f D (n - 1 - m)) = mk8 (fun k => D.testBit k && (decide (n - m ≤ f k) && decide (f k < n))) := Nat.eq_of_testBit_eq fun k => by
      rw [mDiff_bit, bit, bit, prt_bit hD]
      cases D.testBit k
      · rfl
      · by_cases e : f k = n - 1 - m
        · have : ¬ n - m ≤ f k := by omega
          simp [e, this]
          omega
        · by_cases z : n - m ≤ f k
          · have : n - (m + 1) ≤ f k := by omega
            simp [e, z, this]
          · have : ¬ n - (m + 1) ≤ f k := by omega
            simp [e, z, this]
    rw [sm_split hs, hd]
    congr 1
    refine sm_cong fun k _ hk => ?_
    rw [prt_bit hD] at hk
    simp at hk
    rw [hk.2]
theorem off_all {w : Nat → Nat → Int} {f : Nat → Nat} {D n : Nat} (hD : D < 256) (hf : ∀ k, D.testBit k = true → f k < n) : offL (fun h => sm (w h) (prt f D h)) n n = wt w D f := by
  rw [off_wt hD n (Nat.le_refl n)]
  have : mk8 (fun k => D.testBit k && (decide (n - n ≤ f k) && decide (f k < n))) = D := Nat.eq_of_testBit_eq fun k => by
    unfold mk8
    rw [mkN_bit]
    cases hd : D.testBit k
    · simp
    · have := bit_lt8 hD hd
      have := hf k hd
      simp [*]
  rw [this]
  rfl
theorem s_leastG {d b n X D : Nat} {S : MS} {C : MC} {κ : Int → Int} {f : Nat → Nat} {Q : Qt} (F : Fix S) (hn : C 83 45 = n) (hn6 : n ≤ 6) (hX : X < 256) (hD : mSub D X) (hf : ∀ k, D.testBit k = true → f k < n) (hpt : PtM C κ b X n) (hgv : ∀ h, h < n → C 97 h = prt f D h)
    (hk : ∀ C' v, Fp (fun a _ => a = 96) C C' → v ≤ 1000001 → (v < 1000001 → ∃ a, Vd (okX κ b X) (fun h => h < n) X a ∧ (∀ k, D.testBit k = true → a k = f k) ∧ wt (mdK κ b) X a = v) → (∀ a, Vd (okX κ b X) (fun h => h < n) X a → (∀ k, D.testBit k = true → a k = f k) → v ≤ wt (mdK κ b) X a) → Q v S C') : K_X11_leastOf_0 (d + 1) 0 0 ((mDiff X D : Nat) : Int) S C Q := by
  have hD2 : D < 256 := Nat.lt_of_le_of_lt (mSub_le hD) hX
  refine s_leastOf (κ := κ) (b := b) (X := X) (gv := prt f D) F hn hn6 hX (mSub_diff X D) hpt (fun h hh => ⟨hgv h hh, prt_lt _ _ _, ?_⟩) (fun C' v f1 l1 => hk C' v f1 l1.1 (fun z => ?_) (fun a va ag => ?_))
  · refine Nat.eq_of_testBit_eq fun k => ?_
    rw [Nat.testBit_and, Nat.zero_testBit, prt_bit hD2, mDiff_bit]
    cases D.testBit k <;> simp
  · obtain ⟨a, va, e⟩ := l1.2.1 z
    rw [off_all hD2 hf] at e
    refine ⟨mrg f D a, (Vd_mrg hX hD hf).mp va, fun k hk => ?_, ?_⟩
    · unfold mrg; rw [if_pos hk]
    · rw [wt_mrg hD]; exact e
  · have hm : ∀ k, mrg f D a k = a k := fun k => by
      unfold mrg
      by_cases z : D.testBit k = true
      · rw [if_pos z, ag k z]
      · rw [if_neg z]
    have hm2 : mrg f D a = a := funext hm
    have h1 : Vd (okG κ b X (prt f D)) (fun h => h < n) (mDiff X D) a := (Vd_mrg hX hD hf).mpr (by rw [hm2]; exact va)
    have h2 := l1.2.2 a h1
    rw [off_all hD2 hf, ← wt_mrg hD, hm2] at h2
    exact h2
theorem Vd_X {κ : Int → Int} {b X : Nat} {H : Nat → Prop} {a : Nat → Nat} (hX : X < 256) : Vd (okX κ b X) H X a ↔ Vd (okK κ b) H X a :=
  ⟨fun v => ⟨v.1, fun j hj => (v.2 j hj).1⟩, fun v => ⟨v.1, fun j hj => ⟨v.2 j hj, prt_sub hX⟩⟩⟩
theorem wt_lt {κ : Int → Int} {b X : Nat} {a : Nat → Nat} : 0 ≤ wt (mdK κ b) X a ∧ wt (mdK κ b) X a < 1000001 := by
  have := sm_bd (f := fun k => mdK κ b (a k) k) (X := X) (b := 99) (by decide) (fun k _ => mdK_bd κ b _ k)
  have e : wt (mdK κ b) X a = sm (fun k => mdK κ b (a k) k) X := rfl
  omega
theorem prt_pow {h k j : Nat} (hk : k < 8) : prt (fun _ => h) (2 ^ k) j = if j = h then 2 ^ k else 0 := Nat.eq_of_testBit_eq fun i => by
  rw [prt_bit (Nat.pow_lt_pow_right (by decide) hk : 2 ^ k < 2 ^ 8)]
  by_cases e : j = h
  · rw [if_pos e]; simp [e]
  · have : ¬ h = j := fun q => e q.symm
    rw [if_neg e, Nat.zero_testBit]; simp [this]
theorem s_mightM {d b n key : Nat} {S : MS} {C : MC} {Q : Qt} (F : Fix S) (hA : AskMod) (hK : KOk (C 83)) (hn : C 83 45 = n) (hb : b < 16) (hk8 : key < 8)
    (hk : ∀ (m : Nat) C', Fp mpx C C' → m < 64 → (∀ j, m.testBit j = true ↔ j < n ∧ mgt (okK (C 83) b) n (mxK (C 83) b) key j) → Q m S C') : K_X11_might_0 (d + 102) 0 0 b key S C Q := by
  have hn6 : n ≤ 6 := by have := hK.1; omega
  obtain ⟨m1, m2⟩ := mxK_ok hK hb
  generalize hκ : C 83 = κ at hK hn hk m1 m2
  generalize hXX : mxK κ b = X at m1 m2 hk
  refine b_X11_might_0 F (s_isBeatM F fun r hr => ⟨rfl, fun z => by omega, fun _ => s_isKeyM F fun r2 hr2 => ⟨rfl, fun _ => s_musicAt F (by omega) ⟨rfl, ?_⟩, fun z => by omega⟩⟩)
  rw [hκ, m1]
  refine s_isIn F fun r3 hr3 => ⟨rfl, fun z => s_musicAt F (by omega) ⟨rfl, ?_⟩, fun z => ?_⟩
  · have hx : X.testBit key = true := (isin_iff m2 (by omega)).mp (by omega)
    rw [hκ, m1]
    refine s_laysParts (d := d) F hA (by rw [hκ]; exact hK) (by rw [hκ]; exact hn) hb m2 (fun C1 f1 p1 => ⟨rfl, ?_⟩)
    rw [hκ] at p1
    have f1' : Fp mpx C C1 := Fp_mono f1 (fun a k q => by unfold ptx asx at q; unfold mpx asx; omega)
    refine up_ind (α := Nat × MC) (P := fun i D => Fp mpx C D.2 ∧ PtM D.2 κ b X n ∧ D.1 < 2 ^ i ∧ ∀ j, D.1.testBit j = true ↔ j < i ∧ mgt (okK κ b) n X key j) (K := fun i D => K_X11_might_45 (d + 102) 0 0 b key (D.1 : Int) (i : Int) S D.2 Q) n ?_ ?_ 0 (by omega) (0, C1) ⟨f1', p1, (by show 0 < 2 ^ 0; decide), fun j => by simp⟩
    · intro D ⟨c1, c2, c3, c4⟩
      refine b_X11_might_45 F (s_many F ⟨rfl, fun _ => hk D.1 D.2 c1 (Nat.lt_of_lt_of_le c3 (Nat.pow_le_pow_right (n := 2) (by decide) hn6)) c4, fun y => ?_⟩)
      rw [c1 83 45 (by unfold mpx asx; omega), hκ] at y
      omega
    · intro i D hi ⟨c1, c2, c3, c4⟩ ih
      have hD64 : D.1 < 64 := Nat.lt_of_lt_of_le c3 (Nat.pow_le_pow_right (n := 2) (by decide) (show i ≤ 6 by omega))
      have hpk : 2 ^ key < 256 := Nat.pow_lt_pow_right (by decide) (show key < 8 by omega)
      have hpi : 2 ^ i < 64 := Nat.pow_lt_pow_right (by decide) (show i < 6 by omega)
      refine b_X11_might_45 F (s_many F ⟨rfl, fun y => ?_, fun _ => s_givesNothing F (fun C3 f3 g3 => ⟨rfl, by omega, s_musicAt F (by omega) ⟨rfl, ?_⟩⟩)⟩)
      · rw [c1 83 45 (by unfold mpx asx; omega), hκ] at y
        omega
      · have e83 : ∀ j, upC C3 97 i (iShl 1 (key : Int)) 83 j = κ j := fun j => by rw [upC_ne (by decide), f3 83 j (by omega), c1 83 j (by unfold mpx asx; omega), hκ]
        rw [e83, m1, iShl1 key (by omega), iDiff_nat (by omega) (by omega)]
        refine s_leastG (d := d + 100) (κ := κ) (b := b) (X := X) (D := 2 ^ key) (f := fun _ => i) F (by rw [← iShl1 key (by omega), e83]; exact hn) hn6 m2 (pow_sub hx) (fun _ _ => hi) (fun h P hh hP => by rw [upC_ne (by decide), f3 94 _ (by omega)]; exact c2 h P hh hP) (fun h hh => ?_) (fun C4 v f4 v1 v2 v3 => ⟨rfl, ?_⟩)
        · rw [prt_pow hk8, upC_get]
          by_cases e : h = i
          · subst e; rw [if_pos ⟨rfl, rfl⟩, if_pos rfl]
          · rw [if_neg (fun q => e (by omega)), if_neg e]; exact g3 h (by omega)
        · have hv : v < 1000001 ↔ mgt (okK κ b) n X key i := by
            constructor
            · intro y
              obtain ⟨a, va, ag, _⟩ := v2 y
              exact ⟨hx, a, (Vd_X m2).mp va, ag key (by rw [Nat.testBit_two_pow]; simp)⟩
            · rintro ⟨_, a, va, e⟩
              have h1 := v3 a ((Vd_X m2).mpr va) (fun j hj => by
                rw [Nat.testBit_two_pow] at hj
                simp at hj
                rw [← hj]; exact e)
              have := (wt_lt (κ := κ) (b := b) (X := X) (a := a)).2
              omega
          have f4' : Fp mpx C C4 := Fp_tr (Fp_tr (Fp_tr c1 (Fp_mono f3 (fun a k q => by unfold mpx; omega))) (Fp_up (by unfold mpx; omega) Fp_rf)) (Fp_mono f4 (fun a k q => by unfold mpx; omega))
          have p4 : PtM C4 κ b X n := fun h P hh hP => by rw [f4 94 _ (by omega), upC_ne (by decide), f3 94 _ (by omega)]; exact c2 h P hh hP
          rw [w32_succ (by omega)]
          refine ⟨fun y => ?_, fun y => ?_⟩
          · rw [iOr_zero (in32_nat (by omega))]
            refine ih (D.1, C4) ⟨f4', p4, Nat.lt_of_lt_of_le c3 (Nat.pow_le_pow_right (n := 2) (by decide) (by omega)), fun j => ?_⟩
            rw [c4 j]
            constructor
            · rintro ⟨y1, y2⟩; exact ⟨by omega, y2⟩
            · rintro ⟨y1, y2⟩
              by_cases e : j = i
              · subst e; have := hv.mpr y2; omega
              · exact ⟨by omega, y2⟩
          · rw [iShl1 i (by omega), iOr_nat (by omega) (by omega)]
            refine ih (D.1 ||| 2 ^ i, C4) ⟨f4', p4, Nat.or_lt_two_pow (Nat.lt_of_lt_of_le c3 (Nat.pow_le_pow_right (n := 2) (by decide) (by omega))) (Nat.pow_lt_pow_right (by decide) (by omega)), fun j => ?_⟩
            rw [Nat.testBit_or, Nat.testBit_two_pow, Bool.or_eq_true, c4 j]
            constructor
            · rintro (⟨y1, y2⟩ | y1)
              · exact ⟨by omega, y2⟩
              · simp at y1; subst y1; exact ⟨by omega, hv.mp (by omega)⟩
            · rintro ⟨y1, y2⟩
              by_cases e : j = i
              · subst e; simp
              · exact Or.inl ⟨by omega, y2⟩
  · have hx : X.testBit key = false := by
      cases hx : X.testBit key
      · rfl
      · have := (isin_iff m2 (show key < 9 by omega)).mpr hx; omega
    exact hk 0 C Fp_rf (by decide) (fun j => by
      rw [Nat.zero_testBit]
      constructor
      · intro q; cases q
      · rintro ⟨_, q, _⟩; rw [hx] at q; cases q)
theorem q_might {d : Nat} {l1 l2 : Int} {S : MS} {C : MC} {P : Int → Int → MS → MC → Prop} (hAC : AskCls) (hAM : AskMod) (I : Inv S C) (k : PS S P) : K_X10_might_0 (d + 105) 0 0 l1 l2 S C (fun r S2 C2 => Fix S2 ∧ S2.2.2.2.2 = S.2.2.2.2 ∧ K_X11_might_0 (d + 105) 0 0 l1 l2 S2 C2 (fun r2 Sq C3 => Sq = S2 ∧ P r r2 S2 C3)) := by
  have F := I.1
  obtain ⟨n, hn⟩ : ∃ n : Nat, C 83 45 = n := ⟨(C 83 45).toNat, by have := I.2.1.1.2.1; omega⟩
  have hK := KOk_of I.2.1
  have bad : ¬ ((0 ≤ l1 ∧ l1 < 16) ∧ 0 ≤ l2 ∧ l2 < 8) → Fix S ∧ S.2.2.2.2 = S.2.2.2.2 ∧ K_X11_might_0 (d + 105) 0 0 l1 l2 S C (fun r2 Sq C3 => Sq = S ∧ P (-1) r2 S C3) := fun hl => ⟨F, rfl, b_X11_might_0 F (s_isBeatM F fun r hr => ⟨rfl, fun _ => ⟨rfl, k _ _ _ I rfl⟩, fun z => s_isKeyM F fun r2 hr2 => ⟨rfl, fun z2 => by omega, fun _ => ⟨rfl, k _ _ _ I rfl⟩⟩⟩)⟩
  refine b_X10_might_0 F (s_isBeatC F fun r hr => ⟨rfl, fun z => bad (by omega), fun z => s_isKeyC F fun r2 hr2 => ⟨rfl, fun z2 => bad (by omega), fun z2 => ?_⟩⟩)
  obtain ⟨b, rfl⟩ : ∃ b : Nat, l1 = b := ⟨l1.toNat, by omega⟩
  obtain ⟨key, rfl⟩ : ∃ key : Nat, l2 = key := ⟨l2.toNat, by omega⟩
  refine s_whoCould (d := d + 85) F (SpC_of hAC isSt1 I.2.1 hn) (by omega) (by omega) (fun m S2 C2 h1 h2 h3 h4 => ⟨h1.1, h1.1, h1.2.2.2.2.1, ?_⟩)
  have e83 := pl83 h2
  refine s_mightM (d := d + 3) h1.1 hAM (by rw [e83]; exact hK) (by rw [e83]; exact hn) (by omega) (by omega) (fun m2 C3 f3 h5 h6 => ⟨rfl, ?_⟩)
  rw [e83] at h6
  have e : m = m2 := Nat.eq_of_testBit_eq fun j => by
    have q1 := h4 j
    have q2 := h6 j
    have q3 : m.testBit j = true ↔ m2.testBit j = true := q1.trans q2.symm
    cases hm : m.testBit j <;> cases hm2 : m2.testBit j <;> simp_all
  rw [e]
  exact k _ _ _ (Inv_pl I h1 h2 f3) h1.2.2.2.2.1
/-! the first of the ways in which least is minded -/
def Way (κ : Int → Int) (b n X : Nat) (u : Int) (f : Nat → Nat) : Prop := Vd (okK κ b) (fun h => h < n) X f ∧ wt (mdK κ b) X f = u ∧ ∀ a, Vd (okK κ b) (fun h => h < n) X a → wt (mdK κ b) X a = u → ∀ k, X.testBit k = true → (∀ j, j < k → X.testBit j = true → a j = f j) → f k ≤ a k
theorem way_eq {κ : Int → Int} {b n X : Nat} {v u : Int} {a f : Nat → Nat} (hn : n ≤ 6) (hX : X < 256) (hv : Lst (okK κ b) (wC (mdK κ b)) NV 0 (fun h => h < n) X v) (va : Vd (okK κ b) (fun h => h < n) X a) (ea : v = wt (mdK κ b) X a * 16777216 + wt rowW X a) (eu : wt (mdK κ b) X a = u) (hf : Way κ b n X u f) : ∀ k, X.testBit k = true → a k = f k := by
  obtain ⟨f1, f2, f3⟩ := hf
  have h8 : ∀ g, Vd (okK κ b) (fun h => h < n) X g → ∀ k, k < 8 → X.testBit k = true → g k < 8 := fun g vg k _ hx => by
    have : g k < n := vg.1 k hx
    omega
  have step : ∀ m k, k ≤ m → X.testBit k = true → a k = f k := by
    intro m
    induction m with
    | zero =>
      intro k hk hx
      have : k = 0 := by omega
      subst this
      have h1 := f3 a va eu 0 hx (fun j hj => absurd hj (Nat.not_lt_zero j))
      rcases Nat.lt_or_ge (f 0) (a 0) with z | z
      · have h2 := row_less (h8 f f1) (h8 a va) (bit_lt8 hX hx) hx (fun j hj => absurd hj (Nat.not_lt_zero j)) z
        have h3 := hv.2.2 f f1
        rw [wt_wC, f2] at h3
        omega
      · omega
    | succ m ih =>
      intro k hk hx
      have h1 := f3 a va eu k hx (fun j hj hxj => ih j (by omega) hxj)
      rcases Nat.lt_or_ge (f k) (a k) with z | z
      · have h2 := row_less (h8 f f1) (h8 a va) (bit_lt8 hX hx) hx (fun j hj hxj => (ih j (by omega) hxj).symm) z
        have h3 := hv.2.2 f f1
        rw [wt_wC, f2] at h3
        omega
      · omega
  exact fun k hx => step k k (Nat.le_refl k) hx
theorem s_player {d k X : Nat} {S : MS} {C : MC} {v : Int} {a : Nat → Nat} {md : Nat → Nat → Int} {Q : Qt} (F : Fix S) (hk : k < 8) (hX : X < 256) (h9 : C 44 9 = X) (h49 : C 49 X = v) (ha : ∀ k, k < 8 → X.testBit k = true → a k < 8) (hv : v = wt md X a * 16777216 + wt rowW X a) (hb : 0 ≤ wt md X a ∧ wt md X a ≤ 792) (h : Q (if X.testBit k then (a k : Int) else -1) S C) : K_X3_player_0 (d + 1) 0 0 k S C Q := by
  refine b_X3_player_0 F ?_
  rw [h9]
  refine ⟨fun z => ⟨by omega, s_rowPlace F hk ⟨rfl, ?_⟩⟩, fun z => ?_⟩
  · have hx : X.testBit k = true := by
      cases hx : X.testBit k
      · exact absurd ((isin_iff0 hX (by omega)).mpr hx) z
      · rfl
    rw [if_pos hx] at h
    have hr := row_bd ha
    have hdg := row_digit ha hk hx
    obtain ⟨m, hm⟩ : ∃ m : Nat, v = m := ⟨v.toNat, by omega⟩
    rw [h49, hm, show 3 * (7 - (k : Int)) = ((3 * (7 - k) : Nat) : Int) by omega, lShr_nat (by omega) (by omega), and7, Nat.shiftRight_eq_div_pow]
    have e : ((m / 2 ^ (3 * (7 - k)) % 8 : Nat) : Int) = a k := by
      rw [← hdg]
      rw [hm] at hv
      rcases (by omega : k = 0 ∨ k = 1 ∨ k = 2 ∨ k = 3 ∨ k = 4 ∨ k = 5 ∨ k = 6 ∨ k = 7) with z | z | z | z | z | z | z | z <;> subst z
      · show ((m / 2097152 % 8 : Nat) : Int) = wt rowW X a / 2097152 % 8; omega
      · show ((m / 262144 % 8 : Nat) : Int) = wt rowW X a / 262144 % 8; omega
      · show ((m / 32768 % 8 : Nat) : Int) = wt rowW X a / 32768 % 8; omega
      · show ((m / 4096 % 8 : Nat) : Int) = wt rowW X a / 4096 % 8; omega
      · show ((m / 512 % 8 : Nat) : Int) = wt rowW X a / 512 % 8; omega
      · show ((m / 64 % 8 : Nat) : Int) = wt rowW X a / 64 % 8; omega
      · show ((m / 8 % 8 : Nat) : Int) = wt rowW X a / 8 % 8; omega
      · show ((m / 1 % 8 : Nat) : Int) = wt rowW X a / 1 % 8; omega
    rw [e]
    exact h
  · rw [isin_iff0 hX (by omega)] at z
    rw [z] at h
    simpa using h
