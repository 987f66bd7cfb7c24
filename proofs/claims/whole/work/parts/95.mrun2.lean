/-! 95.mrun2: the reference runs one order -/
def mrn (a k : Int) : Prop := a = 104 ∨ (a = 81 ∧ (k = 42 ∨ (22 ≤ k ∧ k ≤ 25) ∨ (27 ≤ k ∧ k ≤ 29) ∨ (44 ≤ k ∧ k ≤ 48))) ∨ (a = 83 ∧ 0 ≤ k ∧ k < 25) ∨ a = 106 ∨ a = 93 ∨ (94 ≤ a ∧ a ≤ 100)
def gox (a k : Int) : Prop := mgy a k ∨ mpx a k
theorem gox_mrn {C C' : MC} (f : Fp gox C C') : Fp mrn C C' := Fp_mono f (fun a k q => by unfold gox mgy mpx asx at q; unfold mrn; omega)
theorem mkF_mrn {C C' : MC} (f : Fp mkF C C') : Fp mrn C C' := Fp_mono f (fun a k q => by unfold mkF at q; unfold mrn; omega)
def MRun (C0 : MC) (nn n0 : Nat) (x : RX) (C : MC) : Prop := Fp mrn C0 C ∧ HsM C (fun j => x.2.2.1 j.toNat) x.1 x.2.1 ∧ C 81 27 = ((x.1 - n0 : Nat) : Int) ∧ C 81 28 = x.2.2.2 ∧ n0 ≤ x.1 ∧ UOk nn (x.2.1 x.1) ∧ Bd x.2.2.2
def MEnv (C0 : MC) (κ : Int → Int) (nn : Nat) (τ : Tks) : Prop := KOk κ ∧ κ 45 = nn ∧ (∀ i, ktI i → 25 ≤ i → C0 83 i = κ i) ∧ τ.length ≤ 400 ∧ ∀ j : Nat, j < τ.length → C0 83 (2456 + (j : Int)) = tc τ j ∧ C0 83 (5256 + (j : Int)) = tv τ j
theorem KOk_run {κ w κ' : Int → Int} {nn : Nat} (hK : KOk κ) (hnn : κ 45 = nn) (hw : UOk nn w) (hk : ∀ i, ktI i → κ' i = kpW κ w i) : KOk κ' := by
  obtain ⟨k1, k2, k3, k4, k5, k6, k7, k8, k9⟩ := hK
  have hi : ∀ i, ktI i → 25 ≤ i → κ' i = κ i := fun i h1 h2 => by rw [hk i h1, ktI_kp (Or.inr h2)]
  have lo : ∀ i, 0 ≤ i → i < 25 → κ' i = w i := fun i h1 h2 => by rw [hk i (by unfold ktI; omega), kp_lo ⟨h1, h2⟩]
  have e45 := hi 45 (by unfold ktI; omega) (by decide)
  have e47 := hi 47 (by unfold ktI; omega) (by decide)
  have e48 := hi 48 (by unfold ktI; omega) (by decide)
  refine ⟨by rw [e45]; exact k1, fun j x0 x1 => ?_, fun k x0 x1 => ?_, fun b x0 x1 => ?_, ?_, by rw [hi 44 (by unfold ktI; omega) (by decide)]; exact k6, by rw [e47]; exact k7, by rw [e47, e48]; exact k8, fun t x0 x1 => ?_⟩
  · rw [e45] at x1
    rw [hi (25 + j) (by unfold ktI; omega) (by omega), hi (31 + j) (by unfold ktI; omega) (by omega)]
    exact k2 j x0 x1
  · rw [e45, hnn, lo k x0 (by omega)]
    exact hw.1 k x0 x1
  · rw [lo (8 + b) (by omega) (by omega)]
    exact hw.2.1 (8 + b) (by omega) (by omega)
  · rw [lo 24 (by decide) (by decide)]
    exact hw.2.2
  · rw [e47] at x1
    obtain ⟨y1, y2⟩ := k9 t x0 x1
    rw [hi (49 + t) (by unfold ktI; omega) (by omega), toks_cong y1.2 (by omega) (fun j hj => hi j (by unfold lwI at hj; unfold ktI; omega) (by unfold lwI at hj; omega))]
    exact ⟨y1, y2⟩
theorem wdO_cong {w w' : Int → Int} {dn lt dv : Int} (h : ∀ i, 0 ≤ i → i < 25 → w i = w' i) : wdO w dn lt dv = wdO w' dn lt dv := by
  funext i
  unfold wdO
  rw [h 24 (by decide) (by decide), ntn_cong (r := fun b => w (8 + b)) (r' := fun b => w' (8 + b)) (fun k k0 k1 => h (8 + k) (by omega) (by omega)) 16 (Nat.le_refl _)]
  by_cases q5 : 5 ≤ i ∧ i < 21
  · rw [if_pos q5, if_pos q5, h (8 + (i - 5)) (by omega) (by omega)]
  · rw [if_neg q5, if_neg q5]
    by_cases q6 : 21 ≤ i ∧ i < 29
    · rw [if_pos q6, if_pos q6, h (i - 21) (by omega) (by omega)]
    · rw [if_neg q6, if_neg q6]
theorem ord_w {C : MC} {w : Int → Int} {dn lt dv : Int} (h : ∀ i, 0 ≤ i → i < 25 → C 83 i = w i) (h1 : C 81 27 = dn) (h2 : C 81 28 = lt) (h3 : C 81 29 = dv) (hb : ∀ b, 8 ≤ b → b < 24 → 0 ≤ w b ∧ w b ≤ 255) : OrdW C (wdO w dn lt dv) := by
  refine ⟨fun k k0 k1 => ?_, fun b b0 b1 => ?_, ?_, ?_, ?_, ?_, ?_, fun k k0 k1 => ?_⟩
  · clear h1 h2 h3
    unfold wdO
    rw [if_neg (by omega), if_neg (by omega), if_neg (by omega), if_neg (by omega), if_neg (by omega), if_neg (by omega), if_pos (by omega), h k k0 (by omega)]
    congr 1
    omega
  · clear h1 h2 h3
    unfold wdO
    rw [if_neg (by omega), if_neg (by omega), if_neg (by omega), if_neg (by omega), if_neg (by omega), if_pos (by omega), h (8 + b) (by omega) (by omega)]
    congr 1
    omega
  · rw [h 24 (by decide) (by decide)]; rfl
  · rw [h1]; rfl
  · rw [h2]; rfl
  · rw [h3]; rfl
  · show ntn (fun b => w (8 + b)) 16 = _
    exact ntn_cong (fun k k0 k1 => (h (8 + k) (by clear h1 h2 h3; omega) (by clear h1 h2 h3; omega)).symm) 16 (Nat.le_refl _)
  · rw [h (8 + k) (by clear h1 h2 h3; omega) (by clear h1 h2 h3; omega)]
    exact hb (8 + k) (by clear h1 h2 h3; omega) (by clear h1 h2 h3; omega)
/-- going along, with a drill of s1 -/
theorem m_go {d nn n0 : Nat} {τ : Tks} {lv s1 : Int} {κ : Int → Int} {p l c0 : Nat} {cl : Cla} {q l' : Nat} {cd : List Int} {x : RX} {S : MS} {C0 C : MC} {Q : Qt} (F : Fix S) (ME : MEnv C0 κ nn τ) (mr : MRun C0 nn n0 x C) (hx : x.1 ≤ 256) (h44 : C 81 44 = 2400 + (p : Int)) (hlv : lv = 0 ∨ lv = 1) (hl : l ≤ 50) (e : orderP τ p l c0 = .inr (cl, q, l', cd)) (bs : Bd s1) (hk : ∀ C', Fp mgy C C' → C' 81 23 = 2400 + (τ.length : Int) → GoR 2400 lv q (tc τ p) cl (wdO (x.2.1 x.1) ((x.1 - n0 : Nat) : Int) x.2.2.2 s1) C' → Q 0 S C') : K_X11_goesAlong_23 (d + 52) 0 0 (2400 + (τ.length : Int)) lv s1 S C Q := by
  obtain ⟨m1, m2, m3, m4, m5, m6, m7⟩ := mr
  obtain ⟨e1, e2, e3, e4, e5⟩ := ME
  have hnn6 : (nn : Int) ≤ 6 := by have := e1.1.2; rw [e2] at this; exact this
  have bdn : Bd (((x.1 - n0 : Nat) : Int)) := by unfold Bd; clear h44 m3 m4; omega
  have tk : ∀ j : Nat, j < τ.length → C 83 (2456 + (j : Int)) = tc τ j ∧ C 83 (5256 + (j : Int)) = tv τ j := fun j hj => by
    rw [m1 83 _ (by unfold mrn; clear h44 m3 m4; omega), m1 83 _ (by unfold mrn; clear h44 m3 m4; omega)]
    exact e5 j hj
  refine m_goes23 (d := d) (base := 2400) (w := wdO (x.2.1 x.1) ((x.1 - n0 : Nat) : Int) x.2.2.2 s1) F ?_ h44 hlv hl e (fun C' f' g23 g' => hk C' f' g23 g')
  · refine ⟨by decide, e4, ?_, ?_, fun j hj => ?_, fun z => (by cases z), fun _ => ?_, wdO_bd hnn6 m6 bdn m7 bs⟩
    · rw [upC_sK (by decide), upC_at]
    · rw [upC_sK (by decide), upC_sK (by decide), upC_at]; rfl
    · rw [upC_ne (by decide), upC_ne (by decide), upC_ne (by decide), upC_ne (by decide)]
      exact tk j hj
    · refine ord_w (fun i i0 i1 => ?_) ?_ ?_ ?_ m6.2.1
      · rw [upC_ne (by decide), upC_ne (by decide), upC_ne (by decide), upC_ne (by decide)]
        exact m2.1 i i0 i1
      · rw [upC_sK (by decide), upC_sK (by decide), upC_sK (by decide), upC_sK (by decide)]; exact m3
      · rw [upC_sK (by decide), upC_sK (by decide), upC_sK (by decide), upC_sK (by decide)]; exact m4
      · rw [upC_sK (by decide), upC_sK (by decide), upC_sK (by decide), upC_at]
/-- the reference does what an order says -/
theorem m_obeys {d nn n : Nat} {f g kind hd : Int} {W : Nat → Int → Int} {S : MS} {C : MC} {Q : Qt} (F : Fix S) (hK : 0 ≤ C 83 45 ∧ C 83 45 ≤ 6) (h45 : C 83 45 = nn) (hw : UOk nn (W n)) (hW : ∀ i, 0 ≤ i → i < 25 → C 83 i = W n i) (hu : 0 ≤ C 81 42 ∧ C 81 42 ≤ 16) (hhd : (hd = 21 ∧ kind = 0) ∨ (hd = 23 ∧ kind = 1) ∨ (hd = 25 ∧ kind = 2) ∨ (hd = 26 ∧ kind = 3)) (h46 : C 81 46 = hd) (hf : kind ≠ 3 → C 106 0 = f) (hg : kind = 0 ∨ kind = 1 → C 106 1 = g)
    (h : ∀ t C1, Tld nn kind f g (W n) t → (t < 0 → Fp mrn C C1 → Q t S C1) ∧ (0 ≤ t → MkM C C1 kind (chW kind f g (W n)) → Q t S (if kind = 2 then upC C1 81 28 t else C1))) : K_X11_obeys_0 (d + 5) 0 0 S C Q := by
  have small : ∀ (v : Int) (C1 : MC) (Q2 : Qt), Q2 (smV v) S C1 → K_X11_small_0 (d + 4) 0 0 v S C1 Q2 := by
    intro v C1 Q2 h2
    unfold smV at h2
    refine b_X11_small_0 F ?_
    rw [lCmp_lt, lC_le]
    refine ⟨fun z => ?_, fun z => ⟨fun z2 => ?_, fun z2 => ?_⟩⟩
    · rw [if_pos (Or.inl z)] at h2; exact h2
    · rw [if_neg (by clear h45 h46 hf hg; omega)] at h2
      rw [w32_lit (by clear h45 h46 hf hg; omega)]; exact h2
    · rw [if_pos (Or.inr (Int.not_le.mp z2))] at h2; exact h2
  have hnn6 : (nn : Int) ≤ 6 := by rw [← h45]; exact hK.2
  have uC : UOk (C 83 45) (C 83) := by rw [h45]; exact UOk_cong hw hW
  -- what a change by the reference comes to
  have fin : ∀ (f' g' t : Int) (C1 : MC) (Q2 : Qt), (f' = f ∨ farI f ∧ farI f') → (g' = g ∨ farI g ∧ farI g') → Tld (C 83 45) kind f' g' (C 83) t → (0 ≤ t → MkM C C1 kind (chW kind f' g' (C 83))) → (t < 0 → C1 = C) → ((t < 0 → Fp mrn C C1 → Q t S C1) ∧ (0 ≤ t → MkM C C1 kind (chW kind f g (W n)) → Q t S (if kind = 2 then upC C1 81 28 t else C1)) → Q2 t S C1) → Q2 t S C1 := by
    intro f' g' t C1 Q2 q1 q2 hT m1 m2 hq
    have hT1 : Tld nn kind f' g' (W n) t := by
      rw [h45] at hT
      exact Tld_cong hT hW
    obtain ⟨hT2, _⟩ := Tld_far hnn6 q1 q2 hT1
    exact hq (h t C1 hT2)
  have mkc : ∀ (f' g' t : Int) (C1 : MC), (f' = f ∨ farI f ∧ farI f') → (g' = g ∨ farI g ∧ farI g') → Tld (C 83 45) kind f' g' (C 83) t → 0 ≤ t → MkM C C1 kind (chW kind f' g' (C 83)) → MkM C C1 kind (chW kind f g (W n)) := by
    intro f' g' t C1 q1 q2 hT ht m
    have hT1 : Tld nn kind f' g' (W n) t := by
      rw [h45] at hT
      exact Tld_cong hT hW
    have hch := (Tld_far hnn6 q1 q2 hT1).2 ht hw
    refine ⟨m.1, fun i i0 i1 => ?_, m.2.2⟩
    rw [m.2.1 i i0 i1, ← hch]
    refine chW_cong (fun hk0 => ?_) hW i i0 i1
    rcases hT1 with ⟨_, y⟩ | ⟨y0, _⟩ | ⟨y0, _⟩ | ⟨y0, _⟩
    · rcases y with y | y
      · exact y.1.2
      · clear h45 h46 hf hg; omega
    · rw [hk0] at y0; cases y0
    · rw [hk0] at y0; cases y0
    · rw [hk0] at y0; cases y0
  refine b_X11_obeys_0 (d := d + 4) F (small _ _ _ ⟨rfl, ?_⟩)
  rw [h46]
  have n25 : kind ≠ 2 → ∀ t (C1 : MC), (if kind = 2 then upC C1 81 28 t else C1) = C1 := fun hk t C1 => if_neg hk
  rcases hhd with ⟨rfl, rfl⟩ | ⟨rfl, rfl⟩ | ⟨rfl, rfl⟩ | ⟨rfl, rfl⟩
  · have hf0 := hf (by decide)
    have hg0 := hg (Or.inl rfl)
    refine ⟨fun _ => small _ _ _ ⟨rfl, ?_⟩, fun z => absurd z (by decide), fun z => absurd z (by decide), fun z => absurd z (by decide), fun z => absurd z (by decide)⟩
    rw [hf0, hg0]
    refine s_notesKept (d := d + 2) F uC hu (fun t C1 hT m1 m2 => ⟨rfl, ?_⟩)
    obtain ⟨a1, a2⟩ := h t C1 ((Tld_far hnn6 smV_far smV_far (Tld_cong (by rw [h45] at hT; exact hT) hW)).1)
    by_cases ht : 0 ≤ t
    · have := a2 ht (mkc _ _ t C1 smV_far smV_far hT ht (m1 ht))
      rwa [n25 (by decide)] at this
    · exact a1 (Int.not_le.mp ht) (by rw [m2 (Int.not_le.mp ht)]; exact Fp_rf)
  · have hf0 := hf (by decide)
    have hg0 := hg (Or.inr rfl)
    refine ⟨fun z => absurd z (by decide), fun _ => small _ _ _ ⟨rfl, ?_⟩, fun z => absurd z (by decide), fun z => absurd z (by decide), fun z => absurd z (by decide)⟩
    rw [hf0, hg0]
    refine s_givesKept (d := d + 2) F hK uC hu (fun t C1 hT m1 m2 => ⟨rfl, ?_⟩)
    obtain ⟨a1, a2⟩ := h t C1 ((Tld_far hnn6 smV_far smV_far (Tld_cong (by rw [h45] at hT; exact hT) hW)).1)
    by_cases ht : 0 ≤ t
    · have := a2 ht (mkc _ _ t C1 smV_far smV_far hT ht (m1 ht))
      rwa [n25 (by decide)] at this
    · exact a1 (Int.not_le.mp ht) (by rw [m2 (Int.not_le.mp ht)]; exact Fp_rf)
  · have hf0 := hf (by decide)
    refine ⟨fun z => absurd z (by decide), fun z => absurd z (by decide), fun z => absurd z (by decide), fun _ => ?_, fun z => absurd z (by decide)⟩
    rw [hf0]
    refine s_shiftsKept (d := d) (g := g) F uC hu (fun t C1 hT m1 m2 => ⟨rfl, ?_⟩)
    obtain ⟨a1, a2⟩ := h t C1 ((Tld_far hnn6 smV_far (Or.inl rfl) (Tld_cong (by rw [h45] at hT; exact hT) hW)).1)
    refine ⟨fun ht => ?_, fun ht => ?_⟩
    · have := a2 ht (mkc _ _ t C1 smV_far (Or.inl rfl) hT ht (m1 ht))
      rwa [if_pos rfl] at this
    · have e1 := m2 (Int.not_le.mp ht)
      have := (h t (upC C1 81 28 (C1 81 28)) ((Tld_far hnn6 smV_far (Or.inl rfl) (Tld_cong (by rw [h45] at hT; exact hT) hW)).1)).1 (Int.not_le.mp ht) (by rw [e1]; exact Fp_up (by unfold mrn; omega) Fp_rf)
      exact this
  · refine ⟨fun z => absurd z (by decide), fun z => absurd z (by decide), fun z => absurd z (by decide), fun z => absurd z (by decide), fun _ => ?_⟩
    refine s_passesKept (d := d + 2) (f := f) (g := g) F uC hu (fun t C1 hT m1 m2 => ⟨rfl, ?_⟩)
    obtain ⟨a1, a2⟩ := h t C1 ((Tld_far hnn6 (Or.inl rfl) (Or.inl rfl) (Tld_cong (by rw [h45] at hT; exact hT) hW)).1)
    by_cases ht : 0 ≤ t
    · have := a2 ht (mkc _ _ t C1 (Or.inl rfl) (Or.inl rfl) hT ht (m1 ht))
      rwa [n25 (by decide)] at this
    · exact a1 (Int.not_le.mp ht) (by rw [m2 (Int.not_le.mp ht)]; exact Fp_rf)
