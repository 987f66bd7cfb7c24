/-! 39.hist: what can be undone, in the reference; note, give, shift, pass, undo -/
theorem Tld_cong {m kind f g t : Int} {w w' : Int → Int} (h : Tld m kind f g w t) (hw : ∀ i, 0 ≤ i → i < 25 → w i = w' i) : Tld m kind f g w' t := by
  have hc : canSh w f ↔ canSh w' f := by
    constructor
    · intro q b x0 x1; rw [← hw _ (by omega) (by omega)]; exact q b x0 x1
    · intro q b x0 x1; rw [hw _ (by omega) (by omega)]; exact q b x0 x1
  have hn : ntn (fun b => shN (w (8 + b)) f) 16 = ntn (fun b => shN (w' (8 + b)) f) 16 := ntn_cong (fun b x0 x1 => by rw [hw _ (by omega) (by omega)]) 16 (Nat.le_refl _)
  unfold Tld at h ⊢
  rcases h with ⟨k, h⟩ | ⟨k, h⟩ | ⟨k, h⟩ | ⟨k, h⟩
  · refine Or.inl ⟨k, ?_⟩
    rcases h with ⟨a, h⟩ | h
    · rw [hw _ (by omega) (by omega)] at h; exact Or.inl ⟨a, h⟩
    · exact Or.inr h
  · refine Or.inr (Or.inl ⟨k, ?_⟩)
    rcases h with ⟨a, h⟩ | h
    · rw [hw f a.1 (by omega)] at h; exact Or.inl ⟨a, h⟩
    · exact Or.inr h
  · refine Or.inr (Or.inr (Or.inl ⟨k, ?_⟩))
    rw [hc, hn] at h; exact h
  · refine Or.inr (Or.inr (Or.inr ⟨k, ?_⟩))
    rw [hw 24 (by omega) (by omega)] at h; exact h
theorem chW_cong {kind f g : Int} {w w' : Int → Int} (hk : kind = 0 → 0 ≤ g ∧ g < 16) (hw : ∀ i, 0 ≤ i → i < 25 → w i = w' i) : ∀ i, 0 ≤ i → i < 25 → chW kind f g w i = chW kind f g w' i := by
  intro i x0 x1
  unfold chW
  split
  · rename_i k
    have := hk k
    unfold updF
    rw [hw (8 + g) (by omega) (by omega), hw i x0 x1]
  · split
    · unfold updF; rw [hw i x0 x1]
    · split
      · unfold shW; rw [hw i x0 x1]
      · unfold updF; rw [hw i x0 x1, hw 24 (by omega) (by omega)]
theorem Tld_neg {m kind f g t : Int} {w : Int → Int} (hw : UOk m w) (h : Tld m kind f g w t) (ht : t < 0) : okR t := by
  unfold okR
  rcases h with ⟨k, h⟩ | ⟨k, h⟩ | ⟨k, h⟩ | ⟨k, h⟩
  · rcases h with ⟨a, h⟩ | h
    · have := (xor_ok (hw.2.1 (8 + g) (by omega) (by omega)) a.1).1.1; omega
    · omega
  · rcases h with ⟨a, h⟩ | h
    · have := hw.1 f a.1 a.2; omega
    · omega
  · rcases h with ⟨a, ⟨b, h⟩ | h⟩ | h
    · have := (ntn_bd (fun b' x0 x1 => (shN_ok (hw.2.1 (8 + b') (by omega) (by omega)) ⟨a.1, a.2.1⟩ (b b' x0 x1)).1) 16 (Nat.le_refl _)).1
      omega
    · omega
    · omega
  · have := hw.2.2; omega
/-- one state more among those to be gone back to -/
def Push (C C' : MC) (kind : Int) : Prop := ∃ m s : Int, (C 81 42 < 16 ∧ m = C 81 42 ∧ s = 0 ∨ C 81 42 = 16 ∧ m = 15 ∧ s = 1) ∧ C' 81 42 = m + 1 ∧ (∀ i q, 0 ≤ i → i < m → 0 ≤ q → q < 26 → C' 104 (26 * i + q) = C 104 (26 * (i + s) + q)) ∧ (∀ q, 0 ≤ q → q < 25 → C' 104 (26 * m + q) = C 83 q) ∧ C' 104 (26 * m + 25) = kind
theorem s_keeps54 {d mc ms : Nat} {kind m : Int} {S : MS} {C : MC} {Q : Qt} (F : Fix S) (hm : C 81 42 = m) (hm2 : 0 ≤ m ∧ m < 16) (h : ∀ C', Fp (fun a k => (a = 104 ∧ 26 * m ≤ k) ∨ (a = 81 ∧ k = 42)) C C' → C' 81 42 = m + 1 → (∀ q, 0 ≤ q → q < 25 → C' 104 (26 * m + q) = C 83 q) → C' 104 (26 * m + 25) = kind → Q 0 S C') : K_X11_keeps_54 d mc ms kind 26 0 S C Q := by
  refine up_ind (α := MC) (P := fun k C' => Fp (fun a k => a = 104 ∧ 26 * m ≤ k) C C' ∧ ∀ q : Nat, q < k → C' 104 (26 * m + q) = C 83 q) (K := fun k C' => K_X11_keeps_54 d mc ms kind 26 (k : Int) S C' Q) 25 ?_ ?_ 0 (by omega) C ⟨Fp_rf, fun i hi => absurd hi (Nat.not_lt_zero i)⟩
  · intro C' ⟨c1, c2⟩
    have e : C' 81 42 = m := by rw [c1 81 42 (by omega)]; exact hm
    refine b_X11_keeps_54 F ?_
    rw [e, w32_lit (x := 26 * m) (by omega), w32_lit (x := 26 * m + 25) (by omega), w32_lit (x := m + 1) (by omega)]
    refine ⟨fun _ => ⟨by omega, h _ (Fp_up (by omega) (Fp_up (by omega) (Fp_mono c1 (by omega)))) (upC_at _ _ _ _) (fun q x0 x1 => ?_) ?_⟩, fun z => absurd (by decide) z⟩
    · rw [upC_ne (by decide), upC_sK (by omega)]
      have := c2 q.toNat (by omega)
      rwa [Int.toNat_of_nonneg x0] at this
    · rw [upC_ne (by decide), upC_at]
  · intro k C' hk ⟨c1, c2⟩ ih
    have e : C' 81 42 = m := by rw [c1 81 42 (by omega)]; exact hm
    refine b_X11_keeps_54 F ⟨fun z => by omega, fun _ => ?_⟩
    rw [e, w32_lit (x := 26 * m) (by omega), w32_lit (x := 26 * m + (k : Int)) (by omega), w32_succ (by omega), c1 83 k (by omega)]
    refine ⟨by omega, by omega, ih _ ⟨Fp_up (by omega) c1, fun q hq => ?_⟩⟩
    by_cases z : q = k
    · rw [z, upC_at]
    · rw [upC_sK (by omega)]; exact c2 q (by omega)
theorem s_keeps {d mc ms : Nat} {kind : Int} {S : MS} {C : MC} {Q : Qt} (F : Fix S) (hm : 0 ≤ C 81 42 ∧ C 81 42 ≤ 16) (h : ∀ C', Fp (fun a k => a = 104 ∨ (a = 81 ∧ k = 42)) C C' → Push C C' kind → Q 0 S C') : K_X11_keeps_0 d mc ms kind S C Q := by
  refine b_X11_keeps_0 F ⟨fun z => ?_, fun z => ?_⟩
  · refine s_keeps54 (m := C 81 42) F rfl (by omega) (fun C' f1 g1 g2 g3 => h C' (Fp_mono f1 (by omega)) ⟨C 81 42, 0, Or.inl ⟨by omega, rfl, rfl⟩, g1, fun i q x0 x1 y0 y1 => ?_, g2, g3⟩)
    rw [f1 104 _ (by omega), Int.add_zero]
  · refine up_ind (α := MC) (P := fun k C' => Fp (fun a _ => a = 104) C C' ∧ ∀ x : Int, 0 ≤ x → x < 416 → C' 104 x = if x < k then C 104 (x + 26) else C 104 x) (K := fun k C' => K_X11_keeps_14 d mc ms kind 26 (k : Int) S C' Q) 390 ?_ ?_ 0 (by omega) C ⟨Fp_rf, fun x x0 x1 => by rw [if_neg (by omega)]⟩
    · intro C1 ⟨c1, c2⟩
      have e : C1 81 42 = 16 := by rw [c1 81 42 (by decide)]; exact z
      refine b_X11_keeps_14 F ?_
      rw [e]
      refine ⟨fun _ => ?_, fun q => absurd (by decide) q⟩
      refine s_keeps54 (m := 15) F (upC_at _ _ _ _) (by omega) (fun C' f1 g1 g2 g3 => h C' (Fp_tr (Fp_up (by omega) (Fp_mono c1 (by omega))) (Fp_mono f1 (by omega))) ⟨15, 1, Or.inr ⟨z, rfl, rfl⟩, g1, fun i q x0 x1 y0 y1 => ?_, fun q x0 x1 => ?_, g3⟩)
      · rw [f1 104 _ (by omega), upC_ne (by decide), c2 _ (by omega) (by omega), if_pos (by omega)]
        congr 1
        omega
      · rw [g2 q x0 x1, upC_ne (by decide), c1 83 q (by omega)]
    · intro k C1 hk ⟨c1, c2⟩ ih
      refine b_X11_keeps_14 F ?_
      rw [w32_lit (x := 15 * 26) (by omega), w32_lit (x := (k : Int) + 26) (by omega), w32_succ (by omega)]
      refine ⟨fun q => by omega, fun _ => ⟨by omega, by omega, ih _ ⟨Fp_up rfl c1, fun x x0 x1 => ?_⟩⟩⟩
      have e := c2 ((k : Int) + 26) (by omega) (by omega)
      rw [if_neg (by omega)] at e
      by_cases q : x = k
      · rw [q, upC_at, e, if_pos (by omega)]
      · rw [upC_sK q, c2 x x0 x1]
        by_cases q2 : x < k
        · rw [if_pos q2, if_pos (by omega)]
        · rw [if_neg q2, if_neg (by omega)]
def mkF (a k : Int) : Prop := a = 104 ∨ (a = 81 ∧ k = 42) ∨ (a = 83 ∧ 0 ≤ k ∧ k < 25)
def MkM (C C' : MC) (kind : Int) (w' : Int → Int) : Prop := Fp mkF C C' ∧ (∀ i, 0 ≤ i → i < 25 → C' 83 i = w' i) ∧ Push C C' kind
theorem Push_83 {C C1 : MC} {kind k v : Int} (h : Push C C1 kind) : Push C (upC C1 83 k v) kind := by
  obtain ⟨m, s, a, b, c, e, f⟩ := h
  exact ⟨m, s, a, by rw [upC_ne (by decide)]; exact b, fun i q x0 x1 y0 y1 => by rw [upC_ne (by decide)]; exact c i q x0 x1 y0 y1, fun q x0 x1 => by rw [upC_ne (by decide)]; exact e q x0 x1, by rw [upC_ne (by decide)]; exact f⟩
theorem Push_fp {C C1 C2 : MC} {kind : Int} (h : Push C C1 kind) (hf : Fp (fun a _ => a = 83) C1 C2) : Push C C2 kind := by
  obtain ⟨m, s, a, b, c, e, f⟩ := h
  exact ⟨m, s, a, by rw [hf 81 42 (by decide)]; exact b, fun i q x0 x1 y0 y1 => by rw [hf 104 _ (by omega)]; exact c i q x0 x1 y0 y1, fun q x0 x1 => by rw [hf 104 _ (by omega)]; exact e q x0 x1, by rw [hf 104 _ (by omega)]; exact f⟩
theorem s_notesKept {d : Nat} {f g : Int} {S : MS} {C : MC} {Q : Qt} (F : Fix S) (hw : UOk (C 83 45) (C 83)) (hu : 0 ≤ C 81 42 ∧ C 81 42 ≤ 16) (h : ∀ t C', Tld (C 83 45) 0 f g (C 83) t → (0 ≤ t → MkM C C' 0 (chW 0 f g (C 83))) → (t < 0 → C' = C) → Q t S C') : K_X11_notesKept_0 (d + 2) 0 0 f g S C Q := by
  have bad : ¬ ((0 ≤ f ∧ f < 8) ∧ 0 ≤ g ∧ g < 16) → Q (-1) S C := fun hb => h (-1) C (Or.inl ⟨rfl, Or.inr ⟨hb, rfl⟩⟩) (fun z => by omega) (fun _ => rfl)
  refine b_X11_notesKept_0 F (s_isKeyM F fun r hr => ⟨rfl, fun z => bad (by omega), fun z => s_isBeatM F fun r2 hr2 => ⟨rfl, fun z2 => ?_, fun z2 => bad (by omega)⟩⟩)
  refine s_keeps F hu (fun C1 f1 g1 => ⟨rfl, ?_⟩)
  rw [w32_lit (x := 8 + g) (by omega), f1 83 _ (by omega)]
  refine ⟨by omega, by omega, s_musicAt F (by omega) ⟨rfl, ?_⟩⟩
  rw [upC_at]
  have hT : Tld (C 83 45) 0 f g (C 83) (iXor (C 83 (8 + g)) (iShl 1 f)) := Or.inl ⟨rfl, Or.inl ⟨by omega, rfl⟩⟩
  have ht := (xor_ok (hw.2.1 (8 + g) (by omega) (by omega)) (k := f) (by omega)).1.1
  refine h _ _ hT (fun _ => ⟨Fp_up (by unfold mkF; omega) (Fp_mono f1 (fun a k h => by unfold mkF; omega)), fun i x0 x1 => ?_, Push_83 g1⟩) (fun z => by omega)
  show _ = updF (C 83) (8 + g) _ i
  rw [upC_get]
  by_cases e : i = 8 + g
  · rw [if_pos ⟨rfl, e⟩, e, updF_at]
  · rw [if_neg (fun z => e z.2), updF_ne e, f1 83 i (by omega)]
theorem s_givesKept {d : Nat} {f g : Int} {S : MS} {C : MC} {Q : Qt} (F : Fix S) (hm : 0 ≤ C 83 45 ∧ C 83 45 ≤ 6) (hw : UOk (C 83 45) (C 83)) (hu : 0 ≤ C 81 42 ∧ C 81 42 ≤ 16) (h : ∀ t C', Tld (C 83 45) 1 f g (C 83) t → (0 ≤ t → MkM C C' 1 (chW 1 f g (C 83))) → (t < 0 → C' = C) → Q t S C') : K_X11_givesKept_0 (d + 2) 0 0 f g S C Q := by
  have k25 : (0 ≤ f ∧ f < 8) → (g = -1 ∨ 0 ≤ g ∧ g < C 83 45) → K_X11_givesKept_25 (d + 2) 0 0 f g S C Q := by
    intro hf hg
    refine b_X11_givesKept_25 F ?_
    rw [w32_lit (x := 0 + f) (by omega), Int.zero_add]
    refine ⟨by omega, fun z => ?_, fun z => h (-3) C (Or.inr (Or.inl ⟨rfl, Or.inl ⟨hf, Or.inl ⟨hg, Or.inl ⟨by omega, rfl⟩⟩⟩⟩)) (fun z => by omega) (fun _ => rfl)⟩
    have w1 := hw.1 f hf.1 hf.2
    refine s_keeps F hu (fun C1 f1 g1 => ⟨rfl, by omega, ?_⟩)
    have mk : MkM C (upC C1 83 f g) 1 (chW 1 f g (C 83)) := by
      refine ⟨Fp_up (by unfold mkF; omega) (Fp_mono f1 (fun a k h => by unfold mkF; omega)), fun i x0 x1 => ?_, Push_83 g1⟩
      show _ = updF (C 83) f g i
      rw [upC_get]
      by_cases e : i = f
      · rw [if_pos ⟨rfl, e⟩, e, updF_at]
      · rw [if_neg (fun z => e z.2), updF_ne e, f1 83 i (by omega)]
    refine ⟨fun z2 => ?_, fun z2 => ?_⟩
    · have hT : Tld (C 83 45) 1 f g (C 83) (C 83 f) := Or.inr (Or.inl ⟨rfl, Or.inl ⟨hf, Or.inl ⟨hg, Or.inr ⟨by omega, Or.inr ⟨by omega, rfl⟩⟩⟩⟩⟩)
      exact h _ _ hT (fun ht => mk) (fun z => by omega)
    · have hT : Tld (C 83 45) 1 f g (C 83) 6 := Or.inr (Or.inl ⟨rfl, Or.inl ⟨hf, Or.inl ⟨hg, Or.inr ⟨by omega, Or.inl ⟨by omega, rfl⟩⟩⟩⟩⟩)
      exact h _ _ hT (fun ht => mk) (fun z => by omega)
  refine b_X11_givesKept_0 F (s_isKeyM F fun r hr => ⟨rfl, fun z => ⟨fun z2 => k25 (by omega) (by omega), fun z2 => s_isHouse F hm fun r2 hr2 => ⟨rfl, fun z3 => k25 (by omega) (by omega), fun z3 => h (-2) C (Or.inr (Or.inl ⟨rfl, Or.inl ⟨by omega, Or.inr ⟨by omega, rfl⟩⟩⟩)) (fun z => by omega) (fun _ => rfl)⟩⟩, fun z => h (-1) C (Or.inr (Or.inl ⟨rfl, Or.inr ⟨by omega, rfl⟩⟩)) (fun z => by omega) (fun _ => rfl)⟩)
theorem s_passesKept {d : Nat} {f g : Int} {S : MS} {C : MC} {Q : Qt} (F : Fix S) (hw : UOk (C 83 45) (C 83)) (hu : 0 ≤ C 81 42 ∧ C 81 42 ≤ 16) (h : ∀ t C', Tld (C 83 45) 3 f g (C 83) t → (0 ≤ t → MkM C C' 3 (chW 3 f g (C 83))) → (t < 0 → C' = C) → Q t S C') : K_X11_passesKept_0 (d + 2) 0 0 S C Q := by
  have hw3 := hw.2.2
  refine b_X11_passesKept_0 F ⟨fun z => ?_, fun z => h (-3) C (Or.inr (Or.inr (Or.inr ⟨rfl, Or.inr ⟨by omega, rfl⟩⟩))) (fun z => by omega) (fun _ => rfl)⟩
  refine s_keeps F hu (fun C1 f1 g1 => ⟨rfl, ?_⟩)
  rw [f1 83 24 (by omega), w32_lit (x := C 83 24 + 1) (by omega)]
  have hT : Tld (C 83 45) 3 f g (C 83) (C 83 24 + 1) := Or.inr (Or.inr (Or.inr ⟨rfl, Or.inl ⟨by omega, rfl⟩⟩))
  refine h _ _ hT (fun _ => ⟨Fp_up (by unfold mkF; omega) (Fp_mono f1 (fun a k h => by unfold mkF; omega)), fun i x0 x1 => ?_, Push_83 g1⟩) (fun z => by omega)
  show _ = updF (C 83) 24 (C 83 24 + 1) i
  rw [upC_get]
  by_cases e : i = 24
  · rw [if_pos ⟨rfl, e⟩, e, updF_at]
  · rw [if_neg (fun z => e z.2), updF_ne e, f1 83 i (by omega)]
theorem s_shiftsKept {d : Nat} {f g : Int} {S : MS} {C : MC} {Q : Qt} (F : Fix S) (hw : UOk (C 83 45) (C 83)) (hu : 0 ≤ C 81 42 ∧ C 81 42 ≤ 16) (h : ∀ t C', Tld (C 83 45) 2 f g (C 83) t → (0 ≤ t → MkM C C' 2 (chW 2 f g (C 83))) → (t < 0 → C' = C) → Q t S C') : K_X11_shiftsKept_0 (d + 4) 0 0 f S C Q := by
  have bad : ¬ (-7 ≤ f ∧ f ≤ 7 ∧ f ≠ 0) → Q (-1) S C := fun hb => h (-1) C (Or.inr (Or.inr (Or.inl ⟨rfl, Or.inr ⟨hb, rfl⟩⟩))) (fun z => by omega) (fun _ => rfl)
  refine b_X11_shiftsKept_0 F ⟨fun z => bad (by omega), fun z => s_lies F fun r hr => ⟨rfl, fun z2 => ?_, fun z2 => bad (by omega)⟩⟩
  have hf : -7 ≤ f ∧ f ≤ 7 ∧ f ≠ 0 := by omega
  have m8 : ∀ b : Int, 0 ≤ b → b < 16 → 0 ≤ C 83 (8 + b) ∧ C 83 (8 + b) ≤ 255 := fun b x0 x1 => hw.2.1 (8 + b) (by omega) (by omega)
  refine up_ind (α := Unit) (P := fun k _ => ∀ b : Int, 0 ≤ b → b < k → shN (C 83 (8 + b)) f ≠ -1) (K := fun k _ => K_X11_shiftsKept_19 (d + 4) 0 0 f (k : Int) S C Q) 16 ?_ ?_ 0 (by omega) () (fun b x0 x1 => by omega)
  · intro _ hc
    refine b_X11_shiftsKept_19 F ⟨fun _ => s_keeps F hu (fun C1 f1 g1 => ⟨rfl, ?_⟩), fun z => absurd (by decide) z⟩
    have hcs : canSh (C 83) f := hc
    have bd : ∀ b : Int, 0 ≤ b → b < 16 → 0 ≤ shN (C 83 (8 + b)) f ∧ shN (C 83 (8 + b)) f ≤ 255 := fun b x0 x1 => (shN_ok (m8 b x0 x1) ⟨hf.1, hf.2.1⟩ (hc b x0 x1)).1
    refine up_ind (α := MC) (P := fun k C' => Fp (fun a k => a = 83 ∧ 8 ≤ k ∧ k < 24) C1 C' ∧ ∀ b : Int, 0 ≤ b → b < 16 → C' 83 (8 + b) = if b < k then shN (C 83 (8 + b)) f else C 83 (8 + b)) (K := fun k C' => K_X11_shiftsKept_54 (d + 4) 0 0 f (k : Int) S C' Q) 16 ?_ ?_ 0 (by omega) C1 ⟨Fp_rf, fun b x0 x1 => by rw [if_neg (by omega), f1 83 _ (by omega)]⟩
    · intro C2 ⟨c1, c2⟩
      have c3 : ∀ b : Int, 0 ≤ b → b < 16 → C2 83 (8 + b) = shN (C 83 (8 + b)) f := fun b x0 x1 => by rw [c2 b x0 x1, if_pos (by omega)]
      refine b_X11_shiftsKept_54 F ⟨fun _ => s_notes0 F (fun b x0 x1 => by rw [c3 b x0 x1]; exact bd b x0 x1) ⟨rfl, ?_⟩, fun z => absurd (by decide) z⟩
      rw [ntn_cong (r' := fun b => shN (C 83 (8 + b)) f) c3 16 (Nat.le_refl _)]
      have hT : Tld (C 83 45) 2 f g (C 83) (ntn (fun b => shN (C 83 (8 + b)) f) 16) := Or.inr (Or.inr (Or.inl ⟨rfl, Or.inl ⟨hf, Or.inl ⟨hcs, rfl⟩⟩⟩))
      have ht := (ntn_bd bd 16 (Nat.le_refl _)).1
      refine h _ _ hT (fun _ => ⟨Fp_tr (Fp_mono f1 (fun a k h => by unfold mkF; omega)) (Fp_mono c1 (fun a k h => by unfold mkF; omega)), fun i x0 x1 => ?_, Push_fp g1 (Fp_mono c1 (fun a k h => h.1))⟩) (fun z => by omega)
      show _ = shW (C 83) f i
      unfold shW
      by_cases e : 8 ≤ i ∧ i < 24
      · rw [if_pos e]
        have := c3 (i - 8) (by omega) (by omega)
        rwa [show 8 + (i - 8) = i by omega] at this
      · rw [if_neg e, c1 83 i (by omega), f1 83 i (by omega)]
    · intro k C2 hk ⟨c1, c2⟩ ih
      have e := c2 k (by omega) (by omega)
      rw [if_neg (by omega)] at e
      refine b_X11_shiftsKept_54 F ⟨fun z => by omega, fun _ => s_musicAt F (by omega) ⟨rfl, s_shiftedM F (by rw [e]; exact m8 k (by omega) (by omega)) ⟨hf.1, hf.2.1⟩ ⟨rfl, ?_⟩⟩⟩
      rw [w32_lit (x := 8 + (k : Int)) (by omega), w32_succ (by omega), e]
      refine ⟨by omega, ih _ ⟨Fp_up (by omega) c1, fun b x0 x1 => ?_⟩⟩
      by_cases q : b = k
      · rw [q, upC_at, if_pos (by omega)]
      · rw [upC_sK (by omega), c2 b x0 x1]
        by_cases q2 : b < k
        · rw [if_pos q2, if_pos (by omega)]
        · rw [if_neg q2, if_neg (by omega)]
  · intro k _ hk hc ih
    refine b_X11_shiftsKept_19 F ⟨fun z => by omega, fun _ => s_musicAt F (by omega) ⟨rfl, s_shiftedM F (m8 k (by omega) (by omega)) ⟨hf.1, hf.2.1⟩ ⟨rfl, fun z => ?_, fun z => ?_⟩⟩⟩
    · rw [w32_succ (by omega)]
      refine ih () (fun b x0 x1 => ?_)
      by_cases e : b = k
      · rw [e]; exact z
      · exact hc b x0 (by omega)
    · exact h (-3) C (Or.inr (Or.inr (Or.inl ⟨rfl, Or.inl ⟨hf, Or.inr ⟨fun q => q k (by omega) (by omega) z, rfl⟩⟩⟩))) (fun z => by omega) (fun _ => rfl)
/-! histories -/
def HsC (C : MC) (n : Nat) (W : Nat → Int → Int) : Prop := C 55 3 = n ∧ StC C (W n) ∧ (∀ j : Nat, j < n → UStep (C 56 j) (C 57 j) (C 58 j) (W (j + 1)) (W j)) ∧ ∀ j : Nat, j ≤ n → UOk (C 1 0) (W j)
def HsM (C : MC) (kd : Int → Int) (n : Nat) (W : Nat → Int → Int) : Prop := (∀ i, 0 ≤ i → i < 25 → C 83 i = W n i) ∧ C 81 42 = (min n 16 : Nat) ∧ ∀ i : Nat, i < min n 16 → (∀ q, 0 ≤ q → q < 25 → C 104 (26 * (i : Int) + q) = W (n - min n 16 + i) q) ∧ C 104 (26 * (i : Int) + 25) = kd ((n - min n 16 + i : Nat) : Int)
theorem StC_inv {S : MS} {C : MC} (h : RS S C 1 (C 83)) : StC C (C 83) ∧ UOk (C 1 0) (C 83) := by
  obtain ⟨a1, a2, a3, a4, a5, a6⟩ := h
  have e := a1.1
  refine ⟨⟨fun k x0 x1 => (a2 k x0 x1).1, fun b x0 x1 => (a3 b x0 x1).1, a6.1.1⟩, fun k x0 x1 => ?_, fun b x0 x1 => ?_, a6.1.2⟩
  · have := (a2 k x0 x1).2; omega
  · have := (a3 (b - 8) (by omega) (by omega)).2
    rwa [show 8 + (b - 8) = b by omega] at this
theorem hist_of {S : MS} {C : MC} (I : Inv S C) : ∃ (n : Nat) (W : Nat → Int → Int), n ≤ 16 ∧ HsC C n W ∧ HsM C (C 56) n W ∧ W n = C 83 := by
  obtain ⟨u1, u2, u3⟩ := I.2.2.2.2.2.2.1
  obtain ⟨s1, s2⟩ := StC_inv I.2.1
  have e45 := I.2.1.1.1
  obtain ⟨n, hn⟩ : ∃ n : Nat, C 55 3 = n := ⟨(C 55 3).toNat, by omega⟩
  have hW : (fun (j : Nat) (i : Int) => uSt C (n : Int) (j : Int) i) n = C 83 := funext fun i => if_pos rfl
  refine ⟨n, fun j i => uSt C (n : Int) (j : Int) i, by omega, ⟨hn, by rw [hW]; exact s1, fun j hj => ?_, fun j hj => ?_⟩, ⟨fun i x0 x1 => by rw [hW], by rw [← u1, hn, Nat.min_eq_left (by omega)], fun i hi => ?_⟩, hW⟩
  · have := (u3 j (by omega) (by omega)).2.1
    rw [hn] at this
    exact this
  · by_cases q : j = n
    · rw [q, hW]; exact s2
    · have := (u3 j (by omega) (by omega)).2.2
      rw [hn] at this
      rw [e45]
      exact this
  · rw [Nat.min_eq_left (by omega)] at hi ⊢
    rw [Nat.sub_self, Nat.zero_add]
    refine ⟨fun q x0 x1 => ?_, (u3 i (by omega) (by omega)).1⟩
    show _ = uSt C n i q
    unfold uSt
    rw [if_neg (by omega)]
theorem IvU_of {C : MC} {n : Nat} {W : Nat → Int → Int} (hn : n ≤ 16) (hc : HsC C n W) (hm : HsM C (C 56) n W) (e45 : C 83 45 = C 1 0) : IvU C := by
  obtain ⟨c1, c2, c3, c4⟩ := hc
  obtain ⟨m1, m2, m3⟩ := hm
  rw [Nat.min_eq_left hn] at m2 m3
  have hW : ∀ j : Nat, j ≤ n → ∀ i, 0 ≤ i → i < 25 → uSt C (n : Int) (j : Int) i = W j i := fun j hj i x0 x1 => by
    unfold uSt
    by_cases q : j = n
    · rw [if_pos (by omega), q]; exact m1 i x0 x1
    · rw [if_neg (by omega)]
      have := (m3 j (by omega)).1 i x0 x1
      rwa [Nat.sub_self, Nat.zero_add] at this
  refine ⟨by rw [c1, m2], by omega, fun j x0 x1 => ?_⟩
  obtain ⟨i, rfl⟩ : ∃ i : Nat, j = i := ⟨j.toNat, by omega⟩
  have hi : i < n := by omega
  have k := (m3 i hi).2
  rw [Nat.sub_self, Nat.zero_add] at k
  rw [c1, e45]
  refine ⟨k, UStep_cong (c3 i hi) (fun q y0 y1 => ?_) (hW i (by omega)), UOk_cong (c4 i (by omega)) (hW i (by omega))⟩
  exact hW (i + 1) (by omega) q y0 y1
/-- one change more -/
def sucW (W : Nat → Int → Int) (n : Nat) (w : Int → Int) : Nat → Int → Int := fun j => if j ≤ n then W j else w
theorem sucW_le {W : Nat → Int → Int} {n j : Nat} {w : Int → Int} (h : j ≤ n) : sucW W n w j = W j := if_pos h
theorem sucW_gt {W : Nat → Int → Int} {n : Nat} {w : Int → Int} : sucW W n w (n + 1) = w := if_neg (by omega)
theorem HsC_step {C C' : MC} {n : Nat} {W : Nat → Int → Int} {kind : Int} {w' : Int → Int} (h : HsC C n W) (m : MkC C C' n kind (W n) w') (hw : UOk (C 1 0) w') : HsC C' (n + 1) (sucW W n w') := by
  obtain ⟨h1, h2, h3, h4⟩ := h
  obtain ⟨m1, m2, m3, m4, m5⟩ := m
  have e10 : C' 1 0 = C 1 0 := m1 1 0 (by unfold chF; omega)
  refine ⟨by rw [m3]; omega, by rw [sucW_gt]; exact m2, fun j hj => ?_, fun j hj => ?_⟩
  · by_cases q : j = n
    · subst q
      rw [sucW_gt, sucW_le (Nat.le_refl _), m4]
      exact m5
    · rw [sucW_le (by omega), sucW_le (by omega), m1 56 j (by unfold chF; omega), m1 57 j (by unfold chF; omega), m1 58 j (by unfold chF; omega)]
      exact h3 j (by omega)
  · rw [e10]
    by_cases q : j ≤ n
    · rw [sucW_le q]; exact h4 j q
    · have : j = n + 1 := by omega
      rw [this, sucW_gt]; exact hw
theorem HsM_step {C C' : MC} {n : Nat} {W : Nat → Int → Int} {kd kd' : Int → Int} {kind : Int} {w' : Int → Int} (h : HsM C kd n W) (m : MkM C C' kind w') (hk : ∀ j : Nat, j < n → kd' j = kd j) (hk2 : kd' n = kind) : HsM C' kd' (n + 1) (sucW W n w') := by
  obtain ⟨h1, h2, h3⟩ := h
  obtain ⟨m1, m2, p, s, p1, p2, p3, p4, p5⟩ := m
  refine ⟨fun i x0 x1 => by rw [sucW_gt]; exact m2 i x0 x1, ?_, fun i hi => ?_⟩
  · rw [p2]
    omega
  · rcases p1 with ⟨q1, q2, q3⟩ | ⟨q1, q2, q3⟩
    · have e1 : min n 16 = n := by omega
      have e2 : min (n + 1) 16 = n + 1 := by omega
      rw [e1] at h2 h3
      rw [e2] at hi ⊢
      rw [Nat.sub_self, Nat.zero_add]
      by_cases z : i = n
      · subst z
        have ep : p = i := by omega
        rw [sucW_le (Nat.le_refl _)]
        refine ⟨fun q x0 x1 => ?_, ?_⟩
        · rw [← ep, p4 q x0 x1, h1 q x0 x1]
        · rw [← ep, p5, ep, hk2]
      · rw [sucW_le (by omega)]
        have h3i := h3 i (by omega)
        rw [Nat.sub_self, Nat.zero_add] at h3i
        refine ⟨fun q x0 x1 => ?_, ?_⟩
        · rw [p3 i q (by omega) (by omega) x0 (by omega), q3, Int.add_zero]; exact h3i.1 q x0 x1
        · rw [p3 i 25 (by omega) (by omega) (by omega) (by omega), q3, Int.add_zero, hk i (by omega)]; exact h3i.2
    · have e1 : min n 16 = 16 := by omega
      have e2 : min (n + 1) 16 = 16 := by omega
      rw [e1] at h2 h3
      rw [e2] at hi ⊢
      by_cases z : i = 15
      · subst z
        have en : n + 1 - 16 + 15 = n := by omega
        rw [en, sucW_le (Nat.le_refl _)]
        refine ⟨fun q x0 x1 => ?_, ?_⟩
        · have := p4 q x0 x1
          rw [q2] at this
          rw [show (26 * ((15 : Nat) : Int) + q) = 26 * 15 + q from rfl, this, h1 q x0 x1]
        · have := p5
          rw [q2] at this
          rw [show (26 * ((15 : Nat) : Int) + 25) = 26 * 15 + 25 from rfl, this, hk2]
      · have en : n + 1 - 16 + i = n - 16 + (i + 1) := by omega
        have h3i := h3 (i + 1) (by omega)
        rw [sucW_le (by omega), en]
        refine ⟨fun q x0 x1 => ?_, ?_⟩
        · rw [p3 i q (by omega) (by omega) x0 (by omega), q3]; exact h3i.1 q x0 x1
        · rw [p3 i 25 (by omega) (by omega) (by omega) (by omega), q3, hk _ (by omega)]; exact h3i.2
