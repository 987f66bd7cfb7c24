/-! 34.few: few, find -/
def fwA (s x : Int) : Int := w64 (Int.tdiv (w64 (x * (w32 (10 - s)))) 10)
def fwB (s x : Int) : Int := w64 (Int.tdiv (w64 (x * s)) 10)
def fw (s : Int) : Nat → Nat → Int
  | 0, i => if i = 0 then 1000000000000 else 0
  | n + 1, 0 => fwA s (fw s n 0)
  | n + 1, i + 1 => w64 (fwA s (fw s n (i + 1)) + fwB s (fw s n i))
def fwS (f : Nat → Int) : Nat → Int
  | 0 => 0
  | m + 1 => w64 (fwS f m + f m)
/-- a row filled with one number -/
theorem s_fillJ {d mc ms : Nat} {a v : Int} {n : Nat} {S : MS} {C : MC} {Q : Qt} (F : Fix S) (ha : Arr S a 21) (hn : S.2.2.1 a = n) (hn2 : n < 100000) (h : ∀ C', Fp (fun x _ => x = a) C C' → (∀ i : Nat, i < n → C' a i = v) → Q 0 S C') : K_J7_fill_d0a16_0 d mc ms a v S C Q := by
  refine b_J7_fill_d0a16_0 F ha ?_
  rw [hn]
  refine up_ind (α := MC) (P := fun k C' => Fp (fun x _ => x = a) C C' ∧ ∀ i : Nat, i < k → C' a i = v) (K := fun k C' => K_J7_fill_d0a16_6 d mc ms a v (k : Int) (n : Int) S C' Q) n ?_ ?_ 0 (by omega) C ⟨Fp_rf, fun i hi => absurd hi (Nat.not_lt_zero i)⟩
  · intro C' hC
    exact b_J7_fill_d0a16_6 F ha ⟨fun _ => h C' hC.1 hC.2, fun z => by omega⟩
  · intro k C' hk hC ih
    refine b_J7_fill_d0a16_6 F ha ⟨fun z => by omega, fun _ => ⟨by omega, ?_⟩⟩
    rw [w32_succ (by omega)]
    refine ih _ ⟨Fp_up rfl hC.1, fun i hi => ?_⟩
    by_cases e : i = k
    · rw [e, upC_at]
    · rw [upC_sK (by omega)]; exact hC.2 i (by omega)
theorem s_fillI {d mc ms : Nat} {a v : Int} {n : Nat} {S : MS} {C : MC} {Q : Qt} (F : Fix S) (ha : Arr S a 20) (hn : S.2.2.1 a = n) (hn2 : n < 100000) (h : ∀ C', Fp (fun x _ => x = a) C C' → (∀ i : Nat, i < n → C' a i = v) → Q 0 S C') : K_J7_fill_53178_0 d mc ms a v S C Q := by
  refine b_J7_fill_53178_0 F ha ?_
  rw [hn]
  refine up_ind (α := MC) (P := fun k C' => Fp (fun x _ => x = a) C C' ∧ ∀ i : Nat, i < k → C' a i = v) (K := fun k C' => K_J7_fill_53178_5 d mc ms a v (k : Int) (n : Int) S C' Q) n ?_ ?_ 0 (by omega) C ⟨Fp_rf, fun i hi => absurd hi (Nat.not_lt_zero i)⟩
  · intro C' hC
    exact b_J7_fill_53178_5 F ha ⟨fun _ => h C' hC.1 hC.2, fun z => by omega⟩
  · intro k C' hk hC ih
    refine b_J7_fill_53178_5 F ha ⟨fun z => by omega, fun _ => ⟨by omega, ?_⟩⟩
    rw [w32_succ (by omega)]
    refine ih _ ⟨Fp_up rfl hC.1, fun i hi => ?_⟩
    by_cases e : i = k
    · rw [e, upC_at]
    · rw [upC_sK (by omega)]; exact hC.2 i (by omega)
theorem s_few66 {d n k : Nat} {l2 s : Int} {S : MS} {C0 : MC} {Q : Qt} (F : Fix S) (hk : 1 ≤ k ∧ k ≤ 20) (hn : n < 1000) (h : ∀ C', Fp (fun x _ => x = 63) C0 C' → (∀ i : Nat, i < k → C' 63 i = fw s (n + 1) i) → K_X10_few_55 (d + 1) 0 0 k l2 s ((n + 1 : Nat) : Int) S C' Q) :
    ∀ (j : Nat) (C : MC), j < k → Fp (fun x _ => x = 63) C0 C → (∀ i : Nat, i ≤ j → C 63 i = fw s n i) → (∀ i : Nat, j < i → i < k → C 63 i = fw s (n + 1) i) → K_X10_few_66 (d + 1) 0 0 k l2 s n j S C Q := by
  intro j
  induction j with
  | zero =>
    intro C hj hf h1 h2
    refine b_X10_few_66 F ⟨fun _ => ?_, fun z => absurd (by decide) z⟩
    rw [w32_succ (by omega)]
    refine h _ (Fp_up rfl hf) (fun i hi => ?_)
    by_cases e : i = 0
    · subst e
      rw [show ((0 : Nat) : Int) = 0 from rfl, upC_at]
      have := h1 0 (by omega)
      rw [show ((0 : Nat) : Int) = 0 from rfl] at this
      rw [this]
      rfl
    · rw [upC_sK (by omega)]; exact h2 i (by omega) hi
  | succ j ih =>
    intro C hj hf h1 h2
    refine b_X10_few_66 F ⟨fun z => by omega, fun _ => ⟨by omega, ?_⟩⟩
    have e1 : w32 (((j + 1 : Nat) : Int) - 1) = (j : Int) := by rw [w32_lit (by omega)]; omega
    rw [e1, w32_pred (by omega), h1 (j + 1) (by omega), h1 j (by omega)]
    refine ⟨by omega, by omega, ih _ (by omega) (Fp_up rfl hf) (fun i hi => ?_) (fun i hi hi2 => ?_)⟩
    · rw [upC_sK (by omega)]; exact h1 i (by omega)
    · by_cases e : i = j + 1
      · subst e; rw [upC_at]; rfl
      · rw [upC_sK (by omega)]; exact h2 i (by omega) hi2
theorem s_fewC {d k n : Nat} {l1 l2 : Int} {S : MS} {C : MC} {Q : Qt} (F : Fix S) (hl1 : l1 = k) (hl2 : l2 = n) (hk : 1 ≤ k ∧ k ≤ 20) (hn : n ≤ 99) (h : ∀ C', Fp (fun x _ => x = 63) C C' → Q (fwS (fw (C 8 1) n) k) S C') : K_X10_few_0 (d + 1) 0 0 l1 l2 S C Q := by
  subst hl1 hl2
  refine b_X10_few_0 F ⟨fun z => by omega, fun _ => ⟨fun z => by omega, fun _ => ⟨fun z => by omega, fun _ => ⟨fun _ => ?_, fun z => by omega⟩⟩⟩⟩
  refine s_fillJ (n := 20) F ⟨fx_b F (by decide), fx_t F (by decide)⟩ (fx_l F (by decide)) (by decide) (fun C2 g1 g2 => ⟨rfl, ?_⟩)
  refine up_ind (α := MC) (P := fun m C' => Fp (fun x _ => x = 63) C C' ∧ ∀ i : Nat, i < k → C' 63 i = fw (C 8 1) m i) (K := fun m C' => K_X10_few_55 (d + 1) 0 0 k n (C 8 1) (m : Int) S C' Q) n ?_ ?_ 0 (by omega) _ ⟨Fp_up rfl g1, fun i hi => ?_⟩
  · intro C' hC
    refine b_X10_few_55 F ⟨fun _ => ?_, fun z => by omega⟩
    refine up_ind (α := Unit) (P := fun _ _ => True) (K := fun m _ => K_X10_few_152 (d + 1) 0 0 k (fwS (fw (C 8 1) n) m) (m : Int) S C' Q) k ?_ ?_ 0 (by omega) () trivial
    · intro _ _
      exact b_X10_few_152 F ⟨fun _ => h C' hC.1, fun z => by omega⟩
    · intro m _ hm _ ih
      refine b_X10_few_152 F ⟨fun z => by omega, fun _ => ⟨by omega, ?_⟩⟩
      rw [w32_succ (by omega), hC.2 m hm]
      exact ih () trivial
  · intro m C' hm hC ih
    refine b_X10_few_55 F ⟨fun z => by omega, fun _ => ?_⟩
    have e1 : w32 ((k : Int) - 1) = ((k - 1 : Nat) : Int) := by rw [w32_lit (by omega)]; omega
    rw [e1]
    exact s_few66 (C0 := C) F hk (by omega) (fun C2 q1 q2 => ih C2 ⟨q1, q2⟩) (k - 1) C' (by omega) hC.1 (fun i hi => hC.2 i (by omega)) (fun i hi hi2 => by omega)
  · by_cases e : i = 0
    · subst e
      rw [show ((0 : Nat) : Int) = 0 from rfl, upC_at]
      rfl
    · rw [upC_sK (by omega), g2 i (by omega)]
      show 0 = if i = 0 then _ else _
      rw [if_neg e]
theorem s_few67 {d n k : Nat} {l2 s : Int} {S : MS} {C0 : MC} {Q : Qt} (F : Fix S) (hs : C0 83 43 = s) (hk : 1 ≤ k ∧ k ≤ 20) (hn : n < 1000) (h : ∀ C', Fp (fun x _ => x = 103) C0 C' → (∀ i : Nat, i < k → C' 103 i = fw s (n + 1) i) → K_X11_few_57 (d + 1) 0 0 k l2 ((n + 1 : Nat) : Int) S C' Q) :
    ∀ (j : Nat) (C : MC), j ≤ k → Fp (fun x _ => x = 103) C0 C → (∀ i : Nat, i < j → C 103 i = fw s n i) → (j < k → C 103 j = fwA s (fw s n j)) → (∀ i : Nat, j < i → i < k → C 103 i = fw s (n + 1) i) → K_X11_few_67 (d + 1) 0 0 k l2 n ((j : Int) - 1) S C Q := by
  intro j
  induction j with
  | zero =>
    intro C hj hf h1 h2 h3
    refine b_X11_few_67 F ⟨fun _ => ?_, fun z => absurd (by decide) z⟩
    rw [w32_succ (by omega)]
    refine h _ hf (fun i hi => ?_)
    by_cases e : i = 0
    · subst e; exact h2 hi
    · exact h3 i (by omega) hi
  | succ j ih =>
    intro C hj hf h1 h2 h3
    have e0 : ((j + 1 : Nat) : Int) - 1 = j := by omega
    have e43 : C 83 43 = s := by rw [hf 83 43 (by decide)]; exact hs
    rw [e0]
    refine b_X11_few_67 F ⟨fun z => by omega, fun _ => ?_⟩
    have e2 : w32 ((j : Int) + (-1)) = (j : Int) - 1 := by rw [w32_lit (by omega)]; omega
    rw [w32_succ (by omega), e2, e43, upC_sK (j := (j : Int)) (by omega), h1 j (by omega)]
    refine ⟨by omega, by omega, by omega, by omega, by omega, ih _ (by omega) (Fp_up rfl (Fp_up rfl hf)) (fun i hi => ?_) (fun _ => ?_) (fun i hi hi2 => ?_)⟩
    · rw [upC_sK (by omega), upC_sK (by omega)]; exact h1 i (by omega)
    · rw [upC_at]; rfl
    · rw [upC_sK (by omega)]
      by_cases e : i = j + 1
      · subst e; rw [upC_at, h2 (by omega)]; rfl
      · rw [upC_sK (by omega)]; exact h3 i (by omega) hi2
theorem s_fewM {d k n : Nat} {l1 l2 : Int} {S : MS} {C : MC} {Q : Qt} (F : Fix S) (hl1 : l1 = k) (hl2 : l2 = n) (hk : 1 ≤ k ∧ k ≤ 20) (hn : n ≤ 99) (h : ∀ C', Fp (fun x _ => x = 103) C C' → Q (fwS (fw (C 83 43) n) k) S C') : K_X11_few_0 (d + 1) 0 0 l1 l2 S C Q := by
  subst hl1 hl2
  refine b_X11_few_0 F (s_lies F fun r hr => ⟨rfl, fun z => by omega, fun _ => s_lies F fun r2 hr2 => ⟨rfl, fun _ => ?_, fun z => by omega⟩⟩)
  refine up_ind (α := MC) (P := fun m C' => Fp (fun x _ => x = 103) C C' ∧ ∀ i : Nat, i < m → C' 103 i = fw (C 83 43) 0 i) (K := fun m C' => K_X11_few_26 (d + 1) 0 0 k n (m : Int) S C' Q) 21 ?_ ?_ 0 (by omega) _ ⟨Fp_rf, fun i hi => absurd hi (Nat.not_lt_zero i)⟩
  · intro C1 hC1
    refine b_X11_few_26 F ⟨fun _ => ?_, fun z => absurd (by decide) z⟩
    refine up_ind (α := MC) (P := fun m C' => Fp (fun x _ => x = 103) C C' ∧ ∀ i : Nat, i < k → C' 103 i = fw (C 83 43) m i) (K := fun m C' => K_X11_few_57 (d + 1) 0 0 k n (m : Int) S C' Q) n ?_ ?_ 0 (by omega) _ ⟨hC1.1, fun i hi => hC1.2 i (by omega)⟩
    · intro C' hC
      refine b_X11_few_57 F ⟨fun _ => ?_, fun z => by omega⟩
      refine up_ind (α := Unit) (P := fun _ _ => True) (K := fun m _ => K_X11_few_151 (d + 1) 0 0 k (fwS (fw (C 83 43) n) m) (m : Int) S C' Q) k ?_ ?_ 0 (by omega) () trivial
      · intro _ _
        exact b_X11_few_151 F ⟨fun _ => h C' hC.1, fun z => by omega⟩
      · intro m _ hm _ ih
        refine b_X11_few_151 F ⟨fun z => by omega, fun _ => ⟨by omega, ?_⟩⟩
        rw [w32_succ (by omega), hC.2 m hm]
        exact ih () trivial
    · intro m C' hm hC ih
      refine b_X11_few_57 F ⟨fun z => by omega, fun _ => ?_⟩
      have e1 : w32 ((k : Int) - 1) = (k : Int) - 1 := w32_lit (by omega)
      rw [e1]
      exact s_few67 (C0 := C) F rfl hk (by omega) (fun C2 q1 q2 => ih C2 ⟨q1, q2⟩) k C' (by omega) hC.1 (fun i hi => hC.2 i hi) (fun z => by omega) (fun i hi hi2 => by omega)
  · intro m C' hm hC ih
    refine b_X11_few_26 F ⟨fun z => by omega, fun _ => ⟨fun z => ⟨by omega, ?_⟩, fun z => ⟨by omega, ?_⟩⟩⟩
    · rw [w32_succ (by omega)]
      refine ih _ ⟨Fp_up rfl hC.1, fun i hi => ?_⟩
      by_cases e : i = m
      · subst e; rw [upC_at]; show 0 = if i = 0 then _ else _; rw [if_neg (by omega)]
      · rw [upC_sK (by omega)]; exact hC.2 i (by omega)
    · rw [w32_succ (by omega)]
      refine ih _ ⟨Fp_up rfl hC.1, fun i hi => ?_⟩
      by_cases e : i = m
      · subst e; rw [upC_at]; show _ = if i = 0 then _ else _; rw [if_pos (by omega)]
      · rw [upC_sK (by omega)]; exact hC.2 i (by omega)
theorem Inv_fp {p : Int → Int → Prop} {S : MS} {C C' : MC} (I : Inv S C) (h : Fp p C C') (hp : ∀ a k, p a k → scr a k) : Inv S C' := Inv_sc I I.1 (Ss_rf S) (Fp_mono h hp)
theorem q_few {d : Nat} {l1 l2 : Int} {S : MS} {C : MC} {P : Int → Int → MC → Prop} (I : Inv S C) (k : ∀ r C', Inv S C' → P r r C') : K_X10_few_0 (d + 2) 0 0 l1 l2 S C (fun r Sq C2 => Sq = S ∧ K_X11_few_0 (d + 2) 0 0 l1 l2 S C2 (fun r2 Sq C3 => Sq = S ∧ P r r2 C3)) := by
  have F := I.1
  have bad : ¬ ((1 ≤ l1 ∧ l1 ≤ 20) ∧ 0 ≤ l2 ∧ l2 ≤ 99) → K_X11_few_0 (d + 2) 0 0 l1 l2 S C (fun r2 Sq C3 => Sq = S ∧ P (-1) r2 C3) := fun hb =>
    b_X11_few_0 F (s_lies F fun r hr => ⟨rfl, fun _ => ⟨rfl, k _ _ I⟩, fun z => s_lies F fun r2 hr2 => ⟨rfl, fun z2 => by omega, fun _ => ⟨rfl, k _ _ I⟩⟩⟩)
  by_cases hl : (1 ≤ l1 ∧ l1 ≤ 20) ∧ 0 ≤ l2 ∧ l2 ≤ 99
  · refine s_fewC (k := l1.toNat) (n := l2.toNat) F (by omega) (by omega) (by omega) (by omega) (fun C' g => ⟨rfl, ?_⟩)
    refine s_fewM (k := l1.toNat) (n := l2.toNat) F (by omega) (by omega) (by omega) (by omega) (fun C2 g2 => ⟨rfl, ?_⟩)
    have e : C' 83 43 = C 8 1 := by rw [g 83 43 (by decide)]; exact I.2.1.2.2.2.2.2.2.1.1.symm
    rw [e]
    exact k _ _ (Inv_fp (Inv_fp I g (fun a k h => by unfold scr; omega)) g2 (fun a k h => by unfold scr; omega))
  · refine b_X10_few_0 F ⟨fun z => ⟨rfl, bad hl⟩, fun z => ⟨fun z2 => ⟨rfl, bad hl⟩, fun z2 => ⟨fun z3 => ⟨rfl, bad hl⟩, fun z3 => ⟨fun z4 => by omega, fun z4 => ⟨rfl, bad hl⟩⟩⟩⟩⟩
/-! shifted sets -/
def shN (x n : Int) : Int := if n < 0 then (if iShl (iShr x (-n)) (-n) = x then iShr x (-n) else -1) else (if iShl x n ≤ 255 then iShl x n else -1)
theorem s_shiftedC {d mc ms : Nat} {x n : Int} {S : MS} {C : MC} {Q : Qt} (F : Fix S) (hn : -7 ≤ n ∧ n ≤ 7) (h : Q (shN x n) S C) : K_X7_shifted_0 d mc ms x n S C Q := by
  unfold shN at h
  refine b_X7_shifted_0 F ⟨fun z => ?_, fun z => ?_⟩
  · rw [if_pos z] at h
    rw [w32_lit (x := -n) (by omega)]
    refine ⟨fun e => ?_, fun e => ?_⟩
    · rw [if_pos e] at h; exact h
    · rw [if_neg e] at h; exact h
  · rw [if_neg z] at h
    refine ⟨fun e => ?_, fun e => ?_⟩
    · rw [if_pos e] at h; exact h
    · rw [if_neg e] at h; exact h
def shL (x n : Int) : Nat → Nat → Int → Int
  | 0, _, acc => acc
  | m + 1, k, acc => if iAnd (iShr x k) 1 = 1 then (if 0 ≤ (k : Int) + n ∧ (k : Int) + n < 8 then shL x n m (k + 1) (iOr acc (iShl 1 ((k : Int) + n))) else -1) else shL x n m (k + 1) acc
set_option maxRecDepth 100000 in
theorem shL_all : ∀ a : Nat, a < 256 → ∀ j : Nat, j < 15 → shL (a : Int) ((j : Int) - 7) 8 0 0 = shN (a : Int) ((j : Int) - 7) := by decide +kernel
theorem s_isIn {d mc ms : Nat} {x j : Int} {S : MS} {C : MC} {Q : Qt} (F : Fix S) (h : ∀ r, (r = 1 ∧ iAnd (iShr x j) 1 = 1 ∨ r = 0 ∧ ¬ iAnd (iShr x j) 1 = 1) → Q r S C) : K_X11_isIn_0 d mc ms x j S C Q :=
  b_X11_isIn_0 F ⟨fun a => h 0 (by omega), fun a => h 1 (by omega)⟩
theorem s_shiftedM {d mc ms : Nat} {x n : Int} {S : MS} {C : MC} {Q : Qt} (F : Fix S) (hx : 0 ≤ x ∧ x ≤ 255) (hn : -7 ≤ n ∧ n ≤ 7) (h : Q (shN x n) S C) : K_X11_shifted_0 (d + 2) mc ms x n S C Q := by
  have e := shL_all x.toNat (by omega) (n + 7).toNat (by omega)
  rw [Int.toNat_of_nonneg hx.1, Int.toNat_of_nonneg (by omega : 0 ≤ n + 7), show n + 7 - 7 = n by omega] at e
  rw [← e] at h
  refine b_X11_shifted_0 F ?_
  have go : ∀ m k : Nat, k + m = 8 → ∀ acc : Int, Q (shL x n m k acc) S C → K_X11_shifted_4 (d + 2) mc ms x n acc (k : Int) S C Q := by
    intro m
    induction m with
    | zero =>
      intro k hk acc hq
      exact b_X11_shifted_4 F ⟨fun _ => hq, fun z => by omega⟩
    | succ m ih =>
      intro k hk acc hq
      unfold shL at hq
      refine b_X11_shifted_4 F ⟨fun z => by omega, fun _ => s_isIn F fun r hr => ⟨rfl, fun z => ?_, fun z => ?_⟩⟩
      · rw [if_pos (by omega)] at hq
        rw [w32_lit (x := (k : Int) + n) (by omega), w32_succ (by omega)]
        refine s_isKeyM F fun r2 hr2 => ⟨rfl, fun z2 => ?_, fun z2 => ?_⟩
        · rw [if_pos (by omega)] at hq
          exact ih (k + 1) (by omega) _ hq
        · rw [if_neg (by omega)] at hq
          exact hq
      · rw [if_neg (by omega)] at hq
        rw [w32_succ (by omega)]
        exact ih (k + 1) (by omega) _ hq
  exact go 8 0 rfl 0 h
