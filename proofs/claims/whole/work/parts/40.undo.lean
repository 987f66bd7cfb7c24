/-! 40.undo: note, give, shift, pass, undo -/
/-- cells that changes touch, in both -/
def ckF (a k : Int) : Prop := a = 4 ∨ a = 5 ∨ (a = 8 ∧ k = 0) ∨ (a = 55 ∧ k = 3) ∨ a = 56 ∨ a = 57 ∨ a = 58 ∨ a = 104 ∨ (a = 81 ∧ k = 42) ∨ (a = 83 ∧ 0 ≤ k ∧ k < 25)
theorem RS_w {S : MS} {C C' : MC} {w : Int → Int} (h : RS S C 1 (C 83)) (hw : UOk (C 1 0) w) (hs : StC C' w) (hm : ∀ i, 0 ≤ i → i < 25 → C' 83 i = w i) (hf : Fp (fun a k => ckF a k ∨ (a = 0 ∧ k = 16) ∨ (a = 81 ∧ k = 0)) C C') : RS S C' 1 (C' 83) := by
  obtain ⟨a1, a2, a3, a4, a5, a6⟩ := h
  have e45 := a1.1
  have q45 : C' 83 45 = C 83 45 := hf 83 45 (by unfold ckF; omega)
  refine ⟨Ra_p a1 hf (by unfold ckF; refine ⟨?_, ?_, ?_, ?_⟩ <;> intros <;> omega), fun k x0 x1 => ?_, fun b x0 x1 => ?_, Rd_p a4 hf (by unfold ckF; refine ⟨?_, ?_, ?_⟩ <;> intros <;> omega), Re_p a5 hf (by unfold ckF; refine ⟨?_, ?_, ?_, ?_⟩ <;> intros <;> omega), ?_⟩
  · show C' 4 k = C' 83 k ∧ _
    rw [hs.1 k x0 x1, hm k x0 (by omega), q45, ← e45]
    exact ⟨rfl, hw.1 k x0 x1⟩
  · show C' 5 b = C' 83 (8 + b) ∧ _
    rw [hs.2.1 b x0 x1, hm (8 + b) (by omega) (by omega)]
    exact ⟨rfl, hw.2.1 (8 + b) (by omega) (by omega)⟩
  · obtain ⟨f1, f2, f3⟩ := a6
    refine ⟨?_, ?_, ?_⟩
    · show C' 8 0 = C' 83 24 ∧ _
      rw [hs.2.2, hm 24 (by omega) (by omega)]
      exact ⟨rfl, hw.2.2⟩
    · show C' 8 1 = C' 83 43 ∧ _
      rw [hf 8 1 (by unfold ckF; omega), hf 83 43 (by unfold ckF; omega)]
      exact f2
    · show C' 8 2 = C' 83 44 ∧ _
      rw [hf 8 2 (by unfold ckF; omega), hf 83 44 (by unfold ckF; omega)]
      exact f3
theorem Inv_w {S : MS} {C C' : MC} {w : Int → Int} (I : Inv S C) (hw : UOk (C 1 0) w) (hs : StC C' w) (hm : ∀ i, 0 ≤ i → i < 25 → C' 83 i = w i) (hf : Fp (fun a k => ckF a k ∨ (a = 0 ∧ k = 16) ∨ (a = 81 ∧ k = 0)) C C') (q7 : C' 0 16 = 0) (q8 : C' 81 0 = 0) (hU : IvU C') : Inv S C' :=
  Inv_p I hf (by unfold ckF; refine ⟨?_, ?_, ?_, ?_, ?_⟩ <;> intros <;> omega) (RS_w I.2.1 hw hs hm hf) (IvR_p I.2.2.2.1 hf q7 q8 (by unfold ckF; intros; omega)) (IvT_p I.2.2.2.2.1 hf (by unfold ckF; refine ⟨?_, ?_, ?_⟩ <;> intros <;> omega)) (IvX_p I.2.2.2.2.2.1 hf (by unfold ckF; refine ⟨?_, ?_, ?_, ?_, ?_, ?_⟩ <;> omega)) hU
/-- the class keeps the latest sixteen -/
theorem s_keepLatest {d mc ms n : Nat} {S : MS} {C : MC} {W : Nat → Int → Int} {Q : Qt} (F : Fix S) (hn : n ≤ 256) (h : HsC C n W) (hk : ∀ C', Fp (fun a k => (a = 55 ∧ k = 3) ∨ a = 56 ∨ a = 57 ∨ a = 58) C C' → HsC C' (min n 16) (fun j => W (n - min n 16 + j)) → (∀ j : Nat, j < min n 16 → C' 56 j = C 56 ((n - min n 16 + j : Nat) : Int)) → (n ≤ 16 → C' = C) → Q 0 S C') : K_X0_keepLatest_0 (d + 1) mc ms S C Q := by
  obtain ⟨h1, h2, h3, h4⟩ := h
  refine b_X0_keepLatest_0 F ?_
  rw [h1, w32_lit (x := (n : Int) - 16) (by omega)]
  refine ⟨fun z => ⟨⟨by omega, by omega, by omega⟩, ⟨by omega, by omega, by omega⟩, ⟨by omega, by omega, by omega⟩, ?_⟩, fun z => ?_⟩
  · have e : min n 16 = 16 := by omega
    have cp : ∀ (D : MC) (a : Int) (j : Nat), j < 16 → cpC D a ((n : Int) - 16) a 0 16 a j = D a ((n - 16 + j : Nat) : Int) := fun D a j hj => by
      unfold cpC
      rw [if_pos ⟨rfl, by omega, by omega⟩]
      congr 1
      omega
    have r56 : ∀ j : Nat, j < 16 → upC (cpC (cpC (cpC C 56 ((n : Int) - 16) 56 0 16) 57 ((n : Int) - 16) 57 0 16) 58 ((n : Int) - 16) 58 0 16) 55 3 16 56 j = C 56 ((n - 16 + j : Nat) : Int) := fun j hj => by
      rw [upC_ne (by decide), cpC_ne (by decide), cpC_ne (by decide), cp _ _ _ hj]
    have r57 : ∀ j : Nat, j < 16 → upC (cpC (cpC (cpC C 56 ((n : Int) - 16) 56 0 16) 57 ((n : Int) - 16) 57 0 16) 58 ((n : Int) - 16) 58 0 16) 55 3 16 57 j = C 57 ((n - 16 + j : Nat) : Int) := fun j hj => by
      rw [upC_ne (by decide), cpC_ne (by decide), cp _ _ _ hj, cpC_ne (by decide)]
    have r58 : ∀ j : Nat, j < 16 → upC (cpC (cpC (cpC C 56 ((n : Int) - 16) 56 0 16) 57 ((n : Int) - 16) 57 0 16) 58 ((n : Int) - 16) 58 0 16) 55 3 16 58 j = C 58 ((n - 16 + j : Nat) : Int) := fun j hj => by
      rw [upC_ne (by decide), cp _ _ _ hj, cpC_ne (by decide), cpC_ne (by decide)]
    have r55 : upC (cpC (cpC (cpC C 56 ((n : Int) - 16) 56 0 16) 57 ((n : Int) - 16) 57 0 16) 58 ((n : Int) - 16) 58 0 16) 55 3 16 55 3 = 16 := upC_at _ _ _ _
    have hf : Fp (fun a k => (a = 55 ∧ k = 3) ∨ a = 56 ∨ a = 57 ∨ a = 58) C (upC (cpC (cpC (cpC C 56 ((n : Int) - 16) 56 0 16) 57 ((n : Int) - 16) 57 0 16) 58 ((n : Int) - 16) 58 0 16) 55 3 16) := Fp_up (by omega) (Fp_cp (fun j _ _ => by omega) (Fp_cp (fun j _ _ => by omega) (Fp_cp (fun j _ _ => by omega) Fp_rf)))
    generalize upC (cpC (cpC (cpC C 56 ((n : Int) - 16) 56 0 16) 57 ((n : Int) - 16) 57 0 16) 58 ((n : Int) - 16) 58 0 16) 55 3 16 = D at *
    refine hk D hf ?_ ?_ (fun q => by omega)
    · rw [e]
      refine ⟨r55, ?_, fun j hj => ?_, fun j hj => ?_⟩
      · show StC D (W (n - 16 + 16))
        rw [show n - 16 + 16 = n by omega]
        exact ⟨fun k x0 x1 => by rw [hf 4 k (by omega)]; exact h2.1 k x0 x1, fun k x0 x1 => by rw [hf 5 k (by omega)]; exact h2.2.1 k x0 x1, by rw [hf 8 0 (by omega)]; exact h2.2.2⟩
      · rw [r56 j hj, r57 j hj, r58 j hj]
        exact h3 (n - 16 + j) (by omega)
      · rw [hf 1 0 (by omega)]
        exact h4 (n - 16 + j) (by omega)
    · rw [e]; exact r56
  · have e : min n 16 = n := by omega
    refine hk C Fp_rf ?_ ?_ (fun _ => rfl)
    · rw [e]
      have : (fun j => W (n - n + j)) = W := funext fun j => by rw [Nat.sub_self, Nat.zero_add]
      rw [this]
      exact ⟨h1, h2, h3, h4⟩
    · rw [e]
      intro j hj
      rw [Nat.sub_self, Nat.zero_add]
theorem HsM_shift {C : MC} {kd kd' : Int → Int} {n : Nat} {W : Nat → Int → Int} (h : HsM C kd n W) (hk : ∀ j : Nat, j < min n 16 → kd' j = kd ((n - min n 16 + j : Nat) : Int)) : HsM C kd' (min n 16) (fun j => W (n - min n 16 + j)) := by
  obtain ⟨h1, h2, h3⟩ := h
  have e : min (min n 16) 16 = min n 16 := by omega
  unfold HsM
  rw [e, Nat.sub_self]
  refine ⟨fun i x0 x1 => ?_, h2, fun i hi => ?_⟩
  · show _ = W (n - min n 16 + min n 16) i
    rw [show n - min n 16 + min n 16 = n by omega]
    exact h1 i x0 x1
  · rw [Nat.zero_add, hk i hi]
    exact h3 i hi
/-- a change: class and reference, side by side -/
theorem q_change {d : Nat} {kind f g : Int} {S : MS} {C : MC} {P : Int → Int → MC → Prop} {KM : MC → (Int → MS → MC → Prop) → Prop} (I : Inv S C) (k : ∀ r C', Inv S C' → P r r C') (hkd : 0 ≤ kind ∧ kind ≤ 3)
    (hM : ∀ (D : MC) (Q : Qt), UOk (D 83 45) (D 83) → (0 ≤ D 83 45 ∧ D 83 45 ≤ 6) → (0 ≤ D 81 42 ∧ D 81 42 ≤ 16) → (∀ t D', Tld (D 83 45) kind f g (D 83) t → (0 ≤ t → MkM D D' kind (chW kind f g (D 83))) → (t < 0 → D' = D) → (0 ≤ t → Q t S (upC D' 81 0 0)) ∧ (t < 0 → Q t S (rfM D' t))) → KM D Q) :
    K_X10_change_0 (d + 4) 0 0 kind f g S C (fun r Sq C2 => Sq = S ∧ S = S ∧ KM C2 (fun r2 Sq C3 => Sq = S ∧ P r r2 C3)) := by
  have F := I.1
  obtain ⟨n, W, hn, hc, hm, hW⟩ := hist_of I
  have e45 := I.2.1.1.1
  have b45 := I.2.1.1.2.1
  have u1 := I.2.2.2.2.2.2.1.1
  have u2 := I.2.2.2.2.2.2.1.2.1
  refine b_X10_change_0 F (s_make (w := W n) (n := n) F hkd hc.2.1 (hc.2.2.2 n (Nat.le_refl _)) hc.1 (by omega) (fun t C1 hT h1 h2 => ⟨rfl, ?_⟩))
  rw [hW] at hT h1
  by_cases ht : 0 ≤ t
  · have m := h1 ht
    have hst := ch_step (by rw [← hW]; exact hc.2.2.2 n (Nat.le_refl _)) hT ht
    have hc1 := HsC_step hc (by rw [hW]; exact m) hst.2
    refine s_keepLatest F (by omega) hc1 (fun C2 f2 hc2 hk2 _ => ⟨rfl, fun _ => b_X10_accept_0 F ⟨rfl, rfl, rfl, ?_⟩, fun z => absurd ht z⟩)
    have r83 : ∀ i, upC C2 0 16 0 83 i = C 83 i := fun i => by rw [upC_ne (by decide), f2 83 i (by omega), m.1 83 i (by unfold chF; omega)]
    have r83' : upC C2 0 16 0 83 = C 83 := funext r83
    have r8142 : upC C2 0 16 0 81 42 = C 81 42 := by rw [upC_ne (by decide), f2 81 42 (by omega), m.1 81 42 (by unfold chF; omega)]
    refine hM _ _ (by rw [r83', ← e45, ← hW]; exact hc.2.2.2 n (Nat.le_refl _)) (by rw [r83']; exact b45) (by rw [r8142]; omega) (fun t' D' hT' h1' h2' => ?_)
    rw [r83', ← e45] at hT'
    have et : t' = t := Tld_uniq hT' hT
    subst et
    have m' := h1' ht
    rw [r83'] at m'
    refine ⟨fun _ => ⟨rfl, k _ _ ?_⟩, fun z => by omega⟩
    have hm0 : HsM (upC C2 0 16 0) (C 56) n W := by
      obtain ⟨x1, x2, x3⟩ := hm
      have r104 : ∀ i, upC C2 0 16 0 104 i = C 104 i := fun i => by rw [upC_ne (by decide), f2 104 i (by omega), m.1 104 i (by unfold chF; omega)]
      refine ⟨fun i y0 y1 => by rw [r83]; exact x1 i y0 y1, by rw [r8142]; exact x2, fun i hi => ⟨fun q y0 y1 => by rw [r104]; exact (x3 i hi).1 q y0 y1, by rw [r104]; exact (x3 i hi).2⟩⟩
    have hm1 := HsM_step (kd' := C1 56) hm0 m' (fun j hj => m.1 56 j (by unfold chF; omega)) m.2.2.2.1
    have hm2 := HsM_shift (kd' := C2 56) hm1 hk2
    have fD : Fp (fun a k => a = 104 ∨ (a = 81 ∧ k = 42) ∨ (a = 83 ∧ 0 ≤ k ∧ k < 25)) (upC C2 0 16 0) D' := m'.1
    have ns : (fun j => sucW W n (chW kind f g (C 83)) (n + 1 - min (n + 1) 16 + j)) (min (n + 1) 16) = chW kind f g (C 83) := by
      show sucW W n _ (n + 1 - min (n + 1) 16 + min (n + 1) 16) = _
      rw [show n + 1 - min (n + 1) 16 + min (n + 1) 16 = n + 1 by omega, sucW_gt]
    have hs2 := hc2.2.1
    rw [ns] at hs2
    have rG : ∀ a j, a < 81 → a ≠ 0 → upC D' 81 0 0 a j = C2 a j := fun a j h1 h2 => by rw [upC_ne (by omega), fD a j (by omega), upC_ne h2]
    have hf : Fp (fun a k => ckF a k ∨ (a = 0 ∧ k = 16) ∨ (a = 81 ∧ k = 0)) C (upC D' 81 0 0) := Fp_up (by omega) (Fp_tr (Fp_up (by omega) (Fp_tr (Fp_mono m.1 (fun a k h => by unfold chF at h; unfold ckF; omega)) (Fp_mono f2 (fun a k h => by unfold ckF; omega)))) (Fp_mono fD (fun a k h => by unfold ckF; omega)))
    refine Inv_w I (by rw [e45] at hst ⊢; exact hst.2) ⟨fun j x0 x1 => ?_, fun j x0 x1 => ?_, ?_⟩ (fun i x0 x1 => ?_) hf ?_ (upC_at _ _ _ _) (IvU_of (n := min (n + 1) 16) (W := fun j => sucW W n (chW kind f g (C 83)) (n + 1 - min (n + 1) 16 + j)) (by omega) ⟨?_, ?_, fun j hj => ?_, fun j hj => ?_⟩ ⟨fun i x0 x1 => ?_, ?_, fun i hi => ⟨fun q x0 x1 => ?_, ?_⟩⟩ ?_)
    · rw [rG _ _ (by decide) (by decide)]; exact hs2.1 j x0 x1
    · rw [rG _ _ (by decide) (by decide)]; exact hs2.2.1 j x0 x1
    · rw [rG _ _ (by decide) (by decide)]; exact hs2.2.2
    · rw [upC_ne (by decide)]; exact m'.2.1 i x0 x1
    · rw [upC_ne (by decide), fD 0 16 (by omega), upC_at]
    · rw [rG _ _ (by decide) (by decide)]; exact hc2.1
    · rw [ns]
      exact ⟨fun j x0 x1 => by rw [rG _ _ (by decide) (by decide)]; exact hs2.1 j x0 x1, fun j x0 x1 => by rw [rG _ _ (by decide) (by decide)]; exact hs2.2.1 j x0 x1, by rw [rG _ _ (by decide) (by decide)]; exact hs2.2.2⟩
    · rw [rG _ _ (by decide) (by decide), rG _ _ (by decide) (by decide), rG _ _ (by decide) (by decide)]
      exact hc2.2.2.1 j hj
    · rw [rG _ _ (by decide) (by decide)]; exact hc2.2.2.2 j hj
    · rw [upC_ne (by decide)]; exact hm2.1 i x0 x1
    · rw [upC_sK (by decide)]; exact hm2.2.1
    · rw [upC_ne (by decide)]; exact (hm2.2.2 i hi).1 q x0 x1
    · rw [upC_ne (by decide), rG _ _ (by decide) (by decide)]; exact (hm2.2.2 i hi).2
    · rw [hf 83 45 (by unfold ckF; omega), hf 1 0 (by unfold ckF; omega), e45]
  · have e1 := h2 (by omega)
    subst e1
    have hok := Tld_neg (by rw [← hW]; exact hc.2.2.2 n (Nat.le_refl _)) hT (by omega)
    refine s_keepLatest F (by omega) hc (fun C2 _ _ _ e2 => ⟨rfl, fun z => absurd z ht, fun _ => ?_⟩)
    rw [e2 hn]
    refine s_refuse F hok ⟨rfl, rfl, rfl, ?_⟩
    have r83 : rfC C1 t 83 = C1 83 := rf83 83 (by decide) (by decide)
    have r81 : rfC C1 t 81 = C1 81 := by unfold rfC; rw [upC_ne (by decide), upC_ne (by decide)]
    refine hM _ _ (by rw [r83, ← e45, ← hW]; exact hc.2.2.2 n (Nat.le_refl _)) (by rw [r83]; exact b45) (by rw [r81]; omega) (fun t' D' hT' h1' h2' => ?_)
    rw [r83, ← e45] at hT'
    have et : t' = t := Tld_uniq hT' hT
    subst et
    refine ⟨fun z => absurd z ht, fun z => ⟨rfl, ?_⟩⟩
    rw [h2' z]
    exact k _ _ (Inv_refuse hok I)
theorem s_goodOr {d mc ms : Nat} {t : Int} {S : MS} {C : MC} {Q : Qt} (F : Fix S) (hk : t < 0 → okR t) (h1 : 0 ≤ t → Q t S (upC C 81 0 0)) (h2 : t < 0 → Q t S (rfM C t)) : K_X11_goodOr_0 (d + 1) mc ms t S C Q :=
  b_X11_goodOr_0 F ⟨fun z => b_X11_good_0 F ⟨rfl, h1 z⟩, fun z => s_refuses F (hk (by omega)) ⟨rfl, h2 (by omega)⟩⟩
theorem q_note {d : Nat} {l1 l2 : Int} {S : MS} {C : MC} {P : Int → Int → MC → Prop} (I : Inv S C) (k : ∀ r C', Inv S C' → P r r C') : K_X10_note_0 (d + 5) 0 0 l1 l2 S C (fun r Sq C2 => Sq = S ∧ K_X11_note_0 (d + 5) 0 0 l1 l2 S C2 (fun r2 Sq C3 => Sq = S ∧ P r r2 C3)) := by
  have F := I.1
  refine b_X10_note_0 F (q_change (kind := 0) (f := l1) (g := l2) (KM := fun D Q => K_X11_note_0 (d + 5) 0 0 l1 l2 S D Q) I k (by omega) (fun D Q w1 w2 w3 h => ?_))
  exact b_X11_note_0 F (s_notesKept F w1 w3 (fun t D' a b c => ⟨rfl, s_goodOr F (fun z => Tld_neg w1 a z) (fun z => ⟨rfl, (h t D' a b c).1 z⟩) (fun z => ⟨rfl, (h t D' a b c).2 z⟩)⟩))
theorem q_give {d : Nat} {l1 l2 : Int} {S : MS} {C : MC} {P : Int → Int → MC → Prop} (I : Inv S C) (k : ∀ r C', Inv S C' → P r r C') : K_X10_give_0 (d + 5) 0 0 l1 l2 S C (fun r Sq C2 => Sq = S ∧ K_X11_give_0 (d + 5) 0 0 l1 l2 S C2 (fun r2 Sq C3 => Sq = S ∧ P r r2 C3)) := by
  have F := I.1
  refine b_X10_give_0 F (q_change (kind := 1) (f := l1) (g := l2) (KM := fun D Q => K_X11_give_0 (d + 5) 0 0 l1 l2 S D Q) I k (by omega) (fun D Q w1 w2 w3 h => ?_))
  exact b_X11_give_0 F (s_givesKept F w2 w1 w3 (fun t D' a b c => ⟨rfl, s_goodOr F (fun z => Tld_neg w1 a z) (fun z => ⟨rfl, (h t D' a b c).1 z⟩) (fun z => ⟨rfl, (h t D' a b c).2 z⟩)⟩))
theorem q_shift {d : Nat} {l1 : Int} {S : MS} {C : MC} {P : Int → Int → MC → Prop} (I : Inv S C) (k : ∀ r C', Inv S C' → P r r C') : K_X10_shift_0 (d + 5) 0 0 l1 S C (fun r Sq C2 => Sq = S ∧ K_X11_shift_0 (d + 5) 0 0 l1 S C2 (fun r2 Sq C3 => Sq = S ∧ P r r2 C3)) := by
  have F := I.1
  refine b_X10_shift_0 F (q_change (kind := 2) (f := l1) (g := 0) (KM := fun D Q => K_X11_shift_0 (d + 5) 0 0 l1 S D Q) I k (by omega) (fun D Q w1 w2 w3 h => ?_))
  exact b_X11_shift_0 F (s_shiftsKept (g := 0) F w1 w3 (fun t D' a b c => ⟨rfl, s_goodOr F (fun z => Tld_neg w1 a z) (fun z => ⟨rfl, (h t D' a b c).1 z⟩) (fun z => ⟨rfl, (h t D' a b c).2 z⟩)⟩))
theorem q_pass {d : Nat} {S : MS} {C : MC} {P : Int → Int → MC → Prop} (I : Inv S C) (k : ∀ r C', Inv S C' → P r r C') : K_X10_pass_0 (d + 5) 0 0 S C (fun r Sq C2 => Sq = S ∧ K_X11_pass_0 (d + 5) 0 0 S C2 (fun r2 Sq C3 => Sq = S ∧ P r r2 C3)) := by
  have F := I.1
  refine b_X10_pass_0 F (q_change (kind := 3) (f := 0) (g := 0) (KM := fun D Q => K_X11_pass_0 (d + 5) 0 0 S D Q) I k (by omega) (fun D Q w1 w2 w3 h => ?_))
  exact b_X11_pass_0 F (s_passesKept (f := 0) (g := 0) F w1 w3 (fun t D' a b c => ⟨rfl, s_goodOr F (fun z => Tld_neg w1 a z) (fun z => ⟨rfl, (h t D' a b c).1 z⟩) (fun z => ⟨rfl, (h t D' a b c).2 z⟩)⟩))
theorem q_undo {d : Nat} {S : MS} {C : MC} {P : Int → Int → MC → Prop} (I : Inv S C) (k : ∀ r C', Inv S C' → P r r C') : K_X10_undo_0 (d + 3) 0 0 S C (fun r Sq C2 => Sq = S ∧ K_X11_undo_0 (d + 3) 0 0 S C2 (fun r2 Sq C3 => Sq = S ∧ P r r2 C3)) := by
  have F := I.1
  obtain ⟨n, W, hn, hc, hm, hW⟩ := hist_of I
  have e45 := I.2.1.1.1
  obtain ⟨c1, c2, c3, c4⟩ := hc
  obtain ⟨m1, m2, m3⟩ := hm
  rw [Nat.min_eq_left hn] at m2 m3
  refine b_X10_undo_0 F ?_
  cases n with
  | zero =>
    refine b_X0_takeBack_0 F ⟨fun z => absurd c1 z, fun _ => ⟨rfl, fun z => absurd z (by decide), fun _ => s_refuse F (by unfold okR; omega) ⟨rfl, rfl, ?_⟩⟩⟩
    have r81 : rfC C (-3) 81 42 = 0 := by unfold rfC; rw [upC_ne (by decide), upC_ne (by decide)]; exact m2
    exact b_X11_undo_0 F ⟨fun z => absurd r81 z, fun _ => s_refuses F (by unfold okR; omega) ⟨rfl, rfl, k _ _ (Inv_refuse (by unfold okR; omega) I)⟩⟩
  | succ n =>
    have hu := c3 n (by omega)
    have hw' := c4 n (by omega)
    have kr : 0 ≤ C 56 n := by rcases hu with ⟨z, _⟩ | ⟨z, _⟩ | ⟨z, _⟩ | ⟨z, _⟩ <;> omega
    refine s_takeBack F c1 (by omega) c2 hw' hu (fun C1 f1 g1 g2 => ⟨rfl, fun _ => b_X10_accept_0 F ⟨rfl, rfl, ?_⟩, fun z => absurd kr z⟩)
    have r1 : ∀ a j, 81 ≤ a → upC C1 0 16 0 a j = C a j := fun a j ha => by rw [upC_ne (by omega), f1 a j (by omega)]
    refine b_X11_undo_0 F ?_
    rw [r1 81 42 (by decide), m2, w32_lit (x := ((n + 1 : Nat) : Int) - 1) (by omega), show ((n + 1 : Nat) : Int) - 1 = n by omega, w32_lit (x := 26 * (n : Int)) (by omega)]
    refine ⟨fun _ => ?_, fun z => by omega⟩
    have m3n := m3 n (by omega)
    rw [Nat.sub_self, Nat.zero_add] at m3n
    refine up_ind (α := MC) (P := fun j D => Fp (fun a k => a = 83 ∧ 0 ≤ k ∧ k < 25) (upC (upC C1 0 16 0) 81 42 n) D ∧ ∀ i : Int, 0 ≤ i → i < j → D 83 i = W n i) (K := fun j D => K_X11_undo_34 (d + 3) 0 0 (26 * (n : Int)) (j : Int) S D (fun r2 Sq C3 => Sq = S ∧ P (C 56 n) r2 C3)) 25 ?_ ?_ 0 (by omega) _ ⟨Fp_rf, fun i x0 x1 => by omega⟩
    · intro D ⟨d1, d2⟩
      have r104 : ∀ i, D 104 i = C 104 i := fun i => by rw [d1 104 i (by omega), upC_ne (by decide), r1 104 i (by decide)]
      refine b_X11_undo_34 F ?_
      rw [w32_lit (x := 26 * (n : Int) + 25) (by omega), r104, m3n.2]
      refine ⟨fun _ => ⟨by omega, b_X11_good_0 F ⟨rfl, rfl, k _ _ ?_⟩⟩, fun z => absurd (by decide) z⟩
      have rG : ∀ a j, a < 81 → a ≠ 0 → upC D 81 0 0 a j = C1 a j := fun a j h1 h2 => by rw [upC_ne (by omega), d1 a j (by omega), upC_ne (by omega), upC_ne h2]
      have hf : Fp (fun a k => ckF a k ∨ (a = 0 ∧ k = 16) ∨ (a = 81 ∧ k = 0)) C (upC D 81 0 0) := Fp_up (by omega) (Fp_tr (Fp_up (by unfold ckF; omega) (Fp_up (by omega) (Fp_mono f1 (fun a k h => by unfold ckF; omega)))) (Fp_mono d1 (fun a k h => by unfold ckF; omega)))
      have st : StC (upC D 81 0 0) (W n) := ⟨fun j x0 x1 => by rw [rG _ _ (by decide) (by decide)]; exact g2.1 j x0 x1, fun j x0 x1 => by rw [rG _ _ (by decide) (by decide)]; exact g2.2.1 j x0 x1, by rw [rG _ _ (by decide) (by decide)]; exact g2.2.2⟩
      refine Inv_w I hw' st (fun i x0 x1 => by rw [upC_ne (by decide)]; exact d2 i x0 x1) hf ?_ (upC_at _ _ _ _) (IvU_of (n := n) (W := W) (by omega) ⟨?_, st, fun j hj => ?_, fun j hj => ?_⟩ ⟨fun i x0 x1 => by rw [upC_ne (by decide)]; exact d2 i x0 x1, ?_, fun i hi => ?_⟩ ?_)
      · rw [upC_ne (by decide), d1 0 16 (by omega), upC_ne (by decide), upC_at]
      · rw [rG _ _ (by decide) (by decide)]; exact g1
      · rw [rG _ _ (by decide) (by decide), rG _ _ (by decide) (by decide), rG _ _ (by decide) (by decide), f1 56 j (by omega), f1 57 j (by omega), f1 58 j (by omega)]
        exact c3 j (by omega)
      · rw [rG _ _ (by decide) (by decide), f1 1 0 (by omega)]; exact c4 j (by omega)
      · rw [upC_sK (by decide), d1 81 42 (by omega), upC_at, Nat.min_eq_left (by omega)]
      · rw [Nat.min_eq_left (by omega)] at hi ⊢
        have z := m3 i (by omega)
        rw [Nat.sub_self, Nat.zero_add] at z ⊢
        refine ⟨fun q x0 x1 => ?_, ?_⟩
        · rw [upC_ne (by decide), r104]; exact z.1 q x0 x1
        · rw [upC_ne (by decide), r104, rG _ _ (by decide) (by decide), f1 56 i (by omega)]; exact z.2
      · rw [hf 83 45 (by unfold ckF; omega), hf 1 0 (by unfold ckF; omega), e45]
    · intro j D hj ⟨d1, d2⟩ ih
      have r104 : ∀ i, D 104 i = C 104 i := fun i => by rw [d1 104 i (by omega), upC_ne (by decide), r1 104 i (by decide)]
      refine b_X11_undo_34 F ⟨fun z => by omega, fun _ => ?_⟩
      rw [w32_lit (x := 26 * (n : Int) + (j : Int)) (by omega), w32_succ (by omega), r104, m3n.1 j (by omega) (by omega)]
      refine ⟨by omega, by omega, ih _ ⟨Fp_up (by omega) d1, fun i x0 x1 => ?_⟩⟩
      by_cases q : i = j
      · rw [q, upC_at]
      · rw [upC_sK q]; exact d2 i x0 (by omega)
