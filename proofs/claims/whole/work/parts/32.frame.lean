/-! 32.frame: loops by counting up; scratch cells; what stays of the invariant -/
theorem up_ind {α : Type} {P K : Nat → α → Prop} (n : Nat) (hend : ∀ C, P n C → K n C) (hstep : ∀ k C, k < n → P k C → (∀ C', P (k + 1) C' → K (k + 1) C') → K k C) : ∀ i, i ≤ n → ∀ C, P i C → K i C := by
  intro i hi
  obtain ⟨m, hm⟩ : ∃ m, i + m = n := ⟨n - i, by omega⟩
  clear hi
  induction m generalizing i with
  | zero =>
    intro C hC
    have : i = n := by omega
    subst this
    exact hend C hC
  | succ m ih =>
    intro C hC
    exact hstep i C (by omega) hC (fun C' h' => ih (i + 1) (by omega) C' h')
theorem Fp_tr {p : Int → Int → Prop} {C C1 C2 : MC} (h : Fp p C C1) (g : Fp p C1 C2) : Fp p C C2 := fun a k hk => (g a k hk).trans (h a k hk)
theorem Fp_mono {p q : Int → Int → Prop} {C C1 : MC} (h : Fp p C C1) (hpq : ∀ a k, p a k → q a k) : Fp q C C1 := fun a k hk => h a k (fun z => hk (hpq a k z))
theorem Fp_cp {p : Int → Int → Prop} {C C' : MC} {a sp b dp n : Int} (hc : ∀ j, dp ≤ j → j < dp + n → p b j) (h : Fp p C C') : Fp p C (cpC C' a sp b dp n) := by
  intro x j hx
  unfold cpC
  rw [if_neg (fun z => hx (by rw [z.1]; exact hc j z.2.1 z.2.2))]
  exact h x j hx
/-- cells that hold nothing between two calls -/
def scr (a k : Int) : Prop := (9 ≤ a ∧ a < 17) ∨ (a = 29 ∧ k ≠ 11) ∨ (30 ≤ a ∧ a < 55) ∨ (a = 59 ∧ k ≠ 4) ∨ (60 ≤ a ∧ a < 64) ∨ (a = 81 ∧ k ≠ 0 ∧ k ≠ 6 ∧ k ≠ 13 ∧ k ≠ 14 ∧ k ≠ 42 ∧ k ≠ 43 ∧ k ≠ 51) ∨ a = 86 ∨ (89 ≤ a ∧ a < 104) ∨ a = 105 ∨ a = 106 ∨ (a = 83 ∧ (k = 55 ∨ (2456 ≤ k ∧ k < 2856) ∨ 5256 ≤ k))
def Ss (S S' : MS) : Prop := S'.1 = S.1 ∧ S'.2.1 = S.2.1 ∧ S'.2.2.1 = S.2.2.1 ∧ S'.2.2.2.2 = S.2.2.2.2 ∧ ∀ a k, a ≠ 44 → a ≠ 15 → a ≠ 23 → S'.2.2.2.1 a k = S.2.2.2.1 a k
theorem Ss_rf (S : MS) : Ss S S := ⟨rfl, rfl, rfl, rfl, fun _ _ _ _ _ => rfl⟩
theorem Ss_tr {S S1 S2 : MS} (h : Ss S S1) (g : Ss S1 S2) : Ss S S2 := ⟨g.1.trans h.1, g.2.1.trans h.2.1, g.2.2.1.trans h.2.2.1, g.2.2.2.1.trans h.2.2.2.1, fun a k h1 h2 h3 => (g.2.2.2.2 a k h1 h2 h3).trans (h.2.2.2.2 a k h1 h2 h3)⟩
theorem Ss_up {S : MS} {a k v : Int} (h : a = 44 ∨ a = 15 ∨ a = 23) : Ss S (upP S a k v) := ⟨rfl, rfl, rfl, rfl, fun b j h1 h2 h3 => by
  show upC S.2.2.2.1 a k v b j = _
  rw [upC_get, if_neg (fun z => by omega)]⟩
theorem TxO_ss {S S' : MS} {t : Int} (hs : Ss S S') (h : TxO S t) (ht : 108 ≤ t) : TxO S' t := by
  obtain ⟨e1, e2, e3, e4, e5⟩ := hs
  have e : S'.2.2.2.1 t = S.2.2.2.1 t := funext fun k => e5 t k (by omega) (by omega) (by omega)
  unfold TxO at h ⊢
  rw [e1, e2, e]
  exact h
/-- texts that stay -/
def TxK (S S' : MS) : Prop := ∀ t, TxO S t → 108 ≤ t → TxO S' t ∧ ∀ j, 1 ≤ j → j ≤ 6 → S'.2.2.1 (t + j) = S.2.2.1 (t + j)
theorem TxK_ss {S S' : MS} (hs : Ss S S') : TxK S S' := fun t h ht => ⟨TxO_ss hs h ht, fun _ _ _ => by rw [hs.2.2.1]⟩
theorem Re_S {S S' : MS} {C : MC} {a : Int} {κ : Int → Int} (h : Re S C a κ) (hT : TxK S S') (hr : ∀ i, 0 ≤ i → i < 6 → S'.2.2.2.1 (a + 6) i = S.2.2.2.1 (a + 6) i) : Re S' C a κ := by
  refine ⟨h.1, h.2.1, fun t x0 x1 => ?_, fun t x0 x1 => ?_⟩
  · rw [hr t x0 x1]
    rcases h.2.2.1 t x0 x1 with e | e
    · exact Or.inl e
    · exact Or.inr ⟨(hT _ e.1 e.2).1, e.2⟩
  · have h6 := h.1.2.2
    rw [hr t x0 (by omega)]
    obtain ⟨q1, q2, q3, q4⟩ := h.2.2.2 t x0 x1
    obtain ⟨r1, r2⟩ := hT _ q1.1 q1.2
    unfold LawRel LnT
    rw [r2 1 (by decide) (by decide), r2 6 (by decide) (by decide), r2 2 (by decide) (by decide), r2 3 (by decide) (by decide), r2 4 (by decide) (by decide), r2 5 (by decide) (by decide)]
    exact ⟨⟨r1, q1.2⟩, q2, q3, q4⟩
theorem RS_S {S S' : MS} {C : MC} {a : Int} {κ : Int → Int} (h : RS S C a κ) (hT : TxK S S') (hr : ∀ i, 0 ≤ i → i < 6 → S'.2.2.2.1 (a + 6) i = S.2.2.2.1 (a + 6) i) : RS S' C a κ :=
  ⟨h.1, h.2.1, h.2.2.1, h.2.2.2.1, Re_S h.2.2.2.2.1 hT hr, h.2.2.2.2.2⟩
def ktI (i : Int) : Prop := (0 ≤ i ∧ i < 55) ∨ (56 ≤ i ∧ i < 2456) ∨ (2856 ≤ i ∧ i < 5256)
theorem RS_cong2 {S : MS} {C C' : MC} {a : Int} {κ κ' : Int → Int} (h : RS S C a κ) (h0 : ∀ j, 0 ≤ j → j < 8 → C' (a + j) = C (a + j)) (hc : ∀ b, 108 ≤ b → C' b = C b) (hk : ∀ i, ktI i → κ' i = κ i) : RS S C' a κ' := by
  have e0 : C' a = C a := by have := h0 0 (by omega) (by omega); rwa [Int.add_zero] at this
  obtain ⟨h1, h2, h3, h4, h5, h6⟩ := h
  unfold ktI at hk
  exact ⟨Ra_cong h1 (by rw [e0]) (h0 1 (by omega) (by omega)) (h0 2 (by omega) (by omega)) (fun i _ => hk i (by omega)), Rb_cong h2 (h0 3 (by omega) (by omega)) (fun i _ => hk i (by omega)), Rc_cong h3 (h0 4 (by omega) (by omega)) (fun i _ => hk i (by omega)), Rd_cong h4 (by rw [e0]) (h0 5 (by omega) (by omega)) (fun i _ => hk i (by omega)), Re_cong h5 (by rw [e0]) (by rw [e0]) hc (fun i hi => hk i (by unfold lwI at hi; omega)), Rf_cong h6 (h0 7 (by omega) (by omega)) (fun i _ => hk i (by omega))⟩
theorem IvI_S {S S' : MS} {C : MC} (h : IvI S C) (hT : TxK S S') (hr : ∀ a i, a = 71 ∨ a = 79 → S'.2.2.2.1 a i = S.2.2.2.1 a i) : IvI S' C := fun k x0 x1 =>
  ⟨(h k x0 x1).1, fun e => RS_S ((h k x0 x1).2 e) hT (fun i _ _ => hr _ i (by omega))⟩
theorem Inv_sc {S S' : MS} {C C' : MC} (I : Inv S C) (F' : Fix S') (hs : Ss S S') (h : Fp scr C C') : Inv S' C' := by
  obtain ⟨F, iN, iI, iR, iT, iX, iU, iE, iW⟩ := I
  have hT := TxK_ss hs
  have rw1 : ∀ b, (∀ k, ¬ scr b k) → C' b = C b := fun b hb => fp_row h hb
  refine ⟨F', RS_cong2 (RS_S iN hT (fun i _ _ => hs.2.2.2.2 _ i (by omega) (by omega) (by omega))) (fun j x0 x1 => rw1 _ (fun k => by unfold scr; omega)) (fun b hb => rw1 b (fun k => by unfold scr; omega)) (fun i hi => h 83 i (by unfold scr; unfold ktI at hi; omega)),
    IvI_cong (IvI_S iI hT (fun a i ha => hs.2.2.2.2 _ i (by omega) (by omega) (by omega))) (rw1 _ (fun k => by unfold scr; omega)) (rw1 _ (fun k => by unfold scr; omega)) (rw1 _ (fun k => by unfold scr; omega)) (fun b x0 x1 => rw1 _ (fun k => by unfold scr; omega)) (fun b hb => rw1 b (fun k => by unfold scr; omega)),
    IvR_cong iR (h _ _ (by unfold scr; omega)) (h _ _ (by unfold scr; omega)) (rw1 _ (fun k => by unfold scr; omega)) (rw1 _ (fun k => by unfold scr; omega)),
    IvT_cong iT (h _ _ (by unfold scr; omega)) (h _ _ (by unfold scr; omega)) (rw1 _ (fun k => by unfold scr; omega)) (rw1 _ (fun k => by unfold scr; omega)),
    IvX_cong iX (h _ _ (by unfold scr; omega)) (h _ _ (by unfold scr; omega)) (h _ _ (by unfold scr; omega)) (h _ _ (by unfold scr; omega)) (h _ _ (by unfold scr; omega)) (h _ _ (by unfold scr; omega)),
    IvU_cong iU (h _ _ (by unfold scr; omega)) (h _ _ (by unfold scr; omega)) (fun i hi => h _ _ (by unfold scr; omega)) (rw1 _ (fun k => by unfold scr; omega)) (rw1 _ (fun k => by unfold scr; omega)) (rw1 _ (fun k => by unfold scr; omega)) (rw1 _ (fun k => by unfold scr; omega)),
    IvE_cong iE (h _ _ (by unfold scr; omega)) (h _ _ (by unfold scr; omega)) (rw1 _ (fun k => by unfold scr; omega)) (rw1 _ (fun k => by unfold scr; omega)) (rw1 _ (fun k => by unfold scr; omega)), IvW_cong iW (rw1 _ (fun k => by unfold scr; omega))⟩
/-- the invariant out of a frame p that may touch what is told anew -/
theorem w32_pred {k : Nat} (h : k < 2000000000) : w32 (((k + 1 : Nat) : Int) + (-1)) = (k : Int) := by rw [w32_lit (by omega)]; omega
theorem in32_up {C : MC} {a k v : Int} {b : Int} (h : ∀ j, in32 (C b j)) (hv : in32 v) : ∀ j, in32 (upC C a k v b j) := fun j => by
  rw [upC_get]; split
  · exact hv
  · exact h j
