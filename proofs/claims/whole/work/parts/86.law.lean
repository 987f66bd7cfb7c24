/-! 86.law: the call law -/
theorem w32_pm {n : Nat} (h : n ≤ 1000) : w32 (w32 ((n : Int) + 1) - 1) = n := by
  rw [w32_lit (x := (n : Int) + 1) (by omega), w32_lit (by omega)]; omega
theorem cpL_TxK {t i : Int} {cn cm : Nat} {S : MS} (ht : S.1 = t) : TxK S (upP (cpL t (lenF cn cm) S 6) 7 i t) := by
  intro t0 h0 h1
  have hb := h0.2.1
  rw [ht] at hb
  have rf : ∀ j, (upP (cpL t (lenF cn cm) S 6) 7 i t).2.2.2.1 t0 j = S.2.2.2.1 t0 j := fun j => by
    show upC (cpL t (lenF cn cm) S 6).2.2.2.1 7 i t t0 j = _
    rw [upC_ne (by omega), cpL_p ht 6, if_neg (by omega), if_neg (by omega)]
  have tg : ∀ a, a < t → (upP (cpL t (lenF cn cm) S 6) 7 i t).2.1 a = S.2.1 a := fun a ha => by
    show (cpL t (lenF cn cm) S 6).2.1 a = _
    rw [cpL_t ht 6, if_neg (by omega), if_neg (by omega)]
  refine ⟨?_, fun j j0 j1 => ?_⟩
  · unfold TxO at h0 ⊢
    rw [tg t0 (by omega), tg _ (by omega), tg _ (by omega), tg _ (by omega), tg _ (by omega), tg _ (by omega), tg _ (by omega), rf, rf, rf, rf, rf, rf]
    refine ⟨h0.1, ?_, h0.2.2⟩
    show t0 + 6 < (cpL t (lenF cn cm) S 6).1
    rw [cpL_1 ht 6]; omega
  · show (cpL t (lenF cn cm) S 6).2.2.1 (t0 + j) = _
    rw [cpL_l ht 6, if_neg (by omega), if_neg (by omega)]
theorem cpL_TxO {t i : Int} {cn cm : Nat} {S : MS} (ht : S.1 = t) (h : 108 ≤ t) : TxO (upP (cpL t (lenF cn cm) S 6) 7 i t) t ∧ (∀ j, 1 ≤ j → j ≤ 5 → (upP (cpL t (lenF cn cm) S 6) 7 i t).2.2.1 (t + j) = cn) ∧ (upP (cpL t (lenF cn cm) S 6) 7 i t).2.2.1 (t + 6) = cm := by
  have tg : ∀ a, 1 ≤ a → a ≤ 6 → (upP (cpL t (lenF cn cm) S 6) 7 i t).2.1 (t + a) = 20 := fun a h1 h2 => by
    show (cpL t (lenF cn cm) S 6).2.1 (t + a) = _
    rw [cpL_t ht 6, if_neg (by omega), if_pos (by omega)]
  have rf : ∀ j, 3 ≤ j → j ≤ 8 → (upP (cpL t (lenF cn cm) S 6) 7 i t).2.2.2.1 t j = t + (j - 2) := fun j j0 j1 => by
    show upC (cpL t (lenF cn cm) S 6).2.2.2.1 7 i t t j = _
    rw [upC_ne (by omega), cpL_p ht 6, if_pos (by omega)]; omega
  have t9 : (upP (cpL t (lenF cn cm) S 6) 7 i t).2.1 t = 9 := by
    show (cpL t (lenF cn cm) S 6).2.1 t = _
    rw [cpL_t ht 6, if_pos rfl]
  refine ⟨⟨by omega, ?_, t9, rf 3 (by decide) (by decide), tg 1 (by decide) (by decide), rf 4 (by decide) (by decide), tg 2 (by decide) (by decide), rf 5 (by decide) (by decide), tg 3 (by decide) (by decide), rf 6 (by decide) (by decide), tg 4 (by decide) (by decide), rf 7 (by decide) (by decide), tg 5 (by decide) (by decide), rf 8 (by decide) (by decide), tg 6 (by decide) (by decide)⟩, fun j j0 j1 => ?_, ?_⟩
  · show t + 6 < (cpL t (lenF cn cm) S 6).1
    rw [cpL_1 ht 6]; omega
  · show (cpL t (lenF cn cm) S 6).2.2.1 (t + j) = _
    rw [cpL_l ht 6, if_pos (by omega)]
    unfold lenF
    rw [if_pos (by omega)]
  · show (cpL t (lenF cn cm) S 6).2.2.1 (t + 6) = _
    rw [cpL_l ht 6, if_pos (by omega)]
    unfold lenF
    rw [if_neg (by omega)]
def lwx (n : Nat) (a k : Int) : Prop := rd0 a k ∨ md0 a k ∨ (a = 1 ∧ k = 8) ∨ (a = 0 ∧ k = 16) ∨ lyx n a k ∨ (a = 83 ∧ k = 47) ∨ (a = 81 ∧ k = 0)
/-- the invariant behind a new law -/
theorem Inv_law {S : MS} {C C1 G : MC} {n cn cm : Nat} {t : Int} {τ : Tks} {cls : List Cla} {cd : List Int} (I : Inv S C) (ht : S.1 = t) (hn : C 83 47 = n) (hn6 : n < 6) (hτ : τ.length ≤ 400) (hp : lawP τ = .inr (cls, cd)) (hcn : cn = cls.length) (hcm : cm = cd.length) (hX : TxtIs (fun a : Nat => C1 (30 + a)) cls cd) (gA : ∀ a k, a < t → ¬ lwx n a k → G a k = C a k) (gN : ∀ a, t ≤ a → G a = cpE t cn cm C1 a) (g18 : G 1 8 = ((n + 1 : Nat) : Int)) (g47 : G 83 47 = ((n + 1 : Nat) : Int)) (g49 : G 83 (49 + n) = τ.length) (gT : ∀ j : Nat, j < τ.length → G 83 (56 + 400 * n + j) = tc τ j ∧ G 83 (2856 + 400 * n + j) = tv τ j) (g016 : G 0 16 = 0) (g810 : G 81 0 = 0) (g27 : G 27 1 = 0) (g13 : G 81 13 = 0) (g11 : G 29 11 = -1) (g14 : G 81 14 = -1) : Inv (upP (cpL t (lenF cn cm) S 6) 7 (n : Int) t) G := by
  obtain ⟨F, iN, iI, iR, iT, iX, iU, iE, iW⟩ := I
  have h108 : 108 ≤ t := by rw [← ht]; exact F.1
  have F' : Fix (upP (cpL t (lenF cn cm) S 6) 7 (n : Int) t) := fix_laws (a := 1) (cpL_fix F ht 6) isSt1
  have hT : TxK S (upP (cpL t (lenF cn cm) S 6) 7 (n : Int) t) := cpL_TxK ht
  obtain ⟨tx, tl, tl6⟩ := cpL_TxO (i := (n : Int)) (cn := cn) (cm := cm) ht h108
  have gR : ∀ a, a < t → (∀ k, ¬ lwx n a k) → G a = C a := fun a ha h => funext fun k => gA a k ha (h k)
  have hi : ∀ b, 108 ≤ b → b < S.1 → G b = C b := fun b b0 b1 => gR b (by omega) (fun k => by unfold lwx rd0 md0 lyx; omega)
  have k83 : ∀ i, i < 47 ∨ i = 48 → G 83 i = C 83 i := fun i h => gA 83 i (by omega) (by unfold lwx rd0 md0 lyx; omega)
  obtain ⟨a1, a2, a3, a4, a5, a6⟩ := iN
  have refs : ∀ a i, a < t → a ≠ 7 → (upP (cpL t (lenF cn cm) S 6) 7 (n : Int) t).2.2.2.1 a i = S.2.2.2.1 a i := fun a i h1 h2 => by
    show upC (cpL t (lenF cn cm) S 6).2.2.2.1 7 (n : Int) t a i = _
    rw [upC_ne h2, cpL_p ht 6, if_neg (by omega), if_neg (by omega)]
  have ref7 : ∀ i, i ≠ (n : Int) → (upP (cpL t (lenF cn cm) S 6) 7 (n : Int) t).2.2.2.1 7 i = S.2.2.2.1 7 i := fun i h1 => by
    show upC (cpL t (lenF cn cm) S 6).2.2.2.1 7 (n : Int) t 7 i = _
    rw [upC_sK h1, cpL_p ht 6, if_neg (by omega), if_neg (by omega)]
  have ref7n : (upP (cpL t (lenF cn cm) S 6) 7 (n : Int) t).2.2.2.1 7 (n : Int) = t := by
    show upC (cpL t (lenF cn cm) S 6).2.2.2.1 7 (n : Int) t 7 (n : Int) = _
    rw [upC_at]
  refine ⟨F', ⟨?_, ?_, ?_, ?_, ?_, ?_⟩, ?_, ?_, IvT_0 g27 g13, ?_, ?_, ?_, ?_⟩
  · exact Ra_cong a1 (gA 1 0 (by omega) (by unfold lwx rd0 md0 lyx; omega)) (gR _ (by omega) (fun k => by unfold lwx rd0 md0 lyx; omega)) (gR _ (by omega) (fun k => by unfold lwx rd0 md0 lyx; omega)) (fun i h => k83 i (by omega))
  · exact Rb_cong a2 (gR _ (by omega) (fun k => by unfold lwx rd0 md0 lyx; omega)) (fun i h => k83 i (by omega))
  · exact Rc_cong a3 (gR _ (by omega) (fun k => by unfold lwx rd0 md0 lyx; omega)) (fun i h => k83 i (by omega))
  · exact Rd_cong a4 (gA 1 6 (by omega) (by unfold lwx rd0 md0 lyx; omega)) (gR _ (by omega) (fun k => by unfold lwx rd0 md0 lyx; omega)) (fun i h => k83 i (by omega))
  · have e9 : G 1 9 = C 1 9 := gA 1 9 (by omega) (by unfold lwx rd0 md0 lyx; omega)
    unfold Re at a5 ⊢
    rw [g18, g47, e9, k83 48 (Or.inr rfl)]
    refine ⟨⟨rfl, by omega⟩, ⟨a5.2.1.1, by have := a5.2.1.2; omega⟩, fun i i0 i1 => ?_, fun i i0 i1 => ?_⟩
    · show (upP (cpL t (lenF cn cm) S 6) 7 (n : Int) t).2.2.2.1 7 i = -1 ∨ _
      by_cases q : i = n
      · right
        show TxO _ ((upP (cpL t (lenF cn cm) S 6) 7 (n : Int) t).2.2.2.1 7 i) ∧ 108 ≤ (upP (cpL t (lenF cn cm) S 6) 7 (n : Int) t).2.2.2.1 7 i
        rw [q, ref7n]
        exact ⟨tx, h108⟩
      · show _ ∨ TxO _ ((upP (cpL t (lenF cn cm) S 6) 7 (n : Int) t).2.2.2.1 7 i) ∧ 108 ≤ (upP (cpL t (lenF cn cm) S 6) 7 (n : Int) t).2.2.2.1 7 i
        rw [ref7 i q]
        rcases a5.2.2.1 i i0 i1 with e | e
        · exact Or.inl e
        · exact Or.inr ⟨(hT _ e.1 e.2).1, e.2⟩
    · show LawRel _ G ((upP (cpL t (lenF cn cm) S 6) 7 (n : Int) t).2.2.2.1 7 i) (G 83) i
      by_cases q : i = n
      · rw [q, ref7n]
        have et : toks (G 83) (n : Int) = τ := toks_of g49 gT
        refine ⟨⟨tx, h108⟩, by rw [g49]; omega, ?_, by rw [tl 2 (by decide) (by decide), tl 1 (by decide) (by decide)], by rw [tl 3 (by decide) (by decide), tl 1 (by decide) (by decide)], by rw [tl 4 (by decide) (by decide), tl 1 (by decide) (by decide)], by rw [tl 5 (by decide) (by decide), tl 1 (by decide) (by decide)]⟩
        rw [et]
        refine ⟨hτ, cls, cd, hp, ?_, by rw [tl 1 (by decide) (by decide), hcn], by rw [tl6, hcm]⟩
        obtain ⟨x0, x1, x2, x3⟩ := hX
        have z0 : t + ((0 : Nat) : Int) = t := Int.add_zero t
        refine ⟨?_, ?_, fun j hj c hc => ?_, fun j x hj => ?_⟩
        · show G (t + ((0 : Nat) : Int)) 0 = _
          rw [z0, gN t (Int.le_refl t), cpE_0.1, hcn]
        · show G (t + ((0 : Nat) : Int)) 1 = _
          rw [z0, gN t (Int.le_refl t), cpE_0.2, hcm]
        · obtain ⟨y1, y2, y3, y4, y5⟩ := x2 j hj c hc
          obtain ⟨w1, w2, w3, w4, w5⟩ := (cpE_r (t := t) (cn := cn) (cm := cm) (C := C1) (j := (j : Int)) (by omega)).1 (by rw [hcn]; omega)
          exact ⟨(congrFun (gN (t + 1) (by omega)) j).trans (w1.trans y1), (congrFun (gN (t + 2) (by omega)) j).trans (w2.trans y2), (congrFun (gN (t + 3) (by omega)) j).trans (w3.trans y3), (congrFun (gN (t + 4) (by omega)) j).trans (w4.trans y4), (congrFun (gN (t + 5) (by omega)) j).trans (w5.trans y5)⟩
        · have hl := (List.getElem?_eq_some_iff.mp hj).1
          have w6 := (cpE_r (t := t) (cn := cn) (cm := cm) (C := C1) (j := (j : Int)) (by omega)).2 (by rw [hcm]; omega)
          exact (congrFun (gN (t + 6) (by omega)) j).trans (w6.trans (x3 j x hj))
      · rw [ref7 i q]
        have hlt : i < n := by omega
        refine LawRel_new (a5.2.2.2 i i0 (by omega)) ⟨i0, by omega⟩ hT hi ⟨gA 83 _ (by omega) (by unfold lwx rd0 md0 lyx; omega), fun j j0 j1 => ⟨gA 83 _ (by omega) (by unfold lwx rd0 md0 lyx; omega), gA 83 _ (by omega) (by unfold lwx rd0 md0 lyx; omega)⟩⟩
  · exact Rf_cong a6 (gR _ (by omega) (fun k => by unfold lwx rd0 md0 lyx; omega)) (fun i h => k83 i (by omega))
  · intro k x0 x1
    rw [gR 26 (by omega) (fun k => by unfold lwx rd0 md0 lyx; omega), gR 85 (by omega) (fun k => by unfold lwx rd0 md0 lyx; omega)]
    refine ⟨(iI k x0 x1).1, fun e => RS_new ((iI k x0 x1).2 e) hT (fun i _ _ => refs _ i (by omega) (by omega)) (fun j y0 y1 => gR _ (by omega) (fun k => by unfold lwx rd0 md0 lyx; omega)) hi (fun i => ?_)⟩
    rw [gR 84 (by omega) (fun k => by unfold lwx rd0 md0 lyx; omega)]
  · exact IvR_acc iR g016 g810 (gR 64 (by omega) (fun k => by unfold lwx rd0 md0 lyx; omega)) (gR 82 (by omega) (fun k => by unfold lwx rd0 md0 lyx; omega))
  · refine ⟨?_, by rw [g11, g14], ?_⟩
    · rw [gA 0 15 (by omega) (by unfold lwx rd0 md0 lyx; omega), gA 81 6 (by omega) (by unfold lwx rd0 md0 lyx; omega)]; exact iX.1
    · rw [gA 59 4 (by omega) (by unfold lwx rd0 md0 lyx; omega), gA 81 43 (by omega) (by unfold lwx rd0 md0 lyx; omega)]; exact iX.2.2
  · exact IvU_cong iU (gA 55 3 (by omega) (by unfold lwx rd0 md0 lyx; omega)) (gA 81 42 (by omega) (by unfold lwx rd0 md0 lyx; omega)) (fun i h => k83 i (by omega)) (gR 104 (by omega) (fun k => by unfold lwx rd0 md0 lyx; omega)) (gR 56 (by omega) (fun k => by unfold lwx rd0 md0 lyx; omega)) (gR 57 (by omega) (fun k => by unfold lwx rd0 md0 lyx; omega)) (gR 58 (by omega) (fun k => by unfold lwx rd0 md0 lyx; omega))
  · exact IvE_cong iE (gA 0 14 (by omega) (by unfold lwx rd0 md0 lyx; omega)) (gA 81 51 (by omega) (by unfold lwx rd0 md0 lyx; omega)) (gR 20 (by omega) (fun k => by unfold lwx rd0 md0 lyx; omega)) (gR 21 (by omega) (fun k => by unfold lwx rd0 md0 lyx; omega)) (gR 107 (by omega) (fun k => by unfold lwx rd0 md0 lyx; omega))
  · exact IvW_cong iW (gR 87 (by omega) (fun k => by unfold lwx rd0 md0 lyx; omega))
