/-! 77.rdc: the class reads -/
def crx (a k : Int) : Prop := (a = 29 ∧ 7 ≤ k ∧ k ≤ 10) ∨ (a = 30 ∧ (k = 1 ∨ k = 2)) ∨ a = 36
def TkJ (τ : Tks) (C : MC) (j : Nat) : Prop := tc τ j = mcK (C 37 j) ∧ (0 ≤ C 37 j ∧ C 37 j ≤ 285) ∧ (C 37 j = 285 ↔ j = τ.length) ∧ (C 37 j = 284 → (tv τ j ≤ 1000 → C 39 j = tv τ j) ∧ (1000 < tv τ j → C 39 j = 1001)) ∧ 0 ≤ tv τ j
def TkC (τ : Tks) (o : Bool) (C : MC) : Prop := C 29 5 = τ.length ∧ τ.length ≤ 400 ∧ (∀ j : Nat, j ≤ τ.length → TkJ τ C j) ∧ C 29 6 = b2 o
theorem TkC_fp {τ : Tks} {o : Bool} {C C' : MC} (h : TkC τ o C) (f : Fp crx C C') : TkC τ o C' := by
  unfold TkC TkJ
  rw [f 29 5 (by unfold crx; decide), f 29 6 (by unfold crx; decide), fp_row (a := 37) f (fun k => by unfold crx; omega), fp_row (a := 39) f (fun k => by unfold crx; omega)]
  exact h
theorem c37 {C C' : MC} (f : Fp crx C C') : C' 37 = C 37 := fp_row f (fun k => by unfold crx; omega)
theorem tk_eq {τ : Tks} {o : Bool} {C : MC} {p : Nat} {k v : Int} (T : TkC τ o C) (hp : p ≤ τ.length) (hkv : ∀ n : Nat, n < 286 → (mcK n = v ↔ (n : Int) = k)) : C 37 p = k ↔ tc τ p = v := by
  obtain ⟨a, b, _⟩ := T.2.2.1 p hp
  obtain ⟨n, hn⟩ : ∃ n : Nat, C 37 p = n := ⟨(C 37 p).toNat, by omega⟩
  rw [hn] at a b ⊢
  rw [a]
  exact (hkv n (by omega)).symm
theorem k42 : ∀ n : Nat, n < 286 → (mcK n = 142 ↔ (n : Int) = 42) := by decide +kernel
theorem k43 : ∀ n : Nat, n < 286 → (mcK n = 143 ↔ (n : Int) = 43) := by decide +kernel
theorem k45 : ∀ n : Nat, n < 286 → (mcK n = 145 ↔ (n : Int) = 45) := by decide +kernel
theorem k47 : ∀ n : Nat, n < 286 → (mcK n = 147 ↔ (n : Int) = 47) := by decide +kernel
theorem k37 : ∀ n : Nat, n < 286 → (mcK n = 137 ↔ (n : Int) = 37) := by decide +kernel
theorem k91 : ∀ n : Nat, n < 286 → (mcK n = 191 ↔ (n : Int) = 91) := by decide +kernel
theorem k93 : ∀ n : Nat, n < 286 → (mcK n = 193 ↔ (n : Int) = 93) := by decide +kernel
theorem k40 : ∀ n : Nat, n < 286 → (mcK n = 140 ↔ (n : Int) = 40) := by decide +kernel
theorem k41 : ∀ n : Nat, n < 286 → (mcK n = 141 ↔ (n : Int) = 41) := by decide +kernel
theorem k60 : ∀ n : Nat, n < 286 → (mcK n = 160 ↔ (n : Int) = 60) := by decide +kernel
theorem k61 : ∀ n : Nat, n < 286 → (mcK n = 161 ↔ (n : Int) = 61) := by decide +kernel
theorem k62 : ∀ n : Nat, n < 286 → (mcK n = 162 ↔ (n : Int) = 62) := by decide +kernel
theorem k59 : ∀ n : Nat, n < 286 → (mcK n = 159 ↔ (n : Int) = 59) := by decide +kernel
theorem k284 : ∀ n : Nat, n < 286 → (mcK n = 50 ↔ (n : Int) = 284) := by decide +kernel
theorem k281 : ∀ n : Nat, n < 286 → (mcK n = 5 ↔ (n : Int) = 281) := by decide +kernel
theorem k280 : ∀ n : Nat, n < 286 → (mcK n = 6 ↔ (n : Int) = 280) := by decide +kernel
theorem k282 : ∀ n : Nat, n < 286 → (mcK n = 7 ↔ (n : Int) = 282) := by decide +kernel
theorem k279 : ∀ n : Nat, n < 286 → (mcK n = 4 ↔ (n : Int) = 279) := by decide +kernel
theorem k278 : ∀ n : Nat, n < 286 → (mcK n = 27 ↔ (n : Int) = 278) := by decide +kernel
theorem k276 : ∀ n : Nat, n < 286 → (mcK n = 22 ↔ (n : Int) = 276) := by decide +kernel
theorem k277 : ∀ n : Nat, n < 286 → (mcK n = 24 ↔ (n : Int) = 277) := by decide +kernel
/-- where the class's reader is -/
def RdS (C : MC) (p lv g : Nat) (pre : List Int) : Prop := C 29 7 = p ∧ C 29 8 = C 37 p ∧ C 29 9 = lv ∧ C 29 10 = 8 - (g : Int) ∧ C 30 1 = pre.length ∧ cAt C 36 0 pre
def DrF (τ : Tks) (C C' : MC) (p q : Nat) : Prop := (C 30 2 = 1 → C' 30 2 = 1) ∧ (∀ j, p ≤ j → j < q → tc τ j = 18 → C' 30 2 = 1) ∧ (C 30 2 = 0 ∨ C 30 2 = 1 → C' 30 2 = 0 ∨ C' 30 2 = 1)
theorem DrF_tr {τ : Tks} {C C1 C2 : MC} {p q r : Nat} (h : DrF τ C C1 p q) (g : DrF τ C1 C2 q r) : DrF τ C C2 p r :=
  ⟨fun z => g.1 (h.1 z), fun j h1 h2 h3 => (Nat.lt_or_ge j q).elim (fun z => g.1 (h.2.1 j h1 z h3)) (fun z => g.2.1 j z h2 h3), fun z => g.2.2 (h.2.2 z)⟩
theorem DrF_nil {τ : Tks} {C C1 : MC} {p : Nat} (h : C1 30 2 = C 30 2) : DrF τ C C1 p p := ⟨fun z => by rw [h]; exact z, fun j h1 h2 _ => absurd h1 (Nat.not_le.mpr h2), fun z => by rw [h]; exact z⟩
theorem DrF_one {τ : Tks} {C C1 : MC} {p : Nat} (h : C1 30 2 = C 30 2) (ht : tc τ p ≠ 18) : DrF τ C C1 p (p + 1) := ⟨fun z => by rw [h]; exact z, fun j h1 h2 h3 => by
  have : j = p := Nat.le_antisymm (Nat.le_of_lt_succ h2) h1
  rw [this] at h3
  exact absurd h3 ht, fun z => by rw [h]; exact z⟩
def PoC {α : Type} (τ : Tks) (C C' : MC) (p g : Nat) (pre : List Int) (r : Int) : PR α → Prop
  | .inl q => r = 0 ∧ q ≤ τ.length ∧ C' 29 7 = q
  | .inr (_, q, lv', cd) => r = 1 ∧ RdS C' q lv' g (pre ++ cd) ∧ DrF τ C C' p q
def RdC {α : Type} (τ : Tks) (o : Bool) (m g : Nat) (rd : Rdr α) (K : Nat → MS → MC → Qt → Prop) : Prop :=
  ∀ (d : Nat) (S : MS) (C : MC) (Q : Qt) (p lv : Nat) (pre : List Int), m ≤ d → Fix S → TkC τ o C → p ≤ τ.length → lv ≤ 50 → pre.length ≤ p → RdS C p lv g pre → (∀ C' r, Fp crx C C' → PoC τ C C' p g pre r (rd p lv pre.length) → Q r S C') → K d S C Q
theorem RdC_up {α : Type} {τ : Tks} {o : Bool} {m m' g : Nat} {rd : Rdr α} {K : Nat → MS → MC → Qt → Prop} (h : RdC τ o m g rd K) (hm : m ≤ m') : RdC τ o m' g rd K := fun d S C Q p lv pre hd => h d S C Q p lv pre (Nat.le_trans hm hd)
theorem in_bd {p N : Nat} (hp : p ≤ N) (hN : N ≤ 400) : (0 : Int) ≤ (p : Int) ∧ (p : Int) < 401 := by omega
theorem in_bd2 {p N : Nat} (hp : p < N) (hN : N ≤ 400) : (0 : Int) ≤ ((p + 1 : Nat) : Int) ∧ ((p + 1 : Nat) : Int) < 401 := by omega
theorem c_next {d mc ms : Nat} {τ : Tks} {o : Bool} {p lv g : Nat} {pre : List Int} {S : MS} {C : MC} {Q : Qt} (F : Fix S) (T : TkC τ o C) (hp : p < τ.length) (st : RdS C p lv g pre) (h : ∀ C', Fp crx C C' → RdS C' (p + 1) lv g pre → C' 30 2 = C 30 2 → Q 0 S C') : K_X4_next_0 d mc ms S C Q := by
  have hN := T.2.1
  have e5 := T.1
  obtain ⟨s1, s2, s3, s4, s5, s6⟩ := st
  have w1 : w32 ((p : Int) + 1) = ((p + 1 : Nat) : Int) := w32_nat1 (Nat.le_trans (Nat.le_of_lt hp) (Nat.le_trans hN (by decide)))
  refine b_X4_next_0 F ?_
  rw [e5, s1, w1]
  refine ⟨fun z => absurd z (Int.not_le.mpr (Int.ofNat_lt.mpr hp)), fun _ => ⟨in_bd2 hp hN, h _ (Fp_up (Or.inl ⟨rfl, by decide, by decide⟩) (Fp_up (Or.inl ⟨rfl, by decide, by decide⟩) Fp_rf)) ⟨?_, ?_, ?_, ?_, ?_, ?_⟩ ?_⟩⟩
  · rw [upC_sK (by decide), upC_at]
  · rw [upC_at, upC_ne (by decide), upC_ne (by decide)]
  · rw [upC_sK (by decide), upC_sK (by decide)]; exact s3
  · rw [upC_sK (by decide), upC_sK (by decide)]; exact s4
  · rw [upC_ne (by decide), upC_ne (by decide)]; exact s5
  · intro j x hj
    rw [upC_ne (by decide), upC_ne (by decide)]; exact s6 j x hj
  · rw [upC_ne (by decide), upC_ne (by decide)]
theorem shl4 : ∀ n : Nat, n < 1024 → iShl (n : Int) 4 = ((16 * n : Nat) : Int) := by decide +kernel
theorem or16 {a t : Nat} (ht : t < 16) : 16 * a ||| t = 16 * a + t := (Nat.two_pow_add_eq_or_of_lt (i := 4) ht a).symm
theorem cw_mk {v t : Nat} (hv : v < 1024) (ht : t < 16) : iOr (iShl (v : Int) 4) (t : Int) = 16 * (v : Int) + (t : Int) := by
  rw [shl4 v hv, iOr_nat (by omega) (by omega), or16 ht]
  omega
theorem cw_lnd {v t : Nat} (hv : v < 1024) (ht : t < 16) : iOr (t : Int) (iShl (v : Int) 4) = 16 * (v : Int) + (t : Int) := by
  rw [shl4 v hv, iOr_nat (by omega) (by omega), Nat.or_comm, or16 ht]
  omega
theorem cAt_snoc {C : MC} {A : Int} {pre : List Int} {x : Int} (h : cAt C A 0 pre) : cAt (upC C A (pre.length : Int) x) A 0 (pre ++ [x]) := by
  intro j y hj
  rw [Nat.zero_add]
  by_cases q : j < pre.length
  · rw [List.getElem?_append_left q] at hj
    rw [upC_sK (fun z => by omega)]
    have := h j y hj
    rwa [Nat.zero_add] at this
  · have hl := (List.getElem?_eq_some_iff.mp hj).1
    rw [List.length_append, List.length_singleton] at hl
    have e : j = pre.length := by omega
    rw [e, List.getElem?_append_right (Nat.le_refl _), Nat.sub_self] at hj
    cases hj
    rw [e, upC_at]
theorem c_emit {d mc ms : Nat} {p lv g : Nat} {v t : Nat} {pre : List Int} {S : MS} {C : MC} {Q : Qt} (F : Fix S) (st : RdS C p lv g pre) (hl : pre.length < 400) (hv : v < 1024) (ht : t < 16) (h : ∀ C', Fp crx C C' → RdS C' p lv g (pre ++ [16 * (v : Int) + (t : Int)]) → C' 30 2 = C 30 2 → Q 0 S C') : K_X9_emit_0 d mc ms (t : Int) (v : Int) S C Q := by
  obtain ⟨s1, s2, s3, s4, s5, s6⟩ := st
  have b : (0 : Int) ≤ (pre.length : Int) ∧ (pre.length : Int) < 400 := by clear h s1 s2 s3 s4 s5; omega
  refine b_X9_emit_0 F ?_
  rw [s5, cw_mk hv ht, w32_nat1 (p := pre.length) (Nat.le_trans (Nat.le_of_lt hl) (by decide))]
  refine ⟨fun z => absurd z (Int.not_le.mpr b.2), fun _ => ⟨b, h _ (Fp_up (Or.inr (Or.inl ⟨rfl, Or.inl rfl⟩)) (Fp_up (Or.inr (Or.inr rfl)) Fp_rf)) ⟨?_, ?_, ?_, ?_, ?_, ?_⟩ ?_⟩⟩
  · rw [upC_ne (by decide), upC_ne (by decide)]; exact s1
  · rw [upC_ne (by decide), upC_ne (by decide), upC_ne (by decide), upC_ne (by decide)]; exact s2
  · rw [upC_ne (by decide), upC_ne (by decide)]; exact s3
  · rw [upC_ne (by decide), upC_ne (by decide)]; exact s4
  · rw [upC_at, List.length_append, List.length_singleton]
  · intro j x hj
    rw [upC_ne (by decide)]
    exact cAt_snoc s6 j x hj
  · rw [upC_sK (by decide), upC_ne (by decide)]
theorem cAt_set {C : MC} {A : Int} {a b : List Int} {x y : Int} (h : cAt C A 0 (a ++ (x :: b))) : cAt (upC C A (a.length : Int) y) A 0 (a ++ (y :: b)) := by
  intro j z hj
  have h0 := h j
  rw [Nat.zero_add] at h0 ⊢
  by_cases q : j < a.length
  · rw [List.getElem?_append_left q] at hj h0
    rw [upC_sK (fun z => by omega)]
    exact h0 z hj
  · rw [List.getElem?_append_right (by omega)] at hj h0
    by_cases q2 : j = a.length
    · rw [q2, Nat.sub_self] at hj
      cases hj
      rw [q2, upC_at]
    · obtain ⟨m, hm⟩ : ∃ m, j - a.length = m + 1 := ⟨j - a.length - 1, by omega⟩
      rw [hm, List.getElem?_cons_succ] at hj h0
      rw [upC_sK (fun z => by omega)]
      exact h0 z hj
theorem c_land {d mc ms : Nat} {p lv g t : Nat} {a b : List Int} {S : MS} {C : MC} {Q : Qt} (F : Fix S) (st : RdS C p lv g (a ++ ((t : Int) :: b))) (hl : (a ++ ((t : Int) :: b)).length ≤ 400) (ht : t < 16) (h : ∀ C', Fp crx C C' → RdS C' p lv g (a ++ ((16 * ((a ++ ((t : Int) :: b)).length : Int) + (t : Int)) :: b)) → C' 30 2 = C 30 2 → Q 0 S C') : K_X9_landHere_0 d mc ms (a.length : Int) S C Q := by
  obtain ⟨s1, s2, s3, s4, s5, s6⟩ := st
  have la : (a ++ ((t : Int) :: b)).length = a.length + (b.length + 1) := by rw [List.length_append, List.length_cons]
  have b1 : ¬ ((a ++ ((t : Int) :: b)).length : Int) ≤ (a.length : Int) := by rw [la]; clear h s1 s2 s3 s4 s5; omega
  have b2 : (0 : Int) ≤ (a.length : Int) ∧ (a.length : Int) < 400 := by rw [la] at hl; clear h s1 s2 s3 s4 s5 b1; omega
  have e36 : C 36 (a.length : Int) = (t : Int) := by
    have := s6 a.length (t : Int) (by rw [List.getElem?_append_right (Nat.le_refl _), Nat.sub_self]; rfl)
    rwa [Nat.zero_add] at this
  have hl2 : (a ++ ((t : Int) :: b)).length < 1024 := Nat.lt_of_le_of_lt hl (by decide)
  refine b_X9_landHere_0 F ⟨fun z => absurd z (Int.not_lt.mpr b2.1), fun _ => ⟨fun z => absurd (by rw [s5] at z; exact z) b1, fun _ => ⟨b2, b2, ?_⟩⟩⟩
  rw [s5, e36, cw_lnd hl2 ht]
  refine h _ (Fp_up (Or.inr (Or.inr rfl)) Fp_rf) ⟨?_, ?_, ?_, ?_, ?_, ?_⟩ ?_
  · rw [upC_ne (by decide)]; exact s1
  · rw [upC_ne (by decide), upC_ne (by decide)]; exact s2
  · rw [upC_ne (by decide)]; exact s3
  · rw [upC_ne (by decide)]; exact s4
  · rw [upC_ne (by decide), s5, la, List.length_append, List.length_cons]
  · exact cAt_set s6
  · rw [upC_ne (by decide)]
/-! loops -/
def LoopC (τ : Tks) (o : Bool) (is : Int → Bool) (Kpt : Nat → MS → MC → Qt → Prop) (Kl : Nat → Int → MS → MC → Qt → Prop) : Prop :=
  (∀ (d : Nat) (S : MS) (C : MC) (Q : Qt) (l : Nat) (p lv g : Nat) (pre : List Int), Fix S → TkC τ o C → p ≤ τ.length → RdS C p lv g pre → l < 400 → (is (tc τ p) = false → Q 1 S C) → (is (tc τ p) = true → K_X4_next_0 (d + 1) 0 0 S C (fun _ Sq C2 => Sq = S ∧ Kpt (d + 1) S C2 (fun r Sq C4 => Sq = S ∧ ((¬ r = 0 → K_X9_emit_0 (d + 1) 0 0 (opC (tc τ p)) 0 S C4 (fun _ Sq C6 => Sq = S ∧ Kl (d + 2) (w32 ((l : Int) + 1)) S C6 Q)) ∧ (r = 0 → Q 0 S C4))))) → Kl (d + 2) (l : Int) S C Q) ∧
  (∀ (d : Nat) (S : MS) (C : MC) (Q : Qt), Fix S → Q 1 S C → Kl (d + 2) 400 S C Q)
theorem opC_nat (c : Int) : ∃ t : Nat, opC c = (t : Int) ∧ t < 16 := by
  unfold opC
  split
  · exact ⟨3, rfl, by decide⟩
  split
  · exact ⟨4, rfl, by decide⟩
  split
  · exact ⟨5, rfl, by decide⟩
  split
  · exact ⟨6, rfl, by decide⟩
  · exact ⟨7, rfl, by decide⟩
theorem w32_l {n : Nat} (h : n + 1 ≤ 400) : w32 (((400 - (n + 1) : Nat) : Int) + 1) = ((400 - n : Nat) : Int) := by rw [w32_lit (by omega)]; omega
theorem c_row {τ : Tks} {o : Bool} {m g : Nat} {is : Int → Bool} {pt : Rdr Sem} {P : Sem → Prop} {Kpt : Nat → MS → MC → Qt → Prop} {Kl : Nat → Int → MS → MC → Qt → Prop} (hpt : RdC τ o m g pt Kpt) (hG : Gd τ P pt) (hLn : Ln pt) (hl : LoopC τ o is Kpt Kl) (h0 : is 0 = false) (h18 : is 18 = false) : ∀ (n : Nat) (f : Sem) (p0 p lv : Nat) (pre cd : List Int) (d : Nat) (S : MS) (C0 C : MC) (Q : Qt), n ≤ 400 → m ≤ d + 1 → Fix S → TkC τ o C0 → Fp crx C0 C → p ≤ τ.length → lv ≤ 50 → (pre ++ cd).length ≤ p → RdS C p lv g (pre ++ cd) → DrF τ C0 C p0 p → (∀ C' r, Fp crx C0 C' → PoC τ C0 C' p0 g pre r (rowP τ is pt n f p lv pre.length cd) → Q r S C') → Kl (d + 2) ((400 - n : Nat) : Int) S C Q
  | 0, f, p0, p, lv, pre, cd, d, S, C0, C, Q, hn, hm, F, T, fC, hp, hlv, hpl, st, dr, hk => hl.2 d S C Q F (hk C 1 fC ⟨rfl, st, dr⟩)
  | n + 1, f, p0, p, lv, pre, cd, d, S, C0, C, Q, hn, hm, F, T, fC, hp, hlv, hpl, st, dr, hk => by
    unfold rowP at hk
    have TC := TkC_fp T fC
    refine hl.1 d S C Q (400 - (n + 1)) p lv g (pre ++ cd) F TC hp st (by omega) (fun z => hk C 1 fC (by rw [z]; exact ⟨rfl, st, dr⟩)) (fun z => ?_)
    have nz : tc τ p ≠ 0 := fun y => by rw [y, h0] at z; cases z
    have n18 : tc τ p ≠ 18 := fun y => by rw [y, h18] at z; cases z
    have hp1 := tc_in nz
    simp only [z, if_true] at hk
    refine c_next F TC hp1 st (fun C2 f2 st2 e2 => ⟨rfl, ?_⟩)
    have g2 := Fp_tr fC f2
    have dr2 := DrF_tr dr (DrF_one e2 n18)
    refine hpt (d + 1) S C2 _ (p + 1) lv (pre ++ cd) hm F (TkC_fp T g2) hp1 hlv (Nat.le_succ_of_le hpl) st2 (fun C4 r f4 po => ⟨rfl, ?_⟩)
    have g4 := Fp_tr g2 f4
    rw [List.length_append] at po hpl
    cases hs : pt (p + 1) lv (pre.length + cd.length) with
    | inl q =>
      rw [hs] at po hk
      exact ⟨fun y => absurd po.1 y, fun _ => hk C4 0 g4 ⟨rfl, po.2⟩⟩
    | inr t =>
      obtain ⟨g1, q, lv', cd'⟩ := t
      rw [hs] at po hk
      obtain ⟨a1, a2, _⟩ := hG _ _ _ _ _ _ _ hs
      have a3 := hLn _ _ _ _ _ _ _ hs
      obtain ⟨t0, ht0, ht1⟩ := opC_nat (tc τ p)
      have hN := T.2.1
      refine ⟨fun _ => ?_, fun y => absurd (po.1.symm.trans y) (by decide)⟩
      rw [ht0]
      refine c_emit (v := 0) F po.2.1 (by rw [List.length_append, List.length_append]; omega) (by decide) ht1 (fun C6 f6 st6 e6 => ⟨rfl, ?_⟩)
      rw [w32_l hn]
      have ea : ((pre ++ cd) ++ cd') ++ [16 * ((0 : Nat) : Int) + (t0 : Int)] = pre ++ (cd ++ (cd' ++ [opC (tc τ p)])) := by rw [ht0]; simp
      rw [ea] at st6
      refine c_row hpt hG hLn hl h0 h18 n (opS (tc τ p) f g1) p0 q lv' pre (cd ++ (cd' ++ [opC (tc τ p)])) d S C0 C6 Q (by omega) hm F T (Fp_tr g4 f6) a1.2 (a2.2 hlv) ?_ st6 (DrF_tr dr2 (DrF_tr po.2.2 (DrF_nil e6))) hk
      simp only [List.length_append, List.length_singleton]
      omega
theorem c_seq {τ : Tks} {o : Bool} {m g : Nat} {is : Int → Bool} {pt : Rdr Sem} {P : Sem → Prop} {Kpt K0 : Nat → MS → MC → Qt → Prop} {Kl : Nat → Int → MS → MC → Qt → Prop} (hpt : RdC τ o (m + 1) g pt Kpt) (hG : Gd τ P pt) (hLn : Ln pt) (hl : LoopC τ o is Kpt Kl) (h0 : is 0 = false) (h18 : is 18 = false) (hK : ∀ (d : Nat) (S : MS) (C : MC) (Q : Qt), Fix S → Kpt d S C (fun r Sq C' => Sq = S ∧ ((¬ r = 0 → Kl (d + 1) 0 S C' Q) ∧ (r = 0 → Q 0 S C'))) → K0 (d + 1) S C Q) : RdC τ o (m + 2) g (seqP τ is pt) K0 := by
  intro d S C Q p lv pre hm F T hp hlv hpl st hk
  obtain ⟨e, rfl⟩ : ∃ e, d = e + 2 := ⟨d - 2, by omega⟩
  refine hK (e + 1) S C Q F (hpt (e + 1) S C _ p lv pre (by omega) F T hp hlv hpl st (fun C1 r f1 po => ⟨rfl, ?_⟩))
  unfold seqP at hk
  cases hs : pt p lv pre.length with
  | inl q =>
    rw [hs] at po hk
    exact ⟨fun y => absurd po.1 y, fun _ => hk C1 0 f1 ⟨rfl, po.2⟩⟩
  | inr t =>
    obtain ⟨g1, q, lv', cd'⟩ := t
    rw [hs] at po hk
    obtain ⟨a1, a2, _⟩ := hG _ _ _ _ _ _ _ hs
    have a3 := hLn _ _ _ _ _ _ _ hs
    refine ⟨fun _ => ?_, fun y => absurd (po.1.symm.trans y) (by decide)⟩
    exact c_row hpt hG hLn hl h0 h18 400 g1 p q lv' pre cd' e S C C1 Q (Nat.le_refl _) (by omega) F T f1 a1.2 (a2.2 hlv) (by rw [List.length_append]; omega) po.2.1 po.2.2 hk
