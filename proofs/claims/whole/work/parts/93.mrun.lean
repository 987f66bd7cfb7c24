/-! 93.mrun: the reference goes along an order -/
def mgz (a k : Int) : Prop := (a = 81 ∧ (k = 22 ∨ k = 24 ∨ (45 ≤ k ∧ k ≤ 48))) ∨ a = 106
theorem EnvM_mg {τ : Tks} {o : Bool} {base : Int} {w : Wd} {C C' : MC} (h : EnvM τ o base w C) (f : Fp mgz C C') : EnvM τ o base w C' := by
  obtain ⟨a, b, c, e, g, i, j, k⟩ := h
  have r83 : C' 83 = C 83 := fp_row f (fun k => by unfold mgz; omega)
  have r93 : C' 93 = C 93 := fp_row f (fun k => by unfold mgz; omega)
  refine ⟨a, b, by rw [f 81 23 (by unfold mgz; decide)]; exact c, by rw [f 81 25 (by unfold mgz; decide)]; exact e, by rw [r83]; exact g, by rw [r93]; exact i, fun z => ?_, k⟩
  unfold OrdW
  rw [r83, f 81 27 (by unfold mgz; decide), f 81 28 (by unfold mgz; decide), f 81 29 (by unfold mgz; decide)]
  exact j z
theorem evc_mg {C C' : MC} (f : Fp evc C C') : Fp mgz C C' := Fp_mono f (fun a k q => by unfold evc at q; unfold mgz; omega)
theorem x81 {k : Int} (h : k = 22 ∨ k = 24 ∨ (45 ≤ k ∧ k ≤ 48)) : mgz 81 k := Or.inl ⟨rfl, h⟩
theorem w32_b {b q : Int} {n : Nat} (hb : 0 ≤ b ∧ b ≤ 2400) (hn : n ≤ 1000) (hq : q = b + n) : w32 (q + 1) = b + ((n + 1 : Nat) : Int) := by rw [hq, w32_lit (by omega)]; omega
theorem w32_v {b q : Int} {n : Nat} (hb : 0 ≤ b ∧ b ≤ 2400) (hn : n < 400) (hq : q = b + n) : w32 (2856 + q) = 2856 + b + n ∧ (0 : Int) ≤ 2856 + b + n ∧ 2856 + b + (n : Int) < 5656 := by rw [hq, w32_lit (by omega)]; omega
/-- behind the sums: times, the test -/
theorem m_gtail {d : Nat} {τ : Tks} {base lv l3 l4 : Int} {w : Wd} {v i j : Int} {f g : Sem} {p l c0 : Nat} {cl : Cla} {q l' : Nat} {cd : List Int} {S : MS} {C : MC} {Q : Qt} (F : Fix S) (E : EnvM τ true base w C) (h22 : C 81 22 = base + p) (hp : p ≤ τ.length) (hlv : lv = 0 ∨ lv = 1) (h34 : l3 ≤ l4) (e : tailP τ v i j f g p l c0 = .inr (cl, q, l', cd)) (hk : ∀ C', Fp mgz C C' → C' 106 = C 106 → C' 81 46 = C 81 46 → C' 81 47 = C 81 47 → C' 81 22 = base + ((q + 1 : Nat) : Int) → C' 81 45 = cl.1.2 → (lv = 1 → C' 81 48 = b2 (holdsC cl w)) → Q 0 S C') : K_X11_goesAlong_102 (d + 51) 0 0 lv l3 l4 S C Q := by
  obtain ⟨n, p1, hn, hc, e1⟩ := tailP_inv e
  have hbs := E.1
  have hN := E.2.1
  have hp1 : p1 ≤ τ.length := by
    rcases hc with ⟨_, y, _, z⟩ | ⟨_, _, z⟩
    · have := tc_in (τ := τ) (p := p + 1) (by rw [y]; decide); clear h22 hk; omega
    · clear h22 hk; omega
  have hq : q ≤ 1000 := by have := (Gd_cond e1 hp1).1.2; clear h22 hk; omega
  -- the end
  have fin : ∀ (t : TSem) (k : Int) (C1 : MC) (s0 : Int), cl = ((v, n), (i, j, k), (f, g, t)) → Fp mgz C C1 → C1 106 = C 106 → C1 81 46 = C 81 46 → C1 81 47 = C 81 47 → C1 81 22 = base + q → C1 81 45 = n → EvT lv 0 (t w) s0 (C1 81 24) → K_X11_goesAlong_237 (d + 51) 0 0 s0 S C1 Q := by
    intro t k C1 s0 ecl f1 x1 x2 x3 x22 x45 ev
    have en : ∀ r : Int, (lv = 1 → r = b2 (holdsC cl w)) → Q 0 S (upC (upC (upC C1 81 48 s0) 81 48 r) 81 22 (w32 (C1 81 22 + 1))) := by
      intro r hr
      rw [w32_b hbs hq x22]
      refine hk _ (Fp_up (x81 (by decide)) (Fp_up (x81 (by decide)) (Fp_up (x81 (by decide)) f1))) ?_ ?_ ?_ (upC_at _ _ _ _) ?_ (fun z => ?_)
      · rw [upC_ne (by decide), upC_ne (by decide), upC_ne (by decide)]; exact x1
      · rw [upC_sK (by decide), upC_sK (by decide), upC_sK (by decide)]; exact x2
      · rw [upC_sK (by decide), upC_sK (by decide), upC_sK (by decide)]; exact x3
      · rw [upC_sK (by decide), upC_sK (by decide), upC_sK (by decide), x45, ecl]
      · rw [upC_sK (by decide), upC_at]; exact hr z
    obtain ⟨v1, v2, v3, v4⟩ := ev
    have hold : lv = 1 → (∀ x, t w = some x → s0 = (if x then 1 else 0) ∧ C1 81 24 = 0) ∧ (t w = none → C1 81 24 = 1) := fun z => v4 (by rw [z]; decide) rfl
    have hh : holdsC cl w = (t w == some true) := by rw [ecl]; rfl
    refine b_X11_goesAlong_237 (d := d + 50) F ⟨v1, fun z => en 0 (fun y => ?_), fun z => ⟨fun z2 => en 0 (fun y => ?_), fun z2 => en 1 (fun y => ?_)⟩⟩
    · rw [hh]
      cases ht : t w with
      | none => rfl
      | some x =>
        have := ((hold y).1 x ht).1
        cases x with
        | false => rfl
        | true => rw [z] at this; exact absurd this (by decide)
    · rw [hh]
      cases ht : t w with
      | none => rfl
      | some x => exact absurd ((hold y).1 x ht).2 z2
    · rw [hh]
      cases ht : t w with
      | none => have := (hold y).2 ht; rw [z2] at this; exact absurd this (by decide)
      | some x =>
        have := ((hold y).1 x ht).1
        cases x with
        | true => rfl
        | false => exact absurd this z
  refine b_X11_goesAlong_102 (d := d + 50) F ⟨fun _ => ?_, fun z => absurd h34 z⟩
  have fA : Fp mgz C (upC C 81 45 1) := Fp_up (x81 (by decide)) Fp_rf
  refine s_passes0 (d := d + 49) F (EnvM_mg E fA) (by rw [upC_sK (by decide)]; exact h22) (by decide) (fun z => ⟨rfl, fun _ => ?_, fun y => absurd rfl y⟩) (fun z => ⟨rfl, fun y => absurd y (by decide), fun _ => ?_⟩)
  · rcases hc with ⟨y, _⟩ | ⟨_, n1, z1⟩
    · exact absurd y z
    · have fB : Fp mgz C (upC (upC C 81 45 1) 81 24 0) := Fp_up (x81 (by decide)) fA
      refine s_cond (d := d + 1) (lv := lv) (A := fun s0 C4 => K_X11_goesAlong_237 (d + 51) 0 0 s0 S C4 Q) F (EnvM_mg E fB) (by rw [upC_sK (by decide), upC_sK (by decide), z1]; exact h22) (upC_at _ _ _ _) e1 (fun k t C' s0 ecl f' g' r' => fin t k C' s0 ecl (Fp_tr fB (evc_mg f')) ?_ ?_ ?_ g' ?_ r')
      · rw [fp_row (a := 106) f' (fun k q => absurd q.1 (by decide)), upC_ne (by decide), upC_ne (by decide)]
      · rw [f' 81 46 (by unfold evc; decide), upC_sK (by decide), upC_sK (by decide)]
      · rw [f' 81 47 (by unfold evc; decide), upC_sK (by decide), upC_sK (by decide)]
      · rw [f' 81 45 (by unfold evc; decide), upC_sK (by decide), upC_at, n1]
  · rcases hc with ⟨_, y2, n1, z1⟩ | ⟨y, _⟩
    · have hp2 := tc_in (τ := τ) (p := p + 1) (by rw [y2]; decide)
      obtain ⟨w1, w2, w3⟩ := w32_v (n := p + 1) (q := base + ((p + 1 : Nat) : Int)) hbs (by clear h22 hk; omega) rfl
      have fB : Fp mgz C (upC (upC C 81 45 1) 81 22 (base + ((p + 1 : Nat) : Int))) := Fp_up (x81 (by decide)) fA
      rw [upC_at, w1, w32_b (n := p + 1) hbs (by clear h22 hk; omega) rfl]
      have ev : upC (upC C 81 45 1) 81 22 (base + ((p + 1 : Nat) : Int)) 83 (2856 + base + ((p + 1 : Nat) : Int)) = n := by
        rw [upC_ne (by decide), upC_ne (by decide), (E.2.2.2.2.1 (p + 1) hp2).2, n1]
      rw [ev]
      generalize hD : upC (upC (upC (upC (upC C 81 45 1) 81 22 (base + ((p + 1 : Nat) : Int))) 81 45 n) 81 22 (base + ((p + 1 + 1 : Nat) : Int))) 81 24 0 = D
      have fD : Fp mgz C D := by
        rw [← hD]
        exact Fp_up (x81 (by decide)) (Fp_up (x81 (by decide)) (Fp_up (x81 (by decide)) fB))
      have dk : ∀ k, k ≠ 22 → k ≠ 24 → k ≠ 45 → D 81 k = C 81 k := fun k a1 a2 a3 => by rw [← hD, upC_sK a2, upC_sK a1, upC_sK a3, upC_sK a1, upC_sK a3]
      refine ⟨⟨w2, w3⟩, s_cond (d := d + 1) (lv := lv) (A := fun s0 C4 => K_X11_goesAlong_237 (d + 51) 0 0 s0 S C4 Q) F (EnvM_mg E fD) ?_ (by rw [← hD, upC_at]) e1 (fun k t C' s0 ecl f' g' r' => fin t k C' s0 ecl (Fp_tr fD (evc_mg f')) ?_ ?_ ?_ g' ?_ r')⟩
      · rw [← hD, upC_sK (by decide), upC_at, z1]
      · rw [fp_row (a := 106) f' (fun k q => absurd q.1 (by decide)), ← hD, upC_ne (by decide), upC_ne (by decide), upC_ne (by decide), upC_ne (by decide), upC_ne (by decide)]
      · rw [f' 81 46 (by unfold evc; decide), dk 46 (by decide) (by decide) (by decide)]
      · rw [f' 81 47 (by unfold evc; decide), dk 47 (by decide) (by decide) (by decide)]
      · rw [f' 81 45 (by unfold evc; decide), ← hD, upC_sK (by decide), upC_sK (by decide), upC_at]
    · exact absurd z y
/-- one sum of an order -/
theorem m_gsum {d : Nat} {τ : Tks} {base lv l3 : Int} {l4 : Nat} {w : Wd} {p l c0 : Nat} {f : Sem} {q l' : Nat} {cd : List Int} {S : MS} {C : MC} {Q : Qt} (F : Fix S) (E : EnvM τ true base w C) (h22 : C 81 22 = base + p) (hl4 : l4 < 2) (hlv : lv = 0 ∨ lv = 1) (e : sum8 τ true p l c0 = .inr (f, q, l', cd)) (hk : ∀ C', Fp mgz C C' → C' 81 46 = C 81 46 → C' 81 22 = base + q → (∀ k : Int, k ≠ l4 → C' 106 k = C 106 k) → (lv = 1 → (C' 81 47 = 0 ↔ C 81 47 = 0 ∨ f w = none) ∧ ∀ x, f w = some x → C' 106 l4 = x) → K_X11_goesAlong_102 (d + 31) 0 0 lv l3 ((l4 + 1 : Nat) : Int) S C' Q) : K_X11_goesAlong_123 (d + 31) 0 0 lv l3 (l4 : Int) S C Q := by
  have fA : Fp mgz C (upC C 81 24 0) := Fp_up (x81 (by decide)) Fp_rf
  have b4 : (0 : Int) ≤ (l4 : Int) ∧ (l4 : Int) < 2 := ⟨Int.natCast_nonneg l4, Int.ofNat_lt.mpr hl4⟩
  have w4 : w32 ((l4 : Int) + 1) = ((l4 + 1 : Nat) : Int) := w32_nat1 (Nat.le_trans (Nat.le_of_lt hl4) (by decide))
  refine b_X11_goesAlong_123 (d := d + 30) F ?_
  refine (EvO_up (e := 1) (ev_sum8 τ true base w)) d S _ _ lv 0 p l c0 f q l' cd F (EnvM_mg E fA) (by rw [upC_sK (by decide)]; exact h22) (upC_at _ _ _ _) (Or.inl rfl) e (fun C2 v f2 g2 r2 => ⟨rfl, b4, ?_⟩)
  rw [w4]
  have f3 : Fp mgz C C2 := Fp_tr fA (evc_mg f2)
  have e47 : C2 81 47 = C 81 47 := by rw [f2 81 47 (by unfold evc; decide), upC_sK (by decide)]
  have e46 : C2 81 46 = C 81 46 := by rw [f2 81 46 (by unfold evc; decide), upC_sK (by decide)]
  have e106 : C2 106 = C 106 := by rw [fp_row (a := 106) f2 (fun k q => absurd q.1 (by decide)), upC_ne (by decide)]
  have go : ∀ r : Int, (lv = 1 → (r = 0 ↔ C 81 47 = 0 ∨ f w = none)) → K_X11_goesAlong_102 (d + 31) 0 0 lv l3 ((l4 + 1 : Nat) : Int) S (upC (upC C2 106 (l4 : Int) v) 81 47 r) Q := by
    intro r hr
    refine hk _ (Fp_up (x81 (by decide)) (Fp_up (Or.inr rfl) f3)) ?_ ?_ (fun k hk => ?_) (fun z => ⟨?_, fun x hx => ?_⟩)
    · rw [upC_sK (by decide), upC_ne (by decide)]; exact e46
    · rw [upC_sK (by decide), upC_ne (by decide)]; exact g2
    · rw [upC_ne (by decide), upC_sK hk, e106]
    · rw [upC_at]; exact hr z
    · rw [upC_ne (by decide), upC_at]
      exact ((r2.2.2 (by rw [z]; decide) rfl).1 x hx).1
  have hb : lv = 1 → (C2 81 24 = 0 ↔ f w ≠ none) := fun z => by
    have r := r2.2.2 (by rw [z]; decide) rfl
    cases hf : f w with
    | none => have := (r.2 hf).2; exact ⟨fun y => by rw [this] at y; exact absurd y (by decide), fun y => absurd rfl y⟩
    | some x => exact ⟨fun _ y => (by cases y), fun _ => (r.1 x hf).2⟩
  refine ⟨fun z => go 0 (fun _ => ⟨fun _ => Or.inl (by rw [← e47]; exact z), fun _ => rfl⟩), fun z => ⟨fun z2 => go 0 (fun y => ⟨fun _ => Or.inr ?_, fun _ => rfl⟩), fun z2 => go 1 (fun y => ⟨fun x => absurd x (by decide), fun x => ?_⟩)⟩⟩
  · cases hf : f w with
    | none => rfl
    | some x => exact absurd ((hb y).mpr (by rw [hf]; intro q; cases q)) z2
  · rcases x with x | x
    · rw [e47] at z; exact absurd x z
    · exact absurd x ((hb y).mp z2)
def mgy (a k : Int) : Prop := (a = 81 ∧ (k = 22 ∨ k = 23 ∨ k = 24 ∨ k = 25 ∨ k = 29 ∨ (45 ≤ k ∧ k ≤ 48))) ∨ a = 106
theorem mgz_y {C C' : MC} (f : Fp mgz C C') : Fp mgy C C' := Fp_mono f (fun a k q => by unfold mgz at q; unfold mgy; omega)
/-- what going along an order comes to -/
def GoR (base lv : Int) (q : Nat) (hd : Int) (cl : Cla) (w : Wd) (C' : MC) : Prop := C' 81 22 = base + ((q + 1 : Nat) : Int) ∧ C' 81 45 = cl.1.2 ∧ C' 81 46 = hd ∧ (lv = 1 → C' 81 48 = b2 (holdsC cl w) ∧ (C' 81 47 = 0 ↔ cl.2.2.1 w = none ∨ cl.2.2.2.1 w = none) ∧ (∀ x, cl.2.2.1 w = some x → cl.1.1 ≠ 3 → C' 106 0 = x) ∧ (∀ x, cl.2.2.2.1 w = some x → cl.1.1 = 0 ∨ cl.1.1 = 1 → C' 106 1 = x))
theorem m_goes23 {d : Nat} {τ : Tks} {base lv s1 : Int} {w : Wd} {p l c0 : Nat} {cl : Cla} {q l' : Nat} {cd : List Int} {S : MS} {C : MC} {Q : Qt} (F : Fix S) (E : EnvM τ true base w (upC (upC (upC (upC C 81 29 s1) 81 25 1) 81 23 (base + τ.length)) 81 22 (C 81 44))) (h44 : C 81 44 = base + p) (hlv : lv = 0 ∨ lv = 1) (hl : l ≤ 50) (e : orderP τ p l c0 = .inr (cl, q, l', cd)) (hk : ∀ C', Fp mgy C C' → C' 81 23 = base + τ.length → GoR base lv q (tc τ p) cl w C' → Q 0 S C') : K_X11_goesAlong_23 (d + 52) 0 0 (base + τ.length) lv s1 S C Q := by
  have hbs := E.1
  have hN := E.2.1
  generalize hD : upC (upC (upC (upC C 81 29 s1) 81 25 1) 81 23 (base + τ.length)) 81 22 (C 81 44) = D at E
  have y81 : ∀ k : Int, k = 22 ∨ k = 23 ∨ k = 24 ∨ k = 25 ∨ k = 29 ∨ (45 ≤ k ∧ k ≤ 48) → mgy 81 k := fun k h => Or.inl ⟨rfl, h⟩
  have fD : Fp mgy C D := by
    rw [← hD]
    exact Fp_up (y81 _ (by decide)) (Fp_up (y81 _ (by decide)) (Fp_up (y81 _ (by decide)) (Fp_up (y81 _ (by decide)) Fp_rf)))
  have d22 : D 81 22 = base + p := by rw [← hD, upC_at]; exact h44
  have hpN : p < τ.length := by
    rcases orderP_inv e with ⟨z, _⟩ | ⟨z, _⟩ | ⟨z, _⟩ | ⟨z, _⟩ <;> exact tc_in (by rw [z]; decide)
  refine b_X11_goesAlong_23 (d := d + 51) F ?_
  rw [hD]
  refine s_codeAt F E h44 ⟨rfl, ?_⟩
  rw [w32_b hbs (by clear h44 d22 hk; omega) d22]
  generalize hG : upC (upC (upC D 81 46 (tc τ p)) 81 22 (base + ((p + 1 : Nat) : Int))) 81 47 1 = G
  have fG : Fp mgz D G := by
    rw [← hG]
    exact Fp_up (x81 (by decide)) (Fp_up (x81 (by decide)) (Fp_up (x81 (by decide)) Fp_rf))
  have g46 : G 81 46 = tc τ p := by rw [← hG, upC_sK (by decide), upC_sK (by decide), upC_at]
  have g47 : G 81 47 = 1 := by rw [← hG, upC_at]
  have g22 : G 81 22 = base + ((p + 1 : Nat) : Int) := by rw [← hG, upC_sK (by decide), upC_at]
  have EG := EnvM_mg E fG
  have g23 : ∀ {C3 : MC}, Fp mgz G C3 → C3 81 23 = base + τ.length := fun f => by rw [f 81 23 (by unfold mgz; decide)]; exact EG.2.2.1
  have fDG : Fp mgy C G := Fp_tr fD (mgz_y fG)
  have two : ∀ vv cc, tc τ p ≠ 25 → tc τ p ≠ 26 → (vv = 0 ∨ vv = 1) → cc ≠ 0 → twoP τ vv cc (p + 1) l c0 = .inr (cl, q, l', cd) → K_X11_goesAlong_102 (d + 52) 0 0 lv 2 0 S G Q := by
    intro vv cc _ _ hvv hcc e1
    obtain ⟨f, q1, lv1, cd1, g, q2, lv2, cd2, cd3, a1, z, a2, a3, a4⟩ := twoP_inv e1
    obtain ⟨b1, b2', b3⟩ := Gd_sum8 τ true _ _ _ _ _ _ _ a1
    obtain ⟨d1, d2, d3⟩ := Gd_sum8 τ true _ _ _ _ _ _ _ a2
    obtain ⟨n, k, t, x1, _⟩ := tail_ok a3 (d2.2 (b2'.2 hl))
    refine b_X11_goesAlong_102 (d := d + 51) F ⟨fun y => absurd y (by decide), fun _ => ⟨fun _ => ?_, fun y => absurd (by decide) y⟩⟩
    refine m_gsum (d := d + 21) (l4 := 0) F EG g22 (by decide) hlv a1 (fun C1 f1 m46 m22 m106 mS => ?_)
    refine b_X11_goesAlong_102 (d := d + 51) F ⟨fun y => absurd y (by decide), fun _ => ⟨fun y => absurd y (by decide), fun _ => ?_⟩⟩
    rw [w32_b (n := q1) hbs (by clear h44 d22 hk g22 g46 g47 m22; omega) m22]
    have fB : Fp mgz G (upC C1 81 22 (base + ((q1 + 1 : Nat) : Int))) := Fp_up (x81 (by decide)) f1
    refine m_gsum (d := d + 21) (l4 := 1) F (EnvM_mg EG fB) (upC_at _ _ _ _) (by decide) hlv a2 (fun C2 f2 n46 n22 n106 nS => ?_)
    have fC : Fp mgz G C2 := Fp_tr fB f2
    refine m_gtail (d := d + 1) F (EnvM_mg EG fC) n22 d1.2 hlv (by decide) a3 (fun C3 f3 t106 t46 t47 t22 t45 t48 => hk C3 (Fp_tr fDG (mgz_y (Fp_tr fC f3))) (g23 (Fp_tr fC f3)) ⟨t22, t45, ?_, fun hl1 => ⟨t48 hl1, ?_, fun x hx _ => ?_, fun x hx _ => ?_⟩⟩)
    · rw [t46, n46, upC_sK (by decide), m46]; exact g46
    · have h1 := (mS hl1).1
      have h2 := (nS hl1).1
      rw [upC_sK (by decide), h1, g47] at h2
      rw [t47, h2, x1]
      exact ⟨fun y => y.elim (fun y => Or.inl (y.elim (fun y => absurd y (by decide)) id)) Or.inr, fun y => y.elim (fun y => Or.inl (Or.inr y)) Or.inr⟩
    · rw [x1] at hx
      rw [t106, n106 0 (by decide), upC_ne (by decide)]
      exact (mS hl1).2 x hx
    · rw [x1] at hx
      rw [t106]
      exact (nS hl1).2 x hx
  rcases orderP_inv e with ⟨z, e1⟩ | ⟨z, e1⟩ | ⟨z, f, q1, lv1, cd1, cd3, e1, e2, e3⟩ | ⟨z, e1⟩
  · have n25 : tc τ p ≠ 25 := by rw [z]; decide
    have n26 : tc τ p ≠ 26 := by rw [z]; decide
    exact ⟨fun _ => ⟨fun _ => two 0 22 n25 n26 (Or.inl rfl) (by decide) e1, fun y => absurd y n25⟩, fun y => absurd y n26⟩
  · have n25 : tc τ p ≠ 25 := by rw [z]; decide
    have n26 : tc τ p ≠ 26 := by rw [z]; decide
    exact ⟨fun _ => ⟨fun _ => two 1 24 n25 n26 (Or.inr rfl) (by decide) e1, fun y => absurd y n25⟩, fun y => absurd y n26⟩
  · have n26 : tc τ p ≠ 26 := by rw [z]; decide
    obtain ⟨b1, b2', b3⟩ := Gd_sum8 τ true _ _ _ _ _ _ _ e1
    obtain ⟨n, k, t, x1, _⟩ := tail_ok e2 (b2'.2 hl)
    refine ⟨fun _ => ⟨fun y => absurd z y, fun _ => ?_⟩, fun y => absurd y n26⟩
    refine b_X11_goesAlong_102 (d := d + 51) F ⟨fun y => absurd y (by decide), fun _ => ⟨fun _ => ?_, fun y => absurd (by decide) y⟩⟩
    refine m_gsum (d := d + 21) (l4 := 0) F EG g22 (by decide) hlv e1 (fun C1 f1 m46 m22 m106 mS => ?_)
    refine m_gtail (d := d + 1) F (EnvM_mg EG f1) m22 b1.2 hlv (by decide) e2 (fun C3 f3 t106 t46 t47 t22 t45 t48 => hk C3 (Fp_tr fDG (mgz_y (Fp_tr f1 f3))) (g23 (Fp_tr f1 f3)) ⟨t22, t45, ?_, fun hl1 => ⟨t48 hl1, ?_, fun x hx _ => ?_, fun x hx hv => ?_⟩⟩)
    · rw [t46, m46]; exact g46
    · have h1 := (mS hl1).1
      rw [g47] at h1
      rw [t47, h1, x1]
      exact ⟨fun y => y.elim (fun y => absurd y (by decide)) Or.inl, fun y => y.elim Or.inr (fun y => (by cases y))⟩
    · rw [x1] at hx
      rw [t106]
      exact (mS hl1).2 x hx
    · rw [x1] at hv
      exact absurd hv (by decide : ¬ ((2 : Int) = 0 ∨ (2 : Int) = 1))
  · obtain ⟨n, k, t, x1, _⟩ := tail_ok e1 hl
    refine ⟨fun y => absurd z y, fun _ => ?_⟩
    refine m_gtail (d := d + 1) F EG g22 hpN hlv (by decide) e1 (fun C3 f3 t106 t46 t47 t22 t45 t48 => hk C3 (Fp_tr fDG (mgz_y f3)) (g23 f3) ⟨t22, t45, ?_, fun hl1 => ⟨t48 hl1, ?_, fun x hx hv => ?_, fun x hx hv => ?_⟩⟩)
    · rw [t46]; exact g46
    · rw [t47, g47, x1]
      exact ⟨fun y => absurd y (by decide), fun y => y.elim (fun y => (by cases y)) (fun y => (by cases y))⟩
    · rw [x1] at hv
      exact absurd rfl hv
    · rw [x1] at hv
      exact absurd hv (by decide : ¬ ((3 : Int) = 0 ∨ (3 : Int) = 1))
