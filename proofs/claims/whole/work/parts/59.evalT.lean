/-! 59.evalT: the reference reckons tests -/
def EvT (lv br : Int) (o : Option Bool) (r br' : Int) : Prop := (r = 0 ∨ r = 1) ∧ (lv = 0 → br' = br) ∧ (lv ≠ 0 → br ≠ 0 → br' = 1) ∧ (lv ≠ 0 → br = 0 → (∀ x, o = some x → r = (if x then 1 else 0) ∧ br' = 0) ∧ (o = none → br' = 1))
theorem EvT_01 {lv br v br' : Int} {o : Option Bool} (h : EvT lv br o v br') (hb : br = 0 ∨ br = 1) : br' = 0 ∨ br' = 1 := by
  by_cases z : lv = 0
  · have := h.2.1 z; omega
  · by_cases z2 : br = 0
    · cases o with
      | none => have := (h.2.2.2 z z2).2 rfl; omega
      | some x => have := (h.2.2.2 z z2).1 x rfl; omega
    · have := h.2.2.1 z z2; omega
def EvP (τ : Tks) (o : Bool) (base : Int) (w : Wd) (δ : Nat) (rd : Rdr TSem) (K : Nat → Int → MS → MC → Qt → Prop) : Prop := ∀ (d : Nat) (S : MS) (C : MC) (Q : Qt) (lv br : Int) (p n c0 : Nat) (f : TSem) (q n' : Nat) (cd : List Int), Fix S → EnvM τ o base w C → C 81 22 = base + p → C 81 24 = br → (br = 0 ∨ br = 1) → rd p n c0 = .inr (f, q, n', cd) → (∀ C' v, Fp evc C C' → C' 81 22 = base + q → EvT lv br (f w) v (C' 81 24) → Q v S C') → K (d + δ) lv S C Q
def kPos (d : Nat) (l : Int) (S : MS) (C : MC) (Q : Qt) : Prop := K_X11_positiveOf_0 d 0 0 l S C Q
def kPlain (d : Nat) (l : Int) (S : MS) (C : MC) (Q : Qt) : Prop := K_X11_plainOf_0 d 0 0 l S C Q
def kBoth (d : Nat) (l : Int) (S : MS) (C : MC) (Q : Qt) : Prop := K_X11_bothOf_0 d 0 0 l S C Q
def kTest (d : Nat) (l : Int) (S : MS) (C : MC) (Q : Qt) : Prop := K_X11_testOf_0 d 0 0 l S C Q
theorem ev_pos {τ : Tks} {o : Bool} {base : Int} {w : Wd} {δ : Nat} {su : Rdr Sem} {inner : Option (Rdr TSem)} (hs : EvO τ o base w (δ + 1) su kSum) (hg : Gd τ SBd su) (hi : ∀ s, inner = some s → EvP τ o base w (δ + 1) s kTest) : EvP τ o base w (δ + 2) (posP τ su inner) kPos := by
  intro d S C Q lv br p n c0 f q n' cd F E h22 h24 hb e hk
  unfold kPos
  unfold posP at e
  have hbs := E.1
  refine b_X11_positiveOf_0 (d := d + δ + 1) F (s_sign F (x := 140) (by decide +kernel) ⟨rfl, s_passes0 (d := d + δ) F E h22 (by decide) (fun z => ⟨rfl, fun _ => ?_, fun y => absurd rfl y⟩) (fun z => ⟨rfl, fun y => absurd y (by decide), fun _ => ?_⟩)⟩)
  · rw [if_neg z] at e
    obtain ⟨f1, q1, l1, cd1, f2, cd2, e1, e2, e3, e4, _⟩ := cmprP_inv e
    have z2 := isCmp_iff.mp e2
    have h400 := tc_ev E (p := q1) (by omega)
    refine hs d S C _ lv br p n c0 f1 q1 l1 cd1 F E h22 h24 hb e1 (fun C1 v1 g1 g2 r1 => ⟨rfl, ?_⟩)
    have E1 := EnvM_fp E g1
    refine s_codeAt F E1 g2 ⟨rfl, ?_⟩
    rw [g2, w32_lit (x := base + (q1 : Int) + 1) (by omega), show base + (q1 : Int) + 1 = base + ((q1 + 1 : Nat) : Int) by omega]
    have fU : Fp evc C1 (upC C1 81 22 (base + ((q1 + 1 : Nat) : Int))) := Fp_up (by unfold evc; omega) Fp_rf
    refine hs d S _ _ lv (C1 81 24) (q1 + 1) l1 _ f2 q n' cd2 F (EnvM_fp E1 fU) (upC_at _ _ _ _) (by rw [upC_sK (by decide)]) (EvR_01 r1 hb) e3 (fun C2 v2 g3 g4 r2 => ⟨rfl, ?_⟩)
    have f2' : Fp evc C C2 := Fp_tr g1 (Fp_tr fU g3)
    have fin := fun v hv => hk C2 v f2' g4 hv
    refine ⟨fun y => fin 0 ⟨Or.inl rfl, fun _ => by rw [(r2.1 y).2, (r1.1 y).2], fun t => absurd y t, fun t => absurd y t⟩, fun y => ⟨fun y2 => fin 0 ?_, fun y2 => ?_⟩⟩
    · have hb2 := EvR_01 r2 (EvR_01 r1 hb)
      refine ⟨Or.inl rfl, fun t => absurd t y, fun _ _ => by omega, fun _ t => ⟨fun x hx => ?_, fun _ => by omega⟩⟩
      rw [e4] at hx
      unfold cmpS at hx
      cases h1 : f1 w with
      | none => rw [h1] at hx; cases hx
      | some a =>
        cases h2 : f2 w with
        | none => rw [h1] at hx; simp only [h2] at hx; cases hx
        | some b =>
          have t1 := (r1.2.2 y t).1 a h1
          have t2 := (r2.2.2 y t1.2).1 b h2
          omega
    · -- both are known
      have h0 : br = 0 := by
        rcases hb with h | h
        · exact h
        · have t1 := r1.2.1 y (by omega)
          have t2 := r2.2.1 y (by omega)
          omega
      have hv1 : f1 w = some v1 ∧ C1 81 24 = 0 := by
        cases h1 : f1 w with
        | none =>
          have t1 := (r1.2.2 y h0).2 h1
          have t2 := r2.2.1 y (by omega)
          omega
        | some a => have t1 := (r1.2.2 y h0).1 a h1; rw [t1.1]; exact ⟨rfl, t1.2⟩
      have hv2 : f2 w = some v2 := by
        cases h1 : f2 w with
        | none =>
          have t1 := (r2.2.2 y hv1.2).2 h1
          omega
        | some a => have t1 := (r2.2.2 y hv1.2).1 a h1; rw [t1.1]
      have fin2 : ∀ r : Int, r = (if (if tc τ q1 = 160 then decide (v1 < v2) else if tc τ q1 = 162 then decide (v2 < v1) else decide (v1 = v2)) then 1 else 0) → Q r S C2 := fun r hr => by
        refine fin r ⟨by rw [hr]; split <;> omega, fun t => absurd t y, fun _ t => absurd h0 t, fun _ _ => ⟨fun x hx => ?_, fun hx => ?_⟩⟩
        · rw [e4] at hx
          unfold cmpS at hx
          rw [hv1.1] at hx
          simp only [hv2] at hx
          cases hx
          exact ⟨hr, y2⟩
        · rw [e4] at hx
          unfold cmpS at hx
          rw [hv1.1] at hx
          simp only [hv2] at hx
          cases hx
      refine s_sign F (x := 160) (by decide +kernel) ⟨rfl, fun y3 => s_sign F (x := 162) (by decide +kernel) ⟨rfl, fun y4 => ⟨fun y5 => fin2 0 ?_, fun y5 => fin2 1 ?_⟩, fun y4 => ⟨fun y5 => fin2 0 ?_, fun y5 => fin2 1 ?_⟩⟩, fun y3 => ⟨fun y5 => fin2 0 ?_, fun y5 => fin2 1 ?_⟩⟩
      · rw [lC_eq] at y5; rw [if_neg y3, if_neg y4]; simp [y5]
      · rw [lC_eq] at y5; rw [if_neg y3, if_neg y4]; simp [y5]
      · rw [lC_le] at y5; rw [if_neg y3, if_pos y4]; simp; omega
      · rw [lC_le] at y5; rw [if_neg y3, if_pos y4]; simp; omega
      · rw [lC_ge] at y5; rw [if_pos y3]; simp; omega
      · rw [lC_ge] at y5; rw [if_pos y3]; simp; omega
  · rw [if_pos z] at e
    obtain ⟨s, q1, e1, e2, e3, e4⟩ := brP_inv e
    have fU : Fp evc C (upC C 81 22 (base + ((p + 1 : Nat) : Int))) := Fp_up (by unfold evc; omega) Fp_rf
    refine hi s e1 d S _ _ lv br (p + 1) n c0 f q1 n' cd F (EnvM_fp E fU) (upC_at _ _ _ _) (by rw [upC_sK (by decide)]; exact h24) hb e2 (fun C' v f' g' r' => ⟨rfl, r'.1, ?_⟩)
    have := tc_ev E (p := q1) (by omega)
    rw [g', w32_lit (x := base + (q1 : Int) + 1) (by omega)]
    exact hk _ v (Fp_up (by unfold evc; omega) (Fp_tr fU f')) (by rw [upC_at, e4]; omega) (by rw [upC_sK (by decide)]; exact r')
theorem ev_not {τ : Tks} {o : Bool} {base : Int} {w : Wd} {δ : Nat} {po : Rdr TSem} (hp : EvP τ o base w (δ + 1) po kPos) {br lv : Int} (hb : br = 0 ∨ br = 1) {d : Nat} {S : MS} {Q : Qt} (F : Fix S) {l c0 : Nat} {f : TSem} {q l' : Nat} {cd : List Int} : ∀ (n p : Nat) (b : Bool) (C : MC), po (notP τ n p b).2 l c0 = .inr (f, q, l', cd) → τ.length ≤ p + n → EnvM τ o base w C → C 81 22 = base + p → C 81 24 = br → (∀ C' v', Fp evc C C' → C' 81 22 = base + q → EvT lv br (notS (notP τ n p b).1 f w) v' (C' 81 24) → Q v' S C') → K_X11_plainOf_2 (d + (δ + 2)) 0 0 lv (if b then 1 else 0) S C Q := by
  have fin : ∀ (p : Nat) (b : Bool) (C : MC), po p l c0 = .inr (f, q, l', cd) → tc τ p ≠ 7 → EnvM τ o base w C → C 81 22 = base + p → C 81 24 = br → (∀ C' v', Fp evc C C' → C' 81 22 = base + q → EvT lv br (notS b f w) v' (C' 81 24) → Q v' S C') → K_X11_plainOf_2 (d + (δ + 2)) 0 0 lv (if b then 1 else 0) S C Q := by
    intro p b C e hn E h22 h24 hk
    refine b_X11_plainOf_2 (d := d + δ + 1) F (s_passes0 (d := d + δ) F E h22 (by decide) (fun z => ⟨rfl, fun _ => ?_, fun y => absurd rfl y⟩) (fun z => absurd z hn))
    refine hp d S C _ lv br p l c0 f q l' cd F E h22 h24 hb e (fun C1 v f1 g1 r1 => ⟨rfl, ?_⟩)
    have gen : ∀ r : Int, r = (if v = (if b then 1 else 0) then 0 else 1) → Q r S C1 := fun r hr => by
      refine hk C1 r f1 g1 ⟨by rw [hr]; split <;> omega, r1.2.1, r1.2.2.1, fun z z2 => ⟨fun x hx => ?_, fun hx => ?_⟩⟩
      · unfold notS at hx
        cases h1 : f w with
        | none => rw [h1] at hx; cases hx
        | some a =>
          rw [h1] at hx
          cases hx
          have t := (r1.2.2.2 z z2).1 a h1
          refine ⟨?_, t.2⟩
          rw [hr, t.1]
          cases a <;> cases b <;> rfl
      · unfold notS at hx
        cases h1 : f w with
        | none => exact (r1.2.2.2 z z2).2 h1
        | some a => rw [h1] at hx; cases hx
    exact ⟨fun y => gen 0 (by rw [if_pos y]), fun y => gen 1 (by rw [if_neg y])⟩
  intro n
  induction n with
  | zero =>
    intro p b C e hn E h22 h24 hk
    unfold notP at e hk
    exact fin p b C e (by rw [tc_hi (by omega)]; decide) E h22 h24 hk
  | succ n ih =>
    intro p b C e hn E h22 h24 hk
    by_cases z : tc τ p = 7
    · unfold notP at e hk
      rw [if_pos z] at e hk
      have hbs := E.1
      refine b_X11_plainOf_2 (d := d + δ + 1) F (s_passes0 (d := d + δ) F E h22 (by decide) (fun y => absurd z y) (fun _ => ⟨rfl, fun y => absurd y (by decide), fun _ => ?_⟩))
      have fU : Fp evc C (upC C 81 22 (base + ((p + 1 : Nat) : Int))) := Fp_up (by unfold evc; omega) Fp_rf
      have nx := ih (p + 1) (!b) _ e (by omega) (EnvM_fp E fU) (upC_at _ _ _ _) (by rw [upC_sK (by decide)]; exact h24) (fun C' v' f' g' r' => hk C' v' (Fp_tr fU f') g' r')
      cases b with
      | true => exact ⟨fun _ => nx, fun y => absurd y (by decide)⟩
      | false => exact ⟨fun y => absurd rfl y, fun _ => nx⟩
    · unfold notP at e hk
      rw [if_neg z] at e hk
      exact fin p b C e z E h22 h24 hk
theorem ev_plain {τ : Tks} {o : Bool} {base : Int} {w : Wd} {δ : Nat} {su : Rdr Sem} {inner : Option (Rdr TSem)} (hs : EvO τ o base w (δ + 1) su kSum) (hg : Gd τ SBd su) (hi : ∀ s, inner = some s → EvP τ o base w (δ + 1) s kTest) : EvP τ o base w (δ + 3) (plainP τ su inner) kPlain := by
  intro d S C Q lv br p n c0 f q n' cd F E h22 h24 hb e hk
  obtain ⟨f1, cd1, e1, e2, _⟩ := plainP_inv e
  have hN := E.2.1
  refine b_X11_plainOf_0 F ?_
  refine ev_not (δ := δ + 1) (ev_pos hs hg hi) hb F 400 p false C e1 (by omega) E h22 h24 (fun C' v' f' g' r' => hk C' v' f' g' (by rw [e2]; exact r'))
theorem EvT_laz {lv br b1 b2 v v2 lv2 sN : Int} {stop : Bool} {f g : TSem} {w : Wd} (hs : sN = if stop then 1 else 0) (hv : EvT lv br (f w) v b1) (r1 : EvT lv2 b1 (g w) v2 b2) (hl : lv2 = 0 ↔ lv = 0 ∨ v = sN) : EvT lv br (lazS stop f g w) (if v = sN then sN else v2) b2 := by
  refine ⟨?_, fun t => ?_, fun t t2 => ?_, fun t t2 => ?_⟩
  · have := r1.1
    have h3 := hv.1
    split <;> omega
  · rw [r1.2.1 (hl.mpr (Or.inl t)), hv.2.1 t]
  · have a1 := hv.2.2.1 t t2
    by_cases t3 : v = sN
    · rw [r1.2.1 (hl.mpr (Or.inr t3)), a1]
    · exact r1.2.2.1 (fun y => by have := hl.mp y; omega) (by omega)
  · cases hf : f w with
    | none =>
      have a1 := (hv.2.2.2 t t2).2 hf
      have e5 : lazS stop f g w = none := by unfold lazS; rw [hf]
      rw [e5]
      refine ⟨fun x hx => (by cases hx), fun _ => ?_⟩
      by_cases t3 : v = sN
      · rw [r1.2.1 (hl.mpr (Or.inr t3)), a1]
      · exact r1.2.2.1 (fun y => by have := hl.mp y; omega) (by omega)
    | some x =>
      have a1 := (hv.2.2.2 t t2).1 x hf
      by_cases hx : x = stop
      · subst hx
        have e5 : lazS x f g w = some x := by unfold lazS; rw [hf]; simp
        have v0 : v = sN := by rw [hs]; exact a1.1
        rw [e5]
        refine ⟨fun y hy => ?_, fun hx => (by cases hx)⟩
        cases hy
        rw [if_pos v0, r1.2.1 (hl.mpr (Or.inr v0)), a1.2]
        exact ⟨hs, rfl⟩
      · have e5 : lazS stop f g w = g w := by unfold lazS; rw [hf]; simp [hx]
        have v0 : v ≠ sN := by
          rw [a1.1, hs]
          cases x <;> cases stop <;> simp at hx ⊢
        rw [e5, if_neg v0]
        exact r1.2.2.2 (fun y => by have := hl.mp y; omega) a1.2
/-- the rest behind "and" -/
theorem ev_brow {τ : Tks} {o : Bool} {base : Int} {w : Wd} {δ : Nat} {pt : Rdr TSem} (hp : EvP τ o base w (δ + 1) pt kPlain) (hg : Gd τ Tr pt) {br : Int} (hb : br = 0 ∨ br = 1) {lv : Int} {d : Nat} {S : MS} {Q : Qt} (F : Fix S) : ∀ (n : Nat) (f : TSem) (p l c0 : Nat) (cd : List Int) (g : TSem) (q l' : Nat) (cd' : List Int) (C : MC) (v : Int), lazP τ 6 12 false pt n f p l c0 cd = .inr (g, q, l', cd') → τ.length ≤ p + n → p ≤ τ.length → EnvM τ o base w C → C 81 22 = base + p → EvT lv br (f w) v (C 81 24) → (∀ C' v', Fp evc C C' → C' 81 22 = base + q → EvT lv br (g w) v' (C' 81 24) → Q v' S C') → K_X11_bothOf_6 (d + (δ + 2)) 0 0 lv v S C Q := by
  intro n
  induction n with
  | zero =>
    intro f p l c0 cd g q l' cd' C v e hn hpl E h22 hv hk
    unfold lazP at e
    cases e
    refine b_X11_bothOf_6 (d := d + δ + 1) F (s_passes0 (d := d + δ) F E h22 (by decide) (fun z => ⟨rfl, fun _ => ⟨hv.1, hk C v Fp_rf h22 hv⟩, fun y => absurd rfl y⟩) (fun z => ?_))
    rw [tc_hi (by omega)] at z
    cases z
  | succ n ih =>
    intro f p l c0 cd g q l' cd' C v e hn hpl E h22 hv hk
    rcases lazP_inv e with ⟨z, e1, e2, e3, _⟩ | ⟨z, g1, q1, l1, cd1, e1, e2⟩
    · subst e1 e2
      exact b_X11_bothOf_6 (d := d + δ + 1) F (s_passes0 (d := d + δ) F E h22 (by decide) (fun z => ⟨rfl, fun _ => ⟨hv.1, hk C v Fp_rf h22 hv⟩, fun y => absurd rfl y⟩) (fun y => absurd y z))
    · obtain ⟨ga, gb, _⟩ := hg _ _ _ _ _ _ _ e1
      refine b_X11_bothOf_6 (d := d + δ + 1) F (s_passes0 (d := d + δ) F E h22 (by decide) (fun y => absurd z y) (fun _ => ⟨rfl, fun y => absurd y (by decide), fun _ => ?_⟩))
      have fU : Fp evc C (upC C 81 22 (base + ((p + 1 : Nat) : Int))) := Fp_up (by unfold evc; omega) Fp_rf
      have go : ∀ (C1 : MC) (r : Int), Fp evc C C1 → C1 81 22 = base + q1 → EvT lv br (lazS false f g1 w) r (C1 81 24) → K_X11_bothOf_6 (d + (δ + 2)) 0 0 lv r S C1 Q := fun C1 r f1 g1' hr => ih _ _ _ _ _ _ _ _ _ C1 r e2 (by omega) (by omega) (EnvM_fp E f1) g1' hr (fun C4 v4 f4 g4 r4 => hk C4 v4 (Fp_tr f1 f4) g4 r4)
      have all : ∀ lv2 : Int, (lv2 = 0 ↔ lv = 0 ∨ v = 0) → K_X11_plainOf_0 (d + (δ + 1)) 0 0 lv2 S (upC C 81 22 (base + ((p + 1 : Nat) : Int))) (fun r3 Sq C4 => Sq = S ∧ ((v = 0 → K_X11_bothOf_6 (d + (δ + 2)) 0 0 lv 0 S C4 Q) ∧ (¬ v = 0 → ((r3 = 0 → K_X11_bothOf_6 (d + (δ + 2)) 0 0 lv 0 S C4 Q) ∧ (¬ r3 = 0 → K_X11_bothOf_6 (d + (δ + 2)) 0 0 lv 1 S C4 Q))))) := by
        intro lv2 hl
        refine hp d S _ _ lv2 (C 81 24) (p + 1) l _ g1 q1 l1 cd1 F (EnvM_fp E fU) (upC_at _ _ _ _) (by rw [upC_sK (by decide)]) (EvT_01 hv hb) e1 (fun C1 v2 f1 g22 r1 => ⟨rfl, ?_⟩)
        have hE := EvT_laz (sN := 0) (stop := false) rfl hv r1 hl
        refine ⟨fun y => go C1 0 (Fp_tr fU f1) g22 ?_, fun y => ⟨fun y2 => go C1 0 (Fp_tr fU f1) g22 ?_, fun y2 => go C1 1 (Fp_tr fU f1) g22 ?_⟩⟩
        · rw [if_pos y] at hE; exact hE
        · rw [if_neg y, y2] at hE; exact hE
        · rw [if_neg y, show v2 = 1 by have := r1.1; omega] at hE; exact hE
      exact ⟨fun y => all 0 (by omega), fun y => ⟨fun y2 => all 0 (by omega), fun y2 => all 1 (by omega)⟩⟩
theorem ev_both {τ : Tks} {o : Bool} {base : Int} {w : Wd} {δ : Nat} {pt : Rdr TSem} (hp : EvP τ o base w (δ + 1) pt kPlain) (hg : Gd τ Tr pt) : EvP τ o base w (δ + 2) (lazyP τ 6 12 false pt) kBoth := by
  intro d S C Q lv br p n c0 f q n' cd F E h22 h24 hb e hk
  obtain ⟨f1, q1, lv1, cd1, e1, e2⟩ := lazyP_inv e
  obtain ⟨ga, gb, gc⟩ := hg _ _ _ _ _ _ _ e1
  have hN := E.2.1
  refine b_X11_bothOf_0 (d := d + δ + 1) F (hp d S C _ lv br p n c0 f1 q1 lv1 cd1 F E h22 h24 hb e1 (fun C1 v f1' g1 r1 => ⟨rfl, ?_⟩))
  exact ev_brow hp hg hb F 400 _ _ _ _ _ _ _ _ _ C1 v e2 (by omega) ga.2 (EnvM_fp E f1') g1 r1 (fun C2 v2 f2 g2 r2 => hk C2 v2 (Fp_tr f1' f2) g2 r2)
/-- the rest behind "or" -/
theorem ev_orow {τ : Tks} {o : Bool} {base : Int} {w : Wd} {δ : Nat} {pt : Rdr TSem} (hp : EvP τ o base w (δ + 1) pt kBoth) (hg : Gd τ Tr pt) {br : Int} (hb : br = 0 ∨ br = 1) {lv : Int} {d : Nat} {S : MS} {Q : Qt} (F : Fix S) : ∀ (n : Nat) (f : TSem) (p l c0 : Nat) (cd : List Int) (g : TSem) (q l' : Nat) (cd' : List Int) (C : MC) (v : Int), lazP τ 5 13 true pt n f p l c0 cd = .inr (g, q, l', cd') → τ.length ≤ p + n → p ≤ τ.length → EnvM τ o base w C → C 81 22 = base + p → EvT lv br (f w) v (C 81 24) → (∀ C' v', Fp evc C C' → C' 81 22 = base + q → EvT lv br (g w) v' (C' 81 24) → Q v' S C') → K_X11_testOf_6 (d + (δ + 2)) 0 0 lv v S C Q := by
  intro n
  induction n with
  | zero =>
    intro f p l c0 cd g q l' cd' C v e hn hpl E h22 hv hk
    unfold lazP at e
    cases e
    refine b_X11_testOf_6 (d := d + δ + 1) F (s_passes0 (d := d + δ) F E h22 (by decide) (fun z => ⟨rfl, fun _ => ⟨hv.1, hk C v Fp_rf h22 hv⟩, fun y => absurd rfl y⟩) (fun z => ?_))
    rw [tc_hi (by omega)] at z
    cases z
  | succ n ih =>
    intro f p l c0 cd g q l' cd' C v e hn hpl E h22 hv hk
    rcases lazP_inv e with ⟨z, e1, e2, e3, _⟩ | ⟨z, g1, q1, l1, cd1, e1, e2⟩
    · subst e1 e2
      exact b_X11_testOf_6 (d := d + δ + 1) F (s_passes0 (d := d + δ) F E h22 (by decide) (fun z => ⟨rfl, fun _ => ⟨hv.1, hk C v Fp_rf h22 hv⟩, fun y => absurd rfl y⟩) (fun y => absurd y z))
    · obtain ⟨ga, gb, _⟩ := hg _ _ _ _ _ _ _ e1
      have h3 := hv.1
      refine b_X11_testOf_6 (d := d + δ + 1) F (s_passes0 (d := d + δ) F E h22 (by decide) (fun y => absurd z y) (fun _ => ⟨rfl, fun y => absurd y (by decide), fun _ => ?_⟩))
      have fU : Fp evc C (upC C 81 22 (base + ((p + 1 : Nat) : Int))) := Fp_up (by unfold evc; omega) Fp_rf
      have go : ∀ (C1 : MC) (r : Int), Fp evc C C1 → C1 81 22 = base + q1 → EvT lv br (lazS true f g1 w) r (C1 81 24) → K_X11_testOf_6 (d + (δ + 2)) 0 0 lv r S C1 Q := fun C1 r f1 g1' hr => ih _ _ _ _ _ _ _ _ _ C1 r e2 (by omega) (by omega) (EnvM_fp E f1) g1' hr (fun C4 v4 f4 g4 r4 => hk C4 v4 (Fp_tr f1 f4) g4 r4)
      have all : ∀ lv2 : Int, (lv2 = 0 ↔ lv = 0 ∨ v = 1) → K_X11_bothOf_0 (d + (δ + 1)) 0 0 lv2 S (upC C 81 22 (base + ((p + 1 : Nat) : Int))) (fun r3 Sq C4 => Sq = S ∧ ((¬ v = 0 → K_X11_testOf_6 (d + (δ + 2)) 0 0 lv 1 S C4 Q) ∧ (v = 0 → ((r3 = 0 → K_X11_testOf_6 (d + (δ + 2)) 0 0 lv 0 S C4 Q) ∧ (¬ r3 = 0 → K_X11_testOf_6 (d + (δ + 2)) 0 0 lv 1 S C4 Q))))) := by
        intro lv2 hl
        refine hp d S _ _ lv2 (C 81 24) (p + 1) l _ g1 q1 l1 cd1 F (EnvM_fp E fU) (upC_at _ _ _ _) (by rw [upC_sK (by decide)]) (EvT_01 hv hb) e1 (fun C1 v2 f1 g22 r1 => ⟨rfl, ?_⟩)
        have hE := EvT_laz (sN := 1) (stop := true) rfl hv r1 hl
        refine ⟨fun y => go C1 1 (Fp_tr fU f1) g22 ?_, fun y => ⟨fun y2 => go C1 0 (Fp_tr fU f1) g22 ?_, fun y2 => go C1 1 (Fp_tr fU f1) g22 ?_⟩⟩
        · rw [if_pos (show v = 1 by omega)] at hE; exact hE
        · rw [if_neg (show ¬ v = 1 by omega), y2] at hE; exact hE
        · rw [if_neg (show ¬ v = 1 by omega), show v2 = 1 by have := r1.1; omega] at hE; exact hE
      exact ⟨fun y => all 0 (by omega), fun y => ⟨fun y2 => all 0 (by omega), fun y2 => all 1 (by omega)⟩⟩
theorem ev_or {τ : Tks} {o : Bool} {base : Int} {w : Wd} {δ : Nat} {pt : Rdr TSem} (hp : EvP τ o base w (δ + 1) pt kBoth) (hg : Gd τ Tr pt) : EvP τ o base w (δ + 2) (lazyP τ 5 13 true pt) kTest := by
  intro d S C Q lv br p n c0 f q n' cd F E h22 h24 hb e hk
  obtain ⟨f1, q1, lv1, cd1, e1, e2⟩ := lazyP_inv e
  obtain ⟨ga, gb, gc⟩ := hg _ _ _ _ _ _ _ e1
  have hN := E.2.1
  refine b_X11_testOf_0 (d := d + δ + 1) F (hp d S C _ lv br p n c0 f1 q1 lv1 cd1 F E h22 h24 hb e1 (fun C1 v f1' g1 r1 => ⟨rfl, ?_⟩))
  exact ev_orow hp hg hb F 400 _ _ _ _ _ _ _ _ _ C1 v e2 (by omega) ga.2 (EnvM_fp E f1') g1 r1 (fun C2 v2 f2 g2 r2 => hk C2 v2 (Fp_tr f1' f2) g2 r2)
theorem ev_test {τ : Tks} {o : Bool} {base : Int} {w : Wd} {δ : Nat} {pl : Rdr TSem} (hp : EvP τ o base w (δ + 1) pl kPlain) (hg : Gd τ Tr pl) : EvP τ o base w (δ + 3) (testP τ pl) kTest := ev_or (ev_both hp hg) (Gd_lazy hg)
theorem EvO_up {τ : Tks} {o : Bool} {base : Int} {w : Wd} {δ e : Nat} {rd : Rdr Sem} {K : Nat → Int → MS → MC → Qt → Prop} (h : EvO τ o base w δ rd K) : EvO τ o base w (δ + e) rd K := by
  intro d S C Q lv br p n c0 f q n' cd F E h22 h24 hb e1 hk
  have := h (d + e) S C Q lv br p n c0 f q n' cd F E h22 h24 hb e1 hk
  rw [show d + (δ + e) = d + e + δ by omega]
  exact this
theorem ev_pl (τ : Tks) (o : Bool) (base : Int) (w : Wd) : ∀ g, EvP τ o base w (5 * g + 7) (plP τ o g) kPlain
  | 0 => ev_plain (δ := 4) (ev_sumg τ o base w 0) (Gd_sum (Gd_pt τ o 0)) (fun s e => by cases e)
  | g + 1 => ev_plain (δ := 5 * g + 9) (by have := EvO_up (e := 2 * g + 2) (ev_sumg τ o base w (g + 1)); rwa [show 3 * (g + 1) + 5 + (2 * g + 2) = 5 * g + 9 + 1 by omega] at this) (Gd_sum (Gd_pt τ o (g + 1))) (fun s e => by cases e; have := ev_test (δ := 5 * g + 6) (ev_pl τ o base w g) (Gd_pl τ o g); intro d; have t2 := this (d + 1); rwa [show d + 1 + (5 * g + 6 + 3) = d + (5 * g + 9 + 1) by omega] at t2)
theorem ev_test8 (τ : Tks) (o : Bool) (base : Int) (w : Wd) : EvP τ o base w 49 (test8 τ o) kTest := ev_test (δ := 46) (ev_pl τ o base w 8) (Gd_pl τ o 8)
theorem ev_sum8 (τ : Tks) (o : Bool) (base : Int) (w : Wd) : EvO τ o base w 29 (sum8 τ o) kSum := ev_sumg τ o base w 8
