/-! 58.eval: the reference reckons what the tokens say -/
theorem tdiv_bd {a b : Int} (h : Bd a) : Bd (Int.tdiv a b) := by
  have h1 : (Int.tdiv a b).natAbs ≤ a.natAbs := by rw [Int.natAbs_tdiv]; exact Nat.div_le_self _ _
  unfold Bd at *
  omega
theorem tmod_bd {a b : Int} (h : Bd a) : Bd (Int.tmod a b) := by
  have h1 : (Int.tmod a b).natAbs ≤ a.natAbs := by rw [Int.natAbs_tmod]; exact Nat.mod_le _ _
  unfold Bd at *
  omega
theorem mul_bd {a b : Int} (h : Bd a) (g : Bd b) : -4611686018427387904 ≤ a * b ∧ a * b ≤ 4611686018427387904 := by
  unfold Bd at *
  have h1 : (a * b).natAbs = a.natAbs * b.natAbs := Int.natAbs_mul a b
  have h2 : a.natAbs * b.natAbs ≤ 2147483648 * 2147483648 := Nat.mul_le_mul (by omega) (by omega)
  omega
def evc (a k : Int) : Prop := a = 81 ∧ (k = 22 ∨ k = 24)
/-- what came of a reckoning: live, broken ahead, meaning, value, broken behind -/
def EvR (lv br : Int) (o : Option Int) (v br' : Int) : Prop := (lv = 0 → v = 0 ∧ br' = br) ∧ (lv ≠ 0 → br ≠ 0 → v = 0 ∧ br' = 1) ∧ (lv ≠ 0 → br = 0 → (∀ x, o = some x → v = x ∧ br' = 0) ∧ (o = none → v = 0 ∧ br' = 1))
theorem EvR_01 {lv br v br' : Int} {o : Option Int} (h : EvR lv br o v br') (hb : br = 0 ∨ br = 1) : br' = 0 ∨ br' = 1 := by
  by_cases z : lv = 0
  · have := h.1 z; omega
  · by_cases z2 : br = 0
    · cases o with
      | none => have := (h.2.2 z z2).2 rfl; omega
      | some x => have := (h.2.2 z z2).1 x rfl; omega
    · have := h.2.1 z z2; omega
theorem EvR_bd {lv br v br' : Int} {o : Option Int} (h : EvR lv br o v br') (ho : ∀ x, o = some x → Bd x) : Bd v := by
  have h0 : Bd 0 := by unfold Bd; omega
  by_cases z : lv = 0
  · rw [(h.1 z).1]; exact h0
  · by_cases z2 : br = 0
    · cases o with
      | none => rw [((h.2.2 z z2).2 rfl).1]; exact h0
      | some x => rw [((h.2.2 z z2).1 x rfl).1]; exact ho x rfl
    · rw [(h.2.1 z z2).1]; exact h0
/-- words of the orders -/
def OrdW (C : MC) (w : Wd) : Prop := (∀ k, 0 ≤ k → k < 8 → w (21 + k) = C 83 k) ∧ (∀ b, 0 ≤ b → b < 16 → w (5 + b) = C 83 (8 + b)) ∧ w 0 = C 83 24 ∧ w 1 = C 81 27 ∧ w 2 = C 81 28 ∧ w 3 = C 81 29 ∧ w 4 = ntn (fun b => C 83 (8 + b)) 16 ∧ ∀ k, 0 ≤ k → k < 16 → 0 ≤ C 83 (8 + k) ∧ C 83 (8 + k) ≤ 255
/-- where the reference reckons -/
def EnvM (τ : Tks) (o : Bool) (base : Int) (w : Wd) (C : MC) : Prop := (0 ≤ base ∧ base ≤ 2400) ∧ τ.length ≤ 400 ∧ C 81 23 = base + τ.length ∧ C 81 25 = (if o then 1 else 0) ∧ (∀ j : Nat, j < τ.length → C 83 (56 + base + j) = tc τ j ∧ C 83 (2856 + base + j) = tv τ j) ∧ (o = false → ∀ c, 8 ≤ c → c ≤ 15 → C 93 (c - 8) = w (lwW c)) ∧ (o = true → OrdW C w) ∧ ∀ i, Bd (w i)
theorem EnvM_fp {τ : Tks} {o : Bool} {base : Int} {w : Wd} {C C' : MC} (h : EnvM τ o base w C) (f : Fp evc C C') : EnvM τ o base w C' := by
  obtain ⟨a, b, c, e, g, i, j, k⟩ := h
  have r83 : C' 83 = C 83 := fp_row f (fun k => by unfold evc; omega)
  have r93 : C' 93 = C 93 := fp_row f (fun k => by unfold evc; omega)
  have r81 : ∀ k, k ≠ 22 → k ≠ 24 → C' 81 k = C 81 k := fun k h1 h2 => f 81 k (by unfold evc; omega)
  refine ⟨a, b, by rw [r81 23 (by decide) (by decide)]; exact c, by rw [r81 25 (by decide) (by decide)]; exact e, by rw [r83]; exact g, by rw [r93]; exact i, fun z => ?_, k⟩
  unfold OrdW
  rw [r83, r81 27 (by decide) (by decide), r81 28 (by decide) (by decide), r81 29 (by decide) (by decide)]
  exact j z
theorem tc_ev {τ : Tks} {o : Bool} {base : Int} {w : Wd} {C : MC} (h : EnvM τ o base w C) {p : Nat} (hp : tc τ p ≠ 0) : p < 400 := by
  have := tc_in hp
  have := h.2.1
  omega
theorem s_codeAt {d mc ms : Nat} {τ : Tks} {o : Bool} {base l : Int} {w : Wd} {p : Nat} {S : MS} {C : MC} {Q : Qt} (F : Fix S) (E : EnvM τ o base w C) (hl : l = base + p) (h : Q (tc τ p) S C) : K_X11_codeAt_0 d mc ms l S C Q := by
  obtain ⟨a, b, c, e, g, _⟩ := E
  refine b_X11_codeAt_0 F ⟨fun z => ?_, fun z => ?_⟩
  · rw [tc_hi (by omega)] at h; exact h
  · rw [w32_lit (x := 56 + l) (by omega), hl, ← Int.add_assoc, (g p (by omega)).1]
    exact ⟨by omega, h⟩
theorem s_sign {d mc ms : Nat} {c x : Int} {S : MS} {C : MC} {Q : Qt} (F : Fix S) (hx : w32 (100 + c) = x) (h : Q x S C) : K_X11_sign_0 d mc ms c S C Q := by
  refine b_X11_sign_0 F ?_
  rw [hx]
  exact h
theorem s_passes0 {d mc ms : Nat} {τ : Tks} {o : Bool} {base c : Int} {w : Wd} {p : Nat} {S : MS} {C : MC} {Q : Qt} (F : Fix S) (E : EnvM τ o base w C) (hl : C 81 22 = base + p) (hc : c ≠ 0) (h0 : tc τ p ≠ c → Q 0 S C) (h1 : tc τ p = c → Q 1 S (upC C 81 22 (base + (p + 1 : Nat)))) : K_X11_passes0_0 (d + 1) mc ms c S C Q := by
  refine b_X11_passes0_0 F (s_codeAt F E hl ⟨rfl, fun z => ⟨fun _ => h0 z, fun y => absurd rfl y⟩, fun z => ⟨fun y => absurd y (by decide), fun _ => ?_⟩⟩)
  have := tc_ev E (p := p) (by rw [z]; exact hc)
  have hb := E.1
  rw [hl, w32_lit (x := base + (p : Int) + 1) (by omega), show base + (p : Int) + 1 = base + ((p + 1 : Nat) : Int) by omega]
  exact h1 z
/-- a method of the reference that reckons what a reader reads -/
def EvO (τ : Tks) (o : Bool) (base : Int) (w : Wd) (δ : Nat) (rd : Rdr Sem) (K : Nat → Int → MS → MC → Qt → Prop) : Prop := ∀ (d : Nat) (S : MS) (C : MC) (Q : Qt) (lv br : Int) (p n c0 : Nat) (f : Sem) (q n' : Nat) (cd : List Int), Fix S → EnvM τ o base w C → C 81 22 = base + p → C 81 24 = br → (br = 0 ∨ br = 1) → rd p n c0 = .inr (f, q, n', cd) → (∀ C' v, Fp evc C C' → C' 81 22 = base + q → EvR lv br (f w) v (C' 81 24) → Q v S C') → K (d + δ) lv S C Q
def kPart (d : Nat) (l : Int) (S : MS) (C : MC) (Q : Qt) : Prop := K_X11_partOf_0 d 0 0 l S C Q
def kTerm (d : Nat) (l : Int) (S : MS) (C : MC) (Q : Qt) : Prop := K_X11_termOf_0 d 0 0 l S C Q
def kSum (d : Nat) (l : Int) (S : MS) (C : MC) (Q : Qt) : Prop := K_X11_sumOf_0 d 0 0 l S C Q
theorem s_leaf94 {d : Nat} {lv l2 l3 x : Int} {S : MS} {C : MC} {Q : Qt} (F : Fix S) (hb : C 81 24 = 0 ∨ C 81 24 = 1) (h : lv ≠ 0 → C 81 24 = 0 → ((¬ l2 = 50 → ((C 81 25 = 0 → ((0 : Int) ≤ w32 (l2 - 8) ∧ w32 (l2 - 8) < 8) ∧ C 93 (w32 (l2 - 8)) = x) ∧ (¬ C 81 25 = 0 → ∀ Q1 : Qt, Q1 x S C → K_X11_orderValue_0 (d + 2) 0 0 l2 l3 S C Q1))) ∧ (l2 = 50 → ((0 : Int) ≤ w32 ((w32 (2856 + (C 81 22))) - 1) ∧ w32 ((w32 (2856 + (C 81 22))) - 1) < 5656) ∧ C 83 (w32 ((w32 (2856 + (C 81 22))) - 1)) = x))) (hk : ∀ v, EvR lv (C 81 24) (some x) v (C 81 24) → Q v S C) : K_X11_partOf_94 (d + 3) 0 0 lv l2 l3 S C Q := by
  refine b_X11_partOf_94 F ⟨fun z => hk 0 ⟨fun _ => ⟨rfl, rfl⟩, fun y => absurd z y, fun y => absurd z y⟩, fun z => ⟨fun z2 => ?_, fun z2 => hk 0 ⟨fun y => absurd y z, fun _ _ => ⟨rfl, by omega⟩, fun _ y => absurd y z2⟩⟩⟩
  have hq := hk x ⟨fun y => absurd y z, fun _ y => absurd z2 y, fun _ _ => ⟨fun y e => by cases e; exact ⟨rfl, z2⟩, fun e => by cases e⟩⟩
  obtain ⟨h1, h2⟩ := h z z2
  refine ⟨fun y => ⟨fun y2 => ?_, fun y2 => (h1 y).2 y2 _ ⟨rfl, hq⟩⟩, fun y => ?_⟩
  · obtain ⟨g1, g2⟩ := (h1 y).1 y2
    rw [g2]
    exact ⟨g1, hq⟩
  · obtain ⟨g1, g2⟩ := h2 y
    rw [g2]
    exact ⟨g1, hq⟩
theorem ev_part {τ : Tks} {o : Bool} {base : Int} {w : Wd} {δ : Nat} {inner : Option (Rdr Sem)} (hi : ∀ s, inner = some s → EvO τ o base w (δ + 2) s kSum) : EvO τ o base w (δ + 3) (partP τ o inner) kPart := by
  intro d S C Q lv br p n c0 f q n' cd F E h22 h24 hb e hk
  unfold kPart
  have hbs := E.1
  refine b_X11_partOf_0 (d := d + δ + 2) F (s_sign F (x := 191) (by decide +kernel) ⟨rfl, s_passes0 (d := d + δ + 1) F E h22 (by decide) (fun z => ⟨rfl, fun _ => ?_, fun y => absurd rfl y⟩) (fun z => ⟨rfl, fun y => absurd y (by decide), fun _ => ?_⟩)⟩)
  · -- a leaf
    rcases partP_inv e with ⟨z2, _⟩ | ⟨_, hn, hl⟩
    · exact absurd z2 z
    have key : ∀ (x : Int) (q' : Nat) (l3 : Int), f w = some x → q = q' → q' ≤ 400 → ∀ C1 : MC, Fp evc C C1 → C1 81 22 = base + q' → C1 81 24 = br → ((¬ tc τ p = 50 → ((C 81 25 = 0 → ((0 : Int) ≤ w32 (tc τ p - 8) ∧ w32 (tc τ p - 8) < 8) ∧ C 93 (w32 (tc τ p - 8)) = x) ∧ (¬ C 81 25 = 0 → ∀ Q1 : Qt, Q1 x S C1 → K_X11_orderValue_0 (d + δ + 2) 0 0 (tc τ p) l3 S C1 Q1))) ∧ (tc τ p = 50 → q' = p + 1 ∧ p < τ.length ∧ tv τ p = x)) → K_X11_partOf_94 (d + δ + 3) 0 0 lv (tc τ p) l3 S C1 Q := by
      intro x q' l3 ef eq hq4 C1 f1 h1 h2 hv
      have E1 := EnvM_fp E f1
      have e25 : C1 81 25 = C 81 25 := f1 81 25 (by unfold evc; omega)
      have e93 : C1 93 = C 93 := fp_row f1 (fun k => by unfold evc; omega)
      refine s_leaf94 (d := d + δ) (x := x) F (by rw [h2]; exact hb) (fun _ _ => ⟨fun y => ⟨fun y2 => ?_, fun y2 => ?_⟩, fun y => ?_⟩) (fun v hv2 => hk C1 v f1 (by rw [eq]; exact h1) (by rw [ef]; rw [h2] at hv2 ⊢; exact hv2))
      · rw [e93]; exact (hv.1 y).1 (by rw [← e25]; exact y2)
      · exact (hv.1 y).2 (by rw [← e25]; exact y2)
      · obtain ⟨g1, g2, g3⟩ := hv.2 y
        rw [h1, w32_lit (x := 2856 + (base + (q' : Int))) (by omega), w32_lit (x := 2856 + (base + (q' : Int)) - 1) (by omega), show 2856 + (base + (q' : Int)) - 1 = 2856 + base + (p : Int) by omega, (E1.2.2.2.2.1 p g2).2]
        exact ⟨by omega, g3⟩
    have up1 : Fp evc C (upC C 81 22 (w32 (C 81 22 + 1))) := Fp_up (by unfold evc; omega) Fp_rf
    have hpl : p < τ.length ∧ τ.length ≤ 400 := by
      refine ⟨tc_in (τ := τ) (p := p) ?_, E.2.1⟩
      rcases hl with ⟨l1, _⟩ | ⟨_, l1⟩
      · omega
      · obtain ⟨_, i, _, _, _, b4⟩ := wordP_inv l1
        rcases b4 with ⟨_, c1, _⟩ | ⟨_, c1, _⟩ | ⟨_, c1, _⟩ | ⟨_, c1, _⟩ <;> omega
    have ew : w32 (C 81 22 + 1) = base + ((p + 1 : Nat) : Int) := by rw [h22, w32_lit (by omega)]; omega
    refine s_codeAt F E h22 ⟨rfl, fun y => ?_, fun y => ?_⟩
    · -- laws
      rw [ew]
      have ho : o = false := by
        cases o with
        | false => rfl
        | true => rw [E.2.2.2.1] at y; simp at y
      rcases hl with ⟨l1, l2, l3, l4, _⟩ | ⟨l0, l1⟩
      · exact key (tv τ p) (p + 1) 0 (by rw [l3]) l4 (by omega) _ (Fp_up (by unfold evc; omega) Fp_rf) (upC_at _ _ _ _) (by rw [upC_sK (by decide)]; exact h24) ⟨fun z2 => absurd l1 z2, fun _ => ⟨rfl, hpl.1, rfl⟩⟩
      · obtain ⟨_, i, b1, b2, b3, b4⟩ := wordP_inv l1
        rcases b4 with ⟨c0, _⟩ | ⟨c0, _⟩ | ⟨c0, _⟩ | ⟨_, c1, c2, c3, c4⟩
        · rw [ho] at c0; cases c0
        · rw [ho] at c0; cases c0
        · rw [ho] at c0; cases c0
        · refine key (w i) (p + 1) 0 (by rw [b1]) c2 (by omega) _ (Fp_up (by unfold evc; omega) Fp_rf) (upC_at _ _ _ _) (by rw [upC_sK (by decide)]; exact h24) ⟨fun z2 => ⟨fun _ => ?_, fun y2 => absurd y y2⟩, fun z2 => by omega⟩
          rw [w32_lit (x := tc τ p - 8) (by omega), c3]
          exact ⟨by omega, E.2.2.2.2.2.1 ho _ c1.1 c1.2⟩
    · -- orders
      have ho : o = true := by
        cases o with
        | true => rfl
        | false => rw [E.2.2.2.1] at y; simp at y
      have hW := E.2.2.2.2.2.2.1 ho
      have gen : ∀ l3 i : Int, f = (fun w => some (w i)) → ∀ q' : Nat, q = q' → q' ≤ 400 → tc τ p ≠ 50 → ∀ C1, Fp evc C C1 → C1 81 22 = base + q' → C1 81 24 = br → (∀ Q1 : Qt, Q1 (w i) S C1 → K_X11_orderValue_0 (d + δ + 2) 0 0 (tc τ p) l3 S C1 Q1) → K_X11_partOf_94 (d + δ + 3) 0 0 lv (tc τ p) l3 S C1 Q := fun l3 i b1 q' hq hq4 h50 C1 f1 g1 g2 hO => key (w i) q' l3 (by rw [b1]) hq hq4 C1 f1 g1 g2 ⟨fun _ => ⟨fun y2 => absurd y2 y, fun _ => hO⟩, fun z2 => absurd z2 h50⟩
      have row83 : ∀ C1, Fp evc C C1 → C1 83 = C 83 := fun C1 f1 => fp_row f1 (fun k => by unfold evc; omega)
      refine ⟨fun y3 => ?_, fun y3 => ⟨fun y4 => ?_, fun y4 => ?_⟩⟩
      · rcases hl with ⟨l1, _⟩ | ⟨l0, l1⟩
        · omega
        obtain ⟨_, i, b1, b2, b3, b4⟩ := wordP_inv l1
        rcases b4 with ⟨_, c1, c2, c3, c4, c5⟩ | ⟨_, c1, _⟩ | ⟨_, c1, _⟩ | ⟨c0, _⟩
        · have hp1 : p + 1 < τ.length := tc_in (by omega)
          rw [ew, w32_lit (x := 2856 + (base + ((p + 1 : Nat) : Int))) (by omega), show 2856 + (base + ((p + 1 : Nat) : Int)) = 2856 + base + ((p + 1 : Nat) : Int) by omega, (E.2.2.2.2.1 (p + 1) hp1).2, w32_lit (x := base + ((p + 1 : Nat) : Int) + 1) (by omega), show base + ((p + 1 : Nat) : Int) + 1 = base + ((p + 2 : Nat) : Int) by omega]
          have fU : Fp evc C (upC (upC C 81 22 (base + ((p + 1 : Nat) : Int))) 81 22 (base + ((p + 2 : Nat) : Int))) := Fp_up (by unfold evc; omega) (Fp_up (by unfold evc; omega) Fp_rf)
          refine ⟨by omega, gen _ i b1 (p + 2) c4 (by omega) (by omega) _ fU (upC_at _ _ _ _) (by rw [upC_sK (by decide), upC_sK (by decide)]; exact h24) (fun Q1 hQ => ?_)⟩
          refine b_X11_orderValue_0 (d := d + δ + 1) F ⟨fun t => by omega, fun t => ?_, fun t => by omega, fun t => by omega, fun t => by omega, fun t => by omega, fun t => by omega, fun t => by omega⟩
          rw [Int.zero_add, w32_lit (x := tv τ (p + 1)) (by omega), row83 _ fU, ← hW.1 _ c3.1 (by omega), ← c5]
          exact ⟨by omega, hQ⟩
        · omega
        · omega
        · rw [ho] at c0; cases c0
      · rw [ew]
        rcases hl with ⟨l1, l2, l3, l4, _⟩ | ⟨l0, l1⟩
        · exact key (tv τ p) (p + 1) 0 (by rw [l3]) l4 (by omega) _ (Fp_up (by unfold evc; omega) Fp_rf) (upC_at _ _ _ _) (by rw [upC_sK (by decide)]; exact h24) ⟨fun z2 => absurd l1 z2, fun _ => ⟨rfl, hpl.1, rfl⟩⟩
        obtain ⟨_, i, b1, b2, b3, b4⟩ := wordP_inv l1
        rcases b4 with ⟨_, c1, _⟩ | ⟨_, c1, _⟩ | ⟨_, c1, c2, c3⟩ | ⟨c0, _⟩
        · omega
        · omega
        · have fU : Fp evc C (upC C 81 22 (base + ((p + 1 : Nat) : Int))) := Fp_up (by unfold evc; omega) Fp_rf
          refine gen 0 i b1 (p + 1) c2 (by omega) (by omega) _ fU (upC_at _ _ _ _) (by rw [upC_sK (by decide)]; exact h24) (fun Q1 hQ => ?_)
          have h81 : ∀ k, k ≠ 22 → k ≠ 24 → upC C 81 22 (base + ((p + 1 : Nat) : Int)) 81 k = C 81 k := fun k k1 k2 => fU 81 k (by unfold evc; omega)
          refine b_X11_orderValue_0 (d := d + δ + 1) F ⟨fun t => by omega, fun t => by omega, fun t => ?_, fun t => ?_, fun t => ?_, fun t => ?_, fun t => ?_, fun t => by omega⟩
          · rw [row83 _ fU, ← hW.2.2.1, show (0 : Int) = i by omega]; exact hQ
          · rw [h81 27 (by decide) (by decide), ← hW.2.2.2.1, show (1 : Int) = i by omega]; exact hQ
          · rw [h81 28 (by decide) (by decide), ← hW.2.2.2.2.1, show (2 : Int) = i by omega]; exact hQ
          · rw [h81 29 (by decide) (by decide), ← hW.2.2.2.2.2.1, show (3 : Int) = i by omega]; exact hQ
          · refine s_notes0 (d := d + δ) F (by rw [row83 _ fU]; exact hW.2.2.2.2.2.2.2) ⟨rfl, ?_⟩
            rw [row83 _ fU, ← hW.2.2.2.2.2.2.1, show (4 : Int) = i by omega]
            exact hQ
        · rw [ho] at c0; cases c0
      · rcases hl with ⟨l1, _⟩ | ⟨l0, l1⟩
        · omega
        obtain ⟨_, i, b1, b2, b3, b4⟩ := wordP_inv l1
        rcases b4 with ⟨_, c1, _⟩ | ⟨_, c1, c2, c3, c4, c5⟩ | ⟨_, c1, _⟩ | ⟨c0, _⟩
        · omega
        · have hp1 : p + 1 < τ.length := tc_in (by omega)
          rw [ew, w32_lit (x := 2856 + (base + ((p + 1 : Nat) : Int))) (by omega), show 2856 + (base + ((p + 1 : Nat) : Int)) = 2856 + base + ((p + 1 : Nat) : Int) by omega, (E.2.2.2.2.1 (p + 1) hp1).2, w32_lit (x := base + ((p + 1 : Nat) : Int) + 1) (by omega), show base + ((p + 1 : Nat) : Int) + 1 = base + ((p + 2 : Nat) : Int) by omega]
          have fU : Fp evc C (upC (upC C 81 22 (base + ((p + 1 : Nat) : Int))) 81 22 (base + ((p + 2 : Nat) : Int))) := Fp_up (by unfold evc; omega) (Fp_up (by unfold evc; omega) Fp_rf)
          refine ⟨by omega, gen _ i b1 (p + 2) c4 (by omega) (by omega) _ fU (upC_at _ _ _ _) (by rw [upC_sK (by decide), upC_sK (by decide)]; exact h24) (fun Q1 hQ => ?_)⟩
          refine b_X11_orderValue_0 (d := d + δ + 1) F ⟨fun t => by omega, fun t => by omega, fun t => by omega, fun t => by omega, fun t => by omega, fun t => by omega, fun t => by omega, fun t => ?_⟩
          refine s_musicAt F (by omega) ⟨rfl, ?_⟩
          rw [row83 _ fU, ← hW.2.1 _ c3.1 (by omega), ← c5]
          exact hQ
        · omega
        · rw [ho] at c0; cases c0
  · -- brackets
    rcases partP_inv e with ⟨_, s, q1, e1, e2, e3, e4⟩ | ⟨z2, _⟩
    · have fU : Fp evc C (upC C 81 22 (base + ((p + 1 : Nat) : Int))) := Fp_up (by unfold evc; omega) Fp_rf
      refine hi s e1 d S _ _ lv br (p + 1) n c0 f q1 n' cd F (EnvM_fp E fU) (upC_at _ _ _ _) (by rw [upC_sK (by decide)]; exact h24) hb e2 (fun C' v f' g' r' => ⟨rfl, ?_⟩)
      have := tc_ev E (p := q1) (by omega)
      rw [g', w32_lit (x := base + (q1 : Int) + 1) (by omega)]
      exact hk _ v (Fp_up (by unfold evc; omega) (Fp_tr fU f')) (by rw [upC_at, e4]; omega) (by rw [upC_sK (by decide)]; exact r')
    · exact absurd z z2
/-! rows -/
theorem lC_gt {x y : Int} : 0 < lCmp x y ↔ y < x := by
  unfold lCmp
  repeat' split
  all_goals omega
theorem lC_ge {x y : Int} : 0 ≤ lCmp x y ↔ y ≤ x := by
  unfold lCmp
  repeat' split
  all_goals omega
theorem lC_le {x y : Int} : lCmp x y ≤ 0 ↔ x ≤ y := by
  unfold lCmp
  repeat' split
  all_goals omega
theorem lC_eq {x y : Int} : lCmp x y = 0 ↔ x = y := by
  unfold lCmp
  repeat' split
  all_goals omega
/-- a bounded value -/
def BdR (lv br x v br' : Int) : Prop := (lv = 0 → br' = br ∧ (br = 0 → v = x) ∧ (br ≠ 0 → v = 0)) ∧ (lv ≠ 0 → (Bd9 x → br' = br ∧ (br = 0 → v = x) ∧ (br ≠ 0 → v = 0)) ∧ (¬ Bd9 x → v = 0 ∧ br' = 1))
theorem s_bounded {d mc ms : Nat} {lv x : Int} {S : MS} {C : MC} {Q : Qt} (F : Fix S) (h : ∀ C' v, Fp evc C C' → C' 81 22 = C 81 22 → BdR lv (C 81 24) x v (C' 81 24) → Q v S C') : K_X11_bounded_0 d mc ms x lv S C Q := by
  have hu : Fp evc C (upC C 81 24 1) := Fp_up (by unfold evc; omega) Fp_rf
  have e22 : upC C 81 24 1 81 22 = C 81 22 := by rw [upC_sK (by decide)]
  refine b_X11_bounded_0 F ⟨fun z => ⟨fun y => h C x Fp_rf rfl ?_, fun y => h C 0 Fp_rf rfl ?_⟩, fun z => ⟨fun y => ⟨fun t => absurd t (by decide), fun _ => h _ 0 hu e22 ?_⟩, fun y => ⟨fun y2 => ⟨fun y3 => h C x Fp_rf rfl ?_, fun y3 => h C 0 Fp_rf rfl ?_⟩, fun y2 => ⟨fun t => absurd t (by decide), fun _ => h _ 0 hu e22 ?_⟩⟩⟩⟩
  · exact ⟨fun _ => ⟨rfl, fun _ => rfl, fun t => absurd y t⟩, fun t => absurd z t⟩
  · exact ⟨fun _ => ⟨rfl, fun t => absurd t y, fun _ => rfl⟩, fun t => absurd z t⟩
  · rw [upC_at]
    rw [lC_gt] at y
    exact ⟨fun t => absurd t z, fun _ => ⟨fun t => by unfold Bd9 at t; omega, fun _ => ⟨rfl, rfl⟩⟩⟩
  · rw [lC_gt] at y
    rw [lC_ge] at y2
    exact ⟨fun t => absurd t z, fun _ => ⟨fun _ => ⟨rfl, fun _ => rfl, fun t => absurd y3 t⟩, fun t => absurd (show Bd9 x by unfold Bd9; omega) t⟩⟩
  · rw [lC_gt] at y
    rw [lC_ge] at y2
    exact ⟨fun t => absurd t z, fun _ => ⟨fun _ => ⟨rfl, fun t => absurd t y3, fun _ => rfl⟩, fun t => absurd (show Bd9 x by unfold Bd9; omega) t⟩⟩
  · rw [upC_at]
    rw [lC_ge] at y2
    exact ⟨fun t => absurd t z, fun _ => ⟨fun t => by unfold Bd9 at t; omega, fun _ => ⟨rfl, rfl⟩⟩⟩
theorem bnd_of {x : Int} (h : Bd9 x) : bnd x = some x := by unfold bnd; rw [if_neg (by unfold Bd9 at h; omega)]
theorem bnd_no {x : Int} (h : ¬ Bd9 x) : bnd x = none := by unfold bnd; rw [if_pos (by unfold Bd9 at h; omega)]
/-- two reckonings and what is made of them: y the second, as it is used, b3 whether broken then -/
theorem EvR_join {lv br v1 br1 v2 br2 y b3 x v br' c : Int} {f g : Sem} {w : Wd} (hb : br = 0 ∨ br = 1) (h1 : EvR lv br (f w) v1 br1) (h2 : EvR lv br1 (g w) v2 br2)
    (hd : lv = 0 → b3 = br2 ∧ x = 0) (hb3 : lv ≠ 0 → br2 ≠ 0 → b3 = 1) (hc : lv ≠ 0 → br2 = 0 → (joinS c v1 v2 = bnd x ∧ b3 = 0) ∨ (joinS c v1 v2 = none ∧ b3 = 1)) (hr : BdR lv b3 x v br') : EvR lv br (opS c f g w) v br' := by
  refine ⟨fun z => ?_, fun z z2 => ?_, fun z z2 => ?_⟩
  · obtain ⟨a1, a2⟩ := h1.1 z
    obtain ⟨b1, b2⟩ := h2.1 z
    obtain ⟨c1, c2⟩ := hd z
    obtain ⟨d1, d2, d3⟩ := hr.1 z
    refine ⟨?_, by omega⟩
    by_cases q : b3 = 0
    · rw [d2 q, c2]
    · exact d3 q
  · obtain ⟨a1, a2⟩ := h1.2.1 z z2
    obtain ⟨b1, b2⟩ := h2.2.1 z (by omega)
    have c1 := hb3 z (by omega)
    obtain ⟨d1, d2⟩ := hr.2 z
    by_cases q : Bd9 x
    · obtain ⟨e1, e2, e3⟩ := d1 q
      exact ⟨e3 (by omega), by omega⟩
    · exact d2 q
  · have brk : b3 = 1 → v = 0 ∧ br' = 1 := fun q3 => by
      obtain ⟨d1, d2⟩ := hr.2 z
      by_cases q : Bd9 x
      · obtain ⟨e1, e2, e3⟩ := d1 q
        exact ⟨e3 (by omega), by omega⟩
      · exact d2 q
    cases hf : f w with
    | none =>
      obtain ⟨a1, a2⟩ := (h1.2.2 z z2).2 hf
      obtain ⟨b1, b2⟩ := h2.2.1 z (by omega)
      have e : opS c f g w = none := by unfold opS; rw [hf]
      rw [e]
      exact ⟨fun x hx => (by cases hx), fun _ => brk (hb3 z (by omega))⟩
    | some a =>
      obtain ⟨a1, a2⟩ := (h1.2.2 z z2).1 a hf
      cases hg : g w with
      | none =>
        obtain ⟨b1, b2⟩ := (h2.2.2 z a2).2 hg
        have e : opS c f g w = none := by unfold opS; rw [hf]; simp only [hg]
        rw [e]
        exact ⟨fun x hx => (by cases hx), fun _ => brk (hb3 z (by omega))⟩
      | some b =>
        obtain ⟨b1, b2⟩ := (h2.2.2 z a2).1 b hg
        have e : opS c f g w = joinS c v1 v2 := by unfold opS; rw [hf]; simp only [hg]; rw [a1, b1]
        rw [e]
        rcases hc z b2 with ⟨q1, q2⟩ | ⟨q1, q2⟩
        · rw [q1]
          obtain ⟨d1, d2⟩ := hr.2 z
          by_cases q : Bd9 x
          · obtain ⟨e1, e2, e3⟩ := d1 q
            rw [bnd_of q]
            exact ⟨fun y hy => by cases hy; exact ⟨e2 q2, by omega⟩, fun t => by cases t⟩
          · rw [bnd_no q]
            exact ⟨fun y hy => (by cases hy), fun _ => d2 q⟩
        · rw [q1]
          exact ⟨fun y hy => (by cases hy), fun _ => brk q2⟩
theorem ev_trow {τ : Tks} {o : Bool} {base : Int} {w : Wd} {δ : Nat} {pt : Rdr Sem} (hp : EvO τ o base w (δ + 1) pt kPart) (hg : Gd τ SBd pt) {br : Int} (hb : br = 0 ∨ br = 1) {lv : Int} {d : Nat} {S : MS} {Q : Qt} (F : Fix S) : ∀ (n : Nat) (f : Sem) (p l c0 : Nat) (cd : List Int) (g : Sem) (q l' : Nat) (cd' : List Int) (C : MC) (v : Int), rowP τ isMul pt n f p l c0 cd = .inr (g, q, l', cd') → τ.length ≤ p + n → p ≤ τ.length → SBd f → EnvM τ o base w C → C 81 22 = base + p → EvR lv br (f w) v (C 81 24) → (∀ C' v', Fp evc C C' → C' 81 22 = base + q → EvR lv br (g w) v' (C' 81 24) → Q v' S C') → K_X11_termOf_6 (d + (δ + 2)) 0 0 lv v S C Q := by
  intro n
  induction n with
  | zero =>
    intro f p l c0 cd g q l' cd' C v e hn hpl hf E h22 hv hk
    unfold rowP at e
    cases e
    have z : tc τ p = 0 := tc_hi (by omega)
    refine b_X11_termOf_6 (d := d + δ + 1) F (s_codeAt F E h22 ⟨rfl, s_sign F (x := 142) (by decide +kernel) ⟨rfl, fun y => by omega, fun _ => s_codeAt F E h22 ⟨rfl, s_sign F (x := 147) (by decide +kernel) ⟨rfl, fun y => by omega, fun _ => s_codeAt F E h22 ⟨rfl, s_sign F (x := 137) (by decide +kernel) ⟨rfl, fun _ => hk C v Fp_rf h22 hv, fun y => by omega⟩⟩⟩⟩⟩⟩)
  | succ n ih =>
    intro f p l c0 cd g q l' cd' C v e hn hpl hf E h22 hv hk
    rcases rowP_inv e with ⟨z, e1, e2, e3, _⟩ | ⟨z, g1, q1, l1, cd1, e1, e2⟩
    · subst e1 e2
      have z2 : ¬ (tc τ q = 142 ∨ tc τ q = 147 ∨ tc τ q = 137) := fun y => by rw [isMul_iff.mpr y] at z; cases z
      exact b_X11_termOf_6 (d := d + δ + 1) F (s_codeAt F E h22 ⟨rfl, s_sign F (x := 142) (by decide +kernel) ⟨rfl, fun y => by omega, fun _ => s_codeAt F E h22 ⟨rfl, s_sign F (x := 147) (by decide +kernel) ⟨rfl, fun y => by omega, fun _ => s_codeAt F E h22 ⟨rfl, s_sign F (x := 137) (by decide +kernel) ⟨rfl, fun _ => hk C v Fp_rf h22 hv, fun y => by omega⟩⟩⟩⟩⟩⟩)
    · have z2 := isMul_iff.mp z
      have h400 := tc_ev E (p := p) (by omega)
      have hbs := E.1
      obtain ⟨ga, gb, gc⟩ := hg _ _ _ _ _ _ _ e1
      have hv1 := EvR_bd hv (fun x hx => hf w E.2.2.2.2.2.2.2 x hx)
      -- the operation
      have h54 : K_X11_termOf_54 (d + (δ + 2)) 0 0 lv v S C Q := by
        refine b_X11_termOf_54 (d := d + δ + 1) F (s_codeAt F E h22 ⟨rfl, ?_⟩)
        rw [h22, w32_lit (x := base + (p : Int) + 1) (by omega), show base + (p : Int) + 1 = base + ((p + 1 : Nat) : Int) by omega]
        have fU : Fp evc C (upC C 81 22 (base + ((p + 1 : Nat) : Int))) := Fp_up (by unfold evc; omega) Fp_rf
        refine hp d S _ _ lv (C 81 24) (p + 1) l (c0 + cd.length) g1 q1 l1 cd1 F (EnvM_fp E fU) (upC_at _ _ _ _) (by rw [upC_sK (by decide)]) (EvR_01 hv hb) e1 (fun C1 v2 f1 g22 r1 => ⟨rfl, ?_⟩)
        have f1' : Fp evc C C1 := Fp_tr fU f1
        have hv2 := EvR_bd r1 (fun x hx => gc w E.2.2.2.2.2.2.2 x hx)
        have hb2 := EvR_01 r1 (EvR_01 hv hb)
        -- how it goes on
        have next : ∀ (C2 : MC) (y x : Int), Fp evc C1 C2 → C2 81 22 = C1 81 22 → (lv = 0 → C2 81 24 = C1 81 24 ∧ x = 0) → (lv ≠ 0 → C1 81 24 ≠ 0 → C2 81 24 = 1) → (lv ≠ 0 → C1 81 24 = 0 → (joinS (tc τ p) v v2 = bnd x ∧ C2 81 24 = 0) ∨ (joinS (tc τ p) v v2 = none ∧ C2 81 24 = 1)) → K_X11_bounded_0 (d + δ + 1) 0 0 x lv S C2 (fun r Sq C4 => Sq = S ∧ K_X11_termOf_6 (d + (δ + 2)) 0 0 lv r S C4 Q) := by
          intro C2 y x f2 g2 a1 a2 a3
          refine s_bounded F (fun C3 v3 f3 g3 r3 => ⟨rfl, ?_⟩)
          have f3' : Fp evc C C3 := Fp_tr f1' (Fp_tr f2 f3)
          exact ih _ _ _ _ _ _ _ _ _ C3 v3 e2 (by omega) (by omega) (opS_bd _ _ _) (EnvM_fp E f3') (by rw [g3, g2, g22]) (EvR_join (y := y) hb hv r1 a1 a2 a3 r3) (fun C4 v4 f4 g4 r4 => hk C4 v4 (Fp_tr f3' f4) g4 r4)
        have dead : lv = 0 → v = 0 ∧ v2 = 0 := fun t => ⟨(hv.1 t).1, (r1.1 t).1⟩
        have brk : lv ≠ 0 → C1 81 24 ≠ 0 → C1 81 24 = 1 := fun _ t => by omega
        refine s_sign F (x := 142) (by decide +kernel) ⟨rfl, fun y => ?_, fun y => ?_⟩
        · refine b_X11_termOf_121 (d := d + δ + 1) F (s_sign F (x := 142) (by decide +kernel) ⟨rfl, fun y2 => absurd y y2, fun _ => ?_⟩)
          have := mul_bd hv1 hv2
          rw [w64_of (x := v * v2) (by unfold in64; omega)]
          refine next C1 v2 (v * v2) Fp_rf rfl (fun t => ⟨rfl, by rw [(dead t).1, Int.zero_mul]⟩) brk (fun _ t => Or.inl ⟨?_, t⟩)
          unfold joinS
          rw [y, if_neg (by decide), if_neg (by decide), if_pos rfl]
        · -- division
          have dv : ∀ (C2 : MC) (y2 : Int), y2 ≠ 0 → Fp evc C1 C2 → C2 81 22 = C1 81 22 → (lv = 0 → C2 81 24 = C1 81 24) → (lv ≠ 0 → C1 81 24 ≠ 0 → C2 81 24 = 1) → (lv ≠ 0 → C1 81 24 = 0 → (v2 ≠ 0 ∧ y2 = v2 ∧ C2 81 24 = 0) ∨ (v2 = 0 ∧ C2 81 24 = 1)) → K_X11_termOf_121 (d + (δ + 2)) 0 0 lv v (tc τ p) y2 S C2 Q := by
            intro C2 y2 hy f2 g2 a1 a2 a3
            have jn : v2 = 0 → joinS (tc τ p) v v2 = none := fun t => by
              unfold joinS
              rw [if_neg (by omega), if_neg (by omega), if_neg (by omega), if_pos t]
            refine b_X11_termOf_121 (d := d + δ + 1) F (s_sign F (x := 142) (by decide +kernel) ⟨rfl, fun _ => s_sign F (x := 147) (by decide +kernel) ⟨rfl, fun y3 => ⟨hy, ?_⟩, fun y3 => ⟨hy, ?_⟩⟩, fun y3 => absurd y3 y⟩)
            · have hq := tmod_bd (b := y2) hv1
              rw [w64_of (x := Int.tmod v y2) (by unfold in64; unfold Bd at hq; omega)]
              refine next C2 y2 _ f2 g2 (fun t => ⟨a1 t, by rw [(dead t).1, Int.zero_tmod]⟩) a2 (fun t t2 => ?_)
              rcases a3 t t2 with ⟨b1, b2, b3⟩ | ⟨b1, b2⟩
              · refine Or.inl ⟨?_, b3⟩
                unfold joinS
                rw [if_neg (by omega), if_neg (by omega), if_neg (by omega), if_neg b1, if_neg (by omega), b2]
              · exact Or.inr ⟨jn b1, b2⟩
            · have hq := tdiv_bd (b := y2) hv1
              rw [w64_of (x := Int.tdiv v y2) (by unfold in64; unfold Bd at hq; omega)]
              refine next C2 y2 _ f2 g2 (fun t => ⟨a1 t, by rw [(dead t).1, Int.zero_tdiv]⟩) a2 (fun t t2 => ?_)
              rcases a3 t t2 with ⟨b1, b2, b3⟩ | ⟨b1, b2⟩
              · refine Or.inl ⟨?_, b3⟩
                unfold joinS
                rw [if_neg (by omega), if_neg (by omega), if_neg (by omega), if_neg b1, if_pos (by omega), b2]
              · exact Or.inr ⟨jn b1, b2⟩
          refine ⟨fun y2 => ?_, fun y2 => ⟨fun y3 => ?_, fun y3 => ⟨fun y4 => ?_, fun y4 => ?_⟩⟩⟩
          · rw [lC_eq] at y2
            exact dv C1 v2 y2 Fp_rf rfl (fun _ => rfl) brk (fun _ t => Or.inl ⟨y2, rfl, t⟩)
          all_goals rw [lC_eq] at y2
          · refine dv _ 1 (by decide) (Fp_up (by unfold evc; omega) Fp_rf) (by rw [upC_sK (by decide)]) (fun _ => by rw [upC_at]; omega) (fun _ _ => by rw [upC_at]) (fun _ t => absurd t y3)
          · refine dv _ 1 (by decide) (Fp_up (by unfold evc; omega) Fp_rf) (by rw [upC_sK (by decide)]) (fun _ => by rw [upC_at]; omega) (fun t => absurd y4 t) (fun t => absurd y4 t)
          · refine dv _ 1 (by decide) (Fp_up (by unfold evc; omega) Fp_rf) (by rw [upC_sK (by decide)]) (fun t => absurd t y4) (fun _ _ => by rw [upC_at]) (fun _ _ => Or.inr ⟨y2, by rw [upC_at]⟩)
      exact b_X11_termOf_6 (d := d + δ + 1) F (s_codeAt F E h22 ⟨rfl, s_sign F (x := 142) (by decide +kernel) ⟨rfl, fun _ => h54, fun y1 => s_codeAt F E h22 ⟨rfl, s_sign F (x := 147) (by decide +kernel) ⟨rfl, fun _ => h54, fun y2 => s_codeAt F E h22 ⟨rfl, s_sign F (x := 137) (by decide +kernel) ⟨rfl, fun y => by omega, fun _ => h54⟩⟩⟩⟩⟩⟩)
theorem ev_term {τ : Tks} {o : Bool} {base : Int} {w : Wd} {δ : Nat} {pt : Rdr Sem} (hp : EvO τ o base w (δ + 1) pt kPart) (hg : Gd τ SBd pt) : EvO τ o base w (δ + 2) (seqP τ isMul pt) kTerm := by
  intro d S C Q lv br p n c0 f q n' cd F E h22 h24 hb e hk
  obtain ⟨f1, q1, lv1, cd1, e1, e2⟩ := seqP_inv e
  obtain ⟨ga, gb, gc⟩ := hg _ _ _ _ _ _ _ e1
  have hN := E.2.1
  refine b_X11_termOf_0 (d := d + δ + 1) F (hp d S C _ lv br p n c0 f1 q1 lv1 cd1 F E h22 h24 hb e1 (fun C1 v f1' g1 r1 => ⟨rfl, ?_⟩))
  exact ev_trow hp hg hb F 400 _ _ _ _ _ _ _ _ _ C1 v e2 (by omega) ga.2 gc (EnvM_fp E f1') g1 r1 (fun C2 v2 f2 g2 r2 => hk C2 v2 (Fp_tr f1' f2) g2 r2)
theorem ev_srow {τ : Tks} {o : Bool} {base : Int} {w : Wd} {δ : Nat} {pt : Rdr Sem} (hp : EvO τ o base w (δ + 1) pt kTerm) (hg : Gd τ SBd pt) {br : Int} (hb : br = 0 ∨ br = 1) {lv : Int} {d : Nat} {S : MS} {Q : Qt} (F : Fix S) : ∀ (n : Nat) (f : Sem) (p l c0 : Nat) (cd : List Int) (g : Sem) (q l' : Nat) (cd' : List Int) (C : MC) (v : Int), rowP τ isAdd pt n f p l c0 cd = .inr (g, q, l', cd') → τ.length ≤ p + n → p ≤ τ.length → SBd f → EnvM τ o base w C → C 81 22 = base + p → EvR lv br (f w) v (C 81 24) → (∀ C' v', Fp evc C C' → C' 81 22 = base + q → EvR lv br (g w) v' (C' 81 24) → Q v' S C') → K_X11_sumOf_6 (d + (δ + 2)) 0 0 lv v S C Q := by
  intro n
  induction n with
  | zero =>
    intro f p l c0 cd g q l' cd' C v e hn hpl hf E h22 hv hk
    unfold rowP at e
    cases e
    have z : tc τ p = 0 := tc_hi (by omega)
    exact b_X11_sumOf_6 (d := d + δ + 1) F (s_codeAt F E h22 ⟨rfl, s_sign F (x := 143) (by decide +kernel) ⟨rfl, fun y => by omega, fun _ => s_codeAt F E h22 ⟨rfl, s_sign F (x := 145) (by decide +kernel) ⟨rfl, fun _ => hk C v Fp_rf h22 hv, fun y => by omega⟩⟩⟩⟩)
  | succ n ih =>
    intro f p l c0 cd g q l' cd' C v e hn hpl hf E h22 hv hk
    rcases rowP_inv e with ⟨z, e1, e2, e3, _⟩ | ⟨z, g1, q1, l1, cd1, e1, e2⟩
    · subst e1 e2
      have z2 : ¬ (tc τ q = 143 ∨ tc τ q = 145) := fun y => by rw [isAdd_iff.mpr y] at z; cases z
      exact b_X11_sumOf_6 (d := d + δ + 1) F (s_codeAt F E h22 ⟨rfl, s_sign F (x := 143) (by decide +kernel) ⟨rfl, fun y => by omega, fun _ => s_codeAt F E h22 ⟨rfl, s_sign F (x := 145) (by decide +kernel) ⟨rfl, fun _ => hk C v Fp_rf h22 hv, fun y => by omega⟩⟩⟩⟩)
    · have z2 := isAdd_iff.mp z
      have h400 := tc_ev E (p := p) (by omega)
      have hbs := E.1
      obtain ⟨ga, gb, gc⟩ := hg _ _ _ _ _ _ _ e1
      have hv1 := EvR_bd hv (fun x hx => hf w E.2.2.2.2.2.2.2 x hx)
      have h59 : ∀ s0 : Int, (s0 = 0 ↔ tc τ p = 145) → K_X11_sumOf_59 (d + (δ + 2)) 0 0 lv v s0 S C Q := by
        intro s0 hs0
        refine b_X11_sumOf_59 (d := d + δ + 1) F ?_
        rw [h22, w32_lit (x := base + (p : Int) + 1) (by omega), show base + (p : Int) + 1 = base + ((p + 1 : Nat) : Int) by omega]
        have fU : Fp evc C (upC C 81 22 (base + ((p + 1 : Nat) : Int))) := Fp_up (by unfold evc; omega) Fp_rf
        refine hp d S _ _ lv (C 81 24) (p + 1) l (c0 + cd.length) g1 q1 l1 cd1 F (EnvM_fp E fU) (upC_at _ _ _ _) (by rw [upC_sK (by decide)]) (EvR_01 hv hb) e1 (fun C1 v2 f1 g22 r1 => ⟨rfl, ?_⟩)
        have f1' : Fp evc C C1 := Fp_tr fU f1
        have hv2 := EvR_bd r1 (fun x hx => gc w E.2.2.2.2.2.2.2 x hx)
        have hb2 := EvR_01 r1 (EvR_01 hv hb)
        have dead : lv = 0 → v = 0 ∧ v2 = 0 := fun t => ⟨(hv.1 t).1, (r1.1 t).1⟩
        have next : ∀ x : Int, (lv = 0 → x = 0) → joinS (tc τ p) v v2 = bnd x → K_X11_bounded_0 (d + δ + 1) 0 0 x lv S C1 (fun r Sq C4 => Sq = S ∧ K_X11_sumOf_6 (d + (δ + 2)) 0 0 lv r S C4 Q) := by
          intro x a1 a3
          refine s_bounded F (fun C3 v3 f3 g3 r3 => ⟨rfl, ?_⟩)
          have f3' : Fp evc C C3 := Fp_tr f1' f3
          exact ih _ _ _ _ _ _ _ _ _ C3 v3 e2 (by omega) (by omega) (opS_bd _ _ _) (EnvM_fp E f3') (by rw [g3, g22]) (EvR_join (y := 0) hb hv r1 (fun t => ⟨rfl, a1 t⟩) (fun _ t => by omega) (fun _ t => Or.inl ⟨a3, t⟩) r3) (fun C4 v4 f4 g4 r4 => hk C4 v4 (Fp_tr f3' f4) g4 r4)
        refine ⟨fun y => ?_, fun y => ?_⟩
        · rw [w64_of (x := v - v2) (by unfold Bd at hv1 hv2; unfold in64; omega)]
          refine next _ (fun t => by have := dead t; omega) ?_
          unfold joinS
          rw [hs0.mp y, if_neg (by decide), if_pos rfl]
        · rw [w64_of (x := v + v2) (by unfold Bd at hv1 hv2; unfold in64; omega)]
          refine next _ (fun t => by have := dead t; omega) ?_
          have y2 : tc τ p ≠ 145 := fun t => y (hs0.mpr t)
          unfold joinS
          rw [if_pos (by omega)]
      exact b_X11_sumOf_6 (d := d + δ + 1) F (s_codeAt F E h22 ⟨rfl, s_sign F (x := 143) (by decide +kernel) ⟨rfl, fun y => s_codeAt F E h22 ⟨rfl, s_sign F (x := 143) (by decide +kernel) ⟨rfl, fun y2 => absurd y y2, fun _ => h59 1 (by omega)⟩⟩, fun y => s_codeAt F E h22 ⟨rfl, s_sign F (x := 145) (by decide +kernel) ⟨rfl, fun y2 => by omega, fun y2 => s_codeAt F E h22 ⟨rfl, s_sign F (x := 143) (by decide +kernel) ⟨rfl, fun _ => h59 0 (by omega), fun y3 => absurd y3 y⟩⟩⟩⟩⟩⟩)
theorem ev_seqA {τ : Tks} {o : Bool} {base : Int} {w : Wd} {δ : Nat} {pt : Rdr Sem} (hp : EvO τ o base w (δ + 1) pt kTerm) (hg : Gd τ SBd pt) : EvO τ o base w (δ + 2) (seqP τ isAdd pt) kSum := by
  intro d S C Q lv br p n c0 f q n' cd F E h22 h24 hb e hk
  obtain ⟨f1, q1, lv1, cd1, e1, e2⟩ := seqP_inv e
  obtain ⟨ga, gb, gc⟩ := hg _ _ _ _ _ _ _ e1
  have hN := E.2.1
  refine b_X11_sumOf_0 (d := d + δ + 1) F (hp d S C _ lv br p n c0 f1 q1 lv1 cd1 F E h22 h24 hb e1 (fun C1 v f1' g1 r1 => ⟨rfl, ?_⟩))
  exact ev_srow hp hg hb F 400 _ _ _ _ _ _ _ _ _ C1 v e2 (by omega) ga.2 gc (EnvM_fp E f1') g1 r1 (fun C2 v2 f2 g2 r2 => hk C2 v2 (Fp_tr f1' f2) g2 r2)
theorem ev_sum {τ : Tks} {o : Bool} {base : Int} {w : Wd} {δ : Nat} {pt : Rdr Sem} (hp : EvO τ o base w (δ + 1) pt kPart) (hg : Gd τ SBd pt) : EvO τ o base w (δ + 3) (sumP τ pt) kSum := ev_seqA (ev_term hp hg) (Gd_seq hg)
theorem ev_pt (τ : Tks) (o : Bool) (base : Int) (w : Wd) : ∀ g, EvO τ o base w (3 * g + 3) (ptP τ o g) kPart
  | 0 => ev_part (δ := 0) (fun s e => by cases e)
  | g + 1 => ev_part (δ := 3 * g + 3) (fun s e => by cases e; exact ev_sum (δ := 3 * g + 2) (ev_pt τ o base w g) (Gd_pt τ o g))
theorem ev_sumg (τ : Tks) (o : Bool) (base : Int) (w : Wd) (g : Nat) : EvO τ o base w (3 * g + 5) (sumP τ (ptP τ o g)) kSum := ev_sum (δ := 3 * g + 2) (ev_pt τ o base w g) (Gd_pt τ o g)
