/-! 60.tells: what a law tells, by the reference -/
theorem condP_inv {τ : Tks} {o : Bool} {k : Int → TSem → Cla} {p lv c0 : Nat} {cl : Cla} {q lv' : Nat} {cd : List Int} (e : condP τ o k p lv c0 = .inr (cl, q, lv', cd)) : (tc τ p = 4 ∧ ∃ t cd1, test8 τ o (p + 1) lv c0 = .inr (t, q, lv', cd1) ∧ cl = k c0 t ∧ cd = cd1 ++ [0]) ∨ (tc τ p ≠ 4 ∧ cl = k (-1) (fun _ => some true) ∧ q = p ∧ lv' = lv ∧ cd = []) := by
  unfold condP at e
  split at e
  · rename_i h
    cases hs : test8 τ o (p + 1) lv c0 with
    | inl q => rw [hs] at e; cases e
    | inr t =>
      obtain ⟨f1, q1, lv1, cd1⟩ := t
      rw [hs] at e
      simp only at e
      cases e
      exact Or.inl ⟨h, f1, cd1, rfl, rfl, rfl⟩
  · rename_i h
    cases e
    exact Or.inr ⟨h, rfl, rfl, rfl, rfl⟩
theorem s_cond {d : Nat} {τ : Tks} {o : Bool} {base lv : Int} {w : Wd} {k : Int → TSem → Cla} {p n c0 : Nat} {cl : Cla} {q n' : Nat} {cd : List Int} {S : MS} {C : MC} {A : Int → MC → Prop} (F : Fix S) (E : EnvM τ o base w C) (h22 : C 81 22 = base + p) (h24 : C 81 24 = 0) (e : condP τ o k p n c0 = .inr (cl, q, n', cd)) (hk : ∀ i t C' s0, cl = k i t → Fp evc C C' → C' 81 22 = base + q → EvT lv 0 (t w) s0 (C' 81 24) → A s0 C') : K_X11_passes0_0 (d + 49) 0 0 4 S C (fun r3 Sq C4 => Sq = S ∧ ((r3 = 0 → A 1 C4) ∧ (¬ r3 = 0 → K_X11_testOf_0 (d + 49) 0 0 lv S C4 (fun r5 Sq C6 => Sq = S ∧ ((r5 = 0 → A 0 C6) ∧ (¬ r5 = 0 → A 1 C6)))))) := by
  refine s_passes0 (d := d + 48) F E h22 (by decide) (fun z => ⟨rfl, fun _ => ?_, fun y => absurd rfl y⟩) (fun z => ⟨rfl, fun y => absurd y (by decide), fun _ => ?_⟩)
  · rcases condP_inv e with ⟨y, _⟩ | ⟨_, e1, e2, _⟩
    · exact absurd y z
    · refine hk _ _ C 1 e1 Fp_rf (by rw [e2]; exact h22) ⟨Or.inr rfl, fun _ => h24, fun _ y => absurd rfl y, fun _ _ => ⟨fun x hx => ?_, fun y => by cases y⟩⟩
      cases hx
      exact ⟨rfl, h24⟩
  · rcases condP_inv e with ⟨_, t, cd1, e1, e2, _⟩ | ⟨y, _⟩
    · have fU : Fp evc C (upC C 81 22 (base + ((p + 1 : Nat) : Int))) := Fp_up (by unfold evc; omega) Fp_rf
      refine ev_test8 τ o base w d S _ _ lv 0 (p + 1) n c0 t q n' cd1 F (EnvM_fp E fU) (upC_at _ _ _ _) (by rw [upC_sK (by decide)]; exact h24) (Or.inl rfl) e1 (fun C' v f' g' r' => ⟨rfl, fun y => ?_, fun y => ?_⟩)
      · have := hk _ t C' v e2 (Fp_tr fU f') g' r'
        rw [y] at this
        exact this
      · have := hk _ t C' v e2 (Fp_tr fU f') g' r'
        rw [show v = 1 by have := r'.1; omega] at this
        exact this
    · exact absurd z y
theorem ruleP_inv {τ : Tks} {p lv c0 : Nat} {cl : Cla} {q lv' : Nat} {cd : List Int} (e : ruleP τ p lv c0 = .inr (cl, q, lv', cd)) :
    (tc τ p = 1 ∧ ∃ f q1 lv1 cd1 cd2, sum8 τ false (p + 1) lv c0 = .inr (f, q1, lv1, cd1) ∧ condP τ false (fun i t => ((4, 1), (c0, -1, i), (f, fun _ => some 0, t))) q1 lv1 (c0 + (cd1.length + 1)) = .inr (cl, q, lv', cd2) ∧ cd = cd1 ++ (0 :: cd2)) ∨
    ((tc τ p = 2 ∨ tc τ p = 3) ∧ condP τ false (fun i t => ((tc τ p + 3, 1), (-1, -1, i), (fun _ => some 0, fun _ => some 0, t))) (p + 1) lv c0 = .inr (cl, q, lv', cd)) := by
  unfold ruleP at e
  split at e
  · rename_i h
    cases hs : sum8 τ false (p + 1) lv c0 with
    | inl q => rw [hs] at e; cases e
    | inr t =>
      obtain ⟨f1, q1, lv1, cd1⟩ := t
      rw [hs] at e
      simp only at e
      cases hs2 : condP τ false (fun i t => ((4, 1), ((c0 : Int), -1, i), (f1, fun _ => some 0, t))) q1 lv1 (c0 + (cd1.length + 1)) with
      | inl q => rw [hs2] at e; cases e
      | inr t =>
        obtain ⟨f2, q2, lv2, cd2⟩ := t
        rw [hs2] at e
        simp only at e
        cases e
        exact Or.inl ⟨h, f1, q1, lv1, cd1, cd2, rfl, hs2, rfl⟩
  · split at e
    · rename_i h
      exact Or.inr ⟨Or.inl h, by rw [h]; exact e⟩
    · split at e
      · rename_i h
        exact Or.inr ⟨Or.inr h, by rw [h]; exact e⟩
      · cases e
theorem textP_inv {τ : Tks} {one : Rdr Cla} {n p lv c0 : Nat} {cls : List Cla} {cd : List Int} (e : textP τ one (n + 1) p lv c0 = .inr (cls, cd)) : ∃ cl q lv1 cd1, one p lv c0 = .inr (cl, q, lv1, cd1) ∧ ((q = τ.length ∧ cls = [cl] ∧ cd = cd1) ∨ (q ≠ τ.length ∧ tc τ q = 159 ∧ ∃ cls2 cd2, textP τ one n (q + 1) lv1 (c0 + cd1.length) = .inr (cls2, cd2) ∧ cls = cl :: cls2 ∧ cd = cd1 ++ cd2)) := by
  unfold textP at e
  cases hs : one p lv c0 with
  | inl q => rw [hs] at e; cases e
  | inr t =>
    obtain ⟨cl, q, lv1, cd1⟩ := t
    rw [hs] at e
    simp only at e
    split at e
    · rename_i h
      cases e
      exact ⟨cl, q, lv1, _, rfl, Or.inl ⟨h, rfl, rfl⟩⟩
    · rename_i h
      split at e
      · rename_i h2
        cases hs2 : textP τ one n (q + 1) lv1 (c0 + cd1.length) with
        | inl q => rw [hs2] at e; cases e
        | inr t =>
          obtain ⟨cls2, cd2⟩ := t
          rw [hs2] at e
          simp only at e
          cases e
          exact ⟨cl, q, lv1, cd1, rfl, Or.inr ⟨h, h2, cls2, cd2, hs2, rfl, rfl⟩⟩
      · cases e
/-- one clause's word -/
def res1 (v : Int) (c : Cla) (w : Wd) (m : Int) : Int := if c.1.1 = v ∧ holdsC c w = true then (if v = 4 then (match c.2.2.1 w with | none => m | some x => max 0 (min 99 x)) else 1) else m
def resS (v : Int) : List Cla → Wd → Int → Int
  | [], _, m => m
  | c :: l, w, m => resS v l w (res1 v c w m)
theorem resS_mind : ∀ (l : List Cla) (w : Wd) (m : Int), resS 4 l w m = mindS l w m
  | [], _, _ => rfl
  | c :: l, w, m => by unfold resS mindS; rw [resS_mind l w]; rfl
theorem resS_has {v : Int} (hv : v ≠ 4) : ∀ (l : List Cla) (w : Wd) (m : Int), resS v l w m = if hasS v l w then 1 else m
  | [], _, _ => rfl
  | c :: l, w, m => by
    unfold resS
    rw [resS_has hv l w]
    unfold res1 hasS
    rw [List.any_cons, if_neg hv]
    cases hh : l.any (fun c => c.1.1 == v && holdsC c w) with
    | true => simp
    | false =>
      by_cases q : c.1.1 = v
      · cases holdsC c w <;> simp [q]
      · simp [q]
theorem res1_bd {v : Int} {c : Cla} {w : Wd} {m : Int} (hm : 0 ≤ m ∧ m ≤ 99) : 0 ≤ res1 v c w m ∧ res1 v c w m ≤ 99 := by
  unfold res1
  split
  · split
    · split
      · exact hm
      · omega
    · omega
  · exact hm
theorem s_tells71 {d : Nat} {τ : Tks} {base l1 : Int} {w : Wd} {S : MS} {Q : Qt} (F : Fix S) (hl1 : l1 = 1 ∨ l1 = 2 ∨ l1 = 3) : ∀ (n : Nat) (cls : List Cla) (p lv c0 : Nat) (cd : List Int) (m : Int) (C : MC), textP τ (ruleP τ) n p lv c0 = .inr (cls, cd) → EnvM τ false base w C → C 81 22 = base + p → (0 ≤ m ∧ m ≤ 99) → (∀ C', Fp evc C C' → Q (resS (l1 + 3) cls w m) S C') → K_X11_tells_71 (d + 50) 0 0 l1 m S C Q := by
  intro n
  induction n with
  | zero =>
    intro cls p lv c0 cd m C e
    unfold textP at e
    cases e
  | succ n ih =>
    intro cls p lv c0 cd m C e E h22 hm hk
    obtain ⟨cl, q, lv1, cd1, e1, e2⟩ := textP_inv e
    have hbs := E.1
    have hN := E.2.1
    have hp : p < τ.length := tc_in (by rcases ruleP_inv e1 with ⟨h, _⟩ | ⟨h, _⟩ <;> omega)
    -- behind the clause
    have next : ∀ (C1 : MC) (m' : Int), Fp evc C C1 → C1 81 22 = base + q → q ≤ 400 → m' = res1 (l1 + 3) cl w m → K_X11_tells_71 (d + 50) 0 0 l1 m' S (upC C1 81 22 (w32 (C1 81 22 + 1))) Q := by
      intro C1 m' f1 g1 hq hm'
      rw [g1, w32_lit (x := base + (q : Int) + 1) (by omega), show base + (q : Int) + 1 = base + ((q + 1 : Nat) : Int) by omega]
      have hb' := res1_bd (v := l1 + 3) (c := cl) (w := w) hm
      have fU : Fp evc C (upC C1 81 22 (base + ((q + 1 : Nat) : Int))) := Fp_up (by unfold evc; omega) f1
      have E2 := EnvM_fp E fU
      rcases e2 with ⟨a1, a2, _⟩ | ⟨a1, a2, cls2, cd2, a3, a4, _⟩
      · refine b_X11_tells_71 (d := d + 49) F ⟨fun _ => ?_, fun z => ?_⟩
        · rw [w32_lit (x := m') (by omega)]
          have := hk _ fU
          rw [a2] at this
          unfold resS resS at this
          rw [hm']
          exact this
        · rw [E2.2.2.1, upC_at] at z
          omega
      · refine ih cls2 (q + 1) lv1 _ cd2 m' _ a3 E2 (upC_at _ _ _ _) (by omega) (fun C3 f3 => ?_)
        have := hk _ (Fp_tr fU f3)
        rw [a4] at this
        unfold resS at this
        rw [hm']
        exact this
    -- what is done with it
    have h156 : ∀ (l8 l9 l11 s0 : Int) (C1 : MC) (t : TSem), l8 = tc τ p → Fp evc C C1 → C1 81 22 = base + q → q ≤ 400 → EvT 1 0 (t w) s0 (C1 81 24) → cl.1.1 = tc τ p + 3 → cl.2.2.2.2 = t → (tc τ p = 1 → EvR 1 0 (cl.2.2.1 w) l9 l11) → (tc τ p ≠ 1 → l9 = 1 ∧ l11 = 0) → K_X11_tells_156 (d + 50) 0 0 l1 m l8 l9 l11 s0 S C1 Q := by
      intro l8 l9 l11 s0 C1 t hl8 f1 g1 hq hT hv ht hR hR2
      have hold : holdsC cl w = true ↔ s0 ≠ 0 ∧ C1 81 24 = 0 := by
        unfold holdsC
        rw [ht]
        cases hw : t w with
        | none =>
          have := (hT.2.2.2 (by decide) rfl).2 hw
          constructor
          · intro y; cases y
          · intro y; omega
        | some x =>
          have := (hT.2.2.2 (by decide) rfl).1 x hw
          cases x with
          | true => exact ⟨fun _ => ⟨by rw [this.1]; decide, this.2⟩, fun _ => rfl⟩
          | false => exact ⟨fun y => (by cases y), fun y => absurd this.1 y.1⟩
      refine b_X11_tells_156 (d := d + 49) F ⟨fun z => ?_, fun z => ⟨fun z2 => ?_, fun z2 => ⟨fun z3 => ?_, fun z3 => ⟨fun z4 => ?_, fun z4 => ?_⟩⟩⟩⟩
      · exact next C1 m f1 g1 hq (by unfold res1; rw [if_neg (fun y => z (by omega))])
      · exact next C1 m f1 g1 hq (by unfold res1; rw [if_neg (fun y => (hold.mp y.2).1 z2)])
      · exact next C1 m f1 g1 hq (by unfold res1; rw [if_neg (fun y => z3 (hold.mp y.2).2)])
      · refine next C1 m f1 g1 hq ?_
        have h1 : tc τ p = 1 := by
          apply Classical.byContradiction
          intro y
          exact z4 (hR2 y).2
        have hn : cl.2.2.1 w = none := by
          cases hw : cl.2.2.1 w with
          | none => rfl
          | some x => have := ((hR h1).2.2 (by decide) rfl).1 x hw; omega
        unfold res1
        rw [if_pos ⟨by omega, hold.mpr ⟨z2, z3⟩⟩, if_pos (by omega), hn]
      · have hval : res1 (l1 + 3) cl w m = max 0 (min 99 l9) := by
          unfold res1
          rw [if_pos ⟨by omega, hold.mpr ⟨z2, z3⟩⟩]
          by_cases h1 : tc τ p = 1
          · rw [if_pos (by omega)]
            cases hw : cl.2.2.1 w with
            | none => have := ((hR h1).2.2 (by decide) rfl).2 hw; omega
            | some x => have := ((hR h1).2.2 (by decide) rfl).1 x hw; simp only; omega
          · rw [if_neg (by omega), (hR2 h1).1]
            decide
        refine ⟨fun y => ⟨fun y2 => ?_, fun y2 => ?_⟩, fun y => ?_⟩
        · rw [lC_ge] at y; rw [lC_le] at y2
          exact next C1 l9 f1 g1 hq (by rw [hval]; omega)
        · rw [lC_ge] at y; rw [lC_le] at y2
          exact next C1 99 f1 g1 hq (by rw [hval]; omega)
        · rw [lC_ge] at y
          exact next C1 0 f1 g1 hq (by rw [hval]; omega)
    have ew : w32 (C 81 22 + 1) = base + ((p + 1 : Nat) : Int) := by rw [h22, w32_lit (by omega)]; omega
    refine b_X11_tells_71 (d := d + 49) F ⟨fun z => ?_, fun _ => s_codeAt F E h22 ⟨rfl, fun z => ?_, fun z => ?_⟩⟩
    · rw [E.2.2.1, h22] at z
      omega
    · rcases ruleP_inv e1 with ⟨y, _⟩ | ⟨y, e3⟩
      · exact absurd y z
      rw [ew]
      have fU : Fp evc C (upC (upC (upC C 81 24 0) 81 22 (base + ((p + 1 : Nat) : Int))) 81 24 0) := Fp_up (by unfold evc; omega) (Fp_up (by unfold evc; omega) (Fp_up (by unfold evc; omega) Fp_rf))
      refine s_cond (d := d) (lv := 1) (A := fun s0 C4 => K_X11_tells_156 (d + 50) 0 0 l1 m (tc τ p) 1 0 s0 S C4 Q) F (EnvM_fp E fU) (by rw [upC_sK (by decide), upC_at]) (upC_at _ _ _ _) e3 (fun i t C' s0 h1 f' g' r' => ?_)
      have hq : q ≤ 400 := by
        rcases condP_inv e3 with ⟨_, t2, cd2, a1, _⟩ | ⟨_, _, a1, _⟩
        · have := (Gd_test8 τ false _ _ _ _ _ _ _ a1).1; omega
        · omega
      exact h156 _ _ _ _ C' t rfl (Fp_tr fU f') g' hq r' (by rw [h1]) (by rw [h1]) (fun y2 => absurd y2 z) (fun _ => ⟨rfl, rfl⟩)
    · rcases ruleP_inv e1 with ⟨_, f, q1, lv2, cd3, cd4, e3, e4, _⟩ | ⟨y, _⟩
      · rw [ew]
        have fU : Fp evc C (upC (upC C 81 24 0) 81 22 (base + ((p + 1 : Nat) : Int))) := Fp_up (by unfold evc; omega) (Fp_up (by unfold evc; omega) Fp_rf)
        refine (EvO_up (e := 20) (ev_sum8 τ false base w)) d S _ _ 1 0 (p + 1) lv c0 f q1 lv2 cd3 F (EnvM_fp E fU) (upC_at _ _ _ _) (by rw [upC_sK (by decide), upC_at]) (Or.inl rfl) e3 (fun C2 v f2 g2 r2 => ⟨rfl, ?_⟩)
        have fV : Fp evc C (upC C2 81 24 0) := Fp_up (by unfold evc; omega) (Fp_tr fU f2)
        refine s_cond (d := d) (lv := 1) (A := fun s0 C4 => K_X11_tells_156 (d + 50) 0 0 l1 m (tc τ p) v (C2 81 24) s0 S C4 Q) F (EnvM_fp E fV) (by rw [upC_sK (by decide)]; exact g2) (upC_at _ _ _ _) e4 (fun i t C' s0 h1 f' g' r' => ?_)
        have hq : q ≤ 400 := by
          have := (Gd_sum8 τ false _ _ _ _ _ _ _ e3).1
          rcases condP_inv e4 with ⟨_, t2, cd2, a1, _⟩ | ⟨_, _, a1, _⟩
          · have := (Gd_test8 τ false _ _ _ _ _ _ _ a1).1; omega
          · omega
        refine h156 _ _ _ _ C' t rfl (Fp_tr fV f') g' hq r' (by rw [h1, z]; rfl) (by rw [h1]) (fun _ => by rw [h1]; exact r2) (fun y2 => absurd z y2)
      · omega
theorem toks_len (κ : Int → Int) (i : Int) : (toks κ i).length = (κ (49 + i)).toNat := by unfold toks; rw [List.length_map, List.length_range]
theorem tc_toks {κ : Int → Int} {i : Int} {j : Nat} (h : j < (toks κ i).length) : tc (toks κ i) j = κ (56 + 400 * i + j) ∧ tv (toks κ i) j = κ (2856 + 400 * i + j) := by
  rw [toks_len] at h
  unfold tc tv toks
  rw [List.getD_eq_getElem?_getD, List.getElem?_map, List.getElem?_range h]
  exact ⟨rfl, rfl⟩
theorem lawW_bd {κ : Int → Int} {b h k n : Nat} (hK : KOk κ) (hn : κ 45 = n) (hh : h < n) (hk : k < 8) (hb : b < 16) (i : Int) : Bd (lawW κ b h k i) := by
  obtain ⟨k1, k2, k3, k4, k5, k6, _⟩ := hK
  have a1 := k2 h (by omega) (by omega)
  have a2 := k3 k (by omega) (by omega)
  unfold lawW Bd
  repeat' split
  all_goals omega
theorem s_tells {d : Nat} {l1 m : Int} {h k b n : Nat} {S : MS} {C : MC} {Q : Qt} (F : Fix S) (hK : KOk (C 83)) (hn : C 83 45 = n) (hh : h < n) (hk : k < 8) (hb : b < 16) (hl1 : l1 = 1 ∨ l1 = 2 ∨ l1 = 3) (hm : 0 ≤ m ∧ m ≤ 99) (hq : ∀ C', Fp asx C C' → Q (resS (l1 + 3) (lawOf (C 83)) (lawW (C 83) b h k) m) S C') : K_X11_tells_0 (d + 50) 0 0 l1 h k b m S C Q := by
  have h6 : n ≤ 6 := by have := hK.1; omega
  refine b_X11_tells_0 (d := d + 49) F ⟨fun z => ?_, fun z => ?_⟩
  · obtain ⟨k1, k2, k3, k4, k5, k6, k7, k8, k9⟩ := hK
    obtain ⟨t1, t2, l, cd, t3⟩ := k9 (C 83 48) (by omega) (by omega)
    refine b_X11_setsAsked_0 F ?_
    rw [w32_lit (x := 25 + (h : Int)) (by omega), w32_lit (x := 31 + (h : Int)) (by omega), w32_lit (x := 0 + (k : Int)) (by omega), Int.zero_add]
    refine ⟨by omega, by omega, by omega, rfl, ?_⟩
    generalize hD : upC (upC (upC (upC (upC (upC (upC (upC C 93 0 (h : Int)) 93 1 (k : Int)) 93 2 (b : Int)) 93 3 (C 83 (25 + (h : Int)))) 93 4 (C 83 (31 + (h : Int)))) 93 5 (C 83 44)) 93 6 (C 83 (k : Int))) 93 7 (C 83 24) = D
    have fD : Fp asx C D := by
      rw [← hD]
      exact Fp_up (by unfold asx; omega) (Fp_up (by unfold asx; omega) (Fp_up (by unfold asx; omega) (Fp_up (by unfold asx; omega) (Fp_up (by unfold asx; omega) (Fp_up (by unfold asx; omega) (Fp_up (by unfold asx; omega) (Fp_up (by unfold asx; omega) Fp_rf)))))))
    have d83 : D 83 = C 83 := fp_row fD (fun k => by unfold asx; omega)
    rw [d83, w32_lit (x := 49 + C 83 48) (by omega), w32_lit (x := 400 * C 83 48) (by omega), w32_lit (x := 400 * C 83 48 + C 83 (49 + C 83 48)) (by omega)]
    refine ⟨by omega, ?_⟩
    have eL : lawOf (C 83) = l := by unfold lawOf clsOf; rw [if_neg z, t3]
    rw [eL] at hq
    have fU : Fp asx C (upC (upC (upC D 81 25 0) 81 22 (400 * C 83 48)) 81 23 (400 * C 83 48 + C 83 (49 + C 83 48))) := Fp_up (by unfold asx; omega) (Fp_up (by unfold asx; omega) (Fp_up (by unfold asx; omega) fD))
    have u83 : upC (upC (upC D 81 25 0) 81 22 (400 * C 83 48)) 81 23 (400 * C 83 48 + C 83 (49 + C 83 48)) 83 = C 83 := fp_row fU (fun k => by unfold asx; omega)
    refine s_tells71 (τ := toks (C 83) (C 83 48)) (base := 400 * C 83 48) (w := lawW (C 83) b h k) F hl1 12 l 0 0 0 cd m _ t3 ?_ ?_ hm (fun C' f' => hq C' (Fp_tr fU (Fp_mono f' (fun a k y => by unfold evc at y; unfold asx; omega))))
    · refine ⟨by omega, t2, ?_, ?_, fun j hj => ?_, fun _ c c1 c2 => ?_, fun y => (by cases y), lawW_bd ⟨k1, k2, k3, k4, k5, k6, k7, k8, k9⟩ hn hh hk hb⟩
      · rw [upC_at, toks_len]; omega
      · rw [upC_sK (by decide), upC_sK (by decide), upC_at]; rfl
      · rw [u83]
        have := tc_toks hj
        exact ⟨this.1.symm, this.2.symm⟩
      · rw [upC_ne (by decide), upC_ne (by decide), upC_ne (by decide), ← hD]
        obtain rfl | rfl | rfl | rfl | rfl | rfl | rfl | rfl : c = 8 ∨ c = 9 ∨ c = 10 ∨ c = 11 ∨ c = 12 ∨ c = 13 ∨ c = 14 ∨ c = 15 := by omega
        all_goals simp [upC, lwW, lawW]
    · rw [upC_sK (by decide), upC_at]; omega
  · have e : lawOf (C 83) = [] := by unfold lawOf; rw [if_pos z]
    have := hq C Fp_rf
    rw [e] at this
    exact this
theorem askMod : AskMod := by
  intro d S C h k b n F hK hn hh hk hb
  have tr : ∀ {C1 : MC}, Fp asx C C1 → C1 83 = C 83 := fun f => fp_row f (fun k => by unfold asx; omega)
  refine ⟨fun Q hQ => ?_, fun Q hQ => ?_⟩
  · have t3 : ∀ (C1 : MC), Fp asx C C1 → (h3 : (decide (C 83 k = h) || hasS 5 (lawOf (C 83)) (lawW (C 83) b h k)) = true) → K_X11_tells_0 (d + 99) 0 0 3 h k b 0 S C1 (fun r1 Sq C2 => Sq = S ∧ ((¬ r1 = 0 → Q 0 S C2) ∧ (r1 = 0 → Q 1 S C2))) := by
      intro C1 f1 h3
      have e1 := tr f1
      refine s_tells (d := d + 49) F (by rw [e1]; exact hK) (by rw [e1]; exact hn) hh hk hb (Or.inr (Or.inr rfl)) (by omega) (fun C2 f2 => ⟨rfl, ?_⟩)
      have q := hQ C2 (Fp_tr f1 f2)
      rw [e1, show (3 : Int) + 3 = 6 from rfl, resS_has (by decide)]
      unfold cnK at q
      rw [h3] at q
      cases hh6 : hasS 6 (lawOf (C 83)) (lawW (C 83) b h k) with
      | true => rw [hh6] at q; exact ⟨fun _ => q, fun y => absurd y (by decide)⟩
      | false => rw [hh6] at q; exact ⟨fun y => absurd rfl y, fun _ => q⟩
    refine b_X11_canPlay_0 (d := d + 99) F ?_
    rw [w32_lit (x := 0 + (k : Int)) (by omega), Int.zero_add]
    refine ⟨by omega, fun z => t3 C Fp_rf (by simp [z]), fun z => ?_⟩
    refine s_tells (d := d + 49) F hK hn hh hk hb (Or.inr (Or.inl rfl)) (by omega) (fun C2 f2 => ⟨rfl, ?_⟩)
    rw [show (2 : Int) + 3 = 5 from rfl, resS_has (by decide)]
    cases hh5 : hasS 5 (lawOf (C 83)) (lawW (C 83) b h k) with
    | true => exact ⟨fun y => absurd rfl y, fun _ => t3 C2 f2 (by rw [hh5]; simp)⟩
    | false =>
      have q := hQ C2 f2
      unfold cnK at q
      rw [hh5] at q
      simp [z] at q
      exact ⟨fun _ => q, fun y => absurd y (by decide)⟩
  · refine b_X11_mindedAt_0 (d := d + 99) F (s_tells (d := d + 49) F hK hn hh hk hb (Or.inl rfl) (by omega) (fun C2 f2 => ⟨rfl, ?_⟩))
    rw [show (1 : Int) + 3 = 4 from rfl, resS_mind]
    exact hQ C2 f2
