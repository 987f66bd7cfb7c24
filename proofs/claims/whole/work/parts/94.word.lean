/-! 94.word: no ';' in a clause; has it the drill -/
def Nt {α : Type} (τ : Tks) (rd : Rdr α) : Prop := ∀ p lv c0 f q lv' cd, rd p lv c0 = .inr (f, q, lv', cd) → ∀ j, p ≤ j → j < q → tc τ j ≠ 159
theorem nt_part {τ : Tks} {o : Bool} {inner : Option (Rdr Sem)} (h : ∀ s, inner = some s → Nt τ s) : Nt τ (partP τ o inner) := by
  intro p lv c0 f q lv' cd e j j0 j1
  rcases partP_inv e with ⟨z, s, q1, e1, e2, e3, e4⟩ | ⟨_, h2, ⟨e1, e2, e3, e4, e5, _⟩ | ⟨_, e1⟩⟩
  · by_cases y : j = p
    · rw [y, z]; decide
    · by_cases y2 : j = q1
      · rw [y2, e3]; decide
      · exact h s e1 _ _ _ _ _ _ _ e2 j (by omega) (by omega)
  · have : j = p := by omega
    rw [this, e1]; decide
  · obtain ⟨a, i, b1, b2, b3, b4⟩ := wordP_inv e1
    rcases b4 with ⟨_, c1, c2, _, c3, c4⟩ | ⟨_, c1, c2, _, c3, c4⟩ | ⟨_, c1, c3, c4⟩ | ⟨_, c1, c3, _⟩
    · by_cases y : j = p
      · rw [y, c1]; decide
      · have : j = p + 1 := by omega
        rw [this, c2]; decide
    · by_cases y : j = p
      · rw [y, c1]; decide
      · have : j = p + 1 := by omega
        rw [this, c2]; decide
    · have : j = p := by omega
      rw [this]; omega
    · have : j = p := by omega
      rw [this]; omega
theorem nt_row {τ : Tks} {is : Int → Bool} {pt : Rdr Sem} (hi : is 159 = false) (h : Nt τ pt) (hG : Gd τ SBd pt) : ∀ (n : Nat) (f : Sem) (p lv c0 : Nat) (cd : List Int) (g : Sem) (q lv' : Nat) (cd' : List Int), rowP τ is pt n f p lv c0 cd = .inr (g, q, lv', cd') → ∀ j, p ≤ j → j < q → tc τ j ≠ 159
  | 0, f, p, lv, c0, cd, g, q, lv', cd', e, j, j0, j1 => by
    unfold rowP at e
    cases e
    omega
  | n + 1, f, p, lv, c0, cd, g, q, lv', cd', e, j, j0, j1 => by
    rcases rowP_inv e with ⟨_, e1, e2, e3, _⟩ | ⟨z, g1, q1, lv1, cd1, e1, e2⟩
    · omega
    · by_cases y : j = p
      · rw [y]; intro q; rw [q, hi] at z; cases z
      · by_cases y2 : j < q1
        · exact h _ _ _ _ _ _ _ e1 j (by omega) y2
        · exact nt_row hi h hG n _ _ _ _ _ _ _ _ _ e2 j (by omega) j1
theorem nt_seq {τ : Tks} {is : Int → Bool} {pt : Rdr Sem} (hi : is 159 = false) (h : Nt τ pt) (hG : Gd τ SBd pt) : Nt τ (seqP τ is pt) := by
  intro p lv c0 f q lv' cd e j j0 j1
  obtain ⟨f1, q1, lv1, cd1, e1, e2⟩ := seqP_inv e
  by_cases y2 : j < q1
  · exact h _ _ _ _ _ _ _ e1 j j0 y2
  · exact nt_row hi h hG 400 _ _ _ _ _ _ _ _ _ e2 j (by omega) j1
theorem nt_sum {τ : Tks} {pt : Rdr Sem} (h : Nt τ pt) (hG : Gd τ SBd pt) : Nt τ (sumP τ pt) := nt_seq (by decide) (nt_seq (by decide) h hG) (Gd_seq hG)
theorem nt_pt (τ : Tks) (o : Bool) : ∀ g, Nt τ (ptP τ o g)
  | 0 => nt_part (fun s e => by cases e)
  | g + 1 => nt_part (fun s e => by cases e; exact nt_sum (nt_pt τ o g) (Gd_pt τ o g))
theorem notP_7 {τ : Tks} : ∀ (n p : Nat) (b : Bool) (j : Nat), p ≤ j → j < (notP τ n p b).2 → tc τ j = 7
  | 0, p, b, j, j0, j1 => by unfold notP at j1; omega
  | n + 1, p, b, j, j0, j1 => by
    unfold notP at j1
    split at j1
    · rename_i z
      by_cases y : j = p
      · rw [y]; exact z
      · exact notP_7 n (p + 1) (!b) j (by omega) j1
    · omega
theorem nt_plain {τ : Tks} {su : Rdr Sem} {inner : Option (Rdr TSem)} (hs : Nt τ su) (h : ∀ s, inner = some s → Nt τ s) : Nt τ (plainP τ su inner) := by
  intro p lv c0 f q lv' cd e j j0 j1
  obtain ⟨f1, cd1, e1, e2, _⟩ := plainP_inv e
  by_cases y : j < (notP τ 400 p false).2
  · rw [notP_7 400 p false j j0 y]; decide
  · unfold posP at e1
    split at e1
    · rename_i z
      obtain ⟨s, q1, a1, a2, a3, a4⟩ := brP_inv e1
      by_cases y2 : j = (notP τ 400 p false).2
      · rw [y2, z]; decide
      · by_cases y3 : j = q1
        · rw [y3, a3]; decide
        · exact h s a1 _ _ _ _ _ _ _ a2 j (by omega) (by omega)
    · obtain ⟨g1, q1, lv1, cd1, g2, cd2, a1, a2, a3, a4, _⟩ := cmprP_inv e1
      by_cases y2 : j < q1
      · exact hs _ _ _ _ _ _ _ a1 j (by omega) y2
      · by_cases y3 : j = q1
        · rw [y3]; intro z; rw [z] at a2; exact absurd a2 (by decide)
        · exact hs _ _ _ _ _ _ _ a3 j (by omega) j1
theorem nt_laz {τ : Tks} {c op : Int} {stop : Bool} {pt : Rdr TSem} (hc : c ≠ 159) (h : Nt τ pt) : ∀ (n : Nat) (f : TSem) (p lv c0 : Nat) (cd : List Int) (g : TSem) (q lv' : Nat) (cd' : List Int), lazP τ c op stop pt n f p lv c0 cd = .inr (g, q, lv', cd') → ∀ j, p ≤ j → j < q → tc τ j ≠ 159
  | 0, f, p, lv, c0, cd, g, q, lv', cd', e, j, j0, j1 => by
    unfold lazP at e
    cases e
    omega
  | n + 1, f, p, lv, c0, cd, g, q, lv', cd', e, j, j0, j1 => by
    rcases lazP_inv e with ⟨_, e1, e2, e3, _⟩ | ⟨z, g1, q1, lv1, cd1, e1, e2⟩
    · omega
    · by_cases y : j = p
      · rw [y, z]; exact hc
      · by_cases y2 : j < q1
        · exact h _ _ _ _ _ _ _ e1 j (by omega) y2
        · exact nt_laz hc h n _ _ _ _ _ _ _ _ _ e2 j (by omega) j1
theorem nt_lazy {τ : Tks} {c op : Int} {stop : Bool} {pt : Rdr TSem} (hc : c ≠ 159) (h : Nt τ pt) : Nt τ (lazyP τ c op stop pt) := by
  intro p lv c0 f q lv' cd e j j0 j1
  obtain ⟨f1, q1, lv1, cd1, e1, e2⟩ := lazyP_inv e
  by_cases y2 : j < q1
  · exact h _ _ _ _ _ _ _ e1 j j0 y2
  · exact nt_laz hc h 400 _ _ _ _ _ _ _ _ _ e2 j (by omega) j1
theorem nt_pl (τ : Tks) (o : Bool) : ∀ g, Nt τ (plP τ o g)
  | 0 => nt_plain (nt_sum (nt_pt τ o 0) (Gd_pt τ o 0)) (fun s e => by cases e)
  | g + 1 => nt_plain (nt_sum (nt_pt τ o (g + 1)) (Gd_pt τ o (g + 1))) (fun s e => by cases e; exact nt_lazy (by decide) (nt_lazy (by decide) (nt_pl τ o g)))
theorem nt_sum8 (τ : Tks) (o : Bool) : Nt τ (sum8 τ o) := nt_sum (nt_pt τ o 8) (Gd_pt τ o 8)
theorem nt_test8 (τ : Tks) (o : Bool) : Nt τ (test8 τ o) := nt_lazy (by decide) (nt_lazy (by decide) (nt_pl τ o 8))
theorem nt_cond {τ : Tks} {o : Bool} {k : Int → TSem → Cla} : Nt τ (condP τ o k) := by
  intro p lv c0 f q lv' cd e j j0 j1
  rcases condP_inv e with ⟨z, t, cd1, e1, _⟩ | ⟨_, _, e2, _⟩
  · by_cases y : j = p
    · rw [y, z]; decide
    · exact nt_test8 τ o _ _ _ _ _ _ _ e1 j (by omega) j1
  · omega
theorem nt_tail {τ : Tks} {v i j : Int} {f g : Sem} : Nt τ (tailP τ v i j f g) := by
  intro p lv c0 cl q lv' cd e j j0 j1
  obtain ⟨n, p1, hn, h, e1⟩ := tailP_inv e
  rcases h with ⟨z1, z2, _, z3⟩ | ⟨_, _, z3⟩
  · by_cases y : j = p
    · rw [y, z1]; decide
    · by_cases y2 : j = p + 1
      · rw [y2, z2]; decide
      · exact nt_cond _ _ _ _ _ _ _ e1 j (by omega) j1
  · exact nt_cond _ _ _ _ _ _ _ e1 j (by omega) j1
theorem nt_two {τ : Tks} {v c : Int} (hc : c ≠ 159) : Nt τ (twoP τ v c) := by
  intro p lv c0 cl q lv' cd e j j0 j1
  obtain ⟨f, q1, lv1, cd1, g, q2, lv2, cd2, cd3, a1, z, a2, a3, a4⟩ := twoP_inv e
  by_cases y1 : j < q1
  · exact nt_sum8 τ true _ _ _ _ _ _ _ a1 j j0 y1
  · by_cases y2 : j = q1
    · rw [y2, z]; exact hc
    · by_cases y3 : j < q2
      · exact nt_sum8 τ true _ _ _ _ _ _ _ a2 j (by omega) y3
      · exact nt_tail _ _ _ _ _ _ _ a3 j (by omega) j1
theorem nt_order (τ : Tks) : Nt τ (orderP τ) := by
  intro p lv c0 cl q lv' cd e j j0 j1
  rcases orderP_inv e with ⟨z, e1⟩ | ⟨z, e1⟩ | ⟨z, f, q1, lv1, cd1, cd3, e1, e2, e3⟩ | ⟨z, e1⟩
  · by_cases y : j = p
    · rw [y, z]; decide
    · exact nt_two (by decide) _ _ _ _ _ _ _ e1 j (by omega) j1
  · by_cases y : j = p
    · rw [y, z]; decide
    · exact nt_two (by decide) _ _ _ _ _ _ _ e1 j (by omega) j1
  · by_cases y : j = p
    · rw [y, z]; decide
    · by_cases y2 : j < q1
      · exact nt_sum8 τ true _ _ _ _ _ _ _ e1 j (by omega) y2
      · exact nt_tail _ _ _ _ _ _ _ e2 j (by omega) j1
  · by_cases y : j = p
    · rw [y, z]; decide
    · exact nt_tail _ _ _ _ _ _ _ e1 j (by omega) j1
def hasB (τ : Tks) (p q : Nat) : Bool := (List.range (q - p)).any (fun i => tc τ (p + i) == 18)
theorem hasB_iff {τ : Tks} {p q : Nat} : hasB τ p q = true ↔ ∃ j, p ≤ j ∧ j < q ∧ tc τ j = 18 := by
  unfold hasB
  rw [List.any_eq_true]
  constructor
  · intro ⟨i, hi, h⟩
    have := List.mem_range.mp hi
    exact ⟨p + i, by omega, by omega, by simpa using h⟩
  · intro ⟨j, j0, j1, h⟩
    refine ⟨j - p, List.mem_range.mpr (by omega), ?_⟩
    rw [show p + (j - p) = j by omega]
    simpa using h
theorem hasB_no {τ : Tks} {p q : Nat} (h : hasB τ p q = false) : N18 τ p q := fun j j0 j1 z => by
  have : hasB τ p q = true := hasB_iff.mpr ⟨j, j0, j1, z⟩
  rw [h] at this
  cases this
/-- where the clauses of a text lie -/
def Prs (τ : Tks) : List (Cla × Bool) → Nat → Prop
  | [], p => τ.length < p
  | c :: l, p => ∃ l0 c0 q l' cd, l0 ≤ 50 ∧ orderP τ p l0 c0 = .inr (c.1, q, l', cd) ∧ c.2 = hasB τ p q ∧ (q = τ.length ∨ tc τ q = 159) ∧ Prs τ l (q + 1)
theorem OrdOk_l {cd pre : List Int} {c0 : Nat} {c : Cla} (h : OrdOk cd (c0 + pre.length) c) : OrdOk (pre ++ cd) c0 c := by
  obtain ⟨a, b, g, s, x, y⟩ := h
  refine ⟨a, b, TstOk_l g, s, ?_, ?_⟩
  · rcases x with x | ⟨k, pc, x1, x2, x3⟩
    · exact Or.inl x
    · exact Or.inr ⟨k, pc, x1, Pc_l x2, x3⟩
  · rcases y with y | ⟨k, pc, x1, x2, x3⟩
    · exact Or.inl y
    · exact Or.inr ⟨k, pc, x1, Pc_l x2, x3⟩
theorem OrdOk_r {cd post : List Int} {c0 : Nat} {c : Cla} (h : OrdOk cd c0 c) : OrdOk (cd ++ post) c0 c := by
  obtain ⟨a, b, g, s, x, y⟩ := h
  refine ⟨a, b, TstOk_r g, s, ?_, ?_⟩
  · rcases x with x | ⟨k, pc, x1, x2, x3⟩
    · exact Or.inl x
    · exact Or.inr ⟨k, pc, x1, Pc_r x2, x3⟩
  · rcases y with y | ⟨k, pc, x1, x2, x3⟩
    · exact Or.inl y
    · exact Or.inr ⟨k, pc, x1, Pc_r x2, x3⟩
theorem text_prs {τ : Tks} : ∀ (n p lv c0 : Nat) (cls : List Cla) (cd : List Int), textP τ (orderP τ) n p lv c0 = .inr (cls, cd) → lv ≤ 50 → ∃ cb : List (Cla × Bool), cb.map Prod.fst = cls ∧ Prs τ cb p ∧ ∀ x, x ∈ cb → OrdOk cd c0 x.1 ∧ (x.2 = false → Cl3 x.1) ∧ (x.2 = true → ∃ j, j < τ.length ∧ tc τ j = 18)
  | 0, p, lv, c0, cls, cd, e, _ => by unfold textP at e; cases e
  | n + 1, p, lv, c0, cls, cd, e, hl => by
    obtain ⟨cl, q, lv1, cd1, e1, e2⟩ := textP_inv e
    obtain ⟨a1, a2⟩ := order_ok e1 hl
    obtain ⟨g1, g2⟩ := Gd_order τ _ _ _ _ _ _ _ e1
    have here : OrdOk cd1 c0 cl ∧ (hasB τ p q = false → Cl3 cl) ∧ (hasB τ p q = true → ∃ j, j < τ.length ∧ tc τ j = 18) := ⟨a1, fun h => a2 (hasB_no h), fun h => by
      obtain ⟨j, _, j1, j2⟩ := hasB_iff.mp h
      exact ⟨j, by omega, j2⟩⟩
    rcases e2 with ⟨b1, b2, b3⟩ | ⟨b0, b1, cls2, cd2, b3, b4, b5⟩
    · refine ⟨[(cl, hasB τ p q)], by rw [b2]; rfl, ⟨lv, c0, q, lv1, cd1, hl, e1, rfl, Or.inl b1, by show τ.length < q + 1; omega⟩, fun x hx => ?_⟩
      rw [List.mem_singleton.mp hx, b3]
      exact here
    · obtain ⟨cb, c1, c2, c3⟩ := text_prs n _ _ _ _ _ b3 (g2.2 hl)
      refine ⟨(cl, hasB τ p q) :: cb, by rw [b4, List.map_cons, c1], ⟨lv, c0, q, lv1, cd1, hl, e1, rfl, Or.inr b1, c2⟩, fun x hx => ?_⟩
      rw [b5]
      rcases List.mem_cons.mp hx with h | h
      · rw [h]
        exact ⟨OrdOk_r here.1, here.2⟩
      · obtain ⟨y1, y2⟩ := c3 x h
        exact ⟨OrdOk_l y1, y2⟩
/-- has a clause the drill, by the reference -/
theorem m_hasWord {d : Nat} {τ : Tks} {p q : Nat} {S : MS} {C : MC} {Q : Qt} (F : Fix S) (h23 : C 81 23 = 2400 + (τ.length : Int)) (h44 : C 81 44 = 2400 + (p : Int)) (hN : τ.length ≤ 400) (htk : ∀ j : Nat, j < τ.length → C 83 (2456 + (j : Int)) = tc τ j) (hp : p ≤ q) (hq : q ≤ τ.length) (he : q = τ.length ∨ tc τ q = 159) (hn : ∀ j, p ≤ j → j < q → tc τ j ≠ 159) (hk : Q (b2 (hasB τ p q)) S C) : K_X11_hasWord_0 (d + 1) 0 0 18 (2400 + (τ.length : Int)) S C Q := by
  have code : ∀ (j : Nat) (Q2 : Qt), j < τ.length → Q2 (tc τ j) S C → K_X11_codeAt_0 d 0 0 (2400 + (j : Int)) S C Q2 := by
    intro j Q2 hj h
    have e1 : w32 (56 + (2400 + (j : Int))) = 2456 + (j : Int) := by
      rw [w32_lit (by clear h23 h44; omega)]; clear h23 h44; omega
    have b1 : (0 : Int) ≤ 2456 + (j : Int) ∧ 2456 + (j : Int) < 5656 := by clear h23 h44 e1; omega
    have n1 : ¬ 2400 + (τ.length : Int) ≤ 2400 + (j : Int) := by clear h23 h44 e1; omega
    refine b_X11_codeAt_0 F ⟨fun z => absurd (by rw [h23] at z; exact z) n1, fun _ => ?_⟩
    rw [e1, htk j hj]
    exact ⟨b1, h⟩
  have loop : ∀ (n j : Nat), j + n = q → p ≤ j → (∀ i, p ≤ i → i < j → tc τ i ≠ 18) → K_X11_hasWord_5 (d + 1) 0 0 18 (2400 + (τ.length : Int)) (2400 + (j : Int)) S C Q := by
    intro n
    induction n with
    | zero =>
      intro j hj pj hno
      have ej : j = q := by clear h23 h44; omega
      have hb : hasB τ p q = false := by
        cases h : hasB τ p q with
        | false => rfl
        | true =>
          obtain ⟨i, i0, i1, i2⟩ := hasB_iff.mp h
          exact absurd i2 (hno i i0 (by rw [ej]; exact i1))
      rw [hb] at hk
      by_cases y : q = τ.length
      · exact b_X11_hasWord_5 F ⟨fun _ => hk, fun z => absurd (by rw [ej, y]; exact Int.le_refl _) z⟩
      · have hq2 : j < τ.length := by clear h23 h44; omega
        have n1 : ¬ 2400 + (τ.length : Int) ≤ 2400 + (j : Int) := by clear h23 h44; omega
        have t59 : tc τ j = 159 := by rw [ej]; exact he.resolve_left y
        refine b_X11_hasWord_5 F ⟨fun z => absurd z n1, fun _ => code j _ hq2 ⟨rfl, t_sign F (by decide) ⟨rfl, fun _ => hk, fun z => absurd t59 z⟩⟩⟩
    | succ n ih =>
      intro j hj pj hno
      have hjq : j < q := by clear h23 h44; omega
      have hj2 : j < τ.length := Nat.lt_of_lt_of_le hjq hq
      have n1 : ¬ 2400 + (τ.length : Int) ≤ 2400 + (j : Int) := by clear h23 h44; omega
      have t59 := hn j pj hjq
      have wj : w32 (2400 + (j : Int) + 1) = 2400 + ((j + 1 : Nat) : Int) := by rw [w32_lit (by clear h23 h44; omega)]; clear h23 h44; omega
      refine b_X11_hasWord_5 F ⟨fun z => absurd z n1, fun _ => code j _ hj2 ⟨rfl, t_sign F (by decide) ⟨rfl, fun z => absurd z t59, fun _ => code j _ hj2 ⟨rfl, fun z => ?_, fun z => ?_⟩⟩⟩⟩
      · rw [wj]
        clear wj
        refine ih (j + 1) (by clear h23 h44; omega) (Nat.le_succ_of_le pj) (fun i i0 i1 => ?_)
        by_cases y : i = j
        · rw [y]; exact z
        · exact hno i i0 (Nat.lt_of_le_of_ne (Nat.le_of_lt_succ i1) y)
      · have hb : hasB τ p q = true := hasB_iff.mpr ⟨j, pj, hjq, z⟩
        rw [hb] at hk
        exact hk
  refine b_X11_hasWord_0 (d := d) F ?_
  rw [h44]
  exact loop (q - p) p (by clear h23 h44; omega) (Nat.le_refl _) (fun i i0 i1 => absurd i0 (Nat.not_le.mpr i1))
