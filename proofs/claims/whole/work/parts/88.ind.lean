/-! 88.ind: meanings that don't look at the drill; the pure run of orders -/
def Agr (w w' : Wd) : Prop := ∀ i, i ≠ 3 → w i = w' i
def N18 (τ : Tks) (p q : Nat) : Prop := ∀ j, p ≤ j → j < q → tc τ j ≠ 18
theorem N18_sub {τ : Tks} {p q p' q' : Nat} (h : N18 τ p q) (h1 : p ≤ p') (h2 : q' ≤ q) : N18 τ p' q' := fun j a b => h j (Nat.le_trans h1 a) (Nat.lt_of_lt_of_le b h2)
def Id3 {β : Type} (τ : Tks) (rd : Rdr (Wd → β)) : Prop := ∀ p lv c0 f q lv' cd, rd p lv c0 = .inr (f, q, lv', cd) → N18 τ p q → ∀ w w', Agr w w' → f w = f w'
theorem i3_part {τ : Tks} {inner : Option (Rdr Sem)} (h : ∀ s, inner = some s → Id3 τ s) (hG : ∀ s, inner = some s → Gd τ SBd s) : Id3 τ (partP τ true inner) := by
  intro p lv c0 f q lv' cd e hn w w' hw
  rcases partP_inv e with ⟨_, s, q1, e1, e2, e3, e4⟩ | ⟨_, h2, ⟨e1, e2, e3, e4, e5, _⟩ | ⟨_, e1⟩⟩
  · exact h s e1 _ _ _ _ _ _ _ e2 (N18_sub hn (by omega) (by omega)) w w' hw
  · rw [e3]
  · obtain ⟨a, i, b1, b2, b3, b4⟩ := wordP_inv e1
    rw [b1]
    show some (w i) = some (w' i)
    rw [hw i ?_]
    rcases b4 with ⟨_, c1, c2, _, c3, c4⟩ | ⟨_, c1, c2, _, c3, c4⟩ | ⟨_, c1, c3, c4⟩ | ⟨c0, _⟩
    · omega
    · omega
    · have := hn p (Nat.le_refl _) (by omega)
      omega
    · cases c0
theorem i3_row {τ : Tks} {is : Int → Bool} {pt : Rdr Sem} (h : Id3 τ pt) (hG : Gd τ SBd pt) : ∀ (n : Nat) (f : Sem) (p lv c0 : Nat) (cd : List Int) (g : Sem) (q lv' : Nat) (cd' : List Int), rowP τ is pt n f p lv c0 cd = .inr (g, q, lv', cd') → N18 τ p q → p ≤ τ.length → (∀ w w', Agr w w' → f w = f w') → ∀ w w', Agr w w' → g w = g w'
  | 0, f, p, lv, c0, cd, g, q, lv', cd', e, hn, hp, hf => by
    unfold rowP at e
    cases e
    exact hf
  | n + 1, f, p, lv, c0, cd, g, q, lv', cd', e, hn, hp, hf => by
    rcases rowP_inv e with ⟨_, e1, e2, e3, _⟩ | ⟨_, g1, q1, lv1, cd1, e1, e2⟩
    · rw [e1]; exact hf
    · have a1 := (hG _ _ _ _ _ _ _ e1).1
      have a2 := (Gd_row hG n _ _ _ _ _ _ _ _ _ e2 (opS_bd _ _ _)).1
      refine i3_row h hG n _ _ _ _ _ _ _ _ _ e2 (N18_sub hn (by omega) (Nat.le_refl _)) a1.2 (fun w w' hw => ?_)
      unfold opS
      rw [hf w w' hw, h _ _ _ _ _ _ _ e1 (N18_sub hn (by omega) (by omega)) w w' hw]
theorem i3_seq {τ : Tks} {is : Int → Bool} {pt : Rdr Sem} (h : Id3 τ pt) (hG : Gd τ SBd pt) : Id3 τ (seqP τ is pt) := by
  intro p lv c0 f q lv' cd e hn
  obtain ⟨f1, q1, lv1, cd1, e1, e2⟩ := seqP_inv e
  have a1 := (hG _ _ _ _ _ _ _ e1)
  have a2 := (Gd_row hG 400 _ _ _ _ _ _ _ _ _ e2 a1.2.2).1
  exact i3_row h hG 400 _ _ _ _ _ _ _ _ _ e2 (N18_sub hn (by omega) (Nat.le_refl _)) a1.1.2 (h _ _ _ _ _ _ _ e1 (N18_sub hn (Nat.le_refl _) (by omega)))
theorem i3_sum {τ : Tks} {pt : Rdr Sem} (h : Id3 τ pt) (hG : Gd τ SBd pt) : Id3 τ (sumP τ pt) := i3_seq (i3_seq h hG) (Gd_seq hG)
theorem i3_pt (τ : Tks) : ∀ g, Id3 τ (ptP τ true g)
  | 0 => i3_part (fun s e => by cases e) (fun s e => by cases e)
  | g + 1 => i3_part (fun s e => by cases e; exact i3_sum (i3_pt τ g) (Gd_pt τ true g)) (fun s e => by cases e; exact Gd_sum (Gd_pt τ true g))
theorem i3_pos {τ : Tks} {su : Rdr Sem} {inner : Option (Rdr TSem)} (hs : Id3 τ su) (hG : Gd τ SBd su) (h : ∀ s, inner = some s → Id3 τ s) : Id3 τ (posP τ su inner) := by
  intro p lv c0 f q lv' cd e hn w w' hw
  unfold posP at e
  split at e
  · obtain ⟨s, q1, e1, e2, e3, e4⟩ := brP_inv e
    exact h s e1 _ _ _ _ _ _ _ e2 (N18_sub hn (by omega) (by omega)) w w' hw
  · obtain ⟨f1, q1, lv1, cd1, f2, cd2, e1, e2, e3, e4, _⟩ := cmprP_inv e
    have a1 := (hG _ _ _ _ _ _ _ e1).1
    have a2 := (hG _ _ _ _ _ _ _ e3).1
    rw [e4]
    unfold cmpS
    rw [hs _ _ _ _ _ _ _ e1 (N18_sub hn (Nat.le_refl _) (by omega)) w w' hw, hs _ _ _ _ _ _ _ e3 (N18_sub hn (by omega) (Nat.le_refl _)) w w' hw]
theorem i3_plain {τ : Tks} {su : Rdr Sem} {inner : Option (Rdr TSem)} (hs : Id3 τ su) (hG : Gd τ SBd su) (h : ∀ s, inner = some s → Id3 τ s) : Id3 τ (plainP τ su inner) := by
  intro p lv c0 f q lv' cd e hn w w' hw
  obtain ⟨f1, cd1, e1, e2, _⟩ := plainP_inv e
  rw [e2]
  unfold notS
  rw [i3_pos hs hG h _ _ _ _ _ _ _ e1 (N18_sub hn (notP_le τ 400 p false) (Nat.le_refl _)) w w' hw]
theorem i3_laz {τ : Tks} {c op : Int} {stop : Bool} {pt : Rdr TSem} (h : Id3 τ pt) (hG : Gd τ Tr pt) : ∀ (n : Nat) (f : TSem) (p lv c0 : Nat) (cd : List Int) (g : TSem) (q lv' : Nat) (cd' : List Int), lazP τ c op stop pt n f p lv c0 cd = .inr (g, q, lv', cd') → N18 τ p q → (∀ w w', Agr w w' → f w = f w') → ∀ w w', Agr w w' → g w = g w'
  | 0, f, p, lv, c0, cd, g, q, lv', cd', e, hn, hf => by
    unfold lazP at e
    cases e
    exact hf
  | n + 1, f, p, lv, c0, cd, g, q, lv', cd', e, hn, hf => by
    rcases lazP_inv e with ⟨_, e1, e2, e3, _⟩ | ⟨_, g1, q1, lv1, cd1, e1, e2⟩
    · rw [e1]; exact hf
    · have a1 := (hG _ _ _ _ _ _ _ e1).1
      have a2 := (Gd_laz hG n _ _ _ _ _ _ _ _ _ e2).1
      refine i3_laz h hG n _ _ _ _ _ _ _ _ _ e2 (N18_sub hn (by omega) (Nat.le_refl _)) (fun w w' hw => ?_)
      unfold lazS
      rw [hf w w' hw, h _ _ _ _ _ _ _ e1 (N18_sub hn (by omega) (by omega)) w w' hw]
theorem i3_lazy {τ : Tks} {c op : Int} {stop : Bool} {pt : Rdr TSem} (h : Id3 τ pt) (hG : Gd τ Tr pt) : Id3 τ (lazyP τ c op stop pt) := by
  intro p lv c0 f q lv' cd e hn
  obtain ⟨f1, q1, lv1, cd1, e1, e2⟩ := lazyP_inv e
  have a1 := (hG _ _ _ _ _ _ _ e1).1
  have a2 := (Gd_laz hG 400 _ _ _ _ _ _ _ _ _ e2).1
  exact i3_laz h hG 400 _ _ _ _ _ _ _ _ _ e2 (N18_sub hn (by omega) (Nat.le_refl _)) (h _ _ _ _ _ _ _ e1 (N18_sub hn (Nat.le_refl _) (by omega)))
theorem i3_pl (τ : Tks) : ∀ g, Id3 τ (plP τ true g)
  | 0 => i3_plain (i3_sum (i3_pt τ 0) (Gd_pt τ true 0)) (Gd_sum (Gd_pt τ true 0)) (fun s e => by cases e)
  | g + 1 => i3_plain (i3_sum (i3_pt τ (g + 1)) (Gd_pt τ true (g + 1))) (Gd_sum (Gd_pt τ true (g + 1))) (fun s e => by cases e; exact i3_lazy (i3_lazy (i3_pl τ g) (Gd_pl τ true g)) (Gd_lazy (Gd_pl τ true g)))
theorem i3_sum8 (τ : Tks) : Id3 τ (sum8 τ true) := i3_sum (i3_pt τ 8) (Gd_pt τ true 8)
theorem i3_test8 (τ : Tks) : Id3 τ (test8 τ true) := i3_lazy (i3_lazy (i3_pl τ 8) (Gd_pl τ true 8)) (Gd_lazy (Gd_pl τ true 8))
/-- what a clause of an order keeps to -/
def OrdOk (cd : List Int) (c0 : Nat) (c : Cla) : Prop := (0 ≤ c.1.1 ∧ c.1.1 ≤ 3) ∧ (1 ≤ c.1.2 ∧ c.1.2 ≤ 20) ∧ TstOk true cd c0 c.2.1.2.2 c.2.2.2.2 ∧ (SBd c.2.2.1 ∧ SBd c.2.2.2.1) ∧ ((c.2.1.1 = -1 ∧ c.2.2.1 = fun _ => some 0) ∨ ∃ (k : Nat) (pc : List Int), c.2.1.1 = (k : Int) ∧ Pc cd c0 k (pc ++ [0]) ∧ SgS true k pc c.2.2.1) ∧ ((c.2.1.2.1 = -1 ∧ c.2.2.2.1 = fun _ => some 0) ∨ ∃ (k : Nat) (pc : List Int), c.2.1.2.1 = (k : Int) ∧ Pc cd c0 k (pc ++ [0]) ∧ SgS true k pc c.2.2.2.1)
/-- doesn't look at the drill -/
def Cl3 (c : Cla) : Prop := ∀ w w', Agr w w' → c.2.2.1 w = c.2.2.1 w' ∧ c.2.2.2.1 w = c.2.2.2.1 w' ∧ c.2.2.2.2 w = c.2.2.2.2 w'
theorem z0_bd : SBd (fun _ => some 0) := fun w _ x hx => by cases hx; unfold Bd; omega
/-- a tail: the test's place, its meaning -/
theorem tail_ok {τ : Tks} {v i j : Int} {f g : Sem} {p lv c0 : Nat} {cl : Cla} {q lv' : Nat} {cd : List Int} (e : tailP τ v i j f g p lv c0 = .inr (cl, q, lv', cd)) (hl : lv ≤ 50) : ∃ n k t, cl = ((v, n), (i, j, k), (f, g, t)) ∧ (1 ≤ n ∧ n ≤ 20) ∧ TstOk true cd c0 k t ∧ (N18 τ p q → ∀ w w', Agr w w' → t w = t w') := by
  obtain ⟨n, p1, hn, h, e1⟩ := tailP_inv e
  obtain ⟨k, t, b1, b2, b3⟩ := cond_ok e1 hl
  refine ⟨n, k, t, b1, hn, b2, fun h18 => ?_⟩
  have hp1 : p ≤ p1 := by rcases h with ⟨_, _, _, z⟩ | ⟨_, _, z⟩ <;> omega
  rcases condP_inv e1 with ⟨_, t', cd1, g1, g2, _⟩ | ⟨_, g2, _⟩
  · have et : t = t' := by
      have := b1.symm.trans g2
      exact congrArg (fun c : Cla => c.2.2.2.2) this
    rw [et]
    exact i3_test8 τ _ _ _ _ _ _ _ g1 (N18_sub h18 (by omega) (Nat.le_refl _))
  · have et : t = fun _ => some true := by
      have := b1.symm.trans g2
      exact congrArg (fun c : Cla => c.2.2.2.2) this
    rw [et]
    exact fun _ _ _ => rfl
theorem order_ok {τ : Tks} {p lv c0 : Nat} {cl : Cla} {q lv' : Nat} {cd : List Int} (e : orderP τ p lv c0 = .inr (cl, q, lv', cd)) (hl : lv ≤ 50) : OrdOk cd c0 cl ∧ (N18 τ p q → Cl3 cl) := by
  have two : ∀ v c, 0 ≤ v ∧ v ≤ 3 → twoP τ v c (p + 1) lv c0 = .inr (cl, q, lv', cd) → OrdOk cd c0 cl ∧ (N18 τ p q → Cl3 cl) := by
    intro v c hv e1
    obtain ⟨f, q1, lv1, cd1, g, q2, lv2, cd2, cd3, a1, z, a2, a3, a4⟩ := twoP_inv e1
    obtain ⟨b1, b2, b3⟩ := Gd_sum8 τ true _ _ _ _ _ _ _ a1
    obtain ⟨d1, d2, d3⟩ := Gd_sum8 τ true _ _ _ _ _ _ _ a2
    obtain ⟨n, k, t, x1, x2, x3, x4⟩ := tail_ok a3 (d2.2 (b2.2 hl))
    have gt := (Gd_tail a3 d1.2).1
    have e4' : cd = ((cd1 ++ [0]) ++ (cd2 ++ [0])) ++ cd3 := by rw [a4]; simp
    refine ⟨?_, fun h18 w w' hw => ?_⟩
    · rw [x1, e4']
      refine ⟨hv, x2, TstOk_l ?_, ⟨b3, d3⟩, Or.inr ⟨c0, cd1, rfl, Pc_r (Pc_r (Pc_rf _ _)), fun l0 A W S w F H => rk_sum8 τ true l0 A W S w F H _ _ _ _ _ _ _ a1 0 (by omega)⟩, Or.inr ⟨c0 + (cd1.length + 1), cd2, rfl, Pc_r (Pc_l ?_), fun l0 A W S w F H => rk_sum8 τ true l0 A W S w F H _ _ _ _ _ _ _ a2 0 (by have := b2.2 hl; omega)⟩⟩
      · have : c0 + ((cd1 ++ [0]) ++ (cd2 ++ [0])).length = c0 + (cd1.length + 1) + (cd2.length + 1) := by simp; omega
        rw [this]; exact x3
      · have : c0 + (cd1 ++ [0]).length = c0 + (cd1.length + 1) := by simp
        rw [this]; exact Pc_rf _ _
    · rw [x1]
      exact ⟨i3_sum8 τ _ _ _ _ _ _ _ a1 (N18_sub h18 (by omega) (by omega)) w w' hw, i3_sum8 τ _ _ _ _ _ _ _ a2 (N18_sub h18 (by omega) (by omega)) w w' hw, x4 (N18_sub h18 (by omega) (Nat.le_refl _)) w w' hw⟩
  rcases orderP_inv e with ⟨z, e1⟩ | ⟨z, e1⟩ | ⟨z, f, q1, lv1, cd1, cd3, e1, e2, e3⟩ | ⟨z, e1⟩
  · exact two 0 22 (by decide) e1
  · exact two 1 24 (by decide) e1
  · obtain ⟨b1, b2, b3⟩ := Gd_sum8 τ true _ _ _ _ _ _ _ e1
    obtain ⟨n, k, t, x1, x2, x3, x4⟩ := tail_ok e2 (b2.2 hl)
    have gt := (Gd_tail e2 b1.2).1
    refine ⟨?_, fun h18 w w' hw => ?_⟩
    · rw [x1, e3]
      refine ⟨(by decide : (0 : Int) ≤ 2 ∧ (2 : Int) ≤ 3), x2, TstOk_l ?_, ⟨b3, z0_bd⟩, Or.inr ⟨c0, cd1, rfl, Pc_r (Pc_rf _ _), fun l0 A W S w F H => rk_sum8 τ true l0 A W S w F H _ _ _ _ _ _ _ e1 0 (by omega)⟩, Or.inl ⟨rfl, rfl⟩⟩
      have : c0 + (cd1 ++ [0]).length = c0 + (cd1.length + 1) := by simp
      rw [this]; exact x3
    · rw [x1]
      exact ⟨i3_sum8 τ _ _ _ _ _ _ _ e1 (N18_sub h18 (by omega) (by omega)) w w' hw, rfl, x4 (N18_sub h18 (by omega) (Nat.le_refl _)) w w' hw⟩
  · obtain ⟨n, k, t, x1, x2, x3, x4⟩ := tail_ok e1 hl
    refine ⟨?_, fun h18 w w' hw => ?_⟩
    · rw [x1]
      exact ⟨(by decide : (0 : Int) ≤ 3 ∧ (3 : Int) ≤ 3), x2, x3, ⟨z0_bd, z0_bd⟩, Or.inl ⟨rfl, rfl⟩, Or.inl ⟨rfl, rfl⟩⟩
    · rw [x1]
      exact ⟨rfl, rfl, x4 (N18_sub h18 (by omega) (Nat.le_refl _)) w w' hw⟩
