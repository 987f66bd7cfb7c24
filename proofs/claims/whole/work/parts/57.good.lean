/-! 57.good: what every reader keeps to -/
def Bd (x : Int) : Prop := -2147483648 ≤ x ∧ x ≤ 2147483648
def Bd9 (x : Int) : Prop := -1000000000 ≤ x ∧ x ≤ 1000000000
theorem Bd_of9 {x : Int} (h : Bd9 x) : Bd x := by unfold Bd9 at h; unfold Bd; omega
def SBd (f : Sem) : Prop := ∀ w : Wd, (∀ i, Bd (w i)) → ∀ x, f w = some x → Bd x
theorem tc_hi {τ : Tks} {p : Nat} (h : τ.length ≤ p) : tc τ p = 0 := by
  unfold tc
  rw [List.getD_eq_getElem?_getD, List.getElem?_eq_none h]
  rfl
theorem tc_in {τ : Tks} {p : Nat} (h : tc τ p ≠ 0) : p < τ.length := by
  apply Classical.byContradiction
  intro hn
  exact h (tc_hi (by omega))
def Gd {α : Type} (τ : Tks) (P : α → Prop) (rd : Rdr α) : Prop := ∀ p lv c0 f q lv' cd, rd p lv c0 = .inr (f, q, lv', cd) → (p < q ∧ q ≤ τ.length) ∧ (lv < lv' ∧ (lv ≤ 50 → lv' ≤ 50)) ∧ P f
theorem brP_inv {α : Type} {τ : Tks} {c : Int} {inner : Option (Rdr α)} {p lv c0 : Nat} {f : α} {q lv' : Nat} {cd : List Int} (e : brP τ c inner p lv c0 = .inr (f, q, lv', cd)) : ∃ s q1, inner = some s ∧ s (p + 1) lv c0 = .inr (f, q1, lv', cd) ∧ tc τ q1 = c ∧ q = q1 + 1 := by
  unfold brP at e
  cases inner with
  | none => cases e
  | some s =>
    simp only at e
    cases hs : s (p + 1) lv c0 with
    | inl q => rw [hs] at e; cases e
    | inr t =>
      obtain ⟨f1, q1, lv1, cd1⟩ := t
      rw [hs] at e
      simp only at e
      split at e
      · rename_i hq
        cases e
        exact ⟨s, q1, rfl, hs, hq, rfl⟩
      · cases e
theorem Gd_br {α : Type} {τ : Tks} {P : α → Prop} {c : Int} {inner : Option (Rdr α)} (h : ∀ s, inner = some s → Gd τ P s) (hc : c ≠ 0) : Gd τ P (brP τ c inner) := by
  intro p lv c0 f q lv' cd e
  obtain ⟨s, q1, e1, e2, e3, e4⟩ := brP_inv e
  obtain ⟨a, b, c⟩ := h s e1 _ _ _ _ _ _ _ e2
  have := tc_in (τ := τ) (p := q1) (by omega)
  exact ⟨by omega, b, c⟩
theorem bnd_bd {x y : Int} (h : bnd y = some x) : x = y ∧ Bd y := by
  unfold bnd at h
  split at h
  · cases h
  · cases h
    unfold Bd
    omega
theorem bnd_bd9 {x y : Int} (h : bnd y = some x) : x = y ∧ Bd9 y := by
  unfold bnd at h
  split at h
  · cases h
  · cases h
    unfold Bd9
    omega
theorem joinS_bd {c a b x : Int} (h : joinS c a b = some x) : Bd x := by
  have q : ∀ y, bnd y = some x → Bd x := fun y hy => by obtain ⟨e, z⟩ := bnd_bd hy; rw [e]; exact z
  unfold joinS at h
  split at h
  · exact q _ h
  split at h
  · exact q _ h
  split at h
  · exact q _ h
  split at h
  · cases h
  split at h
  · exact q _ h
  · exact q _ h
theorem opS_bd (c : Int) (f g : Sem) : SBd (opS c f g) := by
  intro w hw x hx
  unfold opS at hx
  split at hx
  · cases hx
  · split at hx
    · cases hx
    · exact joinS_bd hx
/-- the leaves: numbers and words -/
theorem wordP_inv {τ : Tks} {o : Bool} {p lv : Nat} {f : Sem} {q lv' : Nat} {cd : List Int} (e : wordP τ o p lv = .inr (f, q, lv', cd)) : lv' = lv + 1 ∧ ∃ i : Int, f = (fun w => some (w i)) ∧ cd = [16 * i + 2] ∧ (0 ≤ i ∧ i < 29) ∧
    ((o = true ∧ tc τ p = 14 ∧ tc τ (p + 1) = 50 ∧ (0 ≤ tv τ (p + 1) ∧ tv τ (p + 1) ≤ 7) ∧ q = p + 2 ∧ i = 21 + tv τ (p + 1)) ∨ (o = true ∧ tc τ p = 20 ∧ tc τ (p + 1) = 50 ∧ (0 ≤ tv τ (p + 1) ∧ tv τ (p + 1) ≤ 15) ∧ q = p + 2 ∧ i = 5 + tv τ (p + 1)) ∨ (o = true ∧ (15 ≤ tc τ p ∧ tc τ p ≤ 19) ∧ q = p + 1 ∧ i = tc τ p - 15) ∨ (o = false ∧ (8 ≤ tc τ p ∧ tc τ p ≤ 15) ∧ q = p + 1 ∧ i = lwW (tc τ p) ∧ i < 8)) := by
  unfold wordP leafP at e
  cases o with
  | true =>
    simp only [if_true] at e
    split at e
    · rename_i h1
      split at e
      · rename_i h2
        cases e
        exact ⟨rfl, _, rfl, rfl, by omega, Or.inl ⟨rfl, h1, h2.1, h2.2, rfl, rfl⟩⟩
      · cases e
    · split at e
      · rename_i h1
        split at e
        · rename_i h2
          cases e
          exact ⟨rfl, _, rfl, rfl, by omega, Or.inr (Or.inl ⟨rfl, h1, h2.1, h2.2, rfl, rfl⟩)⟩
        · cases e
      · split at e
        · rename_i h1
          cases e
          exact ⟨rfl, _, rfl, rfl, by omega, Or.inr (Or.inr (Or.inl ⟨rfl, h1, rfl, rfl⟩))⟩
        · cases e
  | false =>
    simp only [Bool.false_eq_true, if_false] at e
    split at e
    · rename_i h1
      cases e
      have hb : 0 ≤ lwW (tc τ p) ∧ lwW (tc τ p) < 8 := by
        unfold lwW
        repeat' split
        all_goals omega
      exact ⟨rfl, _, rfl, rfl, by omega, Or.inr (Or.inr (Or.inr ⟨rfl, h1, rfl, rfl, hb.2⟩))⟩
    · cases e
theorem partP_inv {τ : Tks} {o : Bool} {inner : Option (Rdr Sem)} {p lv c0 : Nat} {f : Sem} {q lv' : Nat} {cd : List Int} (e : partP τ o inner p lv c0 = .inr (f, q, lv', cd)) :
    (tc τ p = 191 ∧ ∃ s q1, inner = some s ∧ s (p + 1) lv c0 = .inr (f, q1, lv', cd) ∧ tc τ q1 = 193 ∧ q = q1 + 1) ∨ (tc τ p ≠ 191 ∧ lv < 50 ∧ ((tc τ p = 50 ∧ (0 ≤ tv τ p ∧ tv τ p ≤ 1000) ∧ f = (fun _ => some (tv τ p)) ∧ q = p + 1 ∧ lv' = lv + 1 ∧ cd = [16 * tv τ p + 1]) ∨ (¬ (tc τ p = 50 ∧ 0 ≤ tv τ p ∧ tv τ p ≤ 1000) ∧ wordP τ o p lv = .inr (f, q, lv', cd)))) := by
  unfold partP at e
  split at e
  · rename_i h
    exact Or.inl ⟨h, brP_inv e⟩
  · rename_i h
    split at e
    · cases e
    · rename_i h2
      refine Or.inr ⟨h, by omega, ?_⟩
      split at e
      · rename_i h3
        unfold leafP at e
        cases e
        exact Or.inl ⟨h3.1, h3.2, rfl, rfl, rfl, rfl⟩
      · rename_i h3
        exact Or.inr ⟨h3, e⟩
theorem Gd_part {τ : Tks} {o : Bool} {inner : Option (Rdr Sem)} (h : ∀ s, inner = some s → Gd τ SBd s) : Gd τ SBd (partP τ o inner) := by
  intro p lv c0 f q lv' cd e
  rcases partP_inv e with ⟨_, s, q1, e1, e2, e3, e4⟩ | ⟨_, h2, ⟨e1, e2, e3, e4, e5, _⟩ | ⟨_, e1⟩⟩
  · obtain ⟨a, b, c⟩ := h s e1 _ _ _ _ _ _ _ e2
    have := tc_in (τ := τ) (p := q1) (by omega)
    exact ⟨by omega, b, c⟩
  · have := tc_in (τ := τ) (p := p) (by omega)
    refine ⟨by omega, by omega, fun w hw x hx => ?_⟩
    rw [e3] at hx
    cases hx
    unfold Bd
    omega
  · obtain ⟨a, i, b1, b2, b3, b4⟩ := wordP_inv e1
    refine ⟨?_, by omega, fun w hw x hx => ?_⟩
    · rcases b4 with ⟨_, c1, c2, _, c3, _⟩ | ⟨_, c1, c2, _, c3, _⟩ | ⟨_, c1, c3, _⟩ | ⟨_, c1, c3, _⟩
      · have := tc_in (τ := τ) (p := p + 1) (by omega); omega
      · have := tc_in (τ := τ) (p := p + 1) (by omega); omega
      · have := tc_in (τ := τ) (p := p) (by omega); omega
      · have := tc_in (τ := τ) (p := p) (by omega); omega
    · rw [b1] at hx
      cases hx
      exact hw i
theorem rowP_inv {τ : Tks} {is : Int → Bool} {pt : Rdr Sem} {n : Nat} {f : Sem} {p lv c0 : Nat} {cd : List Int} {g : Sem} {q lv' : Nat} {cd' : List Int} (e : rowP τ is pt (n + 1) f p lv c0 cd = .inr (g, q, lv', cd')) :
    (is (tc τ p) = false ∧ g = f ∧ q = p ∧ lv' = lv ∧ cd' = cd) ∨ (is (tc τ p) = true ∧ ∃ g1 q1 lv1 cd1, pt (p + 1) lv (c0 + cd.length) = .inr (g1, q1, lv1, cd1) ∧ rowP τ is pt n (opS (tc τ p) f g1) q1 lv1 c0 (cd ++ (cd1 ++ [opC (tc τ p)])) = .inr (g, q, lv', cd')) := by
  unfold rowP at e
  split at e
  · rename_i h
    cases hs : pt (p + 1) lv (c0 + cd.length) with
    | inl q => rw [hs] at e; cases e
    | inr t =>
      obtain ⟨f1, q1, lv1, cd1⟩ := t
      rw [hs] at e
      exact Or.inr ⟨h, f1, q1, lv1, cd1, rfl, e⟩
  · rename_i h
    cases e
    exact Or.inl ⟨by simpa using h, rfl, rfl, rfl, rfl⟩
theorem Gd_row {τ : Tks} {is : Int → Bool} {pt : Rdr Sem} (h : Gd τ SBd pt) : ∀ (n : Nat) (f : Sem) (p lv c0 : Nat) (cd : List Int) (g : Sem) (q lv' : Nat) (cd' : List Int), rowP τ is pt n f p lv c0 cd = .inr (g, q, lv', cd') → SBd f → (p ≤ q ∧ (p ≤ τ.length → q ≤ τ.length)) ∧ (lv ≤ lv' ∧ (lv ≤ 50 → lv' ≤ 50)) ∧ SBd g
  | 0, f, p, lv, c0, cd, g, q, lv', cd', e, hf => by
    unfold rowP at e
    cases e
    exact ⟨by omega, by omega, hf⟩
  | n + 1, f, p, lv, c0, cd, g, q, lv', cd', e, hf => by
    rcases rowP_inv e with ⟨_, e1, e2, e3, _⟩ | ⟨_, g1, q1, lv1, cd1, e1, e2⟩
    · rw [e1, e2, e3]; exact ⟨by omega, by omega, hf⟩
    · obtain ⟨a1, a2, a3⟩ := h _ _ _ _ _ _ _ e1
      obtain ⟨b1, b2, b3⟩ := Gd_row h n _ _ _ _ _ _ _ _ _ e2 (opS_bd _ _ _)
      exact ⟨by omega, by omega, b3⟩
theorem seqP_inv {τ : Tks} {is : Int → Bool} {pt : Rdr Sem} {p lv c0 : Nat} {g : Sem} {q lv' : Nat} {cd' : List Int} (e : seqP τ is pt p lv c0 = .inr (g, q, lv', cd')) : ∃ f q1 lv1 cd, pt p lv c0 = .inr (f, q1, lv1, cd) ∧ rowP τ is pt 400 f q1 lv1 c0 cd = .inr (g, q, lv', cd') := by
  unfold seqP at e
  cases hs : pt p lv c0 with
  | inl q => rw [hs] at e; cases e
  | inr t =>
    obtain ⟨f1, q1, lv1, cd1⟩ := t
    rw [hs] at e
    exact ⟨f1, q1, lv1, cd1, rfl, e⟩
theorem Gd_seq {τ : Tks} {is : Int → Bool} {pt : Rdr Sem} (h : Gd τ SBd pt) : Gd τ SBd (seqP τ is pt) := by
  intro p lv c0 f q lv' cd e
  obtain ⟨f1, q1, lv1, cd1, e1, e2⟩ := seqP_inv e
  obtain ⟨a1, a2, a3⟩ := h _ _ _ _ _ _ _ e1
  obtain ⟨b1, b2, b3⟩ := Gd_row h _ _ _ _ _ _ _ _ _ _ e2 a3
  exact ⟨by omega, by omega, b3⟩
theorem Gd_sum {τ : Tks} {pt : Rdr Sem} (h : Gd τ SBd pt) : Gd τ SBd (sumP τ pt) := Gd_seq (Gd_seq h)
theorem Gd_pt (τ : Tks) (o : Bool) : ∀ g, Gd τ SBd (ptP τ o g)
  | 0 => Gd_part (fun s e => by cases e)
  | g + 1 => Gd_part (fun s e => by cases e; exact Gd_sum (Gd_pt τ o g))
/-! tests -/
def Tr (_ : TSem) : Prop := True
theorem cmprP_inv {τ : Tks} {su : Rdr Sem} {p lv c0 : Nat} {g : TSem} {q lv' : Nat} {cd' : List Int} (e : cmprP τ su p lv c0 = .inr (g, q, lv', cd')) : ∃ f1 q1 lv1 cd1 f2 cd2, su p lv c0 = .inr (f1, q1, lv1, cd1) ∧ isCmp (tc τ q1) = true ∧ su (q1 + 1) lv1 (c0 + cd1.length) = .inr (f2, q, lv', cd2) ∧ g = cmpS (tc τ q1) f1 f2 ∧ cd' = cd1 ++ (cd2 ++ [cmpC (tc τ q1)]) := by
  unfold cmprP at e
  cases hs : su p lv c0 with
  | inl q => rw [hs] at e; cases e
  | inr t =>
    obtain ⟨f1, q1, lv1, cd1⟩ := t
    rw [hs] at e
    simp only at e
    split at e
    · rename_i h
      cases hs2 : su (q1 + 1) lv1 (c0 + cd1.length) with
      | inl q => rw [hs2] at e; cases e
      | inr t =>
        obtain ⟨f2, q2, lv2, cd2⟩ := t
        rw [hs2] at e
        simp only at e
        cases e
        exact ⟨f1, q1, lv1, cd1, f2, cd2, rfl, h, hs2, rfl, rfl⟩
    · cases e
theorem isCmp_iff {c : Int} : isCmp c = true ↔ c = 160 ∨ c = 162 ∨ c = 161 := by unfold isCmp; simp [or_assoc]
theorem isMul_iff {c : Int} : isMul c = true ↔ c = 142 ∨ c = 147 ∨ c = 137 := by unfold isMul; simp [or_assoc]
theorem isAdd_iff {c : Int} : isAdd c = true ↔ c = 143 ∨ c = 145 := by unfold isAdd; simp
theorem Gd_pos {τ : Tks} {su : Rdr Sem} {inner : Option (Rdr TSem)} (hs : Gd τ SBd su) (h : ∀ s, inner = some s → Gd τ Tr s) : Gd τ Tr (posP τ su inner) := by
  intro p lv c0 f q lv' cd e
  unfold posP at e
  split at e
  · exact Gd_br h (by decide) _ _ _ _ _ _ _ e
  · obtain ⟨f1, q1, lv1, cd1, f2, cd2, e1, e2, e3, _, _⟩ := cmprP_inv e
    obtain ⟨a1, a2, _⟩ := hs _ _ _ _ _ _ _ e1
    obtain ⟨b1, b2, _⟩ := hs _ _ _ _ _ _ _ e3
    exact ⟨by omega, by omega, trivial⟩
theorem notP_le (τ : Tks) : ∀ (n p : Nat) (b : Bool), p ≤ (notP τ n p b).2
  | 0, p, b => by unfold notP; exact Nat.le_refl _
  | n + 1, p, b => by
    unfold notP
    split
    · exact Nat.le_trans (Nat.le_succ p) (notP_le τ n (p + 1) (!b))
    · exact Nat.le_refl _
theorem plainP_inv {τ : Tks} {su : Rdr Sem} {inner : Option (Rdr TSem)} {p lv c0 : Nat} {g : TSem} {q lv' : Nat} {cd' : List Int} (e : plainP τ su inner p lv c0 = .inr (g, q, lv', cd')) : ∃ f cd, posP τ su inner (notP τ 400 p false).2 lv c0 = .inr (f, q, lv', cd) ∧ g = notS (notP τ 400 p false).1 f ∧ cd' = if (notP τ 400 p false).1 then cd ++ [11] else cd := by
  unfold plainP at e
  cases hs : posP τ su inner (notP τ 400 p false).2 lv c0 with
  | inl q => rw [hs] at e; cases e
  | inr t =>
    obtain ⟨f1, q1, lv1, cd1⟩ := t
    rw [hs] at e
    simp only at e
    cases e
    exact ⟨f1, cd1, rfl, rfl, rfl⟩
theorem Gd_plain {τ : Tks} {su : Rdr Sem} {inner : Option (Rdr TSem)} (hs : Gd τ SBd su) (h : ∀ s, inner = some s → Gd τ Tr s) : Gd τ Tr (plainP τ su inner) := by
  intro p lv c0 f q lv' cd e
  obtain ⟨f1, cd1, e1, _, _⟩ := plainP_inv e
  obtain ⟨a1, a2, _⟩ := Gd_pos hs h _ _ _ _ _ _ _ e1
  have := notP_le τ 400 p false
  exact ⟨by omega, a2, trivial⟩
theorem lazP_inv {τ : Tks} {c op : Int} {stop : Bool} {pt : Rdr TSem} {n : Nat} {f : TSem} {p lv c0 : Nat} {cd : List Int} {g : TSem} {q lv' : Nat} {cd' : List Int} (e : lazP τ c op stop pt (n + 1) f p lv c0 cd = .inr (g, q, lv', cd')) :
    (tc τ p ≠ c ∧ g = f ∧ q = p ∧ lv' = lv ∧ cd' = cd) ∨ (tc τ p = c ∧ ∃ g1 q1 lv1 cd1, pt (p + 1) lv (c0 + (cd.length + 1)) = .inr (g1, q1, lv1, cd1) ∧ lazP τ c op stop pt n (lazS stop f g1) q1 lv1 c0 (cd ++ ((16 * ((c0 + (cd.length + 1) + cd1.length : Nat) : Int) + op) :: cd1)) = .inr (g, q, lv', cd')) := by
  unfold lazP at e
  split at e
  · rename_i h
    cases hs : pt (p + 1) lv (c0 + (cd.length + 1)) with
    | inl q => rw [hs] at e; cases e
    | inr t =>
      obtain ⟨f1, q1, lv1, cd1⟩ := t
      rw [hs] at e
      exact Or.inr ⟨h, f1, q1, lv1, cd1, rfl, e⟩
  · rename_i h
    cases e
    exact Or.inl ⟨h, rfl, rfl, rfl, rfl⟩
theorem Gd_laz {τ : Tks} {c op : Int} {stop : Bool} {pt : Rdr TSem} (h : Gd τ Tr pt) : ∀ (n : Nat) (f : TSem) (p lv c0 : Nat) (cd : List Int) (g : TSem) (q lv' : Nat) (cd' : List Int), lazP τ c op stop pt n f p lv c0 cd = .inr (g, q, lv', cd') → (p ≤ q ∧ (p ≤ τ.length → q ≤ τ.length)) ∧ (lv ≤ lv' ∧ (lv ≤ 50 → lv' ≤ 50))
  | 0, f, p, lv, c0, cd, g, q, lv', cd', e => by
    unfold lazP at e
    cases e
    exact ⟨by omega, by omega⟩
  | n + 1, f, p, lv, c0, cd, g, q, lv', cd', e => by
    rcases lazP_inv e with ⟨_, e1, e2, e3, _⟩ | ⟨_, g1, q1, lv1, cd1, e1, e2⟩
    · rw [e2, e3]; exact ⟨by omega, by omega⟩
    · obtain ⟨a1, a2, a3⟩ := h _ _ _ _ _ _ _ e1
      obtain ⟨b1, b2⟩ := Gd_laz h n _ _ _ _ _ _ _ _ _ e2
      exact ⟨by omega, by omega⟩
theorem lazyP_inv {τ : Tks} {c op : Int} {stop : Bool} {pt : Rdr TSem} {p lv c0 : Nat} {g : TSem} {q lv' : Nat} {cd' : List Int} (e : lazyP τ c op stop pt p lv c0 = .inr (g, q, lv', cd')) : ∃ f q1 lv1 cd, pt p lv c0 = .inr (f, q1, lv1, cd) ∧ lazP τ c op stop pt 400 f q1 lv1 c0 cd = .inr (g, q, lv', cd') := by
  unfold lazyP at e
  cases hs : pt p lv c0 with
  | inl q => rw [hs] at e; cases e
  | inr t =>
    obtain ⟨f1, q1, lv1, cd1⟩ := t
    rw [hs] at e
    exact ⟨f1, q1, lv1, cd1, rfl, e⟩
theorem Gd_lazy {τ : Tks} {c op : Int} {stop : Bool} {pt : Rdr TSem} (h : Gd τ Tr pt) : Gd τ Tr (lazyP τ c op stop pt) := by
  intro p lv c0 f q lv' cd e
  obtain ⟨f1, q1, lv1, cd1, e1, e2⟩ := lazyP_inv e
  obtain ⟨a1, a2, a3⟩ := h _ _ _ _ _ _ _ e1
  obtain ⟨b1, b2⟩ := Gd_laz h _ _ _ _ _ _ _ _ _ _ e2
  exact ⟨by omega, by omega, trivial⟩
theorem Gd_test {τ : Tks} {pl : Rdr TSem} (h : Gd τ Tr pl) : Gd τ Tr (testP τ pl) := Gd_lazy (Gd_lazy h)
theorem Gd_pl (τ : Tks) (o : Bool) : ∀ g, Gd τ Tr (plP τ o g)
  | 0 => Gd_plain (Gd_sum (Gd_pt τ o 0)) (fun s e => by cases e)
  | g + 1 => Gd_plain (Gd_sum (Gd_pt τ o (g + 1))) (fun s e => by cases e; exact Gd_test (Gd_pl τ o g))
theorem Gd_sum8 (τ : Tks) (o : Bool) : Gd τ SBd (sum8 τ o) := Gd_sum (Gd_pt τ o 8)
theorem Gd_test8 (τ : Tks) (o : Bool) : Gd τ Tr (test8 τ o) := Gd_test (Gd_pl τ o 8)
