/-! 68.cla: where a clause's code lies -/
def Pc (cd : List Int) (c0 k : Nat) (pc : List Int) : Prop := ∃ a b, cd = a ++ (pc ++ b) ∧ k = c0 + a.length
theorem Pc_l {cd pre : List Int} {c0 k : Nat} {pc : List Int} (h : Pc cd (c0 + pre.length) k pc) : Pc (pre ++ cd) c0 k pc := by
  obtain ⟨a, b, e1, e2⟩ := h
  exact ⟨pre ++ a, b, by rw [e1, List.append_assoc], by rw [e2, List.length_append]; omega⟩
theorem Pc_r {cd post : List Int} {c0 k : Nat} {pc : List Int} (h : Pc cd c0 k pc) : Pc (cd ++ post) c0 k pc := by
  obtain ⟨a, b, e1, e2⟩ := h
  exact ⟨a, b ++ post, by rw [e1]; simp, e2⟩
theorem Pc_rf (pc : List Int) (c0 : Nat) : Pc pc c0 c0 pc := ⟨[], [], by simp, by simp⟩
def SgS (o : Bool) (k : Nat) (pc : List Int) (f : Sem) : Prop := ∀ (l0 A W : Int) (S : MS) (w : Wd), Fix S → RkF l0 A W S w → Seg l0 A W S w o 0 k pc f
def TstOk (o : Bool) (cd : List Int) (c0 : Nat) (i : Int) (t : TSem) : Prop := (i = -1 ∧ t = fun _ => some true) ∨ ∃ (k : Nat) (pc : List Int), i = (k : Int) ∧ Pc cd c0 k (pc ++ [0]) ∧ SgS o k pc (b2i t)
def ClaOk (cd : List Int) (c0 : Nat) (c : Cla) : Prop := (c.1.1 = 4 ∨ c.1.1 = 5 ∨ c.1.1 = 6) ∧ TstOk false cd c0 c.2.1.2.2 c.2.2.2.2 ∧ (c.1.1 = 4 → ∃ (k : Nat) (pc : List Int), c.2.1.1 = (k : Int) ∧ Pc cd c0 k (pc ++ [0]) ∧ SgS false k pc c.2.2.1)
theorem TstOk_l {o : Bool} {cd pre : List Int} {c0 : Nat} {i : Int} {t : TSem} (h : TstOk o cd (c0 + pre.length) i t) : TstOk o (pre ++ cd) c0 i t := by
  rcases h with h | ⟨k, pc, a, b, c⟩
  · exact Or.inl h
  · exact Or.inr ⟨k, pc, a, Pc_l b, c⟩
theorem TstOk_r {o : Bool} {cd post : List Int} {c0 : Nat} {i : Int} {t : TSem} (h : TstOk o cd c0 i t) : TstOk o (cd ++ post) c0 i t := by
  rcases h with h | ⟨k, pc, a, b, c⟩
  · exact Or.inl h
  · exact Or.inr ⟨k, pc, a, Pc_r b, c⟩
theorem ClaOk_l {cd pre : List Int} {c0 : Nat} {c : Cla} (h : ClaOk cd (c0 + pre.length) c) : ClaOk (pre ++ cd) c0 c := by
  obtain ⟨a, b, g⟩ := h
  refine ⟨a, TstOk_l b, fun z => ?_⟩
  obtain ⟨k, pc, x, y, u⟩ := g z
  exact ⟨k, pc, x, Pc_l y, u⟩
theorem ClaOk_r {cd post : List Int} {c0 : Nat} {c : Cla} (h : ClaOk cd c0 c) : ClaOk (cd ++ post) c0 c := by
  obtain ⟨a, b, g⟩ := h
  refine ⟨a, TstOk_r b, fun z => ?_⟩
  obtain ⟨k, pc, x, y, u⟩ := g z
  exact ⟨k, pc, x, Pc_r y, u⟩
theorem cond_ok {τ : Tks} {o : Bool} {k : Int → TSem → Cla} {p lv c0 : Nat} {cl : Cla} {q lv' : Nat} {cd : List Int} (e : condP τ o k p lv c0 = .inr (cl, q, lv', cd)) (hl : lv ≤ 50) : ∃ i t, cl = k i t ∧ TstOk o cd c0 i t ∧ lv' ≤ 50 := by
  rcases condP_inv e with ⟨_, t, cd1, e1, e2, e3⟩ | ⟨_, e1, _, e3, _⟩
  · obtain ⟨a1, a2, _⟩ := Gd_test8 τ o _ _ _ _ _ _ _ e1
    refine ⟨_, t, e2, Or.inr ⟨c0, cd1, rfl, by rw [e3]; exact Pc_rf _ _, fun l0 A W S w F H => rk_test8 τ o l0 A W S w F H _ _ _ _ _ _ _ e1 0 (by omega)⟩, a2.2 hl⟩
  · exact ⟨_, _, e1, Or.inl ⟨rfl, rfl⟩, by omega⟩
theorem rule_ok {τ : Tks} {p lv c0 : Nat} {cl : Cla} {q lv' : Nat} {cd : List Int} (e : ruleP τ p lv c0 = .inr (cl, q, lv', cd)) (hl : lv ≤ 50) : ClaOk cd c0 cl ∧ lv' ≤ 50 := by
  rcases ruleP_inv e with ⟨_, f, q1, lv1, cd1, cd2, e1, e2, e3⟩ | ⟨h, e1⟩
  · obtain ⟨a1, a2, a3⟩ := Gd_sum8 τ false _ _ _ _ _ _ _ e1
    obtain ⟨i, t, b1, b2, b3⟩ := cond_ok e2 (a2.2 hl)
    have e3' : cd = (cd1 ++ [0]) ++ cd2 := by rw [e3]; simp
    refine ⟨?_, b3⟩
    rw [b1, e3']
    refine ⟨Or.inl rfl, TstOk_l (by rw [List.length_append, List.length_singleton]; exact b2), fun _ => ⟨c0, cd1, rfl, Pc_r (Pc_rf _ _), fun l0 A W S w F H => rk_sum8 τ false l0 A W S w F H _ _ _ _ _ _ _ e1 0 (by omega)⟩⟩
  · obtain ⟨i, t, b1, b2, b3⟩ := cond_ok e1 hl
    refine ⟨?_, b3⟩
    rw [b1]
    exact ⟨by rcases h with h | h <;> rw [h] <;> simp, b2, fun z => by rcases h with h | h <;> rw [h] at z <;> simp at z⟩
theorem text_ok {τ : Tks} : ∀ (n p lv c0 : Nat) (cls : List Cla) (cd : List Int), textP τ (ruleP τ) n p lv c0 = .inr (cls, cd) → lv ≤ 50 → ∀ c, c ∈ cls → ClaOk cd c0 c
  | 0, p, lv, c0, cls, cd, e, _ => by unfold textP at e; cases e
  | n + 1, p, lv, c0, cls, cd, e, hl => by
    obtain ⟨cl, q, lv1, cd1, e1, e2⟩ := textP_inv e
    obtain ⟨a1, a2⟩ := rule_ok e1 hl
    intro c hc
    rcases e2 with ⟨_, b2, b3⟩ | ⟨_, _, cls2, cd2, b3, b4, b5⟩
    · rw [b2] at hc
      rw [b3, List.mem_singleton.mp hc]
      exact a1
    · rw [b4] at hc
      rw [b5]
      rcases List.mem_cons.mp hc with h | h
      · rw [h]; exact ClaOk_r a1
      · exact ClaOk_l (text_ok n _ _ _ _ _ b3 a2 c h)
