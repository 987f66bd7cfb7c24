/-! 81b.lnord: the code of an order is no longer than what was read -/
theorem ln_tail {τ : Tks} {v i j : Int} {f g : Sem} {p lv c0 : Nat} {cl : Cla} {q lv' : Nat} {cd : List Int} (e : tailP τ v i j f g p lv c0 = .inr (cl, q, lv', cd)) : p + cd.length ≤ q := by
  obtain ⟨n, p1, _, h, e1⟩ := tailP_inv e
  have := ln_cond _ _ _ _ _ _ _ e1
  rcases h with ⟨_, _, _, z⟩ | ⟨_, _, z⟩ <;> omega
theorem ln_two {τ : Tks} {v c : Int} {p lv c0 : Nat} {cl : Cla} {q lv' : Nat} {cd : List Int} (e : twoP τ v c p lv c0 = .inr (cl, q, lv', cd)) : p + cd.length ≤ q + 1 := by
  obtain ⟨f, q1, lv1, cd1, g, q2, lv2, cd2, cd3, e1, z, e2, e3, e4⟩ := twoP_inv e
  have a := ln_sum8 τ true _ _ _ _ _ _ _ e1
  have b := ln_sum8 τ true _ _ _ _ _ _ _ e2
  have c := ln_tail e3
  rw [e4]
  simp only [List.length_append, List.length_cons, List.length_nil]
  omega
theorem ln_order (τ : Tks) : Ln (orderP τ) := by
  intro p lv c0 cl q lv' cd e
  rcases orderP_inv e with ⟨z, e1⟩ | ⟨z, e1⟩ | ⟨z, f, q1, lv1, cd1, cd3, e1, e2, e3⟩ | ⟨z, e1⟩
  · have := ln_two e1; omega
  · have := ln_two e1; omega
  · have a := ln_sum8 τ true _ _ _ _ _ _ _ e1
    have c := ln_tail e2
    rw [e3]
    simp only [List.length_append, List.length_singleton]
    omega
  · have := ln_tail e1; omega
