/-! 67.rk: a whole reckoning; how long code is -/
theorem s_reckon {d : Nat} {l0 A W : Int} {S : MS} {w : Wd} {o : Bool} {c0 : Nat} {cd : List Int} {f : Sem} {C : MC} {Q : Qt} (F : Fix S) (H : RkF l0 A W S w) (sg : Seg l0 A W S w o 0 c0 cd f) (hR : RkC l0 A W S w o C) (hc : cAt C A c0 (cd ++ [0])) (hN : ((c0 + cd.length : Nat) : Int) < S.2.2.1 A) (h1 : ∀ x C', f w = some x → Sk l0 0 C C' → Q x S C') (h2 : ∀ C', f w = none → Sk l0 0 C C' → Q NANi S C') : K_X5_reckon_0 (d + 1) 0 0 l0 A (c0 : Int) W S C Q := by
  have H' := H
  obtain ⟨k1, k2, k3, k4, k5, k6, k7⟩ := H
  have g1 : ∀ st2 : Nat, st2 ≤ c0 + cd.length → ¬ S.2.2.1 A ≤ (st2 : Int) := fun st2 h => by omega
  have g2 : ¬ ((c0 + cd.length : Nat) : Int) < 0 := by omega
  have g3 : (0 : Int) ≤ ((c0 + cd.length : Nat) : Int) ∧ ((c0 + cd.length : Nat) : Int) < S.2.2.1 A := ⟨by omega, hN⟩
  refine b_X5_reckon_0 F k1 k2 k3 ?_
  refine sg d C Q 0 hR (cAt_l hc) (by omega) (by omega) (fun x C1 st1 e1 q1 v1 s1 => ?_) (fun e C1 q1 => h2 C1 e q1)
  have ec := (cAt_c (cAt_sk (cAt_r hc) k4 q1)).1
  have x1 : iAnd 0 15 = 0 := by decide +kernel
  refine b_X5_reckon_9 F k1 k2 k3 ⟨fun z => (g1 st1 s1 z).elim, fun _ => ⟨fun z => (g2 z).elim, fun _ => ⟨fun _ => ⟨g3, g3, ?_⟩, fun z => (z g3.2).elim⟩⟩⟩
  rw [ec, x1]
  refine ⟨fun z => (z rfl).elim, fun _ => ⟨fun z => (z rfl).elim, fun _ => ?_⟩⟩
  have := h1 x C1 e1 q1
  rw [← v1] at this
  exact this
/-- code is no longer than what was read -/
def Ln {α : Type} (rd : Rdr α) : Prop := ∀ p lv c0 f q lv' cd, rd p lv c0 = .inr (f, q, lv', cd) → p + cd.length ≤ q
theorem ln_part {τ : Tks} {o : Bool} {inner : Option (Rdr Sem)} (hi : ∀ s, inner = some s → Ln s) : Ln (partP τ o inner) := by
  intro p n c0 f q n' cd e
  rcases partP_inv e with ⟨_, sd, q1, e1, e2, _, e4⟩ | ⟨_, h50, ⟨_, e2, e3, e4, e5, e6⟩ | ⟨_, e1⟩⟩
  · have := hi sd e1 _ _ _ _ _ _ _ e2; omega
  · rw [e6, e4]; simp
  · obtain ⟨a1, i, b1, b2, b3, b4⟩ := wordP_inv e1
    rw [b2]
    rcases b4 with ⟨_, _, _, _, c3, _⟩ | ⟨_, _, _, _, c3, _⟩ | ⟨_, _, c3, _⟩ | ⟨_, _, c3, _⟩ <;> rw [c3] <;> simp
theorem ln_row {τ : Tks} {is : Int → Bool} {pt : Rdr Sem} (h : Ln pt) {c0 p0 : Nat} : ∀ (n : Nat) (f : Sem) (p lv : Nat) (cd : List Int) (g : Sem) (q lv' : Nat) (cd' : List Int), rowP τ is pt n f p lv c0 cd = .inr (g, q, lv', cd') → p0 + cd.length ≤ p → p0 + cd'.length ≤ q
  | 0, f, p, lv, cd, g, q, lv', cd', e, hl => by
    unfold rowP at e
    cases e
    exact hl
  | n + 1, f, p, lv, cd, g, q, lv', cd', e, hl => by
    rcases rowP_inv e with ⟨_, _, e2, _, e4⟩ | ⟨z, g1, q1, lv1, cd1, e1, e2⟩
    · rw [e2, e4]; exact hl
    · have a := h _ _ _ _ _ _ _ e1
      refine ln_row h n _ _ _ _ _ _ _ _ e2 ?_
      simp only [List.length_append, List.length_singleton]
      omega
theorem ln_seq {τ : Tks} {is : Int → Bool} {pt : Rdr Sem} (h : Ln pt) : Ln (seqP τ is pt) := by
  intro p n c0 f q n' cd e
  obtain ⟨f1, q1, lv1, cd1, e1, e2⟩ := seqP_inv e
  exact ln_row h 400 _ _ _ _ _ _ _ _ e2 (h _ _ _ _ _ _ _ e1)
theorem ln_sum {τ : Tks} {pt : Rdr Sem} (h : Ln pt) : Ln (sumP τ pt) := ln_seq (ln_seq h)
theorem ln_pt (τ : Tks) (o : Bool) : ∀ g, Ln (ptP τ o g)
  | 0 => ln_part (fun s e => by cases e)
  | g + 1 => ln_part (fun s e => by cases e; exact ln_sum (ln_pt τ o g))
theorem ln_pos {τ : Tks} {su : Rdr Sem} {inner : Option (Rdr TSem)} (h : Ln su) (hi : ∀ s, inner = some s → Ln s) : Ln (posP τ su inner) := by
  intro p n c0 f q n' cd e
  unfold posP at e
  split at e
  · obtain ⟨sd, q1, e1, e2, _, e4⟩ := brP_inv e
    have := hi sd e1 _ _ _ _ _ _ _ e2; omega
  · obtain ⟨f1, q1, l1, cd1, f2, cd2, e1, e2, e3, e4, e5⟩ := cmprP_inv e
    have a := h _ _ _ _ _ _ _ e1
    have b := h _ _ _ _ _ _ _ e3
    rw [e5]
    simp only [List.length_append, List.length_singleton]
    omega
theorem notP_odd (τ : Tks) : ∀ (n p : Nat) (b : Bool), (notP τ n p b).1 = !b → p < (notP τ n p b).2
  | 0, p, b, h => by unfold notP at h; cases b <;> cases h
  | n + 1, p, b, h => by
    unfold notP at h ⊢
    split at h
    · rename_i hz
      rw [if_pos hz]
      have := notP_le τ n (p + 1) (!b)
      omega
    · cases b <;> cases h
theorem ln_plain {τ : Tks} {su : Rdr Sem} {inner : Option (Rdr TSem)} (h : Ln su) (hi : ∀ s, inner = some s → Ln s) : Ln (plainP τ su inner) := by
  intro p n c0 f q n' cd e
  obtain ⟨f1, cd1, e1, e2, e3⟩ := plainP_inv e
  have a := ln_pos h hi _ _ _ _ _ _ _ e1
  have b := notP_le τ 400 p false
  rw [e3]
  cases hb : (notP τ 400 p false).1 with
  | true =>
    have c := notP_odd τ 400 p false (by rw [hb]; rfl)
    simp only [if_true, List.length_append, List.length_singleton]
    omega
  | false => simp only [Bool.false_eq_true, if_false]; omega
theorem ln_laz {τ : Tks} {c op : Int} {stop : Bool} {pt : Rdr TSem} (h : Ln pt) {c0 p0 : Nat} : ∀ (n : Nat) (f : TSem) (p lv : Nat) (cd : List Int) (g : TSem) (q lv' : Nat) (cd' : List Int), lazP τ c op stop pt n f p lv c0 cd = .inr (g, q, lv', cd') → p0 + cd.length ≤ p → p0 + cd'.length ≤ q
  | 0, f, p, lv, cd, g, q, lv', cd', e, hl => by
    unfold lazP at e
    cases e
    exact hl
  | n + 1, f, p, lv, cd, g, q, lv', cd', e, hl => by
    rcases lazP_inv e with ⟨_, _, e2, _, e4⟩ | ⟨z, g1, q1, lv1, cd1, e1, e2⟩
    · rw [e2, e4]; exact hl
    · have a := h _ _ _ _ _ _ _ e1
      refine ln_laz h n _ _ _ _ _ _ _ _ e2 ?_
      simp only [List.length_append, List.length_cons]
      omega
theorem ln_lazy {τ : Tks} {c op : Int} {stop : Bool} {pt : Rdr TSem} (h : Ln pt) : Ln (lazyP τ c op stop pt) := by
  intro p n c0 f q n' cd e
  obtain ⟨f1, q1, lv1, cd1, e1, e2⟩ := lazyP_inv e
  exact ln_laz h 400 _ _ _ _ _ _ _ _ e2 (h _ _ _ _ _ _ _ e1)
theorem ln_pl (τ : Tks) (o : Bool) : ∀ g, Ln (plP τ o g)
  | 0 => ln_plain (ln_sum (ln_pt τ o 0)) (fun s e => by cases e)
  | g + 1 => ln_plain (ln_sum (ln_pt τ o (g + 1))) (fun s e => by cases e; exact ln_lazy (ln_lazy (ln_pl τ o g)))
theorem ln_sum8 (τ : Tks) (o : Bool) : Ln (sum8 τ o) := ln_sum (ln_pt τ o 8)
theorem ln_test8 (τ : Tks) (o : Bool) : Ln (test8 τ o) := ln_lazy (ln_lazy (ln_pl τ o 8))
