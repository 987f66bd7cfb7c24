/-! 82.read: both read a tape -/
def rdx (a k : Int) : Prop := (a = 29 ∧ 7 ≤ k ∧ k ≤ 11) ∨ (30 ≤ a ∧ a ≤ 36)
theorem clx_rd {j : Nat} {C C' : MC} (f : Fp (clx j) C C') : Fp rdx C C' := Fp_mono f (fun a k q => by unfold clx crx at q; unfold rdx; omega)
theorem crx_rd {C C' : MC} (f : Fp crx C C') : Fp rdx C C' := clx_rd (j := 0) (crx_cl f)
theorem TkC_rd {τ : Tks} {o : Bool} {C C' : MC} (h : TkC τ o C) (f : Fp rdx C C') : TkC τ o C' := by
  unfold TkC TkJ
  rw [f 29 5 (by unfold rdx; decide), f 29 6 (by unfold rdx; decide), fp_row (a := 37) f (fun k => by unfold rdx; omega), fp_row (a := 39) f (fun k => by unfold rdx; omega)]
  exact h
theorem TxtIs_of {C : MC} {l : List Cla} {cd : List Int} (h0 : C 30 0 = l.length) (h1 : C 30 1 = cd.length) (h2 : ∀ i x, l[i]? = some x → ClR C i x) (h3 : cAt C 36 0 cd) : TxtIs (fun a : Nat => C (30 + a)) l cd := by
  refine ⟨h0, h1, fun j _ c hc => ?_, fun j x hx => ?_⟩
  · obtain ⟨a1, a2, a3, a4, a5⟩ := h2 j c hc
    exact ⟨a1, a2, a3, a4, a5⟩
  · have := h3 j x hx
    rwa [Nat.zero_add] at this
def PoX (τ : Tks) (C0 C' : MC) (r : Int) (acc : List Cla) (pre : List Int) : Sum Nat (List Cla × List Int) → Prop
  | .inl q => r = 0 ∧ q ≤ τ.length ∧ C' 29 11 = C0 38 q
  | .inr (cls, cd) => r = 1 ∧ C' 29 11 = -1 ∧ TxtIs (fun a : Nat => C' (30 + a)) (acc ++ cls) (pre ++ cd) ∧ DrF τ C0 C' 0 τ.length
theorem ClR_cl {C C' : MC} {i j : Nat} {c : Cla} (h : ClR C i c) (hij : i ≠ j) (f : Fp (clx j) C C') : ClR C' i c := by
  have g : ∀ a : Int, 31 ≤ a ∧ a ≤ 35 → C' a i = C a i := fun a ha => f a i (fun q => by unfold clx crx at q; omega)
  unfold ClR
  rw [g 31 (by decide), g 32 (by decide), g 33 (by decide), g 34 (by decide), g 35 (by decide)]
  exact h
theorem ClR_cr {C C' : MC} {i : Nat} {c : Cla} (h : ClR C i c) (f : Fp crx C C') : ClR C' i c := by
  unfold ClR
  rw [crx_row f 31 (by decide), crx_row f 32 (by decide), crx_row f 33 (by decide), crx_row f 34 (by decide), crx_row f 35 (by decide)]
  exact h
theorem c_text {τ : Tks} {o : Bool} {d : Nat} {S : MS} {C0 : MC} {Q : Qt} (hd : 65 ≤ d) (F : Fix S) (T : TkC τ o C0) : ∀ (n c p lv : Nat) (pre : List Int) (acc : List Cla) (C : MC), c + n = 12 → acc.length = c → Fp rdx C0 C → p ≤ τ.length → lv ≤ 50 → pre.length ≤ p → RdS C p lv 8 pre → (∀ i x, acc[i]? = some x → ClR C i x) → DrF τ C0 C 0 p → C 29 11 = -1 → (∀ C' r, Fp rdx C0 C' → PoX τ C0 C' r acc pre (textP τ (oneP τ o) n p lv pre.length) → Q r S C') → K_X4_read_56 d 0 0 (c : Int) S C Q := by
  obtain ⟨e, rfl⟩ : ∃ e, d = e + 1 := ⟨d - 1, by omega⟩
  have e38 : ∀ {C : MC}, Fp rdx C0 C → C 38 = C0 38 := fun f => fp_row f (fun k => by unfold rdx; omega)
  have fin : ∀ (C : MC) (q : Nat), Fp rdx C0 C → q ≤ τ.length → C 29 7 = q → Q 0 S (upC C 29 11 (C0 38 q)) → ((0 : Int) ≤ C 29 7 ∧ C 29 7 < 401) ∧ Q 0 S (upC C 29 11 (C 38 (C 29 7))) := by
    intro C q f hq h7 h
    have bd := in_bd hq T.2.1
    rw [h7, e38 f]
    exact ⟨bd, h⟩
  intro n
  induction n with
  | zero =>
    intro c p lv pre acc C hc hacc fC hp hlv hpl st hcl dr h11 hk
    have ec : c = 12 := by omega
    subst ec
    refine b_X4_read_56 (d := e) F ⟨fun _ => fin C p fC hp st.1 (hk _ 0 (Fp_up (Or.inl ⟨rfl, by decide, by decide⟩) fC) ⟨rfl, hp, upC_at _ _ _ _⟩), fun z => absurd (by decide) z⟩
  | succ n ih =>
    intro c p lv pre acc C hc hacc fC hp hlv hpl st hcl dr h11 hk
    have hc12 : c < 12 := by omega
    have TC := TkC_rd T fC
    have wc : w32 ((c : Int) + 1) = ((c + 1 : Nat) : Int) := w32_nat1 (Nat.le_trans (Nat.le_of_lt hc12) (by decide))
    unfold textP at hk
    have after : ∀ (C2 : MC) (r : Int), Fp (clx c) C C2 → PoK τ C C2 p c pre r (oneP τ o p lv pre.length) → ((r = 0 → K_X4_read_99 (e + 1) 0 0 (c : Int) r S C2 Q) ∧ (¬ r = 0 → ((¬ C2 29 8 = 285 → K_X4_read_99 (e + 1) 0 0 (c : Int) r S C2 Q) ∧ (C2 29 8 = 285 → Q 1 S C2)))) := by
      intro C2 r f2 po
      have g2 : Fp rdx C0 C2 := Fp_tr fC (clx_rd f2)
      have T2 := TkC_rd T g2
      have h11' : C2 29 11 = -1 := by rw [f2 29 11 (by unfold clx crx; omega)]; exact h11
      cases hs : oneP τ o p lv pre.length with
      | inl q =>
        rw [hs] at po hk
        refine ⟨fun _ => b_X4_read_99 (d := e) F ⟨fun _ => fin C2 q g2 po.2.1 po.2.2 (hk _ 0 (Fp_up (Or.inl ⟨rfl, by decide, by decide⟩) g2) ⟨rfl, po.2.1, upC_at _ _ _ _⟩), fun y => absurd po.1 y⟩, fun y => absurd po.1 y⟩
      | inr t =>
        obtain ⟨cl, q, lv', cd⟩ := t
        rw [hs] at po hk
        obtain ⟨p1, p2, p3, p4, p5⟩ := po
        obtain ⟨a1, a2⟩ := Gd_one τ o _ _ _ _ _ _ _ hs
        simp only at hk
        have r1 : ¬ r = 0 := by rw [p1]; decide
        have q285 := (T2.2.2.1 q a1.2).2.2.1
        have q59 := tk_eq T2 a1.2 k59
        have acl : ∀ i x, (acc ++ [cl])[i]? = some x → ClR C2 i x := by
          intro i x hi
          by_cases y : i = acc.length
          · rw [y, List.getElem?_append_right (Nat.le_refl _), Nat.sub_self] at hi
            cases hi
            rw [y, hacc]; exact p4
          · have hlt : i < acc.length := by
              have := (List.getElem?_eq_some_iff.mp hi).1
              rw [List.length_append, List.length_singleton] at this
              omega
            rw [List.getElem?_append_left hlt] at hi
            exact ClR_cl (hcl i x hi) (by omega) f2
        have dr2 := DrF_tr dr p3
        refine ⟨fun y => absurd y r1, fun _ => ⟨fun y => ?_, fun y => ?_⟩⟩
        · have nq : ¬ q = τ.length := fun z => y (by rw [p2.2.1]; exact q285.mpr z)
          rw [if_neg nq] at hk
          refine b_X4_read_99 (d := e) F ⟨fun z => absurd z r1, fun _ => ?_⟩
          rw [p2.2.1, wc]
          refine ⟨fun z => ?_, fun z => fin C2 q g2 a1.2 p2.1 (hk _ 0 (Fp_up (Or.inl ⟨rfl, by decide, by decide⟩) g2) ?_)⟩
          · have ht := q59.mp z
            have hq1 := tc_in (τ := τ) (p := q) (by rw [ht]; decide)
            rw [if_pos ht] at hk
            refine c_next F T2 hq1 p2 (fun C4 f4 st4 e4 => ⟨rfl, ?_⟩)
            have hLn : p + cd.length ≤ q := by
              have : Ln (oneP τ o) := by
                cases o with
                | false => exact ln_rule τ
                | true => exact ln_order τ
              exact this _ _ _ _ _ _ _ hs
            refine ih (c + 1) (q + 1) lv' (pre ++ cd) (acc ++ [cl]) C4 (by omega) (by rw [List.length_append, List.length_singleton, hacc]) (Fp_tr g2 (crx_rd f4)) hq1 (a2.2 hlv) (by rw [List.length_append]; omega) st4 (fun i x hi => ClR_cr (acl i x hi) f4) (DrF_tr dr2 (DrF_one e4 (by rw [ht]; decide))) (by rw [f4 29 11 (by unfold crx; decide)]; exact h11') (fun C' r' f' po' => hk C' r' f' ?_)
            rw [List.length_append] at po'
            cases hs2 : textP τ (oneP τ o) n (q + 1) lv' (pre.length + cd.length) with
            | inl q2 => rw [hs2] at po'; exact po'
            | inr t2 =>
              obtain ⟨cls2, cd2⟩ := t2
              rw [hs2] at po'
              obtain ⟨x1, x2, x3, x4⟩ := po'
              have ea : (acc ++ [cl]) ++ cls2 = acc ++ (cl :: cls2) := by simp
              have eb : (pre ++ cd) ++ cd2 = pre ++ (cd ++ cd2) := by simp
              rw [ea, eb] at x3
              exact ⟨x1, x2, x3, x4⟩
          · rw [if_neg (fun y => z (q59.mpr y))]
            exact ⟨rfl, a1.2, upC_at _ _ _ _⟩
        · have nq : q = τ.length := q285.mp (by rw [← p2.2.1]; exact y)
          rw [if_pos nq] at hk
          refine hk C2 1 g2 ⟨rfl, h11', TxtIs_of ?_ p2.2.2.2.2.1 acl p2.2.2.2.2.2, by rw [← nq]; exact dr2⟩
          rw [p5, List.length_append, List.length_singleton, hacc]
    refine b_X4_read_56 (d := e) F ⟨fun z => absurd z (by clear after hk st; omega), fun _ => ?_⟩
    cases o with
    | false => exact ⟨fun _ => c_rule (by omega) hc12 F TC hp hlv hpl st (fun C2 r f2 po => ⟨rfl, after C2 r f2 po⟩), fun z => absurd TC.2.2.2 z⟩
    | true => exact ⟨fun z => absurd (TC.2.2.2.symm.trans z) (by decide), fun _ => c_order (by omega) hc12 F TC hp hlv hpl st (fun C2 r f2 po => ⟨rfl, after C2 r f2 po⟩)⟩
