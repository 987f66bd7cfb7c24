/-! 69.ask: the class asks a law -/
theorem Pc_at {C : MC} {A : Int} {cd pc : List Int} {k : Nat} (h : Pc cd 0 k pc) (hc : ∀ j : Nat, ∀ x, cd[j]? = some x → C A (j : Int) = x) : cAt C A k pc ∧ k + pc.length ≤ cd.length := by
  obtain ⟨a, b, e1, e2⟩ := h
  have h0 : cAt C A 0 cd := fun j x hj => by rw [Nat.zero_add]; exact hc j x hj
  rw [e1] at h0
  have h1 := cAt_l (cAt_r h0)
  rw [e2]
  refine ⟨h1, ?_⟩
  rw [e1, List.length_append, List.length_append]
  omega
/-- a test's word, by the class -/
theorem s_rkT {d : Nat} {l0 A W : Int} {o : Bool} {S : MS} {w : Wd} {cd pc : List Int} {k : Nat} {f' : Sem} {C : MC} {Q : Qt} (F : Fix S) (H : RkF l0 A W S w) (hR : RkC l0 A W S w o C) (hc : ∀ j : Nat, ∀ x, cd[j]? = some x → C A (j : Int) = x) (hm : (cd.length : Int) ≤ S.2.2.1 A) (hp : Pc cd 0 k (pc ++ [0])) (sg : SgS o k pc f') (h1 : ∀ x C', f' w = some x → Sk l0 0 C C' → Q x S C') (h2 : ∀ C', f' w = none → Sk l0 0 C C' → Q NANi S C') : K_X5_reckon_0 (d + 1) 0 0 l0 A (k : Int) W S C Q := by
  obtain ⟨a1, a2⟩ := Pc_at hp hc
  rw [List.length_append, List.length_singleton] at a2
  exact s_reckon F H (sg l0 A W S w F H) hR a1 (by omega) h1 h2
theorem textP_len {τ : Tks} {one : Rdr Cla} : ∀ (n p lv c0 : Nat) (cls : List Cla) (cd : List Int), textP τ one n p lv c0 = .inr (cls, cd) → cls.length ≤ n
  | 0, p, lv, c0, cls, cd, e => by unfold textP at e; cases e
  | n + 1, p, lv, c0, cls, cd, e => by
    obtain ⟨cl, q, lv1, cd1, e1, e2⟩ := textP_inv e
    rcases e2 with ⟨_, b2, _⟩ | ⟨_, _, cls2, cd2, b3, b4, _⟩
    · rw [b2, List.length_singleton]; omega
    · have := textP_len n _ _ _ _ _ b3
      rw [b4, List.length_cons]; omega
theorem textP_all {τ : Tks} {one : Rdr Cla} {P : Cla → Prop} (h : ∀ p lv c0 cl q lv' cd, one p lv c0 = .inr (cl, q, lv', cd) → P cl) : ∀ (n p lv c0 : Nat) (cls : List Cla) (cd : List Int), textP τ one n p lv c0 = .inr (cls, cd) → ∀ c, c ∈ cls → P c
  | 0, p, lv, c0, cls, cd, e => by unfold textP at e; cases e
  | n + 1, p, lv, c0, cls, cd, e => by
    obtain ⟨cl, q, lv1, cd1, e1, e2⟩ := textP_inv e
    intro c hc
    rcases e2 with ⟨_, b2, _⟩ | ⟨_, _, cls2, cd2, b3, b4, _⟩
    · rw [b2] at hc
      rw [List.mem_singleton.mp hc]
      exact h _ _ _ _ _ _ _ e1
    · rw [b4] at hc
      rcases List.mem_cons.mp hc with z | z
      · rw [z]; exact h _ _ _ _ _ _ _ e1
      · exact textP_all h n _ _ _ _ _ b3 c z
theorem ln_cond {τ : Tks} {o : Bool} {k : Int → TSem → Cla} : Ln (condP τ o k) := by
  intro p n c0 f q n' cd e
  rcases condP_inv e with ⟨_, t, cd1, e1, _, e3⟩ | ⟨_, _, e2, _, e3⟩
  · have := ln_test8 τ o _ _ _ _ _ _ _ e1
    rw [e3, List.length_append, List.length_singleton]; omega
  · rw [e2, e3]; simp
theorem ln_rule (τ : Tks) : Ln (ruleP τ) := by
  intro p n c0 f q n' cd e
  rcases ruleP_inv e with ⟨_, f1, q1, lv1, cd1, cd2, e1, e2, e3⟩ | ⟨_, e1⟩
  · have a := ln_sum8 τ false _ _ _ _ _ _ _ e1
    have b := ln_cond _ _ _ _ _ _ _ e2
    rw [e3, List.length_append, List.length_cons]; omega
  · have b := ln_cond _ _ _ _ _ _ _ e1
    omega
theorem textP_cd {τ : Tks} {one : Rdr Cla} (h : Ln one) : ∀ (n p lv c0 : Nat) (cls : List Cla) (cd : List Int), textP τ one n p lv c0 = .inr (cls, cd) → p + cd.length ≤ τ.length
  | 0, p, lv, c0, cls, cd, e => by unfold textP at e; cases e
  | n + 1, p, lv, c0, cls, cd, e => by
    obtain ⟨cl, q, lv1, cd1, e1, e2⟩ := textP_inv e
    have a := h _ _ _ _ _ _ _ e1
    rcases e2 with ⟨b1, _, b3⟩ | ⟨_, _, cls2, cd2, b3, _, b5⟩
    · rw [b3]; omega
    · have := textP_cd h n _ _ _ _ _ b3
      rw [b5, List.length_append]; omega
theorem rule_sbd {τ : Tks} (p lv c0 : Nat) (cl : Cla) (q lv' : Nat) (cd : List Int) (e : ruleP τ p lv c0 = .inr (cl, q, lv', cd)) : SBd cl.2.2.1 := by
  have z0 : SBd (fun _ => some 0) := fun w _ x hx => by cases hx; unfold Bd; omega
  rcases ruleP_inv e with ⟨_, f1, q1, lv1, cd1, cd2, e1, e2, e3⟩ | ⟨_, e1⟩
  · have a := (Gd_sum8 τ false _ _ _ _ _ _ _ e1).2.2
    rcases condP_inv e2 with ⟨_, t, cd3, _, g2, _⟩ | ⟨_, g2, _⟩ <;> rw [g2] <;> exact a
  · rcases condP_inv e1 with ⟨_, t, cd3, _, g2, _⟩ | ⟨_, g2, _⟩ <;> rw [g2] <;> exact z0
theorem hasS_cons (v : Int) (c : Cla) (l : List Cla) (w : Wd) : hasS v (c :: l) w = ((c.1.1 == v && holdsC c w) || hasS v l w) := by unfold hasS; rw [List.any_cons]
theorem mindS_no {c : Cla} {l : List Cla} {w : Wd} {m : Int} (h : ¬ (c.1.1 = 4 ∧ holdsC c w = true)) : mindS (c :: l) w m = mindS l w m := by simp only [mindS, if_neg h]
theorem mindS_so {c : Cla} {l : List Cla} {w : Wd} {m x : Int} (h4 : c.1.1 = 4) (hh : holdsC c w = true) (hx : c.2.2.1 w = some x) : mindS (c :: l) w m = mindS l w (max 0 (min 99 x)) := by simp only [mindS, if_pos (And.intro h4 hh), hx]
theorem mindS_nn {c : Cla} {l : List Cla} {w : Wd} {m : Int} (h4 : c.1.1 = 4) (hh : holdsC c w = true) (hx : c.2.2.1 w = none) : mindS (c :: l) w m = mindS l w m := by simp only [mindS, if_pos (And.intro h4 hh), hx]
theorem holds_b2i {c : Cla} {w : Wd} : (b2i c.2.2.2.2 w = none → holdsC c w = false) ∧ ∀ x, b2i c.2.2.2.2 w = some x → x = b2 (holdsC c w) := by
  unfold b2i holdsC
  cases h : c.2.2.2.2 w with
  | none => exact ⟨fun _ => rfl, fun x hx => (by cases hx)⟩
  | some b =>
    refine ⟨fun hx => (by cases hx), fun x hx => ?_⟩
    cases b <;> cases hx <;> rfl
theorem mm99 (x : Int) : 0 ≤ max 0 (min 99 x) ∧ max 0 (min 99 x) ≤ 99 := by omega
theorem nat_n1 (k : Nat) : (k : Int) ≠ -1 := by omega
def akx (a _ : Int) : Prop := a = 40 ∨ a = 42
theorem Sk_akx {C C' : MC} (h : Sk 41 0 C C') : Fp akx C C' := Fp_mono h (fun a k q => Or.inr q.1)
theorem s_ask51 {d : Nat} {mi t : Int} {S : MS} {w : Wd} {cls : List Cla} {cd : List Int} {Q : Qt} (F : Fix S) (hT : TxO S t) (h108 : 108 ≤ t) (hmi : mi = 0 ∨ mi = 1) (H : RkF 41 (t + 6) 43 S w) (hL : LnT S t) (hn : S.2.2.1 (t + 1) = cls.length) (hm : S.2.2.1 (t + 6) = cd.length) (hl : cls.length ≤ 12) (ok : ∀ c, c ∈ cls → ClaOk cd 0 c) (sb : ∀ c, c ∈ cls → SBd c.2.2.1) : ∀ (l : List Cla) (j : Nat) (C : MC) (ca ba : Bool), cls.drop j = l → j ≤ cls.length → TxtIs (fun a : Nat => C (t + a)) cls cd → RkC 41 (t + 6) 43 S w false C → C 40 3 = b2 ca → (0 ≤ C 40 2 ∧ C 40 2 ≤ 99) → (∀ C', Fp akx C C' → C' 40 3 = b2 ((ca || hasS 5 l w) && !(ba || hasS 6 l w)) → (0 ≤ C' 40 2 ∧ C' 40 2 ≤ 99) → (mi = 1 → C' 40 2 = mindS l w (C 40 2)) → Q 0 S C') → K_X2_ask_51 (d + 2) 0 0 mi t (b2 ba) (j : Int) S C Q := by
  intro l
  have g1 : (43 : Int) ≤ t + 1 := by omega
  have g3 : (43 : Int) ≤ t + 3 := by omega
  have g5 : (43 : Int) ≤ t + 5 := by omega
  have gx : ∀ a : Nat, (43 : Int) ≤ t + a := fun a => by omega
  have gr : ∀ a : Int, 43 ≤ a → ∀ k, ¬ akx a k := fun a ha k => by unfold akx; omega
  induction l with
  | nil =>
    intro j C ca ba hd hj hX hR h3 h2 hk
    have ej : j = cls.length := by
      have := congrArg List.length hd
      rw [List.length_drop] at this
      simp at this
      omega
    have e0 : C t 0 = cls.length := by
      have : C (t + ((0 : Nat) : Int)) 0 = cls.length := hX.1
      rwa [show t + ((0 : Nat) : Int) = t from Int.add_zero t] at this
    have up3 : ∀ v, Fp akx C (upC C 40 3 v) := fun v => Fp_up (Or.inl rfl) Fp_rf
    have fin : ∀ v : Int, v = b2 ((ca || hasS 5 [] w) && !(ba || hasS 6 [] w)) → Q 0 S (upC C 40 3 v) := fun v hv => hk _ (up3 v) (by rw [upC_at]; exact hv) (by rw [upC_sK (by decide)]; exact h2) (fun _ => by rw [upC_sK (by decide)]; rfl)
    refine b_X2_ask_51 (d := d + 1) F ⟨hT, fun _ => ⟨fun z => fin 0 ?_, fun z => ⟨fun y => fin 0 ?_, fun y => fin 1 ?_⟩⟩, fun z => ?_⟩
    · rw [h3] at z; cases ca <;> cases ba <;> first | rfl | (exact absurd z (by decide))
    · rw [h3] at z; cases ca <;> cases ba <;> first | rfl | (exact absurd rfl z) | (exact absurd rfl y)
    · rw [h3] at z; cases ca <;> cases ba <;> first | rfl | (exact absurd rfl z) | (exact absurd y (by decide))
    · exact absurd (by rw [e0, ej]; exact Int.le_refl _) z
  | cons c l ih =>
    intro j C ca ba hd hj hX hR h3 h2 hk
    have hj1 : j < cls.length := by
      have := congrArg List.length hd
      rw [List.length_drop, List.length_cons] at this
      clear hk h2 h3 hR hX ih
      omega
    have wj : w32 ((j : Int) + 1) = ((j + 1 : Nat) : Int) := by
      clear hk h2 h3 hR hX ih
      rw [w32_lit (by omega)]; omega
    have hcj : cls[j]? = some c := by
      have := congrArg (fun x => x[0]?) hd
      simp only [List.getElem?_drop, Nat.add_zero, List.getElem?_cons_zero] at this
      exact this
    have hd2 : cls.drop (j + 1) = l := by
      have := congrArg List.tail hd
      rw [List.tail_drop, List.tail_cons] at this
      exact this
    have hbj : (0 : Int) ≤ (j : Int) ∧ (j : Int) < cls.length := ⟨Int.natCast_nonneg j, Int.ofNat_lt.mpr hj1⟩
    have hb1 : (0 : Int) ≤ (j : Int) ∧ (j : Int) < S.2.2.1 (t + 1) := by rw [hn]; exact hbj
    have hb3 : (0 : Int) ≤ (j : Int) ∧ (j : Int) < S.2.2.1 (t + 3) := by rw [hL.2.1]; exact hb1
    have hb5 : (0 : Int) ≤ (j : Int) ∧ (j : Int) < S.2.2.1 (t + 5) := by rw [hL.2.2.2]; exact hb1
    obtain ⟨r1, r2, r3, r4, r5⟩ := hX.2.2.1 j hj1 c hcj
    obtain ⟨o1, o2, o3⟩ := ok c (List.mem_of_getElem? hcj)
    have osb := sb c (List.mem_of_getElem? hcj)
    have e0 : C t 0 = cls.length := by
      have : C (t + ((0 : Nat) : Int)) 0 = cls.length := hX.1
      rwa [show t + ((0 : Nat) : Int) = t from Int.add_zero t] at this
    have r1' : C (t + 1) (j : Int) = c.1.1 := r1
    have r3' : C (t + 3) (j : Int) = c.2.1.1 := r3
    have r5' : C (t + 5) (j : Int) = c.2.1.2.2 := r5
    have rows : ∀ C1 : MC, Fp akx C C1 → ∀ a : Int, 43 ≤ a → C1 a = C a := fun C1 f a ha => fp_row f (gr a ha)
    have hcd : ∀ C1 : MC, Fp akx C C1 → ∀ i : Nat, ∀ x, cd[i]? = some x → C1 (t + 6) (i : Int) = x := fun C1 f i x hx => by
      rw [rows C1 f (t + 6) (gx 6)]
      exact hX.2.2.2 i x hx
    have hRk : ∀ C1 : MC, Fp akx C C1 → RkC 41 (t + 6) 43 S w false C1 := fun C1 f i y0 y1 => by
      rw [rows C1 f 43 (Int.le_refl 43)]
      exact hR i y0 y1
    have next : ∀ (C1 : MC) (ca' ba' : Bool), Fp akx C C1 → C1 40 3 = b2 ca' → (0 ≤ C1 40 2 ∧ C1 40 2 ≤ 99) → ((ca' || hasS 5 l w) && !(ba' || hasS 6 l w)) = ((ca || hasS 5 (c :: l) w) && !(ba || hasS 6 (c :: l) w)) → (mi = 1 → mindS l w (C1 40 2) = mindS (c :: l) w (C 40 2)) → K_X2_ask_51 (d + 2) 0 0 mi t (b2 ba') (w32 ((j : Int) + 1)) S C1 Q := by
      intro C1 ca' ba' f1 x1 x2 x3 x4
      rw [wj]
      refine ih (j + 1) C1 ca' ba' hd2 hj1 ?_ (hRk C1 f1) x1 x2 (fun C' f' y1 y2 y3 => hk C' (Fp_tr f1 f') (by rw [y1, x3]) y2 (fun z => by rw [y3 z, x4 z]))
      have : (fun a : Nat => C1 (t + a)) = (fun a : Nat => C (t + a)) := funext fun a => rows C1 f1 _ (gx a)
      rw [this]; exact hX
    have h121 : ∀ (C1 : MC) (s0 : Int), Fp akx C C1 → C1 40 = C 40 → (s0 = NANi ∧ holdsC c w = false ∨ s0 = b2 (holdsC c w)) → (c.1.1 = 4 → mi = 1) → K_X2_ask_121 (d + 2) 0 0 mi t (b2 ba) (j : Int) s0 S C1 Q := by
      intro C1 s0 f1 e40 hs hmm
      have v1 : C1 (t + 1) (j : Int) = c.1.1 := by rw [rows C1 f1 (t + 1) g1]; exact r1'
      have v3 : C1 (t + 3) (j : Int) = c.2.1.1 := by rw [rows C1 f1 (t + 3) g3]; exact r3'
      have k3 : C1 40 3 = b2 ca := by rw [e40]; exact h3
      have k2 : 0 ≤ C1 40 2 ∧ C1 40 2 ≤ 99 := by rw [e40]; exact h2
      have skip : holdsC c w = false → K_X2_ask_51 (d + 2) 0 0 mi t (b2 ba) (w32 ((j : Int) + 1)) S C1 Q := fun hh => next C1 ca ba f1 k3 k2 (by rw [hasS_cons, hasS_cons, hh]; simp) (fun _ => by rw [e40, mindS_no (fun y => by rw [hh] at y; exact absurd y.2 (by decide))])
      have hold : ¬ lCmp s0 (-1152921504606846976) = 0 → ¬ lCmp s0 0 = 0 → holdsC c w = true := by
        intro z z2
        rcases hs with hs | hs
        · exact absurd (lC_eq.mpr hs.1) z
        · cases hc : holdsC c w with
          | true => rfl
          | false => exact absurd (lC_eq.mpr (by rw [hs, hc]; rfl)) z2
      refine b_X2_ask_121 (d := d + 1) F hT ⟨fun z => skip ?_, fun z => ⟨fun z2 => ⟨hb1, fun y => ⟨hb1, fun y2 => ?_, fun y2 => ?_⟩, fun y => ⟨hb3, ?_⟩⟩, fun z2 => skip ?_⟩⟩
      · rw [lC_eq] at z
        rcases hs with hs | hs
        · exact hs.2
        · cases hc : holdsC c w with
          | false => rfl
          | true => rw [hs, hc] at z; exact absurd z (by decide)
      · have hh := hold z z2
        have v6 : c.1.1 = 6 := by
          rw [v1] at y y2
          rcases o1 with q | q | q
          · exact absurd q y
          · exact absurd q y2
          · exact q
        exact next C1 ca true f1 k3 k2 (by rw [hasS_cons, hasS_cons, v6, hh]; simp) (fun _ => by rw [e40, mindS_no (fun y => by rw [v6] at y; exact absurd y.1 (by decide))])
      · have hh := hold z z2
        have v5 : c.1.1 = 5 := by rw [v1] at y2; exact y2
        exact next (upC C1 40 3 1) true ba (Fp_up (Or.inl rfl) f1) (upC_at _ _ _ _) (by rw [upC_sK (by decide)]; exact k2) (by rw [hasS_cons, hasS_cons, v5, hh]; simp) (fun _ => by rw [upC_sK (by decide), e40, mindS_no (fun y => by rw [v5] at y; exact absurd y.1 (by decide))])
      · have hh := hold z z2
        have v4 : c.1.1 = 4 := by rw [v1] at y; exact y
        obtain ⟨k, pc, p1, p2, p3⟩ := o3 v4
        have bl : ((ca || hasS 5 l w) && !(ba || hasS 6 l w)) = ((ca || hasS 5 (c :: l) w) && !(ba || hasS 6 (c :: l) w)) := by rw [hasS_cons, hasS_cons, v4]; simp
        rw [v3, p1]
        refine s_rkT (d := d) F H (hRk C1 f1) (hcd C1 f1) (by rw [hm]; exact Int.le_refl _) p2 p3 (fun x C2 ex sk => ⟨rfl, fun _ => ?_, fun z3 => ?_⟩) (fun C2 ex sk => ⟨rfl, fun z3 => ?_, fun _ => ?_⟩)
        · have r40 : C2 40 = C1 40 := Sk_row sk (by decide)
          have hw : w32 (max 0 (min 99 x)) = max 0 (min 99 x) := w32_lit ⟨Int.le_trans (by decide) (mm99 x).1, Int.lt_of_le_of_lt (mm99 x).2 (by decide)⟩
          rw [hw]
          exact next (upC C2 40 2 (max 0 (min 99 x))) ca ba (Fp_up (Or.inl rfl) (Fp_tr f1 (Sk_akx sk))) (by rw [upC_sK (by decide), r40]; exact k3) (by rw [upC_at]; exact mm99 x) bl (fun _ => by rw [upC_at, mindS_so v4 hh ex])
        · exfalso
          rw [lC_eq] at z3
          have := osb w H.2.2.2.2.2.2 x ex
          clear hk h2 h3 hR hX ih
          unfold Bd at this
          omega
        · exact absurd (lC_eq.mpr rfl) z3
        · have r40 : C2 40 = C1 40 := Sk_row sk (by decide)
          exact next (upC C2 40 2 (C2 40 2)) ca ba (Fp_up (Or.inl rfl) (Fp_tr f1 (Sk_akx sk))) (by rw [upC_sK (by decide), r40]; exact k3) (by rw [upC_at, r40]; exact k2) bl (fun _ => by rw [upC_at, r40, e40, mindS_nn v4 hh ex])
      · rw [lC_eq] at z2
        rcases hs with hs | hs
        · exact hs.2
        · cases hc : holdsC c w with
          | false => rfl
          | true => rw [hs, hc] at z2; exact absurd z2 (by decide)
    have hgo : (c.1.1 = 4 → mi = 1) → ((0 : Int) ≤ (j : Int) ∧ (j : Int) < S.2.2.1 (t + 5)) ∧ ((¬ C (t + 5) (j : Int) = (-1) → ((0 : Int) ≤ (j : Int) ∧ (j : Int) < S.2.2.1 (t + 5)) ∧ K_X5_reckon_0 (d + 1) 0 0 41 (t + 6) (C (t + 5) (j : Int)) 43 S C (fun r2 Sq C3 => Sq = S ∧ K_X2_ask_121 (d + 1 + 1) 0 0 mi t (b2 ba) (j : Int) r2 S C3 Q)) ∧ (C (t + 5) (j : Int) = (-1) → K_X2_ask_121 (d + 1 + 1) 0 0 mi t (b2 ba) (j : Int) 1 S C Q)) := by
      intro hmm
      refine ⟨hb5, fun z => ⟨hb5, ?_⟩, fun z => ?_⟩
      · rcases o2 with ⟨i1, _⟩ | ⟨k, pc, i1, i2, i3⟩
        · rw [r5'] at z; exact absurd i1 z
        · rw [r5', i1]
          exact s_rkT (d := d) F H hR (hcd C Fp_rf) (by rw [hm]; exact Int.le_refl _) i2 i3 (fun x C2 ex sk => ⟨rfl, h121 C2 x (Sk_akx sk) (Sk_row sk (by decide)) (Or.inr (holds_b2i.2 x ex)) hmm⟩) (fun C2 ex sk => ⟨rfl, h121 C2 NANi (Sk_akx sk) (Sk_row sk (by decide)) (Or.inl ⟨rfl, holds_b2i.1 ex⟩) hmm⟩)
      · rcases o2 with ⟨_, i2⟩ | ⟨k, pc, i1, _⟩
        · exact h121 C 1 Fp_rf rfl (Or.inr (by unfold holdsC; rw [i2]; rfl)) hmm
        · rw [r5', i1] at z
          exact absurd z (nat_n1 k)
    refine b_X2_ask_51 (d := d + 1) F ⟨hT, fun z => ?_, fun _ => ⟨hb1, fun y => hgo (fun q => absurd (by rw [r1']; exact q) y), fun y => ⟨fun y2 => hgo (fun _ => ?_), fun y2 => ?_⟩⟩⟩
    · rw [e0] at z
      exact absurd hbj.2 (Int.not_lt.mpr z)
    · rcases hmi with q | q
      · exact absurd q y2
      · exact q
    · have v4 : c.1.1 = 4 := by rw [r1'] at y; exact y
      refine next C ca ba Fp_rf h3 h2 (by rw [hasS_cons, hasS_cons, v4]; simp) (fun q => ?_)
      rw [y2] at q
      cases q
theorem askCls : AskCls := by
  intro S C a κ b n mi F ha hRS hn hb hmi d C' h k Q hC hh hk hQ
  have hK := KOk_of hRS
  have hw := lawW_bd hK hn hh hk hb
  obtain ⟨a1, a2, a3, a4, a5, a6⟩ := hRS
  have hn6 : n ≤ 6 := by have := a1.2.1; omega
  have ha1 : 1 ≤ a ∧ a + 8 ≤ 81 ∧ (a + 8 ≤ 40 ∨ 44 ≤ a) := by unfold isSt at ha; omega
  have n40 : a ≠ 40 := by omega
  have n43 : ∀ j, 0 ≤ j → j < 8 → ¬ a + j = 43 := fun j x0 x1 => by omega
  have n3 := n43 3 (by decide) (by decide)
  have n1 := n43 1 (by decide) (by decide)
  have n2 := n43 2 (by decide) (by decide)
  have n7 := n43 7 (by decide) (by decide)
  have hk8 : (0 : Int) ≤ (k : Int) ∧ (k : Int) < 8 := by omega
  have hh6 : (0 : Int) ≤ (h : Int) ∧ (h : Int) < 6 := by omega
  have row : ∀ j, 0 ≤ j → j < 8 → C' (a + j) = C (a + j) := fun j x0 x1 => hC _ (Or.inl ⟨by omega, by omega⟩)
  have row0 : C' a = C a := by have := row 0 (by decide) (by decide); rwa [Int.add_zero] at this
  have main : ∀ ca : Bool, ca = decide (κ k = h) → K_X7_lawInForce_0 (d + 5) 0 0 a S (upC (upC C' 40 2 1) 40 3 (b2 ca)) (fun r1 Sq C2 => Sq = S ∧ ((¬ r1 = -1 → K_X2_tellWords_0 (d + 5) 0 0 a h k b S C2 (fun r3 Sq C4 => Sq = S ∧ K_X2_ask_51 (d + 5 + 1) 0 0 mi r1 0 0 S C4 Q)) ∧ (r1 = -1 → Q 0 S C2))) := by
    intro ca hca
    generalize hD0 : upC (upC C' 40 2 1) 40 3 (b2 ca) = D0
    have d0 : ∀ r, r ≠ 40 → D0 r = C' r := fun r hr => by rw [← hD0, upC_ne hr, upC_ne hr]
    have d3 : D0 40 3 = b2 ca := by rw [← hD0, upC_at]
    have d2 : D0 40 2 = 1 := by rw [← hD0, upC_sK (by decide), upC_at]
    have e8 : D0 a 8 = κ 47 := by rw [d0 a n40, row0]; exact a5.1.1
    have e9 : D0 a 9 = κ 48 := by rw [d0 a n40, row0]; exact a5.2.1.1
    have b9 := a5.2.1.2
    have b8 := a5.1.2
    refine b_X7_lawInForce_0 (d := d + 4) F ha (s_hasLaw F ha fun r hr => ⟨rfl, fun z => ⟨rfl, fun y => absurd rfl y, fun _ => ?_⟩, fun z => ?_⟩)
    · rw [e8, e9] at hr
      have hf : κ 48 = -1 := by omega
      have eL : lawOf κ = [] := by unfold lawOf; rw [if_pos hf]
      refine hQ D0 (fun r r1 r2 r3 => d0 r r1) ?_ (by rw [d2]; decide) (fun _ => ?_)
      · rw [d3, hca]; unfold cnK; rw [eL]; unfold b2 hasS; simp
      · rw [d2]; unfold mdK; rw [eL]; rfl
    · rw [e8, e9] at hr
      rw [e9]
      have hf : 0 ≤ κ 48 ∧ κ 48 < κ 47 := by omega
      obtain ⟨⟨tx, t108⟩, t2, ⟨t3, l, cd, t4, t5, t6, t7⟩, t8⟩ := a5.2.2.2 (κ 48) hf.1 hf.2
      generalize S.2.2.2.1 (a + 6) (κ 48) = t at tx t108 t5 t6 t7 t8
      refine ⟨by omega, rfl, fun _ => ?_, fun y => by omega⟩
      have eL : lawOf κ = l := by unfold lawOf clsOf; rw [if_neg (by omega), t4]
      refine b_X2_tellWords_0 F ha ⟨hk8, hh6, hh6, rfl, ?_⟩
      generalize hD : (upC (upC (upC (upC (upC (upC (upC (upC D0 43 0 (h : Int)) 43 1 (k : Int)) 43 2 _) 43 3 (b : Int)) 43 4 _) 43 5 _) 43 6 _) 43 7 _) = D
      have dn : ∀ r, r ≠ 43 → D r = D0 r := fun r hr => by rw [← hD, upC_ne hr, upC_ne hr, upC_ne hr, upC_ne hr, upC_ne hr, upC_ne hr, upC_ne hr, upC_ne hr]
      have dhi : ∀ r, 108 ≤ r → D r = C r := fun r hr => by rw [dn r (by omega), d0 r (by omega)]; exact hC r (Or.inr hr)
      have cd400 := textP_cd (ln_rule _) _ _ _ _ _ _ t4
      have tl : ((toks κ (κ 48)).length : Int) ≤ 400 := by rw [toks_len]; omega
      have hRK : RkC 41 (t + 6) 43 S (lawW κ b h k) false D := by
        have q3 : D0 (a + 3) k = κ k := by rw [d0 _ (by omega), row 3 (by decide) (by decide)]; exact (a2 k hk8.1 hk8.2).1
        have q1 : D0 (a + 1) h = κ (25 + h) := by rw [d0 _ (by omega), row 1 (by decide) (by decide)]; exact (a1.2.2 h hh6.1 hh6.2).1
        have q2 : D0 (a + 2) h = κ (31 + h) := by rw [d0 _ (by omega), row 2 (by decide) (by decide)]; exact (a1.2.2 h hh6.1 hh6.2).2.1
        have q70 : D0 (a + 7) 0 = κ 24 := by rw [d0 _ (by omega), row 7 (by decide) (by decide)]; exact a6.1.1
        have q72 : D0 (a + 7) 2 = κ 44 := by rw [d0 _ (by omega), row 7 (by decide) (by decide)]; exact a6.2.2.1
        intro i x0 x1
        simp only [Bool.false_eq_true, if_false] at x1
        rw [fl_43 F]
        refine ⟨x1, ?_⟩
        rw [← hD]
        obtain rfl | rfl | rfl | rfl | rfl | rfl | rfl | rfl : i = 0 ∨ i = 1 ∨ i = 2 ∨ i = 3 ∨ i = 4 ∨ i = 5 ∨ i = 6 ∨ i = 7 := by omega
        all_goals simp [upC, lawW, n1, n2, n3, n7, q1, q2, q3, q70, q72]
      refine s_ask51 (d := d + 4) (w := lawW κ b h k) (cls := l) (cd := cd) F tx t108 hmi ⟨Or.inl rfl, ⟨tx_b6 tx, tx_t6 tx⟩, ⟨fx_b F (by decide), fx_t F (by decide)⟩, by omega, by decide, by omega, hw⟩ t8 t6 t7 (textP_len _ _ _ _ _ _ t4) (text_ok _ _ _ _ _ _ t4 (by decide)) (textP_all rule_sbd _ _ _ _ _ _ t4) l 0 D ca false rfl (Nat.zero_le _) ?_ hRK (by rw [dn 40 (by decide)]; exact d3) (by rw [dn 40 (by decide), d2]; decide) (fun C2 f2 v1 v2 v3 => ?_)
      · have : (fun a : Nat => D (t + a)) = (fun a : Nat => C (t + a)) := funext fun x => dhi _ (by omega)
        rw [this]; exact t5
      · refine hQ C2 (fun r r1 r2 r3 => ?_) ?_ v2 (fun z => ?_)
        · rw [fp_row f2 (fun k y => by unfold akx at y; omega), dn r r3, d0 r r1]
        · rw [v1, hca]; unfold cnK; rw [eL]; unfold b2; simp
        · rw [v3 z, dn 40 (by decide), d2]; unfold mdK; rw [eL]
  refine b_X2_ask_0 (d := d + 5) F ha ⟨hk8, fun z => main false ?_, fun z => main true ?_⟩
  all_goals
    rw [upC_ne (by omega), row 3 (by decide) (by decide), (a2 k hk8.1 hk8.2).1] at z
    simp [z]
