/-! 78.rdc2: the class reads parts, sums, tests -/
def LoopZ (τ : Tks) (o : Bool) (c : Int) (t : Nat) (Kpt : Nat → MS → MC → Qt → Prop) (Kl : Nat → Int → MS → MC → Qt → Prop) : Prop :=
  (∀ (d : Nat) (S : MS) (C : MC) (Q : Qt) (l : Nat) (p lv g : Nat) (pre : List Int), Fix S → TkC τ o C → p ≤ τ.length → RdS C p lv g pre → l < 400 → (tc τ p ≠ c → Q 1 S C) → (tc τ p = c → K_X9_emit_0 (d + 1) 0 0 (t : Int) ((0 : Nat) : Int) S C (fun _ Sq C2 => Sq = S ∧ K_X4_next_0 (d + 1) 0 0 S C2 (fun _ Sq C4 => Sq = S ∧ Kpt (d + 1) S C4 (fun r Sq C6 => Sq = S ∧ ((¬ r = 0 → K_X9_landHere_0 (d + 1) 0 0 (pre.length : Int) S C6 (fun _ Sq C8 => Sq = S ∧ Kl (d + 2) (w32 ((l : Int) + 1)) S C8 Q)) ∧ (r = 0 → Q 0 S C6)))))) → Kl (d + 2) (l : Int) S C Q) ∧
  (∀ (d : Nat) (S : MS) (C : MC) (Q : Qt), Fix S → Q 1 S C → Kl (d + 2) 400 S C Q)
theorem c_laz {τ : Tks} {o : Bool} {m g t : Nat} {c : Int} {stop : Bool} {pt : Rdr TSem} {P : TSem → Prop} {Kpt : Nat → MS → MC → Qt → Prop} {Kl : Nat → Int → MS → MC → Qt → Prop} (hpt : RdC τ o m g pt Kpt) (hG : Gd τ P pt) (hLn : Ln pt) (hl : LoopZ τ o c t Kpt Kl) (h0 : c ≠ 0) (h18 : c ≠ 18) (ht : t < 16) : ∀ (n : Nat) (f : TSem) (p0 p lv : Nat) (pre cd : List Int) (d : Nat) (S : MS) (C0 C : MC) (Q : Qt), n ≤ 400 → m ≤ d + 1 → Fix S → TkC τ o C0 → Fp crx C0 C → p ≤ τ.length → lv ≤ 50 → (pre ++ cd).length ≤ p → RdS C p lv g (pre ++ cd) → DrF τ C0 C p0 p → (∀ C' r, Fp crx C0 C' → PoC τ C0 C' p0 g pre r (lazP τ c (t : Int) stop pt n f p lv pre.length cd) → Q r S C') → Kl (d + 2) ((400 - n : Nat) : Int) S C Q
  | 0, f, p0, p, lv, pre, cd, d, S, C0, C, Q, hn, hm, F, T, fC, hp, hlv, hpl, st, dr, hk => hl.2 d S C Q F (hk C 1 fC ⟨rfl, st, dr⟩)
  | n + 1, f, p0, p, lv, pre, cd, d, S, C0, C, Q, hn, hm, F, T, fC, hp, hlv, hpl, st, dr, hk => by
    unfold lazP at hk
    have TC := TkC_fp T fC
    have hN := T.2.1
    refine hl.1 d S C Q (400 - (n + 1)) p lv g (pre ++ cd) F TC hp st (by omega) (fun z => hk C 1 fC (by rw [if_neg z]; exact ⟨rfl, st, dr⟩)) (fun z => ?_)
    have n18 : tc τ p ≠ 18 := fun y => h18 (z.symm.trans y)
    have hp1 := tc_in (τ := τ) (p := p) (by rw [z]; exact h0)
    rw [if_pos z] at hk
    refine c_emit (v := 0) F st (by omega) (by decide) ht (fun C2 f2 st2 e2 => ⟨rfl, ?_⟩)
    refine c_next F (TkC_fp TC f2) hp1 st2 (fun C4 f4 st4 e4 => ⟨rfl, ?_⟩)
    have g4 := Fp_tr fC (Fp_tr f2 f4)
    have dr4 := DrF_tr dr (DrF_one (e4.trans e2) n18)
    have el : ((pre ++ cd) ++ [16 * ((0 : Nat) : Int) + (t : Int)]).length = pre.length + (cd.length + 1) := by simp only [List.length_append, List.length_singleton]; omega
    refine hpt (d + 1) S C4 _ (p + 1) lv ((pre ++ cd) ++ [16 * ((0 : Nat) : Int) + (t : Int)]) hm F (TkC_fp T g4) hp1 hlv (by rw [el]; rw [List.length_append] at hpl; omega) st4 (fun C6 r f6 po => ⟨rfl, ?_⟩)
    have g6 := Fp_tr g4 f6
    rw [el] at po
    cases hs : pt (p + 1) lv (pre.length + (cd.length + 1)) with
    | inl q =>
      rw [hs] at po hk
      exact ⟨fun y => absurd po.1 y, fun _ => hk C6 0 g6 ⟨rfl, po.2⟩⟩
    | inr t1 =>
      obtain ⟨g1, q, lv', cd'⟩ := t1
      rw [hs] at po hk
      obtain ⟨a1, a2, _⟩ := hG _ _ _ _ _ _ _ hs
      have a3 := hLn _ _ _ _ _ _ _ hs
      refine ⟨fun _ => ?_, fun y => absurd (po.1.symm.trans y) (by decide)⟩
      have es : ((pre ++ cd) ++ [16 * ((0 : Nat) : Int) + (t : Int)]) ++ cd' = (pre ++ cd) ++ ((t : Int) :: cd') := by simp
      have st6 : RdS C6 q lv' g ((pre ++ cd) ++ ((t : Int) :: cd')) := by rw [← es]; exact po.2.1
      have en : ((pre ++ cd) ++ ((t : Int) :: cd')).length = pre.length + (cd.length + 1) + cd'.length := by simp only [List.length_append, List.length_cons]; omega
      rw [List.length_append] at hpl
      refine c_land F st6 (by rw [en]; omega) ht (fun C8 f8 st8 e8 => ⟨rfl, ?_⟩)
      rw [w32_l hn]
      rw [en] at st8
      have ea : (pre ++ cd) ++ ((16 * ((pre.length + (cd.length + 1) + cd'.length : Nat) : Int) + (t : Int)) :: cd') = pre ++ (cd ++ ((16 * ((pre.length + (cd.length + 1) + cd'.length : Nat) : Int) + (t : Int)) :: cd')) := by rw [List.append_assoc]
      rw [ea] at st8
      refine c_laz hpt hG hLn hl h0 h18 ht n (lazS stop f g1) p0 q lv' pre (cd ++ ((16 * ((pre.length + (cd.length + 1) + cd'.length : Nat) : Int) + (t : Int)) :: cd')) d S C0 C8 Q (by omega) hm F T (Fp_tr g6 f8) a1.2 (a2.2 hlv) ?_ st8 (DrF_tr dr4 (DrF_tr po.2.2 (DrF_nil e8))) hk
      simp only [List.length_append, List.length_cons]
      omega
theorem c_lazy {τ : Tks} {o : Bool} {m g t : Nat} {c : Int} {stop : Bool} {pt : Rdr TSem} {P : TSem → Prop} {Kpt K0 : Nat → MS → MC → Qt → Prop} {Kl : Nat → Int → MS → MC → Qt → Prop} (hpt : RdC τ o (m + 1) g pt Kpt) (hG : Gd τ P pt) (hLn : Ln pt) (hl : LoopZ τ o c t Kpt Kl) (h0 : c ≠ 0) (h18 : c ≠ 18) (ht : t < 16) (hK : ∀ (d : Nat) (S : MS) (C : MC) (Q : Qt), Fix S → Kpt d S C (fun r Sq C' => Sq = S ∧ ((¬ r = 0 → Kl (d + 1) 0 S C' Q) ∧ (r = 0 → Q 0 S C'))) → K0 (d + 1) S C Q) : RdC τ o (m + 2) g (lazyP τ c (t : Int) stop pt) K0 := by
  intro d S C Q p lv pre hm F T hp hlv hpl st hk
  obtain ⟨e, rfl⟩ : ∃ e, d = e + 2 := ⟨d - 2, by omega⟩
  refine hK (e + 1) S C Q F (hpt (e + 1) S C _ p lv pre (by omega) F T hp hlv hpl st (fun C1 r f1 po => ⟨rfl, ?_⟩))
  unfold lazyP at hk
  cases hs : pt p lv pre.length with
  | inl q =>
    rw [hs] at po hk
    exact ⟨fun y => absurd po.1 y, fun _ => hk C1 0 f1 ⟨rfl, po.2⟩⟩
  | inr t1 =>
    obtain ⟨g1, q, lv', cd'⟩ := t1
    rw [hs] at po hk
    obtain ⟨a1, a2, _⟩ := hG _ _ _ _ _ _ _ hs
    have a3 := hLn _ _ _ _ _ _ _ hs
    refine ⟨fun _ => ?_, fun y => absurd (po.1.symm.trans y) (by decide)⟩
    exact c_laz (stop := stop) hpt hG hLn hl h0 h18 ht 400 g1 p q lv' pre cd' e S C C1 Q (Nat.le_refl _) (by omega) F T f1 a1.2 (a2.2 hlv) (by rw [List.length_append]; omega) po.2.1 po.2.2 hk
theorem nat400 {l : Nat} (h : l < 400) : ¬ (400 : Int) ≤ (l : Int) := by omega
theorem lc_term (τ : Tks) (o : Bool) : LoopC τ o isMul (fun d S C Q => K_X4_part_0 d 0 0 S C Q) (fun d l S C Q => K_X4_product_11 d 0 0 l S C Q) := by
  refine ⟨fun d S C Q l p lv g pre F T hp st hl h0 h1 => ?_, fun d S C Q F h => b_X4_product_11 (d := d + 1) F ⟨fun _ => h, fun z => absurd (by decide) z⟩⟩
  have e8 := st.2.1
  have q42 := tk_eq T hp k42
  have q47 := tk_eq T hp k47
  have q37 := tk_eq T hp k37
  refine b_X4_product_11 (d := d + 1) F ⟨fun z => absurd z (nat400 hl), fun _ => ?_⟩
  rw [e8]
  refine ⟨fun z => ?_, fun z => ⟨fun z2 => ?_, fun z2 => ⟨fun z3 => h0 ?_, fun z3 => ?_⟩⟩⟩
  · have ht := q42.mp z
    have := h1 (by rw [ht]; rfl)
    rw [ht] at this
    exact b_X4_multiplication_0 F ⟨fun y => absurd z y, fun _ => ⟨rfl, this⟩⟩
  · have ht := q47.mp z2
    have := h1 (by rw [ht]; rfl)
    rw [ht] at this
    exact b_X4_multiplication_0 F ⟨fun y => ⟨fun y2 => absurd z2 y2, fun _ => ⟨rfl, this⟩⟩, fun y => absurd y z⟩
  · cases e : isMul (tc τ p) with
    | false => rfl
    | true =>
      rw [isMul_iff] at e
      rcases e with e | e | e
      · exact absurd (q42.mpr e) z
      · exact absurd (q47.mpr e) z2
      · exact absurd (q37.mpr e) z3
  · have ht := q37.mp z3
    have := h1 (by rw [ht]; rfl)
    rw [ht] at this
    exact b_X4_multiplication_0 F ⟨fun y => ⟨fun y2 => ⟨rfl, this⟩, fun y2 => absurd y2 z2⟩, fun y => absurd y z⟩
theorem lc_sum (τ : Tks) (o : Bool) : LoopC τ o isAdd (fun d S C Q => K_X4_product_0 d 0 0 S C Q) (fun d l S C Q => K_X4_sum_11 d 0 0 l S C Q) := by
  refine ⟨fun d S C Q l p lv g pre F T hp st hl h0 h1 => ?_, fun d S C Q F h => b_X4_sum_11 (d := d + 1) F ⟨fun _ => h, fun z => absurd (by decide) z⟩⟩
  have e8 := st.2.1
  have q43 := tk_eq T hp k43
  have q45 := tk_eq T hp k45
  refine b_X4_sum_11 (d := d + 1) F ⟨fun z => absurd z (nat400 hl), fun _ => ?_⟩
  rw [e8]
  refine ⟨fun z => b_X4_sum_36 (d := d + 1) F ?_, fun z => ⟨fun z2 => h0 ?_, fun z2 => b_X4_sum_36 (d := d + 1) F ?_⟩⟩
  · have ht := q43.mp z
    have := h1 (by rw [ht]; rfl)
    rw [ht] at this
    rw [e8]
    exact ⟨fun y => absurd z y, fun _ => this⟩
  · cases e : isAdd (tc τ p) with
    | false => rfl
    | true =>
      rw [isAdd_iff] at e
      rcases e with e | e
      · exact absurd (q43.mpr e) z
      · exact absurd (q45.mpr e) z2
  · have ht := q45.mp z2
    have := h1 (by rw [ht]; rfl)
    rw [ht] at this
    rw [e8]
    exact ⟨fun _ => this, fun y => absurd y z⟩
theorem lz_both (τ : Tks) (o : Bool) : LoopZ τ o 6 12 (fun d S C Q => K_X4_plain_0 d 0 0 S C Q) (fun d l S C Q => K_X4_both_11 d 0 0 l S C Q) := by
  refine ⟨fun d S C Q l p lv g pre F T hp st hl h0 h1 => ?_, fun d S C Q F h => b_X4_both_11 (d := d + 1) F ⟨fun _ => h, fun z => absurd (by decide) z⟩⟩
  have q := tk_eq T hp k280
  refine b_X4_both_11 (d := d + 1) F ⟨fun z => absurd z (nat400 hl), fun _ => ?_⟩
  rw [st.2.1, st.2.2.2.2.1]
  exact ⟨fun z => h0 (fun y => z (q.mpr y)), fun z => h1 (q.mp z)⟩
theorem lz_test (τ : Tks) (o : Bool) : LoopZ τ o 5 13 (fun d S C Q => K_X4_both_0 d 0 0 S C Q) (fun d l S C Q => K_X4_test_11 d 0 0 l S C Q) := by
  refine ⟨fun d S C Q l p lv g pre F T hp st hl h0 h1 => ?_, fun d S C Q F h => b_X4_test_11 (d := d + 1) F ⟨fun _ => h, fun z => absurd (by decide) z⟩⟩
  have q := tk_eq T hp k281
  refine b_X4_test_11 (d := d + 1) F ⟨fun z => absurd z (nat400 hl), fun _ => ?_⟩
  rw [st.2.1, st.2.2.2.2.1]
  exact ⟨fun z => h0 (fun y => z (q.mpr y)), fun z => h1 (q.mp z)⟩
/-! words -/
theorem kRW : ∀ n : Nat, n < 286 → (((n < 256 ∨ 264 ≤ n) → ¬ (8 ≤ mcK n ∧ mcK n ≤ 15)) ∧ (256 ≤ n → n < 264 → (8 ≤ mcK n ∧ mcK n ≤ 15) ∧ lwW (mcK n) = ((n - 256 : Nat) : Int))) := by decide +kernel
theorem tkN {τ : Tks} {o : Bool} {C : MC} {p : Nat} (T : TkC τ o C) (hp : p ≤ τ.length) : ∃ n : Nat, C 37 p = n ∧ n < 286 ∧ tc τ p = mcK n := by
  obtain ⟨a, b, _⟩ := T.2.2.1 p hp
  obtain ⟨n, hn⟩ : ∃ n : Nat, C 37 p = n := ⟨(C 37 p).toNat, by omega⟩
  rw [hn] at a b
  exact ⟨n, hn, by omega, a⟩
theorem w32_sub {n : Nat} (h : 256 ≤ n) (h2 : n < 286) : w32 ((n : Int) - 256) = ((n - 256 : Nat) : Int) := by rw [w32_lit (by omega)]; omega
theorem c_rword {d : Nat} {τ : Tks} {p lv g : Nat} {pre : List Int} {S : MS} {C : MC} {Q : Qt} (F : Fix S) (T : TkC τ false C) (hp : p ≤ τ.length) (hpl : pre.length ≤ p) (st : RdS C p (lv + 1) g pre) (hk : ∀ C' r, Fp crx C C' → PoC τ C C' p g pre r (wordP τ false p lv) → Q r S C') : K_X4_readRuleWord_0 (d + 1) 0 0 S C Q := by
  obtain ⟨n, hn, hn2, hn3⟩ := tkN T hp
  have hN := T.2.1
  obtain ⟨t1, t2⟩ := kRW n hn2
  have no : (n < 256 ∨ 264 ≤ n) → Q 0 S C := fun z => hk C 0 Fp_rf (by
    unfold wordP
    simp only [Bool.false_eq_true, if_false]
    rw [if_neg (by rw [hn3]; exact t1 z)]
    exact ⟨rfl, hp, st.1⟩)
  refine b_X4_readRuleWord_0 F ?_
  rw [st.2.1, hn]
  refine ⟨fun z => no (Or.inl (Int.ofNat_lt.mp z)), fun z => ⟨fun z2 => ?_, fun z2 => no (Or.inr (Int.ofNat_le.mp (Int.not_lt.mp z2)))⟩⟩
  have g1 : 256 ≤ n := Int.ofNat_le.mp (Int.not_lt.mp z)
  have g2 : n < 264 := Int.ofNat_lt.mp z2
  obtain ⟨u1, u2⟩ := t2 g1 g2
  have hp1 : p < τ.length := tc_in (by rw [hn3]; intro y; rw [y] at u1; exact absurd u1.1 (by decide))
  have n18 : tc τ p ≠ 18 := by rw [hn3]; intro y; rw [y] at u1; exact absurd u1.2 (by decide)
  rw [w32_sub g1 hn2]
  refine c_emit (t := 2) F st (by clear hk no st; omega) (by clear hk no st; omega) (by decide) (fun C2 f2 st2 e2 => ⟨rfl, c_next F (TkC_fp T f2) hp1 st2 (fun C4 f4 st4 e4 => ⟨rfl, hk C4 1 (Fp_tr f2 f4) ?_⟩)⟩)
  unfold wordP leafP
  simp only [Bool.false_eq_true, if_false]
  rw [if_pos (by rw [hn3]; exact u1), hn3, u2]
  exact ⟨rfl, st4, DrF_one (e4.trans e2) n18⟩
theorem kOW : ∀ n : Nat, n < 286 → (((n : Int) < 258 ∨ 268 < (n : Int)) ∨ n = 259 ∨ n = 260 ∨ n = 261 ∨ n = 263 → ¬ (14 ≤ mcK n ∧ mcK n ≤ 20)) ∧ (n = 258 → mcK n = 14) ∧ (n = 262 → mcK n = 15) ∧ (n = 264 → mcK n = 16) ∧ (n = 265 → mcK n = 17) ∧ (n = 266 → mcK n = 18) ∧ (n = 267 → mcK n = 19) ∧ (n = 268 → mcK n = 20) := by decide +kernel
theorem wordT_no {τ : Tks} {p lv : Nat} (h : ¬ (14 ≤ tc τ p ∧ tc τ p ≤ 20)) : wordP τ true p lv = .inl p := by
  unfold wordP
  simp only [if_true]
  rw [if_neg (by omega), if_neg (by omega), if_neg (by omega)]
theorem c_ow84 {d : Nat} {τ : Tks} {p q lv g : Nat} {l1 l2 v : Nat} {pre : List Int} {S : MS} {C0 C : MC} {Q : Qt} (F : Fix S) (st : RdS C q lv g pre) (hl : pre.length < 400) (hv : v = l1 + l2) (hv2 : v < 100) (e0 : C 30 2 = C0 30 2) (hpq : ∀ j, p ≤ j → j < q → tc τ j = 18 → l1 = 3) (hk : ∀ C', Fp crx C C' → RdS C' q lv g (pre ++ [16 * (v : Int) + 2]) → DrF τ C0 C' p q → Q 1 S C') : K_X4_readOrderWord_84 (d + 1) 0 0 (l1 : Int) (l2 : Int) S C Q := by
  have ev : w32 ((l1 : Int) + (l2 : Int)) = (v : Int) := by rw [w32_lit (by omega)]; omega
  have go : ∀ x : Int, (x = 0 ∨ x = 1) → (C 30 2 = 1 → x = 1) → (l1 = 3 → x = 1) → K_X9_emit_0 d 0 0 2 (v : Int) S (upC C 30 2 x) (fun _ Sq C2 => Sq = S ∧ Q 1 S C2) := by
    intro x hx01 hx hx2
    obtain ⟨s1, s2, s3, s4, s5, s6⟩ := st
    have st' : RdS (upC C 30 2 x) q lv g pre := ⟨by rw [upC_ne (by decide)]; exact s1, by rw [upC_ne (by decide), upC_ne (by decide)]; exact s2, by rw [upC_ne (by decide)]; exact s3, by rw [upC_ne (by decide)]; exact s4, by rw [upC_sK (by decide)]; exact s5, fun j y hj => by rw [upC_ne (by decide)]; exact s6 j y hj⟩
    refine c_emit (t := 2) F st' hl (by omega) (by decide) (fun C2 f2 st2 e2 => ⟨rfl, hk C2 (Fp_tr (Fp_up (Or.inr (Or.inl ⟨rfl, Or.inr rfl⟩)) Fp_rf) f2) st2 ⟨fun z => ?_, fun j h1 h2 h3 => ?_, fun _ => ?_⟩⟩)
    · rw [e2, upC_at]; exact hx (e0.trans z)
    · rw [e2, upC_at]; exact hx2 (hpq j h1 h2 h3)
    · rw [e2, upC_at]; exact hx01
  refine b_X4_readOrderWord_84 (d := d) F ?_
  rw [ev]
  exact ⟨fun _ => go 1 (Or.inr rfl) (fun _ => rfl) (fun _ => rfl), fun z => ⟨fun z2 => go 0 (Or.inl rfl) (fun y => absurd (z.symm.trans y) (by decide)) (fun y => absurd (by rw [y]; rfl) z2), fun _ => go 1 (Or.inr rfl) (fun _ => rfl) (fun _ => rfl)⟩⟩
/-- a number behind a word -/
theorem c_num {τ : Tks} {o : Bool} {C : MC} {p : Nat} {hi : Int} (T : TkC τ o C) (hp : p ≤ τ.length) (hhi : hi ≤ 1000) : (C 37 p = 284 ∧ C 39 p ≤ hi) ↔ (tc τ p = 50 ∧ 0 ≤ tv τ p ∧ tv τ p ≤ hi) := by
  have q := tk_eq T hp k284
  obtain ⟨_, _, _, b, c⟩ := T.2.2.1 p hp
  constructor
  · intro h
    obtain ⟨b1, b2⟩ := b h.1
    refine ⟨q.mp h.1, c, ?_⟩
    rcases Int.lt_or_le 1000 (tv τ p) with z | z
    · have := b2 z
      rw [this] at h
      exact absurd h.2 (by clear b1 b2 this; omega)
    · rw [b1 z] at h; exact h.2
  · intro h
    have z := q.mpr h.1
    obtain ⟨b1, b2⟩ := b z
    exact ⟨z, by rw [b1 (Int.le_trans h.2.2 hhi)]; exact h.2.2⟩
theorem c_nval {τ : Tks} {o : Bool} {C : MC} {p : Nat} (T : TkC τ o C) (hp : p ≤ τ.length) (h : tc τ p = 50 ∧ 0 ≤ tv τ p ∧ tv τ p ≤ 1000) : C 39 p = tv τ p := by
  obtain ⟨_, _, _, b, c⟩ := T.2.2.1 p hp
  exact (b ((tk_eq T hp k284).mpr h.1)).1 h.2.2
theorem c_oword {d : Nat} {τ : Tks} {p lv g : Nat} {pre : List Int} {S : MS} {C : MC} {Q : Qt} (F : Fix S) (T : TkC τ true C) (hp : p ≤ τ.length) (hpl : pre.length ≤ p) (st : RdS C p (lv + 1) g pre) (hk : ∀ C' r, Fp crx C C' → PoC τ C C' p g pre r (wordP τ true p lv) → Q r S C') : K_X4_readOrderWord_0 (d + 2) 0 0 S C Q := by
  obtain ⟨n, hn, hn2, hn3⟩ := tkN T hp
  have hN := T.2.1
  obtain ⟨t0, t14, t15, t16, t17, t18, t19, t20⟩ := kOW n hn2
  have no : ¬ (14 ≤ mcK n ∧ mcK n ≤ 20) → Q 0 S C := fun z => hk C 0 Fp_rf (by
    rw [wordT_no (by rw [hn3]; exact z)]
    exact ⟨rfl, hp, st.1⟩)
  have nn : ∀ k : Nat, (n : Int) = (k : Int) → n = k := fun k z => Int.ofNat_inj.mp z
  -- a word alone
  have one : ∀ w : Nat, w < 5 → mcK n = (w : Int) + 15 → K_X4_next_0 (d + 1) 0 0 S C (fun _ Sq C4 => Sq = S ∧ (((w : Int) = 5 → K_X4_readOrderWord_32 (d + 2) 0 0 (w : Int) S C4 Q) ∧ (¬ (w : Int) = 5 → ((¬ (w : Int) = 21 → K_X4_readOrderWord_84 (d + 2) 0 0 (w : Int) 0 S C4 Q) ∧ ((w : Int) = 21 → K_X4_readOrderWord_32 (d + 2) 0 0 (w : Int) S C4 Q))))) := by
    intro w hw e
    have hp1 : p < τ.length := tc_in (by rw [hn3, e]; clear hk no st; omega)
    refine c_next F T hp1 st (fun C4 f4 st4 e4 => ⟨rfl, fun z => absurd z (by clear hk no st; omega), fun _ => ⟨fun _ => ?_, fun z => absurd z (by clear hk no st; omega)⟩⟩)
    refine c_ow84 (l2 := 0) (v := w) (p := p) (τ := τ) F st4 (by clear hk no st; omega) rfl (by clear hk no st; omega) e4 (fun j h1 h2 h3 => ?_) (fun C' f' st' dr' => hk C' 1 (Fp_tr f4 f') ?_)
    · have : j = p := Nat.le_antisymm (Nat.le_of_lt_succ h2) h1
      rw [this, hn3, e] at h3
      clear hk no st
      omega
    · unfold wordP leafP
      simp only [if_true]
      rw [hn3, e, if_neg (by clear hk no st; omega), if_neg (by clear hk no st; omega), if_pos (by clear hk no st; omega)]
      have : (w : Int) + 15 - 15 = w := by clear hk no st; omega
      rw [this]
      exact ⟨rfl, st', dr'⟩
  -- a word and a number
  have two : ∀ (w : Nat) (c hi : Int), (w = 5 ∧ c = 20 ∧ hi = 15) ∨ (w = 21 ∧ c = 14 ∧ hi = 7) → mcK n = c → K_X4_next_0 (d + 1) 0 0 S C (fun _ Sq C4 => Sq = S ∧ (((w : Int) = 5 → K_X4_readOrderWord_32 (d + 2) 0 0 (w : Int) S C4 Q) ∧ (¬ (w : Int) = 5 → ((¬ (w : Int) = 21 → K_X4_readOrderWord_84 (d + 2) 0 0 (w : Int) 0 S C4 Q) ∧ ((w : Int) = 21 → K_X4_readOrderWord_32 (d + 2) 0 0 (w : Int) S C4 Q))))) := by
    intro w c hi hw e
    have hp1 : p < τ.length := tc_in (by rw [hn3, e]; clear hk no st; omega)
    have n18 : tc τ p ≠ 18 := by rw [hn3, e]; clear hk no st; omega
    refine c_next F T hp1 st (fun C4 f4 st4 e4 => ⟨rfl, ?_⟩)
    have T4 := TkC_fp T f4
    have q := c_num (p := p + 1) (hi := hi) T4 hp1 (by clear hk no st; omega)
    have s8 := st4.2.1
    have s7 := st4.1
    have hw2 : wordP τ true p lv = if tc τ (p + 1) = 50 ∧ 0 ≤ tv τ (p + 1) ∧ tv τ (p + 1) ≤ hi then leafP (fun x => some (x ((w : Int) + tv τ (p + 1)))) (p + 2) lv (16 * ((w : Int) + tv τ (p + 1)) + 2) else .inl (p + 1) := by
      unfold wordP
      simp only [if_true]
      rw [hn3, e]
      rcases hw with ⟨w1, w2, w3⟩ | ⟨w1, w2, w3⟩
      · rw [w1, w2, w3, if_neg (by decide), if_pos rfl]; rfl
      · rw [w1, w2, w3, if_pos rfl]; rfl
    rw [hw2] at hk
    have bad : ¬ (C4 37 ((p + 1 : Nat) : Int) = 284 ∧ C4 39 ((p + 1 : Nat) : Int) ≤ hi) → Q 0 S C4 := fun z => hk C4 0 f4 (by rw [if_neg (fun y => z (q.mpr y))]; exact ⟨rfl, hp1, s7⟩)
    have good : C4 37 ((p + 1 : Nat) : Int) = 284 → C4 39 ((p + 1 : Nat) : Int) ≤ hi → K_X4_next_0 (d + 1) 0 0 S C4 (fun _ Sq C2 => Sq = S ∧ K_X4_readOrderWord_84 (d + 2) 0 0 (w : Int) (C4 39 ((p + 1 : Nat) : Int)) S C2 Q) := by
      intro z1 z2
      have hh := q.mp ⟨z1, z2⟩
      have hp2 : p + 1 < τ.length := tc_in (by rw [hh.1]; decide)
      rw [c_nval (p := p + 1) T4 hp1 ⟨hh.1, hh.2.1, by clear hk no st bad; omega⟩]
      obtain ⟨y, hy⟩ : ∃ y : Nat, tv τ (p + 1) = y := ⟨(tv τ (p + 1)).toNat, (Int.toNat_of_nonneg hh.2.1).symm⟩
      rw [hy] at hh hk ⊢
      refine c_next F T4 hp2 st4 (fun C6 f6 st6 e6 => ⟨rfl, c_ow84 (d := d + 1) (l1 := w) (l2 := y) (v := w + y) (p := p) (τ := τ) F st6 (by clear hk no st bad; omega) rfl (by clear hk no st bad; omega) (e6.trans e4) (fun j h1 h2 h3 => ?_) (fun C' f' st' dr' => hk C' 1 (Fp_tr f4 (Fp_tr f6 f')) ?_)⟩)
      · exfalso
        by_cases qj : j = p
        · rw [qj] at h3; exact n18 h3
        · have : j = p + 1 := by clear hk no st bad; omega
          rw [this, hh.1] at h3
          exact absurd h3 (by decide)
      · rw [if_pos hh]
        have ec : ((w + y : Nat) : Int) = (w : Int) + (y : Int) := by clear hk no st bad; omega
        rw [ec] at st'
        exact ⟨rfl, st', dr'⟩
    have bd := in_bd hp1 hN
    have h32 : K_X4_readOrderWord_32 (d + 2) 0 0 (w : Int) S C4 Q := by
      refine b_X4_readOrderWord_32 (d := d + 1) F ?_
      rw [s8, s7]
      rcases hw with ⟨w1, w2, w3⟩ | ⟨w1, w2, w3⟩
      · refine ⟨fun z => absurd (by rw [w1]; rfl) z, fun _ => ⟨fun z => bad (fun y => z y.1), fun z => ⟨bd, fun z2 => ⟨bd, good z (by rw [w3]; exact Int.le_of_lt_add_one z2)⟩, fun z2 => bad (fun y => z2 (Int.lt_of_le_of_lt y.2 (by rw [w3]; decide)))⟩⟩⟩
      · refine ⟨fun _ => ⟨fun z => bad (fun y => z y.1), fun z => ⟨bd, fun z2 => ⟨bd, good z (by rw [w3]; exact Int.le_of_lt_add_one z2)⟩, fun z2 => bad (fun y => z2 (Int.lt_of_le_of_lt y.2 (by rw [w3]; decide)))⟩⟩, fun z => absurd z (by rw [w1]; decide)⟩
    rcases hw with ⟨w1, w2, w3⟩ | ⟨w1, w2, w3⟩
    · exact ⟨fun _ => h32, fun z => absurd (by rw [w1]; rfl) z⟩
    · exact ⟨fun z => absurd z (by rw [w1]; decide), fun _ => ⟨fun z => absurd (by rw [w1]; rfl) z, fun _ => h32⟩⟩
  refine b_X4_readOrderWord_0 (d := d + 1) F ?_
  rw [st.2.1, hn]
  refine b_X4_orderWord_0 F ⟨fun z => ⟨rfl, fun y => absurd rfl y, fun _ => no (t0 (Or.inl z))⟩, fun z => ⟨rfl, fun _ => two 21 14 7 (Or.inr ⟨rfl, rfl, rfl⟩) (t14 (nn 258 z)), fun y => absurd y (by decide)⟩, fun z => ⟨rfl, fun y => absurd rfl y, fun _ => no (t0 (Or.inr (Or.inl (nn 259 z))))⟩, fun z => ⟨rfl, fun y => absurd rfl y, fun _ => no (t0 (Or.inr (Or.inr (Or.inl (nn 260 z)))))⟩, fun z => ⟨rfl, fun y => absurd rfl y, fun _ => no (t0 (Or.inr (Or.inr (Or.inr (Or.inl (nn 261 z))))))⟩, fun z => ⟨rfl, fun _ => one 0 (by decide) (t15 (nn 262 z)), fun y => absurd y (by decide)⟩, fun z => ⟨rfl, fun y => absurd rfl y, fun _ => no (t0 (Or.inr (Or.inr (Or.inr (Or.inr (nn 263 z))))))⟩, fun z => ⟨rfl, fun _ => one 1 (by decide) (t16 (nn 264 z)), fun y => absurd y (by decide)⟩, fun z => ⟨rfl, fun _ => one 2 (by decide) (t17 (nn 265 z)), fun y => absurd y (by decide)⟩, fun z => ⟨rfl, fun _ => one 3 (by decide) (t18 (nn 266 z)), fun y => absurd y (by decide)⟩, fun z => ⟨rfl, fun _ => one 4 (by decide) (t19 (nn 267 z)), fun y => absurd y (by decide)⟩, fun z => ⟨rfl, fun _ => two 5 20 15 (Or.inl ⟨rfl, rfl, rfl⟩) (t20 (nn 268 z)), fun y => absurd y (by decide)⟩⟩
