/-! 45.play: what the class's players tell -/
def S44 (S S1 : MS) : Prop := Fix S1 ∧ S1.1 = S.1 ∧ S1.2.1 = S.2.1 ∧ S1.2.2.1 = S.2.2.1 ∧ S1.2.2.2.2 = S.2.2.2.2 ∧ ∀ x k, x ≠ 44 → S1.2.2.2.1 x k = S.2.2.2.1 x k
theorem S44_up {S : MS} (F : Fix S) (v : Int) : S44 S (upP S 44 8 v) := ⟨fix_street F, rfl, rfl, rfl, rfl, fun x k hx => by
  show upC S.2.2.2.1 44 8 v x k = _
  rw [upC_ne hx]⟩
theorem S44_rf {S : MS} (F : Fix S) : S44 S S := ⟨F, rfl, rfl, rfl, rfl, fun _ _ _ => rfl⟩
theorem S44_tr {S S1 S2 : MS} (h : S44 S S1) (g : S44 S1 S2) : S44 S S2 := ⟨g.1, g.2.1.trans h.2.1, g.2.2.1.trans h.2.2.1, g.2.2.2.1.trans h.2.2.2.1, g.2.2.2.2.1.trans h.2.2.2.2.1, fun x k hx => (g.2.2.2.2.2 x k hx).trans (h.2.2.2.2.2 x k hx)⟩
theorem S44_Ss {S S1 : MS} (h : S44 S S1) : Ss S S1 := ⟨h.2.1, h.2.2.1, h.2.2.2.1, h.2.2.2.2.1, fun a k h1 _ _ => h.2.2.2.2.2 a k h1⟩
/-- cells of the judge and the players -/
def plx (x : Int) (_ : Int) : Prop := 40 ≤ x ∧ x ≤ 51
theorem AskC_cong {S : MS} {C C1 : MC} {a : Int} {b n : Nat} {mi : Int} {cn : Nat → Nat → Bool} {md : Nat → Nat → Int} (h : AskC S C a b n mi cn md) (hc : ∀ r, (a ≤ r ∧ r < a + 8) ∨ 108 ≤ r → C1 r = C r) : AskC S C1 a b n mi cn md :=
  fun d C' hh k Q g1 => h d C' hh k Q (fun r hr => by rw [g1 r hr, hc r hr])
/-- a street of the class, with what its houses may and mind -/
def SpC (S : MS) (C : MC) (a : Int) (n : Nat) (hd rc : Nat → Int) (X : Nat → Nat) (cn : Nat → Nat → Nat → Bool) (md : Nat → Nat → Nat → Int) : Prop :=
  isSt a ∧ Bt C a n hd rc ∧ (∀ b, b < 16 → X b < 256 ∧ C (a + 4) b = X b) ∧ (∀ b h k, 0 ≤ md b h k ∧ md b h k ≤ 99) ∧ ∀ b mi, b < 16 → (mi = 0 ∨ mi = 1) → ∀ S1, S44 S S1 → AskC S1 C a b n mi (cn b) (md b)
theorem SpC_keep {S S' : MS} {C C' : MC} {a : Int} {n : Nat} {hd rc : Nat → Int} {X : Nat → Nat} {cn : Nat → Nat → Nat → Bool} {md : Nat → Nat → Nat → Int} (h : SpC S C a n hd rc X cn md) (hs : S44 S S') (hf : Fp plx C C') : SpC S' C' a n hd rc X cn md := by
  obtain ⟨ha, h1, h2, h3, h4⟩ := h
  have row : ∀ r, (a ≤ r ∧ r < a + 8) ∨ 108 ≤ r → C' r = C r := fun r hr => funext fun k => hf r k (by unfold plx; rcases ha with z | z | z | z | z <;> omega)
  refine ⟨ha, Bt_cong h1 (row _ (by omega)) (row _ (by omega)) (row _ (by omega)), fun b hb => ⟨(h2 b hb).1, by rw [row _ (by omega)]; exact (h2 b hb).2⟩, h3, fun b mi hb hmi S1 hS1 => AskC_cong (h4 b mi hb hmi S1 (S44_tr hs hS1)) row⟩
theorem upP_at (S : MS) (a k v : Int) : (upP S a k v).2.2.2.1 a k = v := upC_at S.2.2.2.1 a k v
theorem s_canHave {d b n G : Nat} {a : Int} {S : MS} {C : MC} {hd rc : Nat → Int} {X : Nat → Nat} {cn : Nat → Nat → Nat → Bool} {md : Nat → Nat → Nat → Int} {Q : Qt} (F : Fix S) (h : SpC S C a n hd rc X cn md) (hb : b < 16) (hG : G < 64)
    (hk : ∀ r S' C', S44 S S' → Fp plx C C' → (r = 1 ∧ Cv (okP (cn b) hd rc) (inH n G) (X b) ∨ r = 0 ∧ ¬ Cv (okP (cn b) hd rc) (inH n G) (X b)) → Q r S' C') : K_X3_canHave_0 (d + 19) 0 0 a b G S C Q := by
  obtain ⟨ha, h1, h2, h3, h4⟩ := h
  obtain ⟨b1, b2, b3⟩ := h1
  obtain ⟨x1, x2⟩ := h2 b hb
  have F1 := fix_street F (v := a)
  refine b_X3_canHave_0 F ha (s_lookAt (d := d + 11) F ha hb x1 b1 (h4 b 0 hb (Or.inl rfl) _ (S44_up F a)) x2 b2 (fun C1 hl => ⟨F1, ?_⟩))
  obtain ⟨l1, l2, l3⟩ := hl
  have f1 : Fp plx C C1 := fun x k hxk => by unfold plx at hxk; rw [l1 x (by unfold lkR; omega) (by omega)]
  have row : ∀ r, a ≤ r → r < a + 8 → C1 r = C r := fun r h1 h2 => funext fun k => f1 r k (by unfold plx; rcases ha with z | z | z | z | z <;> omega)
  refine s_coveredBy (d := d) (A := canM (cn b) (X b)) (X := X b) F1 ha (upP_at S 44 8 a) (Bt_cong ⟨b1, b2, b3⟩ (row _ (by omega) (by omega)) (row _ (by omega) (by omega)) (row _ (by omega) (by omega))) (fun j hj => ⟨(l3 j hj).1, canM_lt _ _ _⟩) l2 x1 hG (fun r hr => ⟨rfl, by omega, hk r _ _ (S44_up F a) f1 ?_⟩)
  rw [Cv_canM x1] at hr
  exact hr
theorem all_eq {n : Nat} (hn : n ≤ 6) : w32 (iShl 1 (n : Int) - 1) = ((2 ^ n - 1 : Nat) : Int) ∧ 2 ^ n - 1 < 64 := by
  have h1 := Nat.pow_le_pow_right (n := 2) (by decide) hn
  have h0 := Nat.two_pow_pos n
  rw [iShl1 n (by omega), w32_lit (by omega)]
  omega
theorem inH_all {n j : Nat} : inH n (2 ^ n - 1) j ↔ j < n := by
  unfold inH
  rw [Nat.testBit_two_pow_sub_one]
  simp
/-- beat b can be had in full -/
def had (n : Nat) (hd rc : Nat → Int) (X : Nat → Nat) (cn : Nat → Nat → Nat → Bool) (G b : Nat) : Prop := Cv (okP (cn b) hd rc) (inH n G) (X b)
def hadA (n : Nat) (hd rc : Nat → Int) (X : Nat → Nat) (cn : Nat → Nat → Nat → Bool) (b : Nat) : Prop := Cv (okP (cn b) hd rc) (fun h => h < n) (X b)
theorem had_all {n : Nat} {hd rc : Nat → Int} {X : Nat → Nat} {cn : Nat → Nat → Nat → Bool} {b : Nat} : had n hd rc X cn (2 ^ n - 1) b ↔ hadA n hd rc X cn b := Cv_cong (fun _ => inH_all)
/-- the first beat that can't be had -/
def Fst (g : Nat → Prop) (r : Int) : Prop := (r = 16 ∧ ∀ b, b < 16 → g b) ∨ ∃ b : Nat, r = b ∧ b < 16 ∧ ¬ g b ∧ ∀ j, j < b → g j
theorem Fst_uniq {g g' : Nat → Prop} {r r' : Int} (hg : ∀ b, b < 16 → (g b ↔ g' b)) (h : Fst g r) (h' : Fst g' r') : r = r' := by
  rcases h with ⟨e, h⟩ | ⟨b, e, hb, h1, h2⟩ <;> rcases h' with ⟨e', h'⟩ | ⟨b', e', hb', h1', h2'⟩
  · omega
  · exact absurd ((hg b' hb').mp (h b' hb')) h1'
  · exact absurd ((hg b hb).mpr (h' b hb)) h1
  · rcases Nat.lt_trichotomy b b' with z | z | z
    · exact absurd ((hg b hb).mpr (h2' b z)) h1
    · omega
    · exact absurd ((hg b' hb').mp (h2 b' z)) h1'
theorem s_firstLost {d n : Nat} {a : Int} {S : MS} {C : MC} {hd rc : Nat → Int} {X : Nat → Nat} {cn : Nat → Nat → Nat → Bool} {md : Nat → Nat → Nat → Int} {Q : Qt} (F : Fix S) (h : SpC S C a n hd rc X cn md) (hk : ∀ r S' C', S44 S S' → Fp plx C C' → Fst (hadA n hd rc X cn) r → Q r S' C') : K_X3_firstLost_0 (d + 20) 0 0 a S C Q := by
  have ha := h.1
  have hn := h.2.1.1
  obtain ⟨e1, e2⟩ := all_eq hn
  refine b_X3_firstLost_0 F ha ?_
  refine up_ind (α := MS × MC) (P := fun b D => S44 S D.1 ∧ Fp plx C D.2 ∧ ∀ j, j < b → hadA n hd rc X cn j) (K := fun b D => K_X3_firstLost_2 (d + 20) 0 0 a (b : Int) D.1 D.2 Q) 16 ?_ ?_ 0 (by omega) (S, C) ⟨S44_rf F, Fp_rf, fun j hj => absurd hj (Nat.not_lt_zero j)⟩
  · intro D ⟨p1, p2, p3⟩
    exact b_X3_firstLost_2 p1.1 ha ⟨fun _ => hk 16 _ _ p1 p2 (Or.inl ⟨rfl, p3⟩), fun z => absurd (by decide) z⟩
  · intro b D hb ⟨p1, p2, p3⟩ ih
    have hD := SpC_keep h p1 p2
    refine b_X3_firstLost_2 p1.1 ha ⟨fun z => by omega, fun _ => ?_⟩
    rw [hD.2.1.2.1, e1]
    refine s_canHave p1.1 hD hb e2 (fun r S' C' q1 q2 q3 => ⟨q1.1, fun z => ?_, fun z => hk b _ _ (S44_tr p1 q1) (Fp_tr p2 q2) (Or.inr ⟨b, rfl, hb, ?_, p3⟩)⟩)
    · rw [w32_succ (by omega)]
      refine ih (S', C') ⟨S44_tr p1 q1, Fp_tr p2 q2, fun j hj => ?_⟩
      by_cases e : j = b
      · rw [e]
        rcases q3 with ⟨_, q3⟩ | ⟨q3, _⟩
        · exact had_all.mp q3
        · exact absurd q3 z
      · exact p3 j (by omega)
    · intro q
      rcases q3 with ⟨q3, _⟩ | ⟨_, q3⟩
      · omega
      · exact q3 (had_all.mpr q)
/-! who could have played a key -/
theorem Vd_only {cn cn' : Nat → Nat → Bool} {hd rc : Nat → Int} {n X key h : Nat} {a : Nat → Nat} (hX : X < 256) (hx : X.testBit key = true) (hh : h < n) (hc : ∀ j k, X.testBit k = true → (cn' j k = true ↔ cn j k = true ∧ (k = key → j = h))) : Vd (okP cn' hd rc) (fun j => j < n) X a ↔ Vd (okP cn hd rc) (fun j => j < n) X a ∧ a key = h := by
  constructor
  · intro v
    refine ⟨⟨v.1, fun j hj => ⟨fun k hk => ?_, (v.2 j hj).2⟩⟩, ?_⟩
    · exact ((hc j k (mSub_bit.mp (prt_sub hX) k hk)).mp ((v.2 j hj).1 k hk)).1
    · have h1 := v.1 key hx
      have h2 := (v.2 (a key) h1).1 key (by rw [prt_bit hX, hx]; simp)
      exact ((hc _ _ hx).mp h2).2 rfl
  · rintro ⟨v, e⟩
    refine ⟨v.1, fun j hj => ⟨fun k hk => ?_, (v.2 j hj).2⟩⟩
    have h1 := mSub_bit.mp (prt_sub hX) k hk
    refine (hc j k h1).mpr ⟨(v.2 j hj).1 k hk, fun e2 => ?_⟩
    rw [prt_bit hX] at hk
    simp at hk
    rw [e2] at hk
    rw [← hk.2]; exact e
/-- the houses that might play key, as bits -/
def mgt (ok : Nat → Nat → Prop) (n X key h : Nat) : Prop := X.testBit key = true ∧ ∃ a, Vd ok (fun j => j < n) X a ∧ a key = h
theorem s_leaveKey {d mc ms n h key : Nat} {a : Int} {S : MS} {C : MC} {B : Nat → Nat} {Q : Qt} (F : Fix S) (ha : isSt a) (hS : S.2.2.2.1 44 8 = a) (hn : C a 0 = n) (hn6 : n ≤ 6) (hk8 : key < 8) (hB : ∀ j, j < n → C 46 j = B j ∧ B j < 256) (hk : ∀ C', Fp (fun x _ => x = 45) C C' → (∀ j, j < n → C' 45 j = ((if j = h then B j else mDiff (B j) (2 ^ key) : Nat) : Int)) → Q 0 S C') : K_X3_leaveKeyTo_0 d mc ms h key S C Q := by
  have hst : a ≠ 45 := by rcases ha with z | z | z | z | z <;> omega
  refine b_X3_leaveKeyTo_0 F ?_
  refine up_ind (α := MC) (P := fun i C' => Fp (fun x _ => x = 45) C C' ∧ ∀ j, j < i → C' 45 j = ((if j = h then B j else mDiff (B j) (2 ^ key) : Nat) : Int)) (K := fun i C' => K_X3_leaveKeyTo_2 d mc ms h key (i : Int) S C' Q) n ?_ ?_ 0 (by omega) C ⟨Fp_rf, fun j hj => absurd hj (Nat.not_lt_zero j)⟩
  · intro C' ⟨c1, c2⟩
    refine b_X3_leaveKeyTo_2 F (fun st hst1 => ?_)
    rw [hS] at hst1
    subst hst1
    rw [c1 a 0 hst, hn]
    exact ⟨ha, fun _ => hk C' c1 c2, fun z => by omega⟩
  · intro i C' hi ⟨c1, c2⟩ ih
    obtain ⟨q1, q2⟩ := hB i hi
    have hp : 2 ^ key < 256 := Nat.pow_lt_pow_right (by decide) (show key < 8 by omega)
    refine b_X3_leaveKeyTo_2 F (fun st hst1 => ?_)
    rw [hS] at hst1
    subst hst1
    rw [c1 a 0 hst, hn, c1 46 i (by omega), q1, iShl1 key (by omega), iDiff_nat (by omega) (by omega), w32_succ (by omega)]
    refine ⟨ha, fun z => by omega, fun _ => ⟨fun z => ⟨by omega, by omega, ih _ ⟨Fp_up rfl c1, fun j hj => ?_⟩⟩, fun z => ⟨by omega, by omega, ih _ ⟨Fp_up rfl c1, fun j hj => ?_⟩⟩⟩⟩
    · by_cases e : j = i
      · subst e; rw [upC_at, if_neg (by omega)]
      · rw [upC_sK (by omega)]; exact c2 j (by omega)
    · by_cases e : j = i
      · subst e; rw [upC_at, if_pos (by omega)]
      · rw [upC_sK (by omega)]; exact c2 j (by omega)
theorem s_whoCould {d b n key : Nat} {a : Int} {S : MS} {C : MC} {hd rc : Nat → Int} {X : Nat → Nat} {cn : Nat → Nat → Nat → Bool} {md : Nat → Nat → Nat → Int} {Q : Qt} (F : Fix S) (h : SpC S C a n hd rc X cn md) (hb : b < 16) (hk8 : key < 8)
    (hk : ∀ (m : Nat) S' C', S44 S S' → Fp plx C C' → m < 64 → (∀ j, m.testBit j = true ↔ j < n ∧ mgt (okP (cn b) hd rc) n (X b) key j) → Q m S' C') : K_X3_whoCould_0 (d + 19) 0 0 a b key S C Q := by
  obtain ⟨ha, h1, h2, h3, h4⟩ := h
  obtain ⟨b1, b2, b3⟩ := h1
  obtain ⟨x1, x2⟩ := h2 b hb
  obtain ⟨e1, e2⟩ := all_eq b1
  have F1 := fix_street F (v := a)
  have hst : ∀ r, a ≤ r → r < a + 8 → ¬ (40 ≤ r ∧ r ≤ 51) := fun r h1 h2 => by rcases ha with z | z | z | z | z <;> omega
  refine b_X3_whoCould_0 F ha (s_lookAt (d := d + 11) F ha hb x1 b1 (h4 b 0 hb (Or.inl rfl) _ (S44_up F a)) x2 b2 (fun C1 hl => ⟨F1, ?_⟩))
  obtain ⟨l1, l2, l3⟩ := hl
  have f1 : Fp plx C C1 := fun x k hxk => by unfold plx at hxk; rw [l1 x (by unfold lkR; omega) (by omega)]
  have f2 : Fp plx C (cpC C1 45 0 46 0 6) := Fp_cp (fun j _ _ => by unfold plx; omega) f1
  have e0 : ∀ C', Fp plx C C' → C' a 0 = n := fun C' hf => by rw [hf a 0 (by unfold plx; exact hst a (by omega) (by omega))]; exact b2
  rw [e0 _ f2, e1]
  have e46 : ∀ j : Nat, j < n → cpC C1 45 0 46 0 6 46 j = ((canM (cn b) (X b) j : Nat) : Int) := fun j hj => by rw [cpC_at (by omega)]; exact (l3 j hj).1
  refine up_ind (α := Nat × MC) (P := fun i D => Fp plx C D.2 ∧ D.2 44 9 = X b ∧ (∀ j : Nat, j < n → D.2 46 j = ((canM (cn b) (X b) j : Nat) : Int)) ∧ D.1 < 2 ^ i ∧ ∀ j, D.1.testBit j = true ↔ j < i ∧ mgt (okP (cn b) hd rc) n (X b) key j) (K := fun i D => K_X3_whoCould_38 (d + 19) 0 0 a key ((2 ^ n - 1 : Nat) : Int) (D.1 : Int) (i : Int) (upP S 44 8 a) D.2 Q) n ?_ ?_ 0 (by omega) (0, cpC C1 45 0 46 0 6) ⟨f2, (by show cpC C1 45 0 46 0 6 44 9 = _; rw [cpC_ne (by decide)]; exact l2), e46, (by show 0 < 2 ^ 0; decide), fun j => by simp⟩
  · intro D ⟨p1, p2, p3, p4, p5⟩
    refine b_X3_whoCould_38 F1 ha ?_
    rw [e0 _ p1]
    refine ⟨fun _ => hk D.1 _ _ (S44_up F a) p1 (Nat.lt_of_lt_of_le p4 (Nat.pow_le_pow_right (n := 2) (by decide) b1)) p5, fun z => by omega⟩
  · intro i D hi ⟨p1, p2, p3, p4, p5⟩ ih
    have hm := canM_lt (cn b) (X b) i
    have hD64 : D.1 < 64 := Nat.lt_of_lt_of_le p4 (Nat.pow_le_pow_right (n := 2) (by decide) (show i ≤ 6 by omega))
    refine b_X3_whoCould_38 F1 ha ?_
    rw [e0 _ p1, p3 i hi, isin_iff hm (by omega), canM_bit x1]
    have keep : ¬ mgt (okP (cn b) hd rc) n (X b) key i → ∀ C', Fp plx C C' → C' 44 9 = X b → (∀ j : Nat, j < n → C' 46 j = ((canM (cn b) (X b) j : Nat) : Int)) → K_X3_whoCould_38 (d + 19) 0 0 a key ((2 ^ n - 1 : Nat) : Int) (D.1 : Int) (w32 ((i : Int) + 1)) (upP S 44 8 a) C' Q := by
      intro hno C' r1 r2 r3
      rw [w32_succ (by omega)]
      refine ih (D.1, C') ⟨r1, r2, r3, Nat.lt_of_lt_of_le p4 (Nat.pow_le_pow_right (n := 2) (by decide) (by omega)), fun j => ?_⟩
      rw [p5 j]
      constructor
      · rintro ⟨y1, y2⟩; exact ⟨by omega, y2⟩
      · rintro ⟨y1, y2⟩
        by_cases e : j = i
        · subst e; exact absurd y2 hno
        · exact ⟨by omega, y2⟩
    refine ⟨fun z => by omega, fun _ => ⟨by omega, fun z => keep (fun ⟨m1, w, hw, m2⟩ => z ?_) D.2 p1 p2 p3, fun z => ?_⟩⟩
    · have := (hw.2 i hi).1 key (by rw [prt_bit x1, m1, m2]; simp)
      rw [m1, this]; rfl
    · simp only [Bool.and_eq_true] at z
      have hS := upP_at S 44 8 a
      refine s_leaveKey (h := i) (B := canM (cn b) (X b)) F1 ha hS (e0 _ p1) b1 hk8 (fun j hj => ⟨p3 j hj, canM_lt _ _ _⟩) (fun C3 f3 g3 => ⟨rfl, ?_⟩)
      have f3' : Fp plx C C3 := Fp_tr p1 (Fp_mono f3 (fun x k q => by unfold plx; omega))
      have row : ∀ r, a ≤ r → r < a + 8 → C3 r = C r := fun r h1 h2 => funext fun k => f3' r k (by unfold plx; exact hst r h1 h2)
      have eB : Bt C3 a n hd rc := Bt_cong ⟨b1, b2, b3⟩ (row _ (by omega) (by omega)) (row _ (by omega) (by omega)) (row _ (by omega) (by omega))
      have q9 : C3 44 9 = X b := by rw [f3 44 9 (by omega)]; exact p2
      have q46 : ∀ j : Nat, j < n → C3 46 j = ((canM (cn b) (X b) j : Nat) : Int) := fun j hj => by rw [f3 46 j (by omega)]; exact p3 j hj
      have key' : (Cv (okP (mskS (fun j => if j = i then canM (cn b) (X b) j else mDiff (canM (cn b) (X b) j) (2 ^ key))) hd rc) (inH n (2 ^ n - 1)) (X b)) ↔ mgt (okP (cn b) hd rc) n (X b) key i := by
        rw [Cv_cong (fun _ => inH_all)]
        have hv : ∀ w, Vd (okP (mskS (fun j => if j = i then canM (cn b) (X b) j else mDiff (canM (cn b) (X b) j) (2 ^ key))) hd rc) (fun j => j < n) (X b) w ↔ Vd (okP (cn b) hd rc) (fun j => j < n) (X b) w ∧ w key = i := fun w => Vd_only x1 z.1 hi (fun j k hkx => by
          unfold mskS
          dsimp only
          by_cases e : j = i
          · rw [if_pos e, canM_bit x1, hkx]
            simp [e]
          · rw [if_neg e, mDiff_bit, canM_bit x1, hkx, Nat.testBit_two_pow]
            by_cases e3 : key = k
            · subst e3; simp [e]
            · have : ¬ k = key := fun q => e3 q.symm
              simp [e3, this])
        constructor
        · rintro ⟨w, hw⟩; exact ⟨z.1, w, (hv w).mp hw⟩
        · rintro ⟨_, w, hw⟩; exact ⟨w, (hv w).mpr hw⟩
      refine s_coveredBy (d := d) (A := fun j => if j = i then canM (cn b) (X b) j else mDiff (canM (cn b) (X b) j) (2 ^ key)) (X := X b) F1 ha hS eB (fun j hj => ⟨g3 j hj, ?_⟩) q9 x1 e2 (fun r hr => ⟨rfl, fun y => ?_, fun y => ?_⟩)
      · show (if j = i then canM (cn b) (X b) j else mDiff (canM (cn b) (X b) j) (2 ^ key)) < 256
        split
        · exact canM_lt _ _ _
        · exact Nat.lt_of_le_of_lt (mDiff_le _ _) (canM_lt _ _ _)
      · rw [iOr_zero (in32_nat (by omega))]
        rcases hr with ⟨q, _⟩ | ⟨_, q⟩
        · omega
        · exact keep (fun m => q (key'.mpr m)) C3 f3' q9 q46
      · rcases hr with ⟨_, q⟩ | ⟨q, _⟩
        · have hpi : 2 ^ i < 64 := Nat.pow_lt_pow_right (by decide) (show i < 6 by omega)
          rw [iShl1 i (by omega), iOr_nat (by omega) (by omega), w32_succ (by omega)]
          refine ih (D.1 ||| 2 ^ i, C3) ⟨f3', q9, q46, Nat.or_lt_two_pow (Nat.lt_of_lt_of_le p4 (Nat.pow_le_pow_right (n := 2) (by decide) (by omega))) (Nat.pow_lt_pow_right (by decide) (by omega)), fun j => ?_⟩
          rw [Nat.testBit_or, Nat.testBit_two_pow, Bool.or_eq_true, p5 j]
          constructor
          · rintro (⟨y1, y2⟩ | y1)
            · exact ⟨by omega, y2⟩
            · simp at y1; subst y1; exact ⟨by omega, key'.mp q⟩
          · rintro ⟨y1, y2⟩
            by_cases e : j = i
            · subst e; simp
            · exact Or.inl ⟨by omega, y2⟩
        · exact absurd q y
/-! fewest houses -/
def selB (g : Nat → Bool) : Nat → Int
  | 0 => -1
  | m + 1 => if g m = true ∧ (selB g m = -1 ∨ pc8 m < pc8 (selB g m)) then m else selB g m
theorem selB_bd (g : Nat → Bool) : ∀ m : Nat, -1 ≤ selB g m ∧ selB g m < m
  | 0 => by simp [selB]
  | m + 1 => by
    have := selB_bd g m
    unfold selB
    split <;> omega
theorem selB_cong {g g' : Nat → Bool} : ∀ m : Nat, (∀ j, j < m → g j = g' j) → selB g m = selB g' m
  | 0, _ => rfl
  | m + 1, h => by
    unfold selB
    rw [selB_cong m (fun j hj => h j (by omega)), h m (by omega)]
noncomputable def hadB (n : Nat) (hd rc : Nat → Int) (X : Nat → Nat) (cn : Nat → Nat → Nat → Bool) (m G : Nat) : Bool := @decide (∀ b, b < m → had n hd rc X cn G b) (Classical.propDecidable _)
theorem hadB_iff {n m G : Nat} {hd rc : Nat → Int} {X : Nat → Nat} {cn : Nat → Nat → Nat → Bool} : hadB n hd rc X cn m G = true ↔ ∀ b, b < m → had n hd rc X cn G b := by unfold hadB; exact @decide_eq_true_iff _ (Classical.propDecidable _)
theorem b01 {x : Bool} : (if x then (1 : Int) else 0) = 0 ↔ x = false := by cases x <;> simp
theorem s_fewest101 {d N : Nat} {S : MS} {C : MC} {g : Nat → Bool} {Q : Qt} (F : Fix S) (hN : N ≤ 63) (hg : ∀ G : Nat, G ≤ N → C 51 G = if g G then 1 else 0) (hk : Q (selB g (N + 1)) S C) : K_X3_fewestHouses_101 (d + 1) 0 0 N (-1) 0 S C Q := by
  refine up_ind (α := Unit) (P := fun _ _ => True) (K := fun m _ => K_X3_fewestHouses_101 (d + 1) 0 0 N (selB g m) (m : Int) S C Q) (N + 1) ?_ ?_ 0 (by omega) () trivial
  · intro _ _
    exact b_X3_fewestHouses_101 F ⟨fun _ => hk, fun z => by omega⟩
  · intro m _ hm _ ih
    have ih2 := ih () trivial
    have hb := selB_bd g m
    refine b_X3_fewestHouses_101 F ⟨fun z => by omega, fun _ => ⟨by omega, fun z => ?_, fun z => ⟨fun z2 => ?_, fun z2 => s_bitCount F (by omega) ⟨rfl, s_bitCount F (by omega) ⟨rfl, fun z3 => ?_, fun z3 => ?_⟩⟩⟩⟩⟩
    · rw [hg m (by omega), b01] at z
      have e : selB g (m + 1) = selB g m := if_neg (by rw [z]; simp)
      rw [e] at ih2
      rw [w32_succ (by omega)]
      exact ih2
    · rw [hg m (by omega), b01] at z
      have e : selB g (m + 1) = m := if_pos ⟨by simpa using z, Or.inl z2⟩
      rw [e] at ih2
      rw [w32_succ (by omega)]
      exact ih2
    · have e : selB g (m + 1) = selB g m := if_neg (by omega)
      rw [e] at ih2
      rw [w32_succ (by omega)]
      exact ih2
    · rw [hg m (by omega), b01] at z
      have e : selB g (m + 1) = m := if_pos ⟨by simpa using z, Or.inr (by omega)⟩
      rw [e] at ih2
      rw [w32_succ (by omega)]
      exact ih2
theorem s_fewestHouses {d n : Nat} {a : Int} {S : MS} {C : MC} {hd rc : Nat → Int} {X : Nat → Nat} {cn : Nat → Nat → Nat → Bool} {md : Nat → Nat → Nat → Int} {Q : Qt} (F : Fix S) (h : SpC S C a n hd rc X cn md)
    (hk : ∀ S' C', S44 S S' → Fp plx C C' → Q (selB (hadB n hd rc X cn 16) (2 ^ n)) S' C') : K_X3_fewestHouses_0 (d + 19) 0 0 a S C Q := by
  have ha := h.1
  have hn := h.2.1.1
  obtain ⟨e1, e2⟩ := all_eq hn
  have h0 := Nat.two_pow_pos n
  refine b_X3_fewestHouses_0 F ha ?_
  rw [h.2.1.2.1, e1]
  refine up_ind (α := MC) (P := fun m C' => Fp plx C C' ∧ ∀ G : Nat, G < m → C' 51 G = 1) (K := fun m C' => K_X3_fewestHouses_11 (d + 19) 0 0 a ((2 ^ n - 1 : Nat) : Int) (m : Int) S C' Q) (2 ^ n) ?_ ?_ 0 (by omega) C ⟨Fp_rf, fun G hG => absurd hG (Nat.not_lt_zero G)⟩
  · intro C1 ⟨c1, c2⟩
    refine b_X3_fewestHouses_11 F ha ⟨fun _ => ?_, fun z => by omega⟩
    refine up_ind (α := MS × MC) (P := fun b D => S44 S D.1 ∧ Fp plx C D.2 ∧ ∀ G : Nat, G < 2 ^ n → D.2 51 G = if hadB n hd rc X cn b G then 1 else 0) (K := fun b D => K_X3_fewestHouses_31 (d + 19) 0 0 a ((2 ^ n - 1 : Nat) : Int) (b : Int) D.1 D.2 Q) 16 ?_ ?_ 0 (by omega) (S, C1) ⟨S44_rf F, c1, fun G hG => by show C1 51 G = _; rw [c2 G hG, if_pos (hadB_iff.mpr (fun b hb => absurd hb (Nat.not_lt_zero b)))]⟩
    · intro D ⟨p1, p2, p3⟩
      refine b_X3_fewestHouses_31 p1.1 ha ⟨fun _ => ?_, fun z => absurd (by decide) z⟩
      refine s_fewest101 (d := d + 18) (N := 2 ^ n - 1) (g := hadB n hd rc X cn 16) p1.1 (by omega) (fun G hG => p3 G (by omega)) ?_
      rw [show 2 ^ n - 1 + 1 = 2 ^ n by omega]
      exact hk _ _ p1 p2
    · intro b D hb ⟨p1, p2, p3⟩ ih
      have hD := SpC_keep h p1 p2
      obtain ⟨-, ⟨b1, b2, b3⟩, x0, -, hask⟩ := hD
      obtain ⟨x1, x2⟩ := x0 b hb
      have F1 := fix_street p1.1 (v := a)
      refine b_X3_fewestHouses_31 p1.1 ha ⟨fun z => by omega, fun _ => s_lookAt (d := d + 11) p1.1 ha hb x1 b1 (hask b 0 hb (Or.inl rfl) _ (S44_up p1.1 a)) x2 b2 (fun C3 hl => ⟨F1, ?_⟩)⟩
      obtain ⟨l1, l2, l3⟩ := hl
      have f3 : Fp (fun x _ => 40 ≤ x ∧ x ≤ 47) D.2 C3 := fun x k hxk => by rw [l1 x (by unfold lkR; omega) (by omega)]
      refine up_ind (α := MC) (P := fun m C' => Fp (fun x _ => x = 51) C3 C' ∧ ∀ G : Nat, G < 2 ^ n → C' 51 G = if (if G < m then hadB n hd rc X cn (b + 1) G else hadB n hd rc X cn b G) then 1 else 0) (K := fun m C' => K_X3_fewestHouses_47 (d + 19) 0 0 a ((2 ^ n - 1 : Nat) : Int) (b : Int) (m : Int) (upP D.1 44 8 a) C' Q) (2 ^ n) ?_ ?_ 0 (by omega) C3 ⟨Fp_rf, fun G hG => by rw [if_neg (Nat.not_lt_zero G), f3 51 G (by omega)]; exact p3 G hG⟩
      · intro C4 ⟨c3, c4⟩
        refine b_X3_fewestHouses_47 F1 ha ⟨fun _ => ?_, fun z => by omega⟩
        rw [w32_succ (by omega)]
        exact ih (upP D.1 44 8 a, C4) ⟨S44_tr p1 (S44_up p1.1 a), Fp_tr p2 (Fp_tr (Fp_mono f3 (fun x k q => by unfold plx; omega)) (Fp_mono c3 (fun x k q => by unfold plx; omega))), fun G hG => by show C4 51 G = _; rw [c4 G hG, if_pos hG]⟩
      · intro m C4 hm ⟨c3, c4⟩ ihm
        have e51 := c4 m hm
        rw [if_neg (Nat.lt_irrefl m)] at e51
        have step : ∀ v : Int, v = (if hadB n hd rc X cn (b + 1) m then 1 else 0) → K_X3_fewestHouses_47 (d + 19) 0 0 a ((2 ^ n - 1 : Nat) : Int) (b : Int) (w32 ((m : Int) + 1)) (upP D.1 44 8 a) (upC C4 51 m v) Q := by
          intro v hv
          rw [w32_succ (by omega)]
          refine ihm _ ⟨Fp_up rfl c3, fun G hG => ?_⟩
          by_cases e : G = m
          · subst e; rw [upC_at, if_pos (Nat.lt_succ_self G)]; exact hv
          · rw [upC_sK (by omega), c4 G hG]
            by_cases e3 : G < m
            · have e4 : G < m + 1 := by omega
              simp only [e3, e4, if_true]
            · have e4 : ¬ G < m + 1 := by omega
              simp only [e3, e4, if_false]
        have row : ∀ r, a ≤ r → r < a + 8 → C4 r = D.2 r := fun r h1 h2 => funext fun k => by
          have hr : ¬ (40 ≤ r ∧ r ≤ 51) := by rcases ha with z | z | z | z | z <;> omega
          rw [c3 r k (by omega), f3 r k (by omega)]
        refine b_X3_fewestHouses_47 F1 ha ⟨fun z => by omega, fun _ => ⟨by omega, fun z => ⟨by omega, ?_⟩, fun z => ?_⟩⟩
        · rw [nZ0]
          refine step 0 ?_
          rw [e51, b01] at z
          have : ¬ hadB n hd rc X cn (b + 1) m = true := fun q => by
            have q3 : hadB n hd rc X cn b m = true := hadB_iff.mpr (fun j hj => hadB_iff.mp q j (show j < b + 1 by omega))
            rw [z] at q3; cases q3
          rw [if_neg this]
        · rw [e51, b01] at z
          have hbm : hadB n hd rc X cn b m = true := by simpa using z
          refine s_coveredBy (d := d) (A := canM (cn b) (X b)) (X := X b) F1 ha (upP_at _ 44 8 a) (Bt_cong ⟨b1, b2, b3⟩ (row _ (by omega) (by omega)) (row _ (by omega) (by omega)) (row _ (by omega) (by omega))) (fun j hj => ⟨by rw [c3 45 j (by omega)]; exact (l3 j hj).1, canM_lt _ _ _⟩) (by rw [c3 44 9 (by omega)]; exact l2) x1 (by omega) (fun r hr => ⟨rfl, fun y => ⟨by omega, ?_⟩, fun y => ⟨by omega, ?_⟩⟩)
          · rw [nZ0]
            refine step 0 ?_
            rw [Cv_canM x1] at hr
            have : ¬ hadB n hd rc X cn (b + 1) m = true := fun q => by
              rcases hr with ⟨q2, _⟩ | ⟨_, q2⟩
              · omega
              · exact q2 (hadB_iff.mp q b (Nat.lt_succ_self b))
            rw [if_neg this]
          · rw [nZ1]
            refine step 1 ?_
            rw [Cv_canM x1] at hr
            have : hadB n hd rc X cn (b + 1) m = true := hadB_iff.mpr (fun j hj => by
              by_cases e : j = b
              · subst e
                rcases hr with ⟨_, q2⟩ | ⟨q2, _⟩
                · exact q2
                · exact absurd q2 y
              · exact hadB_iff.mp hbm j (by omega))
            rw [if_pos this]
  · intro m C1 hm ⟨c1, c2⟩ ih
    refine b_X3_fewestHouses_11 F ha ⟨fun z => by omega, fun _ => ⟨by omega, ?_⟩⟩
    rw [w32_succ (by omega), nZ1]
    refine ih _ ⟨Fp_up (by unfold plx; omega) c1, fun G hG => ?_⟩
    by_cases e : G = m
    · subst e; rw [upC_at]
    · rw [upC_sK (by omega)]; exact c2 G (by omega)
