/-! 71.rdm: the reference reads -/
def mrx (a k : Int) : Prop := a = 81 ∧ (k = 19 ∨ k = 20 ∨ k = 21)
/-- the reference's tokens -/
def TkM (τ : Tks) (o : Bool) (C : MC) : Prop := C 81 18 = τ.length ∧ τ.length ≤ 400 ∧ (∀ j : Nat, j ≤ τ.length → C 90 j = tc τ j ∧ C 91 j = tv τ j ∧ 0 ≤ tv τ j ∧ 0 ≤ C 92 j) ∧ C 81 10 = b2 o ∧ C 81 8 = (if o then 14 else 8) ∧ C 81 9 = (if o then 20 else 15)
theorem TkM_fp {τ : Tks} {o : Bool} {C C' : MC} (h : TkM τ o C) (f : Fp mrx C C') : TkM τ o C' := by
  unfold TkM
  rw [f 81 18 (by unfold mrx; decide), f 81 10 (by unfold mrx; decide), f 81 8 (by unfold mrx; decide), f 81 9 (by unfold mrx; decide), fp_row (a := 90) f (fun k => by unfold mrx; omega), fp_row (a := 91) f (fun k => by unfold mrx; omega), fp_row (a := 92) f (fun k => by unfold mrx; omega)]
  exact h
theorem m92 {C C' : MC} (f : Fp mrx C C') : C' 92 = C 92 := fp_row f (fun k => by unfold mrx; omega)
theorem fm19 {C C' : MC} {v : Int} (f : Fp mrx C C') : Fp mrx C (upC C' 81 19 v) := Fp_up ⟨rfl, Or.inl rfl⟩ f
theorem fm20 {C C' : MC} {v : Int} (f : Fp mrx C C') : Fp mrx C (upC C' 81 20 v) := Fp_up ⟨rfl, Or.inr (Or.inl rfl)⟩ f
theorem fm21 {C C' : MC} {v : Int} (f : Fp mrx C C') : Fp mrx C (upC C' 81 21 v) := Fp_up ⟨rfl, Or.inr (Or.inr rfl)⟩ f
theorem w32_nat1 {p : Nat} (h : p ≤ 100000) : w32 ((p : Int) + 1) = ((p + 1 : Nat) : Int) := by rw [w32_lit (by omega)]; omega
theorem t_sign {d : Nat} {c : Int} {S : MS} {C : MC} {Q : Qt} (F : Fix S) (hc : 0 ≤ c ∧ c < 1000) (h : Q (100 + c) S C) : K_X11_sign_0 d 0 0 c S C Q := by
  refine b_X11_sign_0 F ?_
  rw [w32_lit (by omega)]
  exact h
theorem t_takes {d : Nat} {τ : Tks} {o : Bool} {c : Int} {p : Nat} {S : MS} {C : MC} {Q : Qt} (F : Fix S) (T : TkM τ o C) (h19 : C 81 19 = p) (hp : p ≤ τ.length) (h21 : C 81 21 = -1) (h0 : tc τ p ≠ c → Q 0 S C) (h1 : tc τ p = c → Q 1 S (upC C 81 19 ((p + 1 : Nat) : Int))) : K_X11_takes0_0 (d + 1) 0 0 c S C Q := by
  have hN := T.2.1
  have e90 := (T.2.2.1 p hp).1
  have hb : (0 : Int) ≤ (p : Int) ∧ (p : Int) < 401 := by clear h0 h1 T h19 h21 e90; omega
  refine b_X11_takes0_0 F (b_X11_fine_0 F ⟨fun z => absurd h21 z, fun _ => ⟨rfl, fun y => absurd y (by decide), fun _ => ?_⟩⟩)
  rw [h19, e90, w32_nat1 (by omega)]
  exact ⟨hb, fun z => ⟨fun _ => h0 z, fun y => absurd rfl y⟩, fun z => ⟨fun y => absurd y (by decide), fun _ => h1 z⟩⟩
theorem t_takesB {d : Nat} {c : Int} {S : MS} {C : MC} {Q : Qt} (F : Fix S) (h21 : C 81 21 ≠ -1) (h0 : Q 0 S C) : K_X11_takes0_0 (d + 1) 0 0 c S C Q :=
  b_X11_takes0_0 F (b_X11_fine_0 F ⟨fun _ => ⟨rfl, fun _ => ⟨fun _ => h0, fun y => absurd rfl y⟩, fun y => absurd rfl y⟩, fun z => absurd z h21⟩)
theorem t_faults {d p : Nat} {S : MS} {C : MC} {Q : Qt} (F : Fix S) (h19 : C 81 19 = p) (hp : p ≤ 400) (h21 : C 81 21 = -1) (h0 : Q 0 S (upC C 81 21 (C 92 p))) : K_X11_faults_0 (d + 1) 0 0 S C Q := by
  have hb : (0 : Int) ≤ (p : Int) ∧ (p : Int) < 401 := by clear h0 h19 h21; omega
  refine b_X11_faults_0 F (b_X11_fine_0 F ⟨fun z => absurd h21 z, fun _ => ⟨rfl, fun y => absurd y (by decide), fun _ => ?_⟩⟩)
  rw [h19]
  exact ⟨hb, h0⟩
theorem t_faultsB {d : Nat} {S : MS} {C : MC} {Q : Qt} (F : Fix S) (h21 : C 81 21 ≠ -1) (h0 : Q 0 S C) : K_X11_faults_0 (d + 1) 0 0 S C Q :=
  b_X11_faults_0 F (b_X11_fine_0 F ⟨fun _ => ⟨rfl, fun _ => h0, fun y => absurd rfl y⟩, fun z => absurd z h21⟩)
theorem t_must {d : Nat} {τ : Tks} {o : Bool} {c : Int} {p : Nat} {S : MS} {C : MC} {Q : Qt} (F : Fix S) (T : TkM τ o C) (h19 : C 81 19 = p) (hp : p ≤ τ.length) (h21 : C 81 21 = -1) (h0 : tc τ p ≠ c → Q 0 S (upC C 81 21 (C 92 p))) (h1 : tc τ p = c → Q 0 S (upC C 81 19 ((p + 1 : Nat) : Int))) : K_X11_must_0 (d + 2) 0 0 c S C Q :=
  b_X11_must_0 (d := d + 1) F (t_takes F T h19 hp h21 (fun z => ⟨rfl, fun y => absurd rfl y, fun _ => t_faults F h19 (Nat.le_trans hp T.2.1) h21 ⟨rfl, h0 z⟩⟩) (fun z => ⟨rfl, fun _ => h1 z, fun y => absurd y (by decide)⟩))
theorem t_mustB {d : Nat} {c : Int} {S : MS} {C : MC} {Q : Qt} (F : Fix S) (h21 : C 81 21 ≠ -1) (h0 : Q 0 S C) : K_X11_must_0 (d + 2) 0 0 c S C Q :=
  b_X11_must_0 (d := d + 1) F (t_takesB F h21 ⟨rfl, fun y => absurd rfl y, fun _ => t_faultsB F h21 ⟨rfl, h0⟩⟩)
theorem t_mnum {d : Nat} {τ : Tks} {o : Bool} {lo hi : Int} {p : Nat} {S : MS} {C : MC} {Q : Qt} (F : Fix S) (T : TkM τ o C) (h19 : C 81 19 = p) (hp : p ≤ τ.length) (h21 : C 81 21 = -1) (h0 : ¬ (tc τ p = 50 ∧ lo ≤ tv τ p ∧ tv τ p ≤ hi) → Q 0 S (upC C 81 21 (C 92 p))) (h1 : (tc τ p = 50 ∧ lo ≤ tv τ p ∧ tv τ p ≤ hi) → Q 0 S (upC C 81 19 ((p + 1 : Nat) : Int))) : K_X11_mustNumber_0 (d + 2) 0 0 lo hi S C Q := by
  have hN := T.2.1
  obtain ⟨e90, e91, _, e92⟩ := T.2.2.1 p hp
  have hb : (0 : Int) ≤ (p : Int) ∧ (p : Int) < 401 := by clear h0 h1 T h19 h21 e90 e91 e92; omega
  have n92 : C 92 (p : Int) ≠ -1 := by intro z; rw [z] at e92; exact absurd e92 (by decide)
  have fl : ¬ (tc τ p = 50 ∧ lo ≤ tv τ p ∧ tv τ p ≤ hi) → ∀ Q2 : Qt, Q2 = Q → K_X11_faults_0 (d + 1) 0 0 S C (fun r5 Sq C6 => Sq = S ∧ K_X11_fine_0 (d + 1) 0 0 S C6 (fun r7 Sq C8 => Sq = S ∧ ((r7 = 0 → Q 0 S C8) ∧ (¬ r7 = 0 → Q 0 S (upC C8 81 19 (w32 ((C8 81 19) + 1))))))) := fun z Q2 _ => t_faults F h19 (by omega) h21 ⟨rfl, b_X11_fine_0 F ⟨fun _ => ⟨rfl, fun _ => h0 z, fun y => absurd rfl y⟩, fun y => absurd (by rw [upC_at] at y; exact y) n92⟩⟩
  refine b_X11_mustNumber_0 (d := d + 1) F (b_X11_fine_0 F ⟨fun z => absurd h21 z, fun _ => ⟨rfl, fun y => absurd y (by decide), fun _ => ?_⟩⟩)
  rw [h19, e90, e91]
  refine ⟨hb, fun z => fl (fun y => z y.1) Q rfl, fun z => ⟨hb, s_lies F fun r hr => ⟨rfl, fun y => ?_, fun y => fl (fun q => ?_) Q rfl⟩⟩⟩
  · refine b_X11_fine_0 F ⟨fun q => absurd h21 q, fun _ => ⟨rfl, fun q => absurd q (by decide), fun _ => ?_⟩⟩
    rw [h19, w32_nat1 (by omega)]
    refine h1 ⟨z, ?_⟩
    rcases hr with q | q
    · exact q.2
    · exact absurd q.1 y
  · rcases hr with q2 | q2
    · rw [q2.1] at y; exact absurd y (by decide)
    · exact q2.2 q.2
theorem t_mnumB {d : Nat} {lo hi : Int} {S : MS} {C : MC} {Q : Qt} (F : Fix S) (h21 : C 81 21 ≠ -1) (h0 : Q 0 S C) : K_X11_mustNumber_0 (d + 2) 0 0 lo hi S C Q :=
  b_X11_mustNumber_0 (d := d + 1) F (b_X11_fine_0 F ⟨fun _ => ⟨rfl, fun _ => b_X11_fine_0 F ⟨fun _ => ⟨rfl, fun _ => h0, fun y => absurd rfl y⟩, fun z => absurd z h21⟩, fun y => absurd rfl y⟩, fun z => absurd z h21⟩)
/-- what a reading by the reference comes to -/
def PoM {α : Type} (τ : Tks) (C C' : MC) : PR α → Prop
  | .inl q => q ≤ τ.length ∧ C' 81 21 = C 92 q
  | .inr (_, q, lv', _) => C' 81 19 = q ∧ C' 81 20 = lv' ∧ C' 81 21 = -1
def RdM {α : Type} (τ : Tks) (o : Bool) (m : Nat) (rd : Rdr α) (K : Nat → MS → MC → Qt → Prop) : Prop :=
  (∀ (d : Nat) (S : MS) (C : MC) (Q : Qt) (p lv c0 : Nat), m ≤ d → Fix S → TkM τ o C → p ≤ τ.length → lv ≤ 50 → C 81 19 = p → C 81 20 = lv → C 81 21 = -1 → (∀ C', Fp mrx C C' → PoM τ C C' (rd p lv c0) → Q 0 S C') → K d S C Q) ∧
  (∀ (d : Nat) (S : MS) (C : MC) (Q : Qt), m ≤ d → Fix S → C 81 21 ≠ -1 → (∀ C', Fp mrx C C' → C' 81 21 = C 81 21 → Q 0 S C') → K d S C Q)
theorem RdM_up {α : Type} {τ : Tks} {o : Bool} {m m' : Nat} {rd : Rdr α} {K : Nat → MS → MC → Qt → Prop} (h : RdM τ o m rd K) (hm : m ≤ m') : RdM τ o m' rd K :=
  ⟨fun d S C Q p lv c0 hd => h.1 d S C Q p lv c0 (by omega), fun d S C Q hd => h.2 d S C Q (by omega)⟩
theorem bad_of {τ : Tks} {o : Bool} {C C1 : MC} {q : Nat} (T : TkM τ o C) (hq : q ≤ τ.length) (e : C1 81 21 = C 92 q) : C1 81 21 ≠ -1 := by
  have := (T.2.2.1 q hq).2.2.2
  rw [e]
  intro z
  rw [z] at this
  exact absurd this (by decide)
def LoopM (τ : Tks) (o : Bool) (is : Int → Bool) (Kpt Kl : Nat → MS → MC → Qt → Prop) : Prop :=
  (∀ (d : Nat) (S : MS) (C : MC) (Q : Qt) (p : Nat), Fix S → TkM τ o C → p ≤ τ.length → C 81 19 = p → C 81 21 = -1 → (is (tc τ p) = false → Q 0 S C) → (is (tc τ p) = true → Kpt (d + 1) S (upC C 81 19 ((p + 1 : Nat) : Int)) (fun _ Sq C' => Sq = S ∧ Kl (d + 2) S C' Q)) → Kl (d + 2) S C Q) ∧
  (∀ (d : Nat) (S : MS) (C : MC) (Q : Qt), Fix S → C 81 21 ≠ -1 → Q 0 S C → Kl (d + 2) S C Q)
theorem PoM_tr {α : Type} {τ : Tks} {C C1 C' : MC} {r : PR α} (f : Fp mrx C C1) (h : PoM τ C1 C' r) : PoM τ C C' r := by
  cases r with
  | inl q => exact ⟨h.1, by rw [h.2, m92 f]⟩
  | inr t => exact h
theorem m_row {τ : Tks} {o : Bool} {m : Nat} {is : Int → Bool} {pt : Rdr Sem} {P : Sem → Prop} {Kpt Kl : Nat → MS → MC → Qt → Prop} (hpt : RdM τ o m pt Kpt) (hG : Gd τ P pt) (hl : LoopM τ o is Kpt Kl) (h0 : is 0 = false) : ∀ (n : Nat) (f : Sem) (p lv c0 : Nat) (cd : List Int) (d : Nat) (S : MS) (C : MC) (Q : Qt), m ≤ d + 1 → Fix S → TkM τ o C → p ≤ τ.length → τ.length ≤ p + n → lv ≤ 50 → C 81 19 = p → C 81 20 = lv → C 81 21 = -1 → (∀ C', Fp mrx C C' → PoM τ C C' (rowP τ is pt n f p lv c0 cd) → Q 0 S C') → Kl (d + 2) S C Q
  | 0, f, p, lv, c0, cd, d, S, C, Q, hm, F, T, hp, hn, hlv, h19, h20, h21, hk => by
    have e : tc τ p = 0 := tc_hi (by omega)
    refine hl.1 d S C Q p F T hp h19 h21 (fun _ => hk C Fp_rf ⟨h19, h20, h21⟩) (fun z => ?_)
    rw [e, h0] at z
    cases z
  | n + 1, f, p, lv, c0, cd, d, S, C, Q, hm, F, T, hp, hn, hlv, h19, h20, h21, hk => by
    unfold rowP at hk
    refine hl.1 d S C Q p F T hp h19 h21 (fun z => hk C Fp_rf (by rw [z]; exact ⟨h19, h20, h21⟩)) (fun z => ?_)
    have hp1 : p + 1 ≤ τ.length := by
      have : tc τ p ≠ 0 := fun y => by rw [y, h0] at z; cases z
      have := tc_in this
      omega
    have fU : Fp mrx C (upC C 81 19 ((p + 1 : Nat) : Int)) := fm19 Fp_rf
    refine hpt.1 (d + 1) S _ _ (p + 1) lv (c0 + cd.length) hm F (TkM_fp T fU) hp1 hlv (upC_at _ _ _ _) (by rw [upC_sK (by decide)]; exact h20) (by rw [upC_sK (by decide)]; exact h21) (fun C1 f1 po => ⟨rfl, ?_⟩)
    simp only [z, if_true] at hk
    have f2 := Fp_tr fU f1
    cases hs : pt (p + 1) lv (c0 + cd.length) with
    | inl q =>
      rw [hs] at po hk
      have e21 : C1 81 21 = C 92 q := by rw [po.2, m92 fU]
      exact hl.2 d S C1 Q F (bad_of T po.1 e21) (hk C1 f2 ⟨po.1, e21⟩)
    | inr t =>
      obtain ⟨g, q, lv', cd'⟩ := t
      rw [hs] at po hk
      obtain ⟨a1, a2, _⟩ := hG _ _ _ _ _ _ _ hs
      exact m_row hpt hG hl h0 n (opS (tc τ p) f g) q lv' c0 (cd ++ (cd' ++ [opC (tc τ p)])) d S C1 Q hm F (TkM_fp T f2) a1.2 (by omega) (a2.2 hlv) po.1 po.2.1 po.2.2 (fun C' f' po' => hk C' (Fp_tr f2 f') (PoM_tr f2 po'))
theorem m_laz {τ : Tks} {o : Bool} {m : Nat} {c op : Int} {stop : Bool} {pt : Rdr TSem} {P : TSem → Prop} {Kpt Kl : Nat → MS → MC → Qt → Prop} (hpt : RdM τ o m pt Kpt) (hG : Gd τ P pt) (hl : LoopM τ o (fun x => x == c) Kpt Kl) (h0 : c ≠ 0) : ∀ (n : Nat) (f : TSem) (p lv c0 : Nat) (cd : List Int) (d : Nat) (S : MS) (C : MC) (Q : Qt), m ≤ d + 1 → Fix S → TkM τ o C → p ≤ τ.length → τ.length ≤ p + n → lv ≤ 50 → C 81 19 = p → C 81 20 = lv → C 81 21 = -1 → (∀ C', Fp mrx C C' → PoM τ C C' (lazP τ c op stop pt n f p lv c0 cd) → Q 0 S C') → Kl (d + 2) S C Q
  | 0, f, p, lv, c0, cd, d, S, C, Q, hm, F, T, hp, hn, hlv, h19, h20, h21, hk => by
    have e : tc τ p = 0 := tc_hi (by omega)
    refine hl.1 d S C Q p F T hp h19 h21 (fun _ => hk C Fp_rf ⟨h19, h20, h21⟩) (fun z => ?_)
    rw [e] at z
    exact absurd (by simpa using z : (0 : Int) = c).symm h0
  | n + 1, f, p, lv, c0, cd, d, S, C, Q, hm, F, T, hp, hn, hlv, h19, h20, h21, hk => by
    unfold lazP at hk
    refine hl.1 d S C Q p F T hp h19 h21 (fun z => hk C Fp_rf (by rw [if_neg (by simpa using z)]; exact ⟨h19, h20, h21⟩)) (fun z => ?_)
    have z' : tc τ p = c := by simpa using z
    have hp1 : p + 1 ≤ τ.length := by
      have : tc τ p ≠ 0 := fun y => h0 (by rw [← z']; exact y)
      have := tc_in this
      omega
    have fU : Fp mrx C (upC C 81 19 ((p + 1 : Nat) : Int)) := fm19 Fp_rf
    refine hpt.1 (d + 1) S _ _ (p + 1) lv (c0 + (cd.length + 1)) hm F (TkM_fp T fU) hp1 hlv (upC_at _ _ _ _) (by rw [upC_sK (by decide)]; exact h20) (by rw [upC_sK (by decide)]; exact h21) (fun C1 f1 po => ⟨rfl, ?_⟩)
    rw [if_pos z'] at hk
    have f2 := Fp_tr fU f1
    cases hs : pt (p + 1) lv (c0 + (cd.length + 1)) with
    | inl q =>
      rw [hs] at po hk
      have e21 : C1 81 21 = C 92 q := by rw [po.2, m92 fU]
      exact hl.2 d S C1 Q F (bad_of T po.1 e21) (hk C1 f2 ⟨po.1, e21⟩)
    | inr t =>
      obtain ⟨g, q, lv', cd'⟩ := t
      rw [hs] at po hk
      obtain ⟨a1, a2, _⟩ := hG _ _ _ _ _ _ _ hs
      exact m_laz (op := op) (stop := stop) hpt hG hl h0 n (lazS stop f g) q lv' c0 (cd ++ ((16 * ((c0 + (cd.length + 1) + cd'.length : Nat) : Int) + op) :: cd')) d S C1 Q hm F (TkM_fp T f2) a1.2 (by omega) (a2.2 hlv) po.1 po.2.1 po.2.2 (fun C' f' po' => hk C' (Fp_tr f2 f') (PoM_tr f2 po'))
theorem m_seq {τ : Tks} {o : Bool} {m : Nat} {is : Int → Bool} {pt : Rdr Sem} {P : Sem → Prop} {Kpt Kl K0 : Nat → MS → MC → Qt → Prop} (hpt : RdM τ o (m + 1) pt Kpt) (hG : Gd τ P pt) (hl : LoopM τ o is Kpt Kl) (h0 : is 0 = false) (hK : ∀ (d : Nat) (S : MS) (C : MC) (Q : Qt), Fix S → Kpt d S C (fun _ Sq C' => Sq = S ∧ Kl (d + 1) S C' Q) → K0 (d + 1) S C Q) : RdM τ o (m + 2) (seqP τ is pt) K0 := by
  refine ⟨fun d S C Q p lv c0 hm F T hp hlv h19 h20 h21 hk => ?_, fun d S C Q hm F h21 hk => ?_⟩
  · obtain ⟨e, rfl⟩ : ∃ e, d = e + 2 := ⟨d - 2, by omega⟩
    refine hK (e + 1) S C Q F (hpt.1 (e + 1) S C _ p lv c0 (by omega) F T hp hlv h19 h20 h21 (fun C1 f1 po => ⟨rfl, ?_⟩))
    unfold seqP at hk
    cases hs : pt p lv c0 with
    | inl q =>
      rw [hs] at po hk
      exact hl.2 e S C1 Q F (bad_of T po.1 po.2) (hk C1 f1 po)
    | inr t =>
      obtain ⟨g, q, lv', cd'⟩ := t
      rw [hs] at po hk
      obtain ⟨a1, a2, _⟩ := hG _ _ _ _ _ _ _ hs
      exact m_row hpt hG hl h0 400 g q lv' c0 cd' e S C1 Q (by omega) F (TkM_fp T f1) a1.2 (by have := T.2.1; omega) (a2.2 hlv) po.1 po.2.1 po.2.2 (fun C' f' po' => hk C' (Fp_tr f1 f') (PoM_tr f1 po'))
  · obtain ⟨e, rfl⟩ : ∃ e, d = e + 2 := ⟨d - 2, by omega⟩
    exact hK (e + 1) S C Q F (hpt.2 (e + 1) S C _ (by omega) F h21 (fun C1 f1 e1 => ⟨rfl, hl.2 e S C1 Q F (by rw [e1]; exact h21) (hk C1 f1 e1)⟩))
theorem m_lazy {τ : Tks} {o : Bool} {m : Nat} {c op : Int} {stop : Bool} {pt : Rdr TSem} {P : TSem → Prop} {Kpt Kl K0 : Nat → MS → MC → Qt → Prop} (hpt : RdM τ o (m + 1) pt Kpt) (hG : Gd τ P pt) (hl : LoopM τ o (fun x => x == c) Kpt Kl) (h0 : c ≠ 0) (hK : ∀ (d : Nat) (S : MS) (C : MC) (Q : Qt), Fix S → Kpt d S C (fun _ Sq C' => Sq = S ∧ Kl (d + 1) S C' Q) → K0 (d + 1) S C Q) : RdM τ o (m + 2) (lazyP τ c op stop pt) K0 := by
  refine ⟨fun d S C Q p lv c0 hm F T hp hlv h19 h20 h21 hk => ?_, fun d S C Q hm F h21 hk => ?_⟩
  · obtain ⟨e, rfl⟩ : ∃ e, d = e + 2 := ⟨d - 2, by omega⟩
    refine hK (e + 1) S C Q F (hpt.1 (e + 1) S C _ p lv c0 (by omega) F T hp hlv h19 h20 h21 (fun C1 f1 po => ⟨rfl, ?_⟩))
    unfold lazyP at hk
    cases hs : pt p lv c0 with
    | inl q =>
      rw [hs] at po hk
      exact hl.2 e S C1 Q F (bad_of T po.1 po.2) (hk C1 f1 po)
    | inr t =>
      obtain ⟨g, q, lv', cd'⟩ := t
      rw [hs] at po hk
      obtain ⟨a1, a2, _⟩ := hG _ _ _ _ _ _ _ hs
      exact m_laz (op := op) (stop := stop) hpt hG hl h0 400 g q lv' c0 cd' e S C1 Q (by omega) F (TkM_fp T f1) a1.2 (by have := T.2.1; omega) (a2.2 hlv) po.1 po.2.1 po.2.2 (fun C' f' po' => hk C' (Fp_tr f1 f') (PoM_tr f1 po'))
  · obtain ⟨e, rfl⟩ : ∃ e, d = e + 2 := ⟨d - 2, by omega⟩
    exact hK (e + 1) S C Q F (hpt.2 (e + 1) S C _ (by omega) F h21 (fun C1 f1 e1 => ⟨rfl, hl.2 e S C1 Q F (by rw [e1]; exact h21) (hk C1 f1 e1)⟩))
theorem lp_term (τ : Tks) (o : Bool) (l : Int) : LoopM τ o isMul (fun d S C Q => K_X11_readPart_0 d 0 0 l S C Q) (fun d S C Q => K_X11_readTerm_5 d 0 0 l S C Q) := by
  refine ⟨fun d S C Q p F T hp h19 h21 h0 h1 => ?_, fun d S C Q F h21 h0 => ?_⟩
  · refine b_X11_readTerm_5 (d := d + 1) F (t_sign F (by decide) ⟨rfl, t_takes F T h19 hp h21 (fun z1 => ⟨rfl, fun y => absurd rfl y, fun _ => t_sign F (by decide) ⟨rfl, t_takes F T h19 hp h21 (fun z2 => ⟨rfl, fun y => absurd rfl y, fun _ => t_sign F (by decide) ⟨rfl, t_takes F T h19 hp h21 (fun z3 => ⟨rfl, fun _ => h0 ?_, fun y => absurd rfl y⟩) (fun z3 => ⟨rfl, fun y => absurd y (by decide), fun _ => h1 ?_⟩)⟩⟩) (fun z2 => ⟨rfl, fun _ => h1 ?_, fun y => absurd y (by decide)⟩)⟩⟩) (fun z1 => ⟨rfl, fun _ => h1 ?_, fun y => absurd y (by decide)⟩)⟩)
    · cases e : isMul (tc τ p) with
      | false => rfl
      | true => rw [isMul_iff] at e; omega
    · rw [isMul_iff]; omega
    · rw [isMul_iff]; omega
    · rw [isMul_iff]; omega
  · exact b_X11_readTerm_5 (d := d + 1) F (t_sign F (by decide) ⟨rfl, t_takesB F h21 ⟨rfl, fun y => absurd rfl y, fun _ => t_sign F (by decide) ⟨rfl, t_takesB F h21 ⟨rfl, fun y => absurd rfl y, fun _ => t_sign F (by decide) ⟨rfl, t_takesB F h21 ⟨rfl, fun _ => h0, fun y => absurd rfl y⟩⟩⟩⟩⟩⟩)
theorem lp_sum (τ : Tks) (o : Bool) (l : Int) : LoopM τ o isAdd (fun d S C Q => K_X11_readTerm_0 d 0 0 l S C Q) (fun d S C Q => K_X11_readSum_5 d 0 0 l S C Q) := by
  refine ⟨fun d S C Q p F T hp h19 h21 h0 h1 => ?_, fun d S C Q F h21 h0 => ?_⟩
  · refine b_X11_readSum_5 (d := d + 1) F (t_sign F (by decide) ⟨rfl, t_takes F T h19 hp h21 (fun z1 => ⟨rfl, fun y => absurd rfl y, fun _ => t_sign F (by decide) ⟨rfl, t_takes F T h19 hp h21 (fun z2 => ⟨rfl, fun _ => h0 ?_, fun y => absurd rfl y⟩) (fun z2 => ⟨rfl, fun y => absurd y (by decide), fun _ => h1 ?_⟩)⟩⟩) (fun z1 => ⟨rfl, fun _ => h1 ?_, fun y => absurd y (by decide)⟩)⟩)
    · cases e : isAdd (tc τ p) with
      | false => rfl
      | true => rw [isAdd_iff] at e; omega
    · rw [isAdd_iff]; omega
    · rw [isAdd_iff]; omega
  · exact b_X11_readSum_5 (d := d + 1) F (t_sign F (by decide) ⟨rfl, t_takesB F h21 ⟨rfl, fun y => absurd rfl y, fun _ => t_sign F (by decide) ⟨rfl, t_takesB F h21 ⟨rfl, fun _ => h0, fun y => absurd rfl y⟩⟩⟩⟩)
theorem lp_both (τ : Tks) (o : Bool) (l : Int) : LoopM τ o (fun x => x == 6) (fun d S C Q => K_X11_readPlain_0 d 0 0 l S C Q) (fun d S C Q => K_X11_readBoth_5 d 0 0 l S C Q) := by
  refine ⟨fun d S C Q p F T hp h19 h21 h0 h1 => ?_, fun d S C Q F h21 h0 => ?_⟩
  · exact b_X11_readBoth_5 (d := d + 1) F (t_takes F T h19 hp h21 (fun z => ⟨rfl, fun _ => h0 (by simpa using z), fun y => absurd rfl y⟩) (fun z => ⟨rfl, fun y => absurd y (by decide), fun _ => h1 (by simpa using z)⟩))
  · exact b_X11_readBoth_5 (d := d + 1) F (t_takesB F h21 ⟨rfl, fun _ => h0, fun y => absurd rfl y⟩)
theorem lp_test (τ : Tks) (o : Bool) (l : Int) : LoopM τ o (fun x => x == 5) (fun d S C Q => K_X11_readBoth_0 d 0 0 l S C Q) (fun d S C Q => K_X11_readTest_5 d 0 0 l S C Q) := by
  refine ⟨fun d S C Q p F T hp h19 h21 h0 h1 => ?_, fun d S C Q F h21 h0 => ?_⟩
  · exact b_X11_readTest_5 (d := d + 1) F (t_takes F T h19 hp h21 (fun z => ⟨rfl, fun _ => h0 (by simpa using z), fun y => absurd rfl y⟩) (fun z => ⟨rfl, fun y => absurd y (by decide), fun _ => h1 (by simpa using z)⟩))
  · exact b_X11_readTest_5 (d := d + 1) F (t_takesB F h21 ⟨rfl, fun _ => h0, fun y => absurd rfl y⟩)
