/-! 66.runs: the code of every reader lays the value it means -/
def RkS (o : Bool) (rd : Rdr Sem) : Prop := ∀ (l0 A W : Int) (S : MS) (w : Wd), Fix S → RkF l0 A W S w → ∀ p n c0 f q n' cd, rd p n c0 = .inr (f, q, n', cd) → ∀ s, s + (n' - n) ≤ 50 → Seg l0 A W S w o s c0 cd f
def RkT (o : Bool) (rd : Rdr TSem) : Prop := ∀ (l0 A W : Int) (S : MS) (w : Wd), Fix S → RkF l0 A W S w → ∀ p n c0 f q n' cd, rd p n c0 = .inr (f, q, n', cd) → ∀ s, s + (n' - n) ≤ 50 → Seg l0 A W S w o s c0 cd (b2i f)
theorem rk_part {τ : Tks} {o : Bool} {inner : Option (Rdr Sem)} (hi : ∀ s, inner = some s → RkS o s) : RkS o (partP τ o inner) := by
  intro l0 A W S w F H p n c0 f q n' cd e s hs
  rcases partP_inv e with ⟨_, sd, q1, e1, e2, _⟩ | ⟨_, h50, ⟨_, e2, e3, _, e5, e6⟩ | ⟨_, e1⟩⟩
  · exact hi sd e1 l0 A W S w F H _ _ _ _ _ _ _ e2 s hs
  · obtain ⟨v, hv⟩ : ∃ v : Nat, tv τ p = v := ⟨(tv τ p).toNat, by omega⟩
    rw [e6, e3, hv]
    exact seg_leaf (v := v) (t := 1) F H (by omega) (by omega) (Or.inl ⟨rfl, rfl⟩)
  · obtain ⟨a1, i, b1, b2, b3, b4⟩ := wordP_inv e1
    obtain ⟨v, hv⟩ : ∃ v : Nat, i = v := ⟨i.toNat, by omega⟩
    rw [b1, b2, hv]
    refine seg_leaf (v := v) (t := 2) F H (by omega) (by omega) (Or.inr ⟨rfl, ?_, rfl⟩)
    rcases b4 with ⟨c0, _⟩ | ⟨c0, _⟩ | ⟨c0, _⟩ | ⟨c0, _, _, _, c4⟩
    · rw [c0]; simp; omega
    · rw [c0]; simp; omega
    · rw [c0]; simp; omega
    · rw [c0]; simp; omega
def OpOk (is : Int → Bool) : Prop := ∀ c, is c = true → ∃ t : Nat, (3 ≤ t ∧ t ≤ 7) ∧ opC c = t ∧ ∀ f g, opS c f g = bi t f g
theorem opOk_of {c : Int} {t : Nat} (h : ∀ a b, joinS c a b = jnS t a b) : ∀ f g, opS c f g = bi t f g := by
  intro f g
  funext w
  unfold opS bi
  cases f w with
  | none => rfl
  | some a =>
    simp only
    cases g w with
    | none => rfl
    | some b => exact h a b
theorem opOk_mul : OpOk isMul := by
  intro c hc
  rcases isMul_iff.mp hc with rfl | rfl | rfl
  · exact ⟨5, by omega, rfl, opOk_of (fun a b => rfl)⟩
  · exact ⟨6, by omega, rfl, opOk_of (fun a b => rfl)⟩
  · exact ⟨7, by omega, rfl, opOk_of (fun a b => rfl)⟩
theorem opOk_add : OpOk isAdd := by
  intro c hc
  rcases isAdd_iff.mp hc with rfl | rfl
  · exact ⟨3, by omega, rfl, opOk_of (fun a b => rfl)⟩
  · exact ⟨4, by omega, rfl, opOk_of (fun a b => rfl)⟩
theorem rk_row {τ : Tks} {o : Bool} {is : Int → Bool} {pt : Rdr Sem} (ho : OpOk is) (hp : RkS o pt) (hg : Gd τ SBd pt) {l0 A W : Int} {S : MS} {w : Wd} (F : Fix S) (H : RkF l0 A W S w) {s lv0 c0 : Nat} : ∀ (n : Nat) (f : Sem) (p lv : Nat) (cd : List Int) (g : Sem) (q lv' : Nat) (cd' : List Int), rowP τ is pt n f p lv c0 cd = .inr (g, q, lv', cd') → lv0 < lv → s + (lv' - lv0) ≤ 50 → SBd f → Seg l0 A W S w o s c0 cd f → Seg l0 A W S w o s c0 cd' g
  | 0, f, p, lv, cd, g, q, lv', cd', e, h1, h2, hf, sg => by
    unfold rowP at e
    cases e
    exact sg
  | n + 1, f, p, lv, cd, g, q, lv', cd', e, h1, h2, hf, sg => by
    rcases rowP_inv e with ⟨_, e1, _, _, e4⟩ | ⟨z, g1, q1, lv1, cd1, e1, e2⟩
    · rw [e1, e4]; exact sg
    · obtain ⟨a1, a2, a3⟩ := hg _ _ _ _ _ _ _ e1
      obtain ⟨b1, b2, _⟩ := Gd_row hg _ _ _ _ _ _ _ _ _ _ e2 (opS_bd _ _ _)
      obtain ⟨t, t1, t2, t3⟩ := ho _ z
      refine rk_row ho hp hg F H n _ _ _ _ _ _ _ _ e2 (by omega) h2 (opS_bd _ _ _) ?_
      rw [t2, t3]
      exact seg_bi F H (by omega) (by omega) hf a3 sg (hp l0 A W S w F H _ _ _ _ _ _ _ e1 (s + 1) (by omega))
theorem rk_seq {τ : Tks} {o : Bool} {is : Int → Bool} {pt : Rdr Sem} (ho : OpOk is) (hp : RkS o pt) (hg : Gd τ SBd pt) : RkS o (seqP τ is pt) := by
  intro l0 A W S w F H p n c0 f q n' cd e s hs
  obtain ⟨f1, q1, lv1, cd1, e1, e2⟩ := seqP_inv e
  obtain ⟨a1, a2, a3⟩ := hg _ _ _ _ _ _ _ e1
  obtain ⟨b1, b2, _⟩ := Gd_row hg _ _ _ _ _ _ _ _ _ _ e2 a3
  exact rk_row ho hp hg F H (lv0 := n) 400 _ _ _ _ _ _ _ _ e2 (by omega) hs a3 (hp l0 A W S w F H _ _ _ _ _ _ _ e1 s (by omega))
theorem rk_sum {τ : Tks} {o : Bool} {pt : Rdr Sem} (hp : RkS o pt) (hg : Gd τ SBd pt) : RkS o (sumP τ pt) := rk_seq opOk_add (rk_seq opOk_mul hp hg) (Gd_seq hg)
theorem rk_pt (τ : Tks) (o : Bool) : ∀ g, RkS o (ptP τ o g)
  | 0 => rk_part (fun s e => by cases e)
  | g + 1 => rk_part (fun s e => by cases e; exact rk_sum (rk_pt τ o g) (Gd_pt τ o g))
theorem cmp_bi {c : Int} (hc : isCmp c = true) : ∃ t : Nat, (8 ≤ t ∧ t ≤ 10) ∧ cmpC c = t ∧ ∀ f g, b2i (cmpS c f g) = bi t f g := by
  have key : ∀ (t : Nat), (∀ a b, some (b2 (if c = 160 then decide (a < b) else if c = 162 then decide (b < a) else decide (a = b))) = jnS t a b) → ∀ f g, b2i (cmpS c f g) = bi t f g := by
    intro t h f g
    funext w
    unfold b2i cmpS bi
    cases f w with
    | none => rfl
    | some a =>
      simp only
      cases g w with
      | none => rfl
      | some b => exact h a b
  rcases isCmp_iff.mp hc with rfl | rfl | rfl
  · exact ⟨8, by omega, rfl, key 8 (fun a b => by simp [jnS, b2])⟩
  · exact ⟨9, by omega, rfl, key 9 (fun a b => by simp [jnS, b2])⟩
  · exact ⟨10, by omega, rfl, key 10 (fun a b => by simp [jnS, b2])⟩
theorem rk_pos {τ : Tks} {o : Bool} {su : Rdr Sem} {inner : Option (Rdr TSem)} (hp : RkS o su) (hg : Gd τ SBd su) (hi : ∀ s, inner = some s → RkT o s) : RkT o (posP τ su inner) := by
  intro l0 A W S w F H p n c0 f q n' cd e s hs
  unfold posP at e
  split at e
  · obtain ⟨sd, q1, e1, e2, _⟩ := brP_inv e
    exact hi sd e1 l0 A W S w F H _ _ _ _ _ _ _ e2 s hs
  · obtain ⟨f1, q1, l1, cd1, f2, cd2, e1, e2, e3, e4, e5⟩ := cmprP_inv e
    obtain ⟨a1, a2, a3⟩ := hg _ _ _ _ _ _ _ e1
    obtain ⟨b1, b2, b3⟩ := hg _ _ _ _ _ _ _ e3
    obtain ⟨t, t1, t2, t3⟩ := cmp_bi e2
    rw [e4, e5, t2, t3]
    exact seg_bi F H (by omega) (by omega) a3 b3 (hp l0 A W S w F H _ _ _ _ _ _ _ e1 s (by omega)) (hp l0 A W S w F H _ _ _ _ _ _ _ e3 (s + 1) (by omega))
theorem notS_false (f : TSem) : notS false f = f := by
  funext w
  unfold notS
  cases f w with
  | none => rfl
  | some b => cases b <;> rfl
theorem rk_plain {τ : Tks} {o : Bool} {su : Rdr Sem} {inner : Option (Rdr TSem)} (hp : RkS o su) (hg : Gd τ SBd su) (hi : ∀ s, inner = some s → RkT o s) (hgi : ∀ s, inner = some s → Gd τ Tr s) : RkT o (plainP τ su inner) := by
  intro l0 A W S w F H p n c0 f q n' cd e s hs
  obtain ⟨f1, cd1, e1, e2, e3⟩ := plainP_inv e
  obtain ⟨a1, a2, _⟩ := Gd_pos hg hgi _ _ _ _ _ _ _ e1
  have sg := rk_pos hp hg hi l0 A W S w F H _ _ _ _ _ _ _ e1 s hs
  rw [e2, e3]
  cases hb : (notP τ 400 p false).1 with
  | true => exact seg_not F H (by omega) sg
  | false => rw [notS_false]; exact sg
theorem rk_laz {τ : Tks} {o : Bool} {c : Int} {op : Nat} {stop : Bool} {pt : Rdr TSem} (ho : (op = 12 ∧ stop = false) ∨ (op = 13 ∧ stop = true)) (hp : RkT o pt) (hg : Gd τ Tr pt) {l0 A W : Int} {S : MS} {w : Wd} (F : Fix S) (H : RkF l0 A W S w) {s lv0 c0 : Nat} : ∀ (n : Nat) (f : TSem) (p lv : Nat) (cd : List Int) (g : TSem) (q lv' : Nat) (cd' : List Int), lazP τ c (op : Int) stop pt n f p lv c0 cd = .inr (g, q, lv', cd') → lv0 < lv → s + (lv' - lv0) ≤ 50 → Seg l0 A W S w o s c0 cd (b2i f) → Seg l0 A W S w o s c0 cd' (b2i g)
  | 0, f, p, lv, cd, g, q, lv', cd', e, h1, h2, sg => by
    unfold lazP at e
    cases e
    exact sg
  | n + 1, f, p, lv, cd, g, q, lv', cd', e, h1, h2, sg => by
    rcases lazP_inv e with ⟨_, e1, _, _, e4⟩ | ⟨z, g1, q1, lv1, cd1, e1, e2⟩
    · rw [e1, e4]; exact sg
    · obtain ⟨a1, a2, a3⟩ := hg _ _ _ _ _ _ _ e1
      obtain ⟨b1, b2⟩ := Gd_laz hg _ _ _ _ _ _ _ _ _ _ e2
      refine rk_laz ho hp hg F H n _ _ _ _ _ _ _ _ e2 (by omega) h2 ?_
      exact seg_laz F H ho (by omega) sg (hp l0 A W S w F H _ _ _ _ _ _ _ e1 s (by omega))
theorem rk_lazy {τ : Tks} {o : Bool} {c : Int} {op : Nat} {stop : Bool} {pt : Rdr TSem} (ho : (op = 12 ∧ stop = false) ∨ (op = 13 ∧ stop = true)) (hp : RkT o pt) (hg : Gd τ Tr pt) : RkT o (lazyP τ c (op : Int) stop pt) := by
  intro l0 A W S w F H p n c0 f q n' cd e s hs
  obtain ⟨f1, q1, lv1, cd1, e1, e2⟩ := lazyP_inv e
  obtain ⟨a1, a2, a3⟩ := hg _ _ _ _ _ _ _ e1
  obtain ⟨b1, b2⟩ := Gd_laz hg _ _ _ _ _ _ _ _ _ _ e2
  exact rk_laz ho hp hg F H (lv0 := n) 400 _ _ _ _ _ _ _ _ e2 (by omega) hs (hp l0 A W S w F H _ _ _ _ _ _ _ e1 s (by omega))
theorem rk_test {τ : Tks} {o : Bool} {pl : Rdr TSem} (hp : RkT o pl) (hg : Gd τ Tr pl) : RkT o (testP τ pl) := rk_lazy (op := 13) (Or.inr ⟨rfl, rfl⟩) (rk_lazy (op := 12) (Or.inl ⟨rfl, rfl⟩) hp hg) (Gd_lazy hg)
theorem rk_pl (τ : Tks) (o : Bool) : ∀ g, RkT o (plP τ o g)
  | 0 => rk_plain (rk_sum (rk_pt τ o 0) (Gd_pt τ o 0)) (Gd_sum (Gd_pt τ o 0)) (fun s e => by cases e) (fun s e => by cases e)
  | g + 1 => rk_plain (rk_sum (rk_pt τ o (g + 1)) (Gd_pt τ o (g + 1))) (Gd_sum (Gd_pt τ o (g + 1))) (fun s e => by cases e; exact rk_test (rk_pl τ o g) (Gd_pl τ o g)) (fun s e => by cases e; exact Gd_test (Gd_pl τ o g))
theorem rk_sum8 (τ : Tks) (o : Bool) : RkS o (sum8 τ o) := rk_sum (rk_pt τ o 8) (Gd_pt τ o 8)
theorem rk_test8 (τ : Tks) (o : Bool) : RkT o (test8 τ o) := rk_test (rk_pl τ o 8) (Gd_pl τ o 8)
