/-! 30.heaps: how few payments settle it -/
def Pk (z : Nat → Prop) : Nat → Nat → Prop
  | 0, _ => True
  | c + 1, X => ∃ Y, mSub Y X ∧ Y ≠ 0 ∧ z Y ∧ Pk z c (mDiff X Y)
def Pt (z : Nat → Prop) : Nat → Nat → Prop
  | 0, X => X = 0
  | c + 1, X => ∃ Y, mSub Y X ∧ Y ≠ 0 ∧ z Y ∧ Pt z c (mDiff X Y)
theorem mDiff_mono {X X' Y : Nat} (h : mSub X X') : mSub (mDiff X Y) (mDiff X' Y) := mSub_bit.mpr fun k hk => by
  rw [mDiff_bit] at hk ⊢
  simp at hk ⊢
  exact ⟨mSub_bit.mp h k hk.1, hk.2⟩
theorem mDiff_anti {X Y Y' : Nat} (h : mSub Y Y') : mSub (mDiff X Y') (mDiff X Y) := mSub_bit.mpr fun k hk => by
  rw [mDiff_bit] at hk ⊢
  simp at hk ⊢
  refine ⟨hk.1, ?_⟩
  cases hy : Y.testBit k
  · rfl
  · rw [mSub_bit.mp h k hy] at hk; simp at hk
theorem mDiff_comm (X Y Z : Nat) : mDiff (mDiff X Y) Z = mDiff (mDiff X Z) Y := Nat.eq_of_testBit_eq fun k => by
  rw [mDiff_bit, mDiff_bit, mDiff_bit, mDiff_bit]
  cases X.testBit k <;> cases Y.testBit k <;> cases Z.testBit k <;> rfl
theorem mDiff_diff {X Y : Nat} (h : mSub Y X) : mDiff X (mDiff X Y) = Y := Nat.eq_of_testBit_eq fun k => by
  rw [mDiff_bit, mDiff_bit]
  have := mSub_bit.mp h k
  cases hx : X.testBit k <;> cases hy : Y.testBit k <;> simp_all
theorem mDiff_self (X : Nat) : mDiff X X = 0 := mDiff_eq_zero.mpr (mSub_refl X)
theorem Pk_mono {z : Nat → Prop} : ∀ (c : Nat) {X X' : Nat}, mSub X X' → Pk z c X → Pk z c X'
  | 0, _, _, _, _ => trivial
  | c + 1, _, _, h, ⟨Y, y1, y2, y3, y4⟩ => ⟨Y, mSub_trans y1 h, y2, y3, Pk_mono c (mDiff_mono h) y4⟩
theorem Pk_less {z : Nat → Prop} : ∀ (c : Nat) {X : Nat}, Pk z (c + 1) X → Pk z c X
  | 0, _, _ => trivial
  | c + 1, _, ⟨Y, y1, y2, y3, y4⟩ => ⟨Y, y1, y2, y3, Pk_less c y4⟩
theorem Pk_le {z : Nat → Prop} {X : Nat} {c : Nat} : ∀ m, Pk z (c + m) X → Pk z c X
  | 0, h => h
  | m + 1, h => Pk_le m (Pk_less (c + m) h)
theorem Pt_Pk {z : Nat → Prop} : ∀ (c : Nat) {X : Nat}, Pt z c X → Pk z c X
  | 0, _, _ => trivial
  | c + 1, _, ⟨Y, y1, y2, y3, y4⟩ => ⟨Y, y1, y2, y3, Pt_Pk c y4⟩
/-- z speaks of sums that are even -/
def zAdd (z : Nat → Prop) : Prop := z 0 ∧ ∀ X Y, mSub Y X → z Y → (z X ↔ z (mDiff X Y))
theorem Pt_z {z : Nat → Prop} (hz : zAdd z) : ∀ (c : Nat) {X : Nat}, Pt z c X → z X
  | 0, X, h => by have h : X = 0 := h; rw [h]; exact hz.1
  | c + 1, X, ⟨Y, y1, y2, y3, y4⟩ => (hz.2 X Y y1 y3).mpr (Pt_z hz c y4)
/-- the union of a packing -/
theorem Pk_union {z : Nat → Prop} : ∀ (c : Nat) {X : Nat}, Pk z c X → ∃ U, mSub U X ∧ Pt z c U
  | 0, X, _ => ⟨0, mSub_zero X, rfl⟩
  | c + 1, X, ⟨Y, y1, y2, y3, y4⟩ => by
    obtain ⟨U, u1, u2⟩ := Pk_union c y4
    refine ⟨Y ||| U, mSub_bit.mpr fun k hk => ?_, Y, mSub_bit.mpr fun k hk => by rw [Nat.testBit_or, hk]; rfl, y2, y3, ?_⟩
    · rw [Nat.testBit_or] at hk
      simp at hk
      rcases hk with hk | hk
      · exact mSub_bit.mp y1 k hk
      · have := mSub_bit.mp u1 k hk
        rw [mDiff_bit] at this; simp at this; exact this.1
    · have e : mDiff (Y ||| U) Y = U := Nat.eq_of_testBit_eq fun k => by
        rw [mDiff_bit, Nat.testBit_or]
        have := mSub_bit.mp u1 k
        rw [mDiff_bit] at this
        cases hy : Y.testBit k <;> cases hu : U.testBit k <;> simp_all
      rw [e]
      exact u2
theorem exists_bit {X : Nat} (h : X ≠ 0) : ∃ k, X.testBit k = true := by
  apply Classical.byContradiction
  intro hno
  apply h
  apply Nat.eq_of_testBit_eq
  intro k
  rw [Nat.zero_testBit]
  cases hx : X.testBit k
  · rfl
  · exact absurd ⟨k, hx⟩ hno
theorem pow_sub {X k : Nat} (h : X.testBit k = true) : mSub (2 ^ k) X := mSub_bit.mpr fun j hj => by
  rw [Nat.testBit_two_pow] at hj
  simp at hj
  rw [← hj]; exact h
/-- v is the most heaps that can be packed into X -/
def GMx (z : Nat → Prop) (X : Nat) (v : Int) : Prop := 0 ≤ v ∧ Pk z v.toNat X ∧ ∀ c : Nat, Pk z c X → (c : Int) ≤ v
theorem GMx_zero {z : Nat → Prop} : GMx z 0 0 := by
  refine ⟨Int.le_refl _, trivial, fun c h => ?_⟩
  match c, h with
  | 0, _ => exact Int.le_refl _
  | c + 1, ⟨Y, y1, y2, _⟩ => exact absurd (Nat.le_zero.mp (mSub_le y1)) y2
theorem GMx_step {z : Nat → Prop} (hz : zAdd z) {X : Nat} {g : Nat → Int} {v : Int} {b : Bool} (h0 : X ≠ 0) (hb : b = true ↔ z X) (hg : ∀ k, X.testBit k = true → GMx z (mDiff X (2 ^ k)) (g k))
    (h1 : ∀ k, X.testBit k = true → g k ≤ v) (h2 : ∃ k, X.testBit k = true ∧ v = g k) : GMx z X (if b then v + 1 else v) := by
  obtain ⟨k, k1, k2⟩ := h2
  obtain ⟨a1, a2, a3⟩ := hg k k1
  have hup : ∀ c : Nat, Pk z c X → (c : Int) ≤ if b then v + 1 else v := by
    intro c hc
    obtain ⟨U, u1, u2⟩ := Pk_union c hc
    by_cases hU : mDiff X U = 0
    · have hXU : U = X := by
        have := mDiff_eq_zero.mp hU
        exact Nat.le_antisymm (mSub_le u1) (mSub_le this)
      subst hXU
      rw [if_pos (hb.mpr (Pt_z hz c u2))]
      match c, u2 with
      | 0, _ => show (0 : Int) ≤ v + 1; omega
      | c + 1, ⟨Y, y1, y2, y3, y4⟩ =>
        obtain ⟨j, hj⟩ := exists_bit y2
        have hjX := mSub_bit.mp y1 j hj
        have := (hg j hjX).2.2 c (Pk_mono c (mDiff_anti (pow_sub hj)) (Pt_Pk c y4))
        have := h1 j hjX
        omega
    · obtain ⟨j, hj⟩ := exists_bit hU
      rw [mDiff_bit] at hj
      simp at hj
      have hs : mSub U (mDiff X (2 ^ j)) := mSub_bit.mpr fun i hi => by
        rw [mDiff_bit, mSub_bit.mp u1 i hi, Nat.testBit_two_pow]
        by_cases e : j = i
        · subst e; rw [hj.2] at hi; cases hi
        · simp [e]
      have := (hg j hj.1).2.2 c (Pk_mono c hs (Pt_Pk c u2))
      have := h1 j hj.1
      split <;> omega
  refine ⟨by split <;> omega, ?_, hup⟩
  cases hbb : b
  · rw [if_neg (by decide), k2]
    exact Pk_mono _ (mSub_diff _ _) a2
  · rw [if_pos rfl, k2, show (g k + 1).toNat = (g k).toNat + 1 by omega]
    obtain ⟨U, u1, u2⟩ := Pk_union _ a2
    have hUX : mSub U X := mSub_trans u1 (mSub_diff _ _)
    have zU := Pt_z hz _ u2
    refine ⟨mDiff X U, mSub_diff _ _, fun e => ?_, (hz.2 X U hUX zU).mp (hb.mp hbb), ?_⟩
    · have h3 := mSub_bit.mp (mDiff_eq_zero.mp e) k k1
      have h4 := mSub_bit.mp u1 k h3
      rw [mDiff_bit, Nat.testBit_two_pow] at h4
      simp at h4
    · rw [mDiff_diff hUX]
      exact Pt_Pk _ u2
/-- v is the most heaps into which X falls, or -1 -/
def MMx (z : Nat → Prop) (X : Nat) (v : Int) : Prop := -1 ≤ v ∧ (v ≠ -1 → Pt z v.toNat X) ∧ ∀ c : Nat, Pt z c X → (c : Int) ≤ v
theorem MMx_zero {z : Nat → Prop} : MMx z 0 0 := by
  refine ⟨by decide, fun _ => rfl, fun c h => ?_⟩
  match c, h with
  | 0, _ => exact Int.le_refl _
  | c + 1, ⟨Y, y1, y2, _⟩ => exact absurd (Nat.le_zero.mp (mSub_le y1)) y2
theorem MMx_step {z : Nat → Prop} {X : Nat} {m : Nat → Int} {v : Int} (h0 : X ≠ 0) (hm : ∀ Y, mSub Y X → Y ≠ 0 → MMx z (mDiff X Y) (m (mDiff X Y)))
    (h1 : ∀ Y, mSub Y X → Y ≠ 0 → z Y → m (mDiff X Y) ≠ -1 → m (mDiff X Y) + 1 ≤ v) (h2 : v = -1 ∨ ∃ Y, mSub Y X ∧ Y ≠ 0 ∧ z Y ∧ m (mDiff X Y) ≠ -1 ∧ v = m (mDiff X Y) + 1) : MMx z X v := by
  refine ⟨?_, fun hv => ?_, fun c hc => ?_⟩
  · rcases h2 with h2 | ⟨Y, y1, y2, y3, y4, y5⟩
    · omega
    · have := (hm Y y1 y2).1; omega
  · rcases h2 with h2 | ⟨Y, y1, y2, y3, y4, y5⟩
    · exact absurd h2 hv
    · have h3 := (hm Y y1 y2).1
      rw [y5, show (m (mDiff X Y) + 1).toNat = (m (mDiff X Y)).toNat + 1 by omega]
      exact ⟨Y, y1, y2, y3, (hm Y y1 y2).2.1 y4⟩
  · match c, hc with
    | 0, hc => exact absurd hc h0
    | c + 1, ⟨Y, y1, y2, y3, y4⟩ =>
      have h3 := (hm Y y1 y2).2.2 c y4
      have := h1 Y y1 y2 y3 (by omega)
      omega
/-- even houses taken away -/
theorem Pk_rem {z : Nat → Prop} {k : Nat} : ∀ (c : Nat) {X : Nat}, X.testBit k = true → Pk z (c + 1) X → Pk z c (mDiff X (2 ^ k))
  | 0, _, _, _ => trivial
  | c + 1, X, hk, ⟨Y, y1, y2, y3, y4⟩ => by
    cases hy : Y.testBit k
    · have h2 := Pk_rem c (X := mDiff X Y) (by rw [mDiff_bit, hk, hy]; rfl) y4
      refine ⟨Y, mSub_bit.mpr fun j hj => ?_, y2, y3, by rw [mDiff_comm]; exact h2⟩
      rw [mDiff_bit, mSub_bit.mp y1 j hj, Nat.testBit_two_pow]
      by_cases e : k = j
      · subst e; rw [hy] at hj; cases hj
      · simp [e]
    · exact Pk_mono _ (mDiff_anti (pow_sub hy)) y4
theorem Pk_addk {z : Nat → Prop} {k c X : Nat} (hk : X.testBit k = true) (hz : z (2 ^ k)) (h : Pk z c (mDiff X (2 ^ k))) : Pk z (c + 1) X :=
  ⟨2 ^ k, pow_sub hk, Nat.pos_iff_ne_zero.mp (Nat.two_pow_pos k), hz, h⟩
/-- the two counts agree -/
theorem heaps_eq {z : Nat → Prop} (hz : zAdd z) : ∀ (m : Nat) {F A : Nat} {g v : Int}, F < 256 → mSub A F → (∀ k, F.testBit k = true → A.testBit k = false → z (2 ^ k)) → sm (fun _ => 1) F = sm (fun _ => 1) A + m → z A → GMx z F g → MMx z A v → v ≠ -1 ∧ g = v + m
  | 0, F, A, g, v, hF, hA, hzk, hc, zA, hg, hv => by
    have e : A = F := by
      have h1 : mSub F A := mSub_bit.mpr fun k hk => by
        cases ha : A.testBit k
        · exfalso
          have h8 := bit_lt8 hF hk
          have h2 := sm_mono (f := fun _ => 1) (or_pow_sub hA hk) (fun _ _ => by decide)
          rw [sm1_add h8 ha] at h2
          omega
        · rfl
      exact Nat.le_antisymm (mSub_le hA) (mSub_le h1)
    subst e
    have hex : ∃ c : Nat, Pt z c A ∧ g ≤ c := by
      obtain ⟨U, u1, u2⟩ := Pk_union _ hg.2.1
      have zU := Pt_z hz _ u2
      by_cases hU : mDiff A U = 0
      · have hXU : U = A := Nat.le_antisymm (mSub_le u1) (mSub_le (mDiff_eq_zero.mp hU))
        rw [hXU] at u2
        exact ⟨_, u2, by have := hg.1; omega⟩
      · refine ⟨g.toNat + 1, ⟨mDiff A U, mSub_diff _ _, hU, (hz.2 A U u1 zU).mp zA, by rw [mDiff_diff u1]; exact u2⟩, by have := hg.1; omega⟩
    obtain ⟨c, c1, c2⟩ := hex
    have h3 := hv.2.2 c c1
    have h4 := hg.2.2 c (Pt_Pk c c1)
    have h5 := hg.1
    have hne : v ≠ -1 := by omega
    have h6 := hg.2.2 _ (Pt_Pk _ (hv.2.1 hne))
    exact ⟨hne, by omega⟩
  | m + 1, F, A, g, v, hF, hA, hzk, hc, zA, hg, hv => by
    have hex : ∃ k, F.testBit k = true ∧ A.testBit k = false := by
      apply Classical.byContradiction
      intro hno
      have h1 : mSub F A := mSub_bit.mpr fun k hk => by
        cases ha : A.testBit k
        · exact absurd ⟨k, hk, ha⟩ hno
        · rfl
      have := sm_mono (f := fun _ => 1) h1 (fun _ _ => by decide)
      omega
    obtain ⟨k, k1, k2⟩ := hex
    have h8 := bit_lt8 hF k1
    have hF2 : mDiff F (2 ^ k) < 256 := Nat.lt_of_le_of_lt (mDiff_le _ _) hF
    have hA2 : mSub A (mDiff F (2 ^ k)) := mSub_bit.mpr fun j hj => by
      rw [mDiff_bit, mSub_bit.mp hA j hj, Nat.testBit_two_pow]
      by_cases e : k = j
      · subst e; rw [k2] at hj; cases hj
      · simp [e]
    have hg2 : GMx z (mDiff F (2 ^ k)) (g - 1) := by
      have hz1 := hzk k k1 k2
      have h1 : Pk z 1 F := ⟨2 ^ k, pow_sub k1, Nat.pos_iff_ne_zero.mp (Nat.two_pow_pos k), hz1, trivial⟩
      have h2 := hg.2.2 1 h1
      refine ⟨by omega, ?_, fun c hc => ?_⟩
      · have h3 := hg.2.1
        rw [show g.toNat = (g - 1).toNat + 1 by omega] at h3
        exact Pk_rem _ k1 h3
      · have := hg.2.2 (c + 1) (Pk_addk k1 hz1 hc)
        omega
    have hsm : sm (fun _ => 1) F = sm (fun _ => 1) (mDiff F (2 ^ k)) + 1 := by rw [sm_split (pow_sub k1), sm1_pow k h8]
    have := heaps_eq hz m hF2 hA2 (fun j j1 j2 => hzk j (mSub_bit.mp (mSub_diff _ _) j j1) j2) (by omega) zA hg2 hv
    exact ⟨this.1, by have := this.2; omega⟩
theorem zAdd_sm {f : Nat → Int} : zAdd (fun X => sm f X = 0) := by
  refine ⟨sm_zero, fun X Y h hy => ?_⟩
  have := sm_split (f := f) h
  show sm f X = 0 ↔ sm f (mDiff X Y) = 0
  have hy : sm f Y = 0 := hy
  omega
