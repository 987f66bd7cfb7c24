/-! 27.ways: who plays what, as pure mathematics -/
/-- sum of f over the keys of a set below m -/
def smN (f : Nat → Int) (X : Nat) : Nat → Int
  | 0 => 0
  | m + 1 => smN f X m + (if X.testBit m then f m else 0)
def sm (f : Nat → Int) (X : Nat) : Int := smN f X 8
theorem smN_cong {f g : Nat → Int} {X : Nat} : ∀ m, (∀ k, k < m → X.testBit k = true → f k = g k) → smN f X m = smN g X m
  | 0, _ => rfl
  | m + 1, h => by
    unfold smN
    rw [smN_cong m (fun k hk => h k (by omega))]
    cases hx : X.testBit m
    · rfl
    · simp only [if_true]; rw [h m (by omega) hx]
theorem smN_split {f : Nat → Int} {X P : Nat} (h : mSub P X) : ∀ m, smN f X m = smN f (mDiff X P) m + smN f P m
  | 0 => rfl
  | m + 1 => by
    unfold smN
    rw [smN_split h m, mDiff_bit]
    have := mSub_bit.mp h m
    cases hx : X.testBit m <;> cases hp : P.testBit m <;> simp_all <;> omega
theorem sm_split {f : Nat → Int} {X P : Nat} (h : mSub P X) : sm f X = sm f (mDiff X P) + sm f P := smN_split h 8
theorem sm_cong {f g : Nat → Int} {X : Nat} (h : ∀ k, k < 8 → X.testBit k = true → f k = g k) : sm f X = sm g X := smN_cong 8 h
theorem smN_mono {f : Nat → Int} {X Y : Nat} (h : mSub X Y) (hf : ∀ k, k < 8 → 0 ≤ f k) : ∀ m, m ≤ 8 → smN f X m ≤ smN f Y m
  | 0, _ => Int.le_refl _
  | m + 1, hm => by
    unfold smN
    have h1 := smN_mono h hf m (by omega)
    have h2 := hf m (by omega)
    have := mSub_bit.mp h m
    cases hx : X.testBit m <;> cases hp : Y.testBit m <;> simp_all <;> omega
theorem sm_mono {f : Nat → Int} {X Y : Nat} (h : mSub X Y) (hf : ∀ k, k < 8 → 0 ≤ f k) : sm f X ≤ sm f Y := smN_mono h hf 8 (Nat.le_refl _)
theorem smN_zero {f : Nat → Int} : ∀ m, smN f 0 m = 0
  | 0 => rfl
  | m + 1 => by unfold smN; rw [smN_zero m, Nat.zero_testBit]; rfl
theorem sm_zero {f : Nat → Int} : sm f 0 = 0 := smN_zero 8
theorem smN_bd {f : Nat → Int} {X : Nat} {b : Int} (hb : 0 ≤ b) (hf : ∀ k, k < 8 → 0 ≤ f k ∧ f k ≤ b) : ∀ m : Nat, m ≤ 8 → 0 ≤ smN f X m ∧ smN f X m ≤ m * b
  | 0, _ => by simp [smN]
  | m + 1, hm => by
    have h1 := smN_bd (X := X) hb hf m (by omega)
    have h2 := hf m (by omega)
    have e : ((m + 1 : Nat) : Int) * b = m * b + b := by rw [Int.natCast_add, Int.add_mul]; simp
    rw [e]
    unfold smN
    split <;> omega
theorem sm_bd {f : Nat → Int} {X : Nat} {b : Int} (hb : 0 ≤ b) (hf : ∀ k, k < 8 → 0 ≤ f k ∧ f k ≤ b) : 0 ≤ sm f X ∧ sm f X ≤ 8 * b := smN_bd hb hf 8 (Nat.le_refl _)
/-- a set out of a predicate -/
def mkN (p : Nat → Bool) : Nat → Nat
  | 0 => 0
  | m + 1 => mkN p m + (if p m then 2 ^ m else 0)
theorem mkN_lt (p : Nat → Bool) : ∀ m, mkN p m < 2 ^ m
  | 0 => by simp [mkN]
  | m + 1 => by
    have := mkN_lt p m
    unfold mkN
    rw [Nat.pow_succ]
    split <;> omega
theorem mkN_bit (p : Nat → Bool) : ∀ m k, (mkN p m).testBit k = (decide (k < m) && p k)
  | 0, k => by simp [mkN]
  | m + 1, k => by
    have hl := mkN_lt p m
    have ih := mkN_bit p m k
    unfold mkN
    cases hp : p m
    · simp only [Bool.false_eq_true, if_false, Nat.add_zero]
      rw [ih]
      by_cases hk : k = m
      · subst hk; simp [hp]
      · have : (k < m) = (k < m + 1) := by apply propext; omega
        simp only [this]
    · simp only [if_true]
      rw [Nat.add_comm]
      by_cases hk : k = m
      · subst hk
        rw [Nat.testBit_two_pow_add_eq, ih]
        simp [hp]
      · rcases Nat.lt_or_ge k m with h1 | h1
        · rw [Nat.testBit_two_pow_add_gt h1, ih]
          have : k < m + 1 := by omega
          simp [h1, this]
        · have e1 : 2 ^ m + mkN p m < 2 ^ (m + 1) := by rw [Nat.pow_succ]; omega
          rw [Nat.testBit_lt_two_pow (Nat.lt_of_lt_of_le e1 (Nat.pow_le_pow_right (by decide) (by omega)))]
          have : ¬ k < m + 1 := by omega
          simp [this]
def mk8 (p : Nat → Bool) : Nat := mkN p 8
theorem mk8_lt (p : Nat → Bool) : mk8 p < 256 := mkN_lt p 8
theorem mk8_bit (p : Nat → Bool) {k : Nat} (hk : k < 8) : (mk8 p).testBit k = p k := by
  unfold mk8; rw [mkN_bit]; simp [hk]
/-- the part of house h of the set X when key k is played by a k -/
def prt (a : Nat → Nat) (X h : Nat) : Nat := mk8 (fun k => X.testBit k && decide (a k = h))
theorem prt_lt (a : Nat → Nat) (X h : Nat) : prt a X h < 256 := mk8_lt _
theorem prt_bit {a : Nat → Nat} {X h k : Nat} (hX : X < 256) : (prt a X h).testBit k = (X.testBit k && decide (a k = h)) := by
  unfold prt mk8
  rw [mkN_bit]
  cases hx : X.testBit k
  · simp
  · have := bit_lt8 hX hx
    simp [this]
theorem prt_sub {a : Nat → Nat} {X h : Nat} (hX : X < 256) : mSub (prt a X h) X := mSub_bit.mpr fun k hk => by
  rw [prt_bit hX] at hk; simp at hk; exact hk.1
/-- houses of H can have X as a says -/
def Vd (ok : Nat → Nat → Prop) (H : Nat → Prop) (X : Nat) (a : Nat → Nat) : Prop := (∀ k, X.testBit k = true → H (a k)) ∧ ∀ h, H h → ok h (prt a X h)
theorem Vd_split {ok : Nat → Nat → Prop} {H H' : Nat → Prop} {X h : Nat} {a : Nat → Nat} (hX : X < 256) (hH : ∀ j, H' j ↔ H j ∨ j = h) (hn : ¬ H h) (v : Vd ok H' X a) : ok h (prt a X h) ∧ Vd ok H (mDiff X (prt a X h)) a := by
  refine ⟨v.2 h ((hH h).mpr (Or.inr rfl)), fun k hk => ?_, fun j hj => ?_⟩
  · rw [mDiff_bit, prt_bit hX] at hk
    simp at hk
    exact ((hH _).mp (v.1 k hk.1)).resolve_right (hk.2.resolve_left (by rw [hk.1]; decide))
  · have e : prt a (mDiff X (prt a X h)) j = prt a X j := by
      apply Nat.eq_of_testBit_eq
      intro k
      rw [prt_bit (Nat.lt_of_le_of_lt (mDiff_le _ _) hX), mDiff_bit, prt_bit hX, prt_bit hX]
      have hjh : j ≠ h := fun e => hn (e ▸ hj)
      cases X.testBit k
      · rfl
      · by_cases e1 : a k = j
        · have : ¬ a k = h := fun e2 => hjh (e1.symm.trans e2)
          simp [e1, hjh]
        · simp [e1]
    rw [e]
    exact v.2 j ((hH j).mpr (Or.inl hj))
def updA (a : Nat → Nat) (P h : Nat) : Nat → Nat := fun k => if P.testBit k then h else a k
theorem Vd_join {ok : Nat → Nat → Prop} {H H' : Nat → Prop} {X P h : Nat} {a : Nat → Nat} (hX : X < 256) (hH : ∀ j, H' j ↔ H j ∨ j = h) (hn : ¬ H h) (hP : mSub P X) (o : ok h P) (v : Vd ok H (mDiff X P) a) : Vd ok H' X (updA a P h) ∧ prt (updA a P h) X h = P := by
  have hPX := mSub_bit.mp hP
  have eh : prt (updA a P h) X h = P := by
    apply Nat.eq_of_testBit_eq
    intro k
    rw [prt_bit hX]
    unfold updA
    cases hp : P.testBit k
    · cases hx : X.testBit k
      · rfl
      · have h1 := v.1 k (by rw [mDiff_bit, hx, hp]; rfl)
        have : ¬ a k = h := fun e => hn (e ▸ h1)
        simp [this]
    · simp [hPX k hp]
  refine ⟨⟨fun k hk => ?_, fun j hj => ?_⟩, eh⟩
  · unfold updA
    cases hp : P.testBit k
    · simp only [Bool.false_eq_true, if_false]
      exact (hH _).mpr (Or.inl (v.1 k (by rw [mDiff_bit, hk, hp]; rfl)))
    · simp only [if_true]
      exact (hH _).mpr (Or.inr rfl)
  · by_cases e : j = h
    · rw [e, eh]; exact o
    · have hj' := ((hH j).mp hj).resolve_right e
      have e2 : prt (updA a P h) X j = prt a (mDiff X P) j := by
        apply Nat.eq_of_testBit_eq
        intro k
        rw [prt_bit hX, prt_bit (Nat.lt_of_le_of_lt (mDiff_le _ _) hX), mDiff_bit]
        unfold updA
        cases hp : P.testBit k
        · simp
        · have : ¬ h = j := fun e3 => e e3.symm
          simp [this]
      rw [e2]
      exact v.2 j hj'
/-- what a way weighs -/
def wt (w : Nat → Nat → Int) (X : Nat) (a : Nat → Nat) : Int := sm (fun k => w (a k) k) X
theorem wt_split {w : Nat → Nat → Int} {X h : Nat} {a : Nat → Nat} (hX : X < 256) : wt w X a = wt w (mDiff X (prt a X h)) a + sm (w h) (prt a X h) := by
  unfold wt
  rw [sm_split (prt_sub (a := a) (h := h) hX)]
  congr 1
  refine sm_cong fun k _ hk => ?_
  rw [prt_bit hX] at hk
  simp at hk
  rw [hk.2]
theorem wt_join {w : Nat → Nat → Int} {X P h : Nat} {a : Nat → Nat} (hP : mSub P X) : wt w X (updA a P h) = wt w (mDiff X P) a + sm (w h) P := by
  unfold wt
  rw [sm_split hP]
  congr 1
  · refine sm_cong fun k _ hk => ?_
    rw [mDiff_bit] at hk
    simp at hk
    unfold updA
    rw [if_neg (by rw [hk.2]; decide)]
  · refine sm_cong fun k _ hk => ?_
    unfold updA
    rw [if_pos hk]
/-- v is the least weight of the ways of H to have X, with off added, or top if there is none -/
def Lst (ok : Nat → Nat → Prop) (w : Nat → Nat → Int) (top off : Int) (H : Nat → Prop) (X : Nat) (v : Int) : Prop :=
  v ≤ top ∧ (v < top → ∃ a, Vd ok H X a ∧ wt w X a + off = v) ∧ ∀ a, Vd ok H X a → v ≤ wt w X a + off
theorem Lst_none {ok : Nat → Nat → Prop} {w : Nat → Nat → Int} {top : Int} {H : Nat → Prop} {X : Nat} (hX : X < 256) (ht : 0 < top) (hn : ∀ h, ¬ H h) : Lst ok w top 0 H X (if X = 0 then 0 else top) := by
  by_cases h0 : X = 0
  · subst h0
    rw [if_pos rfl]
    refine ⟨Int.le_of_lt ht, fun _ => ⟨fun _ => 0, ⟨fun k hk => (by rw [Nat.zero_testBit] at hk; cases hk), fun h hh => absurd hh (hn h)⟩, ?_⟩, fun a _ => ?_⟩
    · unfold wt; rw [sm_zero]; rfl
    · unfold wt; rw [sm_zero]; exact Int.le_refl _
  · rw [if_neg h0]
    refine ⟨Int.le_refl _, fun h => absurd h (Int.lt_irrefl _), fun a v => ?_⟩
    exfalso
    apply h0
    apply Nat.eq_of_testBit_eq
    intro k
    rw [Nat.zero_testBit]
    cases hx : X.testBit k
    · rfl
    · exact absurd (v.1 k hx) (hn _)
/-- one house more -/
theorem Lst_step {ok : Nat → Nat → Prop} {w : Nat → Nat → Int} {top off g : Int} {H H' : Nat → Prop} {X h : Nat} {L : Nat → Int} {v : Int} (hX : X < 256) (hH : ∀ j, H' j ↔ H j ∨ j = h) (hn : ¬ H h)
    (hL : ∀ P, mSub P X → Lst ok w top off H (mDiff X P) (L (mDiff X P))) (hv : v ≤ top)
    (h1 : ∀ P, mSub P X → ok h P → v ≤ L (mDiff X P) + (g + sm (w h) P)) (h2 : v < top → ∃ P, mSub P X ∧ ok h P ∧ v = L (mDiff X P) + (g + sm (w h) P) ∧ L (mDiff X P) < top) : Lst ok w top (off + g) H' X v := by
  refine ⟨hv, fun hlt => ?_, fun a va => ?_⟩
  · obtain ⟨P, p1, p2, p3, p4⟩ := h2 hlt
    obtain ⟨a, va, wa⟩ := (hL P p1).2.1 p4
    refine ⟨updA a P h, (Vd_join hX hH hn p1 p2 va).1, ?_⟩
    rw [wt_join p1]
    omega
  · obtain ⟨o, v2⟩ := Vd_split hX hH hn va
    have := h1 _ (prt_sub hX) o
    have := (hL _ (prt_sub (a := a) (h := h) hX)).2.2 a v2
    rw [wt_split (h := h) hX]
    omega
theorem Lst_uniq {ok : Nat → Nat → Prop} {w : Nat → Nat → Int} {top off : Int} {H H' : Nat → Prop} {X : Nat} {v v' : Int} (hH : ∀ j, H j ↔ H' j) (h : Lst ok w top off H X v) (h' : Lst ok w top off H' X v') : v = v' := by
  have e : H = H' := funext fun j => propext (hH j)
  subst e
  obtain ⟨a1, a2, a3⟩ := h
  obtain ⟨b1, b2, b3⟩ := h'
  rcases Int.lt_or_le v top with hv | hv
  · obtain ⟨a, va, wa⟩ := a2 hv
    have c1 := b3 a va
    rcases Int.lt_or_le v' top with hv' | hv'
    · obtain ⟨b, vb, wb⟩ := b2 hv'
      have c2 := a3 b vb
      omega
    · omega
  · rcases Int.lt_or_le v' top with hv' | hv'
    · obtain ⟨b, vb, wb⟩ := b2 hv'
      have c2 := a3 b vb
      omega
    · omega
/-- which keys a house can hold at once -/
def fit (H R : Int) (P : Nat) : Prop := sm (fun _ => 1) P ≤ H ∧ ∀ i j : Nat, i < 8 → j < 8 → P.testBit i = true → P.testBit j = true → (j : Int) ≤ i + R
theorem fit_sub {H R : Int} {P Q : Nat} (h : fit H R P) (hs : mSub Q P) : fit H R Q :=
  ⟨Int.le_trans (sm_mono hs (fun _ _ => by decide)) h.1, fun i j hi hj bi bj => h.2 i j hi hj (mSub_bit.mp hs i bi) (mSub_bit.mp hs j bj)⟩
theorem fit_zero {H R : Int} (h : 0 ≤ H) : fit H R 0 := ⟨by rw [sm_zero]; exact h, fun i j _ _ bi => by rw [Nat.zero_testBit] at bi; cases bi⟩
def okP (cn : Nat → Nat → Bool) (hd rc : Nat → Int) (h P : Nat) : Prop := (∀ k, P.testBit k = true → cn h k = true) ∧ fit (hd h) (rc h) P
theorem okP_sub {cn : Nat → Nat → Bool} {hd rc : Nat → Int} {h P Q : Nat} (o : okP cn hd rc h P) (hs : mSub Q P) : okP cn hd rc h Q :=
  ⟨fun k hk => o.1 k (mSub_bit.mp hs k hk), fit_sub o.2 hs⟩
theorem okP_zero {cn : Nat → Nat → Bool} {hd rc : Nat → Int} {h : Nat} (hh : 0 ≤ hd h) : okP cn hd rc h 0 :=
  ⟨fun k hk => (by rw [Nat.zero_testBit] at hk; cases hk), fit_zero hh⟩
