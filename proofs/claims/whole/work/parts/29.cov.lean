/-! 29.cov: whether it can be had at all -/
def Cv (ok : Nat → Nat → Prop) (H : Nat → Prop) (X : Nat) : Prop := ∃ a, Vd ok H X a
theorem prt_mono {a : Nat → Nat} {X Y h : Nat} (hX : X < 256) (hs : mSub Y X) : mSub (prt a Y h) (prt a X h) := mSub_bit.mpr fun k hk => by
  rw [prt_bit (Nat.lt_of_le_of_lt (mSub_le hs) hX)] at hk
  rw [prt_bit hX]
  simp at hk ⊢
  exact ⟨mSub_bit.mp hs k hk.1, hk.2⟩
theorem Vd_mono {ok : Nat → Nat → Prop} {H : Nat → Prop} {X Y : Nat} {a : Nat → Nat} (her : ∀ h P Q, ok h P → mSub Q P → ok h Q) (hX : X < 256) (hs : mSub Y X) (v : Vd ok H X a) : Vd ok H Y a :=
  ⟨fun k hk => v.1 k (mSub_bit.mp hs k hk), fun h hh => her h _ _ (v.2 h hh) (prt_mono hX hs)⟩
theorem Cv_zero {ok : Nat → Nat → Prop} {H : Nat → Prop} (h0 : ∀ h, H h → ok h 0) : Cv ok H 0 := by
  refine ⟨fun _ => 0, fun k hk => (by rw [Nat.zero_testBit] at hk; cases hk), fun h hh => ?_⟩
  have : prt (fun _ => 0) 0 h = 0 := Nat.eq_of_testBit_eq fun k => by rw [prt_bit (by decide), Nat.zero_testBit]; rfl
  rw [this]
  exact h0 h hh
theorem Cv_step {ok : Nat → Nat → Prop} {H H' : Nat → Prop} {X h : Nat} (hX : X < 256) (hH : ∀ j, H' j ↔ H j ∨ j = h) (hn : ¬ H h) : Cv ok H' X ↔ ∃ P, mSub P X ∧ ok h P ∧ Cv ok H (mDiff X P) := by
  constructor
  · rintro ⟨a, v⟩
    obtain ⟨o, v2⟩ := Vd_split hX hH hn v
    exact ⟨_, prt_sub hX, o, a, v2⟩
  · rintro ⟨P, p1, p2, a, v⟩
    exact ⟨_, (Vd_join hX hH hn p1 p2 v).1⟩
theorem Cv_cong {ok : Nat → Nat → Prop} {H H' : Nat → Prop} {X : Nat} (hH : ∀ j, H j ↔ H' j) : Cv ok H X ↔ Cv ok H' X := by
  have e : H = H' := funext fun j => propext (hH j)
  rw [e]
theorem Lst_cov {ok : Nat → Nat → Prop} {w : Nat → Nat → Int} {top off : Int} {H : Nat → Prop} {X : Nat} {v : Int} (h : Lst ok w top off H X v) (hb : ∀ a, Vd ok H X a → wt w X a + off < top) : v < top ↔ Cv ok H X := by
  constructor
  · intro hl
    obtain ⟨a, va, _⟩ := h.2.1 hl
    exact ⟨a, va⟩
  · rintro ⟨a, va⟩
    have := h.2.2 a va
    have := hb a va
    omega
theorem sm1_pow : ∀ k : Nat, k < 8 → sm (fun _ => 1) (2 ^ k) = 1 := by decide
theorem sm1_add {P k : Nat} (hk : k < 8) (hp : P.testBit k = false) : sm (fun _ => 1) (P ||| 2 ^ k) = sm (fun _ => 1) P + 1 := by
  have hs : mSub P (P ||| 2 ^ k) := mSub_bit.mpr fun j hj => by rw [Nat.testBit_or, hj]; rfl
  have e : mDiff (P ||| 2 ^ k) P = 2 ^ k := Nat.eq_of_testBit_eq fun j => by
    rw [mDiff_bit, Nat.testBit_or, Nat.testBit_two_pow]
    by_cases h : k = j
    · subst h; simp [hp]
    · cases P.testBit j <;> simp [h]
  rw [sm_split hs, e, sm1_pow k hk]
  omega
theorem or_pow_sub {P N k : Nat} (h : mSub P N) (hk : N.testBit k = true) : mSub (P ||| 2 ^ k) N := mSub_bit.mpr fun j hj => by
  rw [Nat.testBit_or, Nat.testBit_two_pow] at hj
  by_cases e : k = j
  · subst e; exact hk
  · simp [e] at hj; exact mSub_bit.mp h j hj
/-- a part of just c keys between two -/
theorem part_between {N : Nat} {c : Int} (hN : N < 256) (hc : c ≤ sm (fun _ => 1) N) : ∀ (m : Nat) (P : Nat), mSub P N → sm (fun _ => 1) P + m = c → ∃ Q, mSub P Q ∧ mSub Q N ∧ sm (fun _ => 1) Q = c
  | 0, P, h, e => ⟨P, mSub_refl P, h, by omega⟩
  | m + 1, P, h, e => by
    have hex : ∃ k, N.testBit k = true ∧ P.testBit k = false := by
      apply Classical.byContradiction
      intro hno
      have : mSub N P := mSub_bit.mpr fun k hk => by
        cases hp : P.testBit k
        · exact absurd ⟨k, hk, hp⟩ hno
        · rfl
      have := sm_mono (f := fun _ => 1) this (fun _ _ => by decide)
      omega
    obtain ⟨k, hk, hp⟩ := hex
    have h8 := bit_lt8 hN hk
    have e2 := sm1_add h8 hp
    obtain ⟨Q, q1, q2, q3⟩ := part_between hN hc m (P ||| 2 ^ k) (or_pow_sub h hk) (by omega)
    exact ⟨Q, mSub_trans (mSub_bit.mpr fun j hj => by rw [Nat.testBit_or, hj]; rfl) q1, q2, q3⟩
/-- what lies near enough to the lowest key -/
def nearM (A X low : Nat) (R : Int) : Nat := mk8 (fun k => A.testBit k && X.testBit k && decide ((k : Int) ≤ low + R))
theorem near_bit {A X low k : Nat} {R : Int} (hX : X < 256) : (nearM A X low R).testBit k = (A.testBit k && X.testBit k && decide ((k : Int) ≤ low + R)) := by
  unfold nearM mk8
  rw [mkN_bit]
  cases hx : X.testBit k
  · simp
  · have := bit_lt8 hX hx
    simp [this]
theorem near_sub {A X low : Nat} {R : Int} (hX : X < 256) : mSub (nearM A X low R) X := mSub_bit.mpr fun k hk => by
  rw [near_bit hX] at hk; simp at hk; exact hk.1.2
/-- the house that plays the lowest key may as well take as many as it can -/
theorem cov_pick {cn : Nat → Nat → Bool} {hd rc : Nat → Int} {H H' : Nat → Prop} {X A low h : Nat} (hX : X < 256) (hH : ∀ j, H' j ↔ H j ∨ j = h) (hn : ¬ H h) (hA : ∀ k, A.testBit k = true → cn h k = true) (hA2 : ∀ k, X.testBit k = true → cn h k = true → A.testBit k = true)
    (hlx : X.testBit low = true) (hlow : ∀ k, X.testBit k = true → low ≤ k) (hr : 0 ≤ rc h) :
    (∃ a, Vd (okP cn hd rc) H' X a ∧ a low = h) ↔ A.testBit low = true ∧ 1 ≤ hd h ∧ ((sm (fun _ => 1) (nearM A X low (rc h)) ≤ hd h ∧ Cv (okP cn hd rc) H (mDiff X (nearM A X low (rc h)))) ∨ (hd h < sm (fun _ => 1) (nearM A X low (rc h)) ∧ ∃ Q, mSub Q (nearM A X low (rc h)) ∧ Q.testBit low = true ∧ sm (fun _ => 1) Q = hd h ∧ Cv (okP cn hd rc) H (mDiff X Q))) := by
  have hher : ∀ h P Q, okP cn hd rc h P → mSub Q P → okP cn hd rc h Q := fun h P Q o s => okP_sub o s
  have hN : nearM A X low (rc h) < 256 := mk8_lt _
  have okN : ∀ Q, mSub Q (nearM A X low (rc h)) → sm (fun _ => 1) Q ≤ hd h → okP cn hd rc h Q := by
    intro Q hq hc
    refine ⟨fun k hk => ?_, hc, fun i j hi hj bi bj => ?_⟩
    · have := mSub_bit.mp hq k hk
      rw [near_bit hX] at this
      simp at this
      exact hA k this.1.1
    · have b1 := mSub_bit.mp hq i bi
      have b2 := mSub_bit.mp hq j bj
      rw [near_bit hX] at b1 b2
      simp at b1 b2
      have := hlow i b1.1.2
      omega
  have hlowN : A.testBit low = true → (nearM A X low (rc h)).testBit low = true := fun ha => by
    rw [near_bit hX, ha, hlx]
    simp
    omega
  have mk : ∀ Q, mSub Q (nearM A X low (rc h)) → Q.testBit low = true → sm (fun _ => 1) Q ≤ hd h → Cv (okP cn hd rc) H (mDiff X Q) → ∃ a, Vd (okP cn hd rc) H' X a ∧ a low = h := by
    rintro Q q1 q2 q3 ⟨a, v⟩
    refine ⟨updA a Q h, (Vd_join hX hH hn (mSub_trans q1 (near_sub hX)) (okN Q q1 q3) v).1, ?_⟩
    unfold updA
    rw [if_pos q2]
  constructor
  · rintro ⟨a, v, e⟩
    have hpl : (prt a X h).testBit low = true := by rw [prt_bit hX, hlx, e]; simp
    obtain ⟨o, v2⟩ := Vd_split hX hH hn v
    have hal := hA2 low hlx (o.1 low hpl)
    have hsub : mSub (prt a X h) (nearM A X low (rc h)) := mSub_bit.mpr fun k hk => by
      have h1 := o.1 k hk
      have h2 := mSub_bit.mp (prt_sub hX) k hk
      have h3 := o.2.2 low k (bit_lt8 hX hlx) (bit_lt8 hX h2) hpl hk
      rw [near_bit hX, hA2 k h2 h1, h2]
      simp
      exact h3
    have hone : 1 ≤ sm (fun _ => 1) (prt a X h) := by
      have hs : mSub (2 ^ low) (prt a X h) := mSub_bit.mpr fun j hj => by
        rw [Nat.testBit_two_pow] at hj
        simp at hj
        rw [← hj]; exact hpl
      have := sm_mono (f := fun _ => 1) hs (fun _ _ => by decide)
      rw [sm1_pow low (bit_lt8 hX hlx)] at this
      exact this
    have hcnt := o.2.1
    refine ⟨hal, by omega, ?_⟩
    have dsub : ∀ Q, mSub (prt a X h) Q → mSub (mDiff X Q) (mDiff X (prt a X h)) := fun Q hq => mSub_bit.mpr fun k hk => by
      rw [mDiff_bit] at hk ⊢
      simp at hk ⊢
      refine ⟨hk.1, ?_⟩
      cases hp : (prt a X h).testBit k
      · rfl
      · rw [mSub_bit.mp hq k hp] at hk; simp at hk
    have hlt : mDiff X (prt a X h) < 256 := Nat.lt_of_le_of_lt (mDiff_le _ _) hX
    rcases Int.lt_or_le (hd h) (sm (fun _ => 1) (nearM A X low (rc h))) with hc | hc
    · right
      refine ⟨hc, ?_⟩
      obtain ⟨Q, q1, q2, q3⟩ := part_between (c := hd h) hN (Int.le_of_lt hc) (hd h - sm (fun _ => 1) (prt a X h)).toNat (prt a X h) hsub (by omega)
      exact ⟨Q, q2, mSub_bit.mp q1 low hpl, q3, a, Vd_mono hher hlt (dsub Q q1) v2⟩
    · left
      exact ⟨hc, a, Vd_mono hher hlt (dsub _ hsub) v2⟩
  · rintro ⟨ha, h1, hor⟩
    rcases hor with ⟨c1, c2⟩ | ⟨c1, Q, q1, q2, q3, q4⟩
    · exact mk _ (mSub_refl _) (hlowN ha) c1 c2
    · exact mk Q q1 q2 (by omega) q4
