/-! 43.count: how many ways, pure and in the class -/
def sumR (g : Nat → Int) : Nat → Int
  | 0 => 0
  | m + 1 => sumR g m + g m
theorem sumR_cong {g g' : Nat → Int} : ∀ m, (∀ P, P < m → g P = g' P) → sumR g m = sumR g' m
  | 0, _ => rfl
  | m + 1, h => by
    unfold sumR
    rw [sumR_cong m (fun P hP => h P (by omega)), h m (by omega)]
theorem sumR_add {g g' : Nat → Int} : ∀ m, sumR (fun P => g P + g' P) m = sumR g m + sumR g' m
  | 0 => rfl
  | m + 1 => by
    unfold sumR
    rw [sumR_add m]
    omega
theorem sumR_zero : ∀ m, sumR (fun _ => 0) m = 0
  | 0 => rfl
  | m + 1 => by unfold sumR; rw [sumR_zero m]; rfl
theorem sumR_comm {g : Nat → Nat → Int} (n : Nat) : ∀ m, sumR (fun P => sumR (fun Q => g P Q) n) m = sumR (fun Q => sumR (fun P => g P Q) m) n
  | 0 => (sumR_zero n).symm
  | m + 1 => by
    have e : (fun Q => sumR (fun P => g P Q) (m + 1)) = (fun Q => sumR (fun P => g P Q) m + g m Q) := rfl
    rw [e, sumR_add, ← sumR_comm n m]
    rfl
theorem sumR_if {c : Bool} {g : Nat → Int} (m : Nat) : (if c then sumR g m else 0) = sumR (fun P => if c then g P else 0) m := by
  cases c
  · simp only [Bool.false_eq_true, if_false]; exact (sumR_zero m).symm
  · simp only [if_true]
theorem sumR_point {g g' : Nat → Int} {c : Nat} {x : Int} : ∀ m, (∀ P, P < m → P ≠ c → g P = g' P) → c < m → g c = g' c + x → sumR g m = sumR g' m + x
  | 0, _, h, _ => by omega
  | m + 1, h1, h2, h3 => by
    unfold sumR
    by_cases e : c = m
    · subst e
      rw [sumR_cong c (fun P hP => h1 P (by omega) (by omega)), h3]
      omega
    · rw [sumR_point m (fun P hP => h1 P (by omega)) (by omega) h3, h1 m (by omega) (fun z => e z.symm)]
      omega
def subB (P X : Nat) : Bool := P &&& X == P
theorem subB_iff {P X : Nat} : subB P X = true ↔ mSub P X := by unfold subB mSub; simp
def cnt (ok : Nat → Nat → Bool) : List Nat → Nat → Int
  | [], X => if X = 0 then 1 else 0
  | h :: hs, X => sumR (fun P => if subB P X && ok h P then cnt ok hs (mDiff X P) else 0) 256
theorem cnt_cong {ok ok' : Nat → Nat → Bool} : ∀ (l : List Nat) (X : Nat), (∀ h ∈ l, ∀ P, mSub P X → ok h P = ok' h P) → cnt ok l X = cnt ok' l X
  | [], _, _ => rfl
  | h :: hs, X, hk => by
    unfold cnt
    refine sumR_cong 256 (fun P _ => ?_)
    cases hs2 : subB P X
    · rfl
    · have hP := subB_iff.mp hs2
      rw [hk h List.mem_cons_self P hP, cnt_cong hs (mDiff X P) (fun j hj Q hQ => hk j (List.mem_cons_of_mem _ hj) Q (mSub_trans hQ (mSub_diff _ _)))]
theorem cnt_perm {ok : Nat → Nat → Bool} {l l' : List Nat} (h : l.Perm l') : ∀ X, cnt ok l X = cnt ok l' X := by
  induction h with
  | nil => intro X; rfl
  | cons x _ ih => intro X; unfold cnt; exact sumR_cong 256 (fun P _ => by rw [ih])
  | swap x y l =>
    intro X
    have e : ∀ a b, cnt ok (a :: b :: l) X = sumR (fun P => sumR (fun Q => if subB P X && ok a P && (subB Q (mDiff X P) && ok b Q) then cnt ok l (mDiff (mDiff X P) Q) else 0) 256) 256 := by
      intro a b
      show sumR (fun P => if subB P X && ok a P then sumR (fun Q => if subB Q (mDiff X P) && ok b Q then cnt ok l (mDiff (mDiff X P) Q) else 0) 256 else 0) 256 = _
      refine sumR_cong 256 (fun P _ => ?_)
      rw [sumR_if]
      refine sumR_cong 256 (fun Q _ => ?_)
      cases (subB P X && ok a P) <;> rfl
    rw [e, e, sumR_comm]
    refine sumR_cong 256 (fun Q _ => sumR_cong 256 (fun P _ => ?_))
    rw [mDiff_comm]
    have hs : ∀ P Q, subB P X = true → subB Q (mDiff X P) = true → subB Q X = true ∧ subB P (mDiff X Q) = true := by
      intro P Q h1 h2
      rw [subB_iff] at h1 h2 ⊢
      refine ⟨mSub_trans h2 (mSub_diff _ _), subB_iff.mpr (mSub_bit.mpr fun k hk => ?_)⟩
      rw [mDiff_bit, mSub_bit.mp h1 k hk]
      cases hq : Q.testBit k
      · rfl
      · have := mSub_bit.mp h2 k hq
        rw [mDiff_bit, hk] at this
        simp at this
    congr 1
    apply propext
    simp only [Bool.and_eq_true]
    constructor
    · rintro ⟨⟨a1, a2⟩, a3, a4⟩
      have := hs P Q a1 a3
      exact ⟨⟨this.1, a4⟩, this.2, a2⟩
    · rintro ⟨⟨a1, a2⟩, a3, a4⟩
      have := hs Q P a1 a3
      exact ⟨⟨this.1, a4⟩, this.2, a2⟩
  | trans _ _ ih1 ih2 => intro X; rw [ih1, ih2]
theorem w32_w32 (x : Int) : w32 (w32 x) = w32 x := w32_of (w32_in x)
theorem w32_add (x y : Int) : w32 (w32 x + w32 y) = w32 (x + y) := by unfold w32; omega
noncomputable def okB (cn : Nat → Nat → Bool) (hd rc : Nat → Int) (h P : Nat) : Bool := @decide (okP cn hd rc h P) (Classical.propDecidable _)
theorem okB_iff {cn : Nat → Nat → Bool} {hd rc : Nat → Int} {h P : Nat} : okB cn hd rc h P = true ↔ okP cn hd rc h P := by unfold okB; exact @decide_eq_true_iff _ (Classical.propDecidable _)
/-- the sum over the parts above lo, and the empty one -/
def parS (f : Nat → Int) (ok : Nat → Bool) (X lo : Nat) : Int := sumR (fun P => if subB P X && ok P && (P == 0 || decide (lo < P)) then f (mDiff X P) else 0) 256
theorem parS_zero (f : Nat → Int) (ok : Nat → Bool) (X : Nat) : parS f ok X 0 = sumR (fun P => if subB P X && ok P then f (mDiff X P) else 0) 256 := by
  refine sumR_cong 256 (fun P _ => ?_)
  have : (P == 0 || decide (0 < P)) = true := by
    by_cases e : P = 0
    · simp [e]
    · have : 0 < P := by omega
      simp [this]
  rw [this, Bool.and_true]
theorem parS_top {f : Nat → Int} {ok : Nat → Bool} {X lo : Nat} (hX : X < 256) (h0 : ok 0 = true) (hlo : ∀ P, mSub P X → ok P = true → P ≤ lo) : parS f ok X lo = f X := by
  have h := sumR_point (g := fun P => if subB P X && ok P && (P == 0 || decide (lo < P)) then f (mDiff X P) else 0) (g' := fun _ => 0) (c := 0) (x := f X) 256 (fun P hP hne => ?_) (by decide) ?_
  · rw [sumR_zero, Int.zero_add] at h; exact h
  · cases h1 : subB P X
    · rfl
    · cases h2 : ok P
      · rfl
      · have := hlo P (subB_iff.mp h1) h2
        have e1 : ¬ lo < P := by omega
        simp [hne, e1]
  · have e1 : subB 0 X = true := subB_iff.mpr (mSub_zero X)
    show (if subB 0 X && ok 0 && (0 == 0 || decide (lo < 0)) then f (mDiff X 0) else 0) = 0 + f X
    rw [e1, h0, mDiff_zero]
    simp
theorem parS_step {f : Nat → Int} {ok : Nat → Bool} {X p q : Nat} (hp : p < 256) (hps : mSub p X) (h0 : p ≠ 0) (hq : q < p) (hno : ∀ P, mSub P X → ok P = true → P < p → P ≤ q) : parS f ok X q = parS f ok X p + (if ok p then f (mDiff X p) else 0) := by
  refine sumR_point (c := p) 256 (fun P _ hne => ?_) hp ?_
  · cases h1 : subB P X
    · rfl
    · cases h2 : ok P
      · rfl
      · have e : decide (q < P) = decide (p < P) := by
          rcases Nat.lt_or_ge P p with z | z
          · have := hno P (subB_iff.mp h1) h2 z
            rw [decide_eq_false (by omega), decide_eq_false (by omega)]
          · rw [decide_eq_true (by omega), decide_eq_true (by omega)]
        rw [e]
  · have e1 : subB p X = true := subB_iff.mpr hps
    have e2 : (p == 0) = false := by simp [h0]
    show (if subB p X && ok p && (p == 0 || decide (q < p)) then f (mDiff X p) else 0) = (if subB p X && ok p && (p == 0 || decide (p < p)) then f (mDiff X p) else 0) + _
    rw [e1, e2, decide_eq_true hq, decide_eq_false (Nat.lt_irrefl p)]
    cases ok p <;> simp
def hsD (h : Nat) : List Nat := (List.range h).reverse
theorem hsD_suc (h : Nat) : hsD (h + 1) = h :: hsD h := by unfold hsD; rw [List.range_succ, List.reverse_append]; rfl
theorem s_ways66 {d h set : Nat} {S : MS} {C0 : MC} {ok : Nat → Bool} {old : Nat → Int} {most X : Nat} {Q : Qt} (F : Fix S) (hset : set < 256) (hs0 : set ≠ 0) (hmo : mSub most set) (hokm : ∀ P, mSub P set → ok P = true → mSub P most) (hpw : ∀ P, mSub P most → (ok P = true → C0 48 P < 1152921504606846976) ∧ (ok P = false → C0 48 P = 1152921504606846976)) (hl : ∀ Y, mSub Y set → Y ≠ set → C0 50 Y = w32 (old Y)) (hX : C0 44 9 = X)
    (hk : K_X3_howManyWays_46 (d + 1) 0 0 h (iAnd (w32 ((set : Int) - 1)) X) S (upC C0 50 set (w32 (parS old ok set 0))) Q) :
    ∀ (f p : Nat), p ≤ f → mSub p most → K_X3_howManyWays_66 (d + 1) 0 0 h set most p S (upC C0 50 set (w32 (parS old ok set p))) Q := by
  intro f
  induction f with
  | zero =>
    intro p hp hps
    have : p = 0 := by omega
    subst this
    refine b_X3_howManyWays_66 F ⟨fun _ => ?_, fun z => absurd (by decide) z⟩
    rw [upC_ne (by decide), hX]
    exact hk
  | succ f ih =>
    intro p hp hps
    by_cases e : p = 0
    · subst e
      refine b_X3_howManyWays_66 F ⟨fun _ => ?_, fun z => absurd (by decide) z⟩
      rw [upC_ne (by decide), hX]
      exact hk
    · have hpset := mSub_trans hps hmo
      have hple := mSub_le hpset
      have hm256 : most < 256 := Nat.lt_of_le_of_lt (mSub_le hmo) hset
      obtain ⟨q, q1, q2, q3, q4⟩ := prv_ok hm256 hps e
      have hx : iXor (set : Int) (p : Int) = ((mDiff set p : Nat) : Int) := by rw [iXor_nat (by omega) (by omega), xor_sub hpset]
      have hd := mDiff_lt hpset e
      have hstep := parS_step (f := old) (ok := ok) (X := set) (p := p) (q := q) (by omega) hpset e q2 (fun P p1 p2 p3 => q4 P (hokm P p1 p2) p3)
      have e2 : ∀ x y : Int, upC (upC C0 50 set x) 50 set y = upC C0 50 set y := fun x y => by
        funext z j
        rw [upC_get, upC_get, upC_get]
        split <;> rfl
      have ihq := ih q (by omega) q3
      refine b_X3_howManyWays_66 F ⟨fun z => by omega, fun _ => ⟨by omega, by omega, fun z => ⟨by omega, ?_⟩, fun z => ⟨by rw [hx]; omega, by omega, ?_⟩⟩⟩
      · have hf : ok p = false := by
          cases ho : ok p
          · rfl
          · have := (hpw p hps).1 ho
            rw [upC_ne (by decide)] at z
            unfold lCmp at z
            rw [if_pos this] at z
            omega
        rw [hf] at hstep
        rw [upC_at, q1, e2, Int.add_zero, w32_w32]
        rw [hstep] at ihq
        simpa using ihq
      · have ht : ok p = true := by
          cases ho : ok p
          · have := (hpw p hps).2 ho
            rw [upC_ne (by decide), this] at z
            exact absurd (by decide) z
          · rfl
        rw [ht, if_pos rfl] at hstep
        rw [upC_at, q1, hx, upC_sK (by omega), hl _ (mSub_diff set p) (by omega), w32_add, e2, ← hstep]
        exact ihq
theorem s_howManyWays {d b n X : Nat} {a : Int} {S : MS} {C : MC} {cn : Nat → Nat → Bool} {md : Nat → Nat → Int} {hd rc : Nat → Int} {Q : Qt} (F : Fix S) (ha : isSt a) (hb : b < 16) (hB : Bt C a n hd rc) (hX : X < 256) (hx : C (a + 4) b = X) (hask : AskC (upP S 44 8 a) C a b n 0 cn md)
    (hk : ∀ C', Fp (fun x _ => 40 ≤ x ∧ x ≤ 51) C C' → Q (w32 (cnt (okB cn hd rc) (hsD n) X)) (upP S 44 8 a) C') : K_X3_howManyWays_0 (d + 8) 0 0 a b S C Q := by
  have hB' := hB
  obtain ⟨b1, b2, b3⟩ := hB'
  have hst : ∀ x, a ≤ x → x < a + 8 → ¬ (40 ≤ x ∧ x ≤ 51) := fun x h1 h2 => by rcases ha with z | z | z | z | z <;> omega
  have F1 := fix_street F (v := a)
  have hS : (upP S 44 8 a).2.2.2.1 44 8 = a := upC_at S.2.2.2.1 44 8 a
  refine b_X3_howManyWays_0 F ha (s_lookAt F ha hb hX b1 hask hx b2 (fun C1 hl => ⟨F1, ?_⟩))
  obtain ⟨l1, l2, l3⟩ := hl
  have f1 : Fp (fun x _ => 40 ≤ x ∧ x ≤ 51) C C1 := fun x k hxk => by rw [l1 x (by unfold lkR; omega) (by omega)]
  refine s_fillI (n := 256) F1 ⟨fx_b F1 (by decide), fx_t F1 (by decide)⟩ (fx_l F1 (by decide)) (by decide) (fun C2 f2 g2 => ⟨rfl, ?_⟩)
  have hin : ∀ Y, mSub Y X → upC C2 50 0 1 50 Y = w32 (cnt (okB cn hd rc) (hsD 0) Y) := fun Y hY => by
    show _ = w32 (if Y = 0 then 1 else 0)
    by_cases e : Y = 0
    · subst e
      rw [show ((0 : Nat) : Int) = 0 from rfl, upC_at]
      rfl
    · rw [if_neg e, upC_sK (by omega), g2 Y (Nat.lt_of_le_of_lt (mSub_le hY) hX)]
      rfl
  refine up_ind (α := MC) (P := fun h C' => Fp (fun x _ => x = 48 ∨ x = 50) C1 C' ∧ ∀ Y, mSub Y X → C' 50 Y = w32 (cnt (okB cn hd rc) (hsD h) Y)) (K := fun h C' => K_X3_howManyWays_24 (d + 8) 0 0 (h : Int) (upP S 44 8 a) C' Q) n ?_ ?_ 0 (by omega) _ ⟨Fp_up (Or.inr rfl) (Fp_mono f2 (fun x _ z => Or.inr z)), hin⟩
  · intro C3 ⟨c1, c2⟩
    refine b_X3_howManyWays_24 F1 (fun st hst1 => ?_)
    rw [hS] at hst1
    subst hst1
    have e0 : C3 a 0 = n := by rw [c1 a 0 (by have := hst a (by omega) (by omega); omega), f1 a 0 (hst a (by omega) (by omega))]; exact b2
    have e9 : C3 44 9 = X := by rw [c1 44 9 (by omega)]; exact l2
    rw [e0, e9, c2 X (mSub_refl X)]
    exact ⟨ha, fun _ => ⟨by omega, hk C3 (Fp_tr f1 (Fp_mono c1 (by omega)))⟩, fun z => by omega⟩
  · intro h C3 hh ⟨c1, c2⟩ ih
    refine b_X3_howManyWays_24 F1 (fun st hst1 => ?_)
    rw [hS] at hst1
    subst hst1
    have e0 : C3 a 0 = n := by rw [c1 a 0 (by have := hst a (by omega) (by omega); omega), f1 a 0 (hst a (by omega) (by omega))]; exact b2
    refine ⟨ha, fun z => by omega, fun _ => ?_⟩
    have hB3 : Bt C3 a n hd rc := Bt_cong hB (funext fun k => by rw [c1 a k (by have := hst a (by omega) (by omega); omega), f1 a k (hst a (by omega) (by omega))]) (funext fun k => by rw [c1 _ k (by have := hst (a + 1) (by omega) (by omega); omega), f1 _ k (hst (a + 1) (by omega) (by omega))]) (funext fun k => by rw [c1 _ k (by have := hst (a + 2) (by omega) (by omega); omega), f1 _ k (hst (a + 2) (by omega) (by omega))])
    refine s_weighParts (wx := fun h k => C1 47 ((8 * h + k : Nat) : Int)) F1 ha hS hB3 hh hX (by rw [c1 45 h (by omega)]; exact (l3 h hh).1) (fun k hk8 hxk => ?_) (fun C4 f4 g4 => ⟨rfl, ?_⟩)
    · obtain ⟨m, m1, m2, m3⟩ := (l3 h hh).2 k hk8 hxk
      have := rowW_bd h (by omega) k hk8
      refine ⟨by rw [c1 47 _ (by omega)], ?_⟩
      show 0 ≤ C1 47 ((8 * h + k : Nat) : Int) ∧ C1 47 ((8 * h + k : Nat) : Int) ≤ 2000000000
      rw [m3]
      omega
    · have e9 : C4 44 9 = X := by rw [f4 44 9 (by omega), c1 44 9 (by omega)]; exact l2
      have e45 : C4 45 h = canM cn X h := by rw [f4 45 h (by omega), c1 45 h (by omega)]; exact (l3 h hh).1
      rw [e9]
      have c2' : ∀ Y, mSub Y X → C4 50 Y = w32 (cnt (okB cn hd rc) (hsD h) Y) := fun Y hY => by rw [f4 50 Y (by omega)]; exact c2 Y hY
      have hok0 : okB cn hd rc h 0 = true := okB_iff.mpr (okP_zero (by have := (b3 h hh).2.2.1; omega))
      have go : ∀ (f set : Nat), set ≤ f → mSub set X → ∀ C' : MC, Fp (fun x _ => x = 50) C4 C' → (∀ Y, mSub Y X → Y ≤ set → C' 50 Y = C4 50 Y) → (∀ Y, mSub Y X → set < Y → C' 50 Y = w32 (cnt (okB cn hd rc) (hsD (h + 1)) Y)) → K_X3_howManyWays_46 (d + 8) 0 0 h set (upP S 44 8 a) C' Q := by
        intro f
        induction f with
        | zero =>
          intro set hf hs C' hC h1 h2
          have : set = 0 := by omega
          subst this
          refine b_X3_howManyWays_46 F1 ⟨fun _ => ?_, fun z => absurd (by decide) z⟩
          rw [w32_succ (by omega)]
          refine ih C' ⟨Fp_tr c1 (Fp_tr (Fp_mono f4 (by omega)) (Fp_mono hC (by omega))), fun Y hY => ?_⟩
          by_cases e : Y = 0
          · subst e
            rw [h1 0 (mSub_zero X) (Nat.le_refl 0), c2' 0 (mSub_zero X), hsD_suc]
            have := parS_top (f := cnt (okB cn hd rc) (hsD h)) (ok := okB cn hd rc h) (X := 0) (lo := 0) (by decide) hok0 (fun P hP _ => by have := mSub_le hP; omega)
            rw [parS_zero] at this
            have e5 : cnt (okB cn hd rc) (h :: hsD h) 0 = cnt (okB cn hd rc) (hsD h) 0 := this
            rw [e5]
          · exact h2 Y hY (by omega)
        | succ f ihf =>
          intro set hf hs C' hC h1 h2
          by_cases e : set = 0
          · exact ihf set (by omega) hs C' hC h1 h2
          · have hset : set < 256 := Nat.lt_of_le_of_lt (mSub_le hs) hX
            refine b_X3_howManyWays_46 F1 ⟨fun z => by omega, fun _ => ⟨by omega, ?_⟩⟩
            have e45' : C' 45 h = canM cn X h := by rw [hC 45 h (by omega)]; exact e45
            rw [e45', iAnd_nat (by omega) (by have := canM_lt cn X h; omega)]
            obtain ⟨q, q1, q2, q3, q4⟩ := prv_ok hX hs e
            have hmo : mSub (set &&& canM cn X h) set := mSub_and _ _
            have hmc : mSub (set &&& canM cn X h) (canM cn X h) := mSub_andr _ _
            have hokm : ∀ P, mSub P set → okB cn hd rc h P = true → mSub P (set &&& canM cn X h) := fun P hP o => mSub_bit.mpr fun k z => by
              rw [Nat.testBit_and, mSub_bit.mp hP k z, canM_bit hX, mSub_bit.mp hs k (mSub_bit.mp hP k z), (okB_iff.mp o).1 k z]; rfl
            have htop := parS_top (f := cnt (okB cn hd rc) (hsD h)) (ok := okB cn hd rc h) (X := set) (lo := set &&& canM cn X h) hset hok0 (fun P hP o => mSub_le (hokm P hP o))
            have idC : C' = upC C' 50 set (w32 (parS (cnt (okB cn hd rc) (hsD h)) (okB cn hd rc h) set (set &&& canM cn X h))) := by
              rw [htop, ← c2' set hs]
              exact (upC_id (h1 set hs (Nat.le_refl _))).symm
            rw [idC]
            refine s_ways66 (ok := okB cn hd rc h) (old := cnt (okB cn hd rc) (hsD h)) (X := X) F1 hset e hmo hokm (fun P hP => ⟨fun o => ?_, fun o => ?_⟩) (fun Y hY hne => ?_) ?_ ?_ _ _ (Nat.le_refl _) (mSub_refl _)
            · rw [hC 48 P (by omega), (g4 P (mSub_trans hP hmc)).1 (okB_iff.mp o)]
              have hPX := mSub_trans (mSub_trans hP hmc) (canM_sub (cn := cn) (h := h) hX)
              have hb2 := sm_bd (f := fun k => if X.testBit k then C1 47 ((8 * h + k : Nat) : Int) else 0) (X := P) (b := 2000000000) (by decide) (fun k hk8 => by
                by_cases hxk : X.testBit k = true
                · rw [if_pos hxk]
                  obtain ⟨m, m1, m2, m3⟩ := (l3 h hh).2 k hk8 hxk
                  have := rowW_bd h (by omega) k hk8
                  rw [m3]; omega
                · rw [if_neg hxk]; omega)
              rw [← sm_cong (f := fun k => C1 47 ((8 * h + k : Nat) : Int)) (fun k hk8 z => by rw [if_pos (mSub_bit.mp hPX k z)])] at hb2
              show sm (fun k => C1 47 ((8 * h + k : Nat) : Int)) P < _
              omega
            · rw [hC 48 P (by omega), (g4 P (mSub_trans hP hmc)).2 (fun z => by rw [okB_iff.mpr z] at o; cases o)]
            · rw [h1 Y (mSub_trans hY hs) (by have := mSub_le hY; omega), c2' Y (mSub_trans hY hs)]
            · rw [hC 44 9 (by omega)]; exact e9
            · rw [q1]
              refine ihf q (by omega) q3 _ (Fp_up rfl hC) (fun Y hY hle => by rw [upC_sK (by omega)]; exact h1 Y hY (by omega)) (fun Y hY hlt => ?_)
              by_cases e3 : Y = set
              · subst e3
                rw [upC_at, parS_zero, hsD_suc]
                rfl
              · have : set < Y := by
                  rcases Nat.lt_or_ge Y set with z | z
                  · have := q4 Y hY z; omega
                  · omega
                rw [upC_sK (by omega)]
                exact h2 Y hY this
      exact go X X (Nat.le_refl _) (mSub_refl X) C4 Fp_rf (fun Y _ _ => rfl) (fun Y hY hlt => by have := mSub_le hY; omega)
