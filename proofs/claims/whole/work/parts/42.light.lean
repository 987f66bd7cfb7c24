/-! 42.light: the lightest way -/
def pvS (X : Nat) : Nat → Nat → Nat
  | 0, x => x
  | f + 1, x => if x &&& X = x then x else pvS X f (x - 1)
theorem pvS_le (X : Nat) : ∀ f x, pvS X f x ≤ x
  | 0, x => Nat.le_refl x
  | f + 1, x => by
    unfold pvS
    split
    · exact Nat.le_refl x
    · exact Nat.le_trans (pvS_le X f (x - 1)) (Nat.sub_le x 1)
theorem pvS_no {X : Nat} : ∀ f x r, r ≤ x → pvS X f x < r → ¬ mSub r X
  | 0, x, r, h1, h2 => by unfold pvS at h2; omega
  | f + 1, x, r, h1, h2 => by
    unfold pvS at h2
    split at h2
    · omega
    · rename_i hz
      by_cases e : r = x
      · rw [e]; exact hz
      · exact pvS_no f (x - 1) r (by omega) h2
set_option maxRecDepth 100000 in
theorem prv_all : ∀ X : Nat, X < 256 → ∀ s : Nat, s < X + 1 → (s &&& X = s) → s ≠ 0 → (s - 1) &&& X = pvS X 256 (s - 1) := by decide +kernel
theorem prv_ok {X s : Nat} (hX : X < 256) (hs : mSub s X) (h0 : s ≠ 0) : ∃ q : Nat, iAnd (w32 ((s : Int) - 1)) (X : Int) = (q : Int) ∧ q < s ∧ mSub q X ∧ ∀ r, mSub r X → r < s → r ≤ q := by
  have hle := mSub_le hs
  refine ⟨(s - 1) &&& X, ?_, ?_, mSub_andr _ _, fun r hr hrs => ?_⟩
  · rw [w32_lit (by omega), show (s : Int) - 1 = ((s - 1 : Nat) : Int) by omega, iAnd_nat (by omega) (by omega)]
  · have : (s - 1) &&& X ≤ s - 1 := Nat.and_le_left
    omega
  · rw [prv_all X hX s (by omega) hs h0]
    rcases Nat.lt_or_ge (pvS X 256 (s - 1)) r with z | z
    · exact absurd hr (pvS_no 256 (s - 1) r (by omega) z)
    · exact z
def NV : Int := 1152921504606846976
/-- the best of old and of a part of house h with the rest old -/
def Bst (ok : Nat → Nat → Prop) (old : Nat → Int) (pw : Nat → Int) (most set lo : Nat) (v : Int) : Prop := (0 ≤ v ∧ v ≤ NV ∧ v ≤ old set) ∧ (∀ P, mSub P most → lo < P → v ≤ old (mDiff set P) + pw P) ∧ (v = old set ∨ ∃ P, mSub P most ∧ P ≠ 0 ∧ v = old (mDiff set P) + pw P)
theorem s_light68 {d h set : Nat} {S : MS} {C0 : MC} {ok : Nat → Nat → Prop} {old pw : Nat → Int} {most X : Nat} {Q : Qt} (F : Fix S) (hset : set < 256) (hs0 : set ≠ 0) (hmo : mSub most set) (hold : ∀ Y, mSub Y set → 0 ≤ old Y ∧ old Y ≤ NV) (hpw : ∀ P, mSub P most → C0 48 P = pw P ∧ 0 ≤ pw P ∧ pw P ≤ NV) (hl : ∀ Y, mSub Y set → Y ≠ set → C0 49 Y = old Y) (hX : C0 44 9 = X)
    (hk : ∀ v, Bst ok old pw most set 0 v → K_X3_lightestWay_48 (d + 1) 0 0 h (iAnd (w32 ((set : Int) - 1)) X) S (upC C0 49 set v) Q) :
    ∀ (f p : Nat), p ≤ f → mSub p most → ∀ v, Bst ok old pw most set p v → K_X3_lightestWay_68 (d + 1) 0 0 h set most p S (upC C0 49 set v) Q := by
  intro f
  induction f with
  | zero =>
    intro p hp hps v hv
    have : p = 0 := by omega
    subst this
    refine b_X3_lightestWay_68 F ⟨fun _ => ?_, fun z => absurd (by decide) z⟩
    rw [upC_ne (by decide), hX]
    exact hk v hv
  | succ f ih =>
    intro p hp hps v hv
    by_cases e : p = 0
    · subst e
      refine b_X3_lightestWay_68 F ⟨fun _ => ?_, fun z => absurd (by decide) z⟩
      rw [upC_ne (by decide), hX]
      exact hk v hv
    · have hpset := mSub_trans hps hmo
      have hple := mSub_le hpset
      have hm256 : most < 256 := Nat.lt_of_le_of_lt (mSub_le hmo) hset
      obtain ⟨q, q1, q2, q3, q4⟩ := prv_ok hm256 hps e
      have hx : iXor (set : Int) (p : Int) = ((mDiff set p : Nat) : Int) := by rw [iXor_nat (by omega) (by omega), xor_sub hpset]
      have hd := mDiff_lt hpset e
      obtain ⟨w1, w2, w3⟩ := hpw p hps
      obtain ⟨o1, o2⟩ := hold _ (mSub_diff set p)
      obtain ⟨⟨v1, v2, v3⟩, v4, v5⟩ := hv
      refine b_X3_lightestWay_68 F ⟨fun z => by omega, fun _ => ⟨by omega, by rw [hx]; omega, by omega, by omega, ?_⟩⟩
      rw [q1, hx, upC_at, upC_sK (by omega), hl _ (mSub_diff set p) (by omega), upC_ne (by decide), w1, w64_of (by unfold in64; unfold NV at o2 w3; omega)]
      have e2 : upC (upC C0 49 set v) 49 set (min v (old (mDiff set p) + pw p)) = upC C0 49 set (min v (old (mDiff set p) + pw p)) := by
        funext x j
        rw [upC_get, upC_get, upC_get]
        split <;> rfl
      rw [e2]
      refine ih q (by omega) q3 _ ⟨⟨by omega, by omega, by omega⟩, fun P hP hlt => ?_, ?_⟩
      · by_cases e3 : P = p
        · subst e3; exact Int.min_le_right _ _
        · have : p < P := by
            rcases Nat.lt_or_ge P p with z | z
            · have := q4 P hP z; omega
            · omega
          exact Int.le_trans (Int.min_le_left _ _) (v4 P hP this)
      · rcases Int.le_total v (old (mDiff set p) + pw p) with z | z
        · rw [Int.min_eq_left z]; exact v5
        · rw [Int.min_eq_right z]; exact Or.inr ⟨p, hps, e, rfl⟩
theorem Lst_nn {ok : Nat → Nat → Prop} {w : Nat → Nat → Int} {top : Int} {H : Nat → Prop} {X : Nat} {v : Int} (hw : ∀ h k, 0 ≤ w h k) (ht : 0 ≤ top) (h : Lst ok w top 0 H X v) : 0 ≤ v := by
  rcases Int.lt_or_le v top with z | z
  · obtain ⟨a, _, e⟩ := h.2.1 z
    have : 0 ≤ wt w X a := by
      have := sm_mono (f := fun k => w (a k) k) (mSub_zero X) (fun k _ => hw _ _)
      rw [sm_zero] at this
      exact this
    omega
  · omega
theorem lt_suc {h : Nat} : ∀ j, j < h + 1 ↔ j < h ∨ j = h := fun j => by omega
theorem mDiff_zero (X : Nat) : mDiff X 0 = X := by unfold mDiff; rw [Nat.and_zero, Nat.xor_zero]
theorem s_lightestWay {d b n X : Nat} {a : Int} {S : MS} {C : MC} {cn : Nat → Nat → Bool} {md : Nat → Nat → Int} {hd rc : Nat → Int} {Q : Qt} (F : Fix S) (ha : isSt a) (hb : b < 16) (hB : Bt C a n hd rc) (hX : X < 256) (hx : C (a + 4) b = X) (hmd : ∀ h k, 0 ≤ md h k ∧ md h k ≤ 99) (hask : AskC (upP S 44 8 a) C a b n 1 cn md)
    (hk : ∀ C' v, Fp (fun x _ => 40 ≤ x ∧ x ≤ 51) C C' → Lst (okP cn hd rc) (wC md) NV 0 (fun h => h < n) X v → C' 44 9 = X → C' 49 X = v → Q v (upP S 44 8 a) C') : K_X3_lightestWay_0 (d + 8) 0 0 a b S C Q := by
  have hB' := hB
  obtain ⟨b1, b2, b3⟩ := hB'
  have hst : ∀ x, a ≤ x → x < a + 8 → ¬ (40 ≤ x ∧ x ≤ 51) := fun x h1 h2 => by rcases ha with z | z | z | z | z <;> omega
  have F1 := fix_street F (v := a)
  have hS : (upP S 44 8 a).2.2.2.1 44 8 = a := upC_at S.2.2.2.1 44 8 a
  have hw0 : ∀ h k, 0 ≤ wC md h k := fun h k => by
    unfold wC
    have h1 := hmd h k
    have h2 : 0 ≤ rowW h k := Int.mul_nonneg (by omega) (Int.le_of_lt (Int.pow_pos (by decide)))
    omega
  refine b_X3_lightestWay_0 F ha (s_lookAt F ha hb hX b1 hask hx b2 (fun C1 hl => ⟨F1, ?_⟩))
  obtain ⟨l1, l2, l3⟩ := hl
  have f1 : Fp (fun x _ => 40 ≤ x ∧ x ≤ 51) C C1 := fun x k hxk => by rw [l1 x (by unfold lkR; omega) (by omega)]
  refine s_fillJ (n := 256) F1 ⟨fx_b F1 (by decide), fx_t F1 (by decide)⟩ (fx_l F1 (by decide)) (by decide) (fun C2 f2 g2 => ⟨rfl, ?_⟩)
  have hin : ∀ Y, mSub Y X → Lst (okP cn hd rc) (wC md) NV 0 (fun h => h < 0) Y (upC C2 49 0 0 49 Y) := fun Y hY => by
    have := Lst_none (ok := okP cn hd rc) (w := wC md) (top := NV) (H := fun h => h < 0) (X := Y) (Nat.lt_of_le_of_lt (mSub_le hY) hX) (by decide) (fun h => Nat.not_lt_zero h)
    by_cases e : Y = 0
    · subst e
      rw [if_pos rfl] at this
      rw [show ((0 : Nat) : Int) = 0 from rfl, upC_at]
      exact this
    · rw [if_neg e] at this
      rw [upC_sK (by omega), g2 Y (Nat.lt_of_le_of_lt (mSub_le hY) hX)]
      exact this
  refine up_ind (α := MC) (P := fun h C' => Fp (fun x _ => x = 48 ∨ x = 49) C1 C' ∧ ∀ Y, mSub Y X → Lst (okP cn hd rc) (wC md) NV 0 (fun j => j < h) Y (C' 49 Y)) (K := fun h C' => K_X3_lightestWay_26 (d + 8) 0 0 (h : Int) (upP S 44 8 a) C' Q) n ?_ ?_ 0 (by omega) _ ⟨Fp_up (Or.inr rfl) (Fp_mono f2 (fun x _ z => Or.inr z)), hin⟩
  · intro C3 ⟨c1, c2⟩
    refine b_X3_lightestWay_26 F1 (fun st hst1 => ?_)
    rw [hS] at hst1
    subst hst1
    have e0 : C3 a 0 = n := by rw [c1 a 0 (by have := hst a (by omega) (by omega); omega), f1 a 0 (hst a (by omega) (by omega))]; exact b2
    have e9 : C3 44 9 = X := by rw [c1 44 9 (by omega)]; exact l2
    rw [e0, e9]
    refine ⟨ha, fun _ => ⟨by omega, hk C3 _ (Fp_tr f1 (Fp_mono c1 (by omega))) (c2 X (mSub_refl X)) e9 rfl⟩, fun z => by omega⟩
  · intro h C3 hh ⟨c1, c2⟩ ih
    refine b_X3_lightestWay_26 F1 (fun st hst1 => ?_)
    rw [hS] at hst1
    subst hst1
    have e0 : C3 a 0 = n := by rw [c1 a 0 (by have := hst a (by omega) (by omega); omega), f1 a 0 (hst a (by omega) (by omega))]; exact b2
    refine ⟨ha, fun z => by omega, fun _ => ?_⟩
    have hB3 : Bt C3 a n hd rc := Bt_cong hB (funext fun k => by rw [c1 a k (by have := hst a (by omega) (by omega); omega), f1 a k (hst a (by omega) (by omega))]) (funext fun k => by rw [c1 _ k (by have := hst (a + 1) (by omega) (by omega); omega), f1 _ k (hst (a + 1) (by omega) (by omega))]) (funext fun k => by rw [c1 _ k (by have := hst (a + 2) (by omega) (by omega); omega), f1 _ k (hst (a + 2) (by omega) (by omega))])
    refine s_weighParts (wx := wC md) F1 ha hS hB3 hh hX (by rw [c1 45 h (by omega)]; exact (l3 h hh).1) (fun k hk8 hxk => ?_) (fun C4 f4 g4 => ⟨rfl, ?_⟩)
    · obtain ⟨m, m1, m2, m3⟩ := (l3 h hh).2 k hk8 hxk
      rw [c1 47 _ (by omega), m3, m2 rfl]
      have := rowW_bd h (by omega) k hk8
      have := hmd h k
      refine ⟨rfl, ?_⟩
      unfold wC
      omega
    · have e9 : C4 44 9 = X := by rw [f4 44 9 (by omega), c1 44 9 (by omega)]; exact l2
      have e45 : C4 45 h = canM cn X h := by rw [f4 45 h (by omega), c1 45 h (by omega)]; exact (l3 h hh).1
      rw [e9]
      -- the values ahead of this house
      have c2' : ∀ Y, mSub Y X → Lst (okP cn hd rc) (wC md) NV 0 (fun j => j < h) Y (C4 49 Y) := fun Y hY => by rw [f4 49 Y (by omega)]; exact c2 Y hY
      have go : ∀ (f set : Nat), set ≤ f → mSub set X → ∀ C' : MC, Fp (fun x _ => x = 49) C4 C' → (∀ Y, mSub Y X → Y ≤ set → C' 49 Y = C4 49 Y) → (∀ Y, mSub Y X → set < Y → Lst (okP cn hd rc) (wC md) NV 0 (fun j => j < h + 1) Y (C' 49 Y)) → K_X3_lightestWay_48 (d + 8) 0 0 h set (upP S 44 8 a) C' Q := by
        intro f
        induction f with
        | zero =>
          intro set hf hs C' hC h1 h2
          have : set = 0 := by omega
          subst this
          refine b_X3_lightestWay_48 F1 ⟨fun _ => ?_, fun z => absurd (by decide) z⟩
          rw [w32_succ (by omega)]
          refine ih C' ⟨Fp_tr c1 (Fp_tr (Fp_mono f4 (by omega)) (Fp_mono hC (by omega))), fun Y hY => ?_⟩
          by_cases e : Y = 0
          · subst e
            have h0 := c2' 0 (mSub_zero X)
            have h00 := h1 0 (mSub_zero X) (Nat.le_refl 0)
            rw [h00]
            have := Lst_step (ok := okP cn hd rc) (w := wC md) (top := NV) (off := 0) (g := 0) (H := fun j => j < h) (H' := fun j => j < h + 1) (X := 0) (h := h) (L := fun _ => C4 49 ((0 : Nat) : Int)) (v := C4 49 ((0 : Nat) : Int)) (by decide) lt_suc (Nat.lt_irrefl h) (fun P hP => by
              have : P = 0 := Nat.le_zero.mp (mSub_le hP)
              subst this; rw [mDiff_zero]; exact h0) h0.1 (fun P hP _ => by
              have : P = 0 := Nat.le_zero.mp (mSub_le hP)
              subst this; rw [sm_zero]; omega) (fun hlt => ⟨0, mSub_zero 0, okP_zero (by have := (b3 h hh).2.2.1; omega), by rw [sm_zero]; omega, hlt⟩)
            exact this
          · exact h2 Y hY (by omega)
        | succ f ihf =>
          intro set hf hs C' hC h1 h2
          by_cases e : set = 0
          · exact ihf set (by omega) hs C' hC h1 h2
          · have hset : set < 256 := Nat.lt_of_le_of_lt (mSub_le hs) hX
            refine b_X3_lightestWay_48 F1 ⟨fun z => by omega, fun _ => ⟨by omega, ?_⟩⟩
            have e45' : C' 45 h = canM cn X h := by rw [hC 45 h (by omega)]; exact e45
            rw [e45', iAnd_nat (by omega) (by have := canM_lt cn X h; omega)]
            obtain ⟨q, q1, q2, q3, q4⟩ := prv_ok hX hs e
            have hmo : mSub (set &&& canM cn X h) set := mSub_and _ _
            have hmc : mSub (set &&& canM cn X h) (canM cn X h) := mSub_andr _ _
            have idC : C' = upC C' 49 set (C4 49 set) := (upC_id (h1 set hs (Nat.le_refl _))).symm
            rw [idC]
            have pwb : ∀ P, mSub P (set &&& canM cn X h) → 0 ≤ C4 48 P ∧ C4 48 P ≤ NV := fun P hP => by
              have hg := g4 P (mSub_trans hP hmc)
              by_cases o : okP cn hd rc h P
              · rw [hg.1 o]
                have hb2 := sm_bd (f := fun k => if k < 8 then wC md h k else 0) (X := P) (b := 2000000000) (by decide) (fun k hk8 => by
                  rw [if_pos hk8]
                  have := rowW_bd h (by omega) k hk8
                  have := hmd h k
                  unfold wC; omega)
                rw [← sm_cong (f := wC md h) (fun k hk8 _ => by rw [if_pos hk8])] at hb2
                unfold NV
                omega
              · rw [hg.2 o]; unfold NV; omega
            refine s_light68 (ok := okP cn hd rc) (old := fun Y => C4 49 Y) (pw := fun P => C4 48 P) (X := X) F1 hset e hmo (fun Y hY => ?_) (fun P hP => ⟨?_, pwb P hP⟩) (fun Y hY hne => ?_) ?_ (fun v hv => ?_) _ _ (Nat.le_refl _) (mSub_refl _) _ ⟨⟨?_, ?_, Int.le_refl _⟩, fun P hP hlt => ?_, Or.inl rfl⟩
            · exact ⟨Lst_nn hw0 (by decide) (c2' Y (mSub_trans hY hs)), (c2' Y (mSub_trans hY hs)).1⟩
            · rw [hC 48 P (by omega)]
            · exact h1 Y (mSub_trans hY hs) (by have := mSub_le hY; omega)
            · rw [hC 44 9 (by omega)]; exact e9
            · rw [q1]
              refine ihf q (by omega) q3 _ (Fp_up rfl hC) (fun Y hY hle => by rw [upC_sK (by omega)]; exact h1 Y hY (by omega)) (fun Y hY hlt => ?_)
              by_cases e3 : Y = set
              · subst e3
                rw [upC_at]
                unfold Bst at hv
                dsimp only at hv
                obtain ⟨⟨v1, v2, v3⟩, v4, v5⟩ := hv
                have := Lst_step (ok := okP cn hd rc) (w := wC md) (top := NV) (off := 0) (g := 0) (H := fun j => j < h) (H' := fun j => j < h + 1) (X := Y) (h := h) (L := fun Z => C4 49 Z) (v := v) hset lt_suc (Nat.lt_irrefl h) (fun P hP => c2' _ (mSub_trans (mSub_diff _ _) hs)) v2 (fun P hP o => ?_) (fun hlt => ?_)
                · exact this
                · by_cases e4 : P = 0
                  · subst e4; rw [mDiff_zero, sm_zero]; omega
                  · have hPm : mSub P (Y &&& canM cn X h) := mSub_bit.mpr fun k z => by
                      rw [Nat.testBit_and, mSub_bit.mp hP k z, canM_bit hX, mSub_bit.mp hs k (mSub_bit.mp hP k z), o.1 k z]; rfl
                    have h5 := v4 P hPm (by omega)
                    rw [(g4 P (mSub_trans hPm hmc)).1 o] at h5
                    omega
                · rcases v5 with v5 | ⟨P, p1, p2, p3⟩
                  · exact ⟨0, mSub_zero Y, okP_zero (by have := (b3 h hh).2.2.1; omega), by rw [mDiff_zero, sm_zero]; omega, by rw [mDiff_zero]; omega⟩
                  · have hPs := mSub_trans p1 hmo
                    have hnn := Lst_nn hw0 (by decide) (c2' _ (mSub_trans (mSub_diff Y P) hs))
                    by_cases o : okP cn hd rc h P
                    · rw [(g4 P (mSub_trans p1 hmc)).1 o] at p3
                      have hb3 := pwb P p1
                      rw [(g4 P (mSub_trans p1 hmc)).1 o] at hb3
                      exact ⟨P, hPs, o, by omega, by omega⟩
                    · rw [(g4 P (mSub_trans p1 hmc)).2 o] at p3
                      unfold NV at hlt
                      omega
              · have : set < Y := by
                  rcases Nat.lt_or_ge Y set with z | z
                  · have := q4 Y hY z; omega
                  · omega
                rw [upC_sK (by omega)]
                exact h2 Y hY this
            · exact Lst_nn hw0 (by decide) (c2' set hs)
            · exact (c2' set hs).1
            · have := mSub_le hP; omega
      exact go X X (Nat.le_refl _) (mSub_refl X) C4 Fp_rf (fun Y _ _ => rfl) (fun Y hY hlt => by have := mSub_le hY; omega)
