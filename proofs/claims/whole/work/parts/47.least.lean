/-! 47.least: the reference's least -/
def okG (κ : Int → Int) (b X : Nat) (gv : Nat → Nat) (h P : Nat) : Prop := okX κ b X h (gv h ||| P)
def offL (g : Nat → Int) (n : Nat) : Nat → Int
  | 0 => 0
  | m + 1 => offL g n m + g (n - 1 - m)
theorem sm_or {f : Nat → Int} {G P : Nat} (h : G &&& P = 0) : sm f (G ||| P) = sm f G + sm f P := by
  have hs : mSub P (G ||| P) := mSub_bit.mpr fun k hk => by rw [Nat.testBit_or, hk, Bool.or_true]
  have e : mDiff (G ||| P) P = G := Nat.eq_of_testBit_eq fun k => by
    rw [mDiff_bit, Nat.testBit_or]
    have := congrArg (fun x => x.testBit k) h
    simp only [Nat.testBit_and, Nat.zero_testBit] at this
    cases hg : G.testBit k <;> cases hp : P.testBit k <;> simp_all
  rw [sm_split hs, e]
theorem dis_sub {G A P : Nat} (h : G &&& A = 0) (hp : mSub P A) : G &&& P = 0 := Nat.eq_of_testBit_eq fun k => by
  rw [Nat.testBit_and, Nat.zero_testBit]
  cases hP : P.testBit k
  · simp
  · have := congrArg (fun x => x.testBit k) h
    simp only [Nat.testBit_and, Nat.zero_testBit, mSub_bit.mp hp k hP] at this
    simpa using this
theorem Lst_nn2 {ok : Nat → Nat → Prop} {w : Nat → Nat → Int} {top off : Int} {H : Nat → Prop} {X : Nat} {v : Int} (hw : ∀ h k, 0 ≤ w h k) (ht : 0 ≤ top) (ho : 0 ≤ off) (h : Lst ok w top off H X v) : 0 ≤ v := by
  rcases Int.lt_or_le v top with z | z
  · obtain ⟨a, _, e⟩ := h.2.1 z
    have : 0 ≤ wt w X a := by
      have := sm_mono (f := fun k => w (a k) k) (mSub_zero X) (fun k _ => hw _ _)
      rw [sm_zero] at this
      exact this
    omega
  · omega
theorem offL_nn {g : Nat → Int} {n : Nat} (h : ∀ j, 0 ≤ g j) : ∀ m, 0 ≤ offL g n m
  | 0 => Int.le_refl _
  | m + 1 => by
    have := offL_nn (n := n) h m
    have := h (n - 1 - m)
    show 0 ≤ offL g n m + g (n - 1 - m)
    omega
/-- the best of a part of house h with the rest -/
def Bs2 (L pw : Nat → Int) (set lo : Nat) (v : Int) : Prop := (0 ≤ v ∧ v ≤ 1000001 ∧ v ≤ pw 0 + L set) ∧ (∀ P, mSub P set → lo < P → v ≤ pw P + L (mDiff set P)) ∧ (v = 1000001 ∨ ∃ P, mSub P set ∧ v = pw P + L (mDiff set P))
theorem s_least111 {d h set all G : Nat} {S : MS} {C : MC} {L pw : Nat → Int} {Q : Qt} (F : Fix S) (hh : h < 6) (hset : set < 256) (hG : C 97 h = G) (hG2 : G < 256) (hL : ∀ Y, mSub Y set → C 96 ((256 * (h + 1) + Y : Nat) : Int) = L Y ∧ 0 ≤ L Y ∧ L Y ≤ 1000001) (hpw : ∀ P, mSub P set → C 94 ((256 * h + (G ||| P) : Nat) : Int) = pw P ∧ 0 ≤ pw P ∧ pw P ≤ 1000001)
    (hk : ∀ v, Bs2 L pw set 0 v → K_X11_leastOf_52 (d + 1) 0 0 all h (w32 ((set : Int) + 1)) S (upC C 96 ((256 * h + set : Nat) : Int) v) Q) :
    ∀ (f p : Nat), p ≤ f → mSub p set → ∀ v, Bs2 L pw set p v → K_X11_leastOf_111 (d + 1) 0 0 all h set v p S C Q := by
  intro f
  induction f with
  | zero =>
    intro p hp hps v hv
    have : p = 0 := by omega
    subst this
    refine b_X11_leastOf_111 F ⟨fun _ => ?_, fun z => absurd (by decide) z⟩
    rw [w32_lit (x := 256 * (h : Int)) (by omega), w32_lit (x := 256 * (h : Int) + set) (by omega), show 256 * (h : Int) + set = ((256 * h + set : Nat) : Int) by omega]
    exact ⟨by omega, hk v hv⟩
  | succ f ih =>
    intro p hp hps v hv
    by_cases e : p = 0
    · exact ih p (by omega) hps v hv
    · obtain ⟨q, q1, q2, q3, q4⟩ := prv_ok hset hps e
      have hple := mSub_le hps
      have hx : iXor (set : Int) (p : Int) = ((mDiff set p : Nat) : Int) := by rw [iXor_nat (by omega) (by omega), xor_sub hps]
      have hmd := mDiff_le set p
      obtain ⟨w1, w2, w3⟩ := hpw p hps
      obtain ⟨o1, o2, o3⟩ := hL _ (mSub_diff set p)
      obtain ⟨⟨v1, v2, v3⟩, v4, v5⟩ := hv
      have hor : G ||| p < 256 := Nat.or_lt_two_pow (n := 8) hG2 (by omega)
      refine b_X11_leastOf_111 F ⟨fun z => by omega, fun _ => ?_⟩
      rw [hG, iOr_nat (by omega) (by omega), hx, w32_succ (by omega), w32_lit (x := 256 * (h : Int)) (by omega), w32_lit (x := 256 * (h : Int) + ((G ||| p : Nat) : Int)) (by omega), w32_lit (x := 256 * ((h + 1 : Nat) : Int)) (by omega), w32_lit (x := 256 * ((h + 1 : Nat) : Int) + ((mDiff set p : Nat) : Int)) (by omega), show 256 * (h : Int) + ((G ||| p : Nat) : Int) = ((256 * h + (G ||| p) : Nat) : Int) by omega, show 256 * ((h + 1 : Nat) : Int) + ((mDiff set p : Nat) : Int) = ((256 * (h + 1) + mDiff set p : Nat) : Int) by omega, w1, o1, w32_lit (x := pw p + L (mDiff set p)) (by omega), q1]
      refine ⟨by omega, by omega, by omega, s_lesser F ⟨rfl, ih q (by omega) q3 _ ⟨⟨by omega, by omega, by omega⟩, fun P hP hlt => ?_, ?_⟩⟩⟩
      · by_cases e3 : P = p
        · subst e3; exact Int.min_le_right _ _
        · have : p < P := by
            rcases Nat.lt_or_ge P p with z | z
            · have := q4 P hP z; omega
            · omega
          exact Int.le_trans (Int.min_le_left _ _) (v4 P hP this)
      · rcases Int.le_total v (pw p + L (mDiff set p)) with z | z
        · rw [Int.min_eq_left z]; exact v5
        · rw [Int.min_eq_right z]; exact Or.inr ⟨p, hps, rfl⟩
theorem s_leastOf {d b n X all : Nat} {S : MS} {C : MC} {κ : Int → Int} {gv : Nat → Nat} {Q : Qt} (F : Fix S) (hn : C 83 45 = n) (hn6 : n ≤ 6) (hX : X < 256) (hall : mSub all X) (hpt : PtM C κ b X n) (hgv : ∀ h, h < n → C 97 h = gv h ∧ gv h < 256 ∧ gv h &&& all = 0)
    (hk : ∀ C' v, Fp (fun a _ => a = 96) C C' → Lst (okG κ b X gv) (mdK κ b) 1000001 (offL (fun h => sm (mdK κ b h) (gv h)) n n) (fun h => h < n) all v → Q v S C') : K_X11_leastOf_0 (d + 1) 0 0 all S C Q := by
  have hal : all < 256 := Nat.lt_of_le_of_lt (mSub_le hall) hX
  have hw0 : ∀ h k, 0 ≤ mdK κ b h k := fun h k => (mdK_bd κ b h k).1
  have hg0 : ∀ h, 0 ≤ sm (mdK κ b h) (gv h) := fun h => (sm_bd (b := 99) (by decide) (fun k _ => mdK_bd κ b h k)).1
  have hon : ∀ m, 0 ≤ offL (fun h => sm (mdK κ b h) (gv h)) n m := offL_nn hg0
  refine b_X11_leastOf_0 F ?_
  -- nothing for nobody
  refine up_ind (α := MC) (P := fun s C' => Fp (fun a _ => a = 96) C C' ∧ ∀ Y : Nat, Y < s → C' 96 ((256 * n + Y : Nat) : Int) = if Y = 0 then 0 else 1000001) (K := fun s C' => K_X11_leastOf_2 (d + 1) 0 0 all (s : Int) S C' Q) (all + 1) ?_ ?_ 0 (by omega) C ⟨Fp_rf, fun Y hY => absurd hY (Nat.not_lt_zero Y)⟩
  · intro C1 ⟨c1, c2⟩
    refine b_X11_leastOf_2 F ⟨fun _ => s_many F ⟨rfl, ?_⟩, fun z => by omega⟩
    rw [c1 83 45 (by decide), hn, w32_lit (x := (n : Int) - 1) (by omega)]
    rw [show (n : Int) - 1 = (n : Int) - 1 - ((0 : Nat) : Int) by omega]
    refine up_ind (α := MC) (P := fun m C' => Fp (fun a _ => a = 96) C C' ∧ ∀ Y, mSub Y all → Lst (okG κ b X gv) (mdK κ b) 1000001 (offL (fun h => sm (mdK κ b h) (gv h)) n m) (fun j => n - m ≤ j ∧ j < n) Y (C' 96 ((256 * (n - m) + Y : Nat) : Int))) (K := fun m C' => K_X11_leastOf_46 (d + 1) 0 0 all ((n : Int) - 1 - (m : Int)) S C' Q) n ?_ ?_ 0 (by omega) C1 ⟨c1, fun Y hY => ?_⟩
    · intro C2 ⟨p1, p2⟩
      refine b_X11_leastOf_46 F ⟨fun _ => ⟨by omega, ?_⟩, fun z => by omega⟩
      have := p2 all (mSub_refl all)
      rw [Nat.sub_self, Nat.mul_zero, Nat.zero_add] at this
      refine hk C2 _ p1 ?_
      have e : (fun j => 0 ≤ j ∧ j < n) = (fun j => j < n) := funext fun j => propext ⟨fun z => z.2, fun z => ⟨Nat.zero_le j, z⟩⟩
      rw [e] at this
      exact this
    · intro m C2 hm ⟨p1, p2⟩ ih
      obtain ⟨h, hh⟩ : ∃ h : Nat, h = n - 1 - m := ⟨_, rfl⟩
      have eh1 : n - m = h + 1 := by omega
      have eh2 : n - (m + 1) = h := by omega
      have eI : (n : Int) - 1 - (m : Int) = h := by omega
      have hhn : h < n := by omega
      obtain ⟨g1, g2, g3⟩ := hgv h hhn
      rw [eh1] at p2
      rw [eI]
      refine b_X11_leastOf_46 F ⟨fun z => by omega, fun _ => ?_⟩
      refine up_ind (α := MC) (P := fun s C' => Fp (fun a k => a = 96 ∧ k < 256 * (h + 1)) C2 C' ∧ ∀ Y, mSub Y all → Y < s → Lst (okG κ b X gv) (mdK κ b) 1000001 (offL (fun h => sm (mdK κ b h) (gv h)) n (m + 1)) (fun j => h ≤ j ∧ j < n) Y (C' 96 ((256 * h + Y : Nat) : Int))) (K := fun s C' => K_X11_leastOf_52 (d + 1) 0 0 all h (s : Int) S C' Q) (all + 1) ?_ ?_ 0 (by omega) C2 ⟨Fp_rf, fun Y _ hY => absurd hY (Nat.not_lt_zero Y)⟩
      · intro C3 ⟨r1, r2⟩
        refine b_X11_leastOf_52 F ⟨fun _ => ?_, fun z => by omega⟩
        have e2 : w32 ((h : Int) + (-1)) = (n : Int) - 1 - ((m + 1 : Nat) : Int) := by rw [w32_lit (by omega)]; omega
        rw [e2]
        refine ih C3 ⟨Fp_tr p1 (Fp_mono r1 (fun a k q => q.1)), fun Y hY => ?_⟩
        rw [eh2]
        exact r2 Y hY (by have := mSub_le hY; omega)
      · intro s C3 hs ⟨r1, r2⟩ ihs
        refine b_X11_leastOf_52 F ⟨fun z => by omega, fun _ => ?_⟩
        rw [iDiff_nat (by omega) (by omega)]
        have skip : ¬ mSub s all → K_X11_leastOf_52 (d + 1) 0 0 all h (w32 ((s : Int) + 1)) S C3 Q := by
          intro hno
          rw [w32_succ (by omega)]
          refine ihs C3 ⟨r1, fun Y hY hlt => r2 Y hY ?_⟩
          have : Y ≠ s := fun e => hno (e ▸ hY)
          omega
        refine ⟨fun z => ?_, fun z => skip (fun q => z (by rw [mDiff_eq_zero.mpr q]; rfl))⟩
        have hsub : mSub s all := mDiff_eq_zero.mp (by omega)
        have hs256 : s < 256 := by omega
        have hsX : mSub s X := mSub_trans hsub hall
        -- values
        have q97 : C3 97 h = gv h := by rw [r1 97 h (by omega), p1 97 h (by omega)]; exact g1
        have q96 : ∀ Y, mSub Y s → C3 96 ((256 * (h + 1) + Y : Nat) : Int) = C2 96 ((256 * (h + 1) + Y : Nat) : Int) := fun Y hY => r1 96 _ (by omega)
        have L0 : ∀ Y, mSub Y s → Lst (okG κ b X gv) (mdK κ b) 1000001 (offL (fun h => sm (mdK κ b h) (gv h)) n m) (fun j => h + 1 ≤ j ∧ j < n) Y (C2 96 ((256 * (h + 1) + Y : Nat) : Int)) := fun Y hY => p2 Y (mSub_trans hY hsub)
        have hor : ∀ P, mSub P s → gv h ||| P < 256 := fun P hP => Nat.or_lt_two_pow (n := 8) g2 (by have := mSub_le hP; omega)
        have q94 : ∀ P, mSub P s → C3 94 ((256 * h + (gv h ||| P) : Nat) : Int) = C 94 ((256 * h + (gv h ||| P) : Nat) : Int) := fun P hP => by rw [r1 94 _ (by omega), p1 94 _ (by omega)]
        have pwb : ∀ P, mSub P s → 0 ≤ C 94 ((256 * h + (gv h ||| P) : Nat) : Int) ∧ C 94 ((256 * h + (gv h ||| P) : Nat) : Int) ≤ 1000001 := fun P hP => by
          have hp := hpt h (gv h ||| P) hhn (hor P hP)
          by_cases o : okX κ b X h (gv h ||| P)
          · rw [hp.1 o]
            have := sm_bd (f := mdK κ b h) (X := gv h ||| P) (b := 99) (by decide) (fun k _ => mdK_bd κ b h k)
            omega
          · rw [hp.2 o]; omega
        have Lb : ∀ Y, mSub Y s → 0 ≤ C2 96 ((256 * (h + 1) + Y : Nat) : Int) ∧ C2 96 ((256 * (h + 1) + Y : Nat) : Int) ≤ 1000001 := fun Y hY => ⟨Lst_nn2 hw0 (by decide) (hon m) (L0 Y hY), (L0 Y hY).1⟩
        have e00 : gv h ||| 0 = gv h := Nat.or_zero _
        have i1 := pwb 0 (mSub_zero s)
        have i2 := Lb s (mSub_refl s)
        have i3 := q94 0 (mSub_zero s)
        rw [e00] at i1 i3
        rw [q97, w32_succ (by omega), w32_lit (x := 256 * (h : Int)) (by omega), w32_lit (x := 256 * (h : Int) + ((gv h : Nat) : Int)) (by omega), w32_lit (x := 256 * ((h + 1 : Nat) : Int)) (by omega), w32_lit (x := 256 * ((h + 1 : Nat) : Int) + (s : Int)) (by omega), show 256 * (h : Int) + ((gv h : Nat) : Int) = ((256 * h + gv h : Nat) : Int) by omega, show 256 * ((h + 1 : Nat) : Int) + (s : Int) = ((256 * (h + 1) + s : Nat) : Int) by omega, i3, q96 s (mSub_refl s), w32_lit (x := C 94 ((256 * h + gv h : Nat) : Int) + C2 96 ((256 * (h + 1) + s : Nat) : Int)) (by omega)]
        refine ⟨by omega, by omega, by omega, s_lesser F ⟨rfl, ?_⟩⟩
        refine s_least111 (G := gv h) (L := fun Y => C2 96 ((256 * (h + 1) + Y : Nat) : Int)) (pw := fun P => C 94 ((256 * h + (gv h ||| P) : Nat) : Int)) F (by omega) hs256 q97 g2 (fun Y hY => ⟨q96 Y hY, Lb Y hY⟩) (fun P hP => ⟨q94 P hP, pwb P hP⟩) (fun v hv => ?_) s s (Nat.le_refl _) (mSub_refl s) _ ⟨⟨by omega, Int.min_le_left _ _, ?_⟩, fun P hP hlt => by have := mSub_le hP; omega, ?_⟩
        · unfold Bs2 at hv
          dsimp only at hv
          obtain ⟨⟨v1, v2, v3⟩, v4, v5⟩ := hv
          rw [w32_succ (by omega)]
          refine ihs _ ⟨Fp_up ⟨rfl, by omega⟩ r1, fun Y hY hlt => ?_⟩
          by_cases e3 : Y = s
          · subst e3
            rw [upC_at]
            have smo : ∀ P, mSub P Y → sm (mdK κ b h) (gv h ||| P) = sm (mdK κ b h) (gv h) + sm (mdK κ b h) P := fun P hP => sm_or (dis_sub g3 (mSub_trans hP hsub))
            have st := Lst_step (ok := okG κ b X gv) (w := mdK κ b) (top := 1000001) (off := offL (fun h => sm (mdK κ b h) (gv h)) n m) (g := sm (mdK κ b h) (gv h)) (H := fun j => h + 1 ≤ j ∧ j < n) (H' := fun j => h ≤ j ∧ j < n) (X := Y) (h := h) (L := fun Z => C2 96 ((256 * (h + 1) + Z : Nat) : Int)) (v := v) hs256 (fun j => by omega) (by omega) (fun P hP => L0 _ (mSub_diff _ _)) v2 (fun P hP o => ?_) (fun hlt => ?_)
            · have e5 : offL (fun h => sm (mdK κ b h) (gv h)) n (m + 1) = offL (fun h => sm (mdK κ b h) (gv h)) n m + sm (mdK κ b h) (gv h) := by
                show offL _ n m + sm (mdK κ b (n - 1 - m)) (gv (n - 1 - m)) = _
                rw [← hh]
              rw [e5]
              exact st
            · have hp := (hpt h (gv h ||| P) hhn (hor P hP)).1 o
              rw [smo P hP] at hp
              by_cases e4 : P = 0
              · subst e4
                rw [mDiff_zero]
                rw [e00] at v3 hp
                omega
              · have h5 := v4 P hP (by omega)
                omega
            · rcases v5 with v5 | ⟨P, p3, p4⟩
              · omega
              · have hb5 := Lb _ (mSub_diff Y P)
                have hb6 := pwb P p3
                by_cases o : okX κ b X h (gv h ||| P)
                · have hp := (hpt h (gv h ||| P) hhn (hor P p3)).1 o
                  rw [smo P p3] at hp
                  exact ⟨P, p3, o, by omega, by omega⟩
                · have hp := (hpt h (gv h ||| P) hhn (hor P p3)).2 o
                  omega
          · rw [upC_sK (by omega)]
            exact r2 Y hY (by omega)
        · show min _ _ ≤ C 94 ((256 * h + (gv h ||| 0) : Nat) : Int) + C2 96 _
          rw [e00]
          exact Int.min_le_right _ _
        · rcases Int.le_total 1000001 (C 94 ((256 * h + gv h : Nat) : Int) + C2 96 ((256 * (h + 1) + s : Nat) : Int)) with y | y
          · exact Or.inl (Int.min_eq_left y)
          · refine Or.inr ⟨0, mSub_zero s, ?_⟩
            show min _ _ = C 94 ((256 * h + (gv h ||| 0) : Nat) : Int) + C2 96 ((256 * (h + 1) + mDiff s 0 : Nat) : Int)
            rw [e00, mDiff_zero]
            exact Int.min_eq_right y
    · rw [Nat.sub_zero, c2 Y (by have := mSub_le hY; omega)]
      exact Lst_none (Nat.lt_of_le_of_lt (mSub_le hY) hal) (by decide) (fun h hh => by omega)
  · intro s C1 hs ⟨c1, c2⟩ ih
    have step : ∀ v : Int, v = (if s = 0 then 0 else 1000001) → ((0 : Int) ≤ w32 ((w32 (256 * (n : Int))) + s) ∧ w32 ((w32 (256 * (n : Int))) + s) < 1792) ∧ K_X11_leastOf_2 (d + 1) 0 0 all (w32 ((s : Int) + 1)) S (upC C1 96 (w32 ((w32 (256 * (n : Int))) + s)) v) Q := by
      intro v hv
      rw [w32_lit (x := 256 * (n : Int)) (by omega), w32_lit (x := 256 * (n : Int) + s) (by omega), w32_succ (by omega), show 256 * (n : Int) + s = ((256 * n + s : Nat) : Int) by omega]
      refine ⟨by omega, ih _ ⟨Fp_up rfl c1, fun Y hY => ?_⟩⟩
      by_cases e : Y = s
      · subst e; rw [upC_at]; exact hv
      · rw [upC_sK (by omega)]; exact c2 Y (by omega)
    refine b_X11_leastOf_2 F ⟨fun z => by omega, fun _ => s_many F ⟨rfl, ?_⟩⟩
    rw [c1 83 45 (by decide), hn]
    exact ⟨fun z => step _ (by rw [if_neg (by omega)]), fun z => step _ (by rw [if_pos (by omega)])⟩
theorem s_givesNothing {d mc ms : Nat} {S : MS} {C : MC} {Q : Qt} (F : Fix S) (hk : ∀ C', Fp (fun a _ => a = 97) C C' → (∀ h : Nat, h < 6 → C' 97 h = 0) → Q 0 S C') : K_X11_givesNothing_0 d mc ms S C Q := by
  refine b_X11_givesNothing_0 F ?_
  refine up_ind (α := MC) (P := fun m C' => Fp (fun a _ => a = 97) C C' ∧ ∀ h : Nat, h < m → C' 97 h = 0) (K := fun m C' => K_X11_givesNothing_2 d mc ms (m : Int) S C' Q) 6 ?_ ?_ 0 (by omega) C ⟨Fp_rf, fun h hh => absurd hh (Nat.not_lt_zero h)⟩
  · intro C1 ⟨c1, c2⟩
    exact b_X11_givesNothing_2 F ⟨fun _ => hk C1 c1 c2, fun z => absurd (by decide) z⟩
  · intro m C1 hm ⟨c1, c2⟩ ih
    refine b_X11_givesNothing_2 F ⟨fun z => by omega, fun _ => ⟨by omega, ?_⟩⟩
    rw [w32_succ (by omega)]
    refine ih _ ⟨Fp_up rfl c1, fun h hh => ?_⟩
    by_cases e : h = m
    · subst e; rw [upC_at]
    · rw [upC_sK (by omega)]; exact c2 h (by omega)
theorem Lst_ok {ok ok' : Nat → Nat → Prop} {w : Nat → Nat → Int} {top off : Int} {H : Nat → Prop} {X : Nat} {v : Int} (hX : X < 256) (h : ∀ j P, H j → mSub P X → (ok j P ↔ ok' j P)) (hl : Lst ok w top off H X v) : Lst ok' w top off H X v := by
  have hv : ∀ a, Vd ok H X a ↔ Vd ok' H X a := fun a => ⟨fun q => ⟨q.1, fun j hj => (h j _ hj (prt_sub hX)).mp (q.2 j hj)⟩, fun q => ⟨q.1, fun j hj => (h j _ hj (prt_sub hX)).mpr (q.2 j hj)⟩⟩
  refine ⟨hl.1, fun z => ?_, fun a q => hl.2.2 a ((hv a).mpr q)⟩
  obtain ⟨a, q, e⟩ := hl.2.1 z
  exact ⟨a, (hv a).mp q, e⟩
def mpx (a k : Int) : Prop := asx a k ∨ (94 ≤ a ∧ a ≤ 100)
theorem offL_zero {g : Nat → Int} {n : Nat} (h : ∀ j, g j = 0) : ∀ m, offL g n m = 0
  | 0 => rfl
  | m + 1 => by
    show offL g n m + g (n - 1 - m) = 0
    rw [offL_zero h m, h]
    rfl
theorem s_mindedOf {d b n X : Nat} {S : MS} {C : MC} {Q : Qt} (F : Fix S) (hA : AskMod) (hK : KOk (C 83)) (hn : C 83 45 = n) (hb : b < 16) (hX : X < 256)
    (hk : ∀ C' v, Fp mpx C C' → PtM C' (C 83) b X n → (∀ h : Nat, h < 6 → C' 97 h = 0) → Lst (okK (C 83) b) (mdK (C 83) b) 1000001 0 (fun h => h < n) X v → Q v S C') : K_X11_mindedOf_0 (d + 102) 0 0 b X S C Q := by
  have hn6 : n ≤ 6 := by have := hK.1; omega
  refine b_X11_mindedOf_0 F (s_laysParts F hA hK hn hb hX (fun C1 f1 p1 => ⟨rfl, s_givesNothing F (fun C2 f2 g2 => ⟨rfl, ?_⟩)⟩))
  have p2 : PtM C2 (C 83) b X n := fun h P hh hP => by rw [f2 94 _ (by omega)]; exact p1 h P hh hP
  refine s_leastOf (d := d + 100) (κ := C 83) (b := b) (X := X) (gv := fun _ => 0) F (by rw [f2 83 45 (by decide), f1 83 45 (by unfold ptx asx; omega)]; exact hn) hn6 hX (mSub_refl X) p2 (fun h hh => ⟨g2 h (by omega), by decide, Nat.zero_and X⟩) (fun C3 v f3 hl => ⟨rfl, hk C3 v ?_ ?_ ?_ ?_⟩)
  · exact Fp_tr (Fp_mono f1 (fun a k q => by unfold ptx asx at q; unfold mpx asx; omega)) (Fp_tr (Fp_mono f2 (fun a k q => by unfold mpx; omega)) (Fp_mono f3 (fun a k q => by unfold mpx; omega)))
  · intro h P hh hP; rw [f3 94 _ (by omega)]; exact p2 h P hh hP
  · intro h hh; rw [f3 97 _ (by omega)]; exact g2 h hh
  · rw [offL_zero (fun j => sm_zero)] at hl
    refine Lst_ok hX (fun j P _ hP => ?_) hl
    show okX (C 83) b X j (0 ||| P) ↔ _
    rw [Nat.zero_or]
    exact ⟨fun o => o.1, fun o => ⟨o, hP⟩⟩
def mxK (κ : Int → Int) (b : Nat) : Nat := (κ (8 + (b : Int))).toNat
theorem mxK_ok {κ : Int → Int} (h : KOk κ) {b : Nat} (hb : b < 16) : κ (8 + (b : Int)) = mxK κ b ∧ mxK κ b < 256 := by
  have := h.2.2.2.1 b (by omega) (by omega)
  unfold mxK
  omega
theorem s_leastAt {d b n : Nat} {S : MS} {C : MC} {Q : Qt} (F : Fix S) (hA : AskMod) (hK : KOk (C 83)) (hn : C 83 45 = n) (hb : b < 16)
    (hk : ∀ C' v, Fp mpx C C' → PtM C' (C 83) b (mxK (C 83) b) n → (∀ h : Nat, h < 6 → C' 97 h = 0) → Lst (okK (C 83) b) (mdK (C 83) b) 1000001 0 (fun h => h < n) (mxK (C 83) b) v → Q v S C') : K_X11_leastAt_0 (d + 103) 0 0 b S C Q := by
  obtain ⟨m1, m2⟩ := mxK_ok hK hb
  refine b_X11_leastAt_0 F (s_musicAt F (by omega) ⟨rfl, ?_⟩)
  rw [m1]
  exact s_mindedOf F hA hK hn hb m2 (fun C' v f p g l => ⟨rfl, hk C' v f p g l⟩)
