/-! 50.ways: ways, run, cover -/
def hsU (n : Nat) : Nat → List Nat
  | 0 => []
  | m + 1 => (n - 1 - m) :: hsU n m
theorem hsU_range {n : Nat} : ∀ m, m ≤ n → hsU n m = List.range' (n - m) m
  | 0, _ => rfl
  | m + 1, h => by
    show (n - 1 - m) :: hsU n m = _
    rw [hsU_range m (by omega), List.range'_succ, show n - (m + 1) = n - 1 - m by omega, show n - 1 - m + 1 = n - m by omega]
theorem hsU_perm (n : Nat) : (hsU n n).Perm (hsD n) := by
  rw [hsU_range n (Nat.le_refl n), Nat.sub_self, ← List.range_eq_range']
  exact (List.reverse_perm _).symm
noncomputable def okXB (κ : Int → Int) (b X h P : Nat) : Bool := @decide (okX κ b X h P) (Classical.propDecidable _)
theorem okXB_iff {κ : Int → Int} {b X h P : Nat} : okXB κ b X h P = true ↔ okX κ b X h P := by unfold okXB; exact @decide_eq_true_iff _ (Classical.propDecidable _)
theorem PtM_iff {C : MC} {κ : Int → Int} {b X n h P : Nat} (hpt : PtM C κ b X n) (hh : h < n) (hP : P < 256) : C 94 ((256 * h + P : Nat) : Int) < 1000001 ↔ okX κ b X h P := by
  have hp := hpt h P hh hP
  constructor
  · intro z
    apply Classical.byContradiction
    intro o
    rw [hp.2 o] at z
    omega
  · intro o
    rw [hp.1 o]
    have := sm_bd (f := mdK κ b h) (X := P) (b := 99) (by decide) (fun k _ => mdK_bd κ b h k)
    omega
theorem s_ways103 {d h set X X2 : Nat} {S : MS} {C : MC} {ok : Nat → Bool} {old : Nat → Int} {Q : Qt} (F : Fix S) (hh : h < 6) (hset : set < 256) (hpt : ∀ P, P < 256 → (C 94 ((256 * h + P : Nat) : Int) < 1000001 ↔ ok P = true)) (hL : mSub set X → ∀ Y, mSub Y set → C 96 ((256 * (h + 1) + Y : Nat) : Int) = w32 (old Y))
    (hk : ∀ v, (mSub set X → v = w32 (parS old ok set 0)) → K_X11_ways_74 (d + 1) 0 0 X2 h (w32 ((set : Int) + 1)) S (upC C 96 ((256 * h + set : Nat) : Int) v) Q) :
    ∀ (f p : Nat), p ≤ f → mSub p set → ∀ v, (mSub set X → v = w32 (parS old ok set p)) → K_X11_ways_103 (d + 1) 0 0 X2 h set v p S C Q := by
  intro f
  induction f with
  | zero =>
    intro p hp hps v hv
    have : p = 0 := by omega
    subst this
    refine b_X11_ways_103 F ⟨fun _ => ?_, fun z => absurd (by decide) z⟩
    rw [w32_lit (x := 256 * (h : Int)) (by omega), w32_lit (x := 256 * (h : Int) + set) (by omega), show 256 * (h : Int) + set = ((256 * h + set : Nat) : Int) by omega]
    exact ⟨by omega, hk v hv⟩
  | succ f ih =>
    intro p hp hps v hv
    by_cases e : p = 0
    · exact ih p (by omega) hps v hv
    · obtain ⟨q, q1, q2, q3, q4⟩ := prv_ok hset hps e
      have hple := mSub_le hps
      have hx : iXor (set : Int) (p : Int) = ((mDiff set p : Nat) : Int) := by rw [iXor_nat (by omega) (by omega), xor_sub hps]
      have hmd := mDiff_le set p
      have hst := parS_step (f := old) (ok := ok) (X := set) (p := p) (q := q) (by omega) hps e q2 (fun P p1 _ p3 => q4 P p1 p3)
      refine b_X11_ways_103 F ⟨fun z => by omega, fun _ => ?_⟩
      rw [hx, w32_succ (by omega), w32_lit (x := 256 * (h : Int)) (by omega), w32_lit (x := 256 * (h : Int) + (p : Int)) (by omega), w32_lit (x := 256 * ((h + 1 : Nat) : Int)) (by omega), w32_lit (x := 256 * ((h + 1 : Nat) : Int) + ((mDiff set p : Nat) : Int)) (by omega), show 256 * (h : Int) + (p : Int) = ((256 * h + p : Nat) : Int) by omega, show 256 * ((h + 1 : Nat) : Int) + ((mDiff set p : Nat) : Int) = ((256 * (h + 1) + mDiff set p : Nat) : Int) by omega, q1]
      refine ⟨by omega, fun z => ih q (by omega) q3 _ (fun hs => ?_), fun z => ⟨by omega, ih q (by omega) q3 _ (fun hs => ?_)⟩⟩
      · have hf : ok p = false := by
          cases ho : ok p
          · rfl
          · have := (hpt p (by omega)).mpr ho; omega
        rw [hf] at hst
        rw [hv hs, Int.add_zero, w32_w32, hst]
        simp
      · have ht : ok p = true := (hpt p (by omega)).mp (by omega)
        rw [ht, if_pos rfl] at hst
        rw [hv hs, hL hs _ (mSub_diff set p), w32_add, hst]
theorem s_waysM {d b n : Nat} {S : MS} {C : MC} {Q : Qt} (F : Fix S) (hA : AskMod) (hK : KOk (C 83)) (hn : C 83 45 = n) (hb : b < 16) (hk : ∀ C', Fp mpx C C' → Q (w32 (cnt (okB (cnK (C 83) b) (hdK (C 83)) (rcK (C 83))) (hsD n) (mxK (C 83) b))) S C') : K_X11_ways_0 (d + 102) 0 0 b S C Q := by
  have hn6 : n ≤ 6 := by have := hK.1; omega
  obtain ⟨m1, m2⟩ := mxK_ok hK hb
  generalize hκ : C 83 = κ at hK hn hk m1 m2
  generalize hXX : mxK κ b = X at m1 m2 hk
  refine b_X11_ways_0 F (s_isBeatM F fun r hr => ⟨rfl, fun _ => s_musicAt F (by omega) ⟨rfl, ?_⟩, fun z => by omega⟩)
  rw [hκ, m1]
  refine s_laysParts (d := d) F hA (by rw [hκ]; exact hK) (by rw [hκ]; exact hn) hb m2 (fun C1 f1 p1 => ⟨rfl, ?_⟩)
  rw [hκ] at p1
  have e83 : C1 83 45 = n := by rw [f1 83 45 (by unfold ptx asx; omega), hκ]; exact hn
  -- the same as counted by the class
  have same : cnt (okXB κ b X) (hsU n n) X = cnt (okB (cnK κ b) (hdK κ) (rcK κ)) (hsD n) X := by
    rw [cnt_perm (hsU_perm n)]
    refine cnt_cong _ X (fun h _ P hP => ?_)
    have hi : okXB κ b X h P = true ↔ okB (cnK κ b) (hdK κ) (rcK κ) h P = true := by
      rw [okXB_iff, okB_iff]
      exact ⟨fun o => o.1, fun o => ⟨o, hP⟩⟩
    cases h1 : okXB κ b X h P <;> cases h2 : okB (cnK κ b) (hdK κ) (rcK κ) h P <;> simp_all
  refine up_ind (α := MC) (P := fun s C' => Fp (fun a _ => a = 96) C1 C' ∧ ∀ Y : Nat, Y < s → C' 96 ((256 * n + Y : Nat) : Int) = if Y = 0 then 1 else 0) (K := fun s C' => K_X11_ways_23 (d + 102) 0 0 X (s : Int) S C' Q) 256 ?_ ?_ 0 (by omega) C1 ⟨Fp_rf, fun Y hY => absurd hY (Nat.not_lt_zero Y)⟩
  · intro C2 ⟨c1, c2⟩
    refine b_X11_ways_23 F ⟨fun _ => s_many F ⟨rfl, ?_⟩, fun z => absurd (by decide) z⟩
    rw [c1 83 45 (by decide), e83, w32_lit (x := (n : Int) - 1) (by omega), show (n : Int) - 1 = (n : Int) - 1 - ((0 : Nat) : Int) by omega]
    refine up_ind (α := MC) (P := fun m C' => Fp (fun a _ => a = 96) C1 C' ∧ ∀ Y, mSub Y X → C' 96 ((256 * (n - m) + Y : Nat) : Int) = w32 (cnt (okXB κ b X) (hsU n m) Y)) (K := fun m C' => K_X11_ways_67 (d + 102) 0 0 X ((n : Int) - 1 - (m : Int)) S C' Q) n ?_ ?_ 0 (by omega) C2 ⟨c1, fun Y hY => ?_⟩
    · intro C3 ⟨p3, p4⟩
      refine b_X11_ways_67 F ⟨fun _ => ⟨by omega, ?_⟩, fun z => by omega⟩
      have := p4 X (mSub_refl X)
      rw [Nat.sub_self, Nat.mul_zero, Nat.zero_add] at this
      rw [this, same]
      exact hk C3 (Fp_tr (Fp_mono f1 (fun a k q => by unfold ptx asx at q; unfold mpx asx; omega)) (Fp_mono p3 (fun a k q => by unfold mpx; omega)))
    · intro m C3 hm ⟨p3, p4⟩ ih
      obtain ⟨h, hh⟩ : ∃ h : Nat, h = n - 1 - m := ⟨_, rfl⟩
      have eh1 : n - m = h + 1 := by omega
      have eh2 : n - (m + 1) = h := by omega
      have hhn : h < n := by omega
      rw [eh1] at p4
      rw [show (n : Int) - 1 - (m : Int) = h by omega]
      refine b_X11_ways_67 F ⟨fun z => by omega, fun _ => ?_⟩
      refine up_ind (α := MC) (P := fun s C' => Fp (fun a k => a = 96 ∧ k < 256 * (h + 1)) C3 C' ∧ ∀ Y, mSub Y X → Y < s → C' 96 ((256 * h + Y : Nat) : Int) = w32 (cnt (okXB κ b X) (hsU n (m + 1)) Y)) (K := fun s C' => K_X11_ways_74 (d + 102) 0 0 X h (s : Int) S C' Q) 256 ?_ ?_ 0 (by omega) C3 ⟨Fp_rf, fun Y _ hY => absurd hY (Nat.not_lt_zero Y)⟩
      · intro C4 ⟨r1, r2⟩
        refine b_X11_ways_74 F ⟨fun _ => ?_, fun z => absurd (by decide) z⟩
        rw [show w32 ((h : Int) + (-1)) = (n : Int) - 1 - ((m + 1 : Nat) : Int) by rw [w32_lit (by omega)]; omega]
        refine ih C4 ⟨Fp_tr p3 (Fp_mono r1 (fun a k q => q.1)), fun Y hY => ?_⟩
        rw [eh2]
        exact r2 Y hY (by have := mSub_le hY; omega)
      · intro s C4 hs ⟨r1, r2⟩ ihs
        refine b_X11_ways_74 F ⟨fun z => by omega, fun _ => ?_⟩
        rw [w32_succ (by omega), w32_lit (x := 256 * ((h + 1 : Nat) : Int)) (by omega), w32_lit (x := 256 * ((h + 1 : Nat) : Int) + (s : Int)) (by omega), show 256 * ((h + 1 : Nat) : Int) + (s : Int) = ((256 * (h + 1) + s : Nat) : Int) by omega]
        have q96 : ∀ Y, mSub Y s → C4 96 ((256 * (h + 1) + Y : Nat) : Int) = C3 96 ((256 * (h + 1) + Y : Nat) : Int) := fun Y hY => r1 96 _ (by omega)
        refine ⟨by omega, s_ways103 (d := d + 101) (X := X) (ok := okXB κ b X h) (old := cnt (okXB κ b X) (hsU n m)) F (by omega) hs (fun P hP => ?_) (fun hsX Y hY => ?_) (fun v hv => ?_) s s (Nat.le_refl _) (mSub_refl s) _ (fun hsX => ?_)⟩
        · rw [r1 94 _ (by omega), p3 94 _ (by omega), okXB_iff]
          exact PtM_iff p1 hhn hP
        · rw [q96 Y hY]; exact p4 Y (mSub_trans hY hsX)
        · rw [w32_succ (by omega)]
          refine ihs _ ⟨Fp_up ⟨rfl, by omega⟩ r1, fun Y hY hlt => ?_⟩
          by_cases e3 : Y = s
          · subst e3
            rw [upC_at, hv hY, parS_zero]
            show _ = w32 (cnt (okXB κ b X) ((n - 1 - m) :: hsU n m) Y)
            rw [← hh]
            rfl
          · rw [upC_sK (by omega)]
            exact r2 Y hY (by omega)
        · rw [q96 s (mSub_refl s), p4 s hsX, parS_top hs (okXB_iff.mpr ⟨okP_zero (by have := (hK.2.1 h (by omega) (by omega)).1; unfold hdK; omega), mSub_zero X⟩) (fun P hP _ => mSub_le hP)]
    · rw [Nat.sub_zero, c2 Y (by have := mSub_le hY; omega)]
      show _ = w32 (if Y = 0 then 1 else 0)
      by_cases e : Y = 0
      · rw [if_pos e]; rfl
      · rw [if_neg e]; rfl
  · intro s C2 hs ⟨c1, c2⟩ ih
    have step : ∀ v : Int, v = (if s = 0 then 1 else 0) → ((0 : Int) ≤ w32 ((w32 (256 * (n : Int))) + s) ∧ w32 ((w32 (256 * (n : Int))) + s) < 1792) ∧ K_X11_ways_23 (d + 102) 0 0 X (w32 ((s : Int) + 1)) S (upC C2 96 (w32 ((w32 (256 * (n : Int))) + s)) v) Q := by
      intro v hv
      rw [w32_lit (x := 256 * (n : Int)) (by omega), w32_lit (x := 256 * (n : Int) + s) (by omega), w32_succ (by omega), show 256 * (n : Int) + s = ((256 * n + s : Nat) : Int) by omega]
      refine ⟨by omega, ih _ ⟨Fp_up rfl c1, fun Y hY => ?_⟩⟩
      by_cases e : Y = s
      · subst e; rw [upC_at]; exact hv
      · rw [upC_sK (by omega)]; exact c2 Y (by omega)
    refine b_X11_ways_23 F ⟨fun z => by omega, fun _ => s_many F ⟨rfl, ?_⟩⟩
    rw [c1 83 45 (by decide), e83]
    exact ⟨fun z => step _ (by rw [if_neg (by omega)]), fun z => step _ (by rw [if_pos (by omega)])⟩
theorem q_ways {d : Nat} {l : Int} {S : MS} {C : MC} {P : Int → Int → MS → MC → Prop} (hAC : AskCls) (hAM : AskMod) (I : Inv S C) (k : PS S P) : K_X10_ways_0 (d + 105) 0 0 l S C (fun r S2 C2 => Fix S2 ∧ S2.2.2.2.2 = S.2.2.2.2 ∧ K_X11_ways_0 (d + 105) 0 0 l S2 C2 (fun r2 Sq C3 => Sq = S2 ∧ P r r2 S2 C3)) := by
  have F := I.1
  obtain ⟨n, hn⟩ : ∃ n : Nat, C 83 45 = n := ⟨(C 83 45).toNat, by have := I.2.1.1.2.1; omega⟩
  have hK := KOk_of I.2.1
  refine b_X10_ways_0 F (s_isBeatC F fun r hr => ⟨rfl, fun z => ⟨F, rfl, ?_⟩, fun z => ?_⟩)
  · exact b_X11_ways_0 F (s_isBeatM F fun r2 hr2 => ⟨rfl, fun y => by omega, fun _ => ⟨rfl, k _ _ _ I rfl⟩⟩)
  · obtain ⟨b, rfl⟩ : ∃ b : Nat, l = b := ⟨l.toNat, by omega⟩
    have hb : b < 16 := by omega
    obtain ⟨ha, h1, h2, h3, h4⟩ := SpC_of hAC isSt1 I.2.1 hn
    refine s_howManyWays (d := d + 96) F ha hb h1 (h2 b hb).1 (h2 b hb).2 (h4 b 0 hb (Or.inl rfl) _ (S44_up F 1)) (fun C2 f2 => ⟨fix_street F, fix_street F, rfl, ?_⟩)
    have f2' : Fp plx C C2 := f2
    have e83 := pl83 f2'
    refine s_waysM (d := d + 3) (fix_street F) hAM (by rw [e83]; exact hK) (by rw [e83]; exact hn) hb (fun C3 f3 => ⟨rfl, ?_⟩)
    rw [e83]
    exact k _ _ _ (Inv_pl I (S44_up F 1) f2' f3) rfl
/-! crowds -/
noncomputable def hvB (κ : Int → Int) (b n G Y : Nat) : Bool := @decide (Cv (okK κ b) (inH n G) Y) (Classical.propDecidable _)
theorem hvB_iff {κ : Int → Int} {b n G Y : Nat} : hvB κ b n G Y = true ↔ Cv (okK κ b) (inH n G) Y := by unfold hvB; exact @decide_eq_true_iff _ (Classical.propDecidable _)
theorem s_hasSet {d mc ms h G set b n X : Nat} {S : MS} {C : MC} {κ : Int → Int} {Q : Qt} (F : Fix S) (hh : h < n) (hn : n ≤ 6) (hG : G < 64) (hset : set < 256) (hsX : mSub set X) (hpt : PtM C κ b X n) (h0 : okK κ b h 0) (hL : ∀ Y, mSub Y set → C 99 ((256 * G + Y : Nat) : Int) = if hvB κ b n G Y then 1 else 0)
    (hk : ∀ r, (r = 1 ∧ (∃ P, mSub P set ∧ okK κ b h P ∧ Cv (okK κ b) (inH n G) (mDiff set P)) ∨ r = 0 ∧ ¬ (∃ P, mSub P set ∧ okK κ b h P ∧ Cv (okK κ b) (inH n G) (mDiff set P))) → Q r S C) : K_X11_hasSet_0 d mc ms G h set S C Q := by
  refine b_X11_hasSet_0 F ?_
  rw [w32_lit (x := 256 * (G : Int)) (by omega), w32_lit (x := 256 * (G : Int) + (set : Int)) (by omega), show 256 * (G : Int) + (set : Int) = ((256 * G + set : Nat) : Int) by omega, hL set (mSub_refl set)]
  refine ⟨by omega, ?_⟩
  have yes : (∃ P, mSub P set ∧ okK κ b h P ∧ Cv (okK κ b) (inH n G) (mDiff set P)) → ∀ p, K_X11_hasSet_17 d mc ms G h set 1 p S C Q := fun q p => b_X11_hasSet_17 F ⟨fun _ => ⟨by omega, hk 1 (Or.inl ⟨rfl, q⟩)⟩, fun _ => ⟨fun _ => ⟨by omega, hk 1 (Or.inl ⟨rfl, q⟩)⟩, fun z => absurd z (by decide)⟩⟩
  have go : ∀ (f p : Nat), p ≤ f → mSub p set → (∀ P, mSub P set → (P = 0 ∨ p < P) → ¬ (okK κ b h P ∧ Cv (okK κ b) (inH n G) (mDiff set P))) → K_X11_hasSet_17 d mc ms G h set 0 p S C Q := by
    intro f
    induction f with
    | zero =>
      intro p hp hps hno
      have : p = 0 := by omega
      subst this
      refine b_X11_hasSet_17 F ⟨fun _ => ⟨by omega, hk 0 (Or.inr ⟨rfl, fun ⟨P, p1, p2⟩ => hno P p1 (by omega) p2⟩)⟩, fun z => absurd (by decide) z⟩
    | succ f ih =>
      intro p hp hps hno
      by_cases e : p = 0
      · exact ih p (by omega) hps hno
      · obtain ⟨q, q1, q2, q3, q4⟩ := prv_ok hset hps e
        have hple := mSub_le hps
        have hx : iXor (set : Int) (p : Int) = ((mDiff set p : Nat) : Int) := by rw [iXor_nat (by omega) (by omega), xor_sub hps]
        have hmd := mDiff_le set p
        have cont : ¬ (okK κ b h p ∧ Cv (okK κ b) (inH n G) (mDiff set p)) → K_X11_hasSet_17 d mc ms G h set 0 (iAnd (w32 ((p : Int) - 1)) (set : Int)) S C Q := by
          intro hn2
          rw [q1]
          refine ih q (by omega) q3 (fun P p1 p2 => ?_)
          by_cases e3 : P = p
          · rw [e3]; exact hn2
          · refine hno P p1 ?_
            rcases p2 with p2 | p2
            · exact Or.inl p2
            · right
              rcases Nat.lt_or_ge P p with y | y
              · have := q4 P p1 y; omega
              · omega
        refine b_X11_hasSet_17 F ⟨fun z => by omega, fun _ => ⟨fun z => absurd rfl z, fun _ => ?_⟩⟩
        rw [hx, w32_lit (x := 256 * (h : Int)) (by omega), w32_lit (x := 256 * (h : Int) + (p : Int)) (by omega), w32_lit (x := 256 * (G : Int)) (by omega), w32_lit (x := 256 * (G : Int) + ((mDiff set p : Nat) : Int)) (by omega), show 256 * (h : Int) + (p : Int) = ((256 * h + p : Nat) : Int) by omega, show 256 * (G : Int) + ((mDiff set p : Nat) : Int) = ((256 * G + mDiff set p : Nat) : Int) by omega, hL _ (mSub_diff set p), b01]
        have hi := PtM_iff hpt hh (show p < 256 by omega)
        refine ⟨by omega, fun z => cont (fun o => ?_), fun z => ⟨by omega, fun y => cont (fun o => ?_), fun y => ?_⟩⟩
        · have := hi.mpr ⟨o.1, mSub_trans hps hsX⟩; omega
        · rw [hvB_iff.mpr o.2] at y; cases y
        · have hc : hvB κ b n G (mDiff set p) = true := by simpa using y
          exact yes ⟨p, hps, (hi.mp (by omega)).1, hvB_iff.mp hc⟩ _
  cases hc : hvB κ b n G set
  · refine go set set (Nat.le_refl _) (mSub_refl set) (fun P p1 p2 o => ?_)
    rcases p2 with p2 | p2
    · subst p2
      rw [mDiff_zero] at o
      rw [hvB_iff.mpr o.2] at hc; cases hc
    · have := mSub_le p1; omega
  · exact yes ⟨0, mSub_zero set, h0, by rw [mDiff_zero]; exact hvB_iff.mp hc⟩ _
theorem s_laysCrowds {d b n : Nat} {S : MS} {C : MC} {Q : Qt} (F : Fix S) (hA : AskMod) (hK : KOk (C 83)) (hn : C 83 45 = n) (hb : b < 16) (hk : ∀ C', Fp mpx C C' → C' 100 = C 100 → (∀ G Y : Nat, G < 2 ^ n → mSub Y (mxK (C 83) b) → C' 99 ((256 * G + Y : Nat) : Int) = if hvB (C 83) b n G Y then 1 else 0) → Q 0 S C') : K_X11_laysCrowds_0 (d + 102) 0 0 b S C Q := by
  have hn6 : n ≤ 6 := by have := hK.1; omega
  obtain ⟨m1, m2⟩ := mxK_ok hK hb
  generalize hκ : C 83 = κ at hK hn hk m1 m2
  generalize hXX : mxK κ b = X at m1 m2 hk
  have hp64 : 2 ^ n ≤ 64 := Nat.pow_le_pow_right (n := 2) (by decide) hn6
  have ok0 : ∀ h, h < n → okK κ b h 0 := fun h hh => okP_zero (by have := (hK.2.1 h (by omega) (by omega)).1; unfold hdK; omega)
  refine b_X11_laysCrowds_0 F (s_musicAt F (by omega) ⟨rfl, ?_⟩)
  rw [hκ, m1]
  refine s_laysParts (d := d) F hA (by rw [hκ]; exact hK) (by rw [hκ]; exact hn) hb m2 (fun C1 f1 p1 => ⟨rfl, ?_⟩)
  rw [hκ] at p1
  have e83 : C1 83 45 = n := by rw [f1 83 45 (by unfold ptx asx; omega), hκ]; exact hn
  refine up_ind (α := MC) (P := fun G C' => Fp (fun a _ => a = 99) C1 C' ∧ ∀ H Y : Nat, H < G → mSub Y X → C' 99 ((256 * H + Y : Nat) : Int) = if hvB κ b n H Y then 1 else 0) (K := fun G C' => K_X11_laysCrowds_14 (d + 102) 0 0 X (G : Int) S C' Q) (2 ^ n) ?_ ?_ 0 (Nat.zero_le _) C1 ⟨Fp_rf, fun H Y hH => absurd hH (Nat.not_lt_zero H)⟩
  · intro C2 ⟨c1, c2⟩
    refine b_X11_laysCrowds_14 F (s_many F ⟨rfl, fun _ => hk C2 (Fp_tr (Fp_mono f1 (fun a k q => by unfold ptx asx at q; unfold mpx asx; omega)) (Fp_mono c1 (fun a k q => by unfold mpx; omega))) (funext fun j => by rw [c1 100 j (by omega), f1 100 j (by unfold ptx asx; omega)]) c2, fun z => ?_⟩)
    rw [c1 83 45 (by decide), e83, iShl1 n (by omega)] at z
    omega
  · intro G C2 hG ⟨c1, c2⟩ ih
    refine b_X11_laysCrowds_14 F (s_many F ⟨rfl, fun z => ?_, fun _ => s_many F ⟨rfl, ?_⟩⟩)
    · rw [c1 83 45 (by decide), e83, iShl1 n (by omega)] at z
      omega
    · rw [c1 83 45 (by decide), e83, w32_lit (x := (n : Int) - 1) (by omega)]
      have sets : ∀ h : Int, (G = 0 ∨ ∃ g : Nat, h = g ∧ g < n ∧ G.testBit g = true) → K_X11_laysCrowds_55 (d + 102) 0 0 X G h 0 S C2 Q := by
        intro h hh
        refine up_ind (α := MC) (P := fun s C' => Fp (fun a k => a = 99 ∧ 256 * (G : Int) ≤ k) C2 C' ∧ ∀ Y : Nat, mSub Y X → Y < s → C' 99 ((256 * G + Y : Nat) : Int) = if hvB κ b n G Y then 1 else 0) (K := fun s C' => K_X11_laysCrowds_55 (d + 102) 0 0 X G h (s : Int) S C' Q) (X + 1) ?_ ?_ 0 (by omega) C2 ⟨Fp_rf, fun Y _ hY => absurd hY (Nat.not_lt_zero Y)⟩
        · intro C3 ⟨r1, r2⟩
          refine b_X11_laysCrowds_55 F ⟨fun _ => ?_, fun z => by omega⟩
          rw [w32_succ (by omega)]
          refine ih C3 ⟨Fp_tr c1 (Fp_mono r1 (fun a k q => q.1)), fun H Y hH hY => ?_⟩
          have hle := mSub_le hY
          by_cases e : H = G
          · subst e; exact r2 Y hY (by omega)
          · rw [r1 99 _ (by omega)]; exact c2 H Y (by omega) hY
        · intro s C3 hs ⟨r1, r2⟩ ihs
          have skip : ¬ mSub s X → K_X11_laysCrowds_55 (d + 102) 0 0 X G h (w32 ((s : Int) + 1)) S C3 Q := by
            intro hno
            rw [w32_succ (by omega)]
            refine ihs C3 ⟨r1, fun Y hY hlt => r2 Y hY ?_⟩
            have : Y ≠ s := fun e => hno (e ▸ hY)
            omega
          have put : ∀ v : Int, v = (if hvB κ b n G s then 1 else 0) → ((0 : Int) ≤ w32 ((w32 (256 * (G : Int))) + s) ∧ w32 ((w32 (256 * (G : Int))) + s) < 16384) ∧ K_X11_laysCrowds_55 (d + 102) 0 0 X G h (w32 ((s : Int) + 1)) S (upC C3 99 (w32 ((w32 (256 * (G : Int))) + s)) (nZ v)) Q := by
            intro v hv
            have hz : nZ v = v := by
              rw [hv]
              cases hvB κ b n G s
              · exact nZ0
              · exact nZ1
            rw [hz, w32_lit (x := 256 * (G : Int)) (by omega), w32_lit (x := 256 * (G : Int) + s) (by omega), w32_succ (by omega), show 256 * (G : Int) + s = ((256 * G + s : Nat) : Int) by omega]
            refine ⟨by omega, ihs _ ⟨Fp_up ⟨rfl, by omega⟩ r1, fun Y hY hlt => ?_⟩⟩
            by_cases e : Y = s
            · subst e; rw [upC_at]; exact hv
            · rw [upC_sK (by omega)]; exact r2 Y hY (by omega)
          refine b_X11_laysCrowds_55 F ⟨fun z => by omega, fun _ => ?_⟩
          rw [iDiff_nat (by omega) (by omega)]
          refine ⟨fun z => skip (fun q => z (by rw [mDiff_eq_zero.mpr q]; rfl)), fun z => ⟨fun z2 => ?_, fun z2 => ?_⟩⟩
          · have hsX : mSub s X := mDiff_eq_zero.mp (by omega)
            rcases hh with hh | ⟨g, rfl, hg, hbit⟩
            · omega
            · have hpg : 2 ^ g < 64 := Nat.pow_lt_pow_right (by decide) (show g < 6 by omega)
              rw [iShl1 g (by omega), iDiff_nat (by omega) (by omega)]
              have hlt := mDiff_lt (pow_sub hbit) (Nat.pos_iff_ne_zero.mp (Nat.two_pow_pos g))
              refine s_hasSet (X := X) (κ := κ) (b := b) F hg hn6 (by omega) (by omega) hsX (fun h P hh hP => by rw [r1 94 _ (by omega), c1 94 _ (by omega)]; exact p1 h P hh hP) (ok0 g hg) (fun Y hY => ?_) (fun r hr => ⟨rfl, put r ?_⟩)
              · have := mSub_le hY
                rw [r1 99 _ (by omega)]; exact c2 _ Y (by omega) (mSub_trans hY hsX)
              · have st := Cv_step (ok := okK κ b) (H := inH n (mDiff G (2 ^ g))) (H' := inH n G) (X := s) (h := g) (by omega) (fun j => by
                  unfold inH
                  rw [mDiff_bit, Nat.testBit_two_pow]
                  by_cases e : j = g
                  · subst e; simp [hg, hbit]
                  · have : ¬ g = j := fun q => e q.symm
                    simp [e, this]) (fun q => by
                  have := q.2
                  rw [mDiff_bit, Nat.testBit_two_pow] at this
                  simp at this)
                rcases hr with ⟨q1, q2⟩ | ⟨q1, q2⟩
                · rw [hvB_iff.mpr (st.mpr q2), q1]; rfl
                · have : hvB κ b n G s = false := by
                    cases hc : hvB κ b n G s
                    · rfl
                    · exact absurd (st.mp (hvB_iff.mp hc)) q2
                  rw [this, q1]; rfl
          · have hG0 : G = 0 := by omega
            subst hG0
            have hno : ∀ j, ¬ inH n 0 j := fun j q => by have := q.2; rw [Nat.zero_testBit] at this; cases this
            refine ⟨fun z3 => put 0 ?_, fun z3 => put 1 ?_⟩
            · have : hvB κ b n 0 s = false := by
                cases hc : hvB κ b n 0 s
                · rfl
                · obtain ⟨w, hw⟩ := hvB_iff.mp hc
                  obtain ⟨j, hj⟩ := exists_bit (show s ≠ 0 by omega)
                  exact absurd (hw.1 j hj) (hno _)
              rw [this]; rfl
            · have : s = 0 := by omega
              subst this
              rw [hvB_iff.mpr (Cv_zero (fun h hh => absurd hh (hno h)))]; rfl
      -- the highest house of the crowd
      have high : ∀ m : Nat, m ≤ n → (∀ j, m ≤ j → G.testBit j = false) → K_X11_laysCrowds_32 (d + 102) 0 0 X G ((m : Int) - 1) S C2 Q := by
        intro m
        induction m with
        | zero =>
          intro hm hj
          have : G = 0 := Nat.eq_of_testBit_eq fun j => by rw [hj j (Nat.zero_le j), Nat.zero_testBit]
          exact b_X11_laysCrowds_32 F ⟨fun _ => sets _ (Or.inl this), fun z => absurd (by decide) z⟩
        | succ m ihm =>
          intro hm hj
          rw [show ((m + 1 : Nat) : Int) - 1 = m by omega]
          refine b_X11_laysCrowds_32 F ⟨fun z => sets _ ?_, fun z => s_isIn F fun r hr => ⟨rfl, fun y => sets _ (Or.inr ⟨m, rfl, by omega, (isin_iff (by omega) (by omega)).mp (by omega)⟩), fun y => ?_⟩⟩
          · have hm0 : m = 0 := by omega
            subst hm0
            cases hb0 : G.testBit 0
            · left
              refine Nat.eq_of_testBit_eq fun j => ?_
              rw [Nat.zero_testBit]
              by_cases e : j = 0
              · rw [e]; exact hb0
              · exact hj j (by omega)
            · exact Or.inr ⟨0, rfl, by omega, hb0⟩
          · rw [show w32 ((m : Int) + (-1)) = (m : Int) - 1 by rw [w32_lit (by omega)]; omega]
            refine ihm (by omega) (fun j hjm => ?_)
            by_cases e : j = m
            · cases hb0 : G.testBit m
              · rw [e]; exact hb0
              · have := (isin_iff (show G < 256 by omega) (show m < 9 by omega)).mpr hb0
                omega
            · exact hj j (by omega)
      refine high n (Nat.le_refl n) (fun j hj => ?_)
      cases hb0 : G.testBit j
      · rfl
      · have h1 : 2 ^ j ≤ G := mSub_le (pow_sub hb0)
        have h2 : 2 ^ n ≤ 2 ^ j := Nat.pow_le_pow_right (n := 2) (by decide) hj
        omega
theorem q_run {d : Nat} {l1 l2 : Int} {S : MS} {C : MC} {P : Int → Int → MS → MC → Prop} (hAC : AskCls) (hAM : AskMod) (I : Inv S C) (k : PS S P) : K_X10_run_0 (d + 105) 0 0 l1 l2 S C (fun r S2 C2 => Fix S2 ∧ S2.2.2.2.2 = S.2.2.2.2 ∧ K_X11_run_0 (d + 105) 0 0 l1 l2 S2 C2 (fun r2 Sq C3 => Sq = S2 ∧ P r r2 S2 C3)) := by
  have F := I.1
  obtain ⟨n, hn⟩ : ∃ n : Nat, C 83 45 = n := ⟨(C 83 45).toNat, by have := I.2.1.1.2.1; omega⟩
  have hK := KOk_of I.2.1
  have hn6 : n ≤ 6 := by have := hK.1; omega
  have hp64 : 2 ^ n ≤ 64 := Nat.pow_le_pow_right (n := 2) (by decide) hn6
  have hp0 := Nat.two_pow_pos n
  have h10 : C 1 0 = n := by rw [I.2.1.1.1]; exact hn
  have hsp := SpC_of hAC isSt1 I.2.1 hn
  have bad : ¬ ((0 ≤ l1 ∧ l1 < (2 ^ n : Nat)) ∧ 0 ≤ l2 ∧ l2 ≤ 1) → Fix S ∧ S.2.2.2.2 = S.2.2.2.2 ∧ K_X11_run_0 (d + 105) 0 0 l1 l2 S C (fun r2 Sq C3 => Sq = S ∧ P (-1) r2 S C3) := fun hl => ⟨F, rfl, b_X11_run_0 F (s_many F ⟨rfl, by
    rw [hn, (all_eq hn6).1]
    exact s_lies F fun r hr => ⟨rfl, fun _ => ⟨rfl, k _ _ _ I rfl⟩, fun z => s_lies F fun r2 hr2 => ⟨rfl, fun z2 => by omega, fun _ => ⟨rfl, k _ _ _ I rfl⟩⟩⟩⟩)⟩
  have main : ∀ G : Nat, G < 2 ^ n → ∀ (g m : Nat), m + g = 16 → ∀ (S1 : MS) (C1 : MC), S44 S S1 → Fp plx C C1 → ∀ l3 l4 l5 : Int,
      K_X10_run_39 (d + 105) 0 0 G l2 l3 l4 l5 m S1 C1 (fun r S2 C2 => S44 S S2 ∧ Fp plx C C2 ∧ ∀ (S3 : MS) (C3 : MC) (Q : Qt), Fix S3 → C3 83 = C 83 → (∀ C4, Fp mpx C3 C4 → Q r S3 C4) → K_X11_run_38 (d + 105) 0 0 G l2 l3 l4 l5 m S3 C3 Q) := by
    intro G hG g
    induction g with
    | zero =>
      intro m hm S1 C1 hs hf l3 l4 l5
      exact b_X10_run_39 hs.1 ⟨fun _ => ⟨fun z => ⟨hs, hf, fun S3 C3 Q F3 e3 hQ => b_X11_run_38 F3 ⟨fun _ => ⟨fun _ => hQ C3 Fp_rf, fun y => absurd y z⟩, fun y => by omega⟩⟩, fun z => ⟨hs, hf, fun S3 C3 Q F3 e3 hQ => b_X11_run_38 F3 ⟨fun _ => ⟨fun y => absurd z y, fun _ => hQ C3 Fp_rf⟩, fun y => by omega⟩⟩⟩, fun z => by omega⟩
    | succ g ih =>
      intro m hm S1 C1 hs hf l3 l4 l5
      have e1 : w32 ((m : Int) + 1) = ((m + 1 : Nat) : Int) := w32_succ (by omega)
      have hm16 : m < 16 := by omega
      obtain ⟨x1, x2⟩ := mxK_ok hK hm16
      -- the reference at the same beat
      have mod : ∀ (r : Int) (l3n l4n l5n : Int) (bb : Prop), (bb ↔ Cv (okK (C 83) m) (inH n G) (mxK (C 83) m)) → (¬ bb → (l3 < 0 → l3n = 0 ∧ l4n = w32 (w32 ((m : Int) - 0) + 1) ∧ l5n = 0) ∧ (¬ l3 < 0 → l3n = l3 ∧ l4n = l4 ∧ l5n = 0)) → (bb → (l3 < w32 (l5 + 1) → l3n = w32 (l5 + 1) ∧ l4n = w32 (w32 ((m : Int) - w32 (l5 + 1)) + 1) ∧ l5n = w32 (l5 + 1)) ∧ (¬ l3 < w32 (l5 + 1) → l3n = l3 ∧ l4n = l4 ∧ l5n = w32 (l5 + 1))) → (∀ (S3 : MS) (C3 : MC) (Q : Qt), Fix S3 → C3 83 = C 83 → (∀ C4, Fp mpx C3 C4 → Q r S3 C4) → K_X11_run_38 (d + 105) 0 0 G l2 l3n l4n l5n ((m + 1 : Nat) : Int) S3 C3 Q) → ∀ (S3 : MS) (C3 : MC) (Q : Qt), Fix S3 → C3 83 = C 83 → (∀ C4, Fp mpx C3 C4 → Q r S3 C4) → K_X11_run_38 (d + 105) 0 0 G l2 l3 l4 l5 m S3 C3 Q := by
        intro r l3n l4n l5n bb hbb c1 c2 hnext S3 C3 Q F3 e3 hQ
        refine b_X11_run_38 F3 ⟨fun z => by omega, fun _ => s_laysCrowds (d := d + 2) F3 hAM (by rw [e3]; exact hK) (by rw [e3]; exact hn) hm16 (fun C4 f4 _ h4 => ⟨rfl, s_musicAt F3 (by omega) ⟨rfl, ?_⟩⟩)⟩
        have e4 : C4 83 = C 83 := by rw [← e3]; exact funext fun j => f4 83 j (by unfold mpx asx; omega)
        rw [e3] at h4
        rw [e4, x1, w32_lit (x := 256 * (G : Int)) (by omega), w32_lit (x := 256 * (G : Int) + ((mxK (C 83) m : Nat) : Int)) (by omega), show 256 * (G : Int) + ((mxK (C 83) m : Nat) : Int) = ((256 * G + mxK (C 83) m : Nat) : Int) by omega, h4 G _ hG (mSub_refl _), b01]
        have hn2 := hnext S3 C4 Q F3 e4 (fun C5 f5 => hQ C5 (Fp_tr f4 f5))
        rw [e1]
        refine ⟨by omega, fun z => ?_, fun z => ?_⟩
        · have hb : ¬ bb := fun q => by rw [hvB_iff.mpr (hbb.mp q)] at z; cases z
          refine ⟨fun y => ?_, fun y => ?_⟩
          · obtain ⟨q1, q2, q3⟩ := (c1 hb).1 y
            rw [q1, q2, q3] at hn2; exact hn2
          · obtain ⟨q1, q2, q3⟩ := (c1 hb).2 y
            rw [q1, q2, q3] at hn2; exact hn2
        · have hb : bb := hbb.mpr (hvB_iff.mp (by simpa using z))
          refine ⟨fun y => ?_, fun y => ?_⟩
          · obtain ⟨q1, q2, q3⟩ := (c2 hb).1 y
            rw [q1, q2, q3] at hn2; exact hn2
          · obtain ⟨q1, q2, q3⟩ := (c2 hb).2 y
            rw [q1, q2, q3] at hn2; exact hn2
      refine b_X10_run_39 hs.1 ⟨fun z => by omega, fun _ => s_canHave (d := d + 85) hs.1 (SpC_keep hsp hs hf) hm16 (by omega) (fun r S2 C2 h1 h2 h3 => ⟨h1.1, fun z => ?_, fun z => ?_⟩)⟩
      all_goals
        have hs2 := S44_tr hs h1
        have hf2 := Fp_tr hf h2
        rw [e1]
      · have hno : ¬ Cv (okK (C 83) m) (inH n G) (mxK (C 83) m) := by
          rcases h3 with ⟨q, _⟩ | ⟨_, q⟩
          · omega
          · exact q
        refine ⟨fun y => ?_, fun y => ?_⟩
        · exact (ih (m + 1) (by omega) S2 C2 hs2 hf2 l3 l4 0).mono (fun r S5 C5 hq => ⟨hq.1, hq.2.1, mod r l3 l4 0 _ Iff.rfl (fun _ => ⟨fun q => by omega, fun _ => ⟨rfl, rfl, rfl⟩⟩) (fun q => absurd q hno) hq.2.2⟩)
        · exact (ih (m + 1) (by omega) S2 C2 hs2 hf2 0 _ 0).mono (fun r S5 C5 hq => ⟨hq.1, hq.2.1, mod r 0 _ 0 _ Iff.rfl (fun _ => ⟨fun _ => ⟨rfl, rfl, rfl⟩, fun q => by omega⟩) (fun q => absurd q hno) hq.2.2⟩)
      · have hyes : Cv (okK (C 83) m) (inH n G) (mxK (C 83) m) := by
          rcases h3 with ⟨_, q⟩ | ⟨q, _⟩
          · exact q
          · exact absurd q z
        refine ⟨fun y => ?_, fun y => ?_⟩
        · exact (ih (m + 1) (by omega) S2 C2 hs2 hf2 l3 l4 _).mono (fun r S5 C5 hq => ⟨hq.1, hq.2.1, mod r l3 l4 _ _ Iff.rfl (fun q => absurd hyes q) (fun _ => ⟨fun q => by omega, fun _ => ⟨rfl, rfl, rfl⟩⟩) hq.2.2⟩)
        · exact (ih (m + 1) (by omega) S2 C2 hs2 hf2 _ _ _).mono (fun r S5 C5 hq => ⟨hq.1, hq.2.1, mod r _ _ _ _ Iff.rfl (fun q => absurd hyes q) (fun _ => ⟨fun _ => ⟨rfl, rfl, rfl⟩, fun q => by omega⟩) hq.2.2⟩)
  refine b_X10_run_0 F ?_
  rw [h10, iShl1 n (by omega)]
  refine ⟨fun z => bad (by omega), fun z => ⟨fun z2 => bad (by omega), fun z2 => ⟨fun z3 => bad (by omega), fun z3 => ⟨fun z4 => ?_, fun z4 => bad (by omega)⟩⟩⟩⟩
  obtain ⟨G, rfl⟩ : ∃ G : Nat, l1 = G := ⟨l1.toNat, by omega⟩
  refine (main G (by omega) 16 0 rfl S C (S44_rf F) Fp_rf 0 (-1) 0).mono (fun r S2 C2 hq => ⟨hq.1.1, hq.1.2.2.2.2.1, ?_⟩)
  have e83 := pl83 hq.2.1
  refine b_X11_run_0 hq.1.1 (s_many hq.1.1 ⟨rfl, ?_⟩)
  rw [e83, hn, (all_eq hn6).1]
  refine s_lies hq.1.1 fun r2 hr2 => ⟨rfl, fun y => by omega, fun _ => s_lies hq.1.1 fun r3 hr3 => ⟨rfl, fun _ => ?_, fun y => by omega⟩⟩
  exact hq.2.2 S2 C2 _ hq.1.1 e83 (fun C4 f4 => ⟨rfl, k _ _ _ (Inv_pl I hq.1 hq.2.1 f4) hq.1.2.2.2.2.1⟩)
theorem q_cover {d : Nat} {l : Int} {S : MS} {C : MC} {P : Int → Int → MS → MC → Prop} (hAC : AskCls) (hAM : AskMod) (I : Inv S C) (k : PS S P) : K_X10_cover_0 (d + 105) 0 0 l S C (fun r S2 C2 => Fix S2 ∧ S2.2.2.2.2 = S.2.2.2.2 ∧ K_X11_cover_0 (d + 105) 0 0 l S2 C2 (fun r2 Sq C3 => Sq = S2 ∧ P r r2 S2 C3)) := by
  have F := I.1
  obtain ⟨n, hn⟩ : ∃ n : Nat, C 83 45 = n := ⟨(C 83 45).toNat, by have := I.2.1.1.2.1; omega⟩
  have hK := KOk_of I.2.1
  have hn6 : n ≤ 6 := by have := hK.1; omega
  have hp64 : 2 ^ n ≤ 64 := Nat.pow_le_pow_right (n := 2) (by decide) hn6
  have hp0 := Nat.two_pow_pos n
  have hsp := SpC_of hAC isSt1 I.2.1 hn
  have bad : ¬ (0 ≤ l ∧ l ≤ 1) → Fix S ∧ S.2.2.2.2 = S.2.2.2.2 ∧ K_X11_cover_0 (d + 105) 0 0 l S C (fun r2 Sq C3 => Sq = S ∧ P (-1) r2 S C3) := fun hl => ⟨F, rfl, b_X11_cover_0 F (s_lies F fun r hr => ⟨rfl, fun z => by omega, fun _ => ⟨rfl, k _ _ _ I rfl⟩⟩)⟩
  generalize hg : hadB n (hdK (C 83)) (rcK (C 83)) (mxK (C 83)) (cnK (C 83)) 16 = g at *
  -- the reference
  have mod : ∀ (S3 : MS) (C3 : MC) (Q : Qt), Fix S3 → C3 83 = C 83 → (0 ≤ l ∧ l ≤ 1) → (∀ C4, Fp mpx C3 C4 → Q (if l = 0 ∧ selB g (2 ^ n) ≠ -1 then pc8 (selB g (2 ^ n)) else selB g (2 ^ n)) S3 C4) → K_X11_cover_0 (d + 105) 0 0 l S3 C3 Q := by
    intro S3 C3 Q F3 e3 hl hQ
    have k83 : ∀ C', Fp mpx C3 C' → C' 83 = C 83 := fun C' hf => by rw [← e3]; exact funext fun j => hf 83 j (by unfold mpx asx; omega)
    refine b_X11_cover_0 F3 (s_lies F3 fun r hr => ⟨rfl, fun _ => s_many F3 ⟨rfl, ?_⟩, fun y => by omega⟩)
    rw [e3, hn, iShl1 n (by omega)]
    refine up_ind (α := MC) (P := fun m C' => Fp mpx C3 C' ∧ ∀ G : Nat, G < m → C' 100 G = 1) (K := fun m C' => K_X11_cover_20 (d + 105) 0 0 l ((2 ^ n : Nat) : Int) (m : Int) S3 C' Q) (2 ^ n) ?_ ?_ 0 (Nat.zero_le _) C3 ⟨Fp_rf, fun G hG => absurd hG (Nat.not_lt_zero G)⟩
    · intro C4 ⟨c1, c2⟩
      refine b_X11_cover_20 F3 ⟨fun _ => ?_, fun z => by omega⟩
      refine up_ind (α := MC) (P := fun b C' => Fp mpx C3 C' ∧ ∀ G : Nat, G < 2 ^ n → C' 100 G = if hadB n (hdK (C 83)) (rcK (C 83)) (mxK (C 83)) (cnK (C 83)) b G then 1 else 0) (K := fun b C' => K_X11_cover_40 (d + 105) 0 0 l ((2 ^ n : Nat) : Int) (b : Int) S3 C' Q) 16 ?_ ?_ 0 (by omega) C4 ⟨c1, fun G hG => by rw [c2 G hG, if_pos (hadB_iff.mpr (fun b hb => absurd hb (Nat.not_lt_zero b)))]⟩
      · intro C5 ⟨p1, p2⟩
        rw [hg] at p2
        refine b_X11_cover_40 F3 ⟨fun _ => ?_, fun z => absurd (by decide) z⟩
        refine up_ind (α := Unit) (P := fun _ _ => True) (K := fun m _ => K_X11_cover_119 (d + 105) 0 0 l ((2 ^ n : Nat) : Int) (selB g m) (m : Int) S3 C5 Q) (2 ^ n) ?_ ?_ 0 (Nat.zero_le _) () trivial
        · intro _ _
          have hb := selB_bd g (2 ^ n)
          refine b_X11_cover_119 F3 ⟨fun _ => ⟨fun z => ?_, fun z => ⟨fun y => s_ones F3 (by omega) ⟨rfl, ?_⟩, fun y => ?_⟩⟩, fun z => by omega⟩
          · have := hQ C5 p1
            rw [if_neg (fun q => q.2 z)] at this
            exact this
          · have := hQ C5 p1
            rw [if_pos ⟨by omega, z⟩] at this
            exact this
          · have := hQ C5 p1
            rw [if_neg (fun q => by omega)] at this
            exact this
        · intro m _ hm _ ih
          have ih2 := ih () trivial
          have hb := selB_bd g m
          refine b_X11_cover_119 F3 ⟨fun z => by omega, fun _ => ⟨by omega, fun z => ?_, fun z => ⟨fun z2 => ?_, fun z2 => s_ones F3 (by omega) ⟨rfl, s_ones F3 (by omega) ⟨rfl, fun z3 => ?_, fun z3 => ?_⟩⟩⟩⟩⟩
          · rw [p2 m hm, b01] at z
            have e : selB g (m + 1) = selB g m := if_neg (by rw [z]; simp)
            rw [e] at ih2
            rw [w32_succ (by omega)]
            exact ih2
          · rw [p2 m hm, b01] at z
            have e : selB g (m + 1) = m := if_pos ⟨by simpa using z, Or.inl z2⟩
            rw [e] at ih2
            rw [w32_succ (by omega)]
            exact ih2
          · have e : selB g (m + 1) = selB g m := if_neg (by omega)
            rw [e] at ih2
            rw [w32_succ (by omega)]
            exact ih2
          · rw [p2 m hm, b01] at z
            have e : selB g (m + 1) = m := if_pos ⟨by simpa using z, Or.inr (by omega)⟩
            rw [e] at ih2
            rw [w32_succ (by omega)]
            exact ih2
      · intro b C5 hb ⟨p1, p2⟩ ih
        have e5 := k83 C5 p1
        obtain ⟨x1, x2⟩ := mxK_ok hK hb
        refine b_X11_cover_40 F3 ⟨fun z => by omega, fun _ => s_laysCrowds (d := d + 2) F3 hAM (by rw [e5]; exact hK) (by rw [e5]; exact hn) hb (fun C6 f6 h100 h6 => ⟨rfl, ?_⟩)⟩
        rw [e5] at h6
        refine up_ind (α := MC) (P := fun m C' => Fp (fun x _ => x = 100) C6 C' ∧ ∀ G : Nat, G < 2 ^ n → C' 100 G = if (if G < m then hadB n (hdK (C 83)) (rcK (C 83)) (mxK (C 83)) (cnK (C 83)) (b + 1) G else hadB n (hdK (C 83)) (rcK (C 83)) (mxK (C 83)) (cnK (C 83)) b G) then 1 else 0) (K := fun m C' => K_X11_cover_54 (d + 105) 0 0 l ((2 ^ n : Nat) : Int) (b : Int) (m : Int) S3 C' Q) (2 ^ n) ?_ ?_ 0 (Nat.zero_le _) C6 ⟨Fp_rf, fun G hG => by rw [if_neg (Nat.not_lt_zero G), h100]; exact p2 G hG⟩
        · intro C7 ⟨c3, c4⟩
          refine b_X11_cover_54 F3 ⟨fun _ => ?_, fun z => by omega⟩
          rw [w32_succ (by omega)]
          exact ih C7 ⟨Fp_tr p1 (Fp_tr f6 (Fp_mono c3 (fun a k q => by unfold mpx; omega))), fun G hG => by rw [c4 G hG, if_pos hG]⟩
        · intro m C7 hm ⟨c3, c4⟩ ihm
          have e51 := c4 m hm
          rw [if_neg (Nat.lt_irrefl m)] at e51
          have step : ∀ v : Int, v = (if hadB n (hdK (C 83)) (rcK (C 83)) (mxK (C 83)) (cnK (C 83)) (b + 1) m then 1 else 0) → K_X11_cover_54 (d + 105) 0 0 l ((2 ^ n : Nat) : Int) (b : Int) (w32 ((m : Int) + 1)) S3 (upC C7 100 m v) Q := by
            intro v hv
            rw [w32_succ (by omega)]
            refine ihm _ ⟨Fp_up rfl c3, fun G hG => ?_⟩
            by_cases e : G = m
            · subst e; rw [upC_at, if_pos (Nat.lt_succ_self G)]; exact hv
            · rw [upC_sK (by omega), c4 G hG]
              by_cases e3 : G < m
              · have e4 : G < m + 1 := by omega
                simp only [e3, e4, if_true]
              · have e4 : ¬ G < m + 1 := by omega
                simp only [e3, e4, if_false]
          have e7 : C7 83 = C 83 := by rw [← k83 C6 (Fp_tr p1 f6)]; exact funext fun j => c3 83 j (by omega)
          refine b_X11_cover_54 F3 ⟨fun z => by omega, fun _ => ⟨by omega, fun z => ⟨by omega, ?_⟩, fun z => ?_⟩⟩
          · rw [nZ0]
            refine step 0 ?_
            rw [e51, b01] at z
            have : ¬ hadB n (hdK (C 83)) (rcK (C 83)) (mxK (C 83)) (cnK (C 83)) (b + 1) m = true := fun q => by
              have q3 : hadB n (hdK (C 83)) (rcK (C 83)) (mxK (C 83)) (cnK (C 83)) b m = true := hadB_iff.mpr (fun j hj => hadB_iff.mp q j (show j < b + 1 by omega))
              rw [z] at q3; cases q3
            rw [if_neg this]
          · rw [e51, b01] at z
            have hbm : hadB n (hdK (C 83)) (rcK (C 83)) (mxK (C 83)) (cnK (C 83)) b m = true := by simpa using z
            refine s_musicAt F3 (by omega) ⟨rfl, ?_⟩
            rw [e7, x1, w32_lit (x := 256 * (m : Int)) (by omega), w32_lit (x := 256 * (m : Int) + ((mxK (C 83) b : Nat) : Int)) (by omega), show 256 * (m : Int) + ((mxK (C 83) b : Nat) : Int) = ((256 * m + mxK (C 83) b : Nat) : Int) by omega, c3 99 _ (by omega), h6 m _ hm (mSub_refl _), b01]
            refine ⟨by omega, fun y => ⟨by omega, ?_⟩, fun y => ⟨by omega, ?_⟩⟩
            · rw [nZ0]
              refine step 0 ?_
              have : ¬ hadB n (hdK (C 83)) (rcK (C 83)) (mxK (C 83)) (cnK (C 83)) (b + 1) m = true := fun q => by
                have q3 : Cv (okK (C 83) b) (inH n m) (mxK (C 83) b) := hadB_iff.mp q b (Nat.lt_succ_self b)
                rw [hvB_iff.mpr q3] at y; cases y
              rw [if_neg this]
            · rw [nZ1]
              refine step 1 ?_
              have hy : hvB (C 83) b n m (mxK (C 83) b) = true := by simpa using y
              have : hadB n (hdK (C 83)) (rcK (C 83)) (mxK (C 83)) (cnK (C 83)) (b + 1) m = true := hadB_iff.mpr (fun j hj => by
                by_cases e : j = b
                · subst e; exact hvB_iff.mp hy
                · exact hadB_iff.mp hbm j (by omega))
              rw [if_pos this]
    · intro m C4 hm ⟨c1, c2⟩ ih
      refine b_X11_cover_20 F3 ⟨fun z => by omega, fun _ => ⟨by omega, ?_⟩⟩
      rw [w32_succ (by omega), nZ1]
      refine ih _ ⟨Fp_up (by unfold mpx; omega) c1, fun G hG => ?_⟩
      by_cases e : G = m
      · subst e; rw [upC_at]
      · rw [upC_sK (by omega)]; exact c2 G (by omega)
  have hb := selB_bd g (2 ^ n)
  refine b_X10_cover_0 F ⟨fun z => bad (by omega), fun z => ⟨fun z2 => ?_, fun z2 => bad (by omega)⟩⟩
  refine s_fewestHouses (d := d + 85) F hsp (fun S2 C2 h1 h2 => ⟨h1.1, ?_⟩)
  rw [hg]
  have e83 := pl83 h2
  refine ⟨fun y => ⟨h1.1, h1.2.2.2.2.1, mod S2 C2 _ h1.1 e83 (by omega) (fun C4 f4 => ⟨rfl, ?_⟩)⟩, fun y => ⟨fun y2 => ⟨h1.1, h1.2.2.2.2.1, mod S2 C2 _ h1.1 e83 (by omega) (fun C4 f4 => ⟨rfl, ?_⟩)⟩, fun y2 => s_bitCount h1.1 (by omega) ⟨rfl, h1.1, h1.2.2.2.2.1, mod S2 C2 _ h1.1 e83 (by omega) (fun C4 f4 => ⟨rfl, ?_⟩)⟩⟩⟩
  · rw [if_neg (fun q => y q.1)]
    exact k _ _ _ (Inv_pl I h1 h2 f4) h1.2.2.2.2.1
  · rw [if_neg (fun q => q.2 y2)]
    exact k _ _ _ (Inv_pl I h1 h2 f4) h1.2.2.2.2.1
  · rw [if_pos ⟨y, y2⟩]
    exact k _ _ _ (Inv_pl I h1 h2 f4) h1.2.2.2.2.1
