/-! 49.best: least, compare, best -/
def MinM (n : Nat) (κ : Int → Int) (sh : Int) (r : Int) : Prop :=
  (r = 1000001 ∧ ((∃ b : Nat, b < 16 ∧ shN (κ (8 + (b : Int))) sh = -1) ∨ ∃ b Y : Nat, b < 16 ∧ shN (κ (8 + (b : Int))) sh = Y ∧ Lst (okK κ b) (mdK κ b) 1000001 0 (fun h => h < n) Y 1000001)) ∨
  (r < 1000001 ∧ ∃ (U : Nat → Int) (Y : Nat → Nat), (∀ b : Nat, b < 16 → shN (κ (8 + (b : Int))) sh = Y b ∧ Y b < 256 ∧ Lst (okK κ b) (mdK κ b) 1000001 0 (fun h => h < n) (Y b) (U b) ∧ U b < 1000001) ∧ r = sumR U 16)
theorem Lst_792 {ok : Nat → Nat → Prop} {md : Nat → Nat → Int} {H : Nat → Prop} {X : Nat} {u : Int} (hmd : ∀ h k, 0 ≤ md h k ∧ md h k ≤ 99) (h : Lst ok md 1000001 0 H X u) (hu : u < 1000001) : 0 ≤ u ∧ u ≤ 792 := by
  obtain ⟨a, _, e⟩ := h.2.1 hu
  have := sm_bd (f := fun k => md (a k) k) (X := X) (b := 99) (by decide) (fun k _ => hmd _ k)
  have e2 : wt md X a = sm (fun k => md (a k) k) X := rfl
  omega
theorem s_leastOfAll {d n : Nat} {sh : Int} {S : MS} {C : MC} {Q : Qt} (F : Fix S) (hA : AskMod) (hK : KOk (C 83)) (hn : C 83 45 = n) (hsh : -7 ≤ sh ∧ sh ≤ 7) (hk : ∀ r C', Fp mpx C C' → MinM n (C 83) sh r → Q r S C') : K_X11_leastOfAll_0 (d + 104) 0 0 sh S C Q := by
  generalize hκ : C 83 = κ at hK hn hk
  have k83 : ∀ C', Fp mpx C C' → C' 83 = κ := fun C' hf => by rw [← hκ]; exact funext fun j => hf 83 j (by unfold mpx asx; omega)
  refine b_X11_leastOfAll_0 F ?_
  refine up_ind (α := MC × Int) (P := fun m D => Fp mpx C D.1 ∧ ((D.2 = 1000001 ∧ ((∃ b : Nat, b < 16 ∧ shN (κ (8 + (b : Int))) sh = -1) ∨ ∃ b Y : Nat, b < 16 ∧ shN (κ (8 + (b : Int))) sh = Y ∧ Lst (okK κ b) (mdK κ b) 1000001 0 (fun h => h < n) Y 1000001)) ∨ ((0 ≤ D.2 ∧ D.2 ≤ 792 * m) ∧ ∃ (U : Nat → Int) (Y : Nat → Nat), (∀ b : Nat, b < m → shN (κ (8 + (b : Int))) sh = Y b ∧ Y b < 256 ∧ Lst (okK κ b) (mdK κ b) 1000001 0 (fun h => h < n) (Y b) (U b) ∧ U b < 1000001) ∧ D.2 = sumR U m))) (K := fun m D => K_X11_leastOfAll_4 (d + 104) 0 0 sh D.2 (m : Int) S D.1 Q) 16 ?_ ?_ 0 (by omega) (C, 0) ⟨Fp_rf, Or.inr ⟨by simp, fun _ => 0, fun _ => 0, fun b hb => absurd hb (Nat.not_lt_zero b), rfl⟩⟩
  · intro D ⟨c1, c2⟩
    refine b_X11_leastOfAll_4 F ⟨fun _ => hk _ _ c1 ?_, fun z => absurd (by decide) z⟩
    rcases c2 with ⟨q1, q2⟩ | ⟨q1, U, Y, q2, q3⟩
    · exact Or.inl ⟨q1, q2⟩
    · exact Or.inr ⟨by omega, U, Y, q2, q3⟩
  · intro m D hm ⟨c1, c2⟩ ih
    have e83 := k83 D.1 c1
    have hm8 := hK.2.2.2.1 m (by omega) (by omega)
    refine b_X11_leastOfAll_4 F ⟨fun z => by omega, fun _ => ⟨fun z => hk _ _ c1 ?_, fun z => s_musicAt F (by omega) ⟨rfl, s_shiftedM F (by rw [e83]; exact hm8) hsh ⟨rfl, fun y => ?_, fun y => ?_⟩⟩⟩⟩
    · rcases c2 with ⟨q1, q2⟩ | ⟨q1, U, Y, q2, q3⟩
      · exact Or.inl ⟨q1, q2⟩
      · omega
    · rw [e83] at y ⊢
      have hb := (shN_ok hm8 hsh y).1
      obtain ⟨Z, hZ⟩ : ∃ Z : Nat, shN (κ (8 + (m : Int))) sh = Z := ⟨(shN (κ (8 + (m : Int))) sh).toNat, by omega⟩
      rw [hZ]
      refine s_mindedOf F hA (by rw [e83]; exact hK) (by rw [e83]; exact hn) hm (by omega) (fun C2 v f2 _ _ l2 => ⟨rfl, ?_⟩)
      rw [e83] at l2
      rcases c2 with ⟨q1, q2⟩ | ⟨q1, U, Y, q2, q3⟩
      · omega
      · have hv := Lst_nn2 (fun h k => (mdK_bd κ m h k).1) (by decide) (Int.le_refl 0) l2
        have hv2 := l2.1
        rw [w32_lit (x := D.2 + v) (by omega), w32_succ (by omega)]
        refine s_lesser F ⟨rfl, ?_⟩
        rcases Int.lt_or_le v 1000001 with hlt | hge
        · have hv3 := Lst_792 (fun h k => mdK_bd κ m h k) l2 hlt
          rw [Int.min_eq_right (by omega)]
          refine ih (C2, D.2 + v) ⟨Fp_tr c1 f2, Or.inr ⟨by show 0 ≤ D.2 + v ∧ D.2 + v ≤ 792 * ((m + 1 : Nat) : Int); omega, fun b => if b = m then v else U b, fun b => if b = m then Z else Y b, fun b hb => ?_, ?_⟩⟩
          · by_cases q : b = m
            · subst q
              simp only [if_true]
              exact ⟨hZ, by omega, l2, hlt⟩
            · simp only [if_neg q]
              exact q2 b (by omega)
          · show D.2 + v = sumR (fun b => if b = m then v else U b) m + (if m = m then v else U m)
            rw [if_pos rfl, q3]
            congr 1
            exact sumR_cong m (fun b hb => by rw [if_neg (by omega)])
        · have ev : v = 1000001 := by omega
          rw [Int.min_eq_left (by omega)]
          rw [ev] at l2
          exact ih (C2, 1000001) ⟨Fp_tr c1 f2, Or.inl ⟨rfl, Or.inr ⟨m, Z, hm, hZ, l2⟩⟩⟩
    · rw [e83] at y
      rw [w32_succ (by omega)]
      exact ih (D.1, 1000001) ⟨c1, Or.inl ⟨rfl, Or.inl ⟨m, hm, y⟩⟩⟩
/-- rows that agree but for the music -/
def K24 (κ κ' : Int → Int) : Prop := ∀ i, (0 ≤ i ∧ i < 8) ∨ 24 ≤ i → κ' i = κ i
theorem lawOf_cong {κ κ' : Int → Int} (h : ∀ i, 44 ≤ i → κ' i = κ i) (h48 : -1 ≤ κ 48) : lawOf κ' = lawOf κ := by
  unfold lawOf
  rw [h 48 (by decide)]
  by_cases e : κ 48 = -1
  · rw [if_pos e, if_pos e]
  · rw [if_neg e, if_neg e]
    have : toks κ' (κ 48) = toks κ (κ 48) := by
      unfold toks
      rw [h (49 + κ 48) (by omega)]
      exact List.map_congr_left (fun j _ => by rw [h _ (by omega), h _ (by omega)])
    rw [this]
theorem lawW_cong {κ κ' : Int → Int} (h : K24 κ κ') {b hh k : Nat} (hk : k < 8) : lawW κ' b hh k = lawW κ b hh k := by
  unfold lawW
  rw [h k (by omega), h (25 + (hh : Int)) (by omega), h (31 + (hh : Int)) (by omega), h 24 (by omega), h 44 (by omega)]
theorem cnK_cong {κ κ' : Int → Int} (h : K24 κ κ') (h48 : -1 ≤ κ 48) {b hh k : Nat} (hk : k < 8) : cnK κ' b hh k = cnK κ b hh k := by
  unfold cnK
  rw [lawOf_cong (fun i hi => h i (by omega)) h48, lawW_cong h hk, h k (by omega)]
theorem mdK_cong {κ κ' : Int → Int} (h : K24 κ κ') (h48 : -1 ≤ κ 48) {b hh k : Nat} (hk : k < 8) : mdK κ' b hh k = mdK κ b hh k := by
  unfold mdK
  rw [lawOf_cong (fun i hi => h i (by omega)) h48, lawW_cong h hk]
theorem okP_cong {cn cn' : Nat → Nat → Bool} {hd rc : Nat → Int} {h P : Nat} (hP : P < 256) (hc : ∀ k, k < 8 → cn h k = cn' h k) : okP cn hd rc h P ↔ okP cn' hd rc h P := by
  unfold okP
  constructor
  · rintro ⟨a, b⟩; exact ⟨fun k hk => by rw [← hc k (bit_lt8 hP hk)]; exact a k hk, b⟩
  · rintro ⟨a, b⟩; exact ⟨fun k hk => by rw [hc k (bit_lt8 hP hk)]; exact a k hk, b⟩
theorem Lst_w {ok : Nat → Nat → Prop} {w w' : Nat → Nat → Int} {top off : Int} {H : Nat → Prop} {X : Nat} {v : Int} (hw : ∀ h k, k < 8 → w h k = w' h k) (h : Lst ok w top off H X v) : Lst ok w' top off H X v := by
  have e : ∀ a, wt w X a = wt w' X a := fun a => sm_cong (fun k hk _ => hw _ k hk)
  refine ⟨h.1, fun z => ?_, fun a va => ?_⟩
  · obtain ⟨a, va, q⟩ := h.2.1 z
    exact ⟨a, va, by rw [← e]; exact q⟩
  · rw [← e]; exact h.2.2 a va
theorem MinB_cong {n X : Nat} {hd rc : Nat → Int} {cn cn' : Nat → Nat → Bool} {md md' : Nat → Nat → Int} {v : Int} (hX : X < 256) (hc : ∀ h k, k < 8 → cn h k = cn' h k) (hm : ∀ h k, k < 8 → md h k = md' h k) (h : MinB n hd rc X cn md v) : MinB n hd rc X cn' md' v :=
  Lst_w (fun h k hk => by unfold wC; rw [hm h k hk]) (Lst_ok hX (fun j P _ hP => okP_cong (Nat.lt_of_le_of_lt (mSub_le hP) hX) (fun k hk => hc j k hk)) h)
/-- all beats' least, in both -/
theorem MinA_eq {κ κ' : Int → Int} {n : Nat} {sh r r' : Int} {X : Nat → Nat} (hn : n ≤ 6) (hk : K24 κ κ') (h48 : -1 ≤ κ 48) (hX : ∀ b : Nat, b < 16 → X b < 256 ∧ shN (κ (8 + (b : Int))) sh = X b) (h1 : MinC n (hdK κ') (rcK κ') X (cnK κ') (mdK κ') r) (h2 : MinM n κ sh r') : r = if r' = 1000001 then -1 else r' := by
  have eh : hdK κ' = hdK κ := funext fun h => hk _ (by omega)
  have er : rcK κ' = rcK κ := funext fun h => hk _ (by omega)
  rw [eh, er] at h1
  have hB : ∀ b v, b < 16 → MinB n (hdK κ) (rcK κ) (X b) (cnK κ' b) (mdK κ' b) v → MinB n (hdK κ) (rcK κ) (X b) (cnK κ b) (mdK κ b) v := fun b v hb => MinB_cong (hX b hb).1 (fun h k hk8 => cnK_cong hk h48 hk8) (fun h k hk8 => mdK_cong hk h48 hk8)
  have lex : ∀ b v u, b < 16 → MinB n (hdK κ) (rcK κ) (X b) (cnK κ' b) (mdK κ' b) v → Lst (okK κ b) (mdK κ b) 1000001 0 (fun h => h < n) (X b) u → (v < NV → u < 1000001 ∧ v / 16777216 = u) ∧ (¬ v < NV → u = 1000001) := by
    intro b v u hb q1 q2
    have q1 := hB b v hb q1
    obtain ⟨l1, l2⟩ := Lst_lex hn (fun h k _ => mdK_bd κ b h k) q1 q2
    refine ⟨fun hv => ?_, fun hv => (l2 hv).1⟩
    obtain ⟨hu, a, va, ha, e⟩ := l1 hv
    have r1 := row_bd (a := a) (X := X b) (fun k _ hx => by have : a k < n := va.1 k hx; omega)
    exact ⟨hu, by omega⟩
  have yx : ∀ b Y : Nat, b < 16 → shN (κ (8 + (b : Int))) sh = Y → Y = X b := fun b Y hb q => by
    have := (hX b hb).2
    omega
  rcases h1 with ⟨e1, b, v, hb, m1, m2⟩ | ⟨V, hV, e1⟩
  · rcases h2 with ⟨e2, _⟩ | ⟨e2, U, Y, hU, _⟩
    · rw [e1, e2]; rfl
    · obtain ⟨u1, u2, u3, u4⟩ := hU b hb
      rw [yx b _ hb u1] at u3
      have := (lex b v _ hb m1 u3).2 m2
      omega
  · rcases h2 with ⟨e2, ⟨b, hb, q⟩ | ⟨b, Y, hb, q, l⟩⟩ | ⟨e2, U, Y, hU, e3⟩
    · have := (hX b hb).2
      omega
    · rw [yx b Y hb q] at l
      have := (lex b _ _ hb (hV b hb).1 l).1 (hV b hb).2
      omega
    · rw [if_neg (by omega), e1, e3]
      refine sumR_cong 16 (fun b hb => ?_)
      obtain ⟨u1, u2, u3, u4⟩ := hU b hb
      rw [yx b _ hb u1] at u3
      exact ((lex b _ _ hb (hV b hb).1 u3).1 (hV b hb).2).2
theorem shN0 : ∀ a : Nat, a < 256 → shN (a : Int) 0 = a := by decide +kernel
theorem s_leastM {d n : Nat} {S : MS} {C : MC} {Q : Qt} (F : Fix S) (hA : AskMod) (hK : KOk (C 83)) (hn : C 83 45 = n) (hk : ∀ r C', Fp mpx C C' → MinM n (C 83) 0 r → Q (if r = 1000001 then -1 else r) S C') : K_X11_least_0 (d + 105) 0 0 (-1) S C Q := by
  refine b_X11_least_0 F ⟨fun _ => b_X11_least_14 F ⟨fun z => absurd rfl z, fun _ => s_leastOfAll F hA hK hn (by omega) (fun r C' f m => ⟨rfl, fun z => ?_, fun z => ?_⟩)⟩, fun z => absurd rfl z⟩
  · have := hk r C' f m
    rw [if_neg z] at this
    exact this
  · have := hk r C' f m
    rw [if_pos z] at this
    exact this
theorem K24_rf (κ : Int → Int) : K24 κ κ := fun _ _ => rfl
theorem q_least {d : Nat} {l : Int} {S : MS} {C : MC} {P : Int → Int → MS → MC → Prop} (hAC : AskCls) (hAM : AskMod) (I : Inv S C) (k : PS S P) : K_X10_least_0 (d + 105) 0 0 l S C (fun r S2 C2 => Fix S2 ∧ S2.2.2.2.2 = S.2.2.2.2 ∧ K_X11_least_0 (d + 105) 0 0 l S2 C2 (fun r2 Sq C3 => Sq = S2 ∧ P r r2 S2 C3)) := by
  have F := I.1
  obtain ⟨n, hn⟩ : ∃ n : Nat, C 83 45 = n := ⟨(C 83 45).toNat, by have := I.2.1.1.2.1; omega⟩
  have hK := KOk_of I.2.1
  have hn6 : n ≤ 6 := by have := hK.1; omega
  have hsp := SpC_of hAC isSt1 I.2.1 hn
  refine b_X10_least_0 F ⟨fun z => s_isBeatC F fun r hr => ⟨rfl, fun z2 => ⟨F, rfl, ?_⟩, fun z2 => ?_⟩, fun z => ?_⟩
  · exact b_X11_least_0 F ⟨fun y => absurd y z, fun _ => s_isBeatM F fun r2 hr2 => ⟨rfl, fun y => by omega, fun _ => ⟨rfl, k _ _ _ I rfl⟩⟩⟩
  · obtain ⟨b, rfl⟩ : ∃ b : Nat, l = b := ⟨l.toNat, by omega⟩
    refine s_mindedAt (d := d + 95) F hsp (by omega) (fun v S2 C2 h1 h2 h3 => ⟨h1.1, h1.1, h1.2.2.2.2.1, ?_⟩)
    have e83 := pl83 h2
    refine b_X11_least_0 h1.1 ⟨fun y => absurd y z, fun _ => s_isBeatM h1.1 fun r2 hr2 => ⟨rfl, fun y => b_X11_least_14 h1.1 ⟨fun _ => s_leastAt h1.1 hAM (by rw [e83]; exact hK) (by rw [e83]; exact hn) (by omega) (fun C3 u f3 _ _ l3 => ⟨rfl, fun y2 => ⟨rfl, ?_⟩, fun y2 => ⟨rfl, ?_⟩⟩), fun y => absurd y z⟩, fun y => by omega⟩⟩
    all_goals
      rw [e83] at l3
      have e := Min_eq hn6 h3 l3
    · rw [if_neg y2] at e
      rw [e]; exact k _ _ _ (Inv_pl I h1 h2 f3) h1.2.2.2.2.1
    · rw [if_pos y2] at e
      rw [e]; exact k _ _ _ (Inv_pl I h1 h2 f3) h1.2.2.2.2.1
  · subst z
    refine s_mindedInAll (d := d + 95) F hsp (fun r S2 C2 h1 h2 h3 => ⟨h1.1, h1.1, h1.2.2.2.2.1, ?_⟩)
    have e83 := pl83 h2
    refine s_leastM h1.1 hAM (by rw [e83]; exact hK) (by rw [e83]; exact hn) (fun r2 C3 f3 m3 => ⟨rfl, ?_⟩)
    rw [e83] at m3
    rw [← MinA_eq hn6 (K24_rf _) hK.2.2.2.2.2.2.2.1.1 (fun b hb => by
      obtain ⟨m1, m2⟩ := mxK_ok hK hb
      exact ⟨m2, by rw [m1]; exact shN0 _ m2⟩) h3 m3]
    exact k _ _ _ (Inv_pl I h1 h2 f3) h1.2.2.2.2.1
/-! on paper -/
def ppx (a k : Int) : Prop := (9 ≤ a ∧ a < 17) ∨ plx a k
def PpS (S S' : MS) : Prop := Fix S' ∧ Ss S S'
theorem PpS_cp {S S' : MS} (F' : Fix S') (h : CpS S S' 9 1) : PpS S S' := ⟨F', h.1, h.2.1, h.2.2.1, h.2.2.2.1, fun a k _ h2 _ => h.2.2.2.2.1 a k h2⟩
theorem PpS_tr {S S1 S2 : MS} (h : PpS S S1) (g : PpS S1 S2) : PpS S S2 := ⟨g.1, Ss_tr h.2 g.2⟩
theorem PpS_44 {S S1 : MS} (h : S44 S S1) : PpS S S1 := ⟨h.1, S44_Ss h⟩
theorem ppx_cp {C C' : MC} (h : CpC C C' 9 1) : Fp ppx C C' := fun x k hx => by rw [h.1 x (by unfold ppx at hx; omega)]
theorem RS_pp {S S' : MS} {C C' : MC} {κ : Int → Int} (h : RS S C 1 κ) (hs : PpS S S') (hf : Fp ppx C C') : RS S' C' 1 κ :=
  RS_cong2 (RS_S h (TxK_ss hs.2) (fun i _ _ => hs.2.2.2.2.2 _ i (by omega) (by omega) (by omega))) (fun j x0 x1 => funext fun q => hf _ q (by unfold ppx plx; omega)) (fun b hb => funext fun q => hf b q (by unfold ppx plx; omega)) (fun _ _ => rfl)
theorem ppx_scr : ∀ a k, ppx a k → scr a k := fun a k h => by unfold ppx plx at h; unfold scr; omega
theorem mpx_scr : ∀ a k, mpx a k → scr a k := fun a k h => by unfold mpx asx at h; unfold scr; omega
theorem Inv_pp {S S' : MS} {C C1 C2 : MC} (I : Inv S C) (hs : PpS S S') (h1 : Fp ppx C C1) (h2 : Fp mpx C1 C2) : Inv S' C2 := Inv_sc I hs.1 hs.2 (Fp_tr (Fp_mono h1 ppx_scr) (Fp_mono h2 mpx_scr))
theorem isSt9 : isSt 9 := Or.inr (Or.inl rfl)
theorem pp83 {C C1 : MC} (h : Fp ppx C C1) : C1 83 = C 83 := funext fun j => h 83 j (by unfold ppx plx; omega)
theorem q_compare {d : Nat} {l : Int} {S : MS} {C : MC} {P : Int → Int → MS → MC → Prop} (hAC : AskCls) (hAM : AskMod) (I : Inv S C) (k : PS S P) : K_X10_compare_0 (d + 106) 0 0 l S C (fun r S2 C2 => Fix S2 ∧ S2.2.2.2.2 = S.2.2.2.2 ∧ K_X11_compare_0 (d + 106) 0 0 l S2 C2 (fun r2 Sq C3 => Sq = S2 ∧ P r r2 S2 C3)) := by
  have F := I.1
  obtain ⟨n, hn⟩ : ∃ n : Nat, C 83 45 = n := ⟨(C 83 45).toNat, by have := I.2.1.1.2.1; omega⟩
  have hK := KOk_of I.2.1
  have hn6 : n ≤ 6 := by have := hK.1; omega
  have e47 := I.2.1.2.2.2.2.1.1
  have go : (-1 ≤ l ∧ l < C 83 47) → K_X7_copyFrom_0 (d + 105) 0 0 9 1 S C (fun r1 S3 C2 => Fix S3 ∧ K_X3_mindedInAll_0 (d + 105) 0 0 9 S3 (upC C2 9 9 l) (fun r5 S7 C6 => Fix S7 ∧ (Fix S7 ∧ S7.2.2.2.2 = S.2.2.2.2 ∧ K_X11_compare_0 (d + 106) 0 0 l S7 C6 (fun r2 Sq C3 => Sq = S7 ∧ P r5 r2 S7 C3)))) := by
    intro hl
    refine s_copyFrom F isSt9 isSt1 (by decide) (laws_ok I.2.1) (fun S1 C1 F1 hs hc => ⟨F1, ?_⟩)
    have hr := RS_copy isSt9 I.2.1 hs hc
    have hr2 : RS S1 (upC C1 9 9 l) 9 (updF (C 83) 48 l) := by
      obtain ⟨a1, a2, a3, a4, a5, a6⟩ := hr
      have u : ∀ i, i ≠ 48 → updF (C 83) 48 l i = C 83 i := fun i hi => updF_ne hi
      refine ⟨Ra_cong a1 (upC_sK (by decide)) (upC_ne (by decide)) (upC_ne (by decide)) (fun i hi => u i (by omega)), Rb_cong a2 (upC_ne (by decide)) (fun i hi => u i (by omega)), Rc_cong a3 (upC_ne (by decide)) (fun i hi => u i (by omega)), Rd_cong a4 (upC_sK (by decide)) (upC_ne (by decide)) (fun i hi => u i (by omega)), ?_, Rf_cong a6 (upC_ne (by decide)) (fun i hi => u i (by omega))⟩
      refine ⟨by rw [upC_sK (by decide), u 47 (by decide)]; exact a5.1, by rw [upC_at, updF_at, u 47 (by decide)]; exact ⟨rfl, hl⟩, a5.2.2.1, fun t x0 x1 => ?_⟩
      rw [u 47 (by decide)] at x1
      exact LawRel_cong (a5.2.2.2 t x0 x1) ⟨x0, by have := a5.1; omega⟩ (fun b hb => upC_ne (by omega)) (fun j hj => u j (by unfold lwI at hj; omega))
    have hpp := PpS_cp F1 hs
    have hfp : Fp ppx C (upC C1 9 9 l) := Fp_up (by unfold ppx; omega) (ppx_cp hc)
    have hn' : updF (C 83) 48 l 45 = n := by rw [updF_ne (by decide)]; exact hn
    refine s_mindedInAll (d := d + 96) F1 (SpC_of hAC isSt9 hr2 hn') (fun r S2 C2 h1 h2 h3 => ⟨h1.1, h1.1, by rw [h1.2.2.2.2.1, hs.2.2.2.1], ?_⟩)
    have hpp2 := PpS_tr hpp (PpS_44 h1)
    have hfp2 : Fp ppx C C2 := Fp_tr hfp (Fp_mono h2 (fun _ _ q => Or.inr q))
    have e83 := pp83 hfp2
    have eu : upC C2 83 48 l 83 = updF (C 83) 48 l := funext fun i => by
      rw [upC_get]
      unfold updF
      by_cases q : i = 48
      · rw [if_pos ⟨rfl, q⟩, if_pos q]
      · rw [if_neg (fun z => q z.2), if_neg q, e83]
    have hK2 := KOk_of hr2
    refine b_X11_compare_0 h1.1 (s_isLaw h1.1 (by rw [e83]; exact hK.2.2.2.2.2.2.1) fun r2 hr2 => ⟨rfl, fun z => ?_, fun z => ?_⟩)
    · refine s_leastM h1.1 hAM (by rw [eu]; exact hK2) (by rw [eu]; exact hn') (fun r3 C3 f3 m3 => ⟨rfl, rfl, ?_⟩)
      rw [eu] at m3
      rw [← MinA_eq hn6 (K24_rf _) hK2.2.2.2.2.2.2.2.1.1 (fun b hb => by
        obtain ⟨m1, m2⟩ := mxK_ok hK2 hb
        exact ⟨m2, by rw [m1]; exact shN0 _ m2⟩) h3 m3]
      have hI : Inv S2 (upC C3 83 48 (C2 83 48)) := by
        refine Inv_sc I hpp2.1 hpp2.2 (fun a j hj => ?_)
        rw [upC_get]
        by_cases q : a = 83 ∧ j = 48
        · rw [if_pos q, q.1, q.2, e83]
        · rw [if_neg q, f3 a j (fun z => hj (mpx_scr a j z)), upC_get, if_neg q, hfp2 a j (fun z => hj (ppx_scr a j z))]
      exact k _ _ _ hI hpp2.2.2.2.2.1
    · rw [e83] at hr2
      omega
  have bad : ¬ (-1 ≤ l ∧ l < C 83 47) → Fix S ∧ S.2.2.2.2 = S.2.2.2.2 ∧ K_X11_compare_0 (d + 106) 0 0 l S C (fun r2 Sq C3 => Sq = S ∧ P (-1) r2 S C3) := fun hl => ⟨F, rfl, b_X11_compare_0 F (s_isLaw F hK.2.2.2.2.2.2.1 fun r2 hr2 => ⟨rfl, fun z => by omega, fun _ => ⟨rfl, k _ _ _ I rfl⟩⟩)⟩
  have hf := hK.2.2.2.2.2.2.1
  refine b_X10_compare_0 F ⟨fun z => go (by omega), fun z => s_hasLaw F isSt1 fun r hr => ⟨rfl, fun z2 => go (by omega), fun z2 => bad (by omega)⟩⟩
theorem sumR_le {g : Nat → Int} {c : Int} : ∀ m : Nat, (∀ P, P < m → 0 ≤ g P ∧ g P ≤ c) → 0 ≤ sumR g m ∧ sumR g m ≤ m * c
  | 0, _ => by simp [sumR]
  | m + 1, h => by
    have h1 := sumR_le m (fun P hP => h P (by omega))
    have h2 := h m (by omega)
    have e : ((m + 1 : Nat) : Int) * c = m * c + c := by rw [Int.natCast_add, Int.add_mul]; simp
    rw [e]
    show 0 ≤ sumR g m + g m ∧ sumR g m + g m ≤ _
    omega
theorem MinC_rng {n : Nat} {hd rc : Nat → Int} {X : Nat → Nat} {cn : Nat → Nat → Nat → Bool} {md : Nat → Nat → Nat → Int} {r : Int} (hn : n ≤ 6) (hmd : ∀ b h k, 0 ≤ md b h k ∧ md b h k ≤ 99) (h : MinC n hd rc X cn md r) : r = -1 ∨ (0 ≤ r ∧ r < 1000001) := by
  rcases h with ⟨e, _⟩ | ⟨V, hV, e⟩
  · exact Or.inl e
  · right
    have := sumR_le (g := fun b => V b / 16777216) (c := 792) 16 (fun b hb => by
      obtain ⟨a, _, e1, e2, e3⟩ := Lst_v hn (hmd b) (hV b hb).1 (hV b hb).2
      show 0 ≤ V b / 16777216 ∧ V b / 16777216 ≤ 792
      omega)
    omega
theorem s_ifShifted {d n : Nat} {sh : Int} {S : MS} {C : MC} {κ : Int → Int} {Q : Qt} (hAC : AskCls) (F : Fix S) (hR : RS S C 1 κ) (hn : κ 45 = n) (hsh : -7 ≤ sh ∧ sh ≤ 7) (hk : ∀ r S' C', PpS S S' → Fp ppx C C' → (r = -1 ∨ 0 ≤ r ∧ r < 1000001) → (∀ r', MinM n κ sh r' → r = if r' = 1000001 then -1 else r') → Q r S' C') : K_X10_mindedIfShifted_0 (d + 10) 0 0 sh S C Q := by
  have hK := KOk_of hR
  have hn6 : n ≤ 6 := by have := hK.1; omega
  refine b_X10_mindedIfShifted_0 F (s_canShift F isSt1 hsh fun r hr => ⟨rfl, fun z => ?_, fun z => ?_⟩)
  · have hc : ∀ b : Int, 0 ≤ b → b < 16 → shN (κ (8 + b)) sh ≠ -1 := by
      rcases hr with ⟨_, q⟩ | ⟨q, _⟩
      · intro b x0 x1
        have := q b x0 x1
        rwa [(hR.2.2.1 b x0 x1).1] at this
      · omega
    refine s_copyFrom F isSt9 isSt1 (by decide) (laws_ok hR) (fun S1 C1 F1 hs hcp => ⟨F1, ?_⟩)
    have hr1 := RS_copy isSt9 hR hs hcp
    refine s_shiftBy F1 isSt9 hsh (fun C2 f2 g2 => ⟨rfl, ?_⟩)
    have bd : ∀ b : Int, 0 ≤ b → b < 16 → 0 ≤ shN (κ (8 + b)) sh ∧ shN (κ (8 + b)) sh ≤ 255 := fun b x0 x1 => (shN_ok (hK.2.2.2.1 b x0 x1) hsh (hc b x0 x1)).1
    have hr2 : RS S1 C2 9 (shW κ sh) := by
      obtain ⟨a1, a2, a3, a4, a5, a6⟩ := hr1
      have u : ∀ i, i < 8 ∨ 24 ≤ i → shW κ sh i = κ i := fun i hi => by unfold shW; rw [if_neg (by omega)]
      have row : ∀ x, x ≠ 9 + 4 → C2 x = C1 x := fun x hx => funext fun q => f2 x q hx
      refine ⟨Ra_cong a1 (by rw [row _ (by decide)]) (row _ (by decide)) (row _ (by decide)) (fun i hi => u i (by omega)), Rb_cong a2 (row _ (by decide)) (fun i hi => u i (by omega)), fun b x0 x1 => ?_, Rd_cong a4 (by rw [row _ (by decide)]) (row _ (by decide)) (fun i hi => u i (by omega)), Re_cong a5 (by rw [row _ (by decide)]) (by rw [row _ (by decide)]) (fun b hb => row b (by omega)) (fun i hi => u i (by unfold lwI at hi; omega)), Rf_cong a6 (row _ (by decide)) (fun i hi => u i (by omega))⟩
      have e : shW κ sh (8 + b) = shN (κ (8 + b)) sh := by unfold shW; rw [if_pos (by omega)]
      rw [e, g2 b x0 x1, (a3 b x0 x1).1]
      exact ⟨rfl, bd b x0 x1⟩
    have hpp := PpS_cp F1 hs
    have hfp : Fp ppx C C2 := Fp_tr (ppx_cp hcp) (Fp_mono f2 (fun a k q => by unfold ppx; omega))
    have hn' : shW κ sh 45 = n := by unfold shW; rw [if_neg (by omega)]; exact hn
    refine s_mindedInAll (d := d) F1 (SpC_of hAC isSt9 hr2 hn') (fun r2 S2 C3 h1 h2 h3 => ⟨h1.1, hk r2 S2 C3 (PpS_tr hpp (PpS_44 h1)) (Fp_tr hfp (Fp_mono h2 (fun _ _ q => Or.inr q))) (MinC_rng hn6 (fun b h k => mdK_bd _ b h k) h3) (fun r' hm => ?_)⟩)
    have hK2 := KOk_of hr2
    refine MinA_eq hn6 (κ' := shW κ sh) (fun i hi => by unfold shW; rw [if_neg (by omega)]) hK.2.2.2.2.2.2.2.1.1 (fun b hb => ?_) h3 hm
    obtain ⟨m1, m2⟩ := mxK_ok hK2 hb
    refine ⟨m2, ?_⟩
    have e : shW κ sh (8 + (b : Int)) = shN (κ (8 + (b : Int))) sh := by unfold shW; rw [if_pos (by omega)]
    rw [← e]; exact m1
  · refine hk (-1) S C ⟨F, Ss_rf S⟩ Fp_rf (Or.inl rfl) (fun r' hm => ?_)
    rcases hm with ⟨e, _⟩ | ⟨e, U, Y, hU, _⟩
    · rw [e]; rfl
    · exfalso
      rcases hr with ⟨q, _⟩ | ⟨_, q⟩
      · omega
      · apply q
        intro b x0 x1
        have := (hU b.toNat (by omega)).1
        rw [Int.toNat_of_nonneg x0] at this
        rw [(hR.2.2.1 b x0 x1).1, this]
        omega
theorem sumR_nn {g : Nat → Int} : ∀ m, (∀ P, P < m → 0 ≤ g P) → 0 ≤ sumR g m
  | 0, _ => Int.le_refl _
  | m + 1, h => by
    have := sumR_nn m (fun P hP => h P (by omega))
    have := h m (by omega)
    show 0 ≤ sumR g m + g m
    omega
theorem MinM_rng {n : Nat} {κ : Int → Int} {sh r : Int} (h : MinM n κ sh r) : r = 1000001 ∨ (0 ≤ r ∧ r < 1000001) := by
  rcases h with ⟨e, _⟩ | ⟨e, U, Y, hU, e2⟩
  · exact Or.inl e
  · right
    refine ⟨?_, e⟩
    rw [e2]
    exact sumR_nn 16 (fun b hb => (Lst_792 (fun h k => mdK_bd κ b h k) (hU b hb).2.2.1 (hU b hb).2.2.2).1)
theorem q_best {d : Nat} {l : Int} {S : MS} {C : MC} {P : Int → Int → MS → MC → Prop} (hAC : AskCls) (hAM : AskMod) (I : Inv S C) (k : PS S P) : K_X10_best_0 (d + 106) 0 0 l S C (fun r S2 C2 => Fix S2 ∧ S2.2.2.2.2 = S.2.2.2.2 ∧ K_X11_best_0 (d + 106) 0 0 l S2 C2 (fun r2 Sq C3 => Sq = S2 ∧ P r r2 S2 C3)) := by
  have F := I.1
  obtain ⟨n, hn⟩ : ∃ n : Nat, C 83 45 = n := ⟨(C 83 45).toNat, by have := I.2.1.1.2.1; omega⟩
  have hK := KOk_of I.2.1
  have bad : ¬ (0 ≤ l ∧ l ≤ 1) → Fix S ∧ S.2.2.2.2 = S.2.2.2.2 ∧ K_X11_best_0 (d + 106) 0 0 l S C (fun r2 Sq C3 => Sq = S ∧ P (-100) r2 S C3) := fun hl => ⟨F, rfl, b_X11_best_0 F (s_lies F fun r hr => ⟨rfl, fun z => by omega, fun _ => ⟨rfl, k _ _ _ I rfl⟩⟩)⟩
  have main : ∀ (g : Nat) (m : Int), m + g = 8 → -7 ≤ m → ∀ (S1 : MS) (C1 : MC), PpS S S1 → Fp ppx C C1 → ∀ l2 l3 l3' : Int, ((l2 = -100 ∧ l3 = -100 ∧ l3' = 1000001) ∨ (l2 ≠ -100 ∧ l3 = l3' ∧ 0 ≤ l3 ∧ l3 < 1000001)) →
      K_X10_best_22 (d + 106) 0 0 l l2 l3 m S1 C1 (fun r S2 C2 => PpS S S2 ∧ Fp ppx C C2 ∧ ∀ (S3 : MS) (C3 : MC) (Q : Qt), Fix S3 → C3 83 = C 83 → (∀ C4, Fp mpx C3 C4 → Q r S3 C4) → K_X11_best_23 (d + 106) 0 0 l l2 l3' m S3 C3 Q) := by
    intro g
    induction g with
    | zero =>
      intro m hm hm7 S1 C1 hs hf l2 l3 l3' hl
      refine b_X10_best_22 hs.1 ⟨fun _ => ⟨fun z => ⟨hs, hf, fun S3 C3 Q F3 e3 hQ => b_X11_best_23 F3 ⟨fun _ => ⟨fun y => ?_, fun y => ⟨fun _ => ?_, fun y2 => absurd y2 z⟩⟩, fun y => by omega⟩⟩, fun z => ⟨hs, hf, fun S3 C3 Q F3 e3 hQ => b_X11_best_23 F3 ⟨fun _ => ⟨fun y => hQ C3 Fp_rf, fun y => ⟨fun y2 => absurd z y2, fun _ => hQ C3 Fp_rf⟩⟩, fun y => by omega⟩⟩⟩, fun z => by omega⟩
      · rcases hl with ⟨q1, q2, _⟩ | ⟨q1, _⟩
        · rw [q1, ← q2]; exact hQ C3 Fp_rf
        · exact absurd y q1
      · rcases hl with ⟨q1, _⟩ | ⟨_, q2, _⟩
        · exact absurd q1 y
        · rw [← q2]; exact hQ C3 Fp_rf
    | succ g ih =>
      intro m hm hm7 S1 C1 hs hf l2 l3 l3' hl
      have hR := RS_pp I.2.1 hs hf
      have e1 : w32 (m + 1) = m + 1 := w32_lit (by omega)
      have hl3 : l3' ≤ 1000001 := by omega
      -- the reference at the same shift
      have mod : ∀ r rr l2n l3n : Int, (∀ r', MinM n (C 83) m r' → rr = if r' = 1000001 then -1 else r') → (rr = -1 → l2n = l2 ∧ l3n = l3') → (rr ≠ -1 → rr < l3' → l2n = m ∧ l3n = rr) → (rr ≠ -1 → ¬ rr < l3' → l2n = l2 ∧ l3n = l3') → (∀ (S3 : MS) (C3 : MC) (Q : Qt), Fix S3 → C3 83 = C 83 → (∀ C4, Fp mpx C3 C4 → Q r S3 C4) → K_X11_best_23 (d + 106) 0 0 l l2n l3n (m + 1) S3 C3 Q) → ∀ (S3 : MS) (C3 : MC) (Q : Qt), Fix S3 → C3 83 = C 83 → (∀ C4, Fp mpx C3 C4 → Q r S3 C4) → K_X11_best_23 (d + 106) 0 0 l l2 l3' m S3 C3 Q := by
        intro r rr l2n l3n hrr c1 c2 c3 hnext S3 C3 Q F3 e3 hQ
        refine b_X11_best_23 F3 ⟨fun z => by omega, fun _ => s_leastOfAll (d := d + 1) F3 hAM (by rw [e3]; exact hK) (by rw [e3]; exact hn) (by omega) (fun r' C4 f4 m4 => ⟨rfl, fun z => ?_, fun z => ?_⟩)⟩
        all_goals
          rw [e3] at m4
          have e4 : C4 83 = C 83 := by rw [← e3]; exact funext fun j => f4 83 j (by unfold mpx asx; omega)
          have hr1 := hrr r' m4
          have hr2 := MinM_rng m4
          have hn2 := hnext S3 C4 Q F3 e4 (fun C5 f5 => hQ C5 (Fp_tr f4 f5))
          rw [e1]
        · rw [if_neg (by omega)] at hr1
          obtain ⟨q1, q2⟩ := c2 (by omega) (by omega)
          rw [q1, q2, hr1] at hn2
          exact hn2
        · by_cases hf : r' = 1000001
          · rw [if_pos hf] at hr1
            obtain ⟨q1, q2⟩ := c1 hr1
            rw [q1, q2] at hn2
            exact hn2
          · rw [if_neg hf] at hr1
            obtain ⟨q1, q2⟩ := c3 (by omega) (by omega)
            rw [q1, q2] at hn2
            exact hn2
      refine b_X10_best_22 hs.1 ⟨fun z => by omega, fun _ => s_ifShifted (d := d + 95) hAC hs.1 hR hn (by omega) (fun rr S2 C2 h1 h2 h0 h3 => ⟨h1.1, fun z => ?_, fun z => ⟨fun z2 => ?_, fun z2 => ⟨fun z3 => ?_, fun z3 => ?_⟩⟩⟩)⟩
      all_goals
        have hs2 := PpS_tr hs h1
        have hf2 := Fp_tr hf h2
        rw [e1]
      · exact (ih (m + 1) (by omega) (by omega) S2 C2 hs2 hf2 l2 l3 l3' hl).mono (fun r S5 C5 hq => ⟨hq.1, hq.2.1, mod r rr l2 l3' h3 (fun _ => ⟨rfl, rfl⟩) (fun y => absurd z y) (fun y => absurd z y) hq.2.2⟩)
      · exact (ih (m + 1) (by omega) (by omega) S2 C2 hs2 hf2 m rr rr (Or.inr ⟨by omega, rfl, by omega, by omega⟩)).mono (fun r S5 C5 hq => ⟨hq.1, hq.2.1, mod r rr m rr h3 (fun y => absurd y z) (fun _ _ => ⟨rfl, rfl⟩) (fun _ y => by omega) hq.2.2⟩)
      · exact (ih (m + 1) (by omega) (by omega) S2 C2 hs2 hf2 l2 l3 l3' hl).mono (fun r S5 C5 hq => ⟨hq.1, hq.2.1, mod r rr l2 l3' h3 (fun y => absurd y z) (fun _ y => by omega) (fun _ _ => ⟨rfl, rfl⟩) hq.2.2⟩)
      · exact (ih (m + 1) (by omega) (by omega) S2 C2 hs2 hf2 m rr rr (Or.inr ⟨by omega, rfl, by omega, by omega⟩)).mono (fun r S5 C5 hq => ⟨hq.1, hq.2.1, mod r rr m rr h3 (fun y => absurd y z) (fun _ _ => ⟨rfl, rfl⟩) (fun _ y => by omega) hq.2.2⟩)
  refine b_X10_best_0 F ⟨fun z => bad (by omega), fun z => ⟨fun z2 => ?_, fun z2 => bad (by omega)⟩⟩
  refine (main 15 (-7) (by omega) (by omega) S C ⟨F, Ss_rf S⟩ Fp_rf (-100) (-100) 1000001 (Or.inl ⟨rfl, rfl, rfl⟩)).mono (fun r S2 C2 hq => ⟨hq.1.1, hq.1.2.2.2.2.1, ?_⟩)
  refine b_X11_best_0 hq.1.1 (s_lies hq.1.1 fun r2 hr2 => ⟨rfl, fun _ => hq.2.2 S2 C2 _ hq.1.1 (pp83 hq.2.1) (fun C4 f4 => ⟨rfl, k _ _ _ (Inv_pp I hq.1 hq.2.1 f4) hq.1.2.2.2.2.1⟩), fun y => by omega⟩)
