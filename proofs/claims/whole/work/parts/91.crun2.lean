/-! 91.crun2: the class runs all orders -/
def hrow (a : Int) : Prop := a = 1 ∨ a = 4 ∨ a = 5 ∨ a = 8 ∨ a = 55 ∨ a = 56 ∨ a = 57 ∨ a = 58
theorem HsC_row {C C' : MC} {n : Nat} {W : Nat → Int → Int} (h : HsC C n W) (e : ∀ a, hrow a → C' a = C a) : HsC C' n W := by
  unfold HsC StC at h ⊢
  rw [e 55 (by unfold hrow; decide), e 4 (by unfold hrow; decide), e 5 (by unfold hrow; decide), e 8 (by unfold hrow; decide), e 56 (by unfold hrow; decide), e 57 (by unfold hrow; decide), e 58 (by unfold hrow; decide), e 1 (by unfold hrow; decide)]
  exact h
def CRun (S0 : MS) (C0 : MC) (n0 : Nat) (W0 : Nat → Int → Int) (kd0 : Nat → Int) (x : RX) (S : MS) (C : MC) : Prop := S44 S0 S ∧ Fp crn C0 C ∧ HsC C x.1 x.2.1 ∧ (∀ j : Nat, j < x.1 → C 56 j = x.2.2.1 j) ∧ C 59 2 = ((x.1 - n0 : Nat) : Int) ∧ C 59 3 = x.2.2.2 ∧ n0 ≤ x.1 ∧ (∀ j, j ≤ n0 → x.2.1 j = W0 j) ∧ ∀ j, j < n0 → x.2.2.1 j = kd0 j
theorem ktI_kp {κ w : Int → Int} {i : Int} (h : i < 0 ∨ 25 ≤ i) : kpW κ w i = κ i := by unfold kpW; rw [if_neg (by omega)]
theorem kp_lo {κ w : Int → Int} {i : Int} (h : 0 ≤ i ∧ i < 25) : kpW κ w i = w i := by unfold kpW; rw [if_pos h]
theorem RS_run {S0 S : MS} {C0 C : MC} {κ w : Int → Int} (h : RS S0 C0 1 κ) (hS : S44 S0 S) (f : Fp crn C0 C) (hs : StC C w) (hw : UOk (C0 1 0) w) : RS S C 1 (kpW κ w) := by
  obtain ⟨a1, a2, a3, a4, a5, a6⟩ := RS_S h (TxK_44 hS) (fun i _ _ => hS.2.2.2.2.2 _ i (by decide))
  have r : ∀ a, (∀ k, ¬ crn a k) → C a = C0 a := fun a ha => fp_row f ha
  have r1 : C 1 = C0 1 := r 1 (fun k => by unfold crn; omega)
  have e45 : κ 45 = C0 1 0 := a1.1.symm
  have kh : ∀ i, 25 ≤ i → kpW κ w i = κ i := fun i hi => ktI_kp (Or.inr hi)
  refine ⟨Ra_cong a1 (by rw [r1]) (r 2 (fun k => by unfold crn; omega)) (r 3 (fun k => by unfold crn; omega)) (fun i hi => kh i (by clear e45 r1; omega)), fun k k0 k1 => ?_, fun b b0 b1 => ?_, Rd_cong a4 (by rw [r1]) (r 6 (fun k => by unfold crn; omega)) (fun i hi => kh i (by clear e45 r1; omega)), Re_cong a5 (by rw [r1]) (by rw [r1]) (fun b hb => r b (fun k => by unfold crn; clear e45 r1; omega)) (fun i hi => kh i (by unfold lwI at hi; clear e45 r1; omega)), ?_⟩
  · rw [kp_lo (by clear e45 r1; omega), kh 45 (by decide), e45]
    exact ⟨hs.1 k k0 k1, (hw.1 k k0 k1)⟩
  · rw [kp_lo (by clear e45 r1; omega)]
    exact ⟨hs.2.1 b b0 b1, hw.2.1 (8 + b) (by clear e45 r1; omega) (by clear e45 r1; omega)⟩
  · have r81 : C 8 1 = C0 8 1 := f 8 1 (by unfold crn; decide)
    have r82 : C 8 2 = C0 8 2 := f 8 2 (by unfold crn; decide)
    refine ⟨?_, ?_, ?_⟩
    · rw [kp_lo (by decide)]
      exact ⟨hs.2.2, hw.2.2⟩
    · rw [kh 43 (by decide)]
      exact ⟨r81.trans a6.2.1.1, a6.2.1.2⟩
    · rw [kh 44 (by decide)]
      exact ⟨r82.trans a6.2.2.1, a6.2.2.2⟩
theorem Agr_wd {w : Int → Int} {dn lt v v' : Int} : Agr (wdO w dn lt v) (wdO w dn lt v') := fun i hi => by
  unfold wdO
  rw [if_neg hi, if_neg hi]
theorem stF_agr {m : Int} {wd wd' : Wd} {c : Cla} {x : RX} (h : Cl3 c) (ha : Agr wd wd') : stF m wd c x = stF m wd' c x := by
  obtain ⟨h1, h2, h3⟩ := h wd wd' ha
  unfold stF holdsC
  rw [h1, h2, h3]
theorem w32_dn {n n0 : Nat} (h : n0 ≤ n) (h2 : n ≤ 256) : w32 (((n - n0 : Nat) : Int) + 1) = ((n + 1 - n0 : Nat) : Int) := by rw [w32_lit (by omega)]; omega
theorem crn_x62 {C C' : MC} (f : Fp x62 C C') : Fp crn C C' := Fp_mono f (fun a k q => by unfold x62 at q; unfold crn; omega)
theorem crn_pl {C C' : MC} (f : Fp plx C C') : Fp crn C C' := Fp_mono f (fun a k q => by unfold plx at q; unfold crn; omega)
theorem crn_sk {C C' : MC} (f : Sk 60 0 C C') : Fp crn C C' := Fp_mono f (fun a k q => by have := q.1; unfold crn; omega)
theorem crn_mk {C C' : MC} {n kind : Int} {w w' : Int → Int} (f : MkC C C' n kind w w') : Fp crn C C' := Fp_mono f.1 (fun a k q => by unfold chF at q; unfold crn; omega)
/-- what a run of orders has around it, in the class -/
def CEnv (S0 : MS) (C0 : MC) (κ : Int → Int) (nn : Nat) (cls : List Cla) (cd : List Int) (cb : List (Cla × Bool)) : Prop := RS S0 C0 1 κ ∧ κ 45 = nn ∧ TxtIs (fun a : Nat => C0 (30 + a)) cls cd ∧ cd.length ≤ 400 ∧ cls.length ≤ 12 ∧ cb.map Prod.fst = cls ∧ ∀ p, p ∈ cb → OrdOk cd 0 p.1 ∧ (p.2 = false → Cl3 p.1) ∧ (p.2 = true → C0 30 2 = 1)
theorem c_25 {d nn n0 j : Nat} {S0 : MS} {C0 : MC} {κ : Int → Int} {cls : List Cla} {cd : List Int} {cb : List (Cla × Bool)} {W0 : Nat → Int → Int} {kd0 : Nat → Int} {p : Cla × Bool} {Q : Qt} (hAC : AskCls) (E : CEnv S0 C0 κ nn cls cd cb) (hp : cb[j]? = some p) (hj : j < 12)
    : ∀ (k : Nat) (x : RX) (S : MS) (C : MC) (l6 : Nat), l6 + k = p.1.1.2.toNat → x.1 + k ≤ 256 → CRun S0 C0 n0 W0 kd0 x S C →
      (∀ y S' C', tmF (nn : Int) κ nn n0 p k x = some y → y.1 ≤ x.1 + k → CRun S0 C0 n0 W0 kd0 y S' C' → K_X6_runAll_13 (d + 30) 0 0 (w32 ((j : Int) + 1)) S' C' Q) → (∀ y S' C', tmF (nn : Int) κ nn n0 p k x = none → y.1 ≤ 256 → CRun S0 C0 n0 W0 kd0 y S' C' → K_X6_takeAllBack_0 (d + 29) 0 0 S' (upC C' 59 4 (j : Int)) (fun _ Sq C6 => Sq = S' ∧ Q (-3) S' C6)) → K_X6_runAll_25 (d + 30) 0 0 (j : Int) (l6 : Int) S C Q := by
  obtain ⟨hRS, hnn, hX, hcd, hcl, hmap, hcb⟩ := E
  obtain ⟨ok, ok3, okd⟩ := hcb p (List.mem_of_getElem? hp)
  have hnn6 : (nn : Int) ≤ 6 := by have := hRS.1.2.1.2; rw [hnn] at this; exact this
  have m0 : C0 1 0 = nn := by rw [hRS.1.1]; exact hnn
  have bj : (0 : Int) ≤ (j : Int) ∧ (j : Int) < 12 := ⟨Int.natCast_nonneg j, Int.ofNat_lt.mpr hj⟩
  have hcj : cls[j]? = some p.1 := by rw [← hmap, List.getElem?_map, hp]; rfl
  have hjl : j < cls.length := (List.getElem?_eq_some_iff.mp hcj).1
  obtain ⟨y1, y2, y3, y4, y5⟩ := hX.2.2.1 j hjl p.1 hcj
  have hcl0 : ClR C0 j p.1 := ⟨y1, y2, y3, y4, y5⟩
  have hcode : ∀ i : Nat, ∀ x, cd[i]? = some x → C0 36 (i : Int) = x := hX.2.2.2
  have keep : ∀ {C : MC}, Fp crn C0 C → ∀ a, 30 ≤ a ∧ a ≤ 36 → C a = C0 a := fun f a ha => fp_row f (fun k q => by unfold crn at q; omega)
  have keep1 : ∀ {C : MC}, Fp crn C0 C → C 1 = C0 1 := fun f => fp_row f (fun k q => by unfold crn at q; omega)
  have clr : ∀ {C : MC}, Fp crn C0 C → ClR C j p.1 := fun f => by
    unfold ClR
    rw [keep f 31 (by decide), keep f 32 (by decide), keep f 33 (by decide), keep f 34 (by decide), keep f 35 (by decide)]
    exact hcl0
  have times : (p.1.1.2.toNat : Int) = p.1.1.2 := Int.toNat_of_nonneg (Int.le_trans (by decide) ok.2.1.1)
  clear y1 y2 y3 y4 y5 hcl0
  intro k
  induction k with
  | zero =>
    intro x S C l6 hl hx cr hok hfl
    have e32 : C 32 (j : Int) = (l6 : Int) := by
      rw [(clr cr.2.1).2.1, ← times, ← hl]; rfl
    refine b_X6_runAll_25 (d := d + 29) cr.1.1 ⟨bj, fun _ => hok x S C rfl (Nat.le_add_right _ _) cr, fun z => absurd (by rw [e32]; exact Int.le_refl _) z⟩
  | succ k ih =>
    intro x S C l6 hl hx cr hok hfl
    have e32 : C 32 (j : Int) = ((l6 + (k + 1) : Nat) : Int) := by
      rw [(clr cr.2.1).2.1, ← times, ← hl]
    have nle : ¬ ((l6 + (k + 1) : Nat) : Int) ≤ (l6 : Int) := by clear e32 hok hfl cr; omega
    have wl : w32 ((l6 : Int) + 1) = ((l6 + 1 : Nat) : Int) := w32_nat1 (by have := ok.2.1.2; clear e32 hok hfl cr nle; omega)
    have hl2 : l6 + 1 + k = p.1.1.2.toNat := by clear e32 hok hfl cr nle wl; omega
    have hx2 : x.1 < 256 := by clear e32 hok hfl cr nle wl; omega
    have hx3 : x.1 + k ≤ 256 := by clear e32 hok hfl cr nle wl; omega
    have hx4 : x.1 + 1 + k ≤ 256 := by clear e32 hok hfl cr nle wl; omega
    have hx5 : x.1 + k ≤ x.1 + (k + 1) := by clear e32 hok hfl cr nle wl; omega
    have hx6 : x.1 + 1 + k ≤ x.1 + (k + 1) := by clear e32 hok hfl cr nle wl; omega
    have hdb : Bd (((x.1 - n0 : Nat) : Int)) := by unfold Bd; clear e32 hok hfl cr nle wl; omega
    refine Wp.wf (fun wf _ => ?_)
    have b62 : Bd (C 62 3) := by have := wf32 wf (a := 62) (by rw [ft_62 cr.1.1]; decide) 3; unfold in32 at this; unfold Bd; exact ⟨this.1, Int.le_of_lt this.2⟩
    have b59 : Bd x.2.2.2 := by rw [← cr.2.2.2.2.2.1]; have := wf32 wf (a := 59) (by rw [ft_59 cr.1.1]; decide) 3; unfold in32 at this; unfold Bd; exact ⟨this.1, Int.le_of_lt this.2⟩
    clear wf
    show K_X6_runAll_25 (d + 30) 0 0 (j : Int) (l6 : Int) S C Q
    unfold tmF at hok hfl
    have crc := cr
    obtain ⟨c1, c2, c3, c4, c5, c6, c7, c8, c9⟩ := cr
    have uok : UOk (C0 1 0) (x.2.1 x.1) := by rw [← keep1 c2]; exact c3.2.2.2 x.1 (Nat.le_refl _)
    -- one time, the words being told
    have once : ∀ (v : Int) (S' : MS) (C' : MC), S44 S0 S' → Fp crn C0 C' → HsC C' x.1 x.2.1 → (∀ j : Nat, j < x.1 → C' 56 j = x.2.2.1 j) → C' 59 2 = ((x.1 - n0 : Nat) : Int) → C' 59 3 = x.2.2.2 → Bd v → (∀ i, 0 ≤ i → i < 29 → C' 62 i = wdO (x.2.1 x.1) ((x.1 - n0 : Nat) : Int) x.2.2.2 v i) → (p.2 = true → v = dvF nn (kpW κ (x.2.1 x.1))) → K_X6_runOnce_0 (d + 29) 0 0 (j : Int) S' C' (fun r Sq C4 => Sq = S' ∧ ((¬ r = 0 → K_X6_runAll_25 (d + 30) 0 0 (j : Int) (w32 ((l6 : Int) + 1)) S' C4 Q) ∧ (r = 0 → K_X6_takeAllBack_0 (d + 29) 0 0 S' (upC C4 59 4 (j : Int)) (fun _ Sq C6 => Sq = S' ∧ Q (-3) S' C6)))) := by
      intro v S' C' s1 f1 h1 h2 h3 h4 bv hv hd
      have eS : stF (nn : Int) (wdR κ nn n0 p.2 x) p.1 x = stF (nn : Int) (wdO (x.2.1 x.1) ((x.1 - n0 : Nat) : Int) x.2.2.2 v) p.1 x := by
        unfold wdR
        cases hb : p.2 with
        | true => rw [hd hb]; rfl
        | false => exact stF_agr (ok3 hb) Agr_wd
      rw [eS] at hok hfl
      rw [wl]
      have stay : ∀ C4, Sk 60 0 C' C4 → CRun S0 C0 n0 W0 kd0 x S' C4 := fun C4 sk => by
        have r : ∀ a, a ≠ 61 → C4 a = C' a := fun a ha => Sk_row sk ha
        refine ⟨s1, Fp_tr f1 (crn_sk sk), HsC_row h1 (fun a ha => r a (fun z => by rw [z] at ha; unfold hrow at ha; omega)), fun j hj => by rw [r 56 (by decide)]; exact h2 j hj, by rw [r 59 (by decide)]; exact h3, by rw [r 59 (by decide)]; exact h4, c7, c8, c9⟩
      refine c_once (cls := cls) (d := d + 25) (m := (nn : Int)) (wd := wdO (x.2.1 x.1) ((x.1 - n0 : Nat) : Int) x.2.2.2 v) s1.1 hnn6 hj (clr f1) (fun i y hy => by rw [keep f1 36 (by decide)]; exact hcode i y hy) hcd ok ?_ (wdO_bd hnn6 (by rw [← m0]; exact uok) hdb b59 bv) h1 (by rw [keep1 f1]; exact m0) hx2 (fun hh C4 sk => ⟨rfl, fun _ => ?_, fun z => absurd z (by decide)⟩) (fun hh hn C4 sk => ⟨rfl, fun z => absurd rfl z, fun _ => ?_⟩) (fun f g t C1 C2 hh hf hg sk hT => ⟨fun ht => ⟨rfl, fun z => absurd rfl z, fun _ => ?_⟩, fun ht mk => ⟨rfl, fun _ => ?_, fun z => absurd z (by decide)⟩⟩)
      · intro i i0 i1
        simp only [if_true] at i1
        rw [fl_62 s1.1]
        exact ⟨i1, hv i i0 i1⟩
      · have e := stF_no (m := (nn : Int)) (x := x) hh
        rw [e] at hok hfl
        exact ih x S' C4 (l6 + 1) hl2 hx3 (stay C4 sk) (fun y S'' C'' ey hy cr' => hok y S'' C'' ey (Nat.le_trans hy hx5) cr') hfl
      · have e := stF_br (m := (nn : Int)) (x := x) hh hn
        rw [e] at hfl
        exact hfl x S' C4 rfl (Nat.le_of_lt hx2) (stay C4 sk)
      · have e := stF_so (x := x) hh hf hg hT
        rw [if_neg (Int.not_le.mpr ht)] at e
        rw [e] at hfl
        exact hfl x S' C1 rfl (Nat.le_of_lt hx2) (stay C1 sk)
      · have e := stF_so (x := x) hh hf hg hT
        rw [if_pos ht] at e
        rw [e] at hok hfl
        have st1 := stay C1 sk
        have m1 : C1 1 0 = nn := by rw [keep1 st1.2.1]; exact m0
        have hst := ch_step (by rw [← m0]; exact uok) hT ht
        have hc2 := HsC_step st1.2.2.1 mk (by rw [m1]; exact hst.2)
        have fm := crn_mk mk
        have x59 : ∀ k : Int, C2 59 k = C1 59 k := fun k => mk.1 59 k (by unfold chF; clear m1 e32 hok hfl; omega)
        generalize hG : upC (if p.1.1.1 = 2 then upC C2 59 3 t else C2) 59 2 (w32 (C2 59 2 + 1)) = G
        have gr : ∀ a, a ≠ 59 → G a = C2 a := fun a ha => by
          rw [← hG, upC_ne ha]
          split
          · rw [upC_ne ha]
          · rfl
        have g2 : G 59 2 = ((x.1 + 1 - n0 : Nat) : Int) := by rw [← hG, upC_at, x59, st1.2.2.2.2.1, w32_dn c7 (Nat.le_of_lt hx2)]
        have g3 : G 59 3 = (if p.1.1.1 = 2 then t else x.2.2.2) := by
          rw [← hG, upC_sK (by decide)]
          by_cases q : p.1.1.1 = 2
          · rw [if_pos q, if_pos q, upC_at]
          · rw [if_neg q, if_neg q, x59]; exact st1.2.2.2.2.2.1
        have fG : Fp crn C2 G := by
          rw [← hG]
          refine Fp_up (by unfold crn; decide) ?_
          split
          · exact Fp_up (by unfold crn; decide) Fp_rf
          · exact Fp_rf
        refine ih (nxR p.1.1.1 f g t x) S' G (l6 + 1) hl2 hx4 ⟨s1, Fp_tr st1.2.1 (Fp_tr fm fG), HsC_row hc2 (fun a ha => gr a (fun z => by rw [z] at ha; unfold hrow at ha; clear m1 e32 hok hfl g2 g3; omega)), fun j2 hj2 => ?_, g2, g3, Nat.le_succ_of_le c7, fun j2 hj2 => ?_, fun j2 hj2 => ?_⟩ (fun y S'' C'' ey hy cr' => hok y S'' C'' ey (Nat.le_trans hy hx6) cr') hfl
        · rw [gr 56 (by decide)]
          show C2 56 (j2 : Int) = (if j2 < x.1 then x.2.2.1 j2 else p.1.1.1)
          by_cases q : j2 < x.1
          · rw [if_pos q, mk.1 56 j2 (by unfold chF; clear m1 e32 hok hfl g2 g3; omega)]
            exact st1.2.2.2.1 j2 q
          · have e2 : j2 = x.1 := Nat.le_antisymm (Nat.le_of_lt_succ hj2) (Nat.le_of_not_lt q)
            rw [if_neg q, e2]
            exact mk.2.2.2.1
        · show sucW x.2.1 x.1 _ j2 = _
          rw [sucW_le (Nat.le_trans hj2 c7)]
          exact c8 j2 hj2
        · show (if j2 < x.1 then x.2.2.1 j2 else p.1.1.1) = _
          rw [if_pos (Nat.lt_of_lt_of_le hj2 c7)]
          exact c9 j2 hj2
    refine b_X6_runAll_25 (d := d + 29) c1.1 ⟨bj, fun z => absurd (by rw [e32] at z; exact z) nle, fun _ => c_tell (d := d + 27) (w := x.2.1 x.1) c1.1 c3.2.1 (by rw [keep1 c2]; exact uok) c5 c6 (fun C2 tw => ⟨rfl, ?_⟩)⟩
    have f2 : Fp crn C0 C2 := Fp_tr c2 (crn_x62 tw.1)
    have r2 : ∀ a, a ≠ 62 → C2 a = C a := fun a ha => fp_row tw.1 (fun k q => ha q)
    have h2 : HsC C2 x.1 x.2.1 := HsC_row c3 (fun a ha => r2 a (fun z => by rw [z] at ha; unfold hrow at ha; clear e32 hok hfl; omega))
    have e302 : C2 30 2 = C0 30 2 := by rw [keep f2 30 (by decide)]
    refine ⟨fun z => once (C 62 3) S C2 c1 f2 h2 (fun j2 hj2 => by rw [r2 56 (by decide)]; exact c4 j2 hj2) (by rw [r2 59 (by decide)]; exact c5) (by rw [r2 59 (by decide)]; exact c6) b62 (Tw_words tw tw.2.1) (fun hb => ?_), fun z => ?_⟩
    · rw [e302, okd hb] at z
      exact absurd z (by decide)
    · have hRS2 := RS_run hRS c1 f2 h2.2.1 uok
      refine s_firstLost (d := d + 9) c1.1 (SpC_of (n := nn) hAC isSt1 hRS2 (by rw [ktI_kp (Or.inr (by decide))]; exact hnn)) (fun r S9 C8 s9 f8 dr => ⟨s9.1, ?_⟩)
      have r8 : ∀ a, a < 40 ∨ 51 < a → C8 a = C2 a := fun a ha => fp_row f8 (fun k q => by unfold plx at q; clear e32 hok hfl e302; omega)
      have edv : dvF nn (kpW κ (x.2.1 x.1)) = r := dvF_eq dr
      have br : Bd r := by
        rcases dr with ⟨e, _⟩ | ⟨b, e, hb, _⟩
        · rw [e]; unfold Bd; decide
        · rw [e]; unfold Bd; clear e32 hok hfl e302; omega
      have u : ∀ a, a ≠ 62 → upC C8 62 3 r a = C8 a := fun a ha => upC_ne ha
      have r9 : ∀ a, hrow a → upC C8 62 3 r a = C2 a := fun a ha => by
        rw [u a (fun z => by rw [z] at ha; unfold hrow at ha; clear e32 hok hfl e302; omega), r8 a (by unfold hrow at ha; clear e32 hok hfl e302; omega)]
      have f9 : Fp crn C0 (upC C8 62 3 r) := Fp_up (by unfold crn; decide) (Fp_tr f2 (crn_pl f8))
      refine once r S9 (upC C8 62 3 r) (S44_tr c1 s9) f9 (HsC_row h2 r9) (fun j2 hj2 => ?_) ?_ ?_ br ?_ (fun _ => edv.symm)
      · rw [r9 56 (by unfold hrow; decide), r2 56 (by decide)]; exact c4 j2 hj2
      · rw [u 59 (by decide), r8 59 (by decide), r2 59 (by decide)]; exact c5
      · rw [u 59 (by decide), r8 59 (by decide), r2 59 (by decide)]; exact c6
      · intro i i0 i1
        by_cases q : i = 3
        · rw [q, upC_at]; rfl
        · rw [upC_sK q, r8 62 (by decide), Tw_words tw tw.2.1 i i0 i1]
          exact Agr_wd i q
