/-! 96.mrun3: the reference runs orders -/
theorem order_head {τ : Tks} {p lv c0 : Nat} {cl : Cla} {q lv' : Nat} {cd : List Int} (e : orderP τ p lv c0 = .inr (cl, q, lv', cd)) (hl : lv ≤ 50) : (tc τ p = 21 ∧ cl.1.1 = 0) ∨ (tc τ p = 23 ∧ cl.1.1 = 1) ∨ (tc τ p = 25 ∧ cl.1.1 = 2) ∨ (tc τ p = 26 ∧ cl.1.1 = 3) := by
  rcases orderP_inv e with ⟨z, e1⟩ | ⟨z, e1⟩ | ⟨z, f, q1, lv1, cd1, cd3, e1, e2, e3⟩ | ⟨z, e1⟩
  · obtain ⟨f, q1, lv1, cd1, g, q2, lv2, cd2, cd3, a1, y, a2, a3, a4⟩ := twoP_inv e1
    obtain ⟨n, k, t, x1, _⟩ := tail_ok a3 ((Gd_sum8 τ true _ _ _ _ _ _ _ a2).2.1.2 ((Gd_sum8 τ true _ _ _ _ _ _ _ a1).2.1.2 hl))
    exact Or.inl ⟨z, by rw [x1]⟩
  · obtain ⟨f, q1, lv1, cd1, g, q2, lv2, cd2, cd3, a1, y, a2, a3, a4⟩ := twoP_inv e1
    obtain ⟨n, k, t, x1, _⟩ := tail_ok a3 ((Gd_sum8 τ true _ _ _ _ _ _ _ a2).2.1.2 ((Gd_sum8 τ true _ _ _ _ _ _ _ a1).2.1.2 hl))
    exact Or.inr (Or.inl ⟨z, by rw [x1]⟩)
  · obtain ⟨n, k, t, x1, _⟩ := tail_ok e2 ((Gd_sum8 τ true _ _ _ _ _ _ _ e1).2.1.2 hl)
    exact Or.inr (Or.inr (Or.inl ⟨z, by rw [x1]⟩))
  · obtain ⟨n, k, t, x1, _⟩ := tail_ok e1 hl
    exact Or.inr (Or.inr (Or.inr ⟨z, by rw [x1]⟩))
theorem HsM_row {C C' : MC} {kd : Int → Int} {n : Nat} {W : Nat → Int → Int} (h : HsM C kd n W) (e1 : C' 83 = C 83) (e2 : C' 81 42 = C 81 42) (e3 : C' 104 = C 104) : HsM C' kd n W := by
  unfold HsM at h ⊢
  rw [e1, e2, e3]
  exact h
theorem MRun_go {C0 C C' : MC} {nn n0 : Nat} {x : RX} (h : MRun C0 nn n0 x C) (f : Fp gox C C') : MRun C0 nn n0 x C' := by
  obtain ⟨a, b, c, e, g⟩ := h
  exact ⟨Fp_tr a (gox_mrn f), HsM_row b (fp_row f (fun k => by unfold gox mgy mpx asx; omega)) (f 81 42 (by unfold gox mgy mpx asx; decide)) (fp_row f (fun k => by unfold gox mgy mpx asx; omega)), by rw [f 81 27 (by unfold gox mgy mpx asx; decide)]; exact c, by rw [f 81 28 (by unfold gox mgy mpx asx; decide)]; exact e, g⟩
theorem row83 {C0 C : MC} {κ : Int → Int} {nn n0 : Nat} {τ : Tks} {x : RX} (ME : MEnv C0 κ nn τ) (mr : MRun C0 nn n0 x C) : ∀ i, ktI i → C 83 i = kpW κ (x.2.1 x.1) i := by
  intro i hi
  by_cases q : 0 ≤ i ∧ i < 25
  · rw [kp_lo q]; exact mr.2.1.1 i q.1 q.2
  · have h25 : 25 ≤ i := by unfold ktI at hi; omega
    rw [ktI_kp (Or.inr h25), mr.1 83 i (by unfold mrn; omega)]
    exact ME.2.2.1 i hi h25
theorem m_live {d nn n0 : Nat} {τ : Tks} {κ : Int → Int} {p l c0 : Nat} {cl : Cla} {q l' : Nat} {cd : List Int} {x : RX} {S : MS} {C0 C : MC} {Q : Qt} (hAM : AskMod) (F : Fix S) (ME : MEnv C0 κ nn τ) (mr : MRun C0 nn n0 x C) (hx : x.1 ≤ 256) (h23 : C 81 23 = 2400 + (τ.length : Int)) (h44 : C 81 44 = 2400 + (p : Int)) (hl : l ≤ 50) (e : orderP τ p l c0 = .inr (cl, q, l', cd)) (he : q = τ.length ∨ tc τ q = 159) (hk : ∀ C', Fp gox C C' → C' 81 23 = 2400 + (τ.length : Int) → GoR 2400 1 q (tc τ p) cl (wdR κ nn n0 (hasB τ p q) x) C' → Q 0 S C') : K_X11_goesAlong_0 (d + 106) 0 0 (2400 + (τ.length : Int)) 1 S C Q := by
  have g1 := (Gd_order τ _ _ _ _ _ _ _ e).1
  have hN := ME.2.2.2.1
  have e45 : C 83 45 = nn := by rw [row83 ME mr 45 (by unfold ktI; omega), ktI_kp (Or.inr (by decide))]; exact ME.2.1
  have tk : ∀ j : Nat, j < τ.length → C 83 (2456 + (j : Int)) = tc τ j := fun j hj => by
    rw [mr.1 83 _ (by unfold mrn; clear h23 h44 e45; omega)]
    exact (ME.2.2.2.2 j hj).1
  refine b_X11_goesAlong_0 (d := d + 105) F ⟨fun z => absurd z (by decide), fun _ => m_hasWord (d := d + 104) F h23 h44 hN tk (Nat.le_of_lt g1.1) g1.2 he (nt_order τ _ _ _ _ _ _ _ e) ⟨rfl, fun z => ?_, fun z => ?_⟩⟩
  · have hb : hasB τ p q = false := by
      cases h : hasB τ p q with
      | false => rfl
      | true => rw [h] at z; exact absurd z (by decide)
    refine m_go (d := d + 54) (s1 := 0) F ME mr hx h44 (Or.inr rfl) hl e (by unfold Bd; decide) (fun C' f' k23 g' => hk C' (Fp_mono f' (fun a k y => Or.inl y)) k23 ?_)
    rw [hb]
    exact g'
  · have hb : hasB τ p q = true := by
      cases h : hasB τ p q with
      | true => rfl
      | false => rw [h] at z; exact absurd rfl z
    have hK := KOk_run (κ' := C 83) ME.1 ME.2.1 mr.2.2.2.2.2.1 (row83 ME mr)
    have hK2 := KOk_run (κ' := kpW κ (x.2.1 x.1)) ME.1 ME.2.1 mr.2.2.2.2.2.1 (fun _ _ => rfl)
    refine s_drillM (d := d + 1) F hAM hK e45 (fun r C1 f1 dr => ⟨rfl, ?_⟩)
    have fg : Fp gox C C1 := Fp_mono f1 (fun a k y => Or.inr y)
    have dr2 : DrR nn (kpW κ (x.2.1 x.1)) r := dr_cong hK hK2 e45 (fun i hi => (row83 ME mr i hi).symm) dr
    have edv := dvF_eq dr2
    have br : Bd r := by
      rcases dr with ⟨y, _⟩ | ⟨b, y, hb2, _⟩
      · rw [y]; unfold Bd; decide
      · rw [y]; unfold Bd; clear h23 h44 e45; omega
    refine m_go (d := d + 54) (s1 := r) F ME (MRun_go mr fg) hx (by rw [fg 81 44 (by unfold gox mgy mpx asx; decide)]; exact h44) (Or.inr rfl) hl e br (fun C' f' k23 g' => hk C' (Fp_tr fg (Fp_mono f' (fun a k y => Or.inl y))) k23 ?_)
    have : wdR κ nn n0 (hasB τ p q) x = wdO (x.2.1 x.1) ((x.1 - n0 : Nat) : Int) x.2.2.2 r := by
      unfold wdR
      rw [hb, if_pos rfl, edv]
    rw [this]
    exact g'
theorem Tld2_bd {m f g t : Int} {w : Int → Int} (hw : UOk m w) (h : Tld m 2 f g w t) (ht : 0 ≤ t) : Bd t := by
  rcases h with ⟨k, _⟩ | ⟨k, _⟩ | ⟨_, h⟩ | ⟨k, _⟩
  · cases k
  · cases k
  · rcases h with ⟨hr, h | h⟩ | h
    · have := ntn_bd (r := fun b => shN (w (8 + b)) f) (fun k k0 k1 => (shN_ok (hw.2.1 (8 + k) (by omega) (by omega)) ⟨hr.1, hr.2.1⟩ (h.1 k k0 k1)).1) 16 (Nat.le_refl _)
      rw [h.2]
      unfold Bd
      omega
    · omega
    · omega
  · cases k
theorem m_19 {d nn n0 : Nat} {τ : Tks} {κ : Int → Int} {p l c0 : Nat} {cl : Cla} {q l' : Nat} {cd : List Int} {bh : Int} {S : MS} {C0 : MC} {Q : Qt} (hAM : AskMod) (F : Fix S) (ME : MEnv C0 κ nn τ) (hl : l ≤ 50) (e : orderP τ p l c0 = .inr (cl, q, l', cd)) (he : q = τ.length ∨ tc τ q = 159) (hok0 : (0 ≤ cl.1.1 ∧ cl.1.1 ≤ 3) ∧ (1 ≤ cl.1.2 ∧ cl.1.2 ≤ 20)) : ∀ (k : Nat) (x : RX) (C : MC) (l4 : Nat), l4 + k = cl.1.2.toNat → x.1 + k ≤ 256 → MRun C0 nn n0 x C → C 81 23 = 2400 + (τ.length : Int) → C 81 44 = 2400 + (p : Int) → (∀ y C', tmF (nn : Int) κ nn n0 (cl, hasB τ p q) k x = some y → y.1 ≤ x.1 + k → MRun C0 nn n0 y C' → C' 81 23 = 2400 + (τ.length : Int) → Q 1 S (upC C' 81 44 bh)) → (∀ C', tmF (nn : Int) κ nn n0 (cl, hasB τ p q) k x = none → Fp mrn C0 C' → Q 0 S C') → K_X11_runs_19 (d + 107) 0 0 (2400 + (τ.length : Int)) cl.1.2 bh (l4 : Int) S C Q := by
  have times : (cl.1.2.toNat : Int) = cl.1.2 := Int.toNat_of_nonneg (Int.le_trans (by decide) hok0.2.1)
  intro k
  induction k with
  | zero =>
    intro x C l4 hk hx mr h23 h44 hok hfl
    have el : cl.1.2 = (l4 : Int) := by rw [← times, ← hk]; rfl
    exact b_X11_runs_19 (d := d + 106) F ⟨fun _ => hok x C rfl (Nat.le_refl _) mr h23, fun z => absurd (by rw [el]; exact Int.le_refl _) z⟩
  | succ k ih =>
    intro x C l4 hk hx mr h23 h44 hok hfl
    have nle : ¬ cl.1.2 ≤ (l4 : Int) := by rw [← times, ← hk]; clear h23 h44 hok hfl ih; omega
    have wl : w32 ((l4 : Int) + 1) = ((l4 + 1 : Nat) : Int) := w32_nat1 (by have := hok0.2.2; clear h23 h44 hok hfl ih nle; omega)
    have hk2 : l4 + 1 + k = cl.1.2.toNat := by clear h23 h44 hok hfl ih nle wl; omega
    have hx1 : x.1 ≤ 256 := by clear h23 h44 hok hfl ih nle wl; omega
    have hx2 : x.1 + k ≤ 256 := by clear h23 h44 hok hfl ih nle wl; omega
    have hx3 : x.1 + 1 + k ≤ 256 := by clear h23 h44 hok hfl ih nle wl; omega
    have hx4 : x.1 + k ≤ x.1 + (k + 1) := by clear h23 h44 hok hfl ih nle wl; omega
    have hx5 : x.1 + 1 + k ≤ x.1 + (k + 1) := by clear h23 h44 hok hfl ih nle wl; omega
    unfold tmF at hok hfl
    refine b_X11_runs_19 (d := d + 106) F ⟨fun z => absurd z nle, fun _ => m_live (d := d) hAM F ME mr hx1 h23 h44 hl e he (fun C2 f2 k23 go => ⟨rfl, ?_⟩)⟩
    obtain ⟨o1, o2, o3, o4⟩ := go
    obtain ⟨o5, o6, o7, o8⟩ := o4 rfl
    have mr2 := MRun_go mr f2
    have k44 : C2 81 44 = 2400 + (p : Int) := by rw [f2 81 44 (by unfold gox mgy mpx asx; decide)]; exact h44
    refine ⟨fun z => ?_, fun z => ?_⟩
    · have hh : holdsC cl (wdR κ nn n0 (hasB τ p q) x) = true := by
        cases h : holdsC cl (wdR κ nn n0 (hasB τ p q) x) with
        | true => rfl
        | false => rw [o5, h] at z; exact absurd rfl z
      refine ⟨fun y => ?_, fun y => ?_⟩
      · have es := stF_br (m := (nn : Int)) (x := x) hh (o6.mp y)
        rw [es] at hfl
        exact hfl C2 rfl mr2.1
      · obtain ⟨f, hf⟩ : ∃ f, cl.2.2.1 (wdR κ nn n0 (hasB τ p q) x) = some f := by
          cases h : cl.2.2.1 (wdR κ nn n0 (hasB τ p q) x) with
          | none => exact absurd (o6.mpr (Or.inl h)) y
          | some f => exact ⟨f, rfl⟩
        obtain ⟨g, hg⟩ : ∃ g, cl.2.2.2.1 (wdR κ nn n0 (hasB τ p q) x) = some g := by
          cases h : cl.2.2.2.1 (wdR κ nn n0 (hasB τ p q) x) with
          | none => exact absurd (o6.mpr (Or.inr h)) y
          | some g => exact ⟨g, rfl⟩
        have e45 : C2 83 45 = nn := by rw [row83 ME mr2 45 (by unfold ktI; omega), ktI_kp (Or.inr (by decide))]; exact ME.2.1
        have hnn6 : (nn : Int) ≤ 6 := by have := ME.1.1.2; rw [ME.2.1] at this; exact this
        have h42 : 0 ≤ C2 81 42 ∧ C2 81 42 ≤ 16 := by rw [mr2.2.1.2.1]; clear h23 h44 hok hfl ih nle wl e45 k44 o1 o2 o3; omega
        refine m_obeys (d := d + 101) (n := x.1) (W := x.2.1) (kind := cl.1.1) (hd := tc τ p) F (by rw [e45]; exact ⟨Int.natCast_nonneg nn, hnn6⟩) e45 mr2.2.2.2.2.2.1 mr2.2.1.1 h42 (order_head e hl) o3 (fun h3 => o7 f hf h3) (fun h01 => o8 g hg h01) (fun t C1 hT => ⟨fun ht fC => ⟨rfl, fun y2 => absurd y2 (Int.not_le.mpr ht), fun _ => ?_⟩, fun ht mk => ⟨rfl, fun _ => ?_, fun y2 => absurd ht y2⟩⟩)
        · have es := stF_so (x := x) hh hf hg hT
          rw [if_neg (Int.not_le.mpr ht)] at es
          rw [es] at hfl
          exact hfl C1 rfl (Fp_tr mr2.1 fC)
        · have es := stF_so (x := x) hh hf hg hT
          rw [if_pos ht] at es
          rw [es] at hok hfl
          rw [wl]
          have hst := ch_step mr2.2.2.2.2.2.1 hT ht
          have hm1 := HsM_step (kd' := fun j => (nxR cl.1.1 f g t x).2.2.1 j.toNat) mr2.2.1 mk (fun j hj => ?_) ?_
          · have c81 : ∀ k : Int, k ≠ 42 → C1 81 k = C2 81 k := fun k hk => mk.1 81 k (by unfold mkF; clear h23 h44 hok hfl ih nle wl e45 k44 o1 o2 o3; omega)
            generalize hG : upC (if cl.1.1 = 2 then upC C1 81 28 t else C1) 81 27 (w32 ((if cl.1.1 = 2 then upC C1 81 28 t else C1) 81 27 + 1)) = G
            have ga : ∀ a, a ≠ 81 → G a = C1 a := fun a ha => by
              rw [← hG, upC_ne ha]
              split
              · rw [upC_ne ha]
              · rfl
            have gk : ∀ k, k ≠ 27 → k ≠ 28 → G 81 k = C1 81 k := fun k h1 h2 => by
              rw [← hG, upC_sK h1]
              split
              · rw [upC_sK h2]
              · rfl
            have g27 : G 81 27 = ((x.1 + 1 - n0 : Nat) : Int) := by
              have h0 : (if cl.1.1 = 2 then upC C1 81 28 t else C1) 81 27 = C1 81 27 := by
                split
                · rw [upC_sK (by decide)]
                · rfl
              rw [← hG, upC_at, h0, c81 27 (by decide), mr2.2.2.1, w32_dn mr2.2.2.2.2.1 hx1]
            have g28 : G 81 28 = (if cl.1.1 = 2 then t else x.2.2.2) := by
              rw [← hG, upC_sK (by decide)]
              by_cases q2 : cl.1.1 = 2
              · rw [if_pos q2, if_pos q2, upC_at]
              · rw [if_neg q2, if_neg q2, c81 28 (by decide)]; exact mr2.2.2.2.1
            have fG : Fp mrn C2 G := by
              rw [← hG]
              refine Fp_up (by unfold mrn; decide) ?_
              split
              · exact Fp_up (by unfold mrn; decide) (mkF_mrn mk.1)
              · exact mkF_mrn mk.1
            refine ih (nxR cl.1.1 f g t x) G (l4 + 1) hk2 hx3 ⟨Fp_tr mr2.1 fG, HsM_row hm1 (ga 83 (by decide)) (gk 42 (by decide) (by decide)) (ga 104 (by decide)), g27, g28, Nat.le_succ_of_le mr2.2.2.2.2.1, ?_, ?_⟩ (by rw [gk 23 (by decide) (by decide), c81 23 (by decide)]; exact k23) (by rw [gk 44 (by decide) (by decide), c81 44 (by decide)]; exact k44) (fun y C' ey hy => hok y C' ey (Nat.le_trans hy hx5)) hfl
            · show UOk nn (sucW x.2.1 x.1 (chW cl.1.1 f g (x.2.1 x.1)) (x.1 + 1))
              rw [sucW_gt]
              exact hst.2
            · show Bd (if cl.1.1 = 2 then t else x.2.2.2)
              by_cases q2 : cl.1.1 = 2
              · rw [if_pos q2]
                rw [q2] at hT
                exact Tld2_bd mr2.2.2.2.2.2.1 hT ht
              · rw [if_neg q2]
                exact mr2.2.2.2.2.2.2
          · show (if (j : Int).toNat < x.1 then x.2.2.1 (j : Int).toNat else cl.1.1) = x.2.2.1 (j : Int).toNat
            rw [Int.toNat_natCast, if_pos hj]
          · show (if (x.1 : Int).toNat < x.1 then x.2.2.1 (x.1 : Int).toNat else cl.1.1) = cl.1.1
            rw [Int.toNat_natCast, if_neg (Nat.lt_irrefl _)]
    · have hh : holdsC cl (wdR κ nn n0 (hasB τ p q) x) = false := by
        cases h : holdsC cl (wdR κ nn n0 (hasB τ p q) x) with
        | false => rfl
        | true => rw [o5, h] at z; exact absurd z (by decide)
      have es := stF_no (m := (nn : Int)) (x := x) hh
      rw [es] at hok hfl
      rw [wl]
      exact ih x C2 (l4 + 1) hk2 hx2 mr2 k23 k44 (fun y C' ey hy => hok y C' ey (Nat.le_trans hy hx4)) hfl
theorem m_95 {d nn n0 : Nat} {τ : Tks} {κ : Int → Int} {l1 : Int} {S : MS} {C0 : MC} {Q : Qt} (hAM : AskMod) (F : Fix S) (ME : MEnv C0 κ nn τ) : ∀ (l : List (Cla × Bool)) (i p : Nat) (x : RX) (C : MC), Prs τ l p → (∀ c, c ∈ l → (0 ≤ c.1.1.1 ∧ c.1.1.1 ≤ 3) ∧ (1 ≤ c.1.1.2 ∧ c.1.1.2 ≤ 20)) → i + l.length ≤ 100 → x.1 + 20 * l.length ≤ 256 → MRun C0 nn n0 x C → C 81 44 = 2400 + (p : Int) → (∀ y C', alF (nn : Int) κ nn n0 l i x = .inr y → MRun C0 nn n0 y C' → Q (C' 81 27) S (upC C' 81 0 0)) → (∀ (j : Nat) C', alF (nn : Int) κ nn n0 l i x = .inl j → Fp mrn C0 C' → K_X11_takesBack_0 (d + 107) 0 0 1 S C' (fun _ Sq C6 => Sq = S ∧ K_X11_orders_122 (d + 108) 0 0 l1 (j : Int) 0 S C6 Q)) → K_X11_orders_95 (d + 108) 0 0 l1 (2400 + (τ.length : Int)) (i : Int) S C Q := by
  intro l
  induction l with
  | nil =>
    intro i p x C hp _ _ hx mr h44 hok hfl
    have hp' : τ.length < p := hp
    have le : 2400 + (τ.length : Int) ≤ 2400 + (p : Int) := by clear h44 hok hfl; omega
    exact b_X11_orders_95 (d := d + 107) F ⟨fun _ => b_X11_good_0 F ⟨rfl, hok x C rfl mr⟩, fun z => absurd (by rw [h44]; exact le) z⟩
  | cons c l ih =>
    intro i p x C hp hcl hi hx mr h44 hok hfl
    obtain ⟨l0, c0, q, l', cd, p1, p2, p3, p4, p5⟩ := hp
    have g1 := (Gd_order τ _ _ _ _ _ _ _ p2).1
    have hN := ME.2.2.2.1
    have oc := hcl c List.mem_cons_self
    have nle : ¬ 2400 + (τ.length : Int) ≤ 2400 + (p : Int) := by clear h44 hok hfl ih; omega
    have i5 : i ≤ 100000 := by clear h44 hok hfl ih; omega
    rw [List.length_cons] at hi hx
    have t20 : c.1.1.2.toNat ≤ 20 := by have := oc.2; clear h44 hok hfl ih; omega
    have hx1 : x.1 ≤ 256 := by clear h44 hok hfl ih; omega
    have hx2 : x.1 + c.1.1.2.toNat ≤ 256 := by clear h44 hok hfl ih; omega
    have hx3 : ∀ y : RX, y.1 ≤ x.1 + c.1.1.2.toNat → y.1 + 20 * l.length ≤ 256 := fun y hy => by clear h44 hok hfl ih; omega
    have hi2 : i + 1 + l.length ≤ 100 := by clear h44 hok hfl ih; omega
    have ec : c = (c.1, hasB τ p q) := by rw [← p3]
    unfold alF at hok hfl
    refine b_X11_orders_95 (d := d + 107) F ⟨fun z => absurd (by rw [h44] at z; exact z) nle, fun _ => b_X11_runs_0 (d := d + 106) F (b_X11_goesAlong_0 (d := d + 105) F ⟨fun _ => m_go (d := d + 54) (s1 := 0) F ME mr hx1 h44 (Or.inl rfl) p1 p2 (by unfold Bd; decide) (fun C2 f2 k23 go => ⟨rfl, ?_⟩), fun z => absurd rfl z⟩)⟩
    have fg : Fp gox C C2 := Fp_mono f2 (fun a k y => Or.inl y)
    rw [go.1, go.2.1]
    refine m_19 (d := d) hAM F ME p1 p2 p4 oc c.1.1.2.toNat x C2 0 (Nat.zero_add _) hx2 (MRun_go mr fg) k23 (by rw [fg 81 44 (by unfold gox mgy mpx asx; decide)]; exact h44) (fun y C' ey hy mr' k23' => ⟨rfl, fun z => absurd z (by decide), fun _ => ?_⟩) (fun C' ey fC => ⟨rfl, fun _ => ?_, fun z => absurd rfl z⟩)
    · rw [← ec] at ey
      rw [ey] at hok hfl
      rw [w32_nat1 (p := i) i5]
      have mr3 : MRun C0 nn n0 y (upC C' 81 44 (2400 + ((q + 1 : Nat) : Int))) := by
        obtain ⟨a, b, c', e', g'⟩ := mr'
        exact ⟨Fp_up (by unfold mrn; decide) a, HsM_row b (upC_ne (by decide)) (upC_sK (by decide)) (upC_ne (by decide)), by rw [upC_sK (by decide)]; exact c', by rw [upC_sK (by decide)]; exact e', g'⟩
      exact ih (i + 1) (q + 1) y _ p5 (fun c hc => hcl c (List.mem_cons_of_mem _ hc)) hi2 (hx3 y hy) mr3 (upC_at _ _ _ _) hok hfl
    · rw [← ec] at ey
      rw [ey] at hfl
      exact hfl i C' rfl fC
