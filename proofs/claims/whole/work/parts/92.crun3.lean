/-! 92.crun3: the class runs all orders, or takes all back -/
def bkx (a k : Int) : Prop := a = 4 ∨ a = 5 ∨ (a = 8 ∧ k = 0) ∨ (a = 55 ∧ k = 3)
theorem HsC_W {C : MC} {n : Nat} {W W' : Nat → Int → Int} (h : HsC C n W) (e : ∀ j, j ≤ n → W' j = W j) : HsC C n W' := by
  obtain ⟨a, b, c, g⟩ := h
  refine ⟨a, by rw [e n (Nat.le_refl _)]; exact b, fun j hj => by rw [e (j + 1) hj, e j (Nat.le_of_lt hj)]; exact c j hj, fun j hj => by rw [e j hj]; exact g j hj⟩
def BkP (C : MC) (W : Nat → Int → Int) (n i : Nat) (D : MC) : Prop := Fp bkx C D ∧ HsC D (n - i) W
theorem c_back {d n0 n : Nat} {W : Nat → Int → Int} {S : MS} {C : MC} {Q : Qt} (F : Fix S) (hn0 : n0 ≤ n) (hn : n ≤ 256) (h : HsC C n W) (h59 : C 59 2 = ((n - n0 : Nat) : Int)) (hk : ∀ C', Fp bkx C C' → HsC C' n0 W → Q 0 S C') : K_X6_takeAllBack_0 (d + 3) 0 0 S C Q := by
  refine b_X6_takeAllBack_0 (d := d + 2) F ?_
  have e59 : ∀ {D : MC}, Fp bkx C D → D 59 2 = ((n - n0 : Nat) : Int) := fun f => by rw [f 59 2 (by unfold bkx; decide)]; exact h59
  refine up_ind (α := MC) (P := BkP C W n) (K := fun i D => K_X6_takeAllBack_2 (d + 3) 0 0 (i : Int) S D Q) (n - n0) ?_ ?_ 0 (Nat.zero_le _) C ⟨Fp_rf, h⟩
  · intro D ⟨f, hD⟩
    have en : n - (n - n0) = n0 := by clear h59; omega
    rw [en] at hD
    exact b_X6_takeAllBack_2 (d := d + 2) F ⟨fun _ => hk D f hD, fun z => absurd (by rw [e59 f]; exact Int.le_refl _) z⟩
  · intro i D hi ⟨f, hD⟩ ih
    obtain ⟨n', hn'⟩ : ∃ n', n - i = n' + 1 := ⟨n - i - 1, by clear h59; omega⟩
    have hn2 : n' < 256 := by clear h59; omega
    have en : n - (i + 1) = n' := by clear h59; omega
    have i6 : i ≤ 100000 := by clear h59; omega
    rw [hn'] at hD
    obtain ⟨d1, d2, d3, d4⟩ := hD
    refine b_X6_takeAllBack_2 (d := d + 2) F ⟨fun z => absurd (by rw [e59 f] at z; exact z) (Int.not_le.mpr (Int.ofNat_lt.mpr hi)), fun _ => s_takeBack (d := d) F d1 hn2 d2 (d4 n' (Nat.le_succ _)) (d3 n' (Nat.lt_succ_self _)) (fun D' f' g1 g2 => ⟨rfl, ?_⟩)⟩
    rw [w32_nat1 (p := i) i6]
    have r : ∀ a, a = 1 ∨ a = 56 ∨ a = 57 ∨ a = 58 → D' a = D a := fun a ha => fp_row f' (fun k q => by clear h59 d1 g1; omega)
    refine ih D' ⟨Fp_tr f f', ?_⟩
    rw [en]
    refine ⟨g1, g2, fun j hj => ?_, fun j hj => ?_⟩
    · rw [r 56 (by decide), r 57 (by decide), r 58 (by decide)]; exact d3 j (Nat.lt_succ_of_lt hj)
    · rw [r 1 (by decide)]; exact d4 j (Nat.le_succ_of_le hj)
theorem c_13 {d nn n0 : Nat} {S0 : MS} {C0 : MC} {κ : Int → Int} {cls : List Cla} {cd : List Int} {cb : List (Cla × Bool)} {W0 : Nat → Int → Int} {kd0 : Nat → Int} {Q : Qt} (hAC : AskCls) (E : CEnv S0 C0 κ nn cls cd cb) (hn0 : n0 ≤ 16) : ∀ (l : List (Cla × Bool)) (j : Nat) (x : RX) (S : MS) (C : MC), cb.drop j = l → j ≤ cb.length → x.1 ≤ n0 + 20 * j → CRun S0 C0 n0 W0 kd0 x S C →
      (∀ y S' C', alF (nn : Int) κ nn n0 l j x = .inr y → y.1 ≤ 256 → CRun S0 C0 n0 W0 kd0 y S' C' → K_X0_keepLatest_0 (d + 29) 0 0 S' C' (fun _ Sq C2 => Sq = S' ∧ Q (C2 59 2) S' C2)) → (∀ (i : Nat) y S' C', alF (nn : Int) κ nn n0 l j x = .inl i → y.1 ≤ 256 → CRun S0 C0 n0 W0 kd0 y S' C' → K_X6_takeAllBack_0 (d + 29) 0 0 S' (upC C' 59 4 (i : Int)) (fun _ Sq C6 => Sq = S' ∧ Q (-3) S' C6)) → K_X6_runAll_13 (d + 30) 0 0 (j : Int) S C Q := by
  have hlen : cb.length ≤ 12 := by
    have := E.2.2.2.2.1
    rw [← E.2.2.2.2.2.1, List.length_map] at this
    exact this
  have e30 : C0 30 0 = (cb.length : Int) := by
    have : C0 30 0 = (cls.length : Int) := E.2.2.1.1
    rw [this, ← E.2.2.2.2.2.1, List.length_map]
  have k30 : ∀ {C : MC}, Fp crn C0 C → C 30 0 = (cb.length : Int) := fun f => by rw [f 30 0 (by unfold crn; decide)]; exact e30
  intro l
  induction l with
  | nil =>
    intro j x S C hd hj hx cr hok hfl
    have ej : j = cb.length := by
      have := congrArg List.length hd
      rw [List.length_drop, List.length_nil] at this
      clear e30 hok hfl cr
      omega
    have hx2 : x.1 ≤ 256 := by clear e30 hok hfl cr; omega
    exact b_X6_runAll_13 (d := d + 29) cr.1.1 ⟨fun _ => hok x S C rfl hx2 cr, fun z => absurd (by rw [k30 cr.2.1, ej]; exact Int.le_refl _) z⟩
  | cons p l ih =>
    intro j x S C hd hj hx cr hok hfl
    have hj1 : j < cb.length := by
      have := congrArg List.length hd
      rw [List.length_drop, List.length_cons] at this
      clear e30 hok hfl cr ih
      omega
    have hpj : cb[j]? = some p := by
      have := congrArg (fun x => x[0]?) hd
      simp only [List.getElem?_drop, Nat.add_zero, List.getElem?_cons_zero] at this
      exact this
    have hd2 : cb.drop (j + 1) = l := by
      have := congrArg List.tail hd
      rw [List.tail_drop, List.tail_cons] at this
      exact this
    have ok := (E.2.2.2.2.2.2 p (List.mem_of_getElem? hpj)).1
    have ht : p.1.1.2.toNat ≤ 20 := by have := ok.2.1; clear e30 hok hfl cr ih; omega
    have b1 : x.1 + p.1.1.2.toNat ≤ 256 := by clear e30 hok hfl cr ih; omega
    have b2 : ∀ y : RX, y.1 ≤ x.1 + p.1.1.2.toNat → y.1 ≤ n0 + 20 * (j + 1) := fun y hy => by clear e30 hok hfl cr ih; omega
    have j5 : j ≤ 100000 := by clear e30 hok hfl cr ih; omega
    have j12 : j < 12 := by clear e30 hok hfl cr ih; omega
    refine b_X6_runAll_13 (d := d + 29) cr.1.1 ⟨fun z => absurd (by rw [k30 cr.2.1] at z; exact z) (Int.not_le.mpr (Int.ofNat_lt.mpr hj1)), fun _ => ?_⟩
    unfold alF at hok hfl
    refine c_25 (d := d) hAC E hpj j12 p.1.1.2.toNat x S C 0 (Nat.zero_add _) b1 cr (fun y S' C' ey hy cr' => ?_) (fun y S' C' ey hy cr' => ?_)
    · rw [ey] at hok hfl
      rw [w32_nat1 (p := j) j5]
      exact ih (j + 1) y S' C' hd2 hj1 (b2 y hy) cr' hok hfl
    · rw [ey] at hfl
      exact hfl j y S' C' rfl hy cr'
def crm (a k : Int) : Prop := crn a k ∨ (a = 59 ∧ k = 4)
theorem c_runAll {d nn n0 : Nat} {S : MS} {C : MC} {κ : Int → Int} {cls : List Cla} {cd : List Int} {cb : List (Cla × Bool)} {W0 : Nat → Int → Int} {Q : Qt} (hAC : AskCls) (F : Fix S) (E : CEnv S C κ nn cls cd cb) (hn0 : n0 ≤ 16) (h : HsC C n0 W0)
    (kOk : ∀ y S' C', alF (nn : Int) κ nn n0 cb 0 (n0, W0, (fun j => C 56 j), -1) = .inr y → n0 ≤ y.1 → S44 S S' → Fp crn C C' → HsC C' (min y.1 16) (fun j => y.2.1 (y.1 - min y.1 16 + j)) → (∀ j : Nat, j < min y.1 16 → C' 56 j = y.2.2.1 (y.1 - min y.1 16 + j)) → Q ((y.1 - n0 : Nat) : Int) S' C')
    (kFl : ∀ (i : Nat) S' C', alF (nn : Int) κ nn n0 cb 0 (n0, W0, (fun j => C 56 j), -1) = .inl i → S44 S S' → Fp crm C C' → C' 59 4 = i → HsC C' n0 W0 → (∀ j : Nat, j < n0 → C' 56 j = C 56 j) → Q (-3) S' C') : K_X6_runAll_0 (d + 30) 0 0 S C Q := by
  refine b_X6_runAll_0 (d := d + 29) F ?_
  have f0 : Fp crn C (upC (upC C 59 2 0) 59 3 (-1)) := Fp_up (by unfold crn; decide) (Fp_up (by unfold crn; decide) Fp_rf)
  have r0 : ∀ a, a ≠ 59 → upC (upC C 59 2 0) 59 3 (-1) a = C a := fun a ha => by rw [upC_ne ha, upC_ne ha]
  refine c_13 (d := d) hAC E hn0 cb 0 (n0, W0, (fun j => C 56 j), -1) S _ rfl (Nat.zero_le _) (Nat.le_add_right _ _) ⟨S44_rf F, f0, HsC_row h (fun a ha => r0 a (fun z => by rw [z] at ha; unfold hrow at ha; omega)), fun j hj => by rw [r0 56 (by decide)], ?_, upC_at _ _ _ _, Nat.le_refl _, fun _ _ => rfl, fun _ _ => rfl⟩ (fun y S' C' ey hy cr => ?_) (fun i y S' C' ey hy cr => ?_)
  · rw [upC_sK (by decide), upC_at]
    show (0 : Int) = ((n0 - n0 : Nat) : Int)
    rw [Nat.sub_self]
    rfl
  · obtain ⟨c1, c2, c3, c4, c5, c6, c7, c8, c9⟩ := cr
    refine s_keepLatest (d := d + 28) c1.1 hy c3 (fun C2 f2 h2 k2 _ => ⟨rfl, ?_⟩)
    have e59 : C2 59 2 = ((y.1 - n0 : Nat) : Int) := by rw [f2 59 2 (by decide)]; exact c5
    rw [e59]
    refine kOk y S' C2 ey c7 c1 (Fp_tr c2 (Fp_mono f2 (fun a k q => by unfold crn; clear e59 c5 c6; omega))) h2 (fun j hj => ?_)
    rw [k2 j hj]
    exact c4 _ (by clear e59 c5 c6; omega)
  · obtain ⟨c1, c2, c3, c4, c5, c6, c7, c8, c9⟩ := cr
    have u : ∀ a, a ≠ 59 → upC C' 59 4 (i : Int) a = C' a := fun a ha => upC_ne ha
    refine c_back (d := d + 26) c1.1 c7 hy (HsC_row c3 (fun a ha => u a (fun z => by rw [z] at ha; unfold hrow at ha; clear c5 c6; omega))) (by rw [upC_sK (by decide)]; exact c5) (fun C6 f6 h6 => ⟨rfl, ?_⟩)
    refine kFl i S' C6 ey c1 ?_ ?_ (HsC_W h6 (fun j hj => (c8 j hj).symm)) (fun j hj => ?_)
    · exact Fp_tr (Fp_up (Or.inr ⟨rfl, rfl⟩) (Fp_mono c2 (fun a k q => Or.inl q))) (Fp_mono f6 (fun a k q => Or.inl (by unfold bkx at q; unfold crn; clear c5 c6; omega)))
    · rw [f6 59 4 (by unfold bkx; decide), upC_at]
    · rw [fp_row (a := 56) f6 (fun k q => by unfold bkx at q; clear c5 c6; omega), u 56 (by decide), c4 j (Nat.lt_of_lt_of_le hj c7)]
      exact c9 j hj
