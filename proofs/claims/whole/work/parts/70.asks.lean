/-! 70.asks: the call asks -/
theorem q_asks {d : Nat} {l1 l2 l3 l4 : Int} {S : MS} {C : MC} {P : Int → Int → MC → Prop} (hAC : AskCls) (hAM : AskMod) (I : Inv S C) (k : ∀ r C', Inv S C' → P r r C') : K_X10_asks_0 (d + 101) 0 0 l1 l2 l3 l4 S C (fun r Sq C2 => Sq = S ∧ K_X11_asks_0 (d + 101) 0 0 l1 l2 l3 l4 S C2 (fun r2 Sq C3 => Sq = S ∧ P r r2 C3)) := by
  have F := I.1
  have R := I.2.1
  have hK := KOk_of R
  have h45 := R.1.2.1
  have e0 : C 1 0 = C 83 45 := R.1.1
  have mb : ¬ ((0 ≤ l1 ∧ l1 < C 83 45) ∧ (0 ≤ l2 ∧ l2 < 8) ∧ (0 ≤ l3 ∧ l3 < 16) ∧ (l4 = 0 ∨ l4 = 1)) → K_X11_asks_0 (d + 101) 0 0 l1 l2 l3 l4 S C (fun r2 Sq C3 => Sq = S ∧ P (-1) r2 C3) := by
    intro hn
    have kk := k (-1) C I
    refine b_X11_asks_0 (d := d + 100) F (s_isHouse (d := d + 99) F h45 fun r1 hr1 => ⟨rfl, fun z => ⟨rfl, kk⟩, fun z => s_isKeyM (d := d + 99) F fun r2 hr2 => ⟨rfl, fun z2 => ⟨rfl, kk⟩, fun z2 => s_isBeatM (d := d + 99) F fun r3 hr3 => ⟨rfl, fun z3 => ⟨fun y => ⟨rfl, kk⟩, fun y => ?_, fun y => ?_⟩, fun z3 => ⟨rfl, kk⟩⟩⟩⟩)
    · exact absurd ⟨by omega, by omega, by omega, Or.inl y⟩ hn
    · exact absurd ⟨by omega, by omega, by omega, Or.inr y⟩ hn
  refine b_X10_asks_0 (d := d + 100) F (s_hasHouse F isSt1 fun r1 hr1 => ⟨rfl, fun z1 => ⟨rfl, mb (by omega)⟩, fun z1 => s_isKeyC F fun r2 hr2 => ⟨rfl, fun z2 => ⟨rfl, mb (by omega)⟩, fun z2 => s_isBeatC F fun r3 hr3 => ⟨rfl, fun z3 => ⟨rfl, mb (by omega)⟩, fun z3 => ⟨fun y => ⟨rfl, mb (by omega)⟩, fun y => ⟨fun y2 => ?_, fun y2 => ⟨rfl, mb (by omega)⟩⟩⟩⟩⟩⟩)
  have g1 : 0 ≤ l1 ∧ l1 < C 83 45 := by omega
  have g2 : 0 ≤ l2 ∧ l2 < 8 := by omega
  have g3 : 0 ≤ l3 ∧ l3 < 16 := by omega
  have g4 : l4 = 0 ∨ l4 = 1 := by omega
  clear mb hr1 hr2 hr3 z1 z2 z3 y y2
  obtain ⟨n, hn⟩ : ∃ n : Nat, C 83 45 = n := ⟨(C 83 45).toNat, by omega⟩
  obtain ⟨h, rfl⟩ : ∃ h : Nat, l1 = h := ⟨l1.toNat, by omega⟩
  obtain ⟨ky, rfl⟩ : ∃ h : Nat, l2 = h := ⟨l2.toNat, by omega⟩
  obtain ⟨b, rfl⟩ : ∃ h : Nat, l3 = h := ⟨l3.toNat, by omega⟩
  have hh : h < n := by omega
  have hky : ky < 8 := by omega
  have hb : b < 16 := by omega
  refine hAC S C 1 (C 83) b n 1 F isSt1 R hn hb (Or.inr rfl) (d + 94) C h ky _ (fun r _ => rfl) hh hky (fun C2 c1 c2 c3 c4 => ⟨rfl, ?_⟩)
  have e83 : C2 83 = C 83 := c1 83 (by decide) (by decide) (by decide)
  have fC : Fp scr C C2 := fun a j hj => by rw [c1 a (fun z => hj (by unfold scr; omega)) (fun z => hj (by unfold scr; omega)) (fun z => hj (by unfold scr; omega))]
  have fin : ∀ C3, Fp asx C2 C3 → Inv S C3 := fun C3 f3 => Inv_sc I F (Ss_rf S) (Fp_tr fC (Fp_mono f3 (fun a j q => by unfold asx at q; unfold scr; omega)))
  obtain ⟨am1, am2⟩ := hAM d S C2 h ky b n F (by rw [e83]; exact hK) (by rw [e83]; exact hn) hh hky hb
  have mm : ∀ Q : Qt, ((l4 = 0 → ∀ C3, Fp asx C2 C3 → Q (mdK (C 83) b h ky) S C3) ∧ (l4 = 1 → ∀ C3, Fp asx C2 C3 → Q (if cnK (C 83) b h ky then 1 else 0) S C3)) → K_X11_asks_0 (d + 101) 0 0 (h : Int) (ky : Int) (b : Int) l4 S C2 Q := by
    intro Q hQ
    refine b_X11_asks_0 (d := d + 100) F (s_isHouse (d := d + 99) F (by rw [e83]; exact h45) fun r1 hr1 => ⟨rfl, fun z => ?_, fun z => s_isKeyM (d := d + 99) F fun r2 hr2 => ⟨rfl, fun z2 => ?_, fun z2 => s_isBeatM (d := d + 99) F fun r3 hr3 => ⟨rfl, fun z3 => ⟨fun y => ?_, fun y => ?_, fun y => ?_⟩, fun z3 => ?_⟩⟩⟩)
    · rw [e83] at hr1; omega
    · omega
    · omega
    · refine am2 _ (fun C3 f3 => ⟨rfl, ?_⟩)
      rw [e83]
      exact hQ.1 y C3 f3
    · refine am1 _ (fun C3 f3 => ⟨rfl, ?_⟩)
      rw [e83]
      have := hQ.2 y C3 f3
      cases hc : cnK (C 83) b h ky with
      | true => rw [hc] at this; exact ⟨fun z => absurd z (by decide), fun _ => this⟩
      | false => rw [hc] at this; exact ⟨fun _ => this, fun z => absurd rfl z⟩
    · omega
  refine ⟨fun z => ⟨fun z2 => ⟨rfl, mm _ ⟨fun y => absurd y z, fun _ C3 f3 => ⟨rfl, ?_⟩⟩⟩, fun z2 => ⟨rfl, mm _ ⟨fun y => absurd y z, fun _ C3 f3 => ⟨rfl, ?_⟩⟩⟩⟩, fun z => ⟨rfl, mm _ ⟨fun _ C3 f3 => ⟨rfl, ?_⟩, fun y => absurd (z.symm.trans y) (by decide)⟩⟩⟩
  · rw [c2] at z2
    cases hc : cnK (C 83) b h ky with
    | true => rw [hc] at z2; exact absurd z2 (by decide)
    | false => exact k _ _ (fin C3 f3)
  · rw [c2] at z2
    cases hc : cnK (C 83) b h ky with
    | true => exact k _ _ (fin C3 f3)
    | false => rw [hc] at z2; exact absurd rfl z2
  · rw [c4 rfl]
    exact k _ _ (fin C3 f3)
