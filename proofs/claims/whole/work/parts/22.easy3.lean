/-! 22.easy3: house, terms, force, motif, drawn -/
def Fp (p : Int → Int → Prop) (C C' : MC) : Prop := ∀ a k, ¬ p a k → C' a k = C a k
theorem Fp_rf {p : Int → Int → Prop} {C : MC} : Fp p C C := fun _ _ _ => rfl
theorem Fp_up {p : Int → Int → Prop} {C C' : MC} {a k v : Int} (hc : p a k) (h : Fp p C C') : Fp p C (upC C' a k v) := by
  intro b j hb
  rw [upC_get, if_neg (fun z => hb (by rw [z.1, z.2]; exact hc))]
  exact h b j hb
theorem fp_row {p : Int → Int → Prop} {C C' : MC} {a : Int} (h : Fp p C C') (hd : ∀ k, ¬ p a k) : C' a = C a := funext fun k => h a k (hd k)
theorem Ra_p {p : Int → Int → Prop} {C C' : MC} (a : Ra C 1 (C 83)) (h : Fp p C C') (hd : ¬ p 1 0 ∧ (∀ k, ¬ p 2 k) ∧ (∀ k, ¬ p 3 k) ∧ ∀ i, (25 ≤ i ∧ i < 37) ∨ i = 45 → ¬ p 83 i) : Ra C' 1 (C' 83) :=
  Ra_cong a (h _ _ hd.1) (fp_row h hd.2.1) (fp_row h hd.2.2.1) (fun i hi => h _ _ (hd.2.2.2 i hi))
theorem Rb_p {p : Int → Int → Prop} {C C' : MC} (a : Rb C 1 (C 83)) (h : Fp p C C') (hd : (∀ k, ¬ p 4 k) ∧ ∀ i, (0 ≤ i ∧ i < 8) ∨ i = 45 → ¬ p 83 i) : Rb C' 1 (C' 83) :=
  Rb_cong a (fp_row h hd.1) (fun i hi => h _ _ (hd.2 i hi))
theorem Rc_p {p : Int → Int → Prop} {C C' : MC} (a : Rc C 1 (C 83)) (h : Fp p C C') (hd : (∀ k, ¬ p 5 k) ∧ ∀ i, (8 ≤ i ∧ i < 24) → ¬ p 83 i) : Rc C' 1 (C' 83) :=
  Rc_cong a (fp_row h hd.1) (fun i hi => h _ _ (hd.2 i hi))
theorem Rd_p {p : Int → Int → Prop} {C C' : MC} (a : Rd C 1 (C 83)) (h : Fp p C C') (hd : ¬ p 1 6 ∧ (∀ k, ¬ p 6 k) ∧ ∀ i, (37 ≤ i ∧ i < 43) ∨ i = 46 → ¬ p 83 i) : Rd C' 1 (C' 83) :=
  Rd_cong a (h _ _ hd.1) (fp_row h hd.2.1) (fun i hi => h _ _ (hd.2.2 i hi))
theorem Re_p {p : Int → Int → Prop} {S : MS} {C C' : MC} (a : Re S C 1 (C 83)) (h : Fp p C C') (hd : ¬ p 1 8 ∧ ¬ p 1 9 ∧ (∀ b k, 108 ≤ b → ¬ p b k) ∧ ∀ i, 47 ≤ i → i ≠ 55 → (i < 2456 ∨ 2856 ≤ i) → i < 5256 → ¬ p 83 i) : Re S C' 1 (C' 83) :=
  Re_cong a (h _ _ hd.1) (h _ _ hd.2.1) (fun b hb => fp_row h (fun k => hd.2.2.1 b k hb)) (fun i hi => h _ _ (hd.2.2.2 i (by unfold lwI at hi; omega) (by unfold lwI at hi; omega) (by unfold lwI at hi; omega) (by unfold lwI at hi; omega)))
theorem Rf_p {p : Int → Int → Prop} {C C' : MC} (a : Rf C 1 (C 83)) (h : Fp p C C') (hd : (∀ k, ¬ p 8 k) ∧ ∀ i, i = 24 ∨ i = 43 ∨ i = 44 → ¬ p 83 i) : Rf C' 1 (C' 83) :=
  Rf_cong a (fp_row h hd.1) (fun i hi => h _ _ (hd.2 i hi))
theorem IvR_p {p : Int → Int → Prop} {C C' : MC} (a : IvR C) (h : Fp p C C') (h1 : C' 0 16 = 0) (h2 : C' 81 0 = 0) (hd : ∀ k, ¬ p 64 k ∧ ¬ p 82 k) : IvR C' :=
  IvR_acc a h1 h2 (fp_row h (fun k => (hd k).1)) (fp_row h (fun k => (hd k).2))
theorem IvT_p {p : Int → Int → Prop} {C C' : MC} (a : IvT C) (h : Fp p C C') (hd : ¬ p 27 1 ∧ ¬ p 81 13 ∧ ∀ k, ¬ p 28 k ∧ ¬ p 88 k) : IvT C' :=
  IvT_cong a (h _ _ hd.1) (h _ _ hd.2.1) (fp_row h (fun k => (hd.2.2 k).1)) (fp_row h (fun k => (hd.2.2 k).2))
theorem IvX_p {p : Int → Int → Prop} {C C' : MC} (a : IvX C) (h : Fp p C C') (hd : ¬ p 0 15 ∧ ¬ p 81 6 ∧ ¬ p 29 11 ∧ ¬ p 81 14 ∧ ¬ p 59 4 ∧ ¬ p 81 43) : IvX C' :=
  IvX_cong a (h _ _ hd.1) (h _ _ hd.2.1) (h _ _ hd.2.2.1) (h _ _ hd.2.2.2.1) (h _ _ hd.2.2.2.2.1) (h _ _ hd.2.2.2.2.2)
theorem IvU_p {p : Int → Int → Prop} {C C' : MC} (a : IvU C) (h : Fp p C C') (hd : ¬ p 55 3 ∧ ¬ p 81 42 ∧ (∀ i, (0 ≤ i ∧ i < 25) ∨ i = 45 → ¬ p 83 i) ∧ ∀ k, ¬ p 104 k ∧ ¬ p 56 k ∧ ¬ p 57 k ∧ ¬ p 58 k) : IvU C' :=
  IvU_cong a (h _ _ hd.1) (h _ _ hd.2.1) (fun i hi => h _ _ (hd.2.2.1 i hi)) (fp_row h (fun k => (hd.2.2.2 k).1)) (fp_row h (fun k => (hd.2.2.2 k).2.1)) (fp_row h (fun k => (hd.2.2.2 k).2.2.1)) (fp_row h (fun k => (hd.2.2.2 k).2.2.2))
theorem Inv_p {p : Int → Int → Prop} {S : MS} {C C' : MC} (I : Inv S C) (h : Fp p C C') (hd : (∀ b k, 108 ≤ b → ¬ p b k) ∧ (∀ b k, 65 ≤ b → b < 81 → ¬ p b k) ∧ (∀ k, ¬ p 26 k ∧ ¬ p 84 k ∧ ¬ p 85 k ∧ ¬ p 20 k ∧ ¬ p 21 k ∧ ¬ p 107 k ∧ ¬ p 87 k) ∧ ¬ p 0 14 ∧ ¬ p 81 51) (hN : RS S C' 1 (C' 83)) (hR : IvR C') (hT : IvT C') (hX : IvX C') (hU : IvU C') : Inv S C' :=
  Inv_mk I (fun b hb => fp_row h (fun k => hd.1 b k hb)) hN hR hT hX hU ⟨fp_row h (fun k => (hd.2.2.1 k).1), fp_row h (fun k => (hd.2.2.1 k).2.2.1), fp_row h (fun k => (hd.2.2.1 k).2.1), fun b x0 x1 => fp_row h (fun k => hd.2.1 b k x0 x1)⟩ ⟨h _ _ hd.2.2.2.1, h _ _ hd.2.2.2.2, fp_row h (fun k => (hd.2.2.1 k).2.2.2.1), fp_row h (fun k => (hd.2.2.1 k).2.2.2.2.1), fp_row h (fun k => (hd.2.2.1 k).2.2.2.2.2.1)⟩ (fp_row h (fun k => (hd.2.2.1 k).2.2.2.2.2.2))
/-- a refusal of both -/
theorem q_refuse {dc dm : Nat} {x : Int} {S : MS} {C : MC} {P : Int → Int → MC → Prop} {KM : MC → (Int → MC → Prop) → Prop} (I : Inv S C) (hx : okR x) (k : ∀ r C', Inv S C' → P r r C')
    (hM : ∀ C2 : MC, (∀ a, 81 ≤ a → C2 a = C a) → K_X11_refuses_0 dm 0 0 x S C2 (fun r Sq C3 => Sq = S ∧ P x r C3) → KM C2 (P x)) : K_X10_refuse_0 dc 0 0 x S C (fun r Sq C2 => Sq = S ∧ Sq = S ∧ KM C2 (P r)) := by
  refine s_refuse I.1 hx ⟨rfl, rfl, hM _ (fun a ha => ?_) (s_refuses I.1 hx ⟨rfl, k _ _ (Inv_refuse hx I)⟩)⟩
  unfold rfC
  rw [upC_ne (by omega), upC_ne (by omega)]
theorem q_forceM {d : Nat} {l : Int} {S : MS} {C : MC} {Q : Qt} (F : Fix S) (hm : 0 ≤ C 83 47 ∧ C 83 47 ≤ 6) (h1 : -1 ≤ l ∧ l < C 83 47 → Q (C 83 48) S (upC (upC C 83 48 l) 81 0 0)) (h2 : ¬ (-1 ≤ l ∧ l < C 83 47) → Q (-2) S (rfM C (-2))) : K_X11_force_0 (d + 2) 0 0 l S C Q := by
  refine b_X11_force_0 F (s_isLaw F hm fun r hr => ⟨rfl, fun e => ?_, fun e => ?_⟩)
  · exact b_X11_good_0 F ⟨rfl, h1 (by omega)⟩
  · exact s_refuses F (by unfold okR; omega) ⟨rfl, h2 (by omega)⟩
theorem q_force {d : Nat} {l : Int} {S : MS} {C : MC} {P : Int → Int → MC → Prop} (I : Inv S C) (k : ∀ r C', Inv S C' → P r r C') : K_X10_force_0 (d + 2) 0 0 l S C (fun r Sq C2 => Sq = S ∧ K_X11_force_0 (d + 2) 0 0 l S C2 (fun r2 Sq C3 => Sq = S ∧ P r r2 C3)) := by
  have F := I.1
  obtain ⟨a1, a2, a3, a4, a5, a6⟩ := I.2.1
  obtain ⟨⟨e1, e2⟩, ⟨e3, e4⟩, e5, e6⟩ := a5
  have good : -1 ≤ l ∧ l < C 83 47 → K_X11_force_0 (d + 2) 0 0 l S (upC (upC C 1 9 l) 0 16 0) (fun r2 Sq C3 => Sq = S ∧ P (C 1 9) r2 C3) := by
    intro hl
    have hr : ∀ j, upC (upC C 1 9 l) 0 16 0 83 j = C 83 j := fun j => by rw [upC_ne (by decide), upC_ne (by decide)]
    refine q_forceM F (by rw [hr]; exact e2) (fun _ => ⟨rfl, ?_⟩) (fun h => absurd hl (by rw [hr] at h; exact h))
    rw [hr 48, ← e3]
    refine k _ _ ?_
    have hf : Fp (fun a k => (a = 1 ∧ k = 9) ∨ (a = 0 ∧ k = 16) ∨ (a = 83 ∧ k = 48) ∨ (a = 81 ∧ k = 0)) C (upC (upC (upC (upC C 1 9 l) 0 16 0) 83 48 l) 81 0 0) := Fp_up (by omega) (Fp_up (by omega) (Fp_up (by omega) (Fp_up (by omega) Fp_rf)))
    refine Inv_p I hf (by refine ⟨?_, ?_, ?_, ?_, ?_⟩ <;> intros <;> omega) ⟨Ra_p a1 hf (by refine ⟨?_, ?_, ?_, ?_⟩ <;> intros <;> omega), Rb_p a2 hf (by refine ⟨?_, ?_⟩ <;> intros <;> omega), Rc_p a3 hf (by refine ⟨?_, ?_⟩ <;> intros <;> omega), Rd_p a4 hf (by refine ⟨?_, ?_, ?_⟩ <;> intros <;> omega), ?_, Rf_p a6 hf (by refine ⟨?_, ?_⟩ <;> intros <;> omega)⟩ (IvR_p I.2.2.2.1 hf (by simp [upC]) (by simp [upC]) (by intros; omega)) (IvT_p I.2.2.2.2.1 hf (by refine ⟨?_, ?_, ?_⟩ <;> intros <;> omega)) (IvX_p I.2.2.2.2.2.1 hf (by refine ⟨?_, ?_, ?_, ?_, ?_, ?_⟩ <;> omega)) (IvU_p I.2.2.2.2.2.2.1 hf (by refine ⟨?_, ?_, ?_, ?_⟩ <;> intros <;> omega))
    have q1 : upC (upC (upC (upC C 1 9 l) 0 16 0) 83 48 l) 81 0 0 1 9 = l := by simp [upC]
    have q2 : upC (upC (upC (upC C 1 9 l) 0 16 0) 83 48 l) 81 0 0 83 48 = l := by simp [upC]
    have q3 : upC (upC (upC (upC C 1 9 l) 0 16 0) 83 48 l) 81 0 0 83 47 = C 83 47 := by simp [upC]
    have q4 : upC (upC (upC (upC C 1 9 l) 0 16 0) 83 48 l) 81 0 0 1 8 = C 1 8 := by simp [upC]
    unfold Re
    rw [q1, q2, q3, q4]
    refine ⟨⟨e1, e2⟩, ⟨rfl, hl⟩, e5, fun t x0 x1 => LawRel_cong (e6 t x0 x1) ⟨x0, by omega⟩ (fun b hb => fp_row hf (fun k => by omega)) (fun j hj => hf _ _ (by unfold lwI at hj; omega))⟩
  refine b_X10_force_0 F ⟨fun h1 => ?_, fun h1 => ?_⟩
  · exact b_X10_accept_0 F ⟨rfl, rfl, good (by omega)⟩
  · refine s_hasLaw F isSt1 fun r hr => ⟨rfl, fun e => ?_, fun e => ?_⟩
    · exact b_X10_accept_0 F ⟨rfl, rfl, good (by omega)⟩
    · refine s_refuse F (by unfold okR; omega) ⟨rfl, rfl, ?_⟩
      have hr2 : ∀ j, rfC C (-2) 83 j = C 83 j := fun j => by unfold rfC; rw [upC_ne (by decide), upC_ne (by decide)]
      refine q_forceM F (by rw [hr2]; exact e2) (fun h => ?_) (fun _ => ⟨rfl, k _ _ (Inv_refuse (by unfold okR; omega) I)⟩)
      rw [hr2] at h
      omega
