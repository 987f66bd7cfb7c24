/-! 33.easy6: of, count, terms, few, find -/
theorem obn_in (r : Int → Int) (x : Int) : ∀ k : Nat, in32 (obn r x k)
  | 0 => in32_0
  | k + 1 => by
    unfold obn
    split
    · exact in32_toInt _
    · exact obn_in r x k
theorem s_keysOf4 {d mc ms : Nat} {a x : Int} {S : MS} {C : MC} {Q : Qt} (F : Fix S) (ha : isSt a) (h : Q (obn (C (a + 3)) x 8) S C) : K_X7_keysOf_4 d mc ms a x 0 0 S C Q := by
  refine up_ind (α := Unit) (P := fun _ _ => True) (K := fun k _ => K_X7_keysOf_4 d mc ms a x (obn (C (a + 3)) x k) (k : Int) S C Q) 8 ?_ ?_ 0 (by omega) () trivial
  · intro _ _
    exact b_X7_keysOf_4 F ha ⟨fun _ => h, fun z => absurd (by decide) z⟩
  · intro k _ hk _ ih
    have ih2 := ih () trivial
    refine b_X7_keysOf_4 F ha ⟨fun z => by omega, fun _ => ⟨by omega, fun z => ?_, fun z => ?_⟩⟩
    · have e : obn (C (a + 3)) x (k + 1) = obn (C (a + 3)) x k := if_neg z
      rw [e] at ih2
      rw [w32_succ (by omega)]
      exact ih2
    · have e : obn (C (a + 3)) x (k + 1) = iOr (obn (C (a + 3)) x k) (iShl 1 k) := if_pos z
      rw [e] at ih2
      rw [w32_succ (by omega)]
      exact ih2
theorem s_ownedBy4 {d mc ms : Nat} {x : Int} {S : MS} {C : MC} {Q : Qt} (F : Fix S) (h : Q (obn (C 83) x 8) S C) : K_X11_ownedBy_4 d mc ms x 0 0 S C Q := by
  refine up_ind (α := Unit) (P := fun _ _ => True) (K := fun k _ => K_X11_ownedBy_4 d mc ms x (obn (C 83) x k) (k : Int) S C Q) 8 ?_ ?_ 0 (by omega) () trivial
  · intro _ _
    exact b_X11_ownedBy_4 F ⟨fun _ => h, fun z => absurd (by decide) z⟩
  · intro k _ hk _ ih
    have ih2 := ih () trivial
    refine b_X11_ownedBy_4 F ⟨fun z => by omega, fun _ => ?_⟩
    rw [w32_lit (x := 0 + (k : Int)) (by omega), Int.zero_add, w32_succ (by omega)]
    refine ⟨by omega, fun z => ?_, fun z => ?_⟩
    · have e : obn (C 83) x (k + 1) = obn (C 83) x k := if_neg z
      rw [e] at ih2
      rw [iOr_zero (obn_in _ _ _)]
      exact ih2
    · have e : obn (C 83) x (k + 1) = iOr (obn (C 83) x k) (iShl 1 k) := if_pos z
      rw [e] at ih2
      exact ih2
theorem obn_cong {r r' : Int → Int} {x : Int} (h : ∀ k, 0 ≤ k → k < 8 → r k = r' k) : ∀ k : Nat, k ≤ 8 → obn r x k = obn r' x k
  | 0, _ => rfl
  | k + 1, hk => by
    unfold obn
    rw [obn_cong h k (by omega), h k (by omega) (by omega)]
theorem q_of {d : Nat} {l1 l2 : Int} {S : MS} {C : MC} {P : Int → Int → MC → Prop} (I : Inv S C) (k : ∀ r, P r r C) : K_X10_of_0 (d + 2) 0 0 l1 l2 S C (fun r Sq C2 => Sq = S ∧ K_X11_of_0 (d + 2) 0 0 l1 l2 S C2 (fun r2 Sq C3 => Sq = S ∧ P r r2 C3)) := by
  have F := I.1
  obtain ⟨⟨d1, d2, d3⟩, a2, -⟩ := I.2.1
  have mod : ∀ r, (¬ (0 ≤ l1 ∧ l1 < C 1 0) ∨ l2 < 0 ∨ 2 < l2 → r = -1) → ((0 ≤ l1 ∧ l1 < C 1 0) → (l2 = 0 → C 83 (25 + l1) = r) ∧ (l2 = 1 → C 83 (31 + l1) = r) ∧ (l2 = 2 → obn (C 83) l1 8 = r)) → K_X11_of_0 (d + 2) 0 0 l1 l2 S C (fun r2 Sq C3 => Sq = S ∧ P r r2 C3) := by
    intro r hr1 hr2
    refine b_X11_of_0 F (s_isHouse F d2 fun q hq => ⟨rfl, fun e => ⟨fun z => ⟨rfl, ?_⟩, fun z => ?_, fun z => ?_, fun z => b_X11_ownedBy_0 F (s_ownedBy4 F ⟨rfl, rfl, ?_⟩)⟩, fun e => ⟨rfl, ?_⟩⟩)
    · rw [hr1 (by omega)]; exact k _
    · rw [w32_lit (x := 25 + l1) (by omega), (hr2 (by omega)).1 z]; exact ⟨by omega, rfl, k _⟩
    · rw [w32_lit (x := 31 + l1) (by omega), (hr2 (by omega)).2.1 z]; exact ⟨by omega, rfl, k _⟩
    · rw [(hr2 (by omega)).2.2 z]; exact k _
    · rw [hr1 (by omega)]; exact k _
  refine b_X10_of_0 F (s_hasHouse F isSt1 fun q hq => ⟨rfl, fun e => ⟨fun z => ⟨rfl, mod _ (fun _ => rfl) (fun _ => ⟨by omega, by omega, by omega⟩)⟩, fun z => ⟨by omega, rfl, mod _ (by omega) (fun _ => ⟨fun _ => (d3 l1 (by omega) (by omega)).1.symm, by omega, by omega⟩)⟩, fun z => ⟨by omega, rfl, mod _ (by omega) (fun _ => ⟨by omega, fun _ => (d3 l1 (by omega) (by omega)).2.1.symm, by omega⟩)⟩, fun z => b_X7_keysOf_0 F isSt1 (s_keysOf4 F isSt1 ⟨rfl, rfl, mod _ (by omega) (fun _ => ⟨by omega, by omega, fun _ => obn_cong (fun j x0 x1 => (a2 j x0 x1).1.symm) 8 (by omega)⟩)⟩)⟩, fun e => ⟨rfl, mod _ (fun _ => rfl) (fun _ => by omega)⟩⟩)
/-- notes of the first k beats -/
def ntn (r : Int → Int) : Nat → Int
  | 0 => 0
  | k + 1 => ntn r k + pc8 (r k)
theorem pc8_bd {x : Int} (h : 0 ≤ x ∧ x < 256) : 0 ≤ pc8 x ∧ pc8 x ≤ 8 := by
  have := pcn_all x.toNat (by omega) 8 (by omega)
  rw [Int.toNat_of_nonneg h.1] at this
  exact this
theorem ntn_bd {r : Int → Int} (h : ∀ k, 0 ≤ k → k < 16 → 0 ≤ r k ∧ r k ≤ 255) : ∀ k : Nat, k ≤ 16 → 0 ≤ ntn r k ∧ ntn r k ≤ 8 * k
  | 0, _ => by simp [ntn]
  | k + 1, hk => by
    have h1 := ntn_bd h k (by omega)
    have h3 := h k (by omega) (by omega)
    have h2 := pc8_bd (x := r k) (by omega)
    show 0 ≤ ntn r k + pc8 (r k) ∧ ntn r k + pc8 (r k) ≤ _
    omega
theorem ntn_cong {r r' : Int → Int} (h : ∀ k, 0 ≤ k → k < 16 → r k = r' k) : ∀ k : Nat, k ≤ 16 → ntn r k = ntn r' k
  | 0, _ => rfl
  | k + 1, hk => by
    unfold ntn
    rw [ntn_cong h k (by omega), h k (by omega) (by omega)]
theorem s_countNotes {d mc ms : Nat} {a : Int} {S : MS} {C : MC} {Q : Qt} (F : Fix S) (ha : isSt a) (hm : ∀ k, 0 ≤ k → k < 16 → 0 ≤ C (a + 4) k ∧ C (a + 4) k ≤ 255) (h : Q (ntn (C (a + 4)) 16) S C) : K_X7_countNotes_0 (d + 1) mc ms a S C Q := by
  refine b_X7_countNotes_0 F ha ?_
  refine up_ind (α := Unit) (P := fun _ _ => True) (K := fun k _ => K_X7_countNotes_4 (d + 1) mc ms a (ntn (C (a + 4)) k) (k : Int) S C Q) 16 ?_ ?_ 0 (by omega) () trivial
  · intro _ _
    exact b_X7_countNotes_4 F ha ⟨fun _ => h, fun z => absurd (by decide) z⟩
  · intro k _ hk _ ih
    have h1 := hm k (by omega) (by omega)
    have h2 := ntn_bd hm (k + 1) (by omega)
    refine b_X7_countNotes_4 F ha ⟨fun z => by omega, fun _ => ⟨by omega, s_bitCount F (by omega) ⟨rfl, ?_⟩⟩⟩
    have e : ntn (C (a + 4)) k + pc8 (C (a + 4) k) = ntn (C (a + 4)) (k + 1) := rfl
    rw [e, w32_lit (by omega), w32_succ (by omega)]
    exact ih () trivial
theorem s_notes0 {d mc ms : Nat} {S : MS} {C : MC} {Q : Qt} (F : Fix S) (hm : ∀ k, 0 ≤ k → k < 16 → 0 ≤ C 83 (8 + k) ∧ C 83 (8 + k) ≤ 255) (h : Q (ntn (fun b => C 83 (8 + b)) 16) S C) : K_X11_notes0_0 (d + 1) mc ms S C Q := by
  refine b_X11_notes0_0 F ?_
  refine up_ind (α := Unit) (P := fun _ _ => True) (K := fun k _ => K_X11_notes0_4 (d + 1) mc ms (ntn (fun b => C 83 (8 + b)) k) (k : Int) S C Q) 16 ?_ ?_ 0 (by omega) () trivial
  · intro _ _
    exact b_X11_notes0_4 F ⟨fun _ => h, fun z => absurd (by decide) z⟩
  · intro k _ hk _ ih
    have h1 := hm k (by omega) (by omega)
    have h2 := ntn_bd (r := fun b => C 83 (8 + b)) hm (k + 1) (by omega)
    refine b_X11_notes0_4 F ⟨fun z => by omega, fun _ => s_musicAt F (by omega) ⟨rfl, s_ones F (by omega) ⟨rfl, ?_⟩⟩⟩
    have e : ntn (fun b => C 83 (8 + b)) k + pc8 (C 83 (8 + k)) = ntn (fun b => C 83 (8 + b)) (k + 1) := rfl
    rw [e, w32_lit (by omega), w32_succ (by omega)]
    exact ih () trivial
def cntV (C : MC) (l : Int) : Int := if l = 0 then C 83 45 else if l = 1 then ntn (fun b => C 83 (8 + b)) 16 else if l = 2 then C 83 46 else if l = 3 then C 83 47 else if l = 4 then C 81 42 else if l = 5 then C 81 13 else if l = 6 then C 82 1 else if l = 7 then C 82 2 else if l = 8 then C 82 3 else if l = 9 then C 82 5 else if l = 10 then C 82 6 else if l = 11 then C 83 48 else if l = 12 then C 83 24 else if l = 13 then C 83 43 else if l = 14 then C 83 44 else -1
theorem cntV_out {C : MC} {l : Int} (h : l < 0 ∨ 14 < l) : cntV C l = -1 := by
  unfold cntV
  rw [if_neg (by omega), if_neg (by omega), if_neg (by omega), if_neg (by omega), if_neg (by omega), if_neg (by omega), if_neg (by omega), if_neg (by omega), if_neg (by omega), if_neg (by omega), if_neg (by omega), if_neg (by omega), if_neg (by omega), if_neg (by omega), if_neg (by omega)]
theorem q_count {d : Nat} {l : Int} {S : MS} {C : MC} {P : Int → Int → MC → Prop} (I : Inv S C) (k : ∀ r, P r r C) : K_X10_count_0 (d + 3) 0 0 l S C (fun r Sq C2 => Sq = S ∧ K_X11_count_0 (d + 3) 0 0 l S C2 (fun r2 Sq C3 => Sq = S ∧ P r r2 C3)) := by
  have F := I.1
  obtain ⟨a1, a2, a3, a4, a5, a6⟩ := I.2.1
  obtain ⟨r0, r1, r2, r3, r4, r5⟩ := I.2.2.2.1
  have hT := I.2.2.2.2.1.1
  have hU := I.2.2.2.2.2.2.1.1
  have mod : ∀ r, r = cntV C l → K_X11_count_0 (d + 3) 0 0 l S C (fun r2 Sq C3 => Sq = S ∧ P r r2 C3) := by
    intro r hr
    have hk : ∀ x, r = x → P r x C := fun x e => e ▸ k r
    refine b_X11_count_0 F ⟨fun z => ⟨rfl, hk _ (by rw [hr, cntV_out z])⟩, fun z => ?_, fun z => ?_, fun z => ?_, fun z => ?_, fun z => ?_, fun z => ?_, fun z => ?_, fun z => ?_, fun z => ?_, fun z => ?_, fun z => ?_, fun z => ?_, fun z => ?_, fun z => ?_, fun z => ?_⟩ <;> subst z
    · exact b_X11_many_0 F ⟨rfl, rfl, hk _ hr⟩
    · exact s_notes0 F (fun b x0 x1 => (a3 b x0 x1).2) ⟨rfl, rfl, hk _ hr⟩
    · exact ⟨rfl, hk _ hr⟩
    · exact ⟨rfl, hk _ hr⟩
    · exact ⟨rfl, hk _ hr⟩
    · exact ⟨rfl, hk _ hr⟩
    · exact ⟨by decide, rfl, hk _ hr⟩
    · exact ⟨by decide, rfl, hk _ hr⟩
    · exact ⟨by decide, rfl, hk _ hr⟩
    · exact ⟨rfl, hk _ hr⟩
    · exact ⟨rfl, hk _ hr⟩
    · exact ⟨rfl, hk _ hr⟩
    · exact b_X11_termAt_0 F ⟨fun z => absurd (by decide) z, fun _ => ⟨rfl, by decide, rfl, hk _ hr⟩⟩
    · exact b_X11_termAt_0 F ⟨fun _ => ⟨fun z => absurd (by decide) z, fun _ => ⟨rfl, by decide, rfl, hk _ hr⟩⟩, fun z => absurd z (by decide)⟩
    · exact b_X11_termAt_0 F ⟨fun _ => ⟨fun _ => ⟨rfl, by decide, rfl, hk _ hr⟩, fun z => absurd z (by decide)⟩, fun z => absurd z (by decide)⟩
  have c47 : l < 6 ∨ l = 11 ∨ 14 < l → K_X10_count_47 (d + 3) 0 0 l S C (fun r Sq C2 => Sq = S ∧ K_X11_count_0 (d + 3) 0 0 l S C2 (fun r2 Sq C3 => Sq = S ∧ P r r2 C3)) := by
    intro hl
    refine b_X10_count_47 F ⟨fun z => ⟨rfl, mod _ (cntV_out (by omega)).symm⟩, fun z => ⟨rfl, mod _ ?_⟩, fun z => s_countNotes F isSt1 (fun b x0 x1 => ?_) ⟨rfl, rfl, mod _ ?_⟩, fun z => ⟨rfl, mod _ ?_⟩, fun z => ⟨rfl, mod _ ?_⟩, fun z => ⟨rfl, mod _ ?_⟩, fun z => ⟨rfl, mod _ ?_⟩, fun z => by omega, fun z => by omega, fun z => by omega, fun z => by omega, fun z => by omega, fun z => ⟨rfl, mod _ ?_⟩⟩
    · rw [z]; exact a1.1
    · have := a3 b x0 x1; omega
    · rw [z]; exact ntn_cong (fun b x0 x1 => (a3 b x0 x1).1) 16 (by omega)
    · rw [z]; exact a4.1
    · rw [z]; exact a5.1.1
    · rw [z]; exact hU
    · rw [z]; exact hT
    · rw [z]; exact a5.2.1.1
  have t : 12 ≤ l → l ≤ 14 → ((0 : Int) ≤ w32 (l - 12) ∧ w32 (l - 12) < 3) ∧ (S = S ∧ K_X11_count_0 (d + 3) 0 0 l S C (fun r2 Sq C3 => Sq = S ∧ P (C 8 (w32 (l - 12))) r2 C3)) := by
    intro h0 h1
    rw [w32_lit (x := l - 12) (by omega)]
    refine ⟨by omega, rfl, mod _ ?_⟩
    rcases (by omega : l = 12 ∨ l = 13 ∨ l = 14) with z | z | z <;> subst z
    · exact a6.1.1
    · exact a6.2.1.1
    · exact a6.2.2.1
  refine b_X10_count_0 F ⟨fun z => ⟨fun _ => c47 (by omega), fun z2 => by omega⟩, fun z => ⟨fun z2 => ⟨fun z3 => c47 (by omega), fun z3 => ⟨fun z4 => c47 (by omega), fun z4 => t (by omega) (by omega)⟩⟩, fun z2 => ?_⟩⟩
  rw [w32_lit (x := l - 6) (by omega)]
  refine ⟨by omega, rfl, mod _ ?_⟩
  rcases (by omega : l = 6 ∨ l = 7 ∨ l = 8 ∨ l = 9 ∨ l = 10) with z | z | z | z | z <;> subst z
  · exact r1
  · exact r2
  · exact r3
  · exact r4
  · exact r5
/-! terms -/
def tI (l : Int) : Int := if l = 0 then 24 else if l = 1 then 43 else 44
def tM (l : Int) : Int := if l = 0 then 999 else if l = 1 then 10 else 9
theorem q_termsM {d : Nat} {l1 l2 : Int} {S : MS} {C : MC} {Q : Qt} (F : Fix S) (h1 : (0 ≤ l1 ∧ l1 ≤ 2) ∧ 0 ≤ l2 ∧ l2 ≤ tM l1 → Q (C 83 (tI l1)) S (upC (upC (upC C 83 (tI l1) l2) 81 42 0) 81 0 0)) (h2 : ¬ ((0 ≤ l1 ∧ l1 ≤ 2) ∧ 0 ≤ l2 ∧ l2 ≤ tM l1) → Q (-1) S (rfM C (-1))) : K_X11_terms_0 (d + 2) 0 0 l1 l2 S C Q := by
  have bad : ¬ ((0 ≤ l1 ∧ l1 ≤ 2) ∧ 0 ≤ l2 ∧ l2 ≤ tM l1) → K_X11_refuses_0 (d + 1) 0 0 (-1) S C (fun r Sq C2 => Sq = S ∧ Q r S C2) := fun h => s_refuses F (by unfold okR; omega) ⟨rfl, h2 h⟩
  refine b_X11_terms_0 F (b_X11_isTerm_0 F ⟨fun z => ⟨rfl, fun e => absurd rfl e, fun _ => bad (by omega)⟩, fun z => ?_, fun z => ?_, fun z => ?_⟩)
  · subst z
    refine s_lies F fun r hr => ⟨rfl, by omega, rfl, fun e => ?_, fun e => bad (by show ¬ (_ ∧ _ ∧ l2 ≤ 999); omega)⟩
    have ta : ∀ Q : Qt, Q 24 S C → K_X11_termAt_0 (d + 1) 0 0 0 S C Q := fun Q h => b_X11_termAt_0 F ⟨fun z => absurd rfl z, fun _ => h⟩
    exact ta _ ⟨rfl, by decide, ta _ ⟨rfl, by decide, s_goodAnew F ⟨rfl, h1 (by show _ ∧ _ ∧ l2 ≤ 999; omega)⟩⟩⟩
  · subst z
    refine s_lies F fun r hr => ⟨rfl, by omega, rfl, fun e => ?_, fun e => bad (by show ¬ (_ ∧ _ ∧ l2 ≤ 10); omega)⟩
    have ta : ∀ Q : Qt, Q 43 S C → K_X11_termAt_0 (d + 1) 0 0 1 S C Q := fun Q h => b_X11_termAt_0 F ⟨fun _ => ⟨fun z => absurd rfl z, fun _ => h⟩, fun z => absurd z (by decide)⟩
    exact ta _ ⟨rfl, by decide, ta _ ⟨rfl, by decide, s_goodAnew F ⟨rfl, h1 (by show _ ∧ _ ∧ l2 ≤ 10; omega)⟩⟩⟩
  · subst z
    refine s_lies F fun r hr => ⟨rfl, by omega, rfl, fun e => ?_, fun e => bad (by show ¬ (_ ∧ _ ∧ l2 ≤ 9); omega)⟩
    have ta : ∀ Q : Qt, Q 44 S C → K_X11_termAt_0 (d + 1) 0 0 2 S C Q := fun Q h => b_X11_termAt_0 F ⟨fun _ => ⟨fun _ => h, fun z => absurd z (by decide)⟩, fun z => absurd z (by decide)⟩
    exact ta _ ⟨rfl, by decide, ta _ ⟨rfl, by decide, s_goodAnew F ⟨rfl, h1 (by show _ ∧ _ ∧ l2 ≤ 9; omega)⟩⟩⟩
theorem q_terms {d : Nat} {l1 l2 : Int} {S : MS} {C : MC} {P : Int → Int → MC → Prop} (I : Inv S C) (k : ∀ r C', Inv S C' → P r r C') : K_X10_terms_0 (d + 2) 0 0 l1 l2 S C (fun r Sq C2 => Sq = S ∧ K_X11_terms_0 (d + 2) 0 0 l1 l2 S C2 (fun r2 Sq C3 => Sq = S ∧ P r r2 C3)) := by
  have F := I.1
  obtain ⟨a1, a2, a3, a4, a5, a6⟩ := I.2.1
  obtain ⟨f1, f2, f3⟩ := a6
  have bad1 : ¬ ((0 ≤ l1 ∧ l1 ≤ 2) ∧ 0 ≤ l2 ∧ l2 ≤ tM l1) → K_X10_refuse_0 (d + 1) 0 0 (-1) S C (fun r Sq C2 => Sq = S ∧ Sq = S ∧ K_X11_terms_0 (d + 2) 0 0 l1 l2 S C2 (fun r2 Sq C3 => Sq = S ∧ P r r2 C3)) := by
    intro hl
    refine s_refuse F (by unfold okR; omega) ⟨rfl, rfl, ?_⟩
    exact q_termsM F (fun h => absurd h hl) (fun _ => ⟨rfl, k _ _ (Inv_refuse (by unfold okR; omega) I)⟩)
  have bad2 : ¬ ((0 ≤ l1 ∧ l1 ≤ 2) ∧ 0 ≤ l2 ∧ l2 ≤ tM l1) → K_X10_refuse_0 (d + 1) 0 0 (-1) S C (fun r Sq C2 => Sq = S ∧ S = S ∧ K_X11_terms_0 (d + 2) 0 0 l1 l2 S C2 (fun r2 Sq C3 => Sq = S ∧ P r r2 C3)) := fun h => (bad1 h).mono (fun x S' C' h => ⟨h.1, rfl, h.2.2⟩)
  have good : (0 ≤ l1 ∧ l1 ≤ 2) ∧ 0 ≤ l2 ∧ l2 ≤ tM l1 → ((0 : Int) ≤ l1 ∧ l1 < 3) ∧ ((0 : Int) ≤ l1 ∧ l1 < 3) ∧ K_X0_clear_0 (d + 1) 0 0 S (upC C 8 l1 l2) (fun r9 Sq C10 => Sq = S ∧ K_X10_accept_0 (d + 1) 0 0 (C 8 l1) S C10 (fun r11 Sq C12 => Sq = S ∧ S = S ∧ K_X11_terms_0 (d + 2) 0 0 l1 l2 S C12 (fun r2 Sq C3 => Sq = S ∧ P r11 r2 C3))) := by
    intro hl
    refine ⟨by omega, by omega, b_X0_clear_0 F ⟨rfl, b_X10_accept_0 F ⟨rfl, rfl, q_termsM F (fun _ => ⟨rfl, ?_⟩) (fun h => absurd hl h)⟩⟩⟩
    have ht : tI l1 = 24 ∨ tI l1 = 43 ∨ tI l1 = 44 := by unfold tI; split <;> (try split) <;> omega
    have e : upC (upC (upC C 8 l1 l2) 55 3 0) 0 16 0 83 (tI l1) = C 8 l1 := by
      rw [upC_ne (by decide), upC_ne (by decide), upC_ne (by decide)]
      rcases (by omega : l1 = 0 ∨ l1 = 1 ∨ l1 = 2) with z | z | z <;> subst z
      · exact f1.1.symm
      · exact f2.1.symm
      · exact f3.1.symm
    rw [e]
    refine k _ _ ?_
    have hf : Fp (fun a k => (a = 8 ∧ k = l1) ∨ (a = 55 ∧ k = 3) ∨ (a = 0 ∧ k = 16) ∨ (a = 83 ∧ k = tI l1) ∨ (a = 81 ∧ (k = 42 ∨ k = 0))) C (upC (upC (upC (upC (upC (upC C 8 l1 l2) 55 3 0) 0 16 0) 83 (tI l1) l2) 81 42 0) 81 0 0) := Fp_up (by omega) (Fp_up (by omega) (Fp_up (by omega) (Fp_up (by omega) (Fp_up (by omega) (Fp_up (by omega) Fp_rf)))))
    generalize hC' : upC (upC (upC (upC (upC (upC C 8 l1 l2) 55 3 0) 0 16 0) 83 (tI l1) l2) 81 42 0) 81 0 0 = C' at hf ⊢
    have q7 : C' 0 16 = 0 := by rw [← hC']; simp [upC]
    have q8 : C' 81 0 = 0 := by rw [← hC']; simp [upC]
    have q9 : C' 55 3 = 0 := by rw [← hC']; simp [upC]
    have q10 : C' 81 42 = 0 := by rw [← hC']; simp [upC]
    have q1 : C' 8 l1 = l2 := by rw [← hC']; simp [upC]
    have q2 : C' 83 (tI l1) = l2 := by rw [← hC', upC_ne (by decide), upC_ne (by decide), upC_at]
    refine Inv_p I hf (by refine ⟨?_, ?_, ?_, ?_, ?_⟩ <;> intros <;> omega) ⟨Ra_p a1 hf (by refine ⟨?_, ?_, ?_, ?_⟩ <;> intros <;> omega), Rb_p a2 hf (by refine ⟨?_, ?_⟩ <;> intros <;> omega), Rc_p a3 hf (by refine ⟨?_, ?_⟩ <;> intros <;> omega), Rd_p a4 hf (by refine ⟨?_, ?_, ?_⟩ <;> intros <;> omega), Re_p a5 hf (by refine ⟨?_, ?_, ?_, ?_⟩ <;> intros <;> omega), ?_⟩ (IvR_p I.2.2.2.1 hf q7 q8 (by intros; omega)) (IvT_p I.2.2.2.2.1 hf (by refine ⟨?_, ?_, ?_⟩ <;> intros <;> omega)) (IvX_p I.2.2.2.2.2.1 hf (by refine ⟨?_, ?_, ?_, ?_, ?_, ?_⟩ <;> omega)) (IvU_none q9 q10)
    show (C' 8 0 = C' 83 24 ∧ _) ∧ (C' 8 1 = C' 83 43 ∧ _) ∧ (C' 8 2 = C' 83 44 ∧ _)
    have f1' : C 8 0 = C 83 24 := f1.1
    have f2' : C 8 1 = C 83 43 := f2.1
    have f3' : C 8 2 = C 83 44 := f3.1
    rcases (by omega : l1 = 0 ∨ l1 = 1 ∨ l1 = 2) with z | z | z <;> subst z
    · have q2 : C' 83 24 = l2 := q2
      have hl : _ ∧ _ ∧ l2 ≤ 999 := hl
      rw [q1, q2, hf 8 1 (by omega), hf 83 43 (by show ¬ (_ ∨ _ ∨ _ ∨ (_ ∧ (43 : Int) = 24) ∨ _); omega), hf 8 2 (by omega), hf 83 44 (by show ¬ (_ ∨ _ ∨ _ ∨ (_ ∧ (44 : Int) = 24) ∨ _); omega)]
      exact ⟨⟨rfl, hl.2⟩, f2, f3⟩
    · have q2 : C' 83 43 = l2 := q2
      have hl : _ ∧ _ ∧ l2 ≤ 10 := hl
      rw [q1, q2, hf 8 0 (by omega), hf 83 24 (by show ¬ (_ ∨ _ ∨ _ ∨ (_ ∧ (24 : Int) = 43) ∨ _); omega), hf 8 2 (by omega), hf 83 44 (by show ¬ (_ ∨ _ ∨ _ ∨ (_ ∧ (44 : Int) = 43) ∨ _); omega)]
      exact ⟨f1, ⟨rfl, hl.2⟩, f3⟩
    · have q2 : C' 83 44 = l2 := q2
      have hl : _ ∧ _ ∧ l2 ≤ 9 := hl
      rw [q1, q2, hf 8 0 (by omega), hf 83 24 (by show ¬ (_ ∨ _ ∨ _ ∨ (_ ∧ (24 : Int) = 44) ∨ _); omega), hf 8 1 (by omega), hf 83 43 (by show ¬ (_ ∨ _ ∨ _ ∨ (_ ∧ (43 : Int) = 44) ∨ _); omega)]
      exact ⟨f1, f2, ⟨rfl, hl.2⟩⟩
  have ht : (l1 = 0 → tM l1 = 999) ∧ (l1 = 1 → tM l1 = 10) ∧ (l1 = 2 → tM l1 = 9) := ⟨fun z => by rw [z]; rfl, fun z => by rw [z]; rfl, fun z => by rw [z]; rfl⟩
  refine b_X10_terms_0 F ⟨fun z => bad2 (by omega), fun z => ⟨fun z2 => bad2 (by omega), fun z2 => ⟨fun z3 => bad2 (by omega), fun z3 => b_X10_mostTerm_0 F ⟨fun z4 => ⟨fun z5 => ⟨rfl, fun z6 => good (by omega), fun z6 => bad2 (by omega)⟩, fun z5 => ⟨rfl, fun z6 => good (by omega), fun z6 => bad2 (by omega)⟩⟩, fun z4 => ⟨rfl, fun z6 => good (by omega), fun z6 => bad2 (by omega)⟩⟩⟩⟩⟩
