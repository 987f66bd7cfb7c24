/-! 35.find: find, feed, row -/
theorem s_motifStands {d m : Nat} {a b n : Int} {S : MS} {C : MC} {Q : Qt} (F : Fix S) (ha : isSt a) (hm : C a 6 = m) (hm6 : m ≤ 6) (hb : 0 ≤ b ∧ b + m ≤ 16) (hn : -7 ≤ n ∧ n ≤ 7) (h : ∀ r, (r = 1 ∧ (∀ i : Nat, i < m → shN (C (a + 5) i) n = C (a + 4) (b + i)) ∨ r = 0 ∧ ¬ (∀ i : Nat, i < m → shN (C (a + 5) i) n = C (a + 4) (b + i))) → Q r S C) : K_X7_motifStands_0 (d + 1) 0 0 a b n S C Q := by
  refine b_X7_motifStands_0 F ha ?_
  refine up_ind (α := Unit) (P := fun k _ => ∀ i : Nat, i < k → shN (C (a + 5) i) n = C (a + 4) (b + i)) (K := fun k _ => K_X7_motifStands_2 (d + 1) 0 0 a b n (k : Int) S C Q) m ?_ ?_ 0 (by omega) () (fun i hi => absurd hi (Nat.not_lt_zero i))
  · intro _ hP
    exact b_X7_motifStands_2 F ha ⟨fun _ => h 1 (Or.inl ⟨rfl, hP⟩), fun z => by omega⟩
  · intro k _ hk hP ih
    refine b_X7_motifStands_2 F ha ⟨fun z => by omega, fun _ => ?_⟩
    rw [w32_lit (x := b + (k : Int)) (by omega)]
    refine s_isBeatC F fun r hr => ⟨rfl, fun z => by omega, fun _ => ⟨by omega, s_shiftedC F hn ⟨rfl, by omega, fun e => ?_, fun e => ?_⟩⟩⟩
    · rw [w32_succ (by omega)]
      refine ih () (fun i hi => ?_)
      by_cases e2 : i = k
      · rw [e2]; exact e
      · exact hP i (by omega)
    · exact h 0 (Or.inr ⟨rfl, fun z => e (z k hk)⟩)
theorem s_isFound {d m : Nat} {b n : Int} {S : MS} {C : MC} {Q : Qt} (F : Fix S) (hm : C 83 46 = m) (hm6 : m ≤ 6) (hb : 0 ≤ b ∧ b + m ≤ 16) (hn : -7 ≤ n ∧ n ≤ 7) (hx : ∀ i : Nat, i < 6 → 0 ≤ C 83 (37 + i) ∧ C 83 (37 + i) ≤ 255) (h : ∀ r, (r = 1 ∧ (∀ i : Nat, i < m → shN (C 83 (37 + i)) n = C 83 (8 + (b + i))) ∨ r = 0 ∧ ¬ (∀ i : Nat, i < m → shN (C 83 (37 + i)) n = C 83 (8 + (b + i)))) → Q r S C) : K_X11_isFound_0 (d + 3) 0 0 b n S C Q := by
  refine b_X11_isFound_0 F ?_
  refine up_ind (α := Unit) (P := fun k _ => ∀ i : Nat, i < k → shN (C 83 (37 + i)) n = C 83 (8 + (b + i))) (K := fun k _ => K_X11_isFound_5 (d + 3) 0 0 b n 1 (k : Int) S C Q) m ?_ ?_ 0 (by omega) () (fun i hi => absurd hi (Nat.not_lt_zero i))
  · intro _ hP
    exact b_X11_isFound_5 F ⟨fun _ => ⟨by omega, h 1 (Or.inl ⟨rfl, hP⟩)⟩, fun z => by omega⟩
  · intro k _ hk hP ih
    refine b_X11_isFound_5 F ⟨fun z => by omega, fun _ => ⟨fun z => by omega, fun _ => ?_⟩⟩
    rw [w32_lit (x := b + (k : Int)) (by omega), w32_lit (x := 37 + (k : Int)) (by omega), w32_succ (by omega)]
    refine ⟨by omega, s_shiftedM F (hx k (by omega)) hn ⟨rfl, s_musicAt F (by omega) ⟨rfl, fun e => ?_, fun e => ?_⟩⟩⟩
    · have no : ¬ (∀ i : Nat, i < m → shN (C 83 (37 + i)) n = C 83 (8 + (b + i))) := fun z => e (z k hk)
      exact b_X11_isFound_5 F ⟨fun _ => ⟨by omega, h 0 (Or.inr ⟨rfl, no⟩)⟩, fun _ => ⟨fun _ => ⟨by omega, h 0 (Or.inr ⟨rfl, no⟩)⟩, fun z => absurd rfl z⟩⟩
    · refine ih () (fun i hi => ?_)
      by_cases e2 : i = k
      · rw [e2]; exact e
      · exact hP i (by omega)
theorem s_hasKeys {d mc ms m : Nat} {a : Int} {S : MS} {C : MC} {Q : Qt} (F : Fix S) (ha : isSt a) (hm : C a 6 = m) (hm6 : m ≤ 6) (h : ∀ r, (r = 0 ∧ (∀ i : Nat, i < m → C (a + 5) i = 0) ∨ r = 1 ∧ ¬ (∀ i : Nat, i < m → C (a + 5) i = 0)) → Q r S C) : K_X7_motifHasKeys_0 d mc ms a S C Q := by
  refine b_X7_motifHasKeys_0 F ha ?_
  refine up_ind (α := Unit) (P := fun k _ => ∀ i : Nat, i < k → C (a + 5) i = 0) (K := fun k _ => K_X7_motifHasKeys_2 d mc ms a (k : Int) S C Q) m ?_ ?_ 0 (by omega) () (fun i hi => absurd hi (Nat.not_lt_zero i))
  · intro _ hP
    exact b_X7_motifHasKeys_2 F ha ⟨fun _ => h 0 (Or.inl ⟨rfl, hP⟩), fun z => by omega⟩
  · intro k _ hk hP ih
    refine b_X7_motifHasKeys_2 F ha ⟨fun z => by omega, fun _ => ⟨by omega, fun e => ?_, fun e => ?_⟩⟩
    · rw [w32_succ (by omega)]
      refine ih () (fun i hi => ?_)
      by_cases e2 : i = k
      · rw [e2]; exact e
      · exact hP i (by omega)
    · exact h 1 (Or.inr ⟨rfl, fun z => e (z k hk)⟩)
theorem s_isSilent {d mc ms m : Nat} {S : MS} {C : MC} {Q : Qt} (F : Fix S) (hm : C 83 46 = m) (hm6 : m ≤ 6) (h : ∀ r, (r = 1 ∧ (∀ i : Nat, i < m → C 83 (37 + i) = 0) ∨ r = 0 ∧ ¬ (∀ i : Nat, i < m → C 83 (37 + i) = 0)) → Q r S C) : K_X11_isSilent_0 d mc ms S C Q := by
  refine b_X11_isSilent_0 F ?_
  have go0 : ∀ j k : Nat, k + j = m → (¬ (∀ i : Nat, i < m → C 83 (37 + i) = 0)) → K_X11_isSilent_4 d mc ms 0 (k : Int) S C Q := by
    intro j
    induction j with
    | zero => intro k hk no; exact b_X11_isSilent_4 F ⟨fun _ => ⟨by omega, h 0 (Or.inr ⟨rfl, no⟩)⟩, fun z => by omega⟩
    | succ j ih =>
      intro k hk no
      refine b_X11_isSilent_4 F ⟨fun z => by omega, fun _ => ⟨fun _ => ?_, fun z => absurd rfl z⟩⟩
      rw [w32_succ (by omega)]
      exact ih (k + 1) (by omega) no
  refine up_ind (α := Unit) (P := fun k _ => ∀ i : Nat, i < k → C 83 (37 + i) = 0) (K := fun k _ => K_X11_isSilent_4 d mc ms 1 (k : Int) S C Q) m ?_ ?_ 0 (by omega) () (fun i hi => absurd hi (Nat.not_lt_zero i))
  · intro _ hP
    exact b_X11_isSilent_4 F ⟨fun _ => ⟨by omega, h 1 (Or.inl ⟨rfl, hP⟩)⟩, fun z => by omega⟩
  · intro k _ hk hP ih
    refine b_X11_isSilent_4 F ⟨fun z => by omega, fun _ => ⟨fun z => by omega, fun _ => ?_⟩⟩
    rw [w32_lit (x := 37 + (k : Int)) (by omega), w32_succ (by omega)]
    refine ⟨by omega, fun e => go0 (m - (k + 1)) (k + 1) (by omega) (fun z => e (z k hk)), fun e => ?_⟩
    refine ih () (fun i hi => ?_)
    by_cases e2 : i = k
    · rw [e2]; exact e
    · exact hP i (by omega)
theorem q_find {d : Nat} {l : Int} {S : MS} {C : MC} {P : Int → Int → MC → Prop} (I : Inv S C) (k : ∀ r, P r r C) : K_X10_find_0 (d + 5) 0 0 l S C (fun r Sq C2 => Sq = S ∧ K_X11_find_0 (d + 5) 0 0 l S C2 (fun r2 Sq C3 => Sq = S ∧ P r r2 C3)) := by
  have F := I.1
  obtain ⟨a1, a2, a3, ⟨d1, d2, d3⟩, -⟩ := I.2.1
  obtain ⟨m, hm⟩ : ∃ m : Nat, C 83 46 = m := ⟨(C 83 46).toNat, by omega⟩
  have hm1 : C 1 6 = m := by rw [d1]; exact hm
  have e6 : ∀ i : Nat, i < 6 → C 6 i = C 83 (37 + i) := fun i hi => (d3 i (by omega) (by omega)).1
  have e5 : ∀ b : Int, 0 ≤ b → b < 16 → C 5 b = C 83 (8 + b) := fun b x0 x1 => (a3 b x0 x1).1
  have bad : l < -1 ∨ m = 0 → K_X11_find_0 (d + 5) 0 0 l S C (fun r2 Sq C3 => Sq = S ∧ P (-1) r2 C3) := fun hb =>
    b_X11_find_0 F ⟨fun _ => ⟨rfl, k _⟩, fun z => ⟨fun z2 => by omega, fun _ => ⟨rfl, k _⟩⟩⟩
  have main : ∀ far : Int, far = 0 ∨ far = 7 → ∀ (f : Nat) (b : Nat), b + f = 17 → ∀ fd : Int,
      K_X10_find_39 (d + 5) 0 0 l far fd (b : Int) S C (fun r Sq C2 => Sq = S ∧ C2 = C ∧ ∀ Q : Qt, Q r S C → K_X11_find_36 (d + 5) 0 0 l far fd (b : Int) S C Q) := by
    intro far hfar f
    induction f with
    | zero =>
      intro b hb fd
      refine b_X10_find_39 F ?_
      rw [hm1, w32_lit (x := (b : Int) + m) (by omega)]
      refine ⟨fun _ => ⟨fun z => ⟨rfl, rfl, fun Q hQ => b_X11_find_36 F ?_⟩, fun z => ⟨rfl, rfl, fun Q hQ => b_X11_find_36 F ?_⟩⟩, fun z => by omega⟩
      · rw [hm, w32_lit (x := 16 - (m : Int)) (by omega)]
        exact ⟨fun _ => ⟨fun _ => hQ, fun z2 => absurd z2 z⟩, fun z2 => by omega⟩
      · rw [hm, w32_lit (x := 16 - (m : Int)) (by omega)]
        exact ⟨fun _ => ⟨fun z2 => absurd z z2, fun _ => hQ⟩, fun z2 => by omega⟩
    | succ f ih =>
      intro b hb fd
      refine b_X10_find_39 F ?_
      rw [hm1, w32_lit (x := (b : Int) + m) (by omega)]
      refine ⟨fun hbig => ⟨fun z => ⟨rfl, rfl, fun Q hQ => b_X11_find_36 F ?_⟩, fun z => ⟨rfl, rfl, fun Q hQ => b_X11_find_36 F ?_⟩⟩, fun hle => ?_⟩
      · rw [hm, w32_lit (x := 16 - (m : Int)) (by omega)]
        exact ⟨fun _ => ⟨fun _ => hQ, fun z2 => absurd z2 z⟩, fun z2 => by omega⟩
      · rw [hm, w32_lit (x := 16 - (m : Int)) (by omega)]
        exact ⟨fun _ => ⟨fun z2 => absurd z z2, fun _ => hQ⟩, fun z2 => by omega⟩
      · have inner : ∀ (g : Nat) (n : Int), n + g = far + 1 → -far ≤ n → ∀ fd : Int,
            K_X10_find_58 (d + 5) 0 0 l far fd (b : Int) n S C (fun r Sq C2 => Sq = S ∧ C2 = C ∧ ∀ Q : Qt, Q r S C → K_X11_find_55 (d + 5) 0 0 l far fd (b : Int) n S C Q) := by
          intro g
          induction g with
          | zero =>
            intro n hn hn0 fd
            refine b_X10_find_58 F ⟨fun _ => ?_, fun z => by omega⟩
            rw [w32_succ (by omega)]
            refine (ih (b + 1) (by omega) fd).mono (fun r S' C' hr => ⟨hr.1, hr.2.1, fun Q hQ => b_X11_find_55 F ⟨fun _ => ?_, fun z => by omega⟩⟩)
            rw [w32_succ (by omega)]
            exact hr.2.2 Q hQ
          | succ g ihg =>
            intro n hn hn0 fd
            have e1 : w32 (n + 1) = n + 1 := w32_lit (by omega)
            refine b_X10_find_58 F ⟨fun z => by omega, fun _ => s_motifStands (m := m) F isSt1 hm1 (by omega) (by omega) (by omega) fun r hr => ⟨rfl, fun z => ?_, fun z => ⟨fun z2 => ?_, fun z2 => ⟨rfl, rfl, fun Q hQ => ?_⟩⟩⟩⟩
            all_goals
              have key : (∀ i : Nat, i < m → shN (C (1 + 5) i) n = C (1 + 4) (b + i)) ↔ (∀ i : Nat, i < m → shN (C 83 (37 + i)) n = C 83 (8 + (b + i))) := by
                constructor
                · intro q i hi
                  have := q i hi
                  rwa [show (1 + 5 : Int) = 6 from rfl, show (1 + 4 : Int) = 5 from rfl, e6 i (by omega), e5 _ (by omega) (by omega)] at this
                · intro q i hi
                  have := q i hi
                  rwa [show (1 + 5 : Int) = 6 from rfl, show (1 + 4 : Int) = 5 from rfl, e6 i (by omega), e5 _ (by omega) (by omega)]
            · rw [e1]
              refine (ihg (n + 1) (by omega) (by omega) fd).mono (fun r S' C' hr2 => ⟨hr2.1, hr2.2.1, fun Q hQ => b_X11_find_55 F ⟨fun z => by omega, fun _ => s_isFound (m := m) F hm (by omega) (by omega) (by omega) (fun i hi => (d3 i (by omega) (by omega)).2) fun r3 hr3 => ⟨rfl, fun z3 => ?_, fun z3 => ?_⟩⟩⟩)
              · exfalso
                rcases hr3 with ⟨_, q⟩ | ⟨q, _⟩
                · rcases hr with ⟨q2, _⟩ | ⟨_, q2⟩
                  · omega
                  · exact q2 (key.mpr q)
                · omega
              · rw [e1]; exact hr2.2.2 Q hQ
            · rw [e1]
              refine (ihg (n + 1) (by omega) (by omega) (w32 (fd + 1))).mono (fun r S' C' hr2 => ⟨hr2.1, hr2.2.1, fun Q hQ => b_X11_find_55 F ⟨fun z => by omega, fun _ => s_isFound (m := m) F hm (by omega) (by omega) (by omega) (fun i hi => (d3 i (by omega) (by omega)).2) fun r3 hr3 => ⟨rfl, fun z3 => ⟨fun _ => ?_, fun z4 => absurd z4 z2⟩, fun z3 => ?_⟩⟩⟩)
              · rw [e1]; exact hr2.2.2 Q hQ
              · exfalso
                rcases hr3 with ⟨q, _⟩ | ⟨_, q⟩
                · omega
                · rcases hr with ⟨_, q2⟩ | ⟨q2, _⟩
                  · exact q (key.mp q2)
                  · omega
            · refine b_X11_find_55 F ⟨fun z => by omega, fun _ => s_isFound (m := m) F hm (by omega) (by omega) (by omega) (fun i hi => (d3 i (by omega) (by omega)).2) fun r3 hr3 => ⟨rfl, fun z3 => ⟨fun z4 => absurd z2 z4, fun _ => hQ⟩, fun z3 => ?_⟩⟩
              exfalso
              rcases hr3 with ⟨q, _⟩ | ⟨_, q⟩
              · omega
              · rcases hr with ⟨_, q2⟩ | ⟨q2, _⟩
                · exact q (key.mp q2)
                · omega
        have ef : w32 (-far) = -far := w32_lit (by omega)
        rw [ef]
        refine (inner (2 * far + 1).toNat (-far) (by omega) (by omega) fd).mono (fun r S' C' hr => ⟨hr.1, hr.2.1, fun Q hQ => b_X11_find_36 F ?_⟩)
        rw [hm, w32_lit (x := 16 - (m : Int)) (by omega), ef]
        exact ⟨fun z => by omega, fun _ => hr.2.2 Q hQ⟩
  refine b_X10_find_0 F ⟨fun z => ⟨rfl, bad (by omega)⟩, fun z => ⟨fun z2 => s_hasKeys (m := m) F isSt1 hm1 (by omega) fun r hr => ⟨rfl, fun z3 => ?_, fun z3 => ?_⟩, fun z2 => ⟨rfl, bad (by omega)⟩⟩⟩
  · refine (main 0 (Or.inl rfl) 17 0 rfl 0).mono (fun r S' C' hr2 => ⟨hr2.1, ?_⟩)
    rw [hr2.2.1]
    refine b_X11_find_0 F ⟨fun z => by omega, fun _ => ⟨fun _ => s_isSilent (m := m) F hm (by omega) fun r3 hr3 => ⟨rfl, fun z4 => ?_, fun z4 => hr2.2.2 _ ⟨rfl, k _⟩⟩, fun z4 => by omega⟩⟩
    exfalso
    rcases hr3 with ⟨q, _⟩ | ⟨_, q⟩
    · omega
    · rcases hr with ⟨_, q2⟩ | ⟨q2, _⟩
      · exact q (fun i hi => by rw [← e6 i (by omega)]; exact q2 i hi)
      · omega
  · refine (main 7 (Or.inr rfl) 17 0 rfl 0).mono (fun r S' C' hr2 => ⟨hr2.1, ?_⟩)
    rw [hr2.2.1]
    refine b_X11_find_0 F ⟨fun z => by omega, fun _ => ⟨fun _ => s_isSilent (m := m) F hm (by omega) fun r3 hr3 => ⟨rfl, fun z4 => hr2.2.2 _ ⟨rfl, k _⟩, fun z4 => ?_⟩, fun z4 => by omega⟩⟩
    exfalso
    rcases hr3 with ⟨_, q⟩ | ⟨q, _⟩
    · rcases hr with ⟨q2, _⟩ | ⟨_, q2⟩
      · omega
      · exact q2 (fun i hi => by have := q i hi; rwa [← e6 i (by omega)] at this)
    · omega
