/-! 62.join -/
theorem s_bnd3 {x : Int} {S : MS} {C : MC} {Q : Qt} (h1 : Bd9 x → Q x S C) (h2 : ¬ Bd9 x → Q NANi S C) : ((0 < lCmp x 1000000000 → Q (-1152921504606846976) S C) ∧ (¬ 0 < lCmp x 1000000000 → ((0 ≤ lCmp x (-1000000000) → Q x S C) ∧ (¬ 0 ≤ lCmp x (-1000000000) → Q (-1152921504606846976) S C)))) := by
  rw [lC_gt, lC_ge]
  unfold Bd9 at *
  exact ⟨fun z => h2 (by omega), fun z => ⟨fun z2 => h1 (by omega), fun z2 => h2 (by omega)⟩⟩
/-- joins and compares -/
def jnS (t : Nat) (a b : Int) : Option Int := if t = 3 then bnd (a + b) else if t = 4 then bnd (a - b) else if t = 5 then bnd (a * b) else if t = 6 then (if b = 0 then none else bnd (Int.tdiv a b)) else if t = 7 then (if b = 0 then none else bnd (Int.tmod a b)) else if t = 8 then some (if a < b then 1 else 0) else if t = 9 then some (if b < a then 1 else 0) else some (if a = b then 1 else 0)
theorem jnS_bd9 {t : Nat} {a b x : Int} (h : jnS t a b = some x) : Bd9 x := by
  have q : ∀ y, bnd y = some x → Bd9 x := fun y hy => by obtain ⟨e, z⟩ := bnd_bd9 hy; rw [e]; exact z
  have q2 : ∀ c : Prop, [Decidable c] → (some (if c then (1 : Int) else 0) = some x) → Bd9 x := fun c _ hy => by
    cases hy
    unfold Bd9
    split <;> omega
  unfold jnS at h
  split at h
  · exact q _ h
  split at h
  · exact q _ h
  split at h
  · exact q _ h
  split at h
  · split at h
    · cases h
    · exact q _ h
  split at h
  · split at h
    · cases h
    · exact q _ h
  split at h
  · exact q2 _ h
  split at h
  · exact q2 _ h
  · exact q2 _ h
theorem jnS_bd {t : Nat} {a b x : Int} (h : jnS t a b = some x) : Bd x := Bd_of9 (jnS_bd9 h)
theorem s_join {d mc ms t : Nat} {a b : Int} {S : MS} {C : MC} {Q : Qt} (F : Fix S) (ht : 3 ≤ t ∧ t ≤ 10) (ha : Bd a) (hb : Bd b) (h1 : ∀ x, jnS t a b = some x → Q x S C) (h2 : jnS t a b = none → Q NANi S C) : K_X5_join_0 d mc ms (t : Int) a b S C Q := by
  have B : ∀ x, jnS t a b = bnd x → ((0 < lCmp x 1000000000 → Q (-1152921504606846976) S C) ∧ (¬ 0 < lCmp x 1000000000 → ((0 ≤ lCmp x (-1000000000) → Q x S C) ∧ (¬ 0 ≤ lCmp x (-1000000000) → Q (-1152921504606846976) S C)))) := fun x hx => s_bnd3 (fun q => h1 x (by rw [hx, bnd_of q])) (fun q => h2 (by rw [hx, bnd_no q]))
  have B2 : ∀ x, jnS t a b = some x → ((0 < lCmp x 1000000000 → Q (-1152921504606846976) S C) ∧ (¬ 0 < lCmp x 1000000000 → ((0 ≤ lCmp x (-1000000000) → Q x S C) ∧ (¬ 0 ≤ lCmp x (-1000000000) → Q (-1152921504606846976) S C)))) := fun x hx => s_bnd3 (fun q => h1 x hx) (fun q => absurd (jnS_bd9 hx) q)
  have main : (t = 6 ∨ t = 7 → b ≠ 0) → K_X5_join_22 d mc ms (t : Int) a b S C Q := by
    intro hz
    have hm := mul_bd ha hb
    have hd := tdiv_bd (b := b) ha
    have hr := tmod_bd (b := b) ha
    unfold Bd at ha hb hd hr
    refine b_X5_join_22 F ⟨fun z => ⟨fun y => B2 0 ?_, fun y => B2 1 ?_⟩, fun z => ?_, fun z => ?_, fun z => ?_, fun z => ⟨hz (by omega), ?_⟩, fun z => ⟨hz (by omega), ?_⟩, fun z => ⟨fun y => B2 0 ?_, fun y => B2 1 ?_⟩, fun z => ⟨fun y => B2 0 ?_, fun y => B2 1 ?_⟩⟩
    · rw [lC_eq] at y
      have : t = 10 := by omega
      subst this
      simp [jnS, y]
    · rw [lC_eq] at y
      have : t = 10 := by omega
      subst this
      simp [jnS, y]
    · rw [w64_of (x := a + b) (by unfold in64; omega)]
      exact B _ (by unfold jnS; rw [if_pos (by omega)])
    · rw [w64_of (x := a - b) (by unfold in64; omega)]
      exact B _ (by unfold jnS; rw [if_neg (by omega), if_pos (by omega)])
    · rw [w64_of (x := a * b) (by unfold in64; omega)]
      exact B _ (by unfold jnS; rw [if_neg (by omega), if_neg (by omega), if_pos (by omega)])
    · rw [w64_of (x := Int.tdiv a b) (by unfold in64; omega)]
      exact B _ (by unfold jnS; rw [if_neg (by omega), if_neg (by omega), if_neg (by omega), if_pos (by omega), if_neg (hz (by omega))])
    · rw [w64_of (x := Int.tmod a b) (by unfold in64; omega)]
      exact B _ (by unfold jnS; rw [if_neg (by omega), if_neg (by omega), if_neg (by omega), if_neg (by omega), if_pos (by omega), if_neg (hz (by omega))])
    · rw [lC_ge] at y
      have : t = 8 := by omega
      subst this
      simp [jnS]; omega
    · rw [lC_ge] at y
      have : t = 8 := by omega
      subst this
      simp [jnS]; omega
    · rw [lC_le] at y
      have : t = 9 := by omega
      subst this
      simp [jnS]; omega
    · rw [lC_le] at y
      have : t = 9 := by omega
      subst this
      simp [jnS]; omega
  refine b_X5_join_0 F ⟨fun z => ⟨fun y => main (fun _ => by rw [lC_eq] at y; exact y), fun y => h2 ?_⟩, fun z => ⟨fun y => main (fun _ => by omega), fun z2 => ⟨fun y => main (fun _ => by rw [lC_eq] at y; exact y), fun y => h2 ?_⟩⟩⟩
  · rw [lC_eq] at y
    unfold jnS
    rw [if_neg (by omega), if_neg (by omega), if_neg (by omega), if_pos (by omega), if_pos y]
  · rw [lC_eq] at y
    unfold jnS
    rw [if_neg (by omega), if_neg (by omega), if_neg (by omega), if_neg (by omega), if_pos (by omega), if_pos y]
