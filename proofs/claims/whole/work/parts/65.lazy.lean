/-! 65.lazy: not, and, or in the class's code -/
def b2 (b : Bool) : Int := if b then 1 else 0
def b2i (f : TSem) : Sem := fun w => match f w with
  | none => none
  | some b => some (b2 b)
theorem b2i_some {f : TSem} {w : Wd} {x : Int} (h : b2i f w = some x) : ∃ b, f w = some b ∧ x = b2 b := by
  unfold b2i at h
  cases hf : f w with
  | none => rw [hf] at h; cases h
  | some b => rw [hf] at h; cases h; exact ⟨b, rfl, rfl⟩
theorem b2i_none {f : TSem} {w : Wd} (h : b2i f w = none) : f w = none := by
  unfold b2i at h
  cases hf : f w with
  | none => rfl
  | some b => rw [hf] at h; cases h
theorem b2i_of {f : TSem} {w : Wd} {b : Bool} (h : f w = some b) : b2i f w = some (b2 b) := by unfold b2i; rw [h]
theorem b2i_no {f : TSem} {w : Wd} (h : f w = none) : b2i f w = none := by unfold b2i; rw [h]
theorem wN_de1 {s : Nat} (h : s < 1000) : w32 (((s + 1 : Nat) : Int) + (-1)) = (s : Int) := by rw [w32_lit (by omega)]; omega
theorem b2_not (b : Bool) : w64 (1 - b2 b) = b2 (!b) := by cases b <;> decide +kernel
theorem lC_b0 (b : Bool) : lCmp (b2 b) 0 = 0 ↔ b = false := by cases b <;> decide
theorem lC_b1 (b : Bool) : lCmp (b2 b) 1 = 0 ↔ b = true := by cases b <;> decide
theorem seg_not {l0 A W : Int} {S : MS} {w : Wd} {o : Bool} {s c0 : Nat} {cd : List Int} {f : TSem} (F : Fix S) (H : RkF l0 A W S w) (hs : s + 1 ≤ 50) (a : Seg l0 A W S w o s c0 cd (b2i f)) : Seg l0 A W S w o s c0 (cd ++ [11]) (b2i (notS true f)) := by
  intro d C Q st hR hc hN hst hk hn
  obtain ⟨h1, h2, h3, h4, h5, h6, h7⟩ := H
  simp only [List.length_append, List.length_singleton] at hN hk
  have g0 : c0 + cd.length < 1000 := by omega
  have g1 : ∀ st2 : Nat, st2 ≤ c0 + cd.length → (¬ S.2.2.1 A ≤ (st2 : Int) ∧ st2 < 1000) ∧ st2 + 1 ≤ c0 + (cd.length + 1) := fun st2 h => by omega
  have g2 : ¬ ((c0 + cd.length : Nat) : Int) < 0 := by omega
  have g3 : (0 : Int) ≤ ((c0 + cd.length : Nat) : Int) ∧ ((c0 + cd.length : Nat) : Int) < S.2.2.1 A := by omega
  have g5 : c0 + cd.length + 1 = c0 + (cd.length + 1) := by omega
  have i4 : (1 : Int) ≤ ((s + 1 : Nat) : Int) := by omega
  have i5 : (0 : Int) ≤ (s : Int) ∧ (s : Int) < 50 := by omega
  have i6 : s < 1000 := by omega
  refine a d C Q st hR (cAt_l hc) (by omega) hst (fun x C1 st1 e1 k1 v1 s1 => ?_) (fun e C1 k1 => hn (b2i_no (by unfold notS; rw [b2i_none e])) C1 k1)
  obtain ⟨b, e2, rfl⟩ := b2i_some e1
  have ec := (cAt_c (cAt_sk (cAt_r hc) h4 k1)).1
  refine b_X5_reckon_9 F h1 h2 h3 ⟨fun z => ((g1 st1 s1).1.1 z).elim, fun _ => ⟨fun z => (g2 z).elim, fun _ => ⟨fun _ => ⟨g3, g3, ?_⟩, fun z => (z g3.2).elim⟩⟩⟩
  have x1 : iAnd 11 15 = 11 := by decide +kernel
  rw [ec, x1]
  refine ⟨fun _ => ⟨fun z => (by cases z), fun _ => ⟨fun _ => ⟨fun z => (by cases z), fun _ => ⟨fun _ => ⟨fun z => (z rfl).elim, fun _ => ?_⟩, fun z => (z i4).elim⟩⟩, fun z => (by cases z)⟩⟩, fun z => (by cases z)⟩
  rw [wN_pred i6, v1, b2_not, wN_succ g0, wN_succ (g1 st1 s1).1.2, g5]
  exact ⟨i5, i5, hk _ _ (st1 + 1) (b2i_of (by unfold notS; rw [e2]; cases b <;> rfl)) (Sk_up k1 (Nat.le_refl _)) (upC_at _ _ _ _) (g1 st1 s1).2⟩
theorem seg_laz {l0 A W : Int} {S : MS} {w : Wd} {o : Bool} {s c0 : Nat} {cd cd1 : List Int} {f g : TSem} {op : Nat} {stop : Bool} (F : Fix S) (H : RkF l0 A W S w) (hop : (op = 12 ∧ stop = false) ∨ (op = 13 ∧ stop = true)) (hs : s + 1 ≤ 50) (a : Seg l0 A W S w o s c0 cd (b2i f)) (b : Seg l0 A W S w o s (c0 + cd.length + 1) cd1 (b2i g)) : Seg l0 A W S w o s c0 (cd ++ ((16 * ((c0 + (cd.length + 1) + cd1.length : Nat) : Int) + (op : Int)) :: cd1)) (b2i (lazS stop f g)) := by
  intro d C Q st hR hc hN hst hk hn
  obtain ⟨h1, h2, h3, h4, h5, h6, h7⟩ := H
  simp only [List.length_append, List.length_cons] at hN hk
  have g0 : c0 + cd.length < 1000 := by omega
  have g1 : ∀ st2 : Nat, st2 ≤ c0 + cd.length → (¬ S.2.2.1 A ≤ (st2 : Int) ∧ st2 < 1000) ∧ st2 + 1 ≤ c0 + cd.length + 1 ∧ st2 + 1 ≤ c0 + (cd.length + (cd1.length + 1)) := fun st2 h => by omega
  have g2 : ¬ ((c0 + cd.length : Nat) : Int) < 0 := by omega
  have g3 : (0 : Int) ≤ ((c0 + cd.length : Nat) : Int) ∧ ((c0 + cd.length : Nat) : Int) < S.2.2.1 A := by omega
  have g4 : c0 + (cd.length + 1) + cd1.length < 1024 := by omega
  have g5 : c0 + cd.length + 1 + cd1.length = c0 + (cd.length + (cd1.length + 1)) := by omega
  have g6 : c0 + (cd.length + 1) + cd1.length = c0 + (cd.length + (cd1.length + 1)) := by omega
  have g7 : ((c0 + cd.length + 1 + cd1.length : Nat) : Int) ≤ S.2.2.1 A := by omega
  have i4 : (1 : Int) ≤ ((s + 1 : Nat) : Int) := by omega
  have i5 : (0 : Int) ≤ (s : Int) ∧ (s : Int) < 50 := by omega
  have i6 : s < 1000 := by omega
  have j16 : op < 16 := by omega
  refine a d C Q st hR (cAt_l hc) (by omega) hst (fun x C1 st1 e1 k1 v1 s1 => ?_) (fun e C1 k1 => hn (b2i_no (by unfold lazS; rw [b2i_none e])) C1 k1)
  obtain ⟨t, e2, rfl⟩ := b2i_some e1
  obtain ⟨ec, hc2⟩ := cAt_c (cAt_sk (cAt_r hc) h4 k1)
  -- it jumps
  have jmp : t = stop → K_X5_reckon_9 (d + 1) 0 0 l0 A W ((s + 1 : Nat) : Int) ((c0 + (cd.length + 1) + cd1.length : Nat) : Int) ((st1 + 1 : Nat) : Int) S C1 Q := fun z => by
    rw [g6]
    exact hk (b2 t) C1 (st1 + 1) (b2i_of (by unfold lazS; rw [e2]; simp [z])) k1 v1 (g1 st1 s1).2.2
  -- it goes on
  have gon : t ≠ stop → K_X5_reckon_9 (d + 1) 0 0 l0 A W (s : Int) ((c0 + cd.length + 1 : Nat) : Int) ((st1 + 1 : Nat) : Int) S C1 Q := fun z => by
    have el : lazS stop f g w = g w := by unfold lazS; rw [e2]; simp [z]
    refine b d C1 Q (st1 + 1) (RkC_sk hR h5 k1) hc2 g7 (g1 st1 s1).2.1 (fun y C2 st2 e3 k2 v2 s2 => ?_) (fun e C2 k2 => hn (by unfold b2i at e ⊢; rw [el]; exact e) C2 (Sk_tr k1 k2))
    have := hk y C2 st2 (by unfold b2i at e3 ⊢; rw [el]; exact e3) (Sk_tr k1 k2) v2 (by rw [← g5]; exact s2)
    rw [g5]
    exact this
  refine b_X5_reckon_9 F h1 h2 h3 ⟨fun z => ((g1 st1 s1).1.1 z).elim, fun _ => ⟨fun z => (g2 z).elim, fun _ => ⟨fun _ => ⟨g3, g3, ?_⟩, fun z => (z g3.2).elim⟩⟩⟩
  rw [ec, cw_and g4 j16, cw_shr g4 j16, wN_pred i6, v1, wN_succ g0, wN_succ (g1 st1 s1).1.2, wN_de1 i6]
  rcases hop with ⟨rfl, rfl⟩ | ⟨rfl, rfl⟩
  · rw [show ((12 : Nat) : Int) = 12 from rfl]
    refine ⟨fun _ => ⟨fun z => (by cases z), fun _ => ⟨fun _ => ⟨fun z => (by cases z), fun _ => ⟨fun _ => ⟨fun _ => ⟨i5, fun _ => ⟨fun z => gon (fun y => z ((lC_b0 t).mpr y)), fun z => jmp ((lC_b0 t).mp z)⟩, fun z => (by cases z)⟩, fun z => (by cases z)⟩, fun z => (z i4).elim⟩⟩, fun z => (by cases z)⟩⟩, fun z => (by cases z)⟩
  · rw [show ((13 : Nat) : Int) = 13 from rfl]
    refine ⟨fun _ => ⟨fun z => (by cases z), fun _ => ⟨fun _ => ⟨fun z => (by cases z), fun _ => ⟨fun _ => ⟨fun _ => ⟨i5, fun z => (z rfl).elim, fun _ => ⟨fun z => gon (fun y => z ((lC_b1 t).mpr y)), fun z => jmp ((lC_b1 t).mp z)⟩⟩, fun z => (by cases z)⟩, fun z => (z i4).elim⟩⟩, fun z => (by cases z)⟩⟩, fun z => (by cases z)⟩
