/-! 64.bi -/
theorem wN_dec {s : Nat} (h : s < 1000) : w32 (((s + 1 + 1 : Nat) : Int) + (-1)) = ((s + 1 : Nat) : Int) := by rw [w32_lit (by omega)]; omega
theorem wN_pred {s : Nat} (h : s < 1000) : w32 (((s + 1 : Nat) : Int) - 1) = (s : Int) := by rw [w32_lit (by omega)]; omega
theorem wN_succ {c : Nat} (h : c < 1000) : w32 ((c : Int) + 1) = ((c + 1 : Nat) : Int) := by rw [w32_lit (by omega)]; omega
/-- two values made one -/
def bi (t : Nat) (f g : Sem) : Sem := fun w => match f w with
  | none => none
  | some a => match g w with
    | none => none
    | some b => jnS t a b
theorem seg_bi {l0 A W : Int} {S : MS} {w : Wd} {o : Bool} {s c0 t : Nat} {cd cd1 : List Int} {f g : Sem} (F : Fix S) (H : RkF l0 A W S w) (hs : s + 2 ≤ 50) (ht : 3 ≤ t ∧ t ≤ 10) (hf : SBd f) (hg : SBd g) (a : Seg l0 A W S w o s c0 cd f) (b : Seg l0 A W S w o (s + 1) (c0 + cd.length) cd1 g) : Seg l0 A W S w o s c0 (cd ++ (cd1 ++ [(t : Int)])) (bi t f g) := by
  intro d C Q st hR hc hN hst hk hn
  have H' := H
  obtain ⟨h1, h2, h3, h4, h5, h6, h7⟩ := H
  simp only [List.length_append, List.length_singleton] at hN hk
  have ht16 : t < 16 := by omega
  have g0 : c0 + cd.length + cd1.length < 1000 := by omega
  have g1 : ∀ st2 : Nat, st2 ≤ c0 + cd.length + cd1.length → ¬ S.2.2.1 A ≤ (st2 : Int) ∧ st2 < 1000 := fun st2 h => by omega
  have g2 : ¬ ((c0 + cd.length + cd1.length : Nat) : Int) < 0 := by omega
  have g3 : (0 : Int) ≤ ((c0 + cd.length + cd1.length : Nat) : Int) ∧ ((c0 + cd.length + cd1.length : Nat) : Int) < S.2.2.1 A := by omega
  have g5 : c0 + cd.length + cd1.length + 1 = c0 + (cd.length + (cd1.length + 1)) := by omega
  have i0 : ¬ (t : Int) = 0 := by omega
  have i1 : ¬ (t : Int) = 1 := by omega
  have i2 : ¬ (t : Int) = 2 := by omega
  have i3 : (t : Int) < 11 := by omega
  have i4 : (2 : Int) ≤ ((s + 1 + 1 : Nat) : Int) := by omega
  have i5 : (0 : Int) ≤ (s : Int) ∧ (s : Int) < 50 := by omega
  have i6 : (0 : Int) ≤ ((s + 1 : Nat) : Int) ∧ ((s + 1 : Nat) : Int) < 50 := by omega
  refine a d C Q st hR (cAt_l hc) (by omega) hst (fun x C1 st1 e1 k1 v1 s1 => ?_) (fun e C1 k1 => hn (by unfold bi; rw [e]) C1 k1)
  refine b d C1 Q st1 (RkC_sk hR h5 k1) (cAt_sk (cAt_l (cAt_r hc)) h4 k1) (by omega) s1 (fun y C2 st2 e2 k2 v2 s2 => ?_) (fun e C2 k2 => hn (by unfold bi; rw [e1]; simp only [e]) C2 (Sk_tr k1 (Sk_le k2 (by omega))))
  have k12 : Sk l0 s C C2 := Sk_tr k1 (Sk_le k2 (by omega))
  have ec := (cAt_c (cAt_sk (cAt_r (cAt_r hc)) h4 k12)).1
  have v1' : C2 (l0 + 1) (s : Int) = x := by rw [k2 _ _ (by omega)]; exact v1
  have bx := hf w h7 x e1
  have by' := hg w h7 y e2
  refine b_X5_reckon_9 F h1 h2 h3 ⟨fun z => ((g1 st2 s2).1 z).elim, fun _ => ⟨fun z => (g2 z).elim, fun _ => ⟨fun _ => ⟨g3, g3, ?_⟩, fun z => (z g3.2).elim⟩⟩⟩
  · rw [ec, cw_and0 ht16, cw_shr0 ht16, wN_dec (by clear v1 v2 v1' ec; omega), wN_pred (by clear v1 v2 v1' ec; omega), v1', v2, wN_succ g0, wN_succ (g1 st2 s2).2]
    refine ⟨fun _ => ⟨fun z => (i1 z).elim, fun _ => ⟨fun _ => ⟨fun _ => ⟨fun _ => ?_, fun z => (z i4).elim⟩, fun z => (z i3).elim⟩, fun z => (i2 z).elim⟩⟩, fun z => (i0 z).elim⟩
    refine ⟨i5, i6, s_join F ht bx by' (fun r hr => ⟨rfl, i5, i5, fun _ => ?_, fun z => ?_⟩) (fun hr => ⟨rfl, i5, i5, fun z => ?_, fun _ => ?_⟩)⟩
    · rw [g5]
      exact hk r _ (st2 + 1) (by unfold bi; rw [e1]; simp only [e2]; exact hr) (Sk_up k12 (Nat.le_refl _)) (upC_at _ _ _ _) (by clear v1 v2 v1' ec; omega)
    · have q := jnS_bd hr
      rw [lC_eq] at z
      rw [z] at q
      exact absurd q.1 (by decide)
    · exact (z (lC_eq.mpr rfl)).elim
    · exact hn (by unfold bi; rw [e1]; simp only [e2]; exact hr) _ (Sk_up k12 (Nat.le_refl _))
