/-! 63.seg -/
/-- a piece of code that lays one value -/
def Seg (l0 A W : Int) (S : MS) (w : Wd) (o : Bool) (s c0 : Nat) (cd : List Int) (f : Sem) : Prop := ∀ (d : Nat) (C : MC) (Q : Qt) (st : Nat), RkC l0 A W S w o C → cAt C A c0 cd → ((c0 + cd.length : Nat) : Int) ≤ S.2.2.1 A → st ≤ c0 → (∀ x C' st', f w = some x → Sk l0 s C C' → C' (l0 + 1) (s : Int) = x → st' ≤ c0 + cd.length → K_X5_reckon_9 (d + 1) 0 0 l0 A W ((s + 1 : Nat) : Int) ((c0 + cd.length : Nat) : Int) (st' : Int) S C' Q) → (f w = none → ∀ C', Sk l0 s C C' → Q NANi S C') → K_X5_reckon_9 (d + 1) 0 0 l0 A W (s : Int) (c0 : Int) (st : Int) S C Q
theorem seg_leaf {l0 A W : Int} {S : MS} {w : Wd} {o : Bool} {s c0 : Nat} {f : Sem} {v : Nat} {t : Nat} (F : Fix S) (H : RkF l0 A W S w) (hs : s < 50) (hv : v < 1024) (ht : (t = 1 ∧ f = fun _ => some (v : Int)) ∨ (t = 2 ∧ (v : Int) < (if o then 29 else 8) ∧ f = fun w => some (w v))) : Seg l0 A W S w o s c0 [16 * (v : Int) + (t : Int)] f := by
  intro d C Q st hR hc hN hst hk hn
  obtain ⟨h1, h2, h3, h4, h5, h6, h7⟩ := H
  simp only [List.length_singleton] at hN hk
  have ec := (cAt_c hc).1
  have ht16 : t < 16 := by omega
  have w1 : w32 ((c0 : Int) + 1) = ((c0 + 1 : Nat) : Int) := by rw [w32_lit (by omega)]; omega
  have w2 : w32 ((s : Int) + 1) = ((s + 1 : Nat) : Int) := by rw [w32_lit (by omega)]; omega
  have w3 : w32 ((st : Int) + 1) = ((st + 1 : Nat) : Int) := by rw [w32_lit (by omega)]; omega
  have fin : ∀ x, f w = some x → K_X5_reckon_9 (d + 1) 0 0 l0 A W (w32 ((s : Int) + 1)) (w32 ((c0 : Int) + 1)) (w32 ((st : Int) + 1)) S (upC C (l0 + 1) (s : Int) x) Q := fun x hx => by
    rw [w1, w2, w3]
    exact hk x _ (st + 1) hx (Sk_up Sk_rf (Nat.le_refl _)) (upC_at _ _ _ _) (by omega)
  refine b_X5_reckon_9 F h1 h2 h3 ⟨fun z => by omega, fun _ => ⟨fun z => by omega, fun _ => ⟨fun _ => ⟨by omega, by omega, ?_⟩, fun z => by omega⟩⟩⟩
  rw [ec, cw_and hv ht16, cw_shr hv ht16]
  have n11 : ((1 : Nat) : Int) = 1 := rfl
  have n22 : ((2 : Nat) : Int) = 2 := rfl
  rcases ht with ⟨rfl, hf⟩ | ⟨rfl, hw, hf⟩
  · rw [n11]
    refine ⟨fun _ => ⟨fun _ => ?_, fun z => (z rfl).elim⟩, fun z => (by cases z)⟩
    refine b_X5_reckon_88 F h1 h2 h3 ⟨fun z => ?_, fun _ => ⟨fun _ => ⟨fun z => (z rfl).elim, fun _ => ⟨?_, ?_⟩⟩, fun z => (by cases z)⟩⟩
    · omega
    · omega
    · exact fin v (by rw [hf])
  · rw [n22]
    obtain ⟨q1, q2⟩ := hR v (by omega) hw
    refine ⟨fun _ => ⟨fun z => (by cases z), fun _ => ⟨fun z => (z rfl).elim, fun _ => ?_⟩⟩, fun z => (by cases z)⟩
    refine b_X5_reckon_88 F h1 h2 h3 ⟨fun z => ?_, fun _ => ⟨fun z => (z rfl).elim, fun _ => ⟨fun z => ?_, fun _ => ⟨fun _ => ⟨fun _ => ⟨?_, ?_, ?_⟩, fun z => (by cases z)⟩, fun z => ?_⟩⟩⟩⟩
    · omega
    · omega
    · omega
    · omega
    · rw [q2]
      exact fin (w v) (by rw [hf])
    · omega
