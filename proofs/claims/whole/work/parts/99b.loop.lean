/-! 99b.loop: the whole script -/
theorem lp_k {i : Nat} {n k : Int} (h : ¬ n - 6 < 6 * (i : Int)) (hn : n ≤ 3072) (h0 : 0 ≤ k) (h1 : k < 6) : (0 : Int) ≤ w32 (6 * (i : Int) + k) ∧ w32 (6 * (i : Int) + k) < n := by
  rw [w32_lit (x := 6 * (i : Int) + k) (by omega)]
  omega
theorem lp_0 {i : Nat} {n : Int} (h : ¬ n - 6 < 6 * (i : Int)) : (0 : Int) ≤ 6 * (i : Int) ∧ 6 * (i : Int) < n := by omega
theorem lp_6 {i : Nat} (h : i < 600) : w32 (6 * (i : Int) + 6) = 6 * ((i + 1 : Nat) : Int) := by
  rw [w32_lit (x := 6 * (i : Int) + 6) (by omega)]
  omega
theorem lp_n {n : Int} (h0 : 0 ≤ n) (h1 : n ≤ 3072) : w32 (n - 6) = n - 6 := w32_lit (by omega)
theorem lp_in {n : Int} (h0 : 0 ≤ n) (h1 : n ≤ 3072) : in32 n := by unfold in32; omega
theorem lp_end {i : Nat} {n : Int} (h1 : n ≤ 3072) (hi : i = 512) : n - 6 < 6 * (i : Int) := by omega
theorem lp_cs {S S2 : MS} {x : Int} (e : S2.2.2.2.2 = S.2.2.2.2) (h : (0 : Int) ≤ x ∧ x < S.2.2.2.2.1) : (0 : Int) ≤ x ∧ x < S2.2.2.2.2.1 := by rw [e]; exact h
theorem lp_m {a b m : Nat} : a + b * (m + 1) + b = a + b * m + b + b := by rw [Nat.mul_add, Nat.mul_one, ← Nat.add_assoc a]
theorem lp_cmp (r : Int) : lCmp r r = 0 := by unfold lCmp; simp
/-- one call of the script: both answer alike, and the invariant stays -/
theorem lp_step {d mc ms i : Nat} {S : MS} {C : MC} {Q : Qt} (hAC : AskCls) (hAM : AskMod) (I : Inv S C) (h0 : 0 ≤ S.2.2.2.2.1) (h1 : S.2.2.2.2.1 ≤ 3072) (hi : i < 600) (hQ : S.2.2.2.2.1 - 6 < 6 * (i : Int) → Q 1 S C) (ih : ∀ S' C', ¬ S.2.2.2.2.1 - 6 < 6 * (i : Int) → Inv S' C' → S'.2.2.2.2 = S.2.2.2.2 → K_L_law_18 (d + 300 + 1) mc ms (6 * ((i + 1 : Nat) : Int)) S' C' Q) : K_L_law_18 (d + 300 + 1) (mc + 7) (ms + 469) (6 * (i : Int)) S C Q := by
  have F := I.1
  refine b_L_law_18 (d := d + 300) F ⟨lp_in h0 h1, fun z => hQ (by rw [lp_n h0 h1] at z; exact z), fun z => ?_⟩
  rw [lp_n h0 h1] at z
  rw [lp_6 hi]
  have b1 := lp_k (k := 1) z h1 (by decide) (by decide)
  have b2 := lp_k (k := 2) z h1 (by decide) (by decide)
  have b3 := lp_k (k := 3) z h1 (by decide) (by decide)
  have b4 := lp_k (k := 4) z h1 (by decide) (by decide)
  have b5 := lp_k (k := 5) z h1 (by decide) (by decide)
  have cs : ∀ {S2 : MS} {x : Int}, S2.2.2.2.2 = S.2.2.2.2 → ((0 : Int) ≤ x ∧ x < S.2.2.2.2.1) → (0 : Int) ≤ x ∧ x < S2.2.2.2.2.1 := fun e h => lp_cs e h
  let P1 : Int → Int → MC → Prop := fun r r2 C3 => (r = r2 → K_L_law_18 (d + 300 + 1) mc ms (6 * ((i + 1 : Nat) : Int)) S C3 Q) ∧ (¬ r = r2 → Q 0 S C3)
  let P2 : Int → Int → MS → MC → Prop := fun r r2 S3 C3 => (r = r2 → K_L_law_18 (d + 300 + 1) mc ms (6 * ((i + 1 : Nat) : Int)) S3 C3 Q) ∧ (¬ r = r2 → Q 0 S3 C3)
  have kk : ∀ r C', Inv S C' → P1 r r C' := fun r C' I' => ⟨fun _ => ih S C' z I' rfl, fun y => absurd rfl y⟩
  let P3 : Int → Int → MC → Prop := fun r r2 C3 => (lCmp r r2 = 0 → K_L_law_18 (d + 300 + 1) mc ms (6 * ((i + 1 : Nat) : Int)) S C3 Q) ∧ (¬ lCmp r r2 = 0 → Q 0 S C3)
  have k3 : ∀ r C', Inv S C' → P3 r r C' := fun r C' I' => ⟨fun _ => ih S C' z I' rfl, fun y => absurd (lp_cmp r) y⟩
  have ks : PS S P2 := fun r S' C' I' e => ⟨fun _ => ih S' C' z I' e, fun y => absurd rfl y⟩
  refine ⟨lp_0 z, fun _ => ih S C z I rfl,
    fun _ => ⟨b1, b2, Wp.mono (q_house (d := d + 298) (P := P1) I kk) (fun r S2 C2 h => ⟨h.1, b1, b2, h.2⟩)⟩,
    fun _ => ⟨b1, b2, Wp.mono (q_of (d := d + 298) (P := P1) I (fun r => kk r C I)) (fun r S2 C2 h => ⟨h.1, b1, b2, h.2⟩)⟩,
    fun _ => ⟨b1, Wp.mono (q_owner (d := d + 298) (P := P1) I (fun r => kk r C I)) (fun r S2 C2 h => ⟨h.1, b1, h.2⟩)⟩,
    fun _ => ⟨b1, Wp.mono (q_music (d := d + 298) (P := P1) I (fun r => kk r C I)) (fun r S2 C2 h => ⟨h.1, b1, h.2⟩)⟩,
    fun _ => ⟨b1, b2, b3, b4, Wp.mono (q_asks (d := d + 199) (P := P1) hAC hAM I kk) (fun r S2 C2 h => ⟨h.1, b1, b2, b3, b4, h.2⟩)⟩,
    fun _ => ⟨b1, b2, Wp.mono (q_terms (d := d + 298) (P := P1) I kk) (fun r S2 C2 h => ⟨h.1, b1, b2, h.2⟩)⟩,
    fun _ => ⟨b1, b2, b3, b4, b5, Wp.mono (q_feed (d := d + 299) (P := P1) I kk) (fun r S2 C2 h => ⟨h.1, b1, b2, b3, b4, b5, h.2⟩)⟩,
    fun _ => ⟨b1, Wp.mono (q_end (d := d + 299) (P := P1) I kk) (fun r S2 C2 h => ⟨h.1, b1, h.2⟩)⟩,
    fun _ => q_row (d := d + 298) (P := P1) I kk,
    fun _ => q_creaks (d := d + 300) (P := P1) F I.2.2.2.2.2.1 (kk _ C I),
    fun _ => Wp.mono (q_law (d := d + 200) (P := P2) I ks) (fun r S2 C2 h => ⟨h.1, h.2.2⟩),
    fun _ => Wp.mono (q_orders (d := d + 192) (P := P2) hAC hAM I ks) (fun r S2 C2 h => ⟨h.1, h.2.2⟩),
    fun _ => q_fault (d := d + 300) (P := P1) F I.2.2.2.2.2.1 (fun r => kk r C I),
    fun _ => q_stopped (d := d + 300) (P := P1) F I.2.2.2.2.2.1 (fun r => kk r C I),
    fun _ => ⟨b1, Wp.mono (q_force (d := d + 298) (P := P1) I kk) (fun r S2 C2 h => ⟨h.1, b1, h.2⟩)⟩,
    fun _ => ⟨b1, b2, Wp.mono (q_note (d := d + 295) (P := P1) I kk) (fun r S2 C2 h => ⟨h.1, b1, b2, h.2⟩)⟩,
    fun _ => ⟨b1, b2, Wp.mono (q_give (d := d + 295) (P := P1) I kk) (fun r S2 C2 h => ⟨h.1, b1, b2, h.2⟩)⟩,
    fun _ => ⟨b1, Wp.mono (q_shift (d := d + 295) (P := P1) I kk) (fun r S2 C2 h => ⟨h.1, b1, h.2⟩)⟩,
    fun _ => q_pass (d := d + 295) (P := P1) I kk,
    fun _ => q_undo (d := d + 297) (P := P1) I kk,
    fun _ => Wp.mono (q_drill (d := d + 196) (P := P2) hAC hAM I ks) (fun r S2 C2 h => ⟨h.1, h.2.2⟩),
    fun _ => ⟨b1, Wp.mono (q_least (d := d + 195) (P := P2) hAC hAM I ks) (fun r S2 C2 h => ⟨h.1, cs h.2.1 b1, by rw [h.2.1]; exact h.2.2⟩)⟩,
    fun _ => ⟨b1, b2, Wp.mono (q_who (d := d + 195) (P := P2) hAC hAM I ks) (fun r S2 C2 h => ⟨h.1, cs h.2.1 b1, cs h.2.1 b2, by rw [h.2.1]; exact h.2.2⟩)⟩,
    fun _ => ⟨b1, Wp.mono (q_ways (d := d + 195) (P := P2) hAC hAM I ks) (fun r S2 C2 h => ⟨h.1, cs h.2.1 b1, by rw [h.2.1]; exact h.2.2⟩)⟩,
    fun _ => ⟨b1, b2, Wp.mono (q_might (d := d + 195) (P := P2) hAC hAM I ks) (fun r S2 C2 h => ⟨h.1, cs h.2.1 b1, cs h.2.1 b2, by rw [h.2.1]; exact h.2.2⟩)⟩,
    fun _ => ⟨b1, Wp.mono (q_cover (d := d + 195) (P := P2) hAC hAM I ks) (fun r S2 C2 h => ⟨h.1, cs h.2.1 b1, by rw [h.2.1]; exact h.2.2⟩)⟩,
    fun _ => ⟨b1, b2, Wp.mono (q_run (d := d + 195) (P := P2) hAC hAM I ks) (fun r S2 C2 h => ⟨h.1, cs h.2.1 b1, cs h.2.1 b2, by rw [h.2.1]; exact h.2.2⟩)⟩,
    fun _ => ⟨b1, Wp.mono (q_best (d := d + 194) (P := P2) hAC hAM I ks) (fun r S2 C2 h => ⟨h.1, cs h.2.1 b1, by rw [h.2.1]; exact h.2.2⟩)⟩,
    fun _ => ⟨b1, Wp.mono (q_motif (d := d + 299) (P := P1) I kk) (fun r S2 C2 h => ⟨h.1, b1, h.2⟩)⟩,
    fun _ => q_forget (d := d + 300) (P := P1) I kk,
    fun _ => ⟨b1, Wp.mono (q_find (d := d + 295) (P := P1) I (fun r => kk r C I)) (fun r S2 C2 h => ⟨h.1, b1, h.2⟩)⟩,
    fun _ => ⟨b1, b2, Wp.mono (q_owes (d := d + 194) (P := P2) hAC hAM I ks) (fun r S2 C2 h => ⟨h.1, cs h.2.1 b1, cs h.2.1 b2, by rw [h.2.1]; exact h.2.2⟩)⟩,
    fun _ => Wp.mono (q_settled (d := d + 194) (P := P2) hAC hAM I ks) (fun r S2 C2 h => ⟨h.1, h.2.2⟩),
    fun _ => ⟨b1, b2, Wp.mono (q_few (d := d + 298) (P := P3) I k3) (fun r S2 C2 h => ⟨h.1, b1, b2, h.2⟩)⟩,
    fun _ => ⟨b1, Wp.mono (q_compare (d := d + 194) (P := P2) hAC hAM I ks) (fun r S2 C2 h => ⟨h.1, cs h.2.1 b1, by rw [h.2.1]; exact h.2.2⟩)⟩,
    fun _ => ⟨b1, b2, Wp.mono (q_evenings (d := d + 194) (P := P2) hAC hAM I ks) (fun r S2 C2 h => ⟨h.1, cs h.2.1 b1, cs h.2.1 b2, by rw [h.2.1]; exact h.2.2⟩)⟩,
    fun _ => ⟨b1, b2, Wp.mono (q_drawn (d := d + 299) (P := P1) I (fun r => kk r C I)) (fun r S2 C2 h => ⟨h.1, b1, b2, h.2⟩)⟩,
    fun _ => ⟨b1, Wp.mono (q_image (d := d + 298) (P := P2) I ks) (fun r S2 C2 h => ⟨h.1, cs h.2.1 b1, by rw [h.2.1]; exact h.2.2⟩)⟩,
    fun _ => ⟨b1, Wp.mono (q_back (d := d + 298) (P := P2) I ks) (fun r S2 C2 h => ⟨h.1, cs h.2.1 b1, by rw [h.2.1]; exact h.2.2⟩)⟩,
    fun _ => ⟨b1, Wp.mono (q_count (d := d + 297) (P := P1) I (fun r => kk r C I)) (fun r S2 C2 h => ⟨h.1, b1, h.2⟩)⟩,
    fun _ => q_status (d := d + 300) (P := P1) F I.2.2.2.1 (fun r => kk r C I)⟩
theorem lp_all {d mc ms : Nat} (hAC : AskCls) (hAM : AskMod) : ∀ (m i : Nat) (S : MS) (C : MC), i + m = 512 → Inv S C → 0 ≤ S.2.2.2.2.1 → S.2.2.2.2.1 ≤ 3072 → K_L_law_18 (d + 300 + 1) (mc + 7 * m + 7) (ms + 469 * m + 469) (6 * (i : Int)) S C (fun x _ _ => x = 1)
  | 0, i, S, C, hi, I, h0, h1 => lp_step hAC hAM I h0 h1 (by omega) (fun _ => rfl) (fun S' C' z _ _ => absurd (lp_end h1 (by omega)) z)
  | m + 1, i, S, C, hi, I, h0, h1 => by
    rw [lp_m, lp_m]
    exact lp_step hAC hAM I h0 h1 (by omega) (fun _ => rfl) (fun S' C' z I' e => lp_all hAC hAM m (i + 1) S' C' (by omega) I' (by rw [e]; exact h0) (by rw [e]; exact h1))
theorem loopOK : LoopOK := fun sc h0 h1 => lp_all (d := 704) (mc := 409) (ms := 59403) askCls askMod 512 0 (Sn 108 p_108 sc) (apU u_200 C0z) rfl (Inv_start sc) h0 h1
