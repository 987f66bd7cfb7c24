/-! 53.owes: what the houses owe one another -/
def dbL (pl : Nat → Nat → Int) (κ : Int → Int) : Nat → Int → Int
  | 0 => fun _ => 0
  | t + 1 => if pl (t / 8) (t % 8) ≠ -1 ∧ κ ((t % 8 : Nat) : Int) ≠ -1 ∧ κ ((t % 8 : Nat) : Int) ≠ pl (t / 8) (t % 8) then (fun i => if i = 6 * pl (t / 8) (t % 8) + κ ((t % 8 : Nat) : Int) then dbL pl κ t i + 1 else dbL pl κ t i) else dbL pl κ t
theorem dbL_bd (pl : Nat → Nat → Int) (κ : Int → Int) : ∀ (t : Nat) (i : Int), 0 ≤ dbL pl κ t i ∧ dbL pl κ t i ≤ t
  | 0, i => by simp [dbL]
  | t + 1, i => by
    have := dbL_bd pl κ t i
    unfold dbL
    split
    · show 0 ≤ (if i = _ then dbL pl κ t i + 1 else dbL pl κ t i) ∧ (if i = _ then dbL pl κ t i + 1 else dbL pl κ t i) ≤ _
      split <;> omega
    · omega
theorem dbL_cong {pl pl' : Nat → Nat → Int} {κ : Int → Int} : ∀ (t : Nat), (∀ b k, 8 * b + k < t → k < 8 → pl b k = pl' b k) → dbL pl κ t = dbL pl' κ t
  | 0, _ => rfl
  | t + 1, h => by
    have e := h (t / 8) (t % 8) (by omega) (by omega)
    unfold dbL
    rw [dbL_cong t (fun b k h1 h2 => h b k (by omega) h2), e]
/-- who plays what at beat b, in the class -/
def PlB (κ : Int → Int) (b n : Nat) (p : Nat → Int) : Prop := ∃ v a, MinB n (hdK κ) (rcK κ) (mxK κ b) (cnK κ b) (mdK κ b) v ∧ v < NV ∧ Vd (okK κ b) (fun h => h < n) (mxK κ b) a ∧ v = wt (mdK κ b) (mxK κ b) a * 16777216 + wt rowW (mxK κ b) a ∧ ∀ k, k < 8 → p k = if (mxK κ b).testBit k then (a k : Int) else -1
/-- in the reference -/
def PlM (κ : Int → Int) (b n : Nat) (p : Nat → Int) : Prop := ∃ u f, Lst (okK κ b) (mdK κ b) 1000001 0 (fun h => h < n) (mxK κ b) u ∧ u < 1000001 ∧ Way κ b n (mxK κ b) u f ∧ ∀ k, k < 8 → p k = if (mxK κ b).testBit k then (f k : Int) else -1
theorem Pl_eq {κ : Int → Int} {b n : Nat} {p q : Nat → Int} (hn : n ≤ 6) (hX : mxK κ b < 256) (h1 : PlB κ b n p) (h2 : PlM κ b n q) : ∀ k, k < 8 → p k = q k := by
  obtain ⟨v, a, a1, a2, a3, a4, a5⟩ := h1
  obtain ⟨u, f, f1, f2, f3, f4⟩ := h2
  obtain ⟨l1, _⟩ := Lst_lex hn (fun h k _ => mdK_bd κ b h k) a1 f1
  obtain ⟨hu1, g, vg, eg, ev⟩ := l1 a2
  have hra := row_bd (a := a) (X := mxK κ b) (fun k _ hx => by have : a k < n := a3.1 k hx; omega)
  have hrg := row_bd (a := g) (X := mxK κ b) (fun k _ hx => by have : g k < n := vg.1 k hx; omega)
  have := way_eq hn hX a1 a3 a4 (by omega) f3
  intro k hk
  rw [a5 k hk, f4 k hk]
  cases hx : (mxK κ b).testBit k
  · rfl
  · rw [this k hx]
theorem PlB_rng {κ : Int → Int} {b n : Nat} {p : Nat → Int} (h : PlB κ b n p) {k : Nat} (hk : k < 8) : p k = -1 ∨ (0 ≤ p k ∧ p k < n) := by
  obtain ⟨v, a, _, _, a3, _, a5⟩ := h
  rw [a5 k hk]
  cases hx : (mxK κ b).testBit k
  · exact Or.inl rfl
  · right
    simp only [if_true]
    have : a k < n := a3.1 k hx
    omega
theorem PlM_rng {κ : Int → Int} {b n : Nat} {p : Nat → Int} (h : PlM κ b n p) {k : Nat} (hk : k < 8) : p k = -1 ∨ (0 ≤ p k ∧ p k < n) := by
  obtain ⟨u, f, _, _, a3, a5⟩ := h
  rw [a5 k hk]
  cases hx : (mxK κ b).testBit k
  · exact Or.inl rfl
  · right
    simp only [if_true]
    have : f k < n := a3.1.1 k hx
    omega
def tlx (a k : Int) : Prop := plx a k ∨ a = 53
def TalC (C' : MC) (κ : Int → Int) (n : Nat) (r : Int) : Prop := (r = 0 ∧ ∃ b v, b < 16 ∧ MinB n (hdK κ) (rcK κ) (mxK κ b) (cnK κ b) (mdK κ b) v ∧ ¬ v < NV) ∨ (r = 1 ∧ ∃ pl : Nat → Nat → Int, (∀ b, b < 16 → PlB κ b n (pl b)) ∧ ∀ i, 0 ≤ i → i < 36 → C' 53 i = dbL pl κ 128 i)
def DebM (C' : MC) (κ : Int → Int) (n : Nat) (r : Int) : Prop := (r = 0 ∧ ∃ b, b < 16 ∧ Lst (okK κ b) (mdK κ b) 1000001 0 (fun h => h < n) (mxK κ b) 1000001) ∨ (r = 1 ∧ ∃ pl : Nat → Nat → Int, (∀ b, b < 16 → PlM κ b n (pl b)) ∧ ∀ i, 0 ≤ i → i < 36 → C' 101 i = dbL pl κ 128 i)
theorem s_tally {d n : Nat} {S : MS} {C : MC} {κ : Int → Int} {Q : Qt} (F : Fix S) (hK : KOk κ) (hn : κ 45 = n) (h10 : C 1 0 = n) (h4 : ∀ k, 0 ≤ k → k < 8 → C 4 k = κ k) (hsp : SpC S C 1 n (hdK κ) (rcK κ) (mxK κ) (cnK κ) (mdK κ)) (hk : ∀ r S' C', S44 S S' → Fp tlx C C' → TalC C' κ n r → Q r S' C') : K_X1_tally_0 (d + 10) 0 0 S C Q := by
  have hn6 : n ≤ 6 := by have := hK.1; omega
  refine b_X1_tally_0 F (s_fillI (n := 36) F ⟨fx_b F (by decide), fx_t F (by decide)⟩ (fx_l F (by decide)) (by decide) (fun C1 f1 g1 => ⟨rfl, ?_⟩))
  have f1' : Fp tlx C C1 := Fp_mono f1 (fun a _ q => Or.inr q)
  have spk : ∀ S' C', S44 S S' → Fp tlx C C' → SpC S' C' 1 n (hdK κ) (rcK κ) (mxK κ) (cnK κ) (mdK κ) := by
    intro S' C' hs hf
    obtain ⟨ha, b1, b2, b3, b4⟩ := hsp
    have row : ∀ r, ((1 : Int) ≤ r ∧ r < 1 + 8) ∨ 108 ≤ r → C' r = C r := fun r hr => funext fun q => hf r q (by unfold tlx plx; omega)
    exact ⟨ha, Bt_cong b1 (row _ (by omega)) (row _ (by omega)) (row _ (by omega)), fun b hb => ⟨(b2 b hb).1, by rw [row _ (by omega)]; exact (b2 b hb).2⟩, b3, fun b mi hb hmi S1 hS1 => AskC_cong (b4 b mi hb hmi S1 (S44_tr hs hS1)) row⟩
  refine up_ind (α := MS × MC) (P := fun b D => S44 S D.1 ∧ Fp tlx C D.2 ∧ ∃ pl : Nat → Nat → Int, (∀ j, j < b → PlB κ j n (pl j)) ∧ ∀ i, 0 ≤ i → i < 36 → D.2 53 i = dbL pl κ (8 * b) i) (K := fun b D => K_X1_tally_10 (d + 10) 0 0 (b : Int) D.1 D.2 Q) 16 ?_ ?_ 0 (by omega) (S, C1) ⟨S44_rf F, f1', fun _ _ => 0, fun j hj => absurd hj (Nat.not_lt_zero j), fun i x0 x1 => ?_⟩
  · intro D ⟨p1, p2, pl, p3, p4⟩
    exact b_X1_tally_10 p1.1 ⟨fun _ => hk 1 _ _ p1 p2 (Or.inr ⟨rfl, pl, p3, p4⟩), fun z => absurd (by decide) z⟩
  · intro b D hb ⟨p1, p2, pl, p3, p4⟩ ih
    obtain ⟨ha, b1, b2, b3, b4⟩ := spk D.1 D.2 p1 p2
    obtain ⟨x1, x2⟩ := mxK_ok hK hb
    have F1 := fix_street p1.1 (v := 1)
    refine b_X1_tally_10 p1.1 ⟨fun z => by omega, fun _ => s_lightestWay (d := d + 1) p1.1 ha hb b1 (b2 b hb).1 (b2 b hb).2 (b3 b) (b4 b 1 hb (Or.inr rfl) _ (S44_up p1.1 1)) (fun C2 v f2 l2 e9 e49 => ⟨F1, fun z => ?_, fun z => ?_⟩)⟩
    all_goals
      have hs2 := S44_tr p1 (S44_up p1.1 1)
      have hf2 : Fp tlx C C2 := Fp_tr p2 (Fp_mono f2 (fun a _ q => Or.inl q))
      rw [lCmp_lt] at z
    · have hlt : v < NV := z
      obtain ⟨a, va, ea, eb, ec⟩ := Lst_v hn6 (b3 b) l2 hlt
      let plb : Nat → Int := fun k => if (mxK κ b).testBit k then (a k : Int) else -1
      let pl2 : Nat → Nat → Int := fun j => if j = b then plb else pl j
      have hPb : PlB κ b n plb := ⟨v, a, l2, hlt, va, ea, fun k _ => rfl⟩
      have hp2b : pl2 b = plb := if_pos rfl
      have hp2o : ∀ j, j ≠ b → pl2 j = pl j := fun j hj => if_neg hj
      have hdb : dbL pl κ (8 * b) = dbL pl2 κ (8 * b) := dbL_cong _ (fun j k h1 _ => by rw [hp2o j (by omega)])
      refine up_ind (α := MC) (P := fun k C' => Fp (fun x _ => x = 53) C2 C' ∧ ∀ i, 0 ≤ i → i < 36 → C' 53 i = dbL pl2 κ (8 * b + k) i) (K := fun k C' => K_X1_tally_34 (d + 10) 0 0 (b : Int) (k : Int) (upP D.1 44 8 1) C' Q) 8 ?_ ?_ 0 (by omega) C2 ⟨Fp_rf, fun i x0 x1 => ?_⟩
      · intro C3 ⟨c1, c2⟩
        refine b_X1_tally_34 F1 ⟨fun _ => ?_, fun y => absurd (by decide) y⟩
        rw [w32_succ (by omega)]
        refine ih (upP D.1 44 8 1, C3) ⟨hs2, Fp_tr hf2 (Fp_mono c1 (fun x _ q => Or.inr q)), pl2, fun j hj => ?_, c2⟩
        by_cases e : j = b
        · rw [e, hp2b]; exact hPb
        · rw [hp2o j e]; exact p3 j (by omega)
      · intro k C3 hk8 ⟨c1, c2⟩ ihk
        have e1 : (8 * b + k) / 8 = b := by omega
        have e2 : (8 * b + k) % 8 = k := by omega
        have own : C3 4 k = κ k := by rw [c1 4 k (by omega), hf2 4 k (by unfold tlx plx; omega)]; exact h4 k (by omega) (by omega)
        have ho := hK.2.2.1 k (by omega) (by omega)
        have h10' : ∀ C', Fp (fun x _ => x = 53) C2 C' → C' 1 0 = n := fun C' hf => by rw [hf 1 0 (by decide), hf2 1 0 (by unfold tlx plx; omega)]; exact h10
        have hr := PlB_rng hPb hk8
        have hsuc : dbL pl2 κ (8 * b + (k + 1)) = (if plb k ≠ -1 ∧ κ (k : Int) ≠ -1 ∧ κ (k : Int) ≠ plb k then (fun i => if i = 6 * plb k + κ (k : Int) then dbL pl2 κ (8 * b + k) i + 1 else dbL pl2 κ (8 * b + k) i) else dbL pl2 κ (8 * b + k)) := by
          show dbL pl2 κ (8 * b + k + 1) = _
          rw [dbL, e1, e2, hp2b]
        have same : ¬ (plb k ≠ -1 ∧ κ (k : Int) ≠ -1 ∧ κ (k : Int) ≠ plb k) → K_X1_tally_34 (d + 10) 0 0 (b : Int) (w32 ((k : Int) + 1)) (upP D.1 44 8 1) C3 Q := fun hno => by
          rw [w32_succ (by omega)]
          rw [if_neg hno] at hsuc
          exact ihk C3 ⟨c1, fun i x0 x1 => by rw [hsuc]; exact c2 i x0 x1⟩
        refine b_X1_tally_34 F1 ⟨fun y => by omega, fun _ => s_player (d := d + 8) (a := a) (md := mdK κ b) (v := v) (X := mxK κ b) F1 hk8 x2 (by rw [c1 44 9 (by omega)]; exact e9) (by rw [c1 49 _ (by omega)]; exact e49) (fun k _ hx => by have : a k < n := va.1 k hx; omega) ea eb ⟨rfl, by omega, s_hasHouse F1 isSt1 fun r1 hr1 => ⟨rfl, fun y => same (fun q => ?_), fun y => s_hasHouse F1 isSt1 fun r2 hr2 => ⟨rfl, fun y2 => same (fun q => ?_), fun y2 => ⟨fun y3 => same (fun q => ?_), fun y3 => ?_⟩⟩⟩⟩⟩
        all_goals
          change (r1 = 1 ∧ 0 ≤ plb k ∧ plb k < C3 1 0 ∨ r1 = 0 ∧ ¬ (0 ≤ plb k ∧ plb k < C3 1 0)) at hr1
          rw [h10' C3 c1] at hr1
        · omega
        · rw [own, h10' C3 c1] at hr2
          omega
        · rw [own] at y3
          exact q.2.2 y3
        · rw [own, h10' C3 c1] at hr2
          rw [own] at y3 ⊢
          change ¬ κ (k : Int) = plb k at y3
          change ((0 : Int) ≤ w32 (w32 (plb k * 6) + κ (k : Int)) ∧ _) ∧ _ ∧ K_X1_tally_34 (d + 10) 0 0 (b : Int) (w32 ((k : Int) + 1)) (upP D.1 44 8 1) (upC C3 53 (w32 (w32 (plb k * 6) + κ (k : Int))) (w32 (C3 53 (w32 (w32 (plb k * 6) + κ (k : Int))) + 1))) Q
          rw [w32_lit (x := plb k * 6) (by omega), w32_lit (x := plb k * 6 + κ (k : Int)) (by omega), w32_succ (by omega)]
          refine ⟨by omega, by omega, ihk _ ⟨Fp_up rfl c1, fun i x0 x1 => ?_⟩⟩
          rw [if_pos ⟨by omega, by omega, y3⟩] at hsuc
          rw [hsuc, upC_get]
          show _ = if i = 6 * plb k + κ (k : Int) then _ else _
          have hb1 := dbL_bd pl2 κ (8 * b + k) (plb k * 6 + κ (k : Int))
          by_cases e : i = 6 * plb k + κ (k : Int)
          · rw [if_pos ⟨rfl, by omega⟩, if_pos e, show plb k * 6 + κ (k : Int) = i by omega, c2 i x0 x1]
            rw [show plb k * 6 + κ (k : Int) = i by omega] at hb1
            exact w32_lit (by omega)
          · rw [if_neg (fun q => e (by omega)), if_neg e]; exact c2 i x0 x1
      · rw [Nat.add_zero, ← hdb, f2 53 i (by omega)]
        exact p4 i x0 x1
    · exact hk 0 _ _ hs2 hf2 (Or.inl ⟨rfl, b, v, hb, l2, z⟩)
  · show C1 53 i = 0
    have := g1 i.toNat (by omega)
    rwa [Int.toNat_of_nonneg x0] at this
def dbx (a k : Int) : Prop := mpx a k ∨ a = 101
theorem s_laysDebts {d n : Nat} {S : MS} {C : MC} {Q : Qt} (F : Fix S) (hA : AskMod) (hK : KOk (C 83)) (hn : C 83 45 = n) (hk : ∀ r C', Fp dbx C C' → DebM C' (C 83) n r → Q r S C') : K_X11_laysDebts_0 (d + 105) 0 0 S C Q := by
  have hn6 : n ≤ 6 := by have := hK.1; omega
  generalize hκ : C 83 = κ at hK hn hk
  have k83 : ∀ C', Fp dbx C C' → C' 83 = κ := fun C' hf => by rw [← hκ]; exact funext fun j => hf 83 j (by unfold dbx mpx asx; omega)
  refine b_X11_laysDebts_0 F ?_
  refine up_ind (α := MC) (P := fun m C' => Fp dbx C C' ∧ ∀ i : Nat, i < m → C' 101 i = 0) (K := fun m C' => K_X11_laysDebts_2 (d + 105) 0 0 (m : Int) S C' Q) 36 ?_ ?_ 0 (by omega) C ⟨Fp_rf, fun i hi => absurd hi (Nat.not_lt_zero i)⟩
  · intro C1 ⟨c1, c2⟩
    refine b_X11_laysDebts_2 F ⟨fun _ => ?_, fun z => absurd (by decide) z⟩
    refine up_ind (α := Int × MC) (P := fun b D => Fp dbx C D.2 ∧ ((D.1 = 0 ∧ ∃ j, j < 16 ∧ Lst (okK κ j) (mdK κ j) 1000001 0 (fun h => h < n) (mxK κ j) 1000001) ∨ (D.1 = 1 ∧ ∃ pl : Nat → Nat → Int, (∀ j, j < b → PlM κ j n (pl j)) ∧ ∀ i, 0 ≤ i → i < 36 → D.2 101 i = dbL pl κ (8 * b) i))) (K := fun b D => K_X11_laysDebts_25 (d + 105) 0 0 D.1 (b : Int) S D.2 Q) 16 ?_ ?_ 0 (by omega) (1, C1) ⟨c1, Or.inr ⟨rfl, fun _ _ => 0, fun j hj => absurd hj (Nat.not_lt_zero j), fun i x0 x1 => ?_⟩⟩
    · intro D ⟨p1, p2⟩
      refine b_X11_laysDebts_25 F ⟨fun _ => ⟨?_, hk _ _ p1 ?_⟩, fun z => absurd (by decide) z⟩
      · rcases p2 with ⟨q, _⟩ | ⟨q, _⟩ <;> omega
      · rcases p2 with ⟨q, q2⟩ | ⟨q, q2⟩
        · exact Or.inl ⟨q, q2⟩
        · exact Or.inr ⟨q, q2⟩
    · intro b D hb ⟨p1, p2⟩ ih
      have e83 := k83 D.2 p1
      refine b_X11_laysDebts_25 F ⟨fun z => by omega, fun _ => ⟨fun z => ⟨by omega, hk _ _ p1 ?_⟩, fun z => ?_⟩⟩
      · rcases p2 with ⟨q, q2⟩ | ⟨q, q2⟩
        · exact Or.inl ⟨q, q2⟩
        · omega
      · rcases p2 with ⟨q, _⟩ | ⟨q, pl, p3, p4⟩
        · exact absurd q z
        · refine s_laysWay (d := d) F hA (by rw [e83]; exact hK) (by rw [e83]; exact hn) hb (fun r u C2 f2 l2 w2 => ⟨rfl, ?_⟩)
          rw [e83] at l2 w2
          have f2' : Fp dbx C C2 := Fp_tr p1 (Fp_mono f2 (fun _ _ q => Or.inl q))
          have e83' := k83 C2 f2'
          have e101 : ∀ i, C2 101 i = D.2 101 i := fun i => f2 101 i (by unfold mpx asx; omega)
          rcases w2 with ⟨w1, w3, w4⟩ | ⟨w1, w3, f, w4, w5⟩
          · -- nobody plays
            subst w3
            have go : ∀ (g k : Nat), k + g = 8 → K_X11_laysDebts_43 (d + 105) 0 0 0 (b : Int) (k : Int) S C2 Q := by
              intro g
              induction g with
              | zero =>
                intro k hk8
                refine b_X11_laysDebts_43 F ⟨fun _ => ?_, fun y => by omega⟩
                rw [w32_succ (by omega)]
                rw [w1] at l2
                exact ih (0, C2) ⟨f2', Or.inl ⟨rfl, b, hb, l2⟩⟩
              | succ g ihg =>
                intro k hk8
                refine b_X11_laysDebts_43 F ⟨fun y => by omega, fun _ => ⟨by omega, fun _ => ?_, fun y => absurd (w4 k (by omega)) y⟩⟩
                rw [w32_succ (by omega)]
                exact ihg (k + 1) (by omega)
            exact go 8 0 rfl
          · subst w3
            let plb : Nat → Int := fun k => if (mxK κ b).testBit k then (f k : Int) else -1
            let pl2 : Nat → Nat → Int := fun j => if j = b then plb else pl j
            have hPb : PlM κ b n plb := ⟨u, f, l2, w1, w4, fun k _ => rfl⟩
            have hp2b : pl2 b = plb := if_pos rfl
            have hp2o : ∀ j, j ≠ b → pl2 j = pl j := fun j hj => if_neg hj
            have hdb : dbL pl κ (8 * b) = dbL pl2 κ (8 * b) := dbL_cong _ (fun j k h1 _ => by rw [hp2o j (by omega)])
            refine up_ind (α := MC) (P := fun k C' => Fp (fun x _ => x = 101) C2 C' ∧ ∀ i, 0 ≤ i → i < 36 → C' 101 i = dbL pl2 κ (8 * b + k) i) (K := fun k C' => K_X11_laysDebts_43 (d + 105) 0 0 1 (b : Int) (k : Int) S C' Q) 8 ?_ ?_ 0 (by omega) C2 ⟨Fp_rf, fun i x0 x1 => by rw [Nat.add_zero, ← hdb, e101]; exact p4 i x0 x1⟩
            · intro C3 ⟨c3, c4⟩
              refine b_X11_laysDebts_43 F ⟨fun _ => ?_, fun y => absurd (by decide) y⟩
              rw [w32_succ (by omega)]
              refine ih (1, C3) ⟨Fp_tr f2' (Fp_mono c3 (fun x _ q => Or.inr q)), Or.inr ⟨rfl, pl2, fun j hj => ?_, c4⟩⟩
              by_cases e : j = b
              · rw [e, hp2b]; exact hPb
              · rw [hp2o j e]; exact p3 j (by omega)
            · intro k C3 hk8 ⟨c3, c4⟩ ihk
              have e1 : (8 * b + k) / 8 = b := by omega
              have e2 : (8 * b + k) % 8 = k := by omega
              have own : C3 83 k = κ k := by rw [c3 83 k (by omega), e83']
              have ho := hK.2.2.1 k (by omega) (by omega)
              have pk : C3 98 k = plb k := by rw [c3 98 k (by omega)]; exact w5 k hk8
              have hr := PlM_rng hPb hk8
              have hsuc : dbL pl2 κ (8 * b + (k + 1)) = (if plb k ≠ -1 ∧ κ (k : Int) ≠ -1 ∧ κ (k : Int) ≠ plb k then (fun i => if i = 6 * plb k + κ (k : Int) then dbL pl2 κ (8 * b + k) i + 1 else dbL pl2 κ (8 * b + k) i) else dbL pl2 κ (8 * b + k)) := by
                show dbL pl2 κ (8 * b + k + 1) = _
                rw [dbL, e1, e2, hp2b]
              have same : ¬ (plb k ≠ -1 ∧ κ (k : Int) ≠ -1 ∧ κ (k : Int) ≠ plb k) → K_X11_laysDebts_43 (d + 105) 0 0 1 (b : Int) (w32 ((k : Int) + 1)) S C3 Q := fun hno => by
                rw [w32_succ (by omega)]
                rw [if_neg hno] at hsuc
                exact ihk C3 ⟨c3, fun i x0 x1 => by rw [hsuc]; exact c4 i x0 x1⟩
              refine b_X11_laysDebts_43 F ⟨fun y => by omega, fun _ => ?_⟩
              rw [w32_lit (x := 0 + (k : Int)) (by omega), Int.zero_add, own, pk]
              refine ⟨by omega, fun y => same (fun q => q.1 y), fun y => ⟨by omega, fun y2 => same (fun q => q.2.1 y2), fun y2 => ⟨by omega, by omega, fun y3 => same (fun q => q.2.2 y3), fun y3 => ?_⟩⟩⟩
              rw [w32_lit (x := 6 * plb k) (by omega), w32_lit (x := 6 * plb k + κ (k : Int)) (by omega), w32_succ (by omega)]
              refine ⟨by omega, by omega, by omega, by omega, ihk _ ⟨Fp_up rfl c3, fun i x0 x1 => ?_⟩⟩
              rw [if_pos ⟨y, y2, y3⟩] at hsuc
              rw [hsuc, upC_get]
              show _ = if i = 6 * plb k + κ (k : Int) then _ else _
              have hb1 := dbL_bd pl2 κ (8 * b + k) (6 * plb k + κ (k : Int))
              by_cases e : i = 6 * plb k + κ (k : Int)
              · rw [if_pos ⟨rfl, e⟩, if_pos e, ← e, c4 i x0 x1]
                rw [← e] at hb1
                exact w32_lit (by omega)
              · rw [if_neg (fun q => e q.2), if_neg e]; exact c4 i x0 x1
    · show C1 101 i = 0
      have := c2 i.toNat (by omega)
      rwa [Int.toNat_of_nonneg x0] at this
  · intro m C1 hm ⟨c1, c2⟩ ih
    refine b_X11_laysDebts_2 F ⟨fun z => by omega, fun _ => ⟨by omega, ?_⟩⟩
    rw [w32_succ (by omega)]
    refine ih _ ⟨Fp_up (Or.inr rfl) c1, fun i hi => ?_⟩
    by_cases e : i = m
    · subst e; rw [upC_at]
    · rw [upC_sK (by omega)]; exact c2 i (by omega)
/-- both tallies -/
theorem Tal_eq {κ : Int → Int} {n : Nat} {r r' : Int} {C1 C2 : MC} (hn : n ≤ 6) (hX : ∀ b, b < 16 → mxK κ b < 256) (h1 : TalC C1 κ n r) (h2 : DebM C2 κ n r') : (r = 0 ∧ r' = 0) ∨ (r = 1 ∧ r' = 1 ∧ ∃ pl : Nat → Nat → Int, (∀ b, b < 16 → PlB κ b n (pl b)) ∧ ∀ i, 0 ≤ i → i < 36 → C1 53 i = dbL pl κ 128 i ∧ C2 101 i = dbL pl κ 128 i) := by
  rcases h1 with ⟨e1, b, v, hb, m1, m2⟩ | ⟨e1, pl, p1, p2⟩
  · rcases h2 with ⟨e2, _⟩ | ⟨e2, pl, q1, _⟩
    · exact Or.inl ⟨e1, e2⟩
    · obtain ⟨u, f, f1, f2, _⟩ := q1 b hb
      have := (Lst_lex hn (fun h k _ => mdK_bd κ b h k) m1 f1).2 m2
      omega
  · rcases h2 with ⟨e2, b, hb, l⟩ | ⟨e2, pl', q1, q2⟩
    · obtain ⟨v, a, a1, a2, _⟩ := p1 b hb
      have := ((Lst_lex hn (fun h k _ => mdK_bd κ b h k) a1 l).1 a2).1
      omega
    · have hdb : dbL pl κ 128 = dbL pl' κ 128 := dbL_cong _ (fun b k h1 h2 => Pl_eq hn (hX b (by omega)) (p1 b (by omega)) (q1 b (by omega)) k h2)
      exact Or.inr ⟨e1, e2, pl, p1, fun i x0 x1 => ⟨p2 i x0 x1, by rw [hdb]; exact q2 i x0 x1⟩⟩
theorem tlx_scr : ∀ a k, tlx a k → scr a k := fun a k h => by unfold tlx plx at h; unfold scr; omega
theorem dbx_scr : ∀ a k, dbx a k → scr a k := fun a k h => by unfold dbx mpx asx at h; unfold scr; omega
theorem q_owes {d : Nat} {l1 l2 : Int} {S : MS} {C : MC} {P : Int → Int → MS → MC → Prop} (hAC : AskCls) (hAM : AskMod) (I : Inv S C) (k : PS S P) : K_X10_owes_0 (d + 106) 0 0 l1 l2 S C (fun r S2 C2 => Fix S2 ∧ S2.2.2.2.2 = S.2.2.2.2 ∧ K_X11_owes_0 (d + 106) 0 0 l1 l2 S2 C2 (fun r2 Sq C3 => Sq = S2 ∧ P r r2 S2 C3)) := by
  have F := I.1
  obtain ⟨n, hn⟩ : ∃ n : Nat, C 83 45 = n := ⟨(C 83 45).toNat, by have := I.2.1.1.2.1; omega⟩
  have hK := KOk_of I.2.1
  have hn6 : n ≤ 6 := by have := hK.1; omega
  have h10 : C 1 0 = n := by rw [I.2.1.1.1]; exact hn
  have bad : ¬ ((0 ≤ l1 ∧ l1 < n) ∧ (0 ≤ l2 ∧ l2 < n) ∧ l1 ≠ l2) → Fix S ∧ S.2.2.2.2 = S.2.2.2.2 ∧ K_X11_owes_0 (d + 106) 0 0 l1 l2 S C (fun r2 Sq C3 => Sq = S ∧ P (-1) r2 S C3) := fun hl => ⟨F, rfl, b_X11_owes_0 F (s_isHouse F hK.1 fun r hr => ⟨rfl, fun _ => ⟨rfl, k _ _ _ I rfl⟩, fun z => s_isHouse F hK.1 fun r2 hr2 => ⟨rfl, fun _ => ⟨rfl, k _ _ _ I rfl⟩, fun z2 => ⟨fun _ => ⟨rfl, k _ _ _ I rfl⟩, fun z3 => by omega⟩⟩⟩)⟩
  refine b_X10_owes_0 F (s_hasHouse F isSt1 fun r hr => ⟨rfl, fun z => bad (by omega), fun z => s_hasHouse F isSt1 fun r2 hr2 => ⟨rfl, fun z2 => bad (by omega), fun z2 => ⟨fun z3 => bad (by omega), fun z3 => ?_⟩⟩⟩)
  refine s_tally (d := d + 95) F hK hn h10 (fun j x0 x1 => (I.2.1.2.1 j x0 x1).1) (SpC_of hAC isSt1 I.2.1 hn) (fun r3 S2 C2 h1 h2 h3 => ⟨h1.1, ?_⟩)
  have e83 : C2 83 = C 83 := funext fun j => h2 83 j (by unfold tlx plx; omega)
  have mod : ∀ rr, (∀ r' C3, DebM C3 (C 83) n r' → (r' = 0 → rr = -1) ∧ (r' ≠ 0 → rr = C3 101 (6 * l1 + l2))) → K_X11_owes_0 (d + 106) 0 0 l1 l2 S2 C2 (fun r2 Sq C3 => Sq = S2 ∧ P rr r2 S2 C3) := by
    intro rr hrr
    refine b_X11_owes_0 h1.1 (s_isHouse h1.1 (by rw [e83]; exact hK.1) fun q1 hq1 => ⟨rfl, fun y => by rw [e83] at hq1; omega, fun _ => s_isHouse h1.1 (by rw [e83]; exact hK.1) fun q2 hq2 => ⟨rfl, fun y => by rw [e83] at hq2; omega, fun _ => ⟨fun y => by omega, fun _ => ?_⟩⟩⟩)
    refine s_laysDebts (d := d) h1.1 hAM (by rw [e83]; exact hK) (by rw [e83]; exact hn) (fun r' C3 f3 h4 => ⟨rfl, fun y => ?_, fun y => ?_⟩)
    all_goals
      rw [e83] at h4
      have hI : Inv S2 C3 := Inv_sc I h1.1 (S44_Ss h1) (Fp_tr (Fp_mono h2 tlx_scr) (Fp_mono f3 dbx_scr))
    · rw [w32_lit (x := 6 * l1) (by omega), w32_lit (x := 6 * l1 + l2) (by omega)]
      refine ⟨by omega, rfl, ?_⟩
      rw [← (hrr r' C3 h4).2 y]
      exact k _ _ _ hI h1.2.2.2.2.1
    · refine ⟨rfl, ?_⟩
      rw [(hrr r' C3 h4).1 y]
      exact k _ _ _ hI h1.2.2.2.2.1
  have hX : ∀ b, b < 16 → mxK (C 83) b < 256 := fun b hb => (mxK_ok hK hb).2
  refine ⟨fun y => ?_, fun y => ⟨h1.1, h1.2.2.2.2.1, mod _ (fun r' C3 h4 => ?_)⟩⟩
  · rw [w32_lit (x := l1 * 6) (by omega), w32_lit (x := l1 * 6 + l2) (by omega)]
    refine ⟨by omega, h1.1, h1.2.2.2.2.1, mod _ (fun r' C3 h4 => ?_)⟩
    rcases Tal_eq hn6 hX h3 h4 with ⟨q1, q2⟩ | ⟨q1, q2, pl, _, q3⟩
    · omega
    · refine ⟨fun q => by omega, fun _ => ?_⟩
      rw [(q3 (l1 * 6 + l2) (by omega) (by omega)).1, show 6 * l1 + l2 = l1 * 6 + l2 by omega, (q3 (l1 * 6 + l2) (by omega) (by omega)).2]
  · rcases Tal_eq hn6 hX h3 h4 with ⟨q1, q2⟩ | ⟨q1, q2, _⟩
    · exact ⟨fun _ => rfl, fun q => by omega⟩
    · omega
