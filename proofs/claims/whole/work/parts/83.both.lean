/-! 83.both: reading a tape, from the tape on -/
def plc (l : List (Nat × Nat)) (N q : Nat) : Int := match l[q]? with
  | some x => (x.1 : Int)
  | none => (N : Int)
theorem plc_in {l : List (Nat × Nat)} {N q : Nat} {x : Nat × Nat} (h : l[q]? = some x) : plc l N q = x.1 := by unfold plc; rw [h]
theorem plc_out {l : List (Nat × Nat)} {N : Nat} : plc l N l.length = N := by unfold plc; rw [List.getElem?_eq_none (Nat.le_refl _)]
theorem get_of {l : List (Nat × Nat)} {j : Nat} (h : j < l.length) : ∃ x, l[j]? = some x ∧ x ∈ l := ⟨l[j], List.getElem?_eq_getElem h, List.getElem_mem h⟩
theorem vl_rel {B : Nat → Int} {N : Nat} {x : Nat × Nat} (h1 : x.1 < N) (h2 : x.2 = endT B N x.1) : 0 ≤ vlM B x.1 x.2 ∧ (dgB (B x.1) = true → NumR (numC B x.1 (x.2 - x.1)) (vlM B x.1 x.2)) := by
  have key : dgB (B x.1) = true → NumR (numC B x.1 (x.2 - x.1)) (vlM B x.1 x.2) := by
    intro q
    have ev : vlM B x.1 x.2 = numM B x.1 (x.2 - x.1) := by unfold vlM; rw [if_pos q]
    rw [ev]
    refine num_rel _ (fun j hj => dgB_iff.mp ?_)
    rw [h2] at hj
    exact endT_dig h1 q (x.1 + j) (by omega) (by omega)
  refine ⟨?_, key⟩
  by_cases q : dgB (B x.1) = true
  · exact (key q).1.1
  · unfold vlM
    rw [if_neg q]
    exact Int.le_refl 0
theorem tkL_400 {B : Nat → Int} {N : Nat} (hN : N ≤ 400) : (tkL B N 400 0).length ≤ 400 := by
  rcases tkL_len (B := B) (N := N) 400 0 with h | h
  · omega
  · rw [h]; decide
theorem TkC_of {B : Nat → Int} {N : Nat} {o : Bool} {C : MC} {l : List (Nat × Nat)} (hb : ∀ i : Nat, i < N → -128 ≤ B i ∧ B i ≤ 127) (hl : l.length ≤ 400) (hm : ∀ x, x ∈ l → x.1 < N ∧ x.2 = endT B N x.1) (h5 : C 29 5 = l.length) (hr : ∀ j x, l[j]? = some x → RowC B C j x) (h285 : C 37 (l.length : Int) = 285) (h6 : C 29 6 = b2 o) : TkC (tkT B l) o C := by
  unfold TkC
  rw [tkT_len]
  refine ⟨h5, hl, fun j hj => ?_, h6⟩
  unfold TkJ
  rw [tkT_len]
  by_cases q : j = l.length
  · rw [q, h285, tc_hi (by rw [tkT_len]; exact Nat.le_refl _)]
    have etv : tv (tkT B l) l.length = 0 := by
      unfold tv
      rw [List.getD_eq_getElem?_getD, List.getElem?_eq_none (by rw [tkT_len]; exact Nat.le_refl _)]
      rfl
    rw [etv]
    exact ⟨by decide, by decide, ⟨fun _ => rfl, fun _ => rfl⟩, fun z => absurd z (by decide), Int.le_refl 0⟩
  · obtain ⟨x, hx, hxm⟩ := get_of (l := l) (j := j) (Nat.lt_of_le_of_ne hj q)
    obtain ⟨r1, r2, r3⟩ := hr j x hx
    obtain ⟨t1, t2⟩ := tkT_at (B := B) hx
    obtain ⟨m1, m2⟩ := hm x hxm
    obtain ⟨k1, k2, k3⟩ := kd_rel (t := x.2) (hb x.1 m1)
    obtain ⟨v1, v2⟩ := vl_rel m1 m2
    rw [t1, t2, r1]
    refine ⟨k1, ⟨k2.1, Int.le_trans k2.2 (by decide)⟩, ⟨fun z => ?_, fun z => absurd z q⟩, fun z => ?_, v1⟩
    · rw [z] at k2
      exact absurd k2.2 (by decide)
    · rw [r3 z]
      have := v2 (k3.mp z)
      exact ⟨this.2.1, this.2.2⟩
def rd0 (a k : Int) : Prop := (a = 27 ∧ k = 1) ∨ a = 29 ∨ (30 ≤ a ∧ a ≤ 39)
def PoR (B : Nat → Int) (N : Nat) (l : List (Nat × Nat)) (C' : MC) (r : Int) : Sum Nat (List Cla × List Int) → Prop
  | .inl q => r = 0 ∧ C' 29 11 = plc l N q
  | .inr (cls, cd) => r = 1 ∧ C' 29 11 = -1 ∧ TxtIs (fun a : Nat => C' (30 + a)) cls cd ∧ (∀ j, j < l.length → tc (tkT B l) j = 18 → C' 30 2 = 1) ∧ (C' 30 2 = 0 ∨ C' 30 2 = 1)
theorem c_read {d : Nat} {B : Nat → Int} {N : Nat} {o : Bool} {S : MS} {C : MC} {Q : Qt} (hd : 70 ≤ d) (F : Fix S) (hB : BtC B N C) (hk : ∀ C' r, Fp rd0 C C' → C' 27 1 = 0 → PoR B N (tkL B N 400 0) C' r (textP (tkT B (tkL B N 400 0)) (oneP (tkT B (tkL B N 400 0)) o) 12 0 0 0) → Q r S C') : K_X4_read_0 d 0 0 (b2 o) S C Q := by
  obtain ⟨e, rfl⟩ : ∃ e, d = e + 10 := ⟨d - 10, by omega⟩
  have hN := hB.2.1
  have hb : ∀ i : Nat, i < N → -128 ≤ B i ∧ B i ≤ 127 := fun i hi => (hB.2.2 i hi).2
  have ho : b2 o = 0 ∨ b2 o = 1 := by cases o <;> decide
  refine b_X4_read_0 (d := e + 9) F (c_splitTape (d := e) F hB (fun C2 f2 h5 hr h285 hpN => ⟨rfl, b_X9_clear_0 F ⟨rfl, ho, ?_⟩⟩))
  generalize hl : tkL B N 400 0 = l at h5 hr h285 hpN hk
  have hl400 : l.length ≤ 400 := by rw [← hl]; exact tkL_400 hN
  have hmem : ∀ x, x ∈ l → x.1 < N ∧ x.2 = endT B N x.1 := fun x hx => tkL_mem 400 0 x (by rw [hl]; exact hx)
  generalize hE : upC (upC (upC (upC C2 27 1 0) 30 0 0) 30 1 0) 30 2 0 = E
  have eE : ∀ a, a ≠ 27 → a ≠ 30 → E a = C2 a := fun a h1 h2 => by rw [← hE, upC_ne h2, upC_ne h2, upC_ne h2, upC_ne h1]
  have fE : Fp rd0 C E := by
    rw [← hE]
    exact Fp_up (Or.inr (Or.inr (by decide))) (Fp_up (Or.inr (Or.inr (by decide))) (Fp_up (Or.inr (Or.inr (by decide))) (Fp_up (Or.inl ⟨rfl, rfl⟩) (Fp_mono f2 (fun a k q => by unfold tkx at q; unfold rd0; omega)))))
  have e27 : E 27 1 = 0 := by rw [← hE, upC_ne (by decide), upC_ne (by decide), upC_ne (by decide), upC_at]
  have e302 : E 30 2 = 0 := by rw [← hE, upC_at]
  have e301 : E 30 1 = 0 := by rw [← hE, upC_sK (by decide), upC_at]
  generalize hD : upC (upC (upC (upC (upC (upC E 29 6 (b2 o)) 29 7 0) 29 8 (E 37 0)) 29 9 0) 29 10 0) 29 11 (-1) = D
  have eD : ∀ a, a ≠ 29 → D a = E a := fun a h1 => by rw [← hD, upC_ne h1, upC_ne h1, upC_ne h1, upC_ne h1, upC_ne h1, upC_ne h1]
  have fD : Fp rd0 C D := by
    rw [← hD]
    have x29 : ∀ k : Int, rd0 29 k := fun k => Or.inr (Or.inl rfl)
    exact Fp_up (x29 _) (Fp_up (x29 _) (Fp_up (x29 _) (Fp_up (x29 _) (Fp_up (x29 _) (Fp_up (x29 _) fE)))))
  have d5 : D 29 5 = l.length := by rw [← hD, upC_sK (by decide), upC_sK (by decide), upC_sK (by decide), upC_sK (by decide), upC_sK (by decide), upC_sK (by decide), eE 29 (by decide) (by decide)]; exact h5
  have d6 : D 29 6 = b2 o := by rw [← hD, upC_sK (by decide), upC_sK (by decide), upC_sK (by decide), upC_sK (by decide), upC_sK (by decide), upC_at]
  have d37 : D 37 = C2 37 := by rw [eD 37 (by decide), eE 37 (by decide) (by decide)]
  have d38 : D 38 = C2 38 := by rw [eD 38 (by decide), eE 38 (by decide) (by decide)]
  have d39 : D 39 = C2 39 := by rw [eD 39 (by decide), eE 39 (by decide) (by decide)]
  have rows : ∀ j x, l[j]? = some x → RowC B D j x := fun j x hx => RowC_cong (hr j x hx) (by rw [d37]) (by rw [d38]) (by rw [d39])
  have T : TkC (tkT B l) o D := TkC_of hb hl400 hmem d5 rows (by rw [d37]; exact h285) d6
  have st : RdS D 0 0 8 [] := by
    refine ⟨?_, ?_, ?_, ?_, ?_, fun j x hj => by simp at hj⟩
    · rw [← hD, upC_sK (by decide), upC_sK (by decide), upC_sK (by decide), upC_sK (by decide), upC_at]; rfl
    · rw [d37, ← eE 37 (by decide) (by decide), ← hD, upC_sK (by decide), upC_sK (by decide), upC_sK (by decide), upC_at]; rfl
    · rw [← hD, upC_sK (by decide), upC_sK (by decide), upC_at]; rfl
    · rw [← hD, upC_sK (by decide), upC_at]; rfl
    · rw [eD 30 (by decide)]; exact e301
  have d11 : D 29 11 = -1 := by rw [← hD, upC_at]
  have pl : ∀ q, q ≤ l.length → D 38 q = plc l N q := by
    intro q hq
    by_cases y : q = l.length
    · rw [y, plc_out, d38]; exact hpN
    · obtain ⟨x, hx, _⟩ := get_of (l := l) (j := q) (Nat.lt_of_le_of_ne hq y)
      rw [plc_in hx]
      exact (rows q x hx).2.1
  refine c_text (d := e + 10) (by omega) F T 12 0 0 0 [] [] D rfl rfl Fp_rf (Nat.zero_le _) (by decide) (Nat.zero_le _) st (fun i x hi => by simp at hi) (DrF_nil rfl) d11 (fun C' r f' po => hk C' r (Fp_tr fD (Fp_mono f' (fun a k q => by unfold rdx at q; unfold rd0; omega))) ?_ ?_)
  · rw [fp_row (a := 27) f' (fun k => by unfold rdx; omega), eD 27 (by decide)]; exact e27
  · rw [show ([] : List Int).length = 0 from rfl] at po
    cases hs : textP (tkT B l) (oneP (tkT B l) o) 12 0 0 0 with
    | inl q =>
      rw [hs] at po
      exact ⟨po.1, by rw [po.2.2, pl q (by have := po.2.1; rwa [tkT_len] at this)]⟩
    | inr t =>
      obtain ⟨cls, cd⟩ := t
      rw [hs] at po
      obtain ⟨a1, a2, a3, a4⟩ := po
      exact ⟨a1, a2, a3, fun j hj ht => a4.2.1 j (Nat.zero_le _) (by rw [tkT_len]; exact hj) ht, a4.2.2 (Or.inl (by rw [eD 30 (by decide)]; exact e302))⟩
def md0 (a k : Int) : Prop := a = 90 ∨ a = 91 ∨ a = 92 ∨ (a = 81 ∧ ((8 ≤ k ∧ k ≤ 10) ∨ k = 13 ∨ k = 14 ∨ (18 ≤ k ∧ k ≤ 21)))
def MTok (τ : Tks) (C : MC) : Prop := C 81 18 = τ.length ∧ ∀ j : Nat, j < τ.length → C 90 j = tc τ j ∧ C 91 j = tv τ j
def PoN (N : Nat) (l : List (Nat × Nat)) (C' : MC) (r : Int) : Option Nat → Prop
  | some q => r = 0 ∧ C' 81 14 = plc l N q
  | none => r = 1 ∧ C' 81 14 = -1
theorem m_readsAs {d : Nat} {B : Nat → Int} {N : Nat} {o : Bool} {S : MS} {C : MC} {Q : Qt} (hd : 80 ≤ d) (F : Fix S) (hB : BtM B N C) (hW : WdM C) (h13 : C 81 13 = N) (hk : ∀ C' r, Fp md0 C C' → C' 81 13 = 0 → MTok (tkT B (tkL B N 400 0)) C' → PoN N (tkL B N 400 0) C' r (flt (textP (tkT B (tkL B N 400 0)) (oneP (tkT B (tkL B N 400 0)) o) 12 0 0 0)) → Q r S C') : K_X11_readsAs_0 d 0 0 (b2 o) S C Q := by
  obtain ⟨e, rfl⟩ : ∃ e, d = e + 3 := ⟨d - 3, by omega⟩
  have hN := hB.1
  have hb : ∀ i : Nat, i < N → -128 ≤ B i ∧ B i ≤ 127 := fun i hi => (hB.2 i hi).2
  have ho : b2 o = 0 ∨ b2 o = 1 := by cases o <;> decide
  have main : ∀ fw lw : Int, fw = (if o then 14 else 8) → lw = (if o then 20 else 15) → K_X11_reads_0 (e + 2) 0 0 S (upC (upC (upC C 81 10 (b2 o)) 81 8 fw) 81 9 lw) (fun r1 Sq C2 => Sq = S ∧ ((r1 = 0 ∨ r1 = 1) ∧ Q r1 S C2)) := by
    intro fw lw hfw hlw
    generalize hE : upC (upC (upC C 81 10 (b2 o)) 81 8 fw) 81 9 lw = E
    have x81 : ∀ k : Int, 8 ≤ k ∧ k ≤ 10 → md0 81 k := fun k hk => Or.inr (Or.inr (Or.inr ⟨rfl, Or.inl hk⟩))
    have fE : Fp md0 C E := by
      rw [← hE]
      exact Fp_up (x81 9 (by decide)) (Fp_up (x81 8 (by decide)) (Fp_up (x81 10 (by decide)) Fp_rf))
    have eE : ∀ a, a ≠ 81 → E a = C a := fun a h => by rw [← hE, upC_ne h, upC_ne h, upC_ne h]
    have hBE : BtM B N E := by
      unfold BtM
      rw [eE 88 (by decide)]
      exact hB
    have hWE : WdM E := by
      unfold WdM
      rw [eE 87 (by decide)]
      exact hW
    have e13 : E 81 13 = N := by rw [← hE, upC_sK (by decide), upC_sK (by decide), upC_sK (by decide)]; exact h13
    have e10 : E 81 10 = b2 o := by rw [← hE, upC_sK (by decide), upC_sK (by decide), upC_at]
    have e8 : E 81 8 = fw := by rw [← hE, upC_sK (by decide), upC_at]
    have e9 : E 81 9 = lw := by rw [← hE, upC_at]
    refine b_X11_reads_0 (d := e + 1) F ?_
    rw [e13]
    refine m_splits (d := e) F hBE hWE (fun C2 f2 h18 hr h90 h91 hpN => ⟨rfl, ?_⟩)
    generalize hl : tkL B N 400 0 = l at h18 hr h90 h91 hpN hk
    have hl400 : l.length ≤ 400 := by rw [← hl]; exact tkL_400 hN
    have hmem : ∀ x, x ∈ l → x.1 < N ∧ x.2 = endT B N x.1 := fun x hx => tkL_mem 400 0 x (by rw [hl]; exact hx)
    generalize hD : upC (upC (upC (upC C2 81 13 0) 81 19 0) 81 20 0) 81 21 (-1) = D
    have eD : ∀ a, a ≠ 81 → D a = C2 a := fun a h => by rw [← hD, upC_ne h, upC_ne h, upC_ne h, upC_ne h]
    have keep : ∀ k, k ≠ 13 → k ≠ 19 → k ≠ 20 → k ≠ 21 → D 81 k = C2 81 k := fun k h1 h2 h3 h4 => by rw [← hD, upC_sK h4, upC_sK h3, upC_sK h2, upC_sK h1]
    have y81 : ∀ k : Int, k = 13 ∨ (18 ≤ k ∧ k ≤ 21) → md0 81 k := fun k hk => Or.inr (Or.inr (Or.inr ⟨rfl, by omega⟩))
    have f2' : Fp md0 E C2 := Fp_mono f2 (fun a k q => by unfold tmx at q; unfold md0; omega)
    have fD : Fp md0 C D := by
      rw [← hD]
      exact Fp_up (y81 21 (by decide)) (Fp_up (y81 20 (by decide)) (Fp_up (y81 19 (by decide)) (Fp_up (y81 13 (by decide)) (Fp_tr fE f2'))))
    have c2k : ∀ k, k ≠ 18 → C2 81 k = E 81 k := fun k h => f2 81 k (by unfold tmx; omega)
    have T : TkM (tkT B l) o D := by
      unfold TkM
      rw [tkT_len]
      refine ⟨by rw [keep 18 (by decide) (by decide) (by decide) (by decide)]; exact h18, hl400, fun j hj => ?_, by rw [keep 10 (by decide) (by decide) (by decide) (by decide), c2k 10 (by decide)]; exact e10, by rw [keep 8 (by decide) (by decide) (by decide) (by decide), c2k 8 (by decide), e8]; exact hfw, by rw [keep 9 (by decide) (by decide) (by decide) (by decide), c2k 9 (by decide), e9]; exact hlw⟩
      rw [eD 90 (by decide), eD 91 (by decide), eD 92 (by decide)]
      by_cases q : j = l.length
      · rw [q, h90, h91, hpN, tc_hi (by rw [tkT_len]; exact Nat.le_refl _)]
        have etv : tv (tkT B l) l.length = 0 := by
          unfold tv
          rw [List.getD_eq_getElem?_getD, List.getElem?_eq_none (by rw [tkT_len]; exact Nat.le_refl _)]
          rfl
        rw [etv]
        exact ⟨rfl, rfl, Int.le_refl 0, Int.natCast_nonneg N⟩
      · obtain ⟨x, hx, hxm⟩ := get_of (l := l) (j := j) (Nat.lt_of_le_of_ne hj q)
        obtain ⟨r1, r2, r3⟩ := hr j x hx
        obtain ⟨t1, t2⟩ := tkT_at (B := B) hx
        obtain ⟨m1, m2⟩ := hmem x hxm
        rw [t1, t2, r1, r2, r3]
        exact ⟨rfl, rfl, (vl_rel m1 m2).1, Int.natCast_nonneg _⟩
    have pl : ∀ q, q ≤ l.length → D 92 q = plc l N q := by
      intro q hq
      rw [eD 92 (by decide)]
      by_cases y : q = l.length
      · rw [y, plc_out]; exact hpN
      · obtain ⟨x, hx, _⟩ := get_of (l := l) (j := q) (Nat.lt_of_le_of_ne hq y)
        rw [plc_in hx]
        exact (hr q x hx).2.2
    refine m_text (d := e + 1) (by omega) F T (by rw [← hD, upC_sK (by decide), upC_sK (by decide), upC_at]) (by rw [← hD, upC_sK (by decide), upC_at]) (by rw [← hD, upC_at]) (fun C' r f' po => ?_)
    have f3 : Fp md0 C C' := Fp_tr fD (Fp_mono f' (fun a k q => by unfold mry at q; unfold md0; omega))
    have k13 : C' 81 13 = 0 := by rw [f' 81 13 (by unfold mry; decide), ← hD, upC_sK (by decide), upC_sK (by decide), upC_sK (by decide), upC_at]
    have mt : MTok (tkT B l) C' := by
      unfold MTok
      rw [f' 81 18 (by unfold mry; decide), fp_row (a := 90) f' (fun k => by unfold mry; omega), fp_row (a := 91) f' (fun k => by unfold mry; omega)]
      exact ⟨T.1, fun j hj => ⟨(T.2.2.1 j (Nat.le_of_lt hj)).1, (T.2.2.1 j (Nat.le_of_lt hj)).2.1⟩⟩
    have key : (r = 0 ∨ r = 1) ∧ PoN N l C' r (flt (textP (tkT B l) (oneP (tkT B l) o) 12 0 0 0)) := by
      cases hs : flt (textP (tkT B l) (oneP (tkT B l) o) 12 0 0 0) with
      | none => rw [hs] at po; exact ⟨Or.inr po.1, po⟩
      | some q =>
        rw [hs] at po
        exact ⟨Or.inl po.1, po.1, by rw [po.2.2, pl q (by have := po.2.1; rwa [tkT_len] at this)]⟩
    exact ⟨rfl, key.1, hk C' r f3 k13 mt key.2⟩
  refine b_X11_readsAs_0 (d := e + 2) F ⟨ho, ?_⟩
  cases o with
  | false => exact ⟨fun _ => ⟨fun _ => main 8 15 rfl rfl, fun z => absurd rfl z⟩, fun z => absurd rfl z⟩
  | true => exact ⟨fun z => absurd z (by decide), fun _ => ⟨fun z => absurd z (by decide), fun _ => main 14 20 rfl rfl⟩⟩
