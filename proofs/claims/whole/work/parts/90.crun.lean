/-! 90.crun: the class runs orders -/
def crn (a k : Int) : Prop := a = 4 ∨ a = 5 ∨ (a = 8 ∧ k = 0) ∨ (a = 55 ∧ k = 3) ∨ a = 56 ∨ a = 57 ∨ a = 58 ∨ (a = 59 ∧ (k = 2 ∨ k = 3)) ∨ (60 ≤ a ∧ a ≤ 62) ∨ (40 ≤ a ∧ a ≤ 51)
def x62 (a _ : Int) : Prop := a = 62
def TwP (w : Int → Int) (dn lt : Int) (C : MC) (m : Nat) (D : MC) : Prop := Fp x62 C D ∧ D 62 3 = C 62 3 ∧ (D 62 0 = w 24 ∧ D 62 1 = dn ∧ D 62 2 = lt ∧ D 62 4 = ntn (fun b => w (8 + b)) 16) ∧ (∀ j : Nat, j < m → j < 16 → D 62 (5 + j) = w (8 + j)) ∧ ∀ j : Nat, j + 16 < m → D 62 (21 + j) = w j
theorem w32_5 {c : Int} {m : Nat} (hc : 0 ≤ c ∧ c ≤ 100) (hm : m < 100) : w32 (c + (m : Int)) = c + m := w32_lit (by omega)
theorem ne5 {j m : Nat} (h : j ≠ m) : (5 + (j : Int) ≠ 5 + (m : Int)) ∧ (21 + (j : Int) ≠ 21 + (m : Int)) := by omega
theorem ne6 {j m : Nat} (hj : j < 16) : (5 + (j : Int) ≠ 21 + (m : Int)) ∧ (21 + (m : Int) ≠ 5 + (j : Int)) := by omega
theorem ne7 (m : Nat) : ((0 : Int) ≠ 5 + m ∧ (1 : Int) ≠ 5 + m ∧ (2 : Int) ≠ 5 + m ∧ (3 : Int) ≠ 5 + m ∧ (4 : Int) ≠ 5 + m) ∧ ((0 : Int) ≠ 21 + m ∧ (1 : Int) ≠ 21 + m ∧ (2 : Int) ≠ 21 + m ∧ (3 : Int) ≠ 21 + m ∧ (4 : Int) ≠ 21 + m) := by omega
theorem c_tell {d : Nat} {w : Int → Int} {dn lt : Int} {S : MS} {C : MC} {Q : Qt} (F : Fix S) (hs : StC C w) (hw : UOk (C 1 0) w) (h2 : C 59 2 = dn) (h3 : C 59 3 = lt) (h : ∀ C', TwP w dn lt C 24 C' → Q 0 S C') : K_X6_tellWords_0 (d + 2) 0 0 S C Q := by
  have mus : ∀ k, 0 ≤ k → k < 16 → 0 ≤ C 5 k ∧ C 5 k ≤ 255 := fun k k0 k1 => by
    rw [hs.2.1 k k0 k1]
    exact hw.2.1 (8 + k) (by clear h2 h3 hs hw h; omega) (by clear h2 h3 hs hw h; omega)
  refine b_X6_tellWords_0 (d := d + 1) F ?_
  rw [hs.2.2, h2, h3]
  generalize hD : upC (upC (upC C 62 0 (w 24)) 62 1 dn) 62 2 lt = D
  have eD : ∀ a, a ≠ 62 → D a = C a := fun a ha => by rw [← hD, upC_ne ha, upC_ne ha, upC_ne ha]
  have fD : Fp x62 C D := by rw [← hD]; exact Fp_up rfl (Fp_up rfl (Fp_up rfl Fp_rf))
  refine s_countNotes (a := 1) F isSt1 (fun k k0 k1 => ?_) ⟨rfl, ?_⟩
  · show 0 ≤ D 5 k ∧ D 5 k ≤ 255
    rw [eD 5 (by decide)]; exact mus k k0 k1
  have en : ntn (D (1 + 4)) 16 = ntn (fun b => w (8 + b)) 16 := ntn_cong (fun k k0 k1 => by
    show D 5 k = _
    rw [eD 5 (by decide)]; exact hs.2.1 k k0 k1) 16 (Nat.le_refl _)
  rw [en]
  have b5 : ∀ m : Nat, m < 16 → ((0 : Int) ≤ (m : Int) ∧ (m : Int) < 16) ∧ ((0 : Int) ≤ 5 + (m : Int) ∧ 5 + (m : Int) < 29) := fun m hm => by clear h2 h3 hs hw h; omega
  have b8 : ∀ m : Nat, m < 8 → ((0 : Int) ≤ (m : Int) ∧ (m : Int) < 8) ∧ ((0 : Int) ≤ 21 + (m : Int) ∧ 21 + (m : Int) < 29) := fun m hm => by clear h2 h3 hs hw h; omega
  have n16 : ∀ m : Nat, m < 16 → ¬ (16 : Int) ≤ (m : Int) := fun m hm => by clear h2 h3 hs hw h; omega
  have n8 : ∀ m : Nat, m < 8 → ¬ (8 : Int) ≤ (m : Int) := fun m hm => by clear h2 h3 hs hw h; omega
  have lt1 : ∀ {j m : Nat}, j < m + 1 → j ≠ m → j < m := fun h1 h2 => Nat.lt_of_le_of_ne (Nat.le_of_lt_succ h1) h2
  refine up_ind (α := MC) (P := fun m E => TwP w dn lt C m E) (K := fun m E => K_X6_tellWords_44 (d + 2) 0 0 (m : Int) S E Q) 16 ?_ ?_ 0 (Nat.zero_le _) _ ⟨Fp_up rfl fD, ?_, ⟨?_, ?_, ?_, ?_⟩, fun j hj => absurd hj (Nat.not_lt_zero j), fun j hj => absurd hj (Nat.not_lt_zero _)⟩
  · intro E hE
    refine b_X6_tellWords_44 (d := d + 1) F ⟨fun _ => ?_, fun z => absurd (by decide) z⟩
    refine up_ind (α := MC) (P := fun m E => TwP w dn lt C (16 + m) E) (K := fun m E => K_X6_tellWords_72 (d + 2) 0 0 (m : Int) S E Q) 8 ?_ ?_ 0 (Nat.zero_le _) E hE
    · intro E2 hE2
      exact b_X6_tellWords_72 (d := d + 1) F ⟨fun _ => h E2 hE2, fun z => absurd (by decide) z⟩
    · intro m E2 hm ⟨p1, p2, p3, p4, p5⟩ ih
      refine b_X6_tellWords_72 (d := d + 1) F ⟨fun z => absurd z (n8 m hm), fun _ => ?_⟩
      rw [w32_5 (by decide) (Nat.lt_trans hm (by decide)), w32_nat1 (p := m) (Nat.le_trans (Nat.le_of_lt hm) (by decide))]
      have e4 : E2 4 = C 4 := fp_row p1 (fun k q => absurd q (by decide : ¬ (4 : Int) = 62))
      obtain ⟨_, q0, q1, q2, q3, q4⟩ := ne7 m
      refine ⟨(b8 m hm).1, (b8 m hm).2, ih _ ⟨Fp_up rfl p1, by rw [upC_sK q3]; exact p2, ⟨by rw [upC_sK q0]; exact p3.1, by rw [upC_sK q1]; exact p3.2.1, by rw [upC_sK q2]; exact p3.2.2.1, by rw [upC_sK q4]; exact p3.2.2.2⟩, fun j hj hj2 => ?_, fun j hj => ?_⟩⟩
      · rw [upC_sK (ne6 hj2).1]
        exact p4 j (Nat.lt_of_lt_of_le hj2 (Nat.le_add_right 16 m)) hj2
      · by_cases q : j = m
        · rw [q, upC_at, e4]
          exact hs.1 m (Int.natCast_nonneg m) (b8 m hm).1.2
        · rw [upC_sK (ne5 q).2]
          exact p5 j (by clear h2 h3 hs hw h p2 p3; omega)
  · intro m E hm ⟨p1, p2, p3, p4, p5⟩ ih
    refine b_X6_tellWords_44 (d := d + 1) F ⟨fun z => absurd z (n16 m hm), fun _ => ?_⟩
    rw [w32_5 (by decide) (Nat.lt_trans hm (by decide)), w32_nat1 (p := m) (Nat.le_trans (Nat.le_of_lt hm) (by decide))]
    have e5 : E 5 = C 5 := fp_row p1 (fun k q => absurd q (by decide : ¬ (5 : Int) = 62))
    obtain ⟨⟨q0, q1, q2, q3, q4⟩, _⟩ := ne7 m
    refine ⟨(b5 m hm).1, (b5 m hm).2, ih _ ⟨Fp_up rfl p1, by rw [upC_sK q3]; exact p2, ⟨by rw [upC_sK q0]; exact p3.1, by rw [upC_sK q1]; exact p3.2.1, by rw [upC_sK q2]; exact p3.2.2.1, by rw [upC_sK q4]; exact p3.2.2.2⟩, fun j hj hj2 => ?_, fun j hj => ?_⟩⟩
    · by_cases q : j = m
      · rw [q, upC_at, e5]
        exact hs.2.1 m (Int.natCast_nonneg m) (b5 m hm).1.2
      · rw [upC_sK (ne5 q).1]
        exact p4 j (lt1 hj q) hj2
    · exact absurd hj (by clear h2 h3 hs hw h p2 p3; omega)
  · rw [upC_sK (by decide), ← hD, upC_sK (by decide), upC_sK (by decide), upC_sK (by decide)]
  · rw [upC_sK (by decide), ← hD, upC_sK (by decide), upC_sK (by decide), upC_at]
  · rw [upC_sK (by decide), ← hD, upC_sK (by decide), upC_at]
  · rw [upC_sK (by decide), ← hD, upC_at]
  · rw [upC_at]
theorem Tw_words {w : Int → Int} {dn lt v : Int} {C D : MC} (h : TwP w dn lt C 24 D) (h3 : D 62 3 = v) : ∀ i, 0 ≤ i → i < 29 → D 62 i = wdO w dn lt v i := by
  obtain ⟨_, _, ⟨a0, a1, a2, a4⟩, a5, a6⟩ := h
  intro i i0 i1
  unfold wdO
  by_cases q0 : i = 0
  · rw [if_pos q0, q0]; exact a0
  by_cases q1 : i = 1
  · rw [if_neg q0, if_pos q1, q1]; exact a1
  by_cases q2 : i = 2
  · rw [if_neg q0, if_neg q1, if_pos q2, q2]; exact a2
  by_cases q3 : i = 3
  · rw [if_neg q0, if_neg q1, if_neg q2, if_pos q3, q3]; exact h3
  by_cases q4 : i = 4
  · rw [if_neg q0, if_neg q1, if_neg q2, if_neg q3, if_pos q4, q4]; exact a4
  rw [if_neg q0, if_neg q1, if_neg q2, if_neg q3, if_neg q4]
  clear a0 a1 a2 a4 h3
  by_cases q5 : 5 ≤ i ∧ i < 21
  · rw [if_pos q5]
    obtain ⟨j, hj⟩ : ∃ j : Nat, i = 5 + j := ⟨(i - 5).toNat, by clear a5 a6; omega⟩
    have hj2 : j < 16 := by clear a5 a6; omega
    have e : i - 5 = j := by clear a5 a6; omega
    rw [e, hj]
    exact a5 j (Nat.lt_trans hj2 (by decide)) hj2
  · rw [if_neg q5, if_pos (by clear a5 a6; omega)]
    obtain ⟨j, hj⟩ : ∃ j : Nat, i = 21 + j := ⟨(i - 21).toNat, by clear a5 a6; omega⟩
    have hj2 : j + 16 < 24 := by clear a5 a6; omega
    have e : i - 21 = j := by clear a5 a6; omega
    rw [e, hj]
    exact a6 j hj2
theorem wdO_bd {m : Int} {w : Int → Int} {dn lt dv : Int} (hm : m ≤ 6) (hw : UOk m w) (h1 : Bd dn) (h2 : Bd lt) (h3 : Bd dv) : ∀ i, Bd (wdO w dn lt dv i) := by
  intro i
  obtain ⟨u1, u2, u3⟩ := hw
  have hn := ntn_bd (r := fun b => w (8 + b)) (fun k k0 k1 => u2 (8 + k) (by omega) (by omega)) 16 (Nat.le_refl _)
  unfold wdO
  split
  · unfold Bd; omega
  split
  · exact h1
  split
  · exact h2
  split
  · exact h3
  split
  · unfold Bd; omega
  split
  · rename_i q
    have := u2 (8 + (i - 5)) (by omega) (by omega)
    unfold Bd; omega
  split
  · rename_i q
    have := u1 (i - 21) (by omega) (by omega)
    unfold Bd; omega
  · unfold Bd; omega
/-- one time of an order, by the class -/
theorem c_once {d j n : Nat} {m : Int} {wd : Wd} {cls : List Cla} {cd : List Int} {c : Cla} {W : Nat → Int → Int} {S : MS} {C : MC} {Q : Qt} (F : Fix S) (hm : m ≤ 6) (hj : j < 12) (hcl : ClR C j c) (hcd : ∀ i : Nat, ∀ x, cd[i]? = some x → C 36 (i : Int) = x) (hl : cd.length ≤ 400) (ok : OrdOk cd 0 c) (hR : RkC 60 36 62 S wd true C) (hB : ∀ i, Bd (wd i)) (hH : HsC C n W) (hm1 : C 1 0 = m) (hn : n < 256)
    (h1 : holdsC c wd = false → ∀ C', Sk 60 0 C C' → Q 1 S C') (h2 : holdsC c wd = true → c.2.2.1 wd = none ∨ c.2.2.2.1 wd = none → ∀ C', Sk 60 0 C C' → Q 0 S C') (h3 : ∀ f g t C1 C2, holdsC c wd = true → c.2.2.1 wd = some f → c.2.2.2.1 wd = some g → Sk 60 0 C C1 → Tld m c.1.1 f g (W n) t → (t < 0 → Q 0 S C1) ∧ (0 ≤ t → MkC C1 C2 n c.1.1 (W n) (chW c.1.1 f g (W n)) → Q 1 S (upC (if c.1.1 = 2 then upC C2 59 3 t else C2) 59 2 (w32 (C2 59 2 + 1))))) : K_X6_runOnce_0 (d + 4) 0 0 (j : Int) S C Q := by
  obtain ⟨k1, k2, k3, ⟨s1, s2⟩, k4, k5⟩ := ok
  obtain ⟨r1, r2, r3, r4, r5⟩ := hcl
  have bj : (0 : Int) ≤ (j : Int) ∧ (j : Int) < 12 := ⟨Int.natCast_nonneg j, Int.ofNat_lt.mpr hj⟩
  have H : RkF 60 36 62 S wd := ⟨Or.inr rfl, ⟨fo_36 F, ft_36 F⟩, ⟨fo_62 F, ft_62 F⟩, by decide, by decide, by rw [fl_36 F]; decide, hB⟩
  have hm36 : (cd.length : Int) ≤ S.2.2.1 36 := by rw [fl_36 F]; exact Int.ofNat_le.mpr hl
  have row : ∀ {C1 : MC}, Sk 60 0 C C1 → ∀ a, a ≠ 61 → C1 a = C a := fun sk a ha => Sk_row sk ha
  have hRk : ∀ {C1 : MC}, Sk 60 0 C C1 → RkC 60 36 62 S wd true C1 := fun sk => RkC_sk hR (by decide) sk
  have hcd1 : ∀ {C1 : MC}, Sk 60 0 C C1 → ∀ i : Nat, ∀ x, cd[i]? = some x → C1 36 (i : Int) = x := fun sk i x hx => by rw [row sk 36 (by decide)]; exact hcd i x hx
  have sum : ∀ (pl : Int) (f' : Sem) (C1 : MC) (Q2 : Qt), ((pl = -1 ∧ f' = fun _ => some 0) ∨ ∃ (k : Nat) (pc : List Int), pl = (k : Int) ∧ Pc cd 0 k (pc ++ [0]) ∧ SgS true k pc f') → Sk 60 0 C C1 → (∀ C2, Sk 60 0 C C2 → (∀ x, f' wd = some x → Q2 x S C2) ∧ (f' wd = none → Q2 NANi S C2)) → K_X6_sumOf_0 (d + 3) 0 0 pl S C1 Q2 := by
    intro pl f' C1 Q2 hpl sk hk
    rcases hpl with ⟨p1, p2⟩ | ⟨k, pc, p1, p2, p3⟩
    · exact b_X6_sumOf_0 (d := d + 2) F ⟨fun z => absurd p1 z, fun _ => (hk C1 sk).1 0 (by rw [p2])⟩
    · refine b_X6_sumOf_0 (d := d + 2) F ⟨fun _ => ?_, fun z => absurd (p1.symm.trans z) (nat_n1 k)⟩
      rw [p1]
      exact s_rkT (d := d + 1) F H (hRk sk) (hcd1 sk) hm36 p2 p3 (fun x C2 ex s2 => ⟨rfl, (hk C2 (Sk_tr sk s2)).1 x ex⟩) (fun C2 ex s2 => ⟨rfl, (hk C2 (Sk_tr sk s2)).2 ex⟩)
  have nan : ∀ x, Bd x → ¬ lCmp x (-1152921504606846976) = 0 := fun x hx z => by
    rw [lC_eq] at z
    unfold Bd at hx
    clear r1 r2 r3 r4 r5 hm1
    omega
  have h35 : ∀ (C1 : MC) (s0 : Int), Sk 60 0 C C1 → (s0 = NANi ∧ holdsC c wd = false ∨ s0 = b2 (holdsC c wd)) → K_X6_runOnce_35 (d + 4) 0 0 (j : Int) s0 S C1 Q := by
    intro C1 s0 sk hs
    refine b_X6_runOnce_35 (d := d + 3) F ⟨fun z => h1 ?_ C1 sk, fun z => ⟨fun z2 => ⟨bj, ?_⟩, fun z2 => h1 ?_ C1 sk⟩⟩
    · rw [lC_eq] at z
      rcases hs with hs | hs
      · exact hs.2
      · cases hc : holdsC c wd with
        | false => rfl
        | true => rw [hs, hc] at z; exact absurd z (by decide)
    · have hh : holdsC c wd = true := by
        rcases hs with hs | hs
        · exact absurd (lC_eq.mpr hs.1) z
        · cases hc : holdsC c wd with
          | true => rfl
          | false => exact absurd (lC_eq.mpr (by rw [hs, hc]; rfl)) z2
      rw [row sk 33 (by decide), r3]
      refine sum _ c.2.2.1 C1 _ k4 sk (fun C2 sk2 => ?_)
      have second : ∀ r : Int, (r = NANi ∧ c.2.2.1 wd = none ∨ ∃ f, r = f ∧ c.2.2.1 wd = some f) → K_X6_sumOf_0 (d + 3) 0 0 (C2 34 (j : Int)) S C2 (fun r3 Sq C4 => Sq = S ∧ ((lCmp r (-1152921504606846976) = 0 → Q 0 S C4) ∧ (¬ lCmp r (-1152921504606846976) = 0 → ((¬ lCmp r3 (-1152921504606846976) = 0 → ((0 : Int) ≤ (j : Int) ∧ (j : Int) < 12) ∧ K_X0_make_0 (d + 3) 0 0 (C4 31 (j : Int)) (w32 r) (w32 r3) S C4 (fun r5 Sq C6 => Sq = S ∧ ((0 ≤ r5 → ((0 : Int) ≤ (j : Int) ∧ (j : Int) < 12) ∧ ((¬ C6 31 (j : Int) = 2 → Q 1 S (upC C6 59 2 (w32 ((C6 59 2) + 1)))) ∧ (C6 31 (j : Int) = 2 → Q 1 S (upC (upC C6 59 3 r5) 59 2 (w32 ((C6 59 2) + 1)))))) ∧ (¬ 0 ≤ r5 → Q 0 S C6)))) ∧ (lCmp r3 (-1152921504606846976) = 0 → Q 0 S C4))))) := by
        intro r hr
        rw [row sk2 34 (by decide), r4]
        refine sum _ c.2.2.2.1 C2 _ k5 sk2 (fun C4 sk4 => ⟨fun g hg => ⟨rfl, ?_⟩, fun hg => ⟨rfl, ?_⟩⟩)
        · rcases hr with ⟨hr1, hr2⟩ | ⟨f, hr1, hr2⟩
          · exact ⟨fun _ => h2 hh (Or.inl hr2) C4 sk4, fun y => absurd (lC_eq.mpr hr1) y⟩
          · subst hr1
            have bf := s1 wd hB r hr2
            have bg := s2 wd hB g hg
            refine ⟨fun y => absurd y (nan r bf), fun _ => ⟨fun _ => ⟨bj, ?_⟩, fun y => absurd y (nan g bg)⟩⟩
            have st4 : StC C4 (W n) := by
              have := hH.2.1
              unfold StC at this ⊢
              rw [row sk4 4 (by decide), row sk4 5 (by decide), row sk4 8 (by decide)]
              exact this
            rw [row sk4 31 (by decide), r1]
            have e10 : C4 1 0 = m := by rw [row sk4 1 (by decide)]; exact hm1
            refine s_make (d := d) (w := W n) (n := (n : Int)) F k1 st4 (by rw [e10, ← hm1]; exact hH.2.2.2 n (Nat.le_refl _)) (by rw [row sk4 55 (by decide)]; exact hH.1) ⟨Int.natCast_nonneg n, Int.ofNat_lt.mpr hn⟩ (fun t C6 hT t1 t2 => ⟨rfl, ?_⟩)
            rw [e10] at hT
            obtain ⟨hT2, hch⟩ := Tld_far hm (w32_far bf) (w32_far bg) hT
            obtain ⟨a1, a2⟩ := h3 r g t C4 C6 hh hr2 hg sk4 hT2
            refine ⟨fun y => ⟨bj, ?_⟩, fun y => ?_⟩
            · have mk := t1 y
              rw [hch y (by rw [← hm1]; exact hH.2.2.2 n (Nat.le_refl _))] at mk
              have q := a2 y mk
              have e31 : C6 31 (j : Int) = c.1.1 := by rw [mk.1 31 j (by unfold chF; intro z; clear r1 r2 r3 r4 r5 hm1; omega), row sk4 31 (by decide)]; exact r1
              rw [e31]
              refine ⟨fun z => ?_, fun z => ?_⟩
              · rw [if_neg z] at q; exact q
              · rw [if_pos z] at q; exact q
            · rw [t2 (Int.not_le.mp y)]
              exact a1 (Int.not_le.mp y)
        · rcases hr with ⟨hr1, hr2⟩ | ⟨f, hr1, hr2⟩
          · exact ⟨fun _ => h2 hh (Or.inl hr2) C4 sk4, fun y => absurd (lC_eq.mpr hr1) y⟩
          · subst hr1
            exact ⟨fun y => absurd y (nan r (s1 wd hB r hr2)), fun _ => ⟨fun y => absurd (lC_eq.mpr rfl) y, fun _ => h2 hh (Or.inr hg) C4 sk4⟩⟩
      exact ⟨fun f hf => ⟨rfl, bj, second f (Or.inr ⟨f, rfl, hf⟩)⟩, fun hf => ⟨rfl, bj, second NANi (Or.inl ⟨rfl, hf⟩)⟩⟩
    · rw [lC_eq] at z2
      rcases hs with hs | hs
      · exact hs.2
      · cases hc : holdsC c wd with
        | false => rfl
        | true => rw [hs, hc] at z2; exact absurd z2 (by decide)
  refine b_X6_runOnce_0 (d := d + 3) F ⟨bj, ?_⟩
  rw [r5]
  rcases k3 with ⟨i1, i2⟩ | ⟨k, pc, i1, i2, i3⟩
  · exact ⟨fun z => absurd i1 z, fun _ => h35 C 1 Sk_rf (Or.inr (by unfold holdsC; rw [i2]; rfl))⟩
  · refine ⟨fun _ => ⟨bj, ?_⟩, fun z => absurd (i1.symm.trans z) (nat_n1 k)⟩
    rw [i1]
    exact s_rkT (d := d + 2) F H hR hcd hm36 i2 i3 (fun x C2 ex sk => ⟨rfl, h35 C2 x sk (Or.inr (holds_b2i.2 x ex))⟩) (fun C2 ex sk => ⟨rfl, h35 C2 NANi sk (Or.inl ⟨rfl, holds_b2i.1 ex⟩)⟩)
