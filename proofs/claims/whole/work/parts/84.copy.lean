/-! 84.copy: a text is copied into new cells -/
def cpL (t : Int) (len : Nat → Int) (S : MS) : Nat → MS
  | 0 => nwT S 9 0
  | k + 1 => upP (nwT (cpL t len S k) 20 (len k)) t ((3 + k : Nat) : Int) (cpL t len S k).1
def ncL (t : Int) (C : MC) (k : Nat) : MC := fun a j => if t ≤ a ∧ a ≤ t + k then 0 else C a j
theorem cpL_1 {t : Int} {len : Nat → Int} {S : MS} (ht : S.1 = t) : ∀ k : Nat, (cpL t len S k).1 = t + 1 + k
  | 0 => by show S.1 + 1 = _; rw [ht]; omega
  | k + 1 => by
    show (cpL t len S k).1 + 1 = _
    rw [cpL_1 ht k]; omega
theorem cpL_sc {t : Int} {len : Nat → Int} {S : MS} : ∀ k : Nat, (cpL t len S k).2.2.2.2 = S.2.2.2.2
  | 0 => rfl
  | k + 1 => cpL_sc k
theorem cpL_t {t : Int} {len : Nat → Int} {S : MS} (ht : S.1 = t) : ∀ (k : Nat) (a : Int), (cpL t len S k).2.1 a = if a = t then 9 else if t < a ∧ a ≤ t + k then 20 else S.2.1 a
  | 0, a => by
    show (if a = S.1 then 9 else S.2.1 a) = _
    rw [ht]
    by_cases q : a = t
    · rw [if_pos q, if_pos q]
    · rw [if_neg q, if_neg q, if_neg (by omega)]
  | k + 1, a => by
    show (if a = (cpL t len S k).1 then 20 else (cpL t len S k).2.1 a) = _
    rw [cpL_1 ht k, cpL_t ht k a]
    by_cases q : a = t + 1 + k
    · rw [if_pos q, if_neg (by omega), if_pos (by omega)]
    · rw [if_neg q]
      by_cases q2 : a = t
      · rw [if_pos q2, if_pos q2]
      · rw [if_neg q2, if_neg q2]
        by_cases q3 : t < a ∧ a ≤ t + k
        · rw [if_pos q3, if_pos (by omega)]
        · rw [if_neg q3, if_neg (by omega)]
theorem cpL_l {t : Int} {len : Nat → Int} {S : MS} (ht : S.1 = t) : ∀ (k : Nat) (a : Int), (cpL t len S k).2.2.1 a = if t < a ∧ a ≤ t + k then len (a - t - 1).toNat else if a = t then 0 else S.2.2.1 a
  | 0, a => by
    show (if a = S.1 then 0 else S.2.2.1 a) = _
    rw [ht, if_neg (c := t < a ∧ a ≤ t + ((0 : Nat) : Int)) (by omega)]
  | k + 1, a => by
    show (if a = (cpL t len S k).1 then len k else (cpL t len S k).2.2.1 a) = _
    rw [cpL_1 ht k, cpL_l ht k a]
    by_cases q : a = t + 1 + k
    · rw [if_pos q, if_pos (by omega)]
      congr 1
      omega
    · rw [if_neg q]
      by_cases q3 : t < a ∧ a ≤ t + k
      · rw [if_pos q3, if_pos (by omega)]
      · rw [if_neg q3, if_neg (c := t < a ∧ a ≤ t + ((k + 1 : Nat) : Int)) (by omega)]
theorem cpL_p {t : Int} {len : Nat → Int} {S : MS} (ht : S.1 = t) : ∀ (k : Nat) (a j : Int), (cpL t len S k).2.2.2.1 a j = if a = t ∧ 3 ≤ j ∧ j < 3 + k then t + 1 + (j - 3) else if t ≤ a ∧ a ≤ t + k then -1 else S.2.2.2.1 a j
  | 0, a, j => by
    show (if a = S.1 then -1 else S.2.2.2.1 a j) = _
    rw [ht, if_neg (c := a = t ∧ 3 ≤ j ∧ j < 3 + ((0 : Nat) : Int)) (by omega)]
    by_cases q : a = t
    · rw [if_pos q, if_pos (by omega)]
    · rw [if_neg q, if_neg (by omega)]
  | k + 1, a, j => by
    show upC (fun a j => if a = (cpL t len S k).1 then -1 else (cpL t len S k).2.2.2.1 a j) t ((3 + k : Nat) : Int) (cpL t len S k).1 a j = _
    rw [upC_get, cpL_1 ht k, cpL_p ht k a j]
    by_cases q : a = t ∧ j = ((3 + k : Nat) : Int)
    · rw [if_pos q, if_pos (by omega)]
      omega
    · rw [if_neg q]
      by_cases q1 : a = t + 1 + k
      · rw [if_pos q1, if_neg (by omega), if_pos (by omega)]
      · rw [if_neg q1]
        by_cases q2 : a = t ∧ 3 ≤ j ∧ j < 3 + (k : Int)
        · rw [if_pos q2, if_pos (by omega)]
        · rw [if_neg q2, if_neg (c := a = t ∧ 3 ≤ j ∧ j < 3 + ((k + 1 : Nat) : Int)) (by omega)]
          by_cases q3 : t ≤ a ∧ a ≤ t + k
          · rw [if_pos q3, if_pos (by omega)]
          · rw [if_neg q3, if_neg (by omega)]
theorem ncL_0 {S : MS} {C : MC} : nwC S C = ncL S.1 C 0 := by
  funext a j
  show (if a = S.1 then 0 else C a j) = (if S.1 ≤ a ∧ a ≤ S.1 + ((0 : Nat) : Int) then 0 else C a j)
  by_cases q : a = S.1
  · rw [if_pos q, if_pos (by omega)]
  · rw [if_neg q, if_neg (by omega)]
theorem ncL_s {t : Int} {len : Nat → Int} {S : MS} {C : MC} (ht : S.1 = t) (k : Nat) : nwC (cpL t len S k) (ncL t C k) = ncL t C (k + 1) := by
  funext a j
  show (if a = (cpL t len S k).1 then 0 else if t ≤ a ∧ a ≤ t + (k : Int) then 0 else C a j) = (if t ≤ a ∧ a ≤ t + ((k + 1 : Nat) : Int) then 0 else C a j)
  rw [cpL_1 ht k]
  by_cases q : a = t + 1 + k
  · rw [if_pos q, if_pos (by omega)]
  · rw [if_neg q]
    by_cases q2 : t ≤ a ∧ a ≤ t + (k : Int)
    · rw [if_pos q2, if_pos (by omega)]
    · rw [if_neg q2, if_neg (by omega)]
theorem cpL_fix {t : Int} {len : Nat → Int} {S : MS} (F : Fix S) (ht : S.1 = t) (k : Nat) : Fix (cpL t len S k) := by
  have h := F.1
  refine ⟨by rw [cpL_1 ht k]; omega, fun a h0 h1 => ?_, fun a j h0 h1 h2 h3 => ?_⟩
  · rw [cpL_t ht k a, cpL_l ht k a, if_neg (by omega), if_neg (by omega), if_neg (by omega), if_neg (by omega)]
    exact F.2.1 a h0 h1
  · rw [cpL_p ht k a j, if_neg (by omega), if_neg (by omega)]
    exact F.2.2 a j h0 h1 h2 h3
theorem maxI0 {n : Nat} : max (n : Int) 0 = (n : Int) := by omega
theorem byI {n : Nat} (h : n ≤ 400) : ((n : Int)).toNat * componentBytes (newarray.typeOf .int) ≤ 536870912 := by
  rw [Int.toNat_natCast]
  exact Nat.le_trans (Nat.mul_le_mul_right _ h) (by decide)
def lenF (cn cm : Nat) (i : Nat) : Int := if i < 5 then (cn : Int) else (cm : Int)
set_option maxRecDepth 20000 in
theorem x9_init {d cn cm : Nat} {t : Int} {S : MS} {C : MC} {Q : Qt} (ht : S.1 = t) (h0 : 0 ≤ t) (hn : cn ≤ 12) (hm : cm ≤ 400) (h : Q 0 (cpL t (lenF cn cm) S 6) (ncL t C 6)) : Wp (d + 2) 6 460 M_X9_init 0 [cA t, cI (cn : Int), cI (cm : Int)] [] (cpL t (lenF cn cm) S 0) (ncL t C 0) Q := by
  have hb : ∀ k : Nat, 0 ≤ t ∧ t < (nwT (cpL t (lenF cn cm) S k) 20 (lenF cn cm k)).1 := fun k => ⟨h0, by
    show t < (cpL t (lenF cn cm) S k).1 + 1
    rw [cpL_1 ht k]; omega⟩
  have htg : ∀ k : Nat, (nwT (cpL t (lenF cn cm) S k) 20 (lenF cn cm k)).2.1 t = 9 := fun k => by
    show (if t = (cpL t (lenF cn cm) S k).1 then 20 else (cpL t (lenF cn cm) S k).2.1 t) = 9
    rw [cpL_1 ht k, if_neg (by omega), cpL_t ht k t, if_pos rfl]
  have hv : ∀ k : Nat, -1 ≤ (cpL t (lenF cn cm) S k).1 := fun k => by rw [cpL_1 ht k]; omega
  refine wp_aload_n (nx := 1) dX9_init_0 rfl rfl ?_
  refine wp_objInit (nx := 4) dX9_init_1 rfl kM_X9_3 ki_objectInit kc_objectInit h0 (leB rfl) ?_
  refine wp_aload_n (nx := 5) dX9_init_4 rfl rfl ?_
  refine wp_iload_n (nx := 6) dX9_init_5 rfl rfl ?_
  refine wp_iconst (nx := 7) dX9_init_6 rfl (i32 (by decide)) ?_
  refine wp_mmaxI (nx := 10) dX9_init_7 rfl kM_X9_9 (leB rfl) ?_
  refine wp_eqI (cn : Int) maxI0 ?_
  refine wp_newI (nx := 12) (mc := 5) (ms := 448) dX9_init_10 rfl ka_int (Int.natCast_nonneg _) (byI (by omega)) (by omega) (by rw [Int.toNat_natCast]; omega) ?_
  refine wp_heap (S2 := nwT (cpL t (lenF cn cm) S 0) 20 (lenF cn cm 0)) rfl (ncL_s ht 0) ?_
  refine wp_putAF (kk := 3) (nx := 15) clsX9 dX9_init_12 rfl kF_X9_15 (by decide) (hb 0) (htg 0) rfl rfl rfl rfl (hv 0) ?_
  refine wp_heap (S2 := cpL t (lenF cn cm) S 1) rfl rfl ?_
  refine wp_aload_n (nx := 16) dX9_init_15 rfl rfl ?_
  refine wp_iload_n (nx := 17) dX9_init_16 rfl rfl ?_
  refine wp_iconst (nx := 18) dX9_init_17 rfl (i32 (by decide)) ?_
  refine wp_mmaxI (nx := 21) dX9_init_18 rfl kM_X9_9 (leB rfl) ?_
  refine wp_eqI (cn : Int) maxI0 ?_
  refine wp_newI (nx := 23) (mc := 4) (ms := 436) dX9_init_21 rfl ka_int (Int.natCast_nonneg _) (byI (by omega)) (by omega) (by rw [Int.toNat_natCast]; omega) ?_
  refine wp_heap (S2 := nwT (cpL t (lenF cn cm) S 1) 20 (lenF cn cm 1)) rfl (ncL_s ht 1) ?_
  refine wp_putAF (kk := 4) (nx := 26) clsX9 dX9_init_23 rfl kF_X9_21 (by decide) (hb 1) (htg 1) rfl rfl rfl rfl (hv 1) ?_
  refine wp_heap (S2 := cpL t (lenF cn cm) S 2) rfl rfl ?_
  refine wp_aload_n (nx := 27) dX9_init_26 rfl rfl ?_
  refine wp_iload_n (nx := 28) dX9_init_27 rfl rfl ?_
  refine wp_iconst (nx := 29) dX9_init_28 rfl (i32 (by decide)) ?_
  refine wp_mmaxI (nx := 32) dX9_init_29 rfl kM_X9_9 (leB rfl) ?_
  refine wp_eqI (cn : Int) maxI0 ?_
  refine wp_newI (nx := 34) (mc := 3) (ms := 424) dX9_init_32 rfl ka_int (Int.natCast_nonneg _) (byI (by omega)) (by omega) (by rw [Int.toNat_natCast]; omega) ?_
  refine wp_heap (S2 := nwT (cpL t (lenF cn cm) S 2) 20 (lenF cn cm 2)) rfl (ncL_s ht 2) ?_
  refine wp_putAF (kk := 5) (nx := 37) clsX9 dX9_init_34 rfl kF_X9_24 (by decide) (hb 2) (htg 2) rfl rfl rfl rfl (hv 2) ?_
  refine wp_heap (S2 := cpL t (lenF cn cm) S 3) rfl rfl ?_
  refine wp_aload_n (nx := 38) dX9_init_37 rfl rfl ?_
  refine wp_iload_n (nx := 39) dX9_init_38 rfl rfl ?_
  refine wp_iconst (nx := 40) dX9_init_39 rfl (i32 (by decide)) ?_
  refine wp_mmaxI (nx := 43) dX9_init_40 rfl kM_X9_9 (leB rfl) ?_
  refine wp_eqI (cn : Int) maxI0 ?_
  refine wp_newI (nx := 45) (mc := 2) (ms := 412) dX9_init_43 rfl ka_int (Int.natCast_nonneg _) (byI (by omega)) (by omega) (by rw [Int.toNat_natCast]; omega) ?_
  refine wp_heap (S2 := nwT (cpL t (lenF cn cm) S 3) 20 (lenF cn cm 3)) rfl (ncL_s ht 3) ?_
  refine wp_putAF (kk := 6) (nx := 48) clsX9 dX9_init_45 rfl kF_X9_27 (by decide) (hb 3) (htg 3) rfl rfl rfl rfl (hv 3) ?_
  refine wp_heap (S2 := cpL t (lenF cn cm) S 4) rfl rfl ?_
  refine wp_aload_n (nx := 49) dX9_init_48 rfl rfl ?_
  refine wp_iload_n (nx := 50) dX9_init_49 rfl rfl ?_
  refine wp_iconst (nx := 51) dX9_init_50 rfl (i32 (by decide)) ?_
  refine wp_mmaxI (nx := 54) dX9_init_51 rfl kM_X9_9 (leB rfl) ?_
  refine wp_eqI (cn : Int) maxI0 ?_
  refine wp_newI (nx := 56) (mc := 1) (ms := 400) dX9_init_54 rfl ka_int (Int.natCast_nonneg _) (byI (by omega)) (by omega) (by rw [Int.toNat_natCast]; omega) ?_
  refine wp_heap (S2 := nwT (cpL t (lenF cn cm) S 4) 20 (lenF cn cm 4)) rfl (ncL_s ht 4) ?_
  refine wp_putAF (kk := 7) (nx := 59) clsX9 dX9_init_56 rfl kF_X9_30 (by decide) (hb 4) (htg 4) rfl rfl rfl rfl (hv 4) ?_
  refine wp_heap (S2 := cpL t (lenF cn cm) S 5) rfl rfl ?_
  refine wp_aload_n (nx := 60) dX9_init_59 rfl rfl ?_
  refine wp_iload_n (nx := 61) dX9_init_60 rfl rfl ?_
  refine wp_iconst (nx := 62) dX9_init_61 rfl (i32 (by decide)) ?_
  refine wp_mmaxI (nx := 65) dX9_init_62 rfl kM_X9_9 (leB rfl) ?_
  refine wp_eqI (cm : Int) maxI0 ?_
  refine wp_newI (nx := 67) (mc := 0) (ms := 0) dX9_init_65 rfl ka_int (Int.natCast_nonneg _) (byI (by omega)) (by omega) (by rw [Int.toNat_natCast]; omega) ?_
  refine wp_heap (S2 := nwT (cpL t (lenF cn cm) S 5) 20 (lenF cn cm 5)) rfl (ncL_s ht 5) ?_
  refine wp_putAF (kk := 8) (nx := 70) clsX9 dX9_init_67 rfl kF_X9_33 (by decide) (hb 5) (htg 5) rfl rfl rfl rfl (hv 5) ?_
  refine wp_heap (S2 := cpL t (lenF cn cm) S 6) rfl rfl ?_
  exact wp_return dX9_init_70 rfl h
/-- a text's copy: its whole numbers -/
def cpE (t : Int) (cn cm : Nat) (C : MC) : MC := cpC (cpC (cpC (cpC (cpC (cpC (upC (upC (upC (ncL t C 6) t 0 (cn : Int)) t 1 (cm : Int)) t 2 (C 30 2)) 31 0 (t + 1) 0 (cn : Int)) 32 0 (t + 2) 0 (cn : Int)) 33 0 (t + 3) 0 (cn : Int)) 34 0 (t + 4) 0 (cn : Int)) 35 0 (t + 5) 0 (cn : Int)) 36 0 (t + 6) 0 (cm : Int)
theorem cpq_ne {C : MC} {a sp b dp n x : Int} (h : x ≠ b) : cpC C a sp b dp n x = C x := by
  funext j
  unfold cpC
  rw [if_neg (fun z => h z.1)]
theorem cpq_at {C : MC} {a b n j : Int} (h : 0 ≤ j ∧ j < n) : cpC C a 0 b 0 n b j = C a j := by
  unfold cpC
  rw [if_pos ⟨rfl, h.1, by omega⟩]
  congr 1
  omega
theorem cpE_lo {t : Int} {cn cm : Nat} {C : MC} {a : Int} (h : a < t) : cpE t cn cm C a = C a := by
  unfold cpE
  rw [cpq_ne (by omega), cpq_ne (by omega), cpq_ne (by omega), cpq_ne (by omega), cpq_ne (by omega), cpq_ne (by omega), upC_ne (by omega), upC_ne (by omega), upC_ne (by omega)]
  funext j
  unfold ncL
  rw [if_neg (by omega)]
theorem cpE_0 {t : Int} {cn cm : Nat} {C : MC} : cpE t cn cm C t 0 = cn ∧ cpE t cn cm C t 1 = cm := by
  unfold cpE
  rw [cpq_ne (by omega), cpq_ne (by omega), cpq_ne (by omega), cpq_ne (by omega), cpq_ne (by omega), cpq_ne (by omega)]
  exact ⟨by rw [upC_sK (by decide), upC_sK (by decide), upC_at], by rw [upC_sK (by decide), upC_at]⟩
theorem nc_lo {t : Int} {cn cm : Nat} {C : MC} {a : Int} (h : a < t) : upC (upC (upC (ncL t C 6) t 0 (cn : Int)) t 1 (cm : Int)) t 2 (C 30 2) a = C a := by
  rw [upC_ne (by omega), upC_ne (by omega), upC_ne (by omega)]
  funext j
  unfold ncL
  rw [if_neg (by omega)]
theorem cpE_r {t : Int} {cn cm : Nat} {C : MC} (ht : 40 ≤ t) {j : Int} : (0 ≤ j ∧ j < cn → cpE t cn cm C (t + 1) j = C 31 j ∧ cpE t cn cm C (t + 2) j = C 32 j ∧ cpE t cn cm C (t + 3) j = C 33 j ∧ cpE t cn cm C (t + 4) j = C 34 j ∧ cpE t cn cm C (t + 5) j = C 35 j) ∧ (0 ≤ j ∧ j < cm → cpE t cn cm C (t + 6) j = C 36 j) := by
  unfold cpE
  refine ⟨fun h => ⟨?_, ?_, ?_, ?_, ?_⟩, fun h => ?_⟩
  · rw [cpq_ne (by omega), cpq_ne (by omega), cpq_ne (by omega), cpq_ne (by omega), cpq_ne (by omega), cpq_at h, nc_lo (by omega)]
  · rw [cpq_ne (by omega), cpq_ne (by omega), cpq_ne (by omega), cpq_ne (by omega), cpq_at h, cpq_ne (by omega), nc_lo (by omega)]
  · rw [cpq_ne (by omega), cpq_ne (by omega), cpq_ne (by omega), cpq_at h, cpq_ne (by omega), cpq_ne (by omega), nc_lo (by omega)]
  · rw [cpq_ne (by omega), cpq_ne (by omega), cpq_at h, cpq_ne (by omega), cpq_ne (by omega), cpq_ne (by omega), nc_lo (by omega)]
  · rw [cpq_ne (by omega), cpq_at h, cpq_ne (by omega), cpq_ne (by omega), cpq_ne (by omega), cpq_ne (by omega), nc_lo (by omega)]
  · rw [cpq_at h, cpq_ne (by omega), cpq_ne (by omega), cpq_ne (by omega), cpq_ne (by omega), cpq_ne (by omega), nc_lo (by omega)]
set_option maxRecDepth 20000 in
theorem x9_copy {d cn cm : Nat} {t : Int} {S : MS} {C : MC} {Q : Qt} (F : Fix S) (ht : S.1 = t) (hn : cn ≤ 12) (hm : cm ≤ 400) (h0 : C 30 0 = cn) (h1 : C 30 1 = cm) (h2 : C 30 2 = 0 ∨ C 30 2 = 1) (h : Q t (cpL t (lenF cn cm) S 6) (cpE t cn cm C)) : K_X9_copy_0 (d + 3) 7 469 S C Q := by
  have h108 : 108 ≤ t := by rw [← ht]; exact F.1
  have F0 : Fix (cpL t (lenF cn cm) S 0) := cpL_fix F ht 0
  have F6 : Fix (cpL t (lenF cn cm) S 6) := cpL_fix F ht 6
  have bt : ∀ i : Int, 0 ≤ i → i ≤ 6 → 0 ≤ t + i ∧ t + i < (cpL t (lenF cn cm) S 6).1 := fun i i0 i1 => by rw [cpL_1 ht 6]; omega
  have bt0 : 0 ≤ t ∧ t < (cpL t (lenF cn cm) S 6).1 := by rw [cpL_1 ht 6]; omega
  have tt : (cpL t (lenF cn cm) S 6).2.1 t = 9 := by rw [cpL_t ht 6 t, if_pos rfl]
  have ti : ∀ i : Int, 1 ≤ i → i ≤ 6 → (cpL t (lenF cn cm) S 6).2.1 (t + i) = 20 := fun i i0 i1 => by rw [cpL_t ht 6, if_neg (by omega), if_pos (by omega)]
  have pi : ∀ i : Int, 1 ≤ i → i ≤ 6 → (cpL t (lenF cn cm) S 6).2.2.2.1 t (i + 2) = t + i := fun i i0 i1 => by rw [cpL_p ht 6, if_pos (by omega)]; omega
  have li : ∀ i : Int, 1 ≤ i → i ≤ 5 → (cpL t (lenF cn cm) S 6).2.2.1 (t + i) = cn := fun i i0 i1 => by
    rw [cpL_l ht 6, if_pos (by omega)]
    unfold lenF
    rw [if_pos (by omega)]
  have l6 : (cpL t (lenF cn cm) S 6).2.2.1 (t + 6) = cm := by
    rw [cpL_l ht 6, if_pos (by omega)]
    unfold lenF
    rw [if_neg (by omega)]
  have nc30 : ∀ k, ncL t C 0 30 k = C 30 k := fun k => by unfold ncL; rw [if_neg (by omega)]
  have n30 : ∀ k, ncL t C 6 30 k = C 30 k := fun k => by unfold ncL; rw [if_neg (by omega)]
  have ne30 : (30 : Int) ≠ t := by omega
  show Wp (d + 3) 7 469 M_X9_copy 0 [cA 30, cU] [] S C Q
  refine wp_new (nx := 3) (mc := 6) (ms := 460) clsX9 (hdfX (by decide +kernel)) dX9_copy_0 rfl kC_X9_16 kin_X9 kz_X9 (by omega) (leB rfl) ?_
  rw [ht]
  refine wp_heap (S2 := cpL t (lenF cn cm) S 0) (C2 := ncL t C 0) rfl (by rw [← ht]; exact ncL_0) ?_
  refine wp_dup (nx := 4) dX9_copy_3 rfl (k1A _) ?_
  refine wp_aload_n (nx := 5) dX9_copy_4 rfl rfl ?_
  refine wp_getIe (kk := 0) 0 (nx := 8) clsX9 dX9_copy_5 rfl kF_X9_36 (by decide) (fo_30 F0) (ft_30 F0) rfl rfl ((nc30 0).trans h0) ?_
  refine wp_aload_n (nx := 9) dX9_copy_8 rfl rfl ?_
  refine wp_getIe (kk := 1) 1 (nx := 12) clsX9 dX9_copy_9 rfl kF_X9_40 (by decide) (fo_30 F0) (ft_30 F0) rfl rfl ((nc30 1).trans h1) ?_
  refine wp_invI (nx := 15) (d := d + 2) (N := M_X9_init) (as := [cI (cn : Int), cI (cm : Int)]) (st := [cA t]) (a := t) (mc := 6) (ms := 460) (mc' := 0) (ms' := 0) dX9_copy_12 rfl mok_X9_init kM_X9_43 ki_X9_init rfl rfl ⟨by omega, by rw [cpL_1 ht 0]; omega⟩ rfl rfl (leB rfl) (leB rfl) (leB rfl) (leB rfl) ?_
  refine x9_init (d := d) ht (by omega) hn hm ?_
  show Wp (d + 3) 0 0 M_X9_copy 15 [cA 30, cU] [cA t] (cpL t (lenF cn cm) S 6) (ncL t C 6) Q
  refine wp_astore_n (nx := 16) dX9_copy_15 rfl (by decide) ?_
  refine wp_ls (ls2 := [cA 30, cA t]) rfl ?_
  refine wp_aload_n (nx := 17) dX9_copy_16 rfl rfl ?_
  refine wp_aload_n (nx := 18) dX9_copy_17 rfl rfl ?_
  refine wp_getIe (kk := 0) 0 (nx := 21) clsX9 dX9_copy_18 rfl kF_X9_36 (by decide) (fo_30 F6) (ft_30 F6) rfl rfl (v := (cn : Int)) ((n30 0).trans h0) ?_
  refine wp_putIe (kk := 0) 0 (nx := 24) clsX9 dX9_copy_21 rfl kF_X9_36 (by decide) bt0 tt rfl rfl ⟨rfl, rfl⟩ rfl ?_
  refine wp_aload_n (nx := 25) dX9_copy_24 rfl rfl ?_
  refine wp_aload_n (nx := 26) dX9_copy_25 rfl rfl ?_
  refine wp_getIe (kk := 1) 1 (nx := 29) clsX9 dX9_copy_26 rfl kF_X9_40 (by decide) (fo_30 F6) (ft_30 F6) rfl rfl (v := (cm : Int)) (by rw [upC_ne ne30]; exact (n30 1).trans h1) ?_
  refine wp_putIe (kk := 1) 1 (nx := 32) clsX9 dX9_copy_29 rfl kF_X9_40 (by decide) bt0 tt rfl rfl ⟨rfl, rfl⟩ rfl ?_
  refine wp_aload_n (nx := 33) dX9_copy_32 rfl rfl ?_
  refine wp_aload_n (nx := 34) dX9_copy_33 rfl rfl ?_
  refine wp_getIe (kk := 2) 2 (nx := 37) clsX9 dX9_copy_34 rfl kF_X9_46 (by decide) (fo_30 F6) (ft_30 F6) rfl rfl (v := (C 30 2)) (by rw [upC_ne ne30, upC_ne ne30]; exact n30 2) ?_
  refine wp_putIe (kk := 2) 2 (nx := 40) clsX9 dX9_copy_37 rfl kF_X9_46 (by decide) bt0 tt rfl rfl (fz_of h2) rfl ?_
  refine wp_aload_n (nx := 41) dX9_copy_40 rfl rfl ?_
  refine wp_getAe (kk := 3) (nx := 44) clsX9 dX9_copy_41 rfl kF_X9_15 (by decide) (fo_30 F6) (ft_30 F6) rfl (fp_30_3 F6) ?_
  refine wp_iconst (nx := 45) dX9_copy_44 rfl (i32 (by decide)) ?_
  refine wp_aload_n (nx := 46) dX9_copy_45 rfl rfl ?_
  refine wp_getAe (kk := 3) (nx := 49) clsX9 dX9_copy_46 rfl kF_X9_15 (by decide) bt0 tt rfl (pi 1 (by decide) (by decide)) ?_
  refine wp_iconst (nx := 50) dX9_copy_49 rfl (i32 (by decide)) ?_
  refine wp_aload_n (nx := 51) dX9_copy_50 rfl rfl ?_
  refine wp_getIe (kk := 0) 0 (nx := 54) clsX9 dX9_copy_51 rfl kF_X9_36 (by decide) (fo_30 F6) (ft_30 F6) rfl rfl (v := (cn : Int)) (by rw [upC_ne ne30, upC_ne ne30, upC_ne ne30]; exact (n30 0).trans h0) ?_
  refine wp_copyE (nx := 57) (la := 12) (lb := (cn : Int)) dX9_copy_54 rfl kM_X9_50 (fo_31 F6) (bt 1 (by decide) (by decide)) (ft_31 F6) (ti 1 (by decide) (by decide)) (fl_31 F6) (li 1 (by decide) (by decide)) ⟨⟨Int.le_refl 0, Int.le_refl 0, Int.natCast_nonneg _⟩, by omega, by omega⟩ ?_
  refine wp_aload_n (nx := 58) dX9_copy_57 rfl rfl ?_
  refine wp_getAe (kk := 4) (nx := 61) clsX9 dX9_copy_58 rfl kF_X9_21 (by decide) (fo_30 F6) (ft_30 F6) rfl (fp_30_4 F6) ?_
  refine wp_iconst (nx := 62) dX9_copy_61 rfl (i32 (by decide)) ?_
  refine wp_aload_n (nx := 63) dX9_copy_62 rfl rfl ?_
  refine wp_getAe (kk := 4) (nx := 66) clsX9 dX9_copy_63 rfl kF_X9_21 (by decide) bt0 tt rfl (pi 2 (by decide) (by decide)) ?_
  refine wp_iconst (nx := 67) dX9_copy_66 rfl (i32 (by decide)) ?_
  refine wp_aload_n (nx := 68) dX9_copy_67 rfl rfl ?_
  refine wp_getIe (kk := 0) 0 (nx := 71) clsX9 dX9_copy_68 rfl kF_X9_36 (by decide) (fo_30 F6) (ft_30 F6) rfl rfl (v := (cn : Int)) (by rw [cpq_ne (by omega), upC_ne ne30, upC_ne ne30, upC_ne ne30]; exact (n30 0).trans h0) ?_
  refine wp_copyE (nx := 74) (la := 12) (lb := (cn : Int)) dX9_copy_71 rfl kM_X9_50 (fo_32 F6) (bt 2 (by decide) (by decide)) (ft_32 F6) (ti 2 (by decide) (by decide)) (fl_32 F6) (li 2 (by decide) (by decide)) ⟨⟨Int.le_refl 0, Int.le_refl 0, Int.natCast_nonneg _⟩, by omega, by omega⟩ ?_
  refine wp_aload_n (nx := 75) dX9_copy_74 rfl rfl ?_
  refine wp_getAe (kk := 5) (nx := 78) clsX9 dX9_copy_75 rfl kF_X9_24 (by decide) (fo_30 F6) (ft_30 F6) rfl (fp_30_5 F6) ?_
  refine wp_iconst (nx := 79) dX9_copy_78 rfl (i32 (by decide)) ?_
  refine wp_aload_n (nx := 80) dX9_copy_79 rfl rfl ?_
  refine wp_getAe (kk := 5) (nx := 83) clsX9 dX9_copy_80 rfl kF_X9_24 (by decide) bt0 tt rfl (pi 3 (by decide) (by decide)) ?_
  refine wp_iconst (nx := 84) dX9_copy_83 rfl (i32 (by decide)) ?_
  refine wp_aload_n (nx := 85) dX9_copy_84 rfl rfl ?_
  refine wp_getIe (kk := 0) 0 (nx := 88) clsX9 dX9_copy_85 rfl kF_X9_36 (by decide) (fo_30 F6) (ft_30 F6) rfl rfl (v := (cn : Int)) (by rw [cpq_ne (by omega), cpq_ne (by omega), upC_ne ne30, upC_ne ne30, upC_ne ne30]; exact (n30 0).trans h0) ?_
  refine wp_copyE (nx := 91) (la := 12) (lb := (cn : Int)) dX9_copy_88 rfl kM_X9_50 (fo_33 F6) (bt 3 (by decide) (by decide)) (ft_33 F6) (ti 3 (by decide) (by decide)) (fl_33 F6) (li 3 (by decide) (by decide)) ⟨⟨Int.le_refl 0, Int.le_refl 0, Int.natCast_nonneg _⟩, by omega, by omega⟩ ?_
  refine wp_aload_n (nx := 92) dX9_copy_91 rfl rfl ?_
  refine wp_getAe (kk := 6) (nx := 95) clsX9 dX9_copy_92 rfl kF_X9_27 (by decide) (fo_30 F6) (ft_30 F6) rfl (fp_30_6 F6) ?_
  refine wp_iconst (nx := 96) dX9_copy_95 rfl (i32 (by decide)) ?_
  refine wp_aload_n (nx := 97) dX9_copy_96 rfl rfl ?_
  refine wp_getAe (kk := 6) (nx := 100) clsX9 dX9_copy_97 rfl kF_X9_27 (by decide) bt0 tt rfl (pi 4 (by decide) (by decide)) ?_
  refine wp_iconst (nx := 101) dX9_copy_100 rfl (i32 (by decide)) ?_
  refine wp_aload_n (nx := 102) dX9_copy_101 rfl rfl ?_
  refine wp_getIe (kk := 0) 0 (nx := 105) clsX9 dX9_copy_102 rfl kF_X9_36 (by decide) (fo_30 F6) (ft_30 F6) rfl rfl (v := (cn : Int)) (by rw [cpq_ne (by omega), cpq_ne (by omega), cpq_ne (by omega), upC_ne ne30, upC_ne ne30, upC_ne ne30]; exact (n30 0).trans h0) ?_
  refine wp_copyE (nx := 108) (la := 12) (lb := (cn : Int)) dX9_copy_105 rfl kM_X9_50 (fo_34 F6) (bt 4 (by decide) (by decide)) (ft_34 F6) (ti 4 (by decide) (by decide)) (fl_34 F6) (li 4 (by decide) (by decide)) ⟨⟨Int.le_refl 0, Int.le_refl 0, Int.natCast_nonneg _⟩, by omega, by omega⟩ ?_
  refine wp_aload_n (nx := 109) dX9_copy_108 rfl rfl ?_
  refine wp_getAe (kk := 7) (nx := 112) clsX9 dX9_copy_109 rfl kF_X9_30 (by decide) (fo_30 F6) (ft_30 F6) rfl (fp_30_7 F6) ?_
  refine wp_iconst (nx := 113) dX9_copy_112 rfl (i32 (by decide)) ?_
  refine wp_aload_n (nx := 114) dX9_copy_113 rfl rfl ?_
  refine wp_getAe (kk := 7) (nx := 117) clsX9 dX9_copy_114 rfl kF_X9_30 (by decide) bt0 tt rfl (pi 5 (by decide) (by decide)) ?_
  refine wp_iconst (nx := 118) dX9_copy_117 rfl (i32 (by decide)) ?_
  refine wp_aload_n (nx := 119) dX9_copy_118 rfl rfl ?_
  refine wp_getIe (kk := 0) 0 (nx := 122) clsX9 dX9_copy_119 rfl kF_X9_36 (by decide) (fo_30 F6) (ft_30 F6) rfl rfl (v := (cn : Int)) (by rw [cpq_ne (by omega), cpq_ne (by omega), cpq_ne (by omega), cpq_ne (by omega), upC_ne ne30, upC_ne ne30, upC_ne ne30]; exact (n30 0).trans h0) ?_
  refine wp_copyE (nx := 125) (la := 12) (lb := (cn : Int)) dX9_copy_122 rfl kM_X9_50 (fo_35 F6) (bt 5 (by decide) (by decide)) (ft_35 F6) (ti 5 (by decide) (by decide)) (fl_35 F6) (li 5 (by decide) (by decide)) ⟨⟨Int.le_refl 0, Int.le_refl 0, Int.natCast_nonneg _⟩, by omega, by omega⟩ ?_
  refine wp_aload_n (nx := 126) dX9_copy_125 rfl rfl ?_
  refine wp_getAe (kk := 8) (nx := 129) clsX9 dX9_copy_126 rfl kF_X9_33 (by decide) (fo_30 F6) (ft_30 F6) rfl (fp_30_8 F6) ?_
  refine wp_iconst (nx := 130) dX9_copy_129 rfl (i32 (by decide)) ?_
  refine wp_aload_n (nx := 131) dX9_copy_130 rfl rfl ?_
  refine wp_getAe (kk := 8) (nx := 134) clsX9 dX9_copy_131 rfl kF_X9_33 (by decide) bt0 tt rfl (pi 6 (by decide) (by decide)) ?_
  refine wp_iconst (nx := 135) dX9_copy_134 rfl (i32 (by decide)) ?_
  refine wp_aload_n (nx := 136) dX9_copy_135 rfl rfl ?_
  refine wp_getIe (kk := 1) 1 (nx := 139) clsX9 dX9_copy_136 rfl kF_X9_40 (by decide) (fo_30 F6) (ft_30 F6) rfl rfl (v := (cm : Int)) (by rw [cpq_ne (by omega), cpq_ne (by omega), cpq_ne (by omega), cpq_ne (by omega), cpq_ne (by omega), upC_ne ne30, upC_ne ne30, upC_ne ne30]; exact (n30 1).trans h1) ?_
  refine wp_copyE (nx := 142) (la := 400) (lb := (cm : Int)) dX9_copy_139 rfl kM_X9_50 (fo_36 F6) (bt 6 (by decide) (by decide)) (ft_36 F6) (ti 6 (by decide) (by decide)) (fl_36 F6) l6 ⟨⟨Int.le_refl 0, Int.le_refl 0, Int.natCast_nonneg _⟩, by omega, by omega⟩ ?_
  refine wp_aload_n (nx := 143) dX9_copy_142 rfl rfl ?_
  exact wp_areturn dX9_copy_143 rfl rfl h
