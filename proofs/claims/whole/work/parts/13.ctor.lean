/-! 13.ctor: the two constructors, walked with the cells' own numbers -/
def apU : List (Int × Int × Int) → MC → MC
  | [], C => C
  | u :: r, C => upC (apU r C) u.1 u.2.1 u.2.2
def C0z : MC := fun _ _ => 0
def Sn (n : Int) (ps : List (Int × Int × Int)) (sc : Int × (Int → Int)) : MS := (n, (fun a => if 0 ≤ a ∧ a < n then fxT a else 0), (fun a => if 0 ≤ a ∧ a < n then fxL a else 0), apU ps (fun _ _ => -1), sc)
theorem apU_row {C : MC} {n : Int} : ∀ (us : List (Int × Int × Int)), us.all (fun u => decide (u.1 ≠ n)) = true → apU us C n = C n
  | [], _ => rfl
  | u :: r, h => by
    rw [List.all_cons, Bool.and_eq_true] at h
    have h1 : u.1 ≠ n := of_decide_eq_true h.1
    show upC (apU r C) u.1 u.2.1 u.2.2 n = C n
    rw [upC_ne (fun z => h1 z.symm), apU_row r h.2]
theorem nw_Sn {n m m2 : Int} {t : Nat} {ps : List (Int × Int × Int)} {sc : Int × (Int → Int)} (h0 : 0 ≤ n) (hm : n + 1 = m2) (ht : fxT n = t) (hl : fxL n = m) (hp : ps.all (fun u => decide (u.1 ≠ n)) = true) : nwT (Sn n ps sc) t m = Sn m2 ps sc := by
  subst hm
  have hr := apU_row (C := fun _ _ => -1) ps hp
  unfold nwT Sn
  congr 1
  refine Prod.ext ?_ (Prod.ext ?_ (Prod.ext ?_ rfl))
  · funext a
    show (if a = n then t else if 0 ≤ a ∧ a < n then fxT a else 0) = if 0 ≤ a ∧ a < n + 1 then fxT a else 0
    by_cases e : a = n
    · rw [if_pos e, if_pos (by omega), e, ht]
    · rw [if_neg e]
      by_cases e2 : 0 ≤ a ∧ a < n
      · rw [if_pos e2, if_pos (by omega)]
      · rw [if_neg e2, if_neg (by omega)]
  · funext a
    show (if a = n then m else if 0 ≤ a ∧ a < n then fxL a else 0) = if 0 ≤ a ∧ a < n + 1 then fxL a else 0
    by_cases e : a = n
    · rw [if_pos e, if_pos (by omega), e, hl]
    · rw [if_neg e]
      by_cases e2 : 0 ≤ a ∧ a < n
      · rw [if_pos e2, if_pos (by omega)]
      · rw [if_neg e2, if_neg (by omega)]
  · funext a k
    show (if a = n then -1 else apU ps (fun _ _ => -1) a k) = apU ps (fun _ _ => -1) a k
    by_cases e : a = n
    · rw [if_pos e, e, hr]
    · rw [if_neg e]
theorem nw_C {n : Int} {ps us : List (Int × Int × Int)} {sc : Int × (Int → Int)} (hp : us.all (fun u => decide (u.1 ≠ n)) = true) : nwC (Sn n ps sc) (apU us C0z) = apU us C0z := by
  have hr := apU_row (C := C0z) us hp
  funext a k
  show (if a = n then 0 else apU us C0z a k) = _
  by_cases e : a = n
  · rw [if_pos e, e, hr]; rfl
  · rw [if_neg e]
theorem wp_heap {d mc ms : Nat} {M : MD} {pc : Nat} {ls st : List MV} {S S2 : MS} {C C2 : MC} {Q : Int → MS → MC → Prop} (hS : S = S2) (hC : C = C2) (k : Wp d mc ms M pc ls st S2 C2 Q) : Wp d mc ms M pc ls st S C Q := by subst hS; subst hC; exact k
theorem sn_b {n a : Int} {ps : List (Int × Int × Int)} {sc : Int × (Int → Int)} (h : 0 ≤ a ∧ a < n) : 0 ≤ a ∧ a < (Sn n ps sc).1 := h
theorem sn_t {n a : Int} {t : Nat} {ps : List (Int × Int × Int)} {sc : Int × (Int → Int)} (h : (0 ≤ a ∧ a < n) ∧ fxT a = t) : (Sn n ps sc).2.1 a = t := (if_pos h.1 : (if 0 ≤ a ∧ a < n then fxT a else 0) = fxT a).trans h.2
theorem sn_t20 {n a : Int} {ps : List (Int × Int × Int)} {sc : Int × (Int → Int)} (h : (0 ≤ a ∧ a < n) ∧ 20 ≤ fxT a) : 20 ≤ (Sn n ps sc).2.1 a := by rw [sn_t ⟨h.1, rfl⟩]; exact h.2
theorem sn_l {n a m : Int} {ps : List (Int × Int × Int)} {sc : Int × (Int → Int)} (h : (0 ≤ a ∧ a < n) ∧ fxL a = m) : (Sn n ps sc).2.2.1 a = m := (if_pos h.1 : (if 0 ≤ a ∧ a < n then fxL a else 0) = fxL a).trans h.2
theorem sn_i {n a i : Int} {ps : List (Int × Int × Int)} {sc : Int × (Int → Int)} (h : (0 ≤ a ∧ a < n) ∧ 0 ≤ i ∧ i < fxL a) : 0 ≤ i ∧ i < (Sn n ps sc).2.2.1 a := by rw [sn_l ⟨h.1, rfl⟩]; exact h.2
theorem sn_p {n a k v : Int} {ps : List (Int × Int × Int)} {sc : Int × (Int → Int)} (h : apU ps (fun _ _ => -1) a k = v) : (Sn n ps sc).2.2.2.1 a k = v := h
theorem hdfX {N : Nat} {ty : Nat → FieldType} (h : (List.range N).all (fun j => decide (defaultValue (ty j) = eV (fun _ => 0) (kd (ty j), if kd (ty j) = 2 then -1 else 0))) = true) : ∀ j, j < N → defaultValue (ty j) = eV (fun _ => 0) (kd (ty j), if kd (ty j) = 2 then -1 else 0) := fun j hj => of_decide_eq_true (List.all_eq_true.mp h j (List.mem_range.mpr hj))

def p_0 : List (Int × Int × Int) := []
def u_0 : List (Int × Int × Int) := []
abbrev p_1 : List (Int × Int × Int) := (1, 1, 2) :: p_0
abbrev p_2 : List (Int × Int × Int) := (1, 2, 3) :: p_1
abbrev p_3 : List (Int × Int × Int) := (1, 3, 4) :: p_2
abbrev p_4 : List (Int × Int × Int) := (1, 4, 5) :: p_3
abbrev p_5 : List (Int × Int × Int) := (1, 5, 6) :: p_4
abbrev p_6 : List (Int × Int × Int) := (1, 7, 7) :: p_5
abbrev u_1 : List (Int × Int × Int) := (1, 9, (-1)) :: u_0
abbrev p_7 : List (Int × Int × Int) := (1, 10, 8) :: p_6
abbrev u_2 : List (Int × Int × Int) := (4, 0, (-1)) :: u_1
abbrev u_3 : List (Int × Int × Int) := (4, 1, (-1)) :: u_2
abbrev u_4 : List (Int × Int × Int) := (4, 2, (-1)) :: u_3
abbrev u_5 : List (Int × Int × Int) := (4, 3, (-1)) :: u_4
abbrev u_6 : List (Int × Int × Int) := (4, 4, (-1)) :: u_5
abbrev u_7 : List (Int × Int × Int) := (4, 5, (-1)) :: u_6
abbrev u_8 : List (Int × Int × Int) := (4, 6, (-1)) :: u_7
abbrev u_9 : List (Int × Int × Int) := (4, 7, (-1)) :: u_8
set_option maxRecDepth 20000 in
theorem ct_1 {d : Nat} {sc : Int × (Int → Int)} {Q : Int → MS → MC → Prop} (h : Q 0 (Sn 9 p_7 sc) (apU u_9 C0z)) : Wp (d + 1) 0 0 M_J7_fill_53178 0 [cA 4, cI (-1), cU, cU] [] (Sn 9 p_7 sc) (apU u_1 C0z) Q := by
  refine wp_iconst (nx := 1) dJ7_fill_53178_0 rfl (i32 (by decide)) ?_
  refine wp_istore_n (nx := 2) dJ7_fill_53178_1 rfl (by decide) ?_
  refine wp_ls (ls2 := [cA 4, cI (-1), cI 0, cU]) rfl ?_
  refine wp_aload_n (nx := 3) dJ7_fill_53178_2 rfl rfl ?_
  refine wp_alenE (n := 8) (nx := 4) dJ7_fill_53178_3 rfl (sn_b (by decide)) (sn_l (by decide)) (sn_t20 (by decide)) ?_
  refine wp_istore_n (nx := 5) dJ7_fill_53178_4 rfl (by decide) ?_
  refine wp_ls (ls2 := [cA 4, cI (-1), cI 0, cI 8]) rfl ?_
  refine wp_iload_n (nx := 6) dJ7_fill_53178_5 rfl rfl ?_
  refine wp_iload_n (nx := 7) dJ7_fill_53178_6 rfl rfl ?_
  refine wp_icmp_ge (nx := 10) (tg := 20) dJ7_fill_53178_7 rfl rfl (fun hc => absurd hc (by decide)) (fun hc => ?_)
  refine wp_aload_n (nx := 11) dJ7_fill_53178_10 rfl rfl ?_
  refine wp_iload_n (nx := 12) dJ7_fill_53178_11 rfl rfl ?_
  refine wp_iload_n (nx := 13) dJ7_fill_53178_12 rfl rfl ?_
  refine wp_iastore (nx := 14) dJ7_fill_53178_13 rfl (sn_b (by decide)) (sn_i (by decide)) (sn_t (by decide)) ?_
  show Wp _ _ _ _ 14 [cA 4, cI (-1), cI 0, cI 8] [] (Sn 9 p_7 sc) (apU u_2 C0z) _
  refine wp_iinc (nx := 17) dJ7_fill_53178_14 rfl rfl (by decide) ?_
  refine wp_ls (ls2 := [cA 4, cI (-1), cI 1, cI 8]) rfl ?_
  refine wp_goto (nx := 5) dJ7_fill_53178_17 rfl ?_
  refine wp_iload_n (nx := 6) dJ7_fill_53178_5 rfl rfl ?_
  refine wp_iload_n (nx := 7) dJ7_fill_53178_6 rfl rfl ?_
  refine wp_icmp_ge (nx := 10) (tg := 20) dJ7_fill_53178_7 rfl rfl (fun hc => absurd hc (by decide)) (fun hc => ?_)
  refine wp_aload_n (nx := 11) dJ7_fill_53178_10 rfl rfl ?_
  refine wp_iload_n (nx := 12) dJ7_fill_53178_11 rfl rfl ?_
  refine wp_iload_n (nx := 13) dJ7_fill_53178_12 rfl rfl ?_
  refine wp_iastore (nx := 14) dJ7_fill_53178_13 rfl (sn_b (by decide)) (sn_i (by decide)) (sn_t (by decide)) ?_
  show Wp _ _ _ _ 14 [cA 4, cI (-1), cI 1, cI 8] [] (Sn 9 p_7 sc) (apU u_3 C0z) _
  refine wp_iinc (nx := 17) dJ7_fill_53178_14 rfl rfl (by decide) ?_
  refine wp_ls (ls2 := [cA 4, cI (-1), cI 2, cI 8]) rfl ?_
  refine wp_goto (nx := 5) dJ7_fill_53178_17 rfl ?_
  refine wp_iload_n (nx := 6) dJ7_fill_53178_5 rfl rfl ?_
  refine wp_iload_n (nx := 7) dJ7_fill_53178_6 rfl rfl ?_
  refine wp_icmp_ge (nx := 10) (tg := 20) dJ7_fill_53178_7 rfl rfl (fun hc => absurd hc (by decide)) (fun hc => ?_)
  refine wp_aload_n (nx := 11) dJ7_fill_53178_10 rfl rfl ?_
  refine wp_iload_n (nx := 12) dJ7_fill_53178_11 rfl rfl ?_
  refine wp_iload_n (nx := 13) dJ7_fill_53178_12 rfl rfl ?_
  refine wp_iastore (nx := 14) dJ7_fill_53178_13 rfl (sn_b (by decide)) (sn_i (by decide)) (sn_t (by decide)) ?_
  show Wp _ _ _ _ 14 [cA 4, cI (-1), cI 2, cI 8] [] (Sn 9 p_7 sc) (apU u_4 C0z) _
  refine wp_iinc (nx := 17) dJ7_fill_53178_14 rfl rfl (by decide) ?_
  refine wp_ls (ls2 := [cA 4, cI (-1), cI 3, cI 8]) rfl ?_
  refine wp_goto (nx := 5) dJ7_fill_53178_17 rfl ?_
  refine wp_iload_n (nx := 6) dJ7_fill_53178_5 rfl rfl ?_
  refine wp_iload_n (nx := 7) dJ7_fill_53178_6 rfl rfl ?_
  refine wp_icmp_ge (nx := 10) (tg := 20) dJ7_fill_53178_7 rfl rfl (fun hc => absurd hc (by decide)) (fun hc => ?_)
  refine wp_aload_n (nx := 11) dJ7_fill_53178_10 rfl rfl ?_
  refine wp_iload_n (nx := 12) dJ7_fill_53178_11 rfl rfl ?_
  refine wp_iload_n (nx := 13) dJ7_fill_53178_12 rfl rfl ?_
  refine wp_iastore (nx := 14) dJ7_fill_53178_13 rfl (sn_b (by decide)) (sn_i (by decide)) (sn_t (by decide)) ?_
  show Wp _ _ _ _ 14 [cA 4, cI (-1), cI 3, cI 8] [] (Sn 9 p_7 sc) (apU u_5 C0z) _
  refine wp_iinc (nx := 17) dJ7_fill_53178_14 rfl rfl (by decide) ?_
  refine wp_ls (ls2 := [cA 4, cI (-1), cI 4, cI 8]) rfl ?_
  refine wp_goto (nx := 5) dJ7_fill_53178_17 rfl ?_
  refine wp_iload_n (nx := 6) dJ7_fill_53178_5 rfl rfl ?_
  refine wp_iload_n (nx := 7) dJ7_fill_53178_6 rfl rfl ?_
  refine wp_icmp_ge (nx := 10) (tg := 20) dJ7_fill_53178_7 rfl rfl (fun hc => absurd hc (by decide)) (fun hc => ?_)
  refine wp_aload_n (nx := 11) dJ7_fill_53178_10 rfl rfl ?_
  refine wp_iload_n (nx := 12) dJ7_fill_53178_11 rfl rfl ?_
  refine wp_iload_n (nx := 13) dJ7_fill_53178_12 rfl rfl ?_
  refine wp_iastore (nx := 14) dJ7_fill_53178_13 rfl (sn_b (by decide)) (sn_i (by decide)) (sn_t (by decide)) ?_
  show Wp _ _ _ _ 14 [cA 4, cI (-1), cI 4, cI 8] [] (Sn 9 p_7 sc) (apU u_6 C0z) _
  refine wp_iinc (nx := 17) dJ7_fill_53178_14 rfl rfl (by decide) ?_
  refine wp_ls (ls2 := [cA 4, cI (-1), cI 5, cI 8]) rfl ?_
  refine wp_goto (nx := 5) dJ7_fill_53178_17 rfl ?_
  refine wp_iload_n (nx := 6) dJ7_fill_53178_5 rfl rfl ?_
  refine wp_iload_n (nx := 7) dJ7_fill_53178_6 rfl rfl ?_
  refine wp_icmp_ge (nx := 10) (tg := 20) dJ7_fill_53178_7 rfl rfl (fun hc => absurd hc (by decide)) (fun hc => ?_)
  refine wp_aload_n (nx := 11) dJ7_fill_53178_10 rfl rfl ?_
  refine wp_iload_n (nx := 12) dJ7_fill_53178_11 rfl rfl ?_
  refine wp_iload_n (nx := 13) dJ7_fill_53178_12 rfl rfl ?_
  refine wp_iastore (nx := 14) dJ7_fill_53178_13 rfl (sn_b (by decide)) (sn_i (by decide)) (sn_t (by decide)) ?_
  show Wp _ _ _ _ 14 [cA 4, cI (-1), cI 5, cI 8] [] (Sn 9 p_7 sc) (apU u_7 C0z) _
  refine wp_iinc (nx := 17) dJ7_fill_53178_14 rfl rfl (by decide) ?_
  refine wp_ls (ls2 := [cA 4, cI (-1), cI 6, cI 8]) rfl ?_
  refine wp_goto (nx := 5) dJ7_fill_53178_17 rfl ?_
  refine wp_iload_n (nx := 6) dJ7_fill_53178_5 rfl rfl ?_
  refine wp_iload_n (nx := 7) dJ7_fill_53178_6 rfl rfl ?_
  refine wp_icmp_ge (nx := 10) (tg := 20) dJ7_fill_53178_7 rfl rfl (fun hc => absurd hc (by decide)) (fun hc => ?_)
  refine wp_aload_n (nx := 11) dJ7_fill_53178_10 rfl rfl ?_
  refine wp_iload_n (nx := 12) dJ7_fill_53178_11 rfl rfl ?_
  refine wp_iload_n (nx := 13) dJ7_fill_53178_12 rfl rfl ?_
  refine wp_iastore (nx := 14) dJ7_fill_53178_13 rfl (sn_b (by decide)) (sn_i (by decide)) (sn_t (by decide)) ?_
  show Wp _ _ _ _ 14 [cA 4, cI (-1), cI 6, cI 8] [] (Sn 9 p_7 sc) (apU u_8 C0z) _
  refine wp_iinc (nx := 17) dJ7_fill_53178_14 rfl rfl (by decide) ?_
  refine wp_ls (ls2 := [cA 4, cI (-1), cI 7, cI 8]) rfl ?_
  refine wp_goto (nx := 5) dJ7_fill_53178_17 rfl ?_
  refine wp_iload_n (nx := 6) dJ7_fill_53178_5 rfl rfl ?_
  refine wp_iload_n (nx := 7) dJ7_fill_53178_6 rfl rfl ?_
  refine wp_icmp_ge (nx := 10) (tg := 20) dJ7_fill_53178_7 rfl rfl (fun hc => absurd hc (by decide)) (fun hc => ?_)
  refine wp_aload_n (nx := 11) dJ7_fill_53178_10 rfl rfl ?_
  refine wp_iload_n (nx := 12) dJ7_fill_53178_11 rfl rfl ?_
  refine wp_iload_n (nx := 13) dJ7_fill_53178_12 rfl rfl ?_
  refine wp_iastore (nx := 14) dJ7_fill_53178_13 rfl (sn_b (by decide)) (sn_i (by decide)) (sn_t (by decide)) ?_
  show Wp _ _ _ _ 14 [cA 4, cI (-1), cI 7, cI 8] [] (Sn 9 p_7 sc) (apU u_9 C0z) _
  refine wp_iinc (nx := 17) dJ7_fill_53178_14 rfl rfl (by decide) ?_
  refine wp_ls (ls2 := [cA 4, cI (-1), cI 8, cI 8]) rfl ?_
  refine wp_goto (nx := 5) dJ7_fill_53178_17 rfl ?_
  refine wp_iload_n (nx := 6) dJ7_fill_53178_5 rfl rfl ?_
  refine wp_iload_n (nx := 7) dJ7_fill_53178_6 rfl rfl ?_
  refine wp_icmp_ge (nx := 10) (tg := 20) dJ7_fill_53178_7 rfl rfl (fun hc => ?_) (fun hc => absurd (by decide) hc)
  exact wp_return dJ7_fill_53178_20 rfl h
abbrev u_10 : List (Int × Int × Int) := (8, 1, 1) :: u_9
set_option maxRecDepth 20000 in
theorem ct_2 {d : Nat} {sc : Int × (Int → Int)} {Q : Int → MS → MC → Prop} (h : Q 0 (Sn 9 p_7 sc) (apU u_10 C0z)) : Wp (d + 2) 7 51 M_X7_init 0 [cA 1] [] (Sn 2 p_0 sc) (apU u_0 C0z) Q := by
  refine wp_aload_n (nx := 1) dX7_init_0 rfl rfl ?_
  refine wp_objInit (nx := 4) dX7_init_1 rfl kM_X7_3 ki_objectInit kc_objectInit (by decide) (leB rfl) ?_
  refine wp_aload_n (nx := 5) dX7_init_4 rfl rfl ?_
  refine wp_bipush (nx := 7) dX7_init_5 rfl ⟨by decide, i32 (by decide)⟩ ?_
  refine wp_newI (nx := 9) (mc := 6) (ms := 45) dX7_init_7 rfl ka_int (by decide) (by decide) (by omega) (by omega) ?_
  refine wp_heap (nw_Sn (m2 := 3) (by decide) (by decide) (by decide) (by decide) (by decide +kernel)) (nw_C (by decide +kernel)) ?_
  show Wp _ _ _ _ 9 [cA 1] [cA 2, cA 1] (Sn 3 p_0 sc) (apU u_0 C0z) _
  refine wp_putAF (kk := 1) (nx := 12) clsX7 dX7_init_9 rfl kF_X7_9 (by decide) (sn_b (by decide)) (sn_t (by decide)) rfl rfl rfl rfl (by decide) ?_
  show Wp _ _ _ _ 12 [cA 1] [] (Sn 3 p_1 sc) (apU u_0 C0z) _
  refine wp_aload_n (nx := 13) dX7_init_12 rfl rfl ?_
  refine wp_bipush (nx := 15) dX7_init_13 rfl ⟨by decide, i32 (by decide)⟩ ?_
  refine wp_newI (nx := 17) (mc := 5) (ms := 39) dX7_init_15 rfl ka_int (by decide) (by decide) (by omega) (by omega) ?_
  refine wp_heap (nw_Sn (m2 := 4) (by decide) (by decide) (by decide) (by decide) (by decide +kernel)) (nw_C (by decide +kernel)) ?_
  show Wp _ _ _ _ 17 [cA 1] [cA 3, cA 1] (Sn 4 p_1 sc) (apU u_0 C0z) _
  refine wp_putAF (kk := 2) (nx := 20) clsX7 dX7_init_17 rfl kF_X7_15 (by decide) (sn_b (by decide)) (sn_t (by decide)) rfl rfl rfl rfl (by decide) ?_
  show Wp _ _ _ _ 20 [cA 1] [] (Sn 4 p_2 sc) (apU u_0 C0z) _
  refine wp_aload_n (nx := 21) dX7_init_20 rfl rfl ?_
  refine wp_bipush (nx := 23) dX7_init_21 rfl ⟨by decide, i32 (by decide)⟩ ?_
  refine wp_newI (nx := 25) (mc := 4) (ms := 31) dX7_init_23 rfl ka_int (by decide) (by decide) (by omega) (by omega) ?_
  refine wp_heap (nw_Sn (m2 := 5) (by decide) (by decide) (by decide) (by decide) (by decide +kernel)) (nw_C (by decide +kernel)) ?_
  show Wp _ _ _ _ 25 [cA 1] [cA 4, cA 1] (Sn 5 p_2 sc) (apU u_0 C0z) _
  refine wp_putAF (kk := 3) (nx := 28) clsX7 dX7_init_25 rfl kF_X7_18 (by decide) (sn_b (by decide)) (sn_t (by decide)) rfl rfl rfl rfl (by decide) ?_
  show Wp _ _ _ _ 28 [cA 1] [] (Sn 5 p_3 sc) (apU u_0 C0z) _
  refine wp_aload_n (nx := 29) dX7_init_28 rfl rfl ?_
  refine wp_bipush (nx := 31) dX7_init_29 rfl ⟨by decide, i32 (by decide)⟩ ?_
  refine wp_newI (nx := 33) (mc := 3) (ms := 15) dX7_init_31 rfl ka_int (by decide) (by decide) (by omega) (by omega) ?_
  refine wp_heap (nw_Sn (m2 := 6) (by decide) (by decide) (by decide) (by decide) (by decide +kernel)) (nw_C (by decide +kernel)) ?_
  show Wp _ _ _ _ 33 [cA 1] [cA 5, cA 1] (Sn 6 p_3 sc) (apU u_0 C0z) _
  refine wp_putAF (kk := 4) (nx := 36) clsX7 dX7_init_33 rfl kF_X7_21 (by decide) (sn_b (by decide)) (sn_t (by decide)) rfl rfl rfl rfl (by decide) ?_
  show Wp _ _ _ _ 36 [cA 1] [] (Sn 6 p_4 sc) (apU u_0 C0z) _
  refine wp_aload_n (nx := 37) dX7_init_36 rfl rfl ?_
  refine wp_bipush (nx := 39) dX7_init_37 rfl ⟨by decide, i32 (by decide)⟩ ?_
  refine wp_newI (nx := 41) (mc := 2) (ms := 9) dX7_init_39 rfl ka_int (by decide) (by decide) (by omega) (by omega) ?_
  refine wp_heap (nw_Sn (m2 := 7) (by decide) (by decide) (by decide) (by decide) (by decide +kernel)) (nw_C (by decide +kernel)) ?_
  show Wp _ _ _ _ 41 [cA 1] [cA 6, cA 1] (Sn 7 p_4 sc) (apU u_0 C0z) _
  refine wp_putAF (kk := 5) (nx := 44) clsX7 dX7_init_41 rfl kF_X7_24 (by decide) (sn_b (by decide)) (sn_t (by decide)) rfl rfl rfl rfl (by decide) ?_
  show Wp _ _ _ _ 44 [cA 1] [] (Sn 7 p_5 sc) (apU u_0 C0z) _
  refine wp_aload_n (nx := 45) dX7_init_44 rfl rfl ?_
  refine wp_bipush (nx := 47) dX7_init_45 rfl ⟨by decide, i32 (by decide)⟩ ?_
  refine wp_newA (nx := 50) (ci := 9) (mc := 1) (ms := 3) dX7_init_47 rfl kC_X7_27 (Or.inr rfl) rfl (by decide) (by decide) (by omega) (by omega) ?_
  refine wp_heap (nw_Sn (m2 := 8) (by decide) (by decide) (by decide) (by decide) (by decide +kernel)) (nw_C (by decide +kernel)) ?_
  show Wp _ _ _ _ 50 [cA 1] [cA 7, cA 1] (Sn 8 p_5 sc) (apU u_0 C0z) _
  refine wp_putAF (kk := 7) (nx := 53) clsX7 dX7_init_50 rfl kF_X7_29 (by decide) (sn_b (by decide)) (sn_t (by decide)) rfl rfl rfl rfl (by decide) ?_
  show Wp _ _ _ _ 53 [cA 1] [] (Sn 8 p_6 sc) (apU u_0 C0z) _
  refine wp_aload_n (nx := 54) dX7_init_53 rfl rfl ?_
  refine wp_iconst (nx := 55) dX7_init_54 rfl (i32 (by decide)) ?_
  refine wp_putI (kk := 9) (nx := 58) clsX7 dX7_init_55 rfl kF_X7_33 (by decide) (sn_b (by decide)) (sn_t (by decide)) rfl rfl ⟨by decide, by decide⟩ ?_
  show Wp _ _ _ _ 58 [cA 1] [] (Sn 8 p_6 sc) (apU u_1 C0z) _
  refine wp_aload_n (nx := 59) dX7_init_58 rfl rfl ?_
  refine wp_iconst (nx := 60) dX7_init_59 rfl (i32 (by decide)) ?_
  refine wp_newI (nx := 62) (mc := 0) (ms := 0) dX7_init_60 rfl ka_int (by decide) (by decide) (by omega) (by omega) ?_
  refine wp_heap (nw_Sn (m2 := 9) (by decide) (by decide) (by decide) (by decide) (by decide +kernel)) (nw_C (by decide +kernel)) ?_
  show Wp _ _ _ _ 62 [cA 1] [cA 8, cA 1] (Sn 9 p_6 sc) (apU u_1 C0z) _
  refine wp_putAF (kk := 10) (nx := 65) clsX7 dX7_init_62 rfl kF_X7_37 (by decide) (sn_b (by decide)) (sn_t (by decide)) rfl rfl rfl rfl (by decide) ?_
  show Wp _ _ _ _ 65 [cA 1] [] (Sn 9 p_7 sc) (apU u_1 C0z) _
  refine wp_aload_n (nx := 66) dX7_init_65 rfl rfl ?_
  refine wp_getAe (kk := 3) (r := 4) (nx := 69) clsX7 dX7_init_66 rfl kF_X7_18 (by decide) (sn_b (by decide)) (sn_t (by decide)) rfl (sn_p (by decide +kernel)) ?_
  refine wp_iconst (nx := 70) dX7_init_69 rfl (i32 (by decide)) ?_
  refine wp_invS (nx := 73) (d := d + 1) (N := M_J7_fill_53178) (as := [cA 4, cI (-1)]) (st := []) (mc := 0) (ms := 0) (mc' := 0) (ms' := 0) dX7_init_70 rfl mok_J7_fill_53178 kM_X7_40 ks_J7_fill_53178 rfl rfl (leB rfl) (leB rfl) (by omega) (by omega) ?_
  refine Wp.deep (d := d + 1) (ct_1 ?_) (by omega) (Nat.le_refl _) (Nat.le_refl _)
  show Wp _ _ _ _ 73 [cA 1] [] (Sn 9 p_7 sc) (apU u_9 C0z) _
  refine wp_aload_n (nx := 74) dX7_init_73 rfl rfl ?_
  refine wp_getAe (kk := 10) (r := 8) (nx := 77) clsX7 dX7_init_74 rfl kF_X7_37 (by decide) (sn_b (by decide)) (sn_t (by decide)) rfl (sn_p (by decide +kernel)) ?_
  refine wp_iconst (nx := 78) dX7_init_77 rfl (i32 (by decide)) ?_
  refine wp_iconst (nx := 79) dX7_init_78 rfl (i32 (by decide)) ?_
  refine wp_iastore (nx := 80) dX7_init_79 rfl (sn_b (by decide)) (sn_i (by decide)) (sn_t (by decide)) ?_
  show Wp _ _ _ _ 80 [cA 1] [] (Sn 9 p_7 sc) (apU u_10 C0z) _
  exact wp_return dX7_init_80 rfl h
abbrev p_8 : List (Int × Int × Int) := (0, 0, 1) :: p_7
abbrev p_9 : List (Int × Int × Int) := (9, 1, 10) :: p_8
abbrev p_10 : List (Int × Int × Int) := (9, 2, 11) :: p_9
abbrev p_11 : List (Int × Int × Int) := (9, 3, 12) :: p_10
abbrev p_12 : List (Int × Int × Int) := (9, 4, 13) :: p_11
abbrev p_13 : List (Int × Int × Int) := (9, 5, 14) :: p_12
abbrev p_14 : List (Int × Int × Int) := (9, 7, 15) :: p_13
abbrev u_11 : List (Int × Int × Int) := (9, 9, (-1)) :: u_10
abbrev p_15 : List (Int × Int × Int) := (9, 10, 16) :: p_14
abbrev u_12 : List (Int × Int × Int) := (12, 0, (-1)) :: u_11
abbrev u_13 : List (Int × Int × Int) := (12, 1, (-1)) :: u_12
abbrev u_14 : List (Int × Int × Int) := (12, 2, (-1)) :: u_13
abbrev u_15 : List (Int × Int × Int) := (12, 3, (-1)) :: u_14
abbrev u_16 : List (Int × Int × Int) := (12, 4, (-1)) :: u_15
abbrev u_17 : List (Int × Int × Int) := (12, 5, (-1)) :: u_16
abbrev u_18 : List (Int × Int × Int) := (12, 6, (-1)) :: u_17
abbrev u_19 : List (Int × Int × Int) := (12, 7, (-1)) :: u_18
set_option maxRecDepth 20000 in
theorem ct_3 {d : Nat} {sc : Int × (Int → Int)} {Q : Int → MS → MC → Prop} (h : Q 0 (Sn 17 p_15 sc) (apU u_19 C0z)) : Wp (d + 1) 0 0 M_J7_fill_53178 0 [cA 12, cI (-1), cU, cU] [] (Sn 17 p_15 sc) (apU u_11 C0z) Q := by
  refine wp_iconst (nx := 1) dJ7_fill_53178_0 rfl (i32 (by decide)) ?_
  refine wp_istore_n (nx := 2) dJ7_fill_53178_1 rfl (by decide) ?_
  refine wp_ls (ls2 := [cA 12, cI (-1), cI 0, cU]) rfl ?_
  refine wp_aload_n (nx := 3) dJ7_fill_53178_2 rfl rfl ?_
  refine wp_alenE (n := 8) (nx := 4) dJ7_fill_53178_3 rfl (sn_b (by decide)) (sn_l (by decide)) (sn_t20 (by decide)) ?_
  refine wp_istore_n (nx := 5) dJ7_fill_53178_4 rfl (by decide) ?_
  refine wp_ls (ls2 := [cA 12, cI (-1), cI 0, cI 8]) rfl ?_
  refine wp_iload_n (nx := 6) dJ7_fill_53178_5 rfl rfl ?_
  refine wp_iload_n (nx := 7) dJ7_fill_53178_6 rfl rfl ?_
  refine wp_icmp_ge (nx := 10) (tg := 20) dJ7_fill_53178_7 rfl rfl (fun hc => absurd hc (by decide)) (fun hc => ?_)
  refine wp_aload_n (nx := 11) dJ7_fill_53178_10 rfl rfl ?_
  refine wp_iload_n (nx := 12) dJ7_fill_53178_11 rfl rfl ?_
  refine wp_iload_n (nx := 13) dJ7_fill_53178_12 rfl rfl ?_
  refine wp_iastore (nx := 14) dJ7_fill_53178_13 rfl (sn_b (by decide)) (sn_i (by decide)) (sn_t (by decide)) ?_
  show Wp _ _ _ _ 14 [cA 12, cI (-1), cI 0, cI 8] [] (Sn 17 p_15 sc) (apU u_12 C0z) _
  refine wp_iinc (nx := 17) dJ7_fill_53178_14 rfl rfl (by decide) ?_
  refine wp_ls (ls2 := [cA 12, cI (-1), cI 1, cI 8]) rfl ?_
  refine wp_goto (nx := 5) dJ7_fill_53178_17 rfl ?_
  refine wp_iload_n (nx := 6) dJ7_fill_53178_5 rfl rfl ?_
  refine wp_iload_n (nx := 7) dJ7_fill_53178_6 rfl rfl ?_
  refine wp_icmp_ge (nx := 10) (tg := 20) dJ7_fill_53178_7 rfl rfl (fun hc => absurd hc (by decide)) (fun hc => ?_)
  refine wp_aload_n (nx := 11) dJ7_fill_53178_10 rfl rfl ?_
  refine wp_iload_n (nx := 12) dJ7_fill_53178_11 rfl rfl ?_
  refine wp_iload_n (nx := 13) dJ7_fill_53178_12 rfl rfl ?_
  refine wp_iastore (nx := 14) dJ7_fill_53178_13 rfl (sn_b (by decide)) (sn_i (by decide)) (sn_t (by decide)) ?_
  show Wp _ _ _ _ 14 [cA 12, cI (-1), cI 1, cI 8] [] (Sn 17 p_15 sc) (apU u_13 C0z) _
  refine wp_iinc (nx := 17) dJ7_fill_53178_14 rfl rfl (by decide) ?_
  refine wp_ls (ls2 := [cA 12, cI (-1), cI 2, cI 8]) rfl ?_
  refine wp_goto (nx := 5) dJ7_fill_53178_17 rfl ?_
  refine wp_iload_n (nx := 6) dJ7_fill_53178_5 rfl rfl ?_
  refine wp_iload_n (nx := 7) dJ7_fill_53178_6 rfl rfl ?_
  refine wp_icmp_ge (nx := 10) (tg := 20) dJ7_fill_53178_7 rfl rfl (fun hc => absurd hc (by decide)) (fun hc => ?_)
  refine wp_aload_n (nx := 11) dJ7_fill_53178_10 rfl rfl ?_
  refine wp_iload_n (nx := 12) dJ7_fill_53178_11 rfl rfl ?_
  refine wp_iload_n (nx := 13) dJ7_fill_53178_12 rfl rfl ?_
  refine wp_iastore (nx := 14) dJ7_fill_53178_13 rfl (sn_b (by decide)) (sn_i (by decide)) (sn_t (by decide)) ?_
  show Wp _ _ _ _ 14 [cA 12, cI (-1), cI 2, cI 8] [] (Sn 17 p_15 sc) (apU u_14 C0z) _
  refine wp_iinc (nx := 17) dJ7_fill_53178_14 rfl rfl (by decide) ?_
  refine wp_ls (ls2 := [cA 12, cI (-1), cI 3, cI 8]) rfl ?_
  refine wp_goto (nx := 5) dJ7_fill_53178_17 rfl ?_
  refine wp_iload_n (nx := 6) dJ7_fill_53178_5 rfl rfl ?_
  refine wp_iload_n (nx := 7) dJ7_fill_53178_6 rfl rfl ?_
  refine wp_icmp_ge (nx := 10) (tg := 20) dJ7_fill_53178_7 rfl rfl (fun hc => absurd hc (by decide)) (fun hc => ?_)
  refine wp_aload_n (nx := 11) dJ7_fill_53178_10 rfl rfl ?_
  refine wp_iload_n (nx := 12) dJ7_fill_53178_11 rfl rfl ?_
  refine wp_iload_n (nx := 13) dJ7_fill_53178_12 rfl rfl ?_
  refine wp_iastore (nx := 14) dJ7_fill_53178_13 rfl (sn_b (by decide)) (sn_i (by decide)) (sn_t (by decide)) ?_
  show Wp _ _ _ _ 14 [cA 12, cI (-1), cI 3, cI 8] [] (Sn 17 p_15 sc) (apU u_15 C0z) _
  refine wp_iinc (nx := 17) dJ7_fill_53178_14 rfl rfl (by decide) ?_
  refine wp_ls (ls2 := [cA 12, cI (-1), cI 4, cI 8]) rfl ?_
  refine wp_goto (nx := 5) dJ7_fill_53178_17 rfl ?_
  refine wp_iload_n (nx := 6) dJ7_fill_53178_5 rfl rfl ?_
  refine wp_iload_n (nx := 7) dJ7_fill_53178_6 rfl rfl ?_
  refine wp_icmp_ge (nx := 10) (tg := 20) dJ7_fill_53178_7 rfl rfl (fun hc => absurd hc (by decide)) (fun hc => ?_)
  refine wp_aload_n (nx := 11) dJ7_fill_53178_10 rfl rfl ?_
  refine wp_iload_n (nx := 12) dJ7_fill_53178_11 rfl rfl ?_
  refine wp_iload_n (nx := 13) dJ7_fill_53178_12 rfl rfl ?_
  refine wp_iastore (nx := 14) dJ7_fill_53178_13 rfl (sn_b (by decide)) (sn_i (by decide)) (sn_t (by decide)) ?_
  show Wp _ _ _ _ 14 [cA 12, cI (-1), cI 4, cI 8] [] (Sn 17 p_15 sc) (apU u_16 C0z) _
  refine wp_iinc (nx := 17) dJ7_fill_53178_14 rfl rfl (by decide) ?_
  refine wp_ls (ls2 := [cA 12, cI (-1), cI 5, cI 8]) rfl ?_
  refine wp_goto (nx := 5) dJ7_fill_53178_17 rfl ?_
  refine wp_iload_n (nx := 6) dJ7_fill_53178_5 rfl rfl ?_
  refine wp_iload_n (nx := 7) dJ7_fill_53178_6 rfl rfl ?_
  refine wp_icmp_ge (nx := 10) (tg := 20) dJ7_fill_53178_7 rfl rfl (fun hc => absurd hc (by decide)) (fun hc => ?_)
  refine wp_aload_n (nx := 11) dJ7_fill_53178_10 rfl rfl ?_
  refine wp_iload_n (nx := 12) dJ7_fill_53178_11 rfl rfl ?_
  refine wp_iload_n (nx := 13) dJ7_fill_53178_12 rfl rfl ?_
  refine wp_iastore (nx := 14) dJ7_fill_53178_13 rfl (sn_b (by decide)) (sn_i (by decide)) (sn_t (by decide)) ?_
  show Wp _ _ _ _ 14 [cA 12, cI (-1), cI 5, cI 8] [] (Sn 17 p_15 sc) (apU u_17 C0z) _
  refine wp_iinc (nx := 17) dJ7_fill_53178_14 rfl rfl (by decide) ?_
  refine wp_ls (ls2 := [cA 12, cI (-1), cI 6, cI 8]) rfl ?_
  refine wp_goto (nx := 5) dJ7_fill_53178_17 rfl ?_
  refine wp_iload_n (nx := 6) dJ7_fill_53178_5 rfl rfl ?_
  refine wp_iload_n (nx := 7) dJ7_fill_53178_6 rfl rfl ?_
  refine wp_icmp_ge (nx := 10) (tg := 20) dJ7_fill_53178_7 rfl rfl (fun hc => absurd hc (by decide)) (fun hc => ?_)
  refine wp_aload_n (nx := 11) dJ7_fill_53178_10 rfl rfl ?_
  refine wp_iload_n (nx := 12) dJ7_fill_53178_11 rfl rfl ?_
  refine wp_iload_n (nx := 13) dJ7_fill_53178_12 rfl rfl ?_
  refine wp_iastore (nx := 14) dJ7_fill_53178_13 rfl (sn_b (by decide)) (sn_i (by decide)) (sn_t (by decide)) ?_
  show Wp _ _ _ _ 14 [cA 12, cI (-1), cI 6, cI 8] [] (Sn 17 p_15 sc) (apU u_18 C0z) _
  refine wp_iinc (nx := 17) dJ7_fill_53178_14 rfl rfl (by decide) ?_
  refine wp_ls (ls2 := [cA 12, cI (-1), cI 7, cI 8]) rfl ?_
  refine wp_goto (nx := 5) dJ7_fill_53178_17 rfl ?_
  refine wp_iload_n (nx := 6) dJ7_fill_53178_5 rfl rfl ?_
  refine wp_iload_n (nx := 7) dJ7_fill_53178_6 rfl rfl ?_
  refine wp_icmp_ge (nx := 10) (tg := 20) dJ7_fill_53178_7 rfl rfl (fun hc => absurd hc (by decide)) (fun hc => ?_)
  refine wp_aload_n (nx := 11) dJ7_fill_53178_10 rfl rfl ?_
  refine wp_iload_n (nx := 12) dJ7_fill_53178_11 rfl rfl ?_
  refine wp_iload_n (nx := 13) dJ7_fill_53178_12 rfl rfl ?_
  refine wp_iastore (nx := 14) dJ7_fill_53178_13 rfl (sn_b (by decide)) (sn_i (by decide)) (sn_t (by decide)) ?_
  show Wp _ _ _ _ 14 [cA 12, cI (-1), cI 7, cI 8] [] (Sn 17 p_15 sc) (apU u_19 C0z) _
  refine wp_iinc (nx := 17) dJ7_fill_53178_14 rfl rfl (by decide) ?_
  refine wp_ls (ls2 := [cA 12, cI (-1), cI 8, cI 8]) rfl ?_
  refine wp_goto (nx := 5) dJ7_fill_53178_17 rfl ?_
  refine wp_iload_n (nx := 6) dJ7_fill_53178_5 rfl rfl ?_
  refine wp_iload_n (nx := 7) dJ7_fill_53178_6 rfl rfl ?_
  refine wp_icmp_ge (nx := 10) (tg := 20) dJ7_fill_53178_7 rfl rfl (fun hc => ?_) (fun hc => absurd (by decide) hc)
  exact wp_return dJ7_fill_53178_20 rfl h
abbrev u_20 : List (Int × Int × Int) := (16, 1, 1) :: u_19
set_option maxRecDepth 20000 in
theorem ct_4 {d : Nat} {sc : Int × (Int → Int)} {Q : Int → MS → MC → Prop} (h : Q 0 (Sn 17 p_15 sc) (apU u_20 C0z)) : Wp (d + 2) 7 51 M_X7_init 0 [cA 9] [] (Sn 10 p_8 sc) (apU u_10 C0z) Q := by
  refine wp_aload_n (nx := 1) dX7_init_0 rfl rfl ?_
  refine wp_objInit (nx := 4) dX7_init_1 rfl kM_X7_3 ki_objectInit kc_objectInit (by decide) (leB rfl) ?_
  refine wp_aload_n (nx := 5) dX7_init_4 rfl rfl ?_
  refine wp_bipush (nx := 7) dX7_init_5 rfl ⟨by decide, i32 (by decide)⟩ ?_
  refine wp_newI (nx := 9) (mc := 6) (ms := 45) dX7_init_7 rfl ka_int (by decide) (by decide) (by omega) (by omega) ?_
  refine wp_heap (nw_Sn (m2 := 11) (by decide) (by decide) (by decide) (by decide) (by decide +kernel)) (nw_C (by decide +kernel)) ?_
  show Wp _ _ _ _ 9 [cA 9] [cA 10, cA 9] (Sn 11 p_8 sc) (apU u_10 C0z) _
  refine wp_putAF (kk := 1) (nx := 12) clsX7 dX7_init_9 rfl kF_X7_9 (by decide) (sn_b (by decide)) (sn_t (by decide)) rfl rfl rfl rfl (by decide) ?_
  show Wp _ _ _ _ 12 [cA 9] [] (Sn 11 p_9 sc) (apU u_10 C0z) _
  refine wp_aload_n (nx := 13) dX7_init_12 rfl rfl ?_
  refine wp_bipush (nx := 15) dX7_init_13 rfl ⟨by decide, i32 (by decide)⟩ ?_
  refine wp_newI (nx := 17) (mc := 5) (ms := 39) dX7_init_15 rfl ka_int (by decide) (by decide) (by omega) (by omega) ?_
  refine wp_heap (nw_Sn (m2 := 12) (by decide) (by decide) (by decide) (by decide) (by decide +kernel)) (nw_C (by decide +kernel)) ?_
  show Wp _ _ _ _ 17 [cA 9] [cA 11, cA 9] (Sn 12 p_9 sc) (apU u_10 C0z) _
  refine wp_putAF (kk := 2) (nx := 20) clsX7 dX7_init_17 rfl kF_X7_15 (by decide) (sn_b (by decide)) (sn_t (by decide)) rfl rfl rfl rfl (by decide) ?_
  show Wp _ _ _ _ 20 [cA 9] [] (Sn 12 p_10 sc) (apU u_10 C0z) _
  refine wp_aload_n (nx := 21) dX7_init_20 rfl rfl ?_
  refine wp_bipush (nx := 23) dX7_init_21 rfl ⟨by decide, i32 (by decide)⟩ ?_
  refine wp_newI (nx := 25) (mc := 4) (ms := 31) dX7_init_23 rfl ka_int (by decide) (by decide) (by omega) (by omega) ?_
  refine wp_heap (nw_Sn (m2 := 13) (by decide) (by decide) (by decide) (by decide) (by decide +kernel)) (nw_C (by decide +kernel)) ?_
  show Wp _ _ _ _ 25 [cA 9] [cA 12, cA 9] (Sn 13 p_10 sc) (apU u_10 C0z) _
  refine wp_putAF (kk := 3) (nx := 28) clsX7 dX7_init_25 rfl kF_X7_18 (by decide) (sn_b (by decide)) (sn_t (by decide)) rfl rfl rfl rfl (by decide) ?_
  show Wp _ _ _ _ 28 [cA 9] [] (Sn 13 p_11 sc) (apU u_10 C0z) _
  refine wp_aload_n (nx := 29) dX7_init_28 rfl rfl ?_
  refine wp_bipush (nx := 31) dX7_init_29 rfl ⟨by decide, i32 (by decide)⟩ ?_
  refine wp_newI (nx := 33) (mc := 3) (ms := 15) dX7_init_31 rfl ka_int (by decide) (by decide) (by omega) (by omega) ?_
  refine wp_heap (nw_Sn (m2 := 14) (by decide) (by decide) (by decide) (by decide) (by decide +kernel)) (nw_C (by decide +kernel)) ?_
  show Wp _ _ _ _ 33 [cA 9] [cA 13, cA 9] (Sn 14 p_11 sc) (apU u_10 C0z) _
  refine wp_putAF (kk := 4) (nx := 36) clsX7 dX7_init_33 rfl kF_X7_21 (by decide) (sn_b (by decide)) (sn_t (by decide)) rfl rfl rfl rfl (by decide) ?_
  show Wp _ _ _ _ 36 [cA 9] [] (Sn 14 p_12 sc) (apU u_10 C0z) _
  refine wp_aload_n (nx := 37) dX7_init_36 rfl rfl ?_
  refine wp_bipush (nx := 39) dX7_init_37 rfl ⟨by decide, i32 (by decide)⟩ ?_
  refine wp_newI (nx := 41) (mc := 2) (ms := 9) dX7_init_39 rfl ka_int (by decide) (by decide) (by omega) (by omega) ?_
  refine wp_heap (nw_Sn (m2 := 15) (by decide) (by decide) (by decide) (by decide) (by decide +kernel)) (nw_C (by decide +kernel)) ?_
  show Wp _ _ _ _ 41 [cA 9] [cA 14, cA 9] (Sn 15 p_12 sc) (apU u_10 C0z) _
  refine wp_putAF (kk := 5) (nx := 44) clsX7 dX7_init_41 rfl kF_X7_24 (by decide) (sn_b (by decide)) (sn_t (by decide)) rfl rfl rfl rfl (by decide) ?_
  show Wp _ _ _ _ 44 [cA 9] [] (Sn 15 p_13 sc) (apU u_10 C0z) _
  refine wp_aload_n (nx := 45) dX7_init_44 rfl rfl ?_
  refine wp_bipush (nx := 47) dX7_init_45 rfl ⟨by decide, i32 (by decide)⟩ ?_
  refine wp_newA (nx := 50) (ci := 9) (mc := 1) (ms := 3) dX7_init_47 rfl kC_X7_27 (Or.inr rfl) rfl (by decide) (by decide) (by omega) (by omega) ?_
  refine wp_heap (nw_Sn (m2 := 16) (by decide) (by decide) (by decide) (by decide) (by decide +kernel)) (nw_C (by decide +kernel)) ?_
  show Wp _ _ _ _ 50 [cA 9] [cA 15, cA 9] (Sn 16 p_13 sc) (apU u_10 C0z) _
  refine wp_putAF (kk := 7) (nx := 53) clsX7 dX7_init_50 rfl kF_X7_29 (by decide) (sn_b (by decide)) (sn_t (by decide)) rfl rfl rfl rfl (by decide) ?_
  show Wp _ _ _ _ 53 [cA 9] [] (Sn 16 p_14 sc) (apU u_10 C0z) _
  refine wp_aload_n (nx := 54) dX7_init_53 rfl rfl ?_
  refine wp_iconst (nx := 55) dX7_init_54 rfl (i32 (by decide)) ?_
  refine wp_putI (kk := 9) (nx := 58) clsX7 dX7_init_55 rfl kF_X7_33 (by decide) (sn_b (by decide)) (sn_t (by decide)) rfl rfl ⟨by decide, by decide⟩ ?_
  show Wp _ _ _ _ 58 [cA 9] [] (Sn 16 p_14 sc) (apU u_11 C0z) _
  refine wp_aload_n (nx := 59) dX7_init_58 rfl rfl ?_
  refine wp_iconst (nx := 60) dX7_init_59 rfl (i32 (by decide)) ?_
  refine wp_newI (nx := 62) (mc := 0) (ms := 0) dX7_init_60 rfl ka_int (by decide) (by decide) (by omega) (by omega) ?_
  refine wp_heap (nw_Sn (m2 := 17) (by decide) (by decide) (by decide) (by decide) (by decide +kernel)) (nw_C (by decide +kernel)) ?_
  show Wp _ _ _ _ 62 [cA 9] [cA 16, cA 9] (Sn 17 p_14 sc) (apU u_11 C0z) _
  refine wp_putAF (kk := 10) (nx := 65) clsX7 dX7_init_62 rfl kF_X7_37 (by decide) (sn_b (by decide)) (sn_t (by decide)) rfl rfl rfl rfl (by decide) ?_
  show Wp _ _ _ _ 65 [cA 9] [] (Sn 17 p_15 sc) (apU u_11 C0z) _
  refine wp_aload_n (nx := 66) dX7_init_65 rfl rfl ?_
  refine wp_getAe (kk := 3) (r := 12) (nx := 69) clsX7 dX7_init_66 rfl kF_X7_18 (by decide) (sn_b (by decide)) (sn_t (by decide)) rfl (sn_p (by decide +kernel)) ?_
  refine wp_iconst (nx := 70) dX7_init_69 rfl (i32 (by decide)) ?_
  refine wp_invS (nx := 73) (d := d + 1) (N := M_J7_fill_53178) (as := [cA 12, cI (-1)]) (st := []) (mc := 0) (ms := 0) (mc' := 0) (ms' := 0) dX7_init_70 rfl mok_J7_fill_53178 kM_X7_40 ks_J7_fill_53178 rfl rfl (leB rfl) (leB rfl) (by omega) (by omega) ?_
  refine Wp.deep (d := d + 1) (ct_3 ?_) (by omega) (Nat.le_refl _) (Nat.le_refl _)
  show Wp _ _ _ _ 73 [cA 9] [] (Sn 17 p_15 sc) (apU u_19 C0z) _
  refine wp_aload_n (nx := 74) dX7_init_73 rfl rfl ?_
  refine wp_getAe (kk := 10) (r := 16) (nx := 77) clsX7 dX7_init_74 rfl kF_X7_37 (by decide) (sn_b (by decide)) (sn_t (by decide)) rfl (sn_p (by decide +kernel)) ?_
  refine wp_iconst (nx := 78) dX7_init_77 rfl (i32 (by decide)) ?_
  refine wp_iconst (nx := 79) dX7_init_78 rfl (i32 (by decide)) ?_
  refine wp_iastore (nx := 80) dX7_init_79 rfl (sn_b (by decide)) (sn_i (by decide)) (sn_t (by decide)) ?_
  show Wp _ _ _ _ 80 [cA 9] [] (Sn 17 p_15 sc) (apU u_20 C0z) _
  exact wp_return dX7_init_80 rfl h
abbrev p_16 : List (Int × Int × Int) := (0, 1, 9) :: p_15
abbrev p_17 : List (Int × Int × Int) := (17, 1, 18) :: p_16
abbrev p_18 : List (Int × Int × Int) := (17, 2, 19) :: p_17
abbrev p_19 : List (Int × Int × Int) := (17, 3, 20) :: p_18
abbrev p_20 : List (Int × Int × Int) := (17, 4, 21) :: p_19
abbrev p_21 : List (Int × Int × Int) := (17, 5, 22) :: p_20
abbrev p_22 : List (Int × Int × Int) := (17, 7, 23) :: p_21
abbrev u_21 : List (Int × Int × Int) := (17, 9, (-1)) :: u_20
abbrev p_23 : List (Int × Int × Int) := (17, 10, 24) :: p_22
abbrev u_22 : List (Int × Int × Int) := (20, 0, (-1)) :: u_21
abbrev u_23 : List (Int × Int × Int) := (20, 1, (-1)) :: u_22
abbrev u_24 : List (Int × Int × Int) := (20, 2, (-1)) :: u_23
abbrev u_25 : List (Int × Int × Int) := (20, 3, (-1)) :: u_24
abbrev u_26 : List (Int × Int × Int) := (20, 4, (-1)) :: u_25
abbrev u_27 : List (Int × Int × Int) := (20, 5, (-1)) :: u_26
abbrev u_28 : List (Int × Int × Int) := (20, 6, (-1)) :: u_27
abbrev u_29 : List (Int × Int × Int) := (20, 7, (-1)) :: u_28
set_option maxRecDepth 20000 in
theorem ct_5 {d : Nat} {sc : Int × (Int → Int)} {Q : Int → MS → MC → Prop} (h : Q 0 (Sn 25 p_23 sc) (apU u_29 C0z)) : Wp (d + 1) 0 0 M_J7_fill_53178 0 [cA 20, cI (-1), cU, cU] [] (Sn 25 p_23 sc) (apU u_21 C0z) Q := by
  refine wp_iconst (nx := 1) dJ7_fill_53178_0 rfl (i32 (by decide)) ?_
  refine wp_istore_n (nx := 2) dJ7_fill_53178_1 rfl (by decide) ?_
  refine wp_ls (ls2 := [cA 20, cI (-1), cI 0, cU]) rfl ?_
  refine wp_aload_n (nx := 3) dJ7_fill_53178_2 rfl rfl ?_
  refine wp_alenE (n := 8) (nx := 4) dJ7_fill_53178_3 rfl (sn_b (by decide)) (sn_l (by decide)) (sn_t20 (by decide)) ?_
  refine wp_istore_n (nx := 5) dJ7_fill_53178_4 rfl (by decide) ?_
  refine wp_ls (ls2 := [cA 20, cI (-1), cI 0, cI 8]) rfl ?_
  refine wp_iload_n (nx := 6) dJ7_fill_53178_5 rfl rfl ?_
  refine wp_iload_n (nx := 7) dJ7_fill_53178_6 rfl rfl ?_
  refine wp_icmp_ge (nx := 10) (tg := 20) dJ7_fill_53178_7 rfl rfl (fun hc => absurd hc (by decide)) (fun hc => ?_)
  refine wp_aload_n (nx := 11) dJ7_fill_53178_10 rfl rfl ?_
  refine wp_iload_n (nx := 12) dJ7_fill_53178_11 rfl rfl ?_
  refine wp_iload_n (nx := 13) dJ7_fill_53178_12 rfl rfl ?_
  refine wp_iastore (nx := 14) dJ7_fill_53178_13 rfl (sn_b (by decide)) (sn_i (by decide)) (sn_t (by decide)) ?_
  show Wp _ _ _ _ 14 [cA 20, cI (-1), cI 0, cI 8] [] (Sn 25 p_23 sc) (apU u_22 C0z) _
  refine wp_iinc (nx := 17) dJ7_fill_53178_14 rfl rfl (by decide) ?_
  refine wp_ls (ls2 := [cA 20, cI (-1), cI 1, cI 8]) rfl ?_
  refine wp_goto (nx := 5) dJ7_fill_53178_17 rfl ?_
  refine wp_iload_n (nx := 6) dJ7_fill_53178_5 rfl rfl ?_
  refine wp_iload_n (nx := 7) dJ7_fill_53178_6 rfl rfl ?_
  refine wp_icmp_ge (nx := 10) (tg := 20) dJ7_fill_53178_7 rfl rfl (fun hc => absurd hc (by decide)) (fun hc => ?_)
  refine wp_aload_n (nx := 11) dJ7_fill_53178_10 rfl rfl ?_
  refine wp_iload_n (nx := 12) dJ7_fill_53178_11 rfl rfl ?_
  refine wp_iload_n (nx := 13) dJ7_fill_53178_12 rfl rfl ?_
  refine wp_iastore (nx := 14) dJ7_fill_53178_13 rfl (sn_b (by decide)) (sn_i (by decide)) (sn_t (by decide)) ?_
  show Wp _ _ _ _ 14 [cA 20, cI (-1), cI 1, cI 8] [] (Sn 25 p_23 sc) (apU u_23 C0z) _
  refine wp_iinc (nx := 17) dJ7_fill_53178_14 rfl rfl (by decide) ?_
  refine wp_ls (ls2 := [cA 20, cI (-1), cI 2, cI 8]) rfl ?_
  refine wp_goto (nx := 5) dJ7_fill_53178_17 rfl ?_
  refine wp_iload_n (nx := 6) dJ7_fill_53178_5 rfl rfl ?_
  refine wp_iload_n (nx := 7) dJ7_fill_53178_6 rfl rfl ?_
  refine wp_icmp_ge (nx := 10) (tg := 20) dJ7_fill_53178_7 rfl rfl (fun hc => absurd hc (by decide)) (fun hc => ?_)
  refine wp_aload_n (nx := 11) dJ7_fill_53178_10 rfl rfl ?_
  refine wp_iload_n (nx := 12) dJ7_fill_53178_11 rfl rfl ?_
  refine wp_iload_n (nx := 13) dJ7_fill_53178_12 rfl rfl ?_
  refine wp_iastore (nx := 14) dJ7_fill_53178_13 rfl (sn_b (by decide)) (sn_i (by decide)) (sn_t (by decide)) ?_
  show Wp _ _ _ _ 14 [cA 20, cI (-1), cI 2, cI 8] [] (Sn 25 p_23 sc) (apU u_24 C0z) _
  refine wp_iinc (nx := 17) dJ7_fill_53178_14 rfl rfl (by decide) ?_
  refine wp_ls (ls2 := [cA 20, cI (-1), cI 3, cI 8]) rfl ?_
  refine wp_goto (nx := 5) dJ7_fill_53178_17 rfl ?_
  refine wp_iload_n (nx := 6) dJ7_fill_53178_5 rfl rfl ?_
  refine wp_iload_n (nx := 7) dJ7_fill_53178_6 rfl rfl ?_
  refine wp_icmp_ge (nx := 10) (tg := 20) dJ7_fill_53178_7 rfl rfl (fun hc => absurd hc (by decide)) (fun hc => ?_)
  refine wp_aload_n (nx := 11) dJ7_fill_53178_10 rfl rfl ?_
  refine wp_iload_n (nx := 12) dJ7_fill_53178_11 rfl rfl ?_
  refine wp_iload_n (nx := 13) dJ7_fill_53178_12 rfl rfl ?_
  refine wp_iastore (nx := 14) dJ7_fill_53178_13 rfl (sn_b (by decide)) (sn_i (by decide)) (sn_t (by decide)) ?_
  show Wp _ _ _ _ 14 [cA 20, cI (-1), cI 3, cI 8] [] (Sn 25 p_23 sc) (apU u_25 C0z) _
  refine wp_iinc (nx := 17) dJ7_fill_53178_14 rfl rfl (by decide) ?_
  refine wp_ls (ls2 := [cA 20, cI (-1), cI 4, cI 8]) rfl ?_
  refine wp_goto (nx := 5) dJ7_fill_53178_17 rfl ?_
  refine wp_iload_n (nx := 6) dJ7_fill_53178_5 rfl rfl ?_
  refine wp_iload_n (nx := 7) dJ7_fill_53178_6 rfl rfl ?_
  refine wp_icmp_ge (nx := 10) (tg := 20) dJ7_fill_53178_7 rfl rfl (fun hc => absurd hc (by decide)) (fun hc => ?_)
  refine wp_aload_n (nx := 11) dJ7_fill_53178_10 rfl rfl ?_
  refine wp_iload_n (nx := 12) dJ7_fill_53178_11 rfl rfl ?_
  refine wp_iload_n (nx := 13) dJ7_fill_53178_12 rfl rfl ?_
  refine wp_iastore (nx := 14) dJ7_fill_53178_13 rfl (sn_b (by decide)) (sn_i (by decide)) (sn_t (by decide)) ?_
  show Wp _ _ _ _ 14 [cA 20, cI (-1), cI 4, cI 8] [] (Sn 25 p_23 sc) (apU u_26 C0z) _
  refine wp_iinc (nx := 17) dJ7_fill_53178_14 rfl rfl (by decide) ?_
  refine wp_ls (ls2 := [cA 20, cI (-1), cI 5, cI 8]) rfl ?_
  refine wp_goto (nx := 5) dJ7_fill_53178_17 rfl ?_
  refine wp_iload_n (nx := 6) dJ7_fill_53178_5 rfl rfl ?_
  refine wp_iload_n (nx := 7) dJ7_fill_53178_6 rfl rfl ?_
  refine wp_icmp_ge (nx := 10) (tg := 20) dJ7_fill_53178_7 rfl rfl (fun hc => absurd hc (by decide)) (fun hc => ?_)
  refine wp_aload_n (nx := 11) dJ7_fill_53178_10 rfl rfl ?_
  refine wp_iload_n (nx := 12) dJ7_fill_53178_11 rfl rfl ?_
  refine wp_iload_n (nx := 13) dJ7_fill_53178_12 rfl rfl ?_
  refine wp_iastore (nx := 14) dJ7_fill_53178_13 rfl (sn_b (by decide)) (sn_i (by decide)) (sn_t (by decide)) ?_
  show Wp _ _ _ _ 14 [cA 20, cI (-1), cI 5, cI 8] [] (Sn 25 p_23 sc) (apU u_27 C0z) _
  refine wp_iinc (nx := 17) dJ7_fill_53178_14 rfl rfl (by decide) ?_
  refine wp_ls (ls2 := [cA 20, cI (-1), cI 6, cI 8]) rfl ?_
  refine wp_goto (nx := 5) dJ7_fill_53178_17 rfl ?_
  refine wp_iload_n (nx := 6) dJ7_fill_53178_5 rfl rfl ?_
  refine wp_iload_n (nx := 7) dJ7_fill_53178_6 rfl rfl ?_
  refine wp_icmp_ge (nx := 10) (tg := 20) dJ7_fill_53178_7 rfl rfl (fun hc => absurd hc (by decide)) (fun hc => ?_)
  refine wp_aload_n (nx := 11) dJ7_fill_53178_10 rfl rfl ?_
  refine wp_iload_n (nx := 12) dJ7_fill_53178_11 rfl rfl ?_
  refine wp_iload_n (nx := 13) dJ7_fill_53178_12 rfl rfl ?_
  refine wp_iastore (nx := 14) dJ7_fill_53178_13 rfl (sn_b (by decide)) (sn_i (by decide)) (sn_t (by decide)) ?_
  show Wp _ _ _ _ 14 [cA 20, cI (-1), cI 6, cI 8] [] (Sn 25 p_23 sc) (apU u_28 C0z) _
  refine wp_iinc (nx := 17) dJ7_fill_53178_14 rfl rfl (by decide) ?_
  refine wp_ls (ls2 := [cA 20, cI (-1), cI 7, cI 8]) rfl ?_
  refine wp_goto (nx := 5) dJ7_fill_53178_17 rfl ?_
  refine wp_iload_n (nx := 6) dJ7_fill_53178_5 rfl rfl ?_
  refine wp_iload_n (nx := 7) dJ7_fill_53178_6 rfl rfl ?_
  refine wp_icmp_ge (nx := 10) (tg := 20) dJ7_fill_53178_7 rfl rfl (fun hc => absurd hc (by decide)) (fun hc => ?_)
  refine wp_aload_n (nx := 11) dJ7_fill_53178_10 rfl rfl ?_
  refine wp_iload_n (nx := 12) dJ7_fill_53178_11 rfl rfl ?_
  refine wp_iload_n (nx := 13) dJ7_fill_53178_12 rfl rfl ?_
  refine wp_iastore (nx := 14) dJ7_fill_53178_13 rfl (sn_b (by decide)) (sn_i (by decide)) (sn_t (by decide)) ?_
  show Wp _ _ _ _ 14 [cA 20, cI (-1), cI 7, cI 8] [] (Sn 25 p_23 sc) (apU u_29 C0z) _
  refine wp_iinc (nx := 17) dJ7_fill_53178_14 rfl rfl (by decide) ?_
  refine wp_ls (ls2 := [cA 20, cI (-1), cI 8, cI 8]) rfl ?_
  refine wp_goto (nx := 5) dJ7_fill_53178_17 rfl ?_
  refine wp_iload_n (nx := 6) dJ7_fill_53178_5 rfl rfl ?_
  refine wp_iload_n (nx := 7) dJ7_fill_53178_6 rfl rfl ?_
  refine wp_icmp_ge (nx := 10) (tg := 20) dJ7_fill_53178_7 rfl rfl (fun hc => ?_) (fun hc => absurd (by decide) hc)
  exact wp_return dJ7_fill_53178_20 rfl h
abbrev u_30 : List (Int × Int × Int) := (24, 1, 1) :: u_29
set_option maxRecDepth 20000 in
theorem ct_6 {d : Nat} {sc : Int × (Int → Int)} {Q : Int → MS → MC → Prop} (h : Q 0 (Sn 25 p_23 sc) (apU u_30 C0z)) : Wp (d + 2) 7 51 M_X7_init 0 [cA 17] [] (Sn 18 p_16 sc) (apU u_20 C0z) Q := by
  refine wp_aload_n (nx := 1) dX7_init_0 rfl rfl ?_
  refine wp_objInit (nx := 4) dX7_init_1 rfl kM_X7_3 ki_objectInit kc_objectInit (by decide) (leB rfl) ?_
  refine wp_aload_n (nx := 5) dX7_init_4 rfl rfl ?_
  refine wp_bipush (nx := 7) dX7_init_5 rfl ⟨by decide, i32 (by decide)⟩ ?_
  refine wp_newI (nx := 9) (mc := 6) (ms := 45) dX7_init_7 rfl ka_int (by decide) (by decide) (by omega) (by omega) ?_
  refine wp_heap (nw_Sn (m2 := 19) (by decide) (by decide) (by decide) (by decide) (by decide +kernel)) (nw_C (by decide +kernel)) ?_
  show Wp _ _ _ _ 9 [cA 17] [cA 18, cA 17] (Sn 19 p_16 sc) (apU u_20 C0z) _
  refine wp_putAF (kk := 1) (nx := 12) clsX7 dX7_init_9 rfl kF_X7_9 (by decide) (sn_b (by decide)) (sn_t (by decide)) rfl rfl rfl rfl (by decide) ?_
  show Wp _ _ _ _ 12 [cA 17] [] (Sn 19 p_17 sc) (apU u_20 C0z) _
  refine wp_aload_n (nx := 13) dX7_init_12 rfl rfl ?_
  refine wp_bipush (nx := 15) dX7_init_13 rfl ⟨by decide, i32 (by decide)⟩ ?_
  refine wp_newI (nx := 17) (mc := 5) (ms := 39) dX7_init_15 rfl ka_int (by decide) (by decide) (by omega) (by omega) ?_
  refine wp_heap (nw_Sn (m2 := 20) (by decide) (by decide) (by decide) (by decide) (by decide +kernel)) (nw_C (by decide +kernel)) ?_
  show Wp _ _ _ _ 17 [cA 17] [cA 19, cA 17] (Sn 20 p_17 sc) (apU u_20 C0z) _
  refine wp_putAF (kk := 2) (nx := 20) clsX7 dX7_init_17 rfl kF_X7_15 (by decide) (sn_b (by decide)) (sn_t (by decide)) rfl rfl rfl rfl (by decide) ?_
  show Wp _ _ _ _ 20 [cA 17] [] (Sn 20 p_18 sc) (apU u_20 C0z) _
  refine wp_aload_n (nx := 21) dX7_init_20 rfl rfl ?_
  refine wp_bipush (nx := 23) dX7_init_21 rfl ⟨by decide, i32 (by decide)⟩ ?_
  refine wp_newI (nx := 25) (mc := 4) (ms := 31) dX7_init_23 rfl ka_int (by decide) (by decide) (by omega) (by omega) ?_
  refine wp_heap (nw_Sn (m2 := 21) (by decide) (by decide) (by decide) (by decide) (by decide +kernel)) (nw_C (by decide +kernel)) ?_
  show Wp _ _ _ _ 25 [cA 17] [cA 20, cA 17] (Sn 21 p_18 sc) (apU u_20 C0z) _
  refine wp_putAF (kk := 3) (nx := 28) clsX7 dX7_init_25 rfl kF_X7_18 (by decide) (sn_b (by decide)) (sn_t (by decide)) rfl rfl rfl rfl (by decide) ?_
  show Wp _ _ _ _ 28 [cA 17] [] (Sn 21 p_19 sc) (apU u_20 C0z) _
  refine wp_aload_n (nx := 29) dX7_init_28 rfl rfl ?_
  refine wp_bipush (nx := 31) dX7_init_29 rfl ⟨by decide, i32 (by decide)⟩ ?_
  refine wp_newI (nx := 33) (mc := 3) (ms := 15) dX7_init_31 rfl ka_int (by decide) (by decide) (by omega) (by omega) ?_
  refine wp_heap (nw_Sn (m2 := 22) (by decide) (by decide) (by decide) (by decide) (by decide +kernel)) (nw_C (by decide +kernel)) ?_
  show Wp _ _ _ _ 33 [cA 17] [cA 21, cA 17] (Sn 22 p_19 sc) (apU u_20 C0z) _
  refine wp_putAF (kk := 4) (nx := 36) clsX7 dX7_init_33 rfl kF_X7_21 (by decide) (sn_b (by decide)) (sn_t (by decide)) rfl rfl rfl rfl (by decide) ?_
  show Wp _ _ _ _ 36 [cA 17] [] (Sn 22 p_20 sc) (apU u_20 C0z) _
  refine wp_aload_n (nx := 37) dX7_init_36 rfl rfl ?_
  refine wp_bipush (nx := 39) dX7_init_37 rfl ⟨by decide, i32 (by decide)⟩ ?_
  refine wp_newI (nx := 41) (mc := 2) (ms := 9) dX7_init_39 rfl ka_int (by decide) (by decide) (by omega) (by omega) ?_
  refine wp_heap (nw_Sn (m2 := 23) (by decide) (by decide) (by decide) (by decide) (by decide +kernel)) (nw_C (by decide +kernel)) ?_
  show Wp _ _ _ _ 41 [cA 17] [cA 22, cA 17] (Sn 23 p_20 sc) (apU u_20 C0z) _
  refine wp_putAF (kk := 5) (nx := 44) clsX7 dX7_init_41 rfl kF_X7_24 (by decide) (sn_b (by decide)) (sn_t (by decide)) rfl rfl rfl rfl (by decide) ?_
  show Wp _ _ _ _ 44 [cA 17] [] (Sn 23 p_21 sc) (apU u_20 C0z) _
  refine wp_aload_n (nx := 45) dX7_init_44 rfl rfl ?_
  refine wp_bipush (nx := 47) dX7_init_45 rfl ⟨by decide, i32 (by decide)⟩ ?_
  refine wp_newA (nx := 50) (ci := 9) (mc := 1) (ms := 3) dX7_init_47 rfl kC_X7_27 (Or.inr rfl) rfl (by decide) (by decide) (by omega) (by omega) ?_
  refine wp_heap (nw_Sn (m2 := 24) (by decide) (by decide) (by decide) (by decide) (by decide +kernel)) (nw_C (by decide +kernel)) ?_
  show Wp _ _ _ _ 50 [cA 17] [cA 23, cA 17] (Sn 24 p_21 sc) (apU u_20 C0z) _
  refine wp_putAF (kk := 7) (nx := 53) clsX7 dX7_init_50 rfl kF_X7_29 (by decide) (sn_b (by decide)) (sn_t (by decide)) rfl rfl rfl rfl (by decide) ?_
  show Wp _ _ _ _ 53 [cA 17] [] (Sn 24 p_22 sc) (apU u_20 C0z) _
  refine wp_aload_n (nx := 54) dX7_init_53 rfl rfl ?_
  refine wp_iconst (nx := 55) dX7_init_54 rfl (i32 (by decide)) ?_
  refine wp_putI (kk := 9) (nx := 58) clsX7 dX7_init_55 rfl kF_X7_33 (by decide) (sn_b (by decide)) (sn_t (by decide)) rfl rfl ⟨by decide, by decide⟩ ?_
  show Wp _ _ _ _ 58 [cA 17] [] (Sn 24 p_22 sc) (apU u_21 C0z) _
  refine wp_aload_n (nx := 59) dX7_init_58 rfl rfl ?_
  refine wp_iconst (nx := 60) dX7_init_59 rfl (i32 (by decide)) ?_
  refine wp_newI (nx := 62) (mc := 0) (ms := 0) dX7_init_60 rfl ka_int (by decide) (by decide) (by omega) (by omega) ?_
  refine wp_heap (nw_Sn (m2 := 25) (by decide) (by decide) (by decide) (by decide) (by decide +kernel)) (nw_C (by decide +kernel)) ?_
  show Wp _ _ _ _ 62 [cA 17] [cA 24, cA 17] (Sn 25 p_22 sc) (apU u_21 C0z) _
  refine wp_putAF (kk := 10) (nx := 65) clsX7 dX7_init_62 rfl kF_X7_37 (by decide) (sn_b (by decide)) (sn_t (by decide)) rfl rfl rfl rfl (by decide) ?_
  show Wp _ _ _ _ 65 [cA 17] [] (Sn 25 p_23 sc) (apU u_21 C0z) _
  refine wp_aload_n (nx := 66) dX7_init_65 rfl rfl ?_
  refine wp_getAe (kk := 3) (r := 20) (nx := 69) clsX7 dX7_init_66 rfl kF_X7_18 (by decide) (sn_b (by decide)) (sn_t (by decide)) rfl (sn_p (by decide +kernel)) ?_
  refine wp_iconst (nx := 70) dX7_init_69 rfl (i32 (by decide)) ?_
  refine wp_invS (nx := 73) (d := d + 1) (N := M_J7_fill_53178) (as := [cA 20, cI (-1)]) (st := []) (mc := 0) (ms := 0) (mc' := 0) (ms' := 0) dX7_init_70 rfl mok_J7_fill_53178 kM_X7_40 ks_J7_fill_53178 rfl rfl (leB rfl) (leB rfl) (by omega) (by omega) ?_
  refine Wp.deep (d := d + 1) (ct_5 ?_) (by omega) (Nat.le_refl _) (Nat.le_refl _)
  show Wp _ _ _ _ 73 [cA 17] [] (Sn 25 p_23 sc) (apU u_29 C0z) _
  refine wp_aload_n (nx := 74) dX7_init_73 rfl rfl ?_
  refine wp_getAe (kk := 10) (r := 24) (nx := 77) clsX7 dX7_init_74 rfl kF_X7_37 (by decide) (sn_b (by decide)) (sn_t (by decide)) rfl (sn_p (by decide +kernel)) ?_
  refine wp_iconst (nx := 78) dX7_init_77 rfl (i32 (by decide)) ?_
  refine wp_iconst (nx := 79) dX7_init_78 rfl (i32 (by decide)) ?_
  refine wp_iastore (nx := 80) dX7_init_79 rfl (sn_b (by decide)) (sn_i (by decide)) (sn_t (by decide)) ?_
  show Wp _ _ _ _ 80 [cA 17] [] (Sn 25 p_23 sc) (apU u_30 C0z) _
  exact wp_return dX7_init_80 rfl h
abbrev p_24 : List (Int × Int × Int) := (0, 2, 17) :: p_23
abbrev p_25 : List (Int × Int × Int) := (0, 3, 25) :: p_24
abbrev p_26 : List (Int × Int × Int) := (0, 4, 26) :: p_25
abbrev p_27 : List (Int × Int × Int) := (27, 0, 28) :: p_26
set_option maxRecDepth 20000 in
theorem ct_7 {d : Nat} {sc : Int × (Int → Int)} {Q : Int → MS → MC → Prop} (h : Q 0 (Sn 29 p_27 sc) (apU u_30 C0z)) : Wp (d + 1) 1 400 M_X8_init 0 [cA 27] [] (Sn 28 p_26 sc) (apU u_30 C0z) Q := by
  refine wp_aload_n (nx := 1) dX8_init_0 rfl rfl ?_
  refine wp_objInit (nx := 4) dX8_init_1 rfl kM_X8_3 ki_objectInit kc_objectInit (by decide) (leB rfl) ?_
  refine wp_aload_n (nx := 5) dX8_init_4 rfl rfl ?_
  refine wp_sipush (nx := 8) dX8_init_5 rfl ⟨by decide, i32 (by decide)⟩ ?_
  refine wp_newB (nx := 10) (mc := 0) (ms := 0) dX8_init_8 rfl ka_byte (by decide) (by decide) (by omega) (by omega) ?_
  refine wp_heap (nw_Sn (m2 := 29) (by decide) (by decide) (by decide) (by decide) (by decide +kernel)) (nw_C (by decide +kernel)) ?_
  show Wp _ _ _ _ 10 [cA 27] [cA 28, cA 27] (Sn 29 p_26 sc) (apU u_30 C0z) _
  refine wp_putAF (kk := 0) (nx := 13) clsX8 dX8_init_10 rfl kF_X8_9 (by decide) (sn_b (by decide)) (sn_t (by decide)) rfl rfl rfl rfl (by decide) ?_
  show Wp _ _ _ _ 13 [cA 27] [] (Sn 29 p_27 sc) (apU u_30 C0z) _
  exact wp_return dX8_init_13 rfl h
abbrev p_28 : List (Int × Int × Int) := (0, 5, 27) :: p_27
abbrev p_29 : List (Int × Int × Int) := (30, 3, 31) :: p_28
abbrev p_30 : List (Int × Int × Int) := (30, 4, 32) :: p_29
abbrev p_31 : List (Int × Int × Int) := (30, 5, 33) :: p_30
abbrev p_32 : List (Int × Int × Int) := (30, 6, 34) :: p_31
abbrev p_33 : List (Int × Int × Int) := (30, 7, 35) :: p_32
abbrev p_34 : List (Int × Int × Int) := (30, 8, 36) :: p_33
set_option maxRecDepth 20000 in
theorem ct_8 {d : Nat} {sc : Int × (Int → Int)} {Q : Int → MS → MC → Prop} (h : Q 0 (Sn 37 p_34 sc) (apU u_30 C0z)) : Wp (d + 2) 6 460 M_X9_init 0 [cA 30, cI 12, cI 400] [] (Sn 31 p_28 sc) (apU u_30 C0z) Q := by
  refine wp_aload_n (nx := 1) dX9_init_0 rfl rfl ?_
  refine wp_objInit (nx := 4) dX9_init_1 rfl kM_X9_3 ki_objectInit kc_objectInit (by decide) (leB rfl) ?_
  refine wp_aload_n (nx := 5) dX9_init_4 rfl rfl ?_
  refine wp_iload_n (nx := 6) dX9_init_5 rfl rfl ?_
  refine wp_iconst (nx := 7) dX9_init_6 rfl (i32 (by decide)) ?_
  refine wp_mmaxI (nx := 10) dX9_init_7 rfl kM_X9_9 (leB rfl) ?_
  refine wp_eqI 12 (by decide) ?_
  refine wp_newI (nx := 12) (mc := 5) (ms := 448) dX9_init_10 rfl ka_int (by decide) (by decide) (by omega) (by omega) ?_
  refine wp_heap (nw_Sn (m2 := 32) (by decide) (by decide) (by decide) (by decide) (by decide +kernel)) (nw_C (by decide +kernel)) ?_
  show Wp _ _ _ _ 12 [cA 30, cI 12, cI 400] [cA 31, cA 30] (Sn 32 p_28 sc) (apU u_30 C0z) _
  refine wp_putAF (kk := 3) (nx := 15) clsX9 dX9_init_12 rfl kF_X9_15 (by decide) (sn_b (by decide)) (sn_t (by decide)) rfl rfl rfl rfl (by decide) ?_
  show Wp _ _ _ _ 15 [cA 30, cI 12, cI 400] [] (Sn 32 p_29 sc) (apU u_30 C0z) _
  refine wp_aload_n (nx := 16) dX9_init_15 rfl rfl ?_
  refine wp_iload_n (nx := 17) dX9_init_16 rfl rfl ?_
  refine wp_iconst (nx := 18) dX9_init_17 rfl (i32 (by decide)) ?_
  refine wp_mmaxI (nx := 21) dX9_init_18 rfl kM_X9_9 (leB rfl) ?_
  refine wp_eqI 12 (by decide) ?_
  refine wp_newI (nx := 23) (mc := 4) (ms := 436) dX9_init_21 rfl ka_int (by decide) (by decide) (by omega) (by omega) ?_
  refine wp_heap (nw_Sn (m2 := 33) (by decide) (by decide) (by decide) (by decide) (by decide +kernel)) (nw_C (by decide +kernel)) ?_
  show Wp _ _ _ _ 23 [cA 30, cI 12, cI 400] [cA 32, cA 30] (Sn 33 p_29 sc) (apU u_30 C0z) _
  refine wp_putAF (kk := 4) (nx := 26) clsX9 dX9_init_23 rfl kF_X9_21 (by decide) (sn_b (by decide)) (sn_t (by decide)) rfl rfl rfl rfl (by decide) ?_
  show Wp _ _ _ _ 26 [cA 30, cI 12, cI 400] [] (Sn 33 p_30 sc) (apU u_30 C0z) _
  refine wp_aload_n (nx := 27) dX9_init_26 rfl rfl ?_
  refine wp_iload_n (nx := 28) dX9_init_27 rfl rfl ?_
  refine wp_iconst (nx := 29) dX9_init_28 rfl (i32 (by decide)) ?_
  refine wp_mmaxI (nx := 32) dX9_init_29 rfl kM_X9_9 (leB rfl) ?_
  refine wp_eqI 12 (by decide) ?_
  refine wp_newI (nx := 34) (mc := 3) (ms := 424) dX9_init_32 rfl ka_int (by decide) (by decide) (by omega) (by omega) ?_
  refine wp_heap (nw_Sn (m2 := 34) (by decide) (by decide) (by decide) (by decide) (by decide +kernel)) (nw_C (by decide +kernel)) ?_
  show Wp _ _ _ _ 34 [cA 30, cI 12, cI 400] [cA 33, cA 30] (Sn 34 p_30 sc) (apU u_30 C0z) _
  refine wp_putAF (kk := 5) (nx := 37) clsX9 dX9_init_34 rfl kF_X9_24 (by decide) (sn_b (by decide)) (sn_t (by decide)) rfl rfl rfl rfl (by decide) ?_
  show Wp _ _ _ _ 37 [cA 30, cI 12, cI 400] [] (Sn 34 p_31 sc) (apU u_30 C0z) _
  refine wp_aload_n (nx := 38) dX9_init_37 rfl rfl ?_
  refine wp_iload_n (nx := 39) dX9_init_38 rfl rfl ?_
  refine wp_iconst (nx := 40) dX9_init_39 rfl (i32 (by decide)) ?_
  refine wp_mmaxI (nx := 43) dX9_init_40 rfl kM_X9_9 (leB rfl) ?_
  refine wp_eqI 12 (by decide) ?_
  refine wp_newI (nx := 45) (mc := 2) (ms := 412) dX9_init_43 rfl ka_int (by decide) (by decide) (by omega) (by omega) ?_
  refine wp_heap (nw_Sn (m2 := 35) (by decide) (by decide) (by decide) (by decide) (by decide +kernel)) (nw_C (by decide +kernel)) ?_
  show Wp _ _ _ _ 45 [cA 30, cI 12, cI 400] [cA 34, cA 30] (Sn 35 p_31 sc) (apU u_30 C0z) _
  refine wp_putAF (kk := 6) (nx := 48) clsX9 dX9_init_45 rfl kF_X9_27 (by decide) (sn_b (by decide)) (sn_t (by decide)) rfl rfl rfl rfl (by decide) ?_
  show Wp _ _ _ _ 48 [cA 30, cI 12, cI 400] [] (Sn 35 p_32 sc) (apU u_30 C0z) _
  refine wp_aload_n (nx := 49) dX9_init_48 rfl rfl ?_
  refine wp_iload_n (nx := 50) dX9_init_49 rfl rfl ?_
  refine wp_iconst (nx := 51) dX9_init_50 rfl (i32 (by decide)) ?_
  refine wp_mmaxI (nx := 54) dX9_init_51 rfl kM_X9_9 (leB rfl) ?_
  refine wp_eqI 12 (by decide) ?_
  refine wp_newI (nx := 56) (mc := 1) (ms := 400) dX9_init_54 rfl ka_int (by decide) (by decide) (by omega) (by omega) ?_
  refine wp_heap (nw_Sn (m2 := 36) (by decide) (by decide) (by decide) (by decide) (by decide +kernel)) (nw_C (by decide +kernel)) ?_
  show Wp _ _ _ _ 56 [cA 30, cI 12, cI 400] [cA 35, cA 30] (Sn 36 p_32 sc) (apU u_30 C0z) _
  refine wp_putAF (kk := 7) (nx := 59) clsX9 dX9_init_56 rfl kF_X9_30 (by decide) (sn_b (by decide)) (sn_t (by decide)) rfl rfl rfl rfl (by decide) ?_
  show Wp _ _ _ _ 59 [cA 30, cI 12, cI 400] [] (Sn 36 p_33 sc) (apU u_30 C0z) _
  refine wp_aload_n (nx := 60) dX9_init_59 rfl rfl ?_
  refine wp_iload_n (nx := 61) dX9_init_60 rfl rfl ?_
  refine wp_iconst (nx := 62) dX9_init_61 rfl (i32 (by decide)) ?_
  refine wp_mmaxI (nx := 65) dX9_init_62 rfl kM_X9_9 (leB rfl) ?_
  refine wp_eqI 400 (by decide) ?_
  refine wp_newI (nx := 67) (mc := 0) (ms := 0) dX9_init_65 rfl ka_int (by decide) (by decide) (by omega) (by omega) ?_
  refine wp_heap (nw_Sn (m2 := 37) (by decide) (by decide) (by decide) (by decide) (by decide +kernel)) (nw_C (by decide +kernel)) ?_
  show Wp _ _ _ _ 67 [cA 30, cI 12, cI 400] [cA 36, cA 30] (Sn 37 p_33 sc) (apU u_30 C0z) _
  refine wp_putAF (kk := 8) (nx := 70) clsX9 dX9_init_67 rfl kF_X9_33 (by decide) (sn_b (by decide)) (sn_t (by decide)) rfl rfl rfl rfl (by decide) ?_
  show Wp _ _ _ _ 70 [cA 30, cI 12, cI 400] [] (Sn 37 p_34 sc) (apU u_30 C0z) _
  exact wp_return dX9_init_70 rfl h
abbrev p_35 : List (Int × Int × Int) := (29, 0, 30) :: p_34
abbrev p_36 : List (Int × Int × Int) := (29, 2, 37) :: p_35
abbrev p_37 : List (Int × Int × Int) := (29, 3, 38) :: p_36
abbrev p_38 : List (Int × Int × Int) := (29, 4, 39) :: p_37
abbrev u_31 : List (Int × Int × Int) := (29, 11, (-1)) :: u_30
abbrev p_39 : List (Int × Int × Int) := (29, 1, 27) :: p_38
set_option maxRecDepth 20000 in
theorem ct_9 {d : Nat} {sc : Int × (Int → Int)} {Q : Int → MS → MC → Prop} (h : Q 0 (Sn 40 p_39 sc) (apU u_31 C0z)) : Wp (d + 3) 10 1672 M_X4_init 0 [cA 29, cA 27] [] (Sn 30 p_28 sc) (apU u_30 C0z) Q := by
  refine wp_aload_n (nx := 1) dX4_init_0 rfl rfl ?_
  refine wp_objInit (nx := 4) dX4_init_1 rfl kM_X4_3 ki_objectInit kc_objectInit (by decide) (leB rfl) ?_
  refine wp_aload_n (nx := 5) dX4_init_4 rfl rfl ?_
  refine wp_new (nx := 8) (mc := 9) (ms := 1663) clsX9 (hdfX (by decide +kernel)) dX4_init_5 rfl kC_X4_9 kin_X9 kz_X9 (by omega) (by omega) ?_
  refine wp_heap (nw_Sn (m2 := 31) (by decide) (by decide) (by decide) (by decide) (by decide +kernel)) (nw_C (by decide +kernel)) ?_
  show Wp _ _ _ _ 8 [cA 29, cA 27] [cA 30, cA 29] (Sn 31 p_28 sc) (apU u_30 C0z) _
  refine wp_dup (nx := 9) dX4_init_8 rfl (k1A _) ?_
  refine wp_bipush (nx := 11) dX4_init_9 rfl ⟨by decide, i32 (by decide)⟩ ?_
  refine wp_sipush (nx := 14) dX4_init_11 rfl ⟨by decide, i32 (by decide)⟩ ?_
  refine wp_invI (nx := 17) (d := d + 2) (N := M_X9_init) (as := [cI 12, cI 400]) (st := [cA 30, cA 29]) (a := 30) (mc := 6) (ms := 460) (mc' := 3) (ms' := 1203) dX4_init_14 rfl mok_X9_init kM_X4_11 ki_X9_init rfl rfl (sn_b (by decide)) rfl rfl (leB rfl) (leB rfl) (by omega) (by omega) ?_
  refine Wp.deep (d := d + 2) (ct_8 ?_) (by omega) (Nat.le_refl _) (Nat.le_refl _)
  show Wp _ _ _ _ 17 [cA 29, cA 27] [cA 30, cA 29] (Sn 37 p_34 sc) (apU u_30 C0z) _
  refine wp_putAF (kk := 0) (nx := 20) clsX4 dX4_init_17 rfl kF_X4_14 (by decide) (sn_b (by decide)) (sn_t (by decide)) rfl rfl rfl rfl (by decide) ?_
  show Wp _ _ _ _ 20 [cA 29, cA 27] [] (Sn 37 p_35 sc) (apU u_30 C0z) _
  refine wp_aload_n (nx := 21) dX4_init_20 rfl rfl ?_
  refine wp_sipush (nx := 24) dX4_init_21 rfl ⟨by decide, i32 (by decide)⟩ ?_
  refine wp_newI (nx := 26) (mc := 2) (ms := 802) dX4_init_24 rfl ka_int (by decide) (by decide) (by omega) (by omega) ?_
  refine wp_heap (nw_Sn (m2 := 38) (by decide) (by decide) (by decide) (by decide) (by decide +kernel)) (nw_C (by decide +kernel)) ?_
  show Wp _ _ _ _ 26 [cA 29, cA 27] [cA 37, cA 29] (Sn 38 p_35 sc) (apU u_30 C0z) _
  refine wp_putAF (kk := 2) (nx := 29) clsX4 dX4_init_26 rfl kF_X4_20 (by decide) (sn_b (by decide)) (sn_t (by decide)) rfl rfl rfl rfl (by decide) ?_
  show Wp _ _ _ _ 29 [cA 29, cA 27] [] (Sn 38 p_36 sc) (apU u_30 C0z) _
  refine wp_aload_n (nx := 30) dX4_init_29 rfl rfl ?_
  refine wp_sipush (nx := 33) dX4_init_30 rfl ⟨by decide, i32 (by decide)⟩ ?_
  refine wp_newI (nx := 35) (mc := 1) (ms := 401) dX4_init_33 rfl ka_int (by decide) (by decide) (by omega) (by omega) ?_
  refine wp_heap (nw_Sn (m2 := 39) (by decide) (by decide) (by decide) (by decide) (by decide +kernel)) (nw_C (by decide +kernel)) ?_
  show Wp _ _ _ _ 35 [cA 29, cA 27] [cA 38, cA 29] (Sn 39 p_36 sc) (apU u_30 C0z) _
  refine wp_putAF (kk := 3) (nx := 38) clsX4 dX4_init_35 rfl kF_X4_24 (by decide) (sn_b (by decide)) (sn_t (by decide)) rfl rfl rfl rfl (by decide) ?_
  show Wp _ _ _ _ 38 [cA 29, cA 27] [] (Sn 39 p_37 sc) (apU u_30 C0z) _
  refine wp_aload_n (nx := 39) dX4_init_38 rfl rfl ?_
  refine wp_sipush (nx := 42) dX4_init_39 rfl ⟨by decide, i32 (by decide)⟩ ?_
  refine wp_newI (nx := 44) (mc := 0) (ms := 0) dX4_init_42 rfl ka_int (by decide) (by decide) (by omega) (by omega) ?_
  refine wp_heap (nw_Sn (m2 := 40) (by decide) (by decide) (by decide) (by decide) (by decide +kernel)) (nw_C (by decide +kernel)) ?_
  show Wp _ _ _ _ 44 [cA 29, cA 27] [cA 39, cA 29] (Sn 40 p_37 sc) (apU u_30 C0z) _
  refine wp_putAF (kk := 4) (nx := 47) clsX4 dX4_init_44 rfl kF_X4_27 (by decide) (sn_b (by decide)) (sn_t (by decide)) rfl rfl rfl rfl (by decide) ?_
  show Wp _ _ _ _ 47 [cA 29, cA 27] [] (Sn 40 p_38 sc) (apU u_30 C0z) _
  refine wp_aload_n (nx := 48) dX4_init_47 rfl rfl ?_
  refine wp_iconst (nx := 49) dX4_init_48 rfl (i32 (by decide)) ?_
  refine wp_putI (kk := 11) (nx := 52) clsX4 dX4_init_49 rfl kF_X4_30 (by decide) (sn_b (by decide)) (sn_t (by decide)) rfl rfl ⟨by decide, by decide⟩ ?_
  show Wp _ _ _ _ 52 [cA 29, cA 27] [] (Sn 40 p_38 sc) (apU u_31 C0z) _
  refine wp_aload_n (nx := 53) dX4_init_52 rfl rfl ?_
  refine wp_aload_n (nx := 54) dX4_init_53 rfl rfl ?_
  refine wp_putAF (kk := 1) (nx := 57) clsX4 dX4_init_54 rfl kF_X4_34 (by decide) (sn_b (by decide)) (sn_t (by decide)) rfl rfl rfl rfl (by decide) ?_
  show Wp _ _ _ _ 57 [cA 29, cA 27] [] (Sn 40 p_39 sc) (apU u_31 C0z) _
  exact wp_return dX4_init_57 rfl h
abbrev p_40 : List (Int × Int × Int) := (0, 6, 29) :: p_39
abbrev p_41 : List (Int × Int × Int) := (41, 0, 42) :: p_40
set_option maxRecDepth 20000 in
theorem ct_10 {d : Nat} {sc : Int × (Int → Int)} {Q : Int → MS → MC → Prop} (h : Q 0 (Sn 43 p_41 sc) (apU u_31 C0z)) : Wp (d + 1) 1 50 M_X5_init 0 [cA 41] [] (Sn 42 p_40 sc) (apU u_31 C0z) Q := by
  refine wp_aload_n (nx := 1) dX5_init_0 rfl rfl ?_
  refine wp_objInit (nx := 4) dX5_init_1 rfl kM_X5_3 ki_objectInit kc_objectInit (by decide) (leB rfl) ?_
  refine wp_aload_n (nx := 5) dX5_init_4 rfl rfl ?_
  refine wp_bipush (nx := 7) dX5_init_5 rfl ⟨by decide, i32 (by decide)⟩ ?_
  refine wp_newJ (nx := 9) (mc := 0) (ms := 0) dX5_init_7 rfl ka_long (by decide) (by decide) (by omega) (by omega) ?_
  refine wp_heap (nw_Sn (m2 := 43) (by decide) (by decide) (by decide) (by decide) (by decide +kernel)) (nw_C (by decide +kernel)) ?_
  show Wp _ _ _ _ 9 [cA 41] [cA 42, cA 41] (Sn 43 p_40 sc) (apU u_31 C0z) _
  refine wp_putAF (kk := 0) (nx := 12) clsX5 dX5_init_9 rfl kF_X5_9 (by decide) (sn_b (by decide)) (sn_t (by decide)) rfl rfl rfl rfl (by decide) ?_
  show Wp _ _ _ _ 12 [cA 41] [] (Sn 43 p_41 sc) (apU u_31 C0z) _
  exact wp_return dX5_init_12 rfl h
abbrev p_42 : List (Int × Int × Int) := (40, 0, 41) :: p_41
abbrev p_43 : List (Int × Int × Int) := (40, 1, 43) :: p_42
set_option maxRecDepth 20000 in
theorem ct_11 {d : Nat} {sc : Int × (Int → Int)} {Q : Int → MS → MC → Prop} (h : Q 0 (Sn 44 p_43 sc) (apU u_31 C0z)) : Wp (d + 2) 3 59 M_X2_init 0 [cA 40] [] (Sn 41 p_40 sc) (apU u_31 C0z) Q := by
  refine wp_aload_n (nx := 1) dX2_init_0 rfl rfl ?_
  refine wp_objInit (nx := 4) dX2_init_1 rfl kM_X2_3 ki_objectInit kc_objectInit (by decide) (leB rfl) ?_
  refine wp_aload_n (nx := 5) dX2_init_4 rfl rfl ?_
  refine wp_new (nx := 8) (mc := 2) (ms := 58) clsX5 (hdfX (by decide +kernel)) dX2_init_5 rfl kC_X2_9 kin_X5 kz_X5 (by omega) (by omega) ?_
  refine wp_heap (nw_Sn (m2 := 42) (by decide) (by decide) (by decide) (by decide) (by decide +kernel)) (nw_C (by decide +kernel)) ?_
  show Wp _ _ _ _ 8 [cA 40] [cA 41, cA 40] (Sn 42 p_40 sc) (apU u_31 C0z) _
  refine wp_dup (nx := 9) dX2_init_8 rfl (k1A _) ?_
  refine wp_invI (nx := 12) (d := d + 1) (N := M_X5_init) (as := []) (st := [cA 41, cA 40]) (a := 41) (mc := 1) (ms := 50) (mc' := 1) (ms' := 8) dX2_init_9 rfl mok_X5_init kM_X2_11 ki_X5_init rfl rfl (sn_b (by decide)) rfl rfl (leB rfl) (leB rfl) (by omega) (by omega) ?_
  refine Wp.deep (d := d + 1) (ct_10 ?_) (by omega) (Nat.le_refl _) (Nat.le_refl _)
  show Wp _ _ _ _ 12 [cA 40] [cA 41, cA 40] (Sn 43 p_41 sc) (apU u_31 C0z) _
  refine wp_putAF (kk := 0) (nx := 15) clsX2 dX2_init_12 rfl kF_X2_12 (by decide) (sn_b (by decide)) (sn_t (by decide)) rfl rfl rfl rfl (by decide) ?_
  show Wp _ _ _ _ 15 [cA 40] [] (Sn 43 p_42 sc) (apU u_31 C0z) _
  refine wp_aload_n (nx := 16) dX2_init_15 rfl rfl ?_
  refine wp_bipush (nx := 18) dX2_init_16 rfl ⟨by decide, i32 (by decide)⟩ ?_
  refine wp_newI (nx := 20) (mc := 0) (ms := 0) dX2_init_18 rfl ka_int (by decide) (by decide) (by omega) (by omega) ?_
  refine wp_heap (nw_Sn (m2 := 44) (by decide) (by decide) (by decide) (by decide) (by decide +kernel)) (nw_C (by decide +kernel)) ?_
  show Wp _ _ _ _ 20 [cA 40] [cA 43, cA 40] (Sn 44 p_42 sc) (apU u_31 C0z) _
  refine wp_putAF (kk := 1) (nx := 23) clsX2 dX2_init_20 rfl kF_X2_18 (by decide) (sn_b (by decide)) (sn_t (by decide)) rfl rfl rfl rfl (by decide) ?_
  show Wp _ _ _ _ 23 [cA 40] [] (Sn 44 p_43 sc) (apU u_31 C0z) _
  exact wp_return dX2_init_23 rfl h
abbrev p_44 : List (Int × Int × Int) := (0, 7, 40) :: p_43
abbrev p_45 : List (Int × Int × Int) := (44, 1, 45) :: p_44
abbrev p_46 : List (Int × Int × Int) := (44, 2, 46) :: p_45
abbrev p_47 : List (Int × Int × Int) := (44, 3, 47) :: p_46
abbrev p_48 : List (Int × Int × Int) := (44, 4, 48) :: p_47
abbrev p_49 : List (Int × Int × Int) := (44, 5, 49) :: p_48
abbrev p_50 : List (Int × Int × Int) := (44, 6, 50) :: p_49
abbrev p_51 : List (Int × Int × Int) := (44, 7, 51) :: p_50
abbrev p_52 : List (Int × Int × Int) := (44, 0, 40) :: p_51
set_option maxRecDepth 20000 in
theorem ct_12 {d : Nat} {sc : Int × (Int → Int)} {Q : Int → MS → MC → Prop} (h : Q 0 (Sn 52 p_52 sc) (apU u_31 C0z)) : Wp (d + 1) 7 892 M_X3_init 0 [cA 44, cA 40] [] (Sn 45 p_44 sc) (apU u_31 C0z) Q := by
  refine wp_aload_n (nx := 1) dX3_init_0 rfl rfl ?_
  refine wp_objInit (nx := 4) dX3_init_1 rfl kM_X3_3 ki_objectInit kc_objectInit (by decide) (leB rfl) ?_
  refine wp_aload_n (nx := 5) dX3_init_4 rfl rfl ?_
  refine wp_bipush (nx := 7) dX3_init_5 rfl ⟨by decide, i32 (by decide)⟩ ?_
  refine wp_newI (nx := 9) (mc := 6) (ms := 886) dX3_init_7 rfl ka_int (by decide) (by decide) (by omega) (by omega) ?_
  refine wp_heap (nw_Sn (m2 := 46) (by decide) (by decide) (by decide) (by decide) (by decide +kernel)) (nw_C (by decide +kernel)) ?_
  show Wp _ _ _ _ 9 [cA 44, cA 40] [cA 45, cA 44] (Sn 46 p_44 sc) (apU u_31 C0z) _
  refine wp_putAF (kk := 1) (nx := 12) clsX3 dX3_init_9 rfl kF_X3_9 (by decide) (sn_b (by decide)) (sn_t (by decide)) rfl rfl rfl rfl (by decide) ?_
  show Wp _ _ _ _ 12 [cA 44, cA 40] [] (Sn 46 p_45 sc) (apU u_31 C0z) _
  refine wp_aload_n (nx := 13) dX3_init_12 rfl rfl ?_
  refine wp_bipush (nx := 15) dX3_init_13 rfl ⟨by decide, i32 (by decide)⟩ ?_
  refine wp_newI (nx := 17) (mc := 5) (ms := 880) dX3_init_15 rfl ka_int (by decide) (by decide) (by omega) (by omega) ?_
  refine wp_heap (nw_Sn (m2 := 47) (by decide) (by decide) (by decide) (by decide) (by decide +kernel)) (nw_C (by decide +kernel)) ?_
  show Wp _ _ _ _ 17 [cA 44, cA 40] [cA 46, cA 44] (Sn 47 p_45 sc) (apU u_31 C0z) _
  refine wp_putAF (kk := 2) (nx := 20) clsX3 dX3_init_17 rfl kF_X3_15 (by decide) (sn_b (by decide)) (sn_t (by decide)) rfl rfl rfl rfl (by decide) ?_
  show Wp _ _ _ _ 20 [cA 44, cA 40] [] (Sn 47 p_46 sc) (apU u_31 C0z) _
  refine wp_aload_n (nx := 21) dX3_init_20 rfl rfl ?_
  refine wp_bipush (nx := 23) dX3_init_21 rfl ⟨by decide, i32 (by decide)⟩ ?_
  refine wp_newJ (nx := 25) (mc := 4) (ms := 832) dX3_init_23 rfl ka_long (by decide) (by decide) (by omega) (by omega) ?_
  refine wp_heap (nw_Sn (m2 := 48) (by decide) (by decide) (by decide) (by decide) (by decide +kernel)) (nw_C (by decide +kernel)) ?_
  show Wp _ _ _ _ 25 [cA 44, cA 40] [cA 47, cA 44] (Sn 48 p_46 sc) (apU u_31 C0z) _
  refine wp_putAF (kk := 3) (nx := 28) clsX3 dX3_init_25 rfl kF_X3_18 (by decide) (sn_b (by decide)) (sn_t (by decide)) rfl rfl rfl rfl (by decide) ?_
  show Wp _ _ _ _ 28 [cA 44, cA 40] [] (Sn 48 p_47 sc) (apU u_31 C0z) _
  refine wp_aload_n (nx := 29) dX3_init_28 rfl rfl ?_
  refine wp_sipush (nx := 32) dX3_init_29 rfl ⟨by decide, i32 (by decide)⟩ ?_
  refine wp_newJ (nx := 34) (mc := 3) (ms := 576) dX3_init_32 rfl ka_long (by decide) (by decide) (by omega) (by omega) ?_
  refine wp_heap (nw_Sn (m2 := 49) (by decide) (by decide) (by decide) (by decide) (by decide +kernel)) (nw_C (by decide +kernel)) ?_
  show Wp _ _ _ _ 34 [cA 44, cA 40] [cA 48, cA 44] (Sn 49 p_47 sc) (apU u_31 C0z) _
  refine wp_putAF (kk := 4) (nx := 37) clsX3 dX3_init_34 rfl kF_X3_22 (by decide) (sn_b (by decide)) (sn_t (by decide)) rfl rfl rfl rfl (by decide) ?_
  show Wp _ _ _ _ 37 [cA 44, cA 40] [] (Sn 49 p_48 sc) (apU u_31 C0z) _
  refine wp_aload_n (nx := 38) dX3_init_37 rfl rfl ?_
  refine wp_sipush (nx := 41) dX3_init_38 rfl ⟨by decide, i32 (by decide)⟩ ?_
  refine wp_newJ (nx := 43) (mc := 2) (ms := 320) dX3_init_41 rfl ka_long (by decide) (by decide) (by omega) (by omega) ?_
  refine wp_heap (nw_Sn (m2 := 50) (by decide) (by decide) (by decide) (by decide) (by decide +kernel)) (nw_C (by decide +kernel)) ?_
  show Wp _ _ _ _ 43 [cA 44, cA 40] [cA 49, cA 44] (Sn 50 p_48 sc) (apU u_31 C0z) _
  refine wp_putAF (kk := 5) (nx := 46) clsX3 dX3_init_43 rfl kF_X3_25 (by decide) (sn_b (by decide)) (sn_t (by decide)) rfl rfl rfl rfl (by decide) ?_
  show Wp _ _ _ _ 46 [cA 44, cA 40] [] (Sn 50 p_49 sc) (apU u_31 C0z) _
  refine wp_aload_n (nx := 47) dX3_init_46 rfl rfl ?_
  refine wp_sipush (nx := 50) dX3_init_47 rfl ⟨by decide, i32 (by decide)⟩ ?_
  refine wp_newI (nx := 52) (mc := 1) (ms := 64) dX3_init_50 rfl ka_int (by decide) (by decide) (by omega) (by omega) ?_
  refine wp_heap (nw_Sn (m2 := 51) (by decide) (by decide) (by decide) (by decide) (by decide +kernel)) (nw_C (by decide +kernel)) ?_
  show Wp _ _ _ _ 52 [cA 44, cA 40] [cA 50, cA 44] (Sn 51 p_49 sc) (apU u_31 C0z) _
  refine wp_putAF (kk := 6) (nx := 55) clsX3 dX3_init_52 rfl kF_X3_28 (by decide) (sn_b (by decide)) (sn_t (by decide)) rfl rfl rfl rfl (by decide) ?_
  show Wp _ _ _ _ 55 [cA 44, cA 40] [] (Sn 51 p_50 sc) (apU u_31 C0z) _
  refine wp_aload_n (nx := 56) dX3_init_55 rfl rfl ?_
  refine wp_bipush (nx := 58) dX3_init_56 rfl ⟨by decide, i32 (by decide)⟩ ?_
  refine wp_newZ (nx := 60) (mc := 0) (ms := 0) dX3_init_58 rfl ka_boolean (by decide) (by decide) (by omega) (by omega) ?_
  refine wp_heap (nw_Sn (m2 := 52) (by decide) (by decide) (by decide) (by decide) (by decide +kernel)) (nw_C (by decide +kernel)) ?_
  show Wp _ _ _ _ 60 [cA 44, cA 40] [cA 51, cA 44] (Sn 52 p_50 sc) (apU u_31 C0z) _
  refine wp_putAF (kk := 7) (nx := 63) clsX3 dX3_init_60 rfl kF_X3_31 (by decide) (sn_b (by decide)) (sn_t (by decide)) rfl rfl rfl rfl (by decide) ?_
  show Wp _ _ _ _ 63 [cA 44, cA 40] [] (Sn 52 p_51 sc) (apU u_31 C0z) _
  refine wp_aload_n (nx := 64) dX3_init_63 rfl rfl ?_
  refine wp_aload_n (nx := 65) dX3_init_64 rfl rfl ?_
  refine wp_putAF (kk := 0) (nx := 68) clsX3 dX3_init_65 rfl kF_X3_35 (by decide) (sn_b (by decide)) (sn_t (by decide)) rfl rfl rfl rfl (by decide) ?_
  show Wp _ _ _ _ 68 [cA 44, cA 40] [] (Sn 52 p_52 sc) (apU u_31 C0z) _
  exact wp_return dX3_init_68 rfl h
abbrev p_53 : List (Int × Int × Int) := (0, 8, 44) :: p_52
abbrev p_54 : List (Int × Int × Int) := (52, 0, 53) :: p_53
abbrev p_55 : List (Int × Int × Int) := (52, 1, 54) :: p_54
set_option maxRecDepth 20000 in
theorem ct_13 {d : Nat} {sc : Int × (Int → Int)} {Q : Int → MS → MC → Prop} (h : Q 0 (Sn 55 p_55 sc) (apU u_31 C0z)) : Wp (d + 1) 2 100 M_X1_init 0 [cA 52] [] (Sn 53 p_53 sc) (apU u_31 C0z) Q := by
  refine wp_aload_n (nx := 1) dX1_init_0 rfl rfl ?_
  refine wp_objInit (nx := 4) dX1_init_1 rfl kM_X1_3 ki_objectInit kc_objectInit (by decide) (leB rfl) ?_
  refine wp_aload_n (nx := 5) dX1_init_4 rfl rfl ?_
  refine wp_bipush (nx := 7) dX1_init_5 rfl ⟨by decide, i32 (by decide)⟩ ?_
  refine wp_newI (nx := 9) (mc := 1) (ms := 64) dX1_init_7 rfl ka_int (by decide) (by decide) (by omega) (by omega) ?_
  refine wp_heap (nw_Sn (m2 := 54) (by decide) (by decide) (by decide) (by decide) (by decide +kernel)) (nw_C (by decide +kernel)) ?_
  show Wp _ _ _ _ 9 [cA 52] [cA 53, cA 52] (Sn 54 p_53 sc) (apU u_31 C0z) _
  refine wp_putAF (kk := 0) (nx := 12) clsX1 dX1_init_9 rfl kF_X1_9 (by decide) (sn_b (by decide)) (sn_t (by decide)) rfl rfl rfl rfl (by decide) ?_
  show Wp _ _ _ _ 12 [cA 52] [] (Sn 54 p_54 sc) (apU u_31 C0z) _
  refine wp_aload_n (nx := 13) dX1_init_12 rfl rfl ?_
  refine wp_bipush (nx := 15) dX1_init_13 rfl ⟨by decide, i32 (by decide)⟩ ?_
  refine wp_newI (nx := 17) (mc := 0) (ms := 0) dX1_init_15 rfl ka_int (by decide) (by decide) (by omega) (by omega) ?_
  refine wp_heap (nw_Sn (m2 := 55) (by decide) (by decide) (by decide) (by decide) (by decide +kernel)) (nw_C (by decide +kernel)) ?_
  show Wp _ _ _ _ 17 [cA 52] [cA 54, cA 52] (Sn 55 p_54 sc) (apU u_31 C0z) _
  refine wp_putAF (kk := 1) (nx := 20) clsX1 dX1_init_17 rfl kF_X1_15 (by decide) (sn_b (by decide)) (sn_t (by decide)) rfl rfl rfl rfl (by decide) ?_
  show Wp _ _ _ _ 20 [cA 52] [] (Sn 55 p_55 sc) (apU u_31 C0z) _
  exact wp_return dX1_init_20 rfl h
abbrev p_56 : List (Int × Int × Int) := (0, 9, 52) :: p_55
abbrev p_57 : List (Int × Int × Int) := (55, 0, 56) :: p_56
abbrev p_58 : List (Int × Int × Int) := (55, 1, 57) :: p_57
abbrev p_59 : List (Int × Int × Int) := (55, 2, 58) :: p_58
set_option maxRecDepth 20000 in
theorem ct_14 {d : Nat} {sc : Int × (Int → Int)} {Q : Int → MS → MC → Prop} (h : Q 0 (Sn 59 p_59 sc) (apU u_31 C0z)) : Wp (d + 1) 3 768 M_X0_init 0 [cA 55] [] (Sn 56 p_56 sc) (apU u_31 C0z) Q := by
  refine wp_aload_n (nx := 1) dX0_init_0 rfl rfl ?_
  refine wp_objInit (nx := 4) dX0_init_1 rfl kM_X0_3 ki_objectInit kc_objectInit (by decide) (leB rfl) ?_
  refine wp_aload_n (nx := 5) dX0_init_4 rfl rfl ?_
  refine wp_sipush (nx := 8) dX0_init_5 rfl ⟨by decide, i32 (by decide)⟩ ?_
  refine wp_newI (nx := 10) (mc := 2) (ms := 512) dX0_init_8 rfl ka_int (by decide) (by decide) (by omega) (by omega) ?_
  refine wp_heap (nw_Sn (m2 := 57) (by decide) (by decide) (by decide) (by decide) (by decide +kernel)) (nw_C (by decide +kernel)) ?_
  show Wp _ _ _ _ 10 [cA 55] [cA 56, cA 55] (Sn 57 p_56 sc) (apU u_31 C0z) _
  refine wp_putAF (kk := 0) (nx := 13) clsX0 dX0_init_10 rfl kF_X0_9 (by decide) (sn_b (by decide)) (sn_t (by decide)) rfl rfl rfl rfl (by decide) ?_
  show Wp _ _ _ _ 13 [cA 55] [] (Sn 57 p_57 sc) (apU u_31 C0z) _
  refine wp_aload_n (nx := 14) dX0_init_13 rfl rfl ?_
  refine wp_sipush (nx := 17) dX0_init_14 rfl ⟨by decide, i32 (by decide)⟩ ?_
  refine wp_newI (nx := 19) (mc := 1) (ms := 256) dX0_init_17 rfl ka_int (by decide) (by decide) (by omega) (by omega) ?_
  refine wp_heap (nw_Sn (m2 := 58) (by decide) (by decide) (by decide) (by decide) (by decide +kernel)) (nw_C (by decide +kernel)) ?_
  show Wp _ _ _ _ 19 [cA 55] [cA 57, cA 55] (Sn 58 p_57 sc) (apU u_31 C0z) _
  refine wp_putAF (kk := 1) (nx := 22) clsX0 dX0_init_19 rfl kF_X0_15 (by decide) (sn_b (by decide)) (sn_t (by decide)) rfl rfl rfl rfl (by decide) ?_
  show Wp _ _ _ _ 22 [cA 55] [] (Sn 58 p_58 sc) (apU u_31 C0z) _
  refine wp_aload_n (nx := 23) dX0_init_22 rfl rfl ?_
  refine wp_sipush (nx := 26) dX0_init_23 rfl ⟨by decide, i32 (by decide)⟩ ?_
  refine wp_newI (nx := 28) (mc := 0) (ms := 0) dX0_init_26 rfl ka_int (by decide) (by decide) (by omega) (by omega) ?_
  refine wp_heap (nw_Sn (m2 := 59) (by decide) (by decide) (by decide) (by decide) (by decide +kernel)) (nw_C (by decide +kernel)) ?_
  show Wp _ _ _ _ 28 [cA 55] [cA 58, cA 55] (Sn 59 p_58 sc) (apU u_31 C0z) _
  refine wp_putAF (kk := 2) (nx := 31) clsX0 dX0_init_28 rfl kF_X0_18 (by decide) (sn_b (by decide)) (sn_t (by decide)) rfl rfl rfl rfl (by decide) ?_
  show Wp _ _ _ _ 31 [cA 55] [] (Sn 59 p_59 sc) (apU u_31 C0z) _
  exact wp_return dX0_init_31 rfl h
abbrev p_60 : List (Int × Int × Int) := (0, 10, 55) :: p_59
abbrev p_61 : List (Int × Int × Int) := (60, 0, 61) :: p_60
set_option maxRecDepth 20000 in
theorem ct_15 {d : Nat} {sc : Int × (Int → Int)} {Q : Int → MS → MC → Prop} (h : Q 0 (Sn 62 p_61 sc) (apU u_31 C0z)) : Wp (d + 1) 1 50 M_X5_init 0 [cA 60] [] (Sn 61 p_60 sc) (apU u_31 C0z) Q := by
  refine wp_aload_n (nx := 1) dX5_init_0 rfl rfl ?_
  refine wp_objInit (nx := 4) dX5_init_1 rfl kM_X5_3 ki_objectInit kc_objectInit (by decide) (leB rfl) ?_
  refine wp_aload_n (nx := 5) dX5_init_4 rfl rfl ?_
  refine wp_bipush (nx := 7) dX5_init_5 rfl ⟨by decide, i32 (by decide)⟩ ?_
  refine wp_newJ (nx := 9) (mc := 0) (ms := 0) dX5_init_7 rfl ka_long (by decide) (by decide) (by omega) (by omega) ?_
  refine wp_heap (nw_Sn (m2 := 62) (by decide) (by decide) (by decide) (by decide) (by decide +kernel)) (nw_C (by decide +kernel)) ?_
  show Wp _ _ _ _ 9 [cA 60] [cA 61, cA 60] (Sn 62 p_60 sc) (apU u_31 C0z) _
  refine wp_putAF (kk := 0) (nx := 12) clsX5 dX5_init_9 rfl kF_X5_9 (by decide) (sn_b (by decide)) (sn_t (by decide)) rfl rfl rfl rfl (by decide) ?_
  show Wp _ _ _ _ 12 [cA 60] [] (Sn 62 p_61 sc) (apU u_31 C0z) _
  exact wp_return dX5_init_12 rfl h
abbrev p_62 : List (Int × Int × Int) := (59, 0, 60) :: p_61
abbrev p_63 : List (Int × Int × Int) := (59, 1, 62) :: p_62
abbrev u_32 : List (Int × Int × Int) := (59, 4, (-1)) :: u_31
set_option maxRecDepth 20000 in
theorem ct_16 {d : Nat} {sc : Int × (Int → Int)} {Q : Int → MS → MC → Prop} (h : Q 0 (Sn 63 p_63 sc) (apU u_32 C0z)) : Wp (d + 2) 3 80 M_X6_init 0 [cA 59] [] (Sn 60 p_60 sc) (apU u_31 C0z) Q := by
  refine wp_aload_n (nx := 1) dX6_init_0 rfl rfl ?_
  refine wp_objInit (nx := 4) dX6_init_1 rfl kM_X6_3 ki_objectInit kc_objectInit (by decide) (leB rfl) ?_
  refine wp_aload_n (nx := 5) dX6_init_4 rfl rfl ?_
  refine wp_new (nx := 8) (mc := 2) (ms := 79) clsX5 (hdfX (by decide +kernel)) dX6_init_5 rfl kC_X6_9 kin_X5 kz_X5 (by omega) (by omega) ?_
  refine wp_heap (nw_Sn (m2 := 61) (by decide) (by decide) (by decide) (by decide) (by decide +kernel)) (nw_C (by decide +kernel)) ?_
  show Wp _ _ _ _ 8 [cA 59] [cA 60, cA 59] (Sn 61 p_60 sc) (apU u_31 C0z) _
  refine wp_dup (nx := 9) dX6_init_8 rfl (k1A _) ?_
  refine wp_invI (nx := 12) (d := d + 1) (N := M_X5_init) (as := []) (st := [cA 60, cA 59]) (a := 60) (mc := 1) (ms := 50) (mc' := 1) (ms' := 29) dX6_init_9 rfl mok_X5_init kM_X6_11 ki_X5_init rfl rfl (sn_b (by decide)) rfl rfl (leB rfl) (leB rfl) (by omega) (by omega) ?_
  refine Wp.deep (d := d + 1) (ct_15 ?_) (by omega) (Nat.le_refl _) (Nat.le_refl _)
  show Wp _ _ _ _ 12 [cA 59] [cA 60, cA 59] (Sn 62 p_61 sc) (apU u_31 C0z) _
  refine wp_putAF (kk := 0) (nx := 15) clsX6 dX6_init_12 rfl kF_X6_12 (by decide) (sn_b (by decide)) (sn_t (by decide)) rfl rfl rfl rfl (by decide) ?_
  show Wp _ _ _ _ 15 [cA 59] [] (Sn 62 p_62 sc) (apU u_31 C0z) _
  refine wp_aload_n (nx := 16) dX6_init_15 rfl rfl ?_
  refine wp_bipush (nx := 18) dX6_init_16 rfl ⟨by decide, i32 (by decide)⟩ ?_
  refine wp_newI (nx := 20) (mc := 0) (ms := 0) dX6_init_18 rfl ka_int (by decide) (by decide) (by omega) (by omega) ?_
  refine wp_heap (nw_Sn (m2 := 63) (by decide) (by decide) (by decide) (by decide) (by decide +kernel)) (nw_C (by decide +kernel)) ?_
  show Wp _ _ _ _ 20 [cA 59] [cA 62, cA 59] (Sn 63 p_62 sc) (apU u_31 C0z) _
  refine wp_putAF (kk := 1) (nx := 23) clsX6 dX6_init_20 rfl kF_X6_18 (by decide) (sn_b (by decide)) (sn_t (by decide)) rfl rfl rfl rfl (by decide) ?_
  show Wp _ _ _ _ 23 [cA 59] [] (Sn 63 p_63 sc) (apU u_31 C0z) _
  refine wp_aload_n (nx := 24) dX6_init_23 rfl rfl ?_
  refine wp_iconst (nx := 25) dX6_init_24 rfl (i32 (by decide)) ?_
  refine wp_putI (kk := 4) (nx := 28) clsX6 dX6_init_25 rfl kF_X6_22 (by decide) (sn_b (by decide)) (sn_t (by decide)) rfl rfl ⟨by decide, by decide⟩ ?_
  show Wp _ _ _ _ 28 [cA 59] [] (Sn 63 p_63 sc) (apU u_32 C0z) _
  exact wp_return dX6_init_28 rfl h
abbrev p_64 : List (Int × Int × Int) := (0, 11, 59) :: p_63
abbrev p_65 : List (Int × Int × Int) := (0, 12, 63) :: p_64
abbrev p_66 : List (Int × Int × Int) := (0, 13, 64) :: p_65
abbrev p_67 : List (Int × Int × Int) := (65, 1, 66) :: p_66
abbrev p_68 : List (Int × Int × Int) := (65, 2, 67) :: p_67
abbrev p_69 : List (Int × Int × Int) := (65, 3, 68) :: p_68
abbrev p_70 : List (Int × Int × Int) := (65, 4, 69) :: p_69
abbrev p_71 : List (Int × Int × Int) := (65, 5, 70) :: p_70
abbrev p_72 : List (Int × Int × Int) := (65, 7, 71) :: p_71
abbrev u_33 : List (Int × Int × Int) := (65, 9, (-1)) :: u_32
abbrev p_73 : List (Int × Int × Int) := (65, 10, 72) :: p_72
abbrev u_34 : List (Int × Int × Int) := (68, 0, (-1)) :: u_33
abbrev u_35 : List (Int × Int × Int) := (68, 1, (-1)) :: u_34
abbrev u_36 : List (Int × Int × Int) := (68, 2, (-1)) :: u_35
abbrev u_37 : List (Int × Int × Int) := (68, 3, (-1)) :: u_36
abbrev u_38 : List (Int × Int × Int) := (68, 4, (-1)) :: u_37
abbrev u_39 : List (Int × Int × Int) := (68, 5, (-1)) :: u_38
abbrev u_40 : List (Int × Int × Int) := (68, 6, (-1)) :: u_39
abbrev u_41 : List (Int × Int × Int) := (68, 7, (-1)) :: u_40
set_option maxRecDepth 20000 in
theorem ct_17 {d : Nat} {sc : Int × (Int → Int)} {Q : Int → MS → MC → Prop} (h : Q 0 (Sn 73 p_73 sc) (apU u_41 C0z)) : Wp (d + 1) 0 0 M_J7_fill_53178 0 [cA 68, cI (-1), cU, cU] [] (Sn 73 p_73 sc) (apU u_33 C0z) Q := by
  refine wp_iconst (nx := 1) dJ7_fill_53178_0 rfl (i32 (by decide)) ?_
  refine wp_istore_n (nx := 2) dJ7_fill_53178_1 rfl (by decide) ?_
  refine wp_ls (ls2 := [cA 68, cI (-1), cI 0, cU]) rfl ?_
  refine wp_aload_n (nx := 3) dJ7_fill_53178_2 rfl rfl ?_
  refine wp_alenE (n := 8) (nx := 4) dJ7_fill_53178_3 rfl (sn_b (by decide)) (sn_l (by decide)) (sn_t20 (by decide)) ?_
  refine wp_istore_n (nx := 5) dJ7_fill_53178_4 rfl (by decide) ?_
  refine wp_ls (ls2 := [cA 68, cI (-1), cI 0, cI 8]) rfl ?_
  refine wp_iload_n (nx := 6) dJ7_fill_53178_5 rfl rfl ?_
  refine wp_iload_n (nx := 7) dJ7_fill_53178_6 rfl rfl ?_
  refine wp_icmp_ge (nx := 10) (tg := 20) dJ7_fill_53178_7 rfl rfl (fun hc => absurd hc (by decide)) (fun hc => ?_)
  refine wp_aload_n (nx := 11) dJ7_fill_53178_10 rfl rfl ?_
  refine wp_iload_n (nx := 12) dJ7_fill_53178_11 rfl rfl ?_
  refine wp_iload_n (nx := 13) dJ7_fill_53178_12 rfl rfl ?_
  refine wp_iastore (nx := 14) dJ7_fill_53178_13 rfl (sn_b (by decide)) (sn_i (by decide)) (sn_t (by decide)) ?_
  show Wp _ _ _ _ 14 [cA 68, cI (-1), cI 0, cI 8] [] (Sn 73 p_73 sc) (apU u_34 C0z) _
  refine wp_iinc (nx := 17) dJ7_fill_53178_14 rfl rfl (by decide) ?_
  refine wp_ls (ls2 := [cA 68, cI (-1), cI 1, cI 8]) rfl ?_
  refine wp_goto (nx := 5) dJ7_fill_53178_17 rfl ?_
  refine wp_iload_n (nx := 6) dJ7_fill_53178_5 rfl rfl ?_
  refine wp_iload_n (nx := 7) dJ7_fill_53178_6 rfl rfl ?_
  refine wp_icmp_ge (nx := 10) (tg := 20) dJ7_fill_53178_7 rfl rfl (fun hc => absurd hc (by decide)) (fun hc => ?_)
  refine wp_aload_n (nx := 11) dJ7_fill_53178_10 rfl rfl ?_
  refine wp_iload_n (nx := 12) dJ7_fill_53178_11 rfl rfl ?_
  refine wp_iload_n (nx := 13) dJ7_fill_53178_12 rfl rfl ?_
  refine wp_iastore (nx := 14) dJ7_fill_53178_13 rfl (sn_b (by decide)) (sn_i (by decide)) (sn_t (by decide)) ?_
  show Wp _ _ _ _ 14 [cA 68, cI (-1), cI 1, cI 8] [] (Sn 73 p_73 sc) (apU u_35 C0z) _
  refine wp_iinc (nx := 17) dJ7_fill_53178_14 rfl rfl (by decide) ?_
  refine wp_ls (ls2 := [cA 68, cI (-1), cI 2, cI 8]) rfl ?_
  refine wp_goto (nx := 5) dJ7_fill_53178_17 rfl ?_
  refine wp_iload_n (nx := 6) dJ7_fill_53178_5 rfl rfl ?_
  refine wp_iload_n (nx := 7) dJ7_fill_53178_6 rfl rfl ?_
  refine wp_icmp_ge (nx := 10) (tg := 20) dJ7_fill_53178_7 rfl rfl (fun hc => absurd hc (by decide)) (fun hc => ?_)
  refine wp_aload_n (nx := 11) dJ7_fill_53178_10 rfl rfl ?_
  refine wp_iload_n (nx := 12) dJ7_fill_53178_11 rfl rfl ?_
  refine wp_iload_n (nx := 13) dJ7_fill_53178_12 rfl rfl ?_
  refine wp_iastore (nx := 14) dJ7_fill_53178_13 rfl (sn_b (by decide)) (sn_i (by decide)) (sn_t (by decide)) ?_
  show Wp _ _ _ _ 14 [cA 68, cI (-1), cI 2, cI 8] [] (Sn 73 p_73 sc) (apU u_36 C0z) _
  refine wp_iinc (nx := 17) dJ7_fill_53178_14 rfl rfl (by decide) ?_
  refine wp_ls (ls2 := [cA 68, cI (-1), cI 3, cI 8]) rfl ?_
  refine wp_goto (nx := 5) dJ7_fill_53178_17 rfl ?_
  refine wp_iload_n (nx := 6) dJ7_fill_53178_5 rfl rfl ?_
  refine wp_iload_n (nx := 7) dJ7_fill_53178_6 rfl rfl ?_
  refine wp_icmp_ge (nx := 10) (tg := 20) dJ7_fill_53178_7 rfl rfl (fun hc => absurd hc (by decide)) (fun hc => ?_)
  refine wp_aload_n (nx := 11) dJ7_fill_53178_10 rfl rfl ?_
  refine wp_iload_n (nx := 12) dJ7_fill_53178_11 rfl rfl ?_
  refine wp_iload_n (nx := 13) dJ7_fill_53178_12 rfl rfl ?_
  refine wp_iastore (nx := 14) dJ7_fill_53178_13 rfl (sn_b (by decide)) (sn_i (by decide)) (sn_t (by decide)) ?_
  show Wp _ _ _ _ 14 [cA 68, cI (-1), cI 3, cI 8] [] (Sn 73 p_73 sc) (apU u_37 C0z) _
  refine wp_iinc (nx := 17) dJ7_fill_53178_14 rfl rfl (by decide) ?_
  refine wp_ls (ls2 := [cA 68, cI (-1), cI 4, cI 8]) rfl ?_
  refine wp_goto (nx := 5) dJ7_fill_53178_17 rfl ?_
  refine wp_iload_n (nx := 6) dJ7_fill_53178_5 rfl rfl ?_
  refine wp_iload_n (nx := 7) dJ7_fill_53178_6 rfl rfl ?_
  refine wp_icmp_ge (nx := 10) (tg := 20) dJ7_fill_53178_7 rfl rfl (fun hc => absurd hc (by decide)) (fun hc => ?_)
  refine wp_aload_n (nx := 11) dJ7_fill_53178_10 rfl rfl ?_
  refine wp_iload_n (nx := 12) dJ7_fill_53178_11 rfl rfl ?_
  refine wp_iload_n (nx := 13) dJ7_fill_53178_12 rfl rfl ?_
  refine wp_iastore (nx := 14) dJ7_fill_53178_13 rfl (sn_b (by decide)) (sn_i (by decide)) (sn_t (by decide)) ?_
  show Wp _ _ _ _ 14 [cA 68, cI (-1), cI 4, cI 8] [] (Sn 73 p_73 sc) (apU u_38 C0z) _
  refine wp_iinc (nx := 17) dJ7_fill_53178_14 rfl rfl (by decide) ?_
  refine wp_ls (ls2 := [cA 68, cI (-1), cI 5, cI 8]) rfl ?_
  refine wp_goto (nx := 5) dJ7_fill_53178_17 rfl ?_
  refine wp_iload_n (nx := 6) dJ7_fill_53178_5 rfl rfl ?_
  refine wp_iload_n (nx := 7) dJ7_fill_53178_6 rfl rfl ?_
  refine wp_icmp_ge (nx := 10) (tg := 20) dJ7_fill_53178_7 rfl rfl (fun hc => absurd hc (by decide)) (fun hc => ?_)
  refine wp_aload_n (nx := 11) dJ7_fill_53178_10 rfl rfl ?_
  refine wp_iload_n (nx := 12) dJ7_fill_53178_11 rfl rfl ?_
  refine wp_iload_n (nx := 13) dJ7_fill_53178_12 rfl rfl ?_
  refine wp_iastore (nx := 14) dJ7_fill_53178_13 rfl (sn_b (by decide)) (sn_i (by decide)) (sn_t (by decide)) ?_
  show Wp _ _ _ _ 14 [cA 68, cI (-1), cI 5, cI 8] [] (Sn 73 p_73 sc) (apU u_39 C0z) _
  refine wp_iinc (nx := 17) dJ7_fill_53178_14 rfl rfl (by decide) ?_
  refine wp_ls (ls2 := [cA 68, cI (-1), cI 6, cI 8]) rfl ?_
  refine wp_goto (nx := 5) dJ7_fill_53178_17 rfl ?_
  refine wp_iload_n (nx := 6) dJ7_fill_53178_5 rfl rfl ?_
  refine wp_iload_n (nx := 7) dJ7_fill_53178_6 rfl rfl ?_
  refine wp_icmp_ge (nx := 10) (tg := 20) dJ7_fill_53178_7 rfl rfl (fun hc => absurd hc (by decide)) (fun hc => ?_)
  refine wp_aload_n (nx := 11) dJ7_fill_53178_10 rfl rfl ?_
  refine wp_iload_n (nx := 12) dJ7_fill_53178_11 rfl rfl ?_
  refine wp_iload_n (nx := 13) dJ7_fill_53178_12 rfl rfl ?_
  refine wp_iastore (nx := 14) dJ7_fill_53178_13 rfl (sn_b (by decide)) (sn_i (by decide)) (sn_t (by decide)) ?_
  show Wp _ _ _ _ 14 [cA 68, cI (-1), cI 6, cI 8] [] (Sn 73 p_73 sc) (apU u_40 C0z) _
  refine wp_iinc (nx := 17) dJ7_fill_53178_14 rfl rfl (by decide) ?_
  refine wp_ls (ls2 := [cA 68, cI (-1), cI 7, cI 8]) rfl ?_
  refine wp_goto (nx := 5) dJ7_fill_53178_17 rfl ?_
  refine wp_iload_n (nx := 6) dJ7_fill_53178_5 rfl rfl ?_
  refine wp_iload_n (nx := 7) dJ7_fill_53178_6 rfl rfl ?_
  refine wp_icmp_ge (nx := 10) (tg := 20) dJ7_fill_53178_7 rfl rfl (fun hc => absurd hc (by decide)) (fun hc => ?_)
  refine wp_aload_n (nx := 11) dJ7_fill_53178_10 rfl rfl ?_
  refine wp_iload_n (nx := 12) dJ7_fill_53178_11 rfl rfl ?_
  refine wp_iload_n (nx := 13) dJ7_fill_53178_12 rfl rfl ?_
  refine wp_iastore (nx := 14) dJ7_fill_53178_13 rfl (sn_b (by decide)) (sn_i (by decide)) (sn_t (by decide)) ?_
  show Wp _ _ _ _ 14 [cA 68, cI (-1), cI 7, cI 8] [] (Sn 73 p_73 sc) (apU u_41 C0z) _
  refine wp_iinc (nx := 17) dJ7_fill_53178_14 rfl rfl (by decide) ?_
  refine wp_ls (ls2 := [cA 68, cI (-1), cI 8, cI 8]) rfl ?_
  refine wp_goto (nx := 5) dJ7_fill_53178_17 rfl ?_
  refine wp_iload_n (nx := 6) dJ7_fill_53178_5 rfl rfl ?_
  refine wp_iload_n (nx := 7) dJ7_fill_53178_6 rfl rfl ?_
  refine wp_icmp_ge (nx := 10) (tg := 20) dJ7_fill_53178_7 rfl rfl (fun hc => ?_) (fun hc => absurd (by decide) hc)
  exact wp_return dJ7_fill_53178_20 rfl h
abbrev u_42 : List (Int × Int × Int) := (72, 1, 1) :: u_41
set_option maxRecDepth 20000 in
theorem ct_18 {d : Nat} {sc : Int × (Int → Int)} {Q : Int → MS → MC → Prop} (h : Q 0 (Sn 73 p_73 sc) (apU u_42 C0z)) : Wp (d + 2) 7 51 M_X7_init 0 [cA 65] [] (Sn 66 p_66 sc) (apU u_32 C0z) Q := by
  refine wp_aload_n (nx := 1) dX7_init_0 rfl rfl ?_
  refine wp_objInit (nx := 4) dX7_init_1 rfl kM_X7_3 ki_objectInit kc_objectInit (by decide) (leB rfl) ?_
  refine wp_aload_n (nx := 5) dX7_init_4 rfl rfl ?_
  refine wp_bipush (nx := 7) dX7_init_5 rfl ⟨by decide, i32 (by decide)⟩ ?_
  refine wp_newI (nx := 9) (mc := 6) (ms := 45) dX7_init_7 rfl ka_int (by decide) (by decide) (by omega) (by omega) ?_
  refine wp_heap (nw_Sn (m2 := 67) (by decide) (by decide) (by decide) (by decide) (by decide +kernel)) (nw_C (by decide +kernel)) ?_
  show Wp _ _ _ _ 9 [cA 65] [cA 66, cA 65] (Sn 67 p_66 sc) (apU u_32 C0z) _
  refine wp_putAF (kk := 1) (nx := 12) clsX7 dX7_init_9 rfl kF_X7_9 (by decide) (sn_b (by decide)) (sn_t (by decide)) rfl rfl rfl rfl (by decide) ?_
  show Wp _ _ _ _ 12 [cA 65] [] (Sn 67 p_67 sc) (apU u_32 C0z) _
  refine wp_aload_n (nx := 13) dX7_init_12 rfl rfl ?_
  refine wp_bipush (nx := 15) dX7_init_13 rfl ⟨by decide, i32 (by decide)⟩ ?_
  refine wp_newI (nx := 17) (mc := 5) (ms := 39) dX7_init_15 rfl ka_int (by decide) (by decide) (by omega) (by omega) ?_
  refine wp_heap (nw_Sn (m2 := 68) (by decide) (by decide) (by decide) (by decide) (by decide +kernel)) (nw_C (by decide +kernel)) ?_
  show Wp _ _ _ _ 17 [cA 65] [cA 67, cA 65] (Sn 68 p_67 sc) (apU u_32 C0z) _
  refine wp_putAF (kk := 2) (nx := 20) clsX7 dX7_init_17 rfl kF_X7_15 (by decide) (sn_b (by decide)) (sn_t (by decide)) rfl rfl rfl rfl (by decide) ?_
  show Wp _ _ _ _ 20 [cA 65] [] (Sn 68 p_68 sc) (apU u_32 C0z) _
  refine wp_aload_n (nx := 21) dX7_init_20 rfl rfl ?_
  refine wp_bipush (nx := 23) dX7_init_21 rfl ⟨by decide, i32 (by decide)⟩ ?_
  refine wp_newI (nx := 25) (mc := 4) (ms := 31) dX7_init_23 rfl ka_int (by decide) (by decide) (by omega) (by omega) ?_
  refine wp_heap (nw_Sn (m2 := 69) (by decide) (by decide) (by decide) (by decide) (by decide +kernel)) (nw_C (by decide +kernel)) ?_
  show Wp _ _ _ _ 25 [cA 65] [cA 68, cA 65] (Sn 69 p_68 sc) (apU u_32 C0z) _
  refine wp_putAF (kk := 3) (nx := 28) clsX7 dX7_init_25 rfl kF_X7_18 (by decide) (sn_b (by decide)) (sn_t (by decide)) rfl rfl rfl rfl (by decide) ?_
  show Wp _ _ _ _ 28 [cA 65] [] (Sn 69 p_69 sc) (apU u_32 C0z) _
  refine wp_aload_n (nx := 29) dX7_init_28 rfl rfl ?_
  refine wp_bipush (nx := 31) dX7_init_29 rfl ⟨by decide, i32 (by decide)⟩ ?_
  refine wp_newI (nx := 33) (mc := 3) (ms := 15) dX7_init_31 rfl ka_int (by decide) (by decide) (by omega) (by omega) ?_
  refine wp_heap (nw_Sn (m2 := 70) (by decide) (by decide) (by decide) (by decide) (by decide +kernel)) (nw_C (by decide +kernel)) ?_
  show Wp _ _ _ _ 33 [cA 65] [cA 69, cA 65] (Sn 70 p_69 sc) (apU u_32 C0z) _
  refine wp_putAF (kk := 4) (nx := 36) clsX7 dX7_init_33 rfl kF_X7_21 (by decide) (sn_b (by decide)) (sn_t (by decide)) rfl rfl rfl rfl (by decide) ?_
  show Wp _ _ _ _ 36 [cA 65] [] (Sn 70 p_70 sc) (apU u_32 C0z) _
  refine wp_aload_n (nx := 37) dX7_init_36 rfl rfl ?_
  refine wp_bipush (nx := 39) dX7_init_37 rfl ⟨by decide, i32 (by decide)⟩ ?_
  refine wp_newI (nx := 41) (mc := 2) (ms := 9) dX7_init_39 rfl ka_int (by decide) (by decide) (by omega) (by omega) ?_
  refine wp_heap (nw_Sn (m2 := 71) (by decide) (by decide) (by decide) (by decide) (by decide +kernel)) (nw_C (by decide +kernel)) ?_
  show Wp _ _ _ _ 41 [cA 65] [cA 70, cA 65] (Sn 71 p_70 sc) (apU u_32 C0z) _
  refine wp_putAF (kk := 5) (nx := 44) clsX7 dX7_init_41 rfl kF_X7_24 (by decide) (sn_b (by decide)) (sn_t (by decide)) rfl rfl rfl rfl (by decide) ?_
  show Wp _ _ _ _ 44 [cA 65] [] (Sn 71 p_71 sc) (apU u_32 C0z) _
  refine wp_aload_n (nx := 45) dX7_init_44 rfl rfl ?_
  refine wp_bipush (nx := 47) dX7_init_45 rfl ⟨by decide, i32 (by decide)⟩ ?_
  refine wp_newA (nx := 50) (ci := 9) (mc := 1) (ms := 3) dX7_init_47 rfl kC_X7_27 (Or.inr rfl) rfl (by decide) (by decide) (by omega) (by omega) ?_
  refine wp_heap (nw_Sn (m2 := 72) (by decide) (by decide) (by decide) (by decide) (by decide +kernel)) (nw_C (by decide +kernel)) ?_
  show Wp _ _ _ _ 50 [cA 65] [cA 71, cA 65] (Sn 72 p_71 sc) (apU u_32 C0z) _
  refine wp_putAF (kk := 7) (nx := 53) clsX7 dX7_init_50 rfl kF_X7_29 (by decide) (sn_b (by decide)) (sn_t (by decide)) rfl rfl rfl rfl (by decide) ?_
  show Wp _ _ _ _ 53 [cA 65] [] (Sn 72 p_72 sc) (apU u_32 C0z) _
  refine wp_aload_n (nx := 54) dX7_init_53 rfl rfl ?_
  refine wp_iconst (nx := 55) dX7_init_54 rfl (i32 (by decide)) ?_
  refine wp_putI (kk := 9) (nx := 58) clsX7 dX7_init_55 rfl kF_X7_33 (by decide) (sn_b (by decide)) (sn_t (by decide)) rfl rfl ⟨by decide, by decide⟩ ?_
  show Wp _ _ _ _ 58 [cA 65] [] (Sn 72 p_72 sc) (apU u_33 C0z) _
  refine wp_aload_n (nx := 59) dX7_init_58 rfl rfl ?_
  refine wp_iconst (nx := 60) dX7_init_59 rfl (i32 (by decide)) ?_
  refine wp_newI (nx := 62) (mc := 0) (ms := 0) dX7_init_60 rfl ka_int (by decide) (by decide) (by omega) (by omega) ?_
  refine wp_heap (nw_Sn (m2 := 73) (by decide) (by decide) (by decide) (by decide) (by decide +kernel)) (nw_C (by decide +kernel)) ?_
  show Wp _ _ _ _ 62 [cA 65] [cA 72, cA 65] (Sn 73 p_72 sc) (apU u_33 C0z) _
  refine wp_putAF (kk := 10) (nx := 65) clsX7 dX7_init_62 rfl kF_X7_37 (by decide) (sn_b (by decide)) (sn_t (by decide)) rfl rfl rfl rfl (by decide) ?_
  show Wp _ _ _ _ 65 [cA 65] [] (Sn 73 p_73 sc) (apU u_33 C0z) _
  refine wp_aload_n (nx := 66) dX7_init_65 rfl rfl ?_
  refine wp_getAe (kk := 3) (r := 68) (nx := 69) clsX7 dX7_init_66 rfl kF_X7_18 (by decide) (sn_b (by decide)) (sn_t (by decide)) rfl (sn_p (by decide +kernel)) ?_
  refine wp_iconst (nx := 70) dX7_init_69 rfl (i32 (by decide)) ?_
  refine wp_invS (nx := 73) (d := d + 1) (N := M_J7_fill_53178) (as := [cA 68, cI (-1)]) (st := []) (mc := 0) (ms := 0) (mc' := 0) (ms' := 0) dX7_init_70 rfl mok_J7_fill_53178 kM_X7_40 ks_J7_fill_53178 rfl rfl (leB rfl) (leB rfl) (by omega) (by omega) ?_
  refine Wp.deep (d := d + 1) (ct_17 ?_) (by omega) (Nat.le_refl _) (Nat.le_refl _)
  show Wp _ _ _ _ 73 [cA 65] [] (Sn 73 p_73 sc) (apU u_41 C0z) _
  refine wp_aload_n (nx := 74) dX7_init_73 rfl rfl ?_
  refine wp_getAe (kk := 10) (r := 72) (nx := 77) clsX7 dX7_init_74 rfl kF_X7_37 (by decide) (sn_b (by decide)) (sn_t (by decide)) rfl (sn_p (by decide +kernel)) ?_
  refine wp_iconst (nx := 78) dX7_init_77 rfl (i32 (by decide)) ?_
  refine wp_iconst (nx := 79) dX7_init_78 rfl (i32 (by decide)) ?_
  refine wp_iastore (nx := 80) dX7_init_79 rfl (sn_b (by decide)) (sn_i (by decide)) (sn_t (by decide)) ?_
  show Wp _ _ _ _ 80 [cA 65] [] (Sn 73 p_73 sc) (apU u_42 C0z) _
  exact wp_return dX7_init_80 rfl h
abbrev p_74 : List (Int × Int × Int) := (25, 0, 65) :: p_73
abbrev p_75 : List (Int × Int × Int) := (73, 1, 74) :: p_74
abbrev p_76 : List (Int × Int × Int) := (73, 2, 75) :: p_75
abbrev p_77 : List (Int × Int × Int) := (73, 3, 76) :: p_76
abbrev p_78 : List (Int × Int × Int) := (73, 4, 77) :: p_77
abbrev p_79 : List (Int × Int × Int) := (73, 5, 78) :: p_78
abbrev p_80 : List (Int × Int × Int) := (73, 7, 79) :: p_79
abbrev u_43 : List (Int × Int × Int) := (73, 9, (-1)) :: u_42
abbrev p_81 : List (Int × Int × Int) := (73, 10, 80) :: p_80
abbrev u_44 : List (Int × Int × Int) := (76, 0, (-1)) :: u_43
abbrev u_45 : List (Int × Int × Int) := (76, 1, (-1)) :: u_44
abbrev u_46 : List (Int × Int × Int) := (76, 2, (-1)) :: u_45
abbrev u_47 : List (Int × Int × Int) := (76, 3, (-1)) :: u_46
abbrev u_48 : List (Int × Int × Int) := (76, 4, (-1)) :: u_47
abbrev u_49 : List (Int × Int × Int) := (76, 5, (-1)) :: u_48
abbrev u_50 : List (Int × Int × Int) := (76, 6, (-1)) :: u_49
abbrev u_51 : List (Int × Int × Int) := (76, 7, (-1)) :: u_50
set_option maxRecDepth 20000 in
theorem ct_19 {d : Nat} {sc : Int × (Int → Int)} {Q : Int → MS → MC → Prop} (h : Q 0 (Sn 81 p_81 sc) (apU u_51 C0z)) : Wp (d + 1) 0 0 M_J7_fill_53178 0 [cA 76, cI (-1), cU, cU] [] (Sn 81 p_81 sc) (apU u_43 C0z) Q := by
  refine wp_iconst (nx := 1) dJ7_fill_53178_0 rfl (i32 (by decide)) ?_
  refine wp_istore_n (nx := 2) dJ7_fill_53178_1 rfl (by decide) ?_
  refine wp_ls (ls2 := [cA 76, cI (-1), cI 0, cU]) rfl ?_
  refine wp_aload_n (nx := 3) dJ7_fill_53178_2 rfl rfl ?_
  refine wp_alenE (n := 8) (nx := 4) dJ7_fill_53178_3 rfl (sn_b (by decide)) (sn_l (by decide)) (sn_t20 (by decide)) ?_
  refine wp_istore_n (nx := 5) dJ7_fill_53178_4 rfl (by decide) ?_
  refine wp_ls (ls2 := [cA 76, cI (-1), cI 0, cI 8]) rfl ?_
  refine wp_iload_n (nx := 6) dJ7_fill_53178_5 rfl rfl ?_
  refine wp_iload_n (nx := 7) dJ7_fill_53178_6 rfl rfl ?_
  refine wp_icmp_ge (nx := 10) (tg := 20) dJ7_fill_53178_7 rfl rfl (fun hc => absurd hc (by decide)) (fun hc => ?_)
  refine wp_aload_n (nx := 11) dJ7_fill_53178_10 rfl rfl ?_
  refine wp_iload_n (nx := 12) dJ7_fill_53178_11 rfl rfl ?_
  refine wp_iload_n (nx := 13) dJ7_fill_53178_12 rfl rfl ?_
  refine wp_iastore (nx := 14) dJ7_fill_53178_13 rfl (sn_b (by decide)) (sn_i (by decide)) (sn_t (by decide)) ?_
  show Wp _ _ _ _ 14 [cA 76, cI (-1), cI 0, cI 8] [] (Sn 81 p_81 sc) (apU u_44 C0z) _
  refine wp_iinc (nx := 17) dJ7_fill_53178_14 rfl rfl (by decide) ?_
  refine wp_ls (ls2 := [cA 76, cI (-1), cI 1, cI 8]) rfl ?_
  refine wp_goto (nx := 5) dJ7_fill_53178_17 rfl ?_
  refine wp_iload_n (nx := 6) dJ7_fill_53178_5 rfl rfl ?_
  refine wp_iload_n (nx := 7) dJ7_fill_53178_6 rfl rfl ?_
  refine wp_icmp_ge (nx := 10) (tg := 20) dJ7_fill_53178_7 rfl rfl (fun hc => absurd hc (by decide)) (fun hc => ?_)
  refine wp_aload_n (nx := 11) dJ7_fill_53178_10 rfl rfl ?_
  refine wp_iload_n (nx := 12) dJ7_fill_53178_11 rfl rfl ?_
  refine wp_iload_n (nx := 13) dJ7_fill_53178_12 rfl rfl ?_
  refine wp_iastore (nx := 14) dJ7_fill_53178_13 rfl (sn_b (by decide)) (sn_i (by decide)) (sn_t (by decide)) ?_
  show Wp _ _ _ _ 14 [cA 76, cI (-1), cI 1, cI 8] [] (Sn 81 p_81 sc) (apU u_45 C0z) _
  refine wp_iinc (nx := 17) dJ7_fill_53178_14 rfl rfl (by decide) ?_
  refine wp_ls (ls2 := [cA 76, cI (-1), cI 2, cI 8]) rfl ?_
  refine wp_goto (nx := 5) dJ7_fill_53178_17 rfl ?_
  refine wp_iload_n (nx := 6) dJ7_fill_53178_5 rfl rfl ?_
  refine wp_iload_n (nx := 7) dJ7_fill_53178_6 rfl rfl ?_
  refine wp_icmp_ge (nx := 10) (tg := 20) dJ7_fill_53178_7 rfl rfl (fun hc => absurd hc (by decide)) (fun hc => ?_)
  refine wp_aload_n (nx := 11) dJ7_fill_53178_10 rfl rfl ?_
  refine wp_iload_n (nx := 12) dJ7_fill_53178_11 rfl rfl ?_
  refine wp_iload_n (nx := 13) dJ7_fill_53178_12 rfl rfl ?_
  refine wp_iastore (nx := 14) dJ7_fill_53178_13 rfl (sn_b (by decide)) (sn_i (by decide)) (sn_t (by decide)) ?_
  show Wp _ _ _ _ 14 [cA 76, cI (-1), cI 2, cI 8] [] (Sn 81 p_81 sc) (apU u_46 C0z) _
  refine wp_iinc (nx := 17) dJ7_fill_53178_14 rfl rfl (by decide) ?_
  refine wp_ls (ls2 := [cA 76, cI (-1), cI 3, cI 8]) rfl ?_
  refine wp_goto (nx := 5) dJ7_fill_53178_17 rfl ?_
  refine wp_iload_n (nx := 6) dJ7_fill_53178_5 rfl rfl ?_
  refine wp_iload_n (nx := 7) dJ7_fill_53178_6 rfl rfl ?_
  refine wp_icmp_ge (nx := 10) (tg := 20) dJ7_fill_53178_7 rfl rfl (fun hc => absurd hc (by decide)) (fun hc => ?_)
  refine wp_aload_n (nx := 11) dJ7_fill_53178_10 rfl rfl ?_
  refine wp_iload_n (nx := 12) dJ7_fill_53178_11 rfl rfl ?_
  refine wp_iload_n (nx := 13) dJ7_fill_53178_12 rfl rfl ?_
  refine wp_iastore (nx := 14) dJ7_fill_53178_13 rfl (sn_b (by decide)) (sn_i (by decide)) (sn_t (by decide)) ?_
  show Wp _ _ _ _ 14 [cA 76, cI (-1), cI 3, cI 8] [] (Sn 81 p_81 sc) (apU u_47 C0z) _
  refine wp_iinc (nx := 17) dJ7_fill_53178_14 rfl rfl (by decide) ?_
  refine wp_ls (ls2 := [cA 76, cI (-1), cI 4, cI 8]) rfl ?_
  refine wp_goto (nx := 5) dJ7_fill_53178_17 rfl ?_
  refine wp_iload_n (nx := 6) dJ7_fill_53178_5 rfl rfl ?_
  refine wp_iload_n (nx := 7) dJ7_fill_53178_6 rfl rfl ?_
  refine wp_icmp_ge (nx := 10) (tg := 20) dJ7_fill_53178_7 rfl rfl (fun hc => absurd hc (by decide)) (fun hc => ?_)
  refine wp_aload_n (nx := 11) dJ7_fill_53178_10 rfl rfl ?_
  refine wp_iload_n (nx := 12) dJ7_fill_53178_11 rfl rfl ?_
  refine wp_iload_n (nx := 13) dJ7_fill_53178_12 rfl rfl ?_
  refine wp_iastore (nx := 14) dJ7_fill_53178_13 rfl (sn_b (by decide)) (sn_i (by decide)) (sn_t (by decide)) ?_
  show Wp _ _ _ _ 14 [cA 76, cI (-1), cI 4, cI 8] [] (Sn 81 p_81 sc) (apU u_48 C0z) _
  refine wp_iinc (nx := 17) dJ7_fill_53178_14 rfl rfl (by decide) ?_
  refine wp_ls (ls2 := [cA 76, cI (-1), cI 5, cI 8]) rfl ?_
  refine wp_goto (nx := 5) dJ7_fill_53178_17 rfl ?_
  refine wp_iload_n (nx := 6) dJ7_fill_53178_5 rfl rfl ?_
  refine wp_iload_n (nx := 7) dJ7_fill_53178_6 rfl rfl ?_
  refine wp_icmp_ge (nx := 10) (tg := 20) dJ7_fill_53178_7 rfl rfl (fun hc => absurd hc (by decide)) (fun hc => ?_)
  refine wp_aload_n (nx := 11) dJ7_fill_53178_10 rfl rfl ?_
  refine wp_iload_n (nx := 12) dJ7_fill_53178_11 rfl rfl ?_
  refine wp_iload_n (nx := 13) dJ7_fill_53178_12 rfl rfl ?_
  refine wp_iastore (nx := 14) dJ7_fill_53178_13 rfl (sn_b (by decide)) (sn_i (by decide)) (sn_t (by decide)) ?_
  show Wp _ _ _ _ 14 [cA 76, cI (-1), cI 5, cI 8] [] (Sn 81 p_81 sc) (apU u_49 C0z) _
  refine wp_iinc (nx := 17) dJ7_fill_53178_14 rfl rfl (by decide) ?_
  refine wp_ls (ls2 := [cA 76, cI (-1), cI 6, cI 8]) rfl ?_
  refine wp_goto (nx := 5) dJ7_fill_53178_17 rfl ?_
  refine wp_iload_n (nx := 6) dJ7_fill_53178_5 rfl rfl ?_
  refine wp_iload_n (nx := 7) dJ7_fill_53178_6 rfl rfl ?_
  refine wp_icmp_ge (nx := 10) (tg := 20) dJ7_fill_53178_7 rfl rfl (fun hc => absurd hc (by decide)) (fun hc => ?_)
  refine wp_aload_n (nx := 11) dJ7_fill_53178_10 rfl rfl ?_
  refine wp_iload_n (nx := 12) dJ7_fill_53178_11 rfl rfl ?_
  refine wp_iload_n (nx := 13) dJ7_fill_53178_12 rfl rfl ?_
  refine wp_iastore (nx := 14) dJ7_fill_53178_13 rfl (sn_b (by decide)) (sn_i (by decide)) (sn_t (by decide)) ?_
  show Wp _ _ _ _ 14 [cA 76, cI (-1), cI 6, cI 8] [] (Sn 81 p_81 sc) (apU u_50 C0z) _
  refine wp_iinc (nx := 17) dJ7_fill_53178_14 rfl rfl (by decide) ?_
  refine wp_ls (ls2 := [cA 76, cI (-1), cI 7, cI 8]) rfl ?_
  refine wp_goto (nx := 5) dJ7_fill_53178_17 rfl ?_
  refine wp_iload_n (nx := 6) dJ7_fill_53178_5 rfl rfl ?_
  refine wp_iload_n (nx := 7) dJ7_fill_53178_6 rfl rfl ?_
  refine wp_icmp_ge (nx := 10) (tg := 20) dJ7_fill_53178_7 rfl rfl (fun hc => absurd hc (by decide)) (fun hc => ?_)
  refine wp_aload_n (nx := 11) dJ7_fill_53178_10 rfl rfl ?_
  refine wp_iload_n (nx := 12) dJ7_fill_53178_11 rfl rfl ?_
  refine wp_iload_n (nx := 13) dJ7_fill_53178_12 rfl rfl ?_
  refine wp_iastore (nx := 14) dJ7_fill_53178_13 rfl (sn_b (by decide)) (sn_i (by decide)) (sn_t (by decide)) ?_
  show Wp _ _ _ _ 14 [cA 76, cI (-1), cI 7, cI 8] [] (Sn 81 p_81 sc) (apU u_51 C0z) _
  refine wp_iinc (nx := 17) dJ7_fill_53178_14 rfl rfl (by decide) ?_
  refine wp_ls (ls2 := [cA 76, cI (-1), cI 8, cI 8]) rfl ?_
  refine wp_goto (nx := 5) dJ7_fill_53178_17 rfl ?_
  refine wp_iload_n (nx := 6) dJ7_fill_53178_5 rfl rfl ?_
  refine wp_iload_n (nx := 7) dJ7_fill_53178_6 rfl rfl ?_
  refine wp_icmp_ge (nx := 10) (tg := 20) dJ7_fill_53178_7 rfl rfl (fun hc => ?_) (fun hc => absurd (by decide) hc)
  exact wp_return dJ7_fill_53178_20 rfl h
abbrev u_52 : List (Int × Int × Int) := (80, 1, 1) :: u_51
set_option maxRecDepth 20000 in
theorem ct_20 {d : Nat} {sc : Int × (Int → Int)} {Q : Int → MS → MC → Prop} (h : Q 0 (Sn 81 p_81 sc) (apU u_52 C0z)) : Wp (d + 2) 7 51 M_X7_init 0 [cA 73] [] (Sn 74 p_74 sc) (apU u_42 C0z) Q := by
  refine wp_aload_n (nx := 1) dX7_init_0 rfl rfl ?_
  refine wp_objInit (nx := 4) dX7_init_1 rfl kM_X7_3 ki_objectInit kc_objectInit (by decide) (leB rfl) ?_
  refine wp_aload_n (nx := 5) dX7_init_4 rfl rfl ?_
  refine wp_bipush (nx := 7) dX7_init_5 rfl ⟨by decide, i32 (by decide)⟩ ?_
  refine wp_newI (nx := 9) (mc := 6) (ms := 45) dX7_init_7 rfl ka_int (by decide) (by decide) (by omega) (by omega) ?_
  refine wp_heap (nw_Sn (m2 := 75) (by decide) (by decide) (by decide) (by decide) (by decide +kernel)) (nw_C (by decide +kernel)) ?_
  show Wp _ _ _ _ 9 [cA 73] [cA 74, cA 73] (Sn 75 p_74 sc) (apU u_42 C0z) _
  refine wp_putAF (kk := 1) (nx := 12) clsX7 dX7_init_9 rfl kF_X7_9 (by decide) (sn_b (by decide)) (sn_t (by decide)) rfl rfl rfl rfl (by decide) ?_
  show Wp _ _ _ _ 12 [cA 73] [] (Sn 75 p_75 sc) (apU u_42 C0z) _
  refine wp_aload_n (nx := 13) dX7_init_12 rfl rfl ?_
  refine wp_bipush (nx := 15) dX7_init_13 rfl ⟨by decide, i32 (by decide)⟩ ?_
  refine wp_newI (nx := 17) (mc := 5) (ms := 39) dX7_init_15 rfl ka_int (by decide) (by decide) (by omega) (by omega) ?_
  refine wp_heap (nw_Sn (m2 := 76) (by decide) (by decide) (by decide) (by decide) (by decide +kernel)) (nw_C (by decide +kernel)) ?_
  show Wp _ _ _ _ 17 [cA 73] [cA 75, cA 73] (Sn 76 p_75 sc) (apU u_42 C0z) _
  refine wp_putAF (kk := 2) (nx := 20) clsX7 dX7_init_17 rfl kF_X7_15 (by decide) (sn_b (by decide)) (sn_t (by decide)) rfl rfl rfl rfl (by decide) ?_
  show Wp _ _ _ _ 20 [cA 73] [] (Sn 76 p_76 sc) (apU u_42 C0z) _
  refine wp_aload_n (nx := 21) dX7_init_20 rfl rfl ?_
  refine wp_bipush (nx := 23) dX7_init_21 rfl ⟨by decide, i32 (by decide)⟩ ?_
  refine wp_newI (nx := 25) (mc := 4) (ms := 31) dX7_init_23 rfl ka_int (by decide) (by decide) (by omega) (by omega) ?_
  refine wp_heap (nw_Sn (m2 := 77) (by decide) (by decide) (by decide) (by decide) (by decide +kernel)) (nw_C (by decide +kernel)) ?_
  show Wp _ _ _ _ 25 [cA 73] [cA 76, cA 73] (Sn 77 p_76 sc) (apU u_42 C0z) _
  refine wp_putAF (kk := 3) (nx := 28) clsX7 dX7_init_25 rfl kF_X7_18 (by decide) (sn_b (by decide)) (sn_t (by decide)) rfl rfl rfl rfl (by decide) ?_
  show Wp _ _ _ _ 28 [cA 73] [] (Sn 77 p_77 sc) (apU u_42 C0z) _
  refine wp_aload_n (nx := 29) dX7_init_28 rfl rfl ?_
  refine wp_bipush (nx := 31) dX7_init_29 rfl ⟨by decide, i32 (by decide)⟩ ?_
  refine wp_newI (nx := 33) (mc := 3) (ms := 15) dX7_init_31 rfl ka_int (by decide) (by decide) (by omega) (by omega) ?_
  refine wp_heap (nw_Sn (m2 := 78) (by decide) (by decide) (by decide) (by decide) (by decide +kernel)) (nw_C (by decide +kernel)) ?_
  show Wp _ _ _ _ 33 [cA 73] [cA 77, cA 73] (Sn 78 p_77 sc) (apU u_42 C0z) _
  refine wp_putAF (kk := 4) (nx := 36) clsX7 dX7_init_33 rfl kF_X7_21 (by decide) (sn_b (by decide)) (sn_t (by decide)) rfl rfl rfl rfl (by decide) ?_
  show Wp _ _ _ _ 36 [cA 73] [] (Sn 78 p_78 sc) (apU u_42 C0z) _
  refine wp_aload_n (nx := 37) dX7_init_36 rfl rfl ?_
  refine wp_bipush (nx := 39) dX7_init_37 rfl ⟨by decide, i32 (by decide)⟩ ?_
  refine wp_newI (nx := 41) (mc := 2) (ms := 9) dX7_init_39 rfl ka_int (by decide) (by decide) (by omega) (by omega) ?_
  refine wp_heap (nw_Sn (m2 := 79) (by decide) (by decide) (by decide) (by decide) (by decide +kernel)) (nw_C (by decide +kernel)) ?_
  show Wp _ _ _ _ 41 [cA 73] [cA 78, cA 73] (Sn 79 p_78 sc) (apU u_42 C0z) _
  refine wp_putAF (kk := 5) (nx := 44) clsX7 dX7_init_41 rfl kF_X7_24 (by decide) (sn_b (by decide)) (sn_t (by decide)) rfl rfl rfl rfl (by decide) ?_
  show Wp _ _ _ _ 44 [cA 73] [] (Sn 79 p_79 sc) (apU u_42 C0z) _
  refine wp_aload_n (nx := 45) dX7_init_44 rfl rfl ?_
  refine wp_bipush (nx := 47) dX7_init_45 rfl ⟨by decide, i32 (by decide)⟩ ?_
  refine wp_newA (nx := 50) (ci := 9) (mc := 1) (ms := 3) dX7_init_47 rfl kC_X7_27 (Or.inr rfl) rfl (by decide) (by decide) (by omega) (by omega) ?_
  refine wp_heap (nw_Sn (m2 := 80) (by decide) (by decide) (by decide) (by decide) (by decide +kernel)) (nw_C (by decide +kernel)) ?_
  show Wp _ _ _ _ 50 [cA 73] [cA 79, cA 73] (Sn 80 p_79 sc) (apU u_42 C0z) _
  refine wp_putAF (kk := 7) (nx := 53) clsX7 dX7_init_50 rfl kF_X7_29 (by decide) (sn_b (by decide)) (sn_t (by decide)) rfl rfl rfl rfl (by decide) ?_
  show Wp _ _ _ _ 53 [cA 73] [] (Sn 80 p_80 sc) (apU u_42 C0z) _
  refine wp_aload_n (nx := 54) dX7_init_53 rfl rfl ?_
  refine wp_iconst (nx := 55) dX7_init_54 rfl (i32 (by decide)) ?_
  refine wp_putI (kk := 9) (nx := 58) clsX7 dX7_init_55 rfl kF_X7_33 (by decide) (sn_b (by decide)) (sn_t (by decide)) rfl rfl ⟨by decide, by decide⟩ ?_
  show Wp _ _ _ _ 58 [cA 73] [] (Sn 80 p_80 sc) (apU u_43 C0z) _
  refine wp_aload_n (nx := 59) dX7_init_58 rfl rfl ?_
  refine wp_iconst (nx := 60) dX7_init_59 rfl (i32 (by decide)) ?_
  refine wp_newI (nx := 62) (mc := 0) (ms := 0) dX7_init_60 rfl ka_int (by decide) (by decide) (by omega) (by omega) ?_
  refine wp_heap (nw_Sn (m2 := 81) (by decide) (by decide) (by decide) (by decide) (by decide +kernel)) (nw_C (by decide +kernel)) ?_
  show Wp _ _ _ _ 62 [cA 73] [cA 80, cA 73] (Sn 81 p_80 sc) (apU u_43 C0z) _
  refine wp_putAF (kk := 10) (nx := 65) clsX7 dX7_init_62 rfl kF_X7_37 (by decide) (sn_b (by decide)) (sn_t (by decide)) rfl rfl rfl rfl (by decide) ?_
  show Wp _ _ _ _ 65 [cA 73] [] (Sn 81 p_81 sc) (apU u_43 C0z) _
  refine wp_aload_n (nx := 66) dX7_init_65 rfl rfl ?_
  refine wp_getAe (kk := 3) (r := 76) (nx := 69) clsX7 dX7_init_66 rfl kF_X7_18 (by decide) (sn_b (by decide)) (sn_t (by decide)) rfl (sn_p (by decide +kernel)) ?_
  refine wp_iconst (nx := 70) dX7_init_69 rfl (i32 (by decide)) ?_
  refine wp_invS (nx := 73) (d := d + 1) (N := M_J7_fill_53178) (as := [cA 76, cI (-1)]) (st := []) (mc := 0) (ms := 0) (mc' := 0) (ms' := 0) dX7_init_70 rfl mok_J7_fill_53178 kM_X7_40 ks_J7_fill_53178 rfl rfl (leB rfl) (leB rfl) (by omega) (by omega) ?_
  refine Wp.deep (d := d + 1) (ct_19 ?_) (by omega) (Nat.le_refl _) (Nat.le_refl _)
  show Wp _ _ _ _ 73 [cA 73] [] (Sn 81 p_81 sc) (apU u_51 C0z) _
  refine wp_aload_n (nx := 74) dX7_init_73 rfl rfl ?_
  refine wp_getAe (kk := 10) (r := 80) (nx := 77) clsX7 dX7_init_74 rfl kF_X7_37 (by decide) (sn_b (by decide)) (sn_t (by decide)) rfl (sn_p (by decide +kernel)) ?_
  refine wp_iconst (nx := 78) dX7_init_77 rfl (i32 (by decide)) ?_
  refine wp_iconst (nx := 79) dX7_init_78 rfl (i32 (by decide)) ?_
  refine wp_iastore (nx := 80) dX7_init_79 rfl (sn_b (by decide)) (sn_i (by decide)) (sn_t (by decide)) ?_
  show Wp _ _ _ _ 80 [cA 73] [] (Sn 81 p_81 sc) (apU u_52 C0z) _
  exact wp_return dX7_init_80 rfl h
abbrev p_82 : List (Int × Int × Int) := (25, 1, 73) :: p_81
set_option maxRecDepth 20000 in
theorem ct_21 {d : Nat} {sc : Int × (Int → Int)} {Q : Int → MS → MC → Prop} (h : Q 0 (Sn 81 p_82 sc) (apU u_52 C0z)) : Wp (d + 4) 80 4349 M_X10_init 0 [cA 0, cU] [] (Sn 1 p_0 sc) (apU u_0 C0z) Q := by
  refine wp_aload_n (nx := 1) dX10_init_0 rfl rfl ?_
  refine wp_objInit (nx := 4) dX10_init_1 rfl kM_X10_3 ki_objectInit kc_objectInit (by decide) (leB rfl) ?_
  refine wp_aload_n (nx := 5) dX10_init_4 rfl rfl ?_
  refine wp_new (nx := 8) (mc := 79) (ms := 4338) clsX7 (hdfX (by decide +kernel)) dX10_init_5 rfl kC_X10_9 kin_X7 kz_X7 (by omega) (by omega) ?_
  refine wp_heap (nw_Sn (m2 := 2) (by decide) (by decide) (by decide) (by decide) (by decide +kernel)) (nw_C (by decide +kernel)) ?_
  show Wp _ _ _ _ 8 [cA 0, cU] [cA 1, cA 0] (Sn 2 p_0 sc) (apU u_0 C0z) _
  refine wp_dup (nx := 9) dX10_init_8 rfl (k1A _) ?_
  refine wp_invI (nx := 12) (d := d + 3) (N := M_X7_init) (as := []) (st := [cA 1, cA 0]) (a := 1) (mc := 7) (ms := 51) (mc' := 72) (ms' := 4287) dX10_init_9 rfl mok_X7_init kM_X10_11 ki_X7_init rfl rfl (sn_b (by decide)) rfl rfl (leB rfl) (leB rfl) (by omega) (by omega) ?_
  refine Wp.deep (d := d + 2) (ct_2 ?_) (by omega) (Nat.le_refl _) (Nat.le_refl _)
  show Wp _ _ _ _ 12 [cA 0, cU] [cA 1, cA 0] (Sn 9 p_7 sc) (apU u_10 C0z) _
  refine wp_putAF (kk := 0) (nx := 15) clsX10 dX10_init_12 rfl kF_X10_12 (by decide) (sn_b (by decide)) (sn_t (by decide)) rfl rfl rfl rfl (by decide) ?_
  show Wp _ _ _ _ 15 [cA 0, cU] [] (Sn 9 p_8 sc) (apU u_10 C0z) _
  refine wp_aload_n (nx := 16) dX10_init_15 rfl rfl ?_
  refine wp_new (nx := 19) (mc := 71) (ms := 4276) clsX7 (hdfX (by decide +kernel)) dX10_init_16 rfl kC_X10_9 kin_X7 kz_X7 (by omega) (by omega) ?_
  refine wp_heap (nw_Sn (m2 := 10) (by decide) (by decide) (by decide) (by decide) (by decide +kernel)) (nw_C (by decide +kernel)) ?_
  show Wp _ _ _ _ 19 [cA 0, cU] [cA 9, cA 0] (Sn 10 p_8 sc) (apU u_10 C0z) _
  refine wp_dup (nx := 20) dX10_init_19 rfl (k1A _) ?_
  refine wp_invI (nx := 23) (d := d + 3) (N := M_X7_init) (as := []) (st := [cA 9, cA 0]) (a := 9) (mc := 7) (ms := 51) (mc' := 64) (ms' := 4225) dX10_init_20 rfl mok_X7_init kM_X10_11 ki_X7_init rfl rfl (sn_b (by decide)) rfl rfl (leB rfl) (leB rfl) (by omega) (by omega) ?_
  refine Wp.deep (d := d + 2) (ct_4 ?_) (by omega) (Nat.le_refl _) (Nat.le_refl _)
  show Wp _ _ _ _ 23 [cA 0, cU] [cA 9, cA 0] (Sn 17 p_15 sc) (apU u_20 C0z) _
  refine wp_putAF (kk := 1) (nx := 26) clsX10 dX10_init_23 rfl kF_X10_16 (by decide) (sn_b (by decide)) (sn_t (by decide)) rfl rfl rfl rfl (by decide) ?_
  show Wp _ _ _ _ 26 [cA 0, cU] [] (Sn 17 p_16 sc) (apU u_20 C0z) _
  refine wp_aload_n (nx := 27) dX10_init_26 rfl rfl ?_
  refine wp_new (nx := 30) (mc := 63) (ms := 4214) clsX7 (hdfX (by decide +kernel)) dX10_init_27 rfl kC_X10_9 kin_X7 kz_X7 (by omega) (by omega) ?_
  refine wp_heap (nw_Sn (m2 := 18) (by decide) (by decide) (by decide) (by decide) (by decide +kernel)) (nw_C (by decide +kernel)) ?_
  show Wp _ _ _ _ 30 [cA 0, cU] [cA 17, cA 0] (Sn 18 p_16 sc) (apU u_20 C0z) _
  refine wp_dup (nx := 31) dX10_init_30 rfl (k1A _) ?_
  refine wp_invI (nx := 34) (d := d + 3) (N := M_X7_init) (as := []) (st := [cA 17, cA 0]) (a := 17) (mc := 7) (ms := 51) (mc' := 56) (ms' := 4163) dX10_init_31 rfl mok_X7_init kM_X10_11 ki_X7_init rfl rfl (sn_b (by decide)) rfl rfl (leB rfl) (leB rfl) (by omega) (by omega) ?_
  refine Wp.deep (d := d + 2) (ct_6 ?_) (by omega) (Nat.le_refl _) (Nat.le_refl _)
  show Wp _ _ _ _ 34 [cA 0, cU] [cA 17, cA 0] (Sn 25 p_23 sc) (apU u_30 C0z) _
  refine wp_putAF (kk := 2) (nx := 37) clsX10 dX10_init_34 rfl kF_X10_19 (by decide) (sn_b (by decide)) (sn_t (by decide)) rfl rfl rfl rfl (by decide) ?_
  show Wp _ _ _ _ 37 [cA 0, cU] [] (Sn 25 p_24 sc) (apU u_30 C0z) _
  refine wp_aload_n (nx := 38) dX10_init_37 rfl rfl ?_
  refine wp_iconst (nx := 39) dX10_init_38 rfl (i32 (by decide)) ?_
  refine wp_newA (nx := 42) (ci := 7) (mc := 55) (ms := 4161) dX10_init_39 rfl kC_X10_9 (Or.inl rfl) rfl (by decide) (by decide) (by omega) (by omega) ?_
  refine wp_heap (nw_Sn (m2 := 26) (by decide) (by decide) (by decide) (by decide) (by decide +kernel)) (nw_C (by decide +kernel)) ?_
  show Wp _ _ _ _ 42 [cA 0, cU] [cA 25, cA 0] (Sn 26 p_24 sc) (apU u_30 C0z) _
  refine wp_putAF (kk := 3) (nx := 45) clsX10 dX10_init_42 rfl kF_X10_22 (by decide) (sn_b (by decide)) (sn_t (by decide)) rfl rfl rfl rfl (by decide) ?_
  show Wp _ _ _ _ 45 [cA 0, cU] [] (Sn 26 p_25 sc) (apU u_30 C0z) _
  refine wp_aload_n (nx := 46) dX10_init_45 rfl rfl ?_
  refine wp_iconst (nx := 47) dX10_init_46 rfl (i32 (by decide)) ?_
  refine wp_newZ (nx := 49) (mc := 54) (ms := 4159) dX10_init_47 rfl ka_boolean (by decide) (by decide) (by omega) (by omega) ?_
  refine wp_heap (nw_Sn (m2 := 27) (by decide) (by decide) (by decide) (by decide) (by decide +kernel)) (nw_C (by decide +kernel)) ?_
  show Wp _ _ _ _ 49 [cA 0, cU] [cA 26, cA 0] (Sn 27 p_25 sc) (apU u_30 C0z) _
  refine wp_putAF (kk := 4) (nx := 52) clsX10 dX10_init_49 rfl kF_X10_26 (by decide) (sn_b (by decide)) (sn_t (by decide)) rfl rfl rfl rfl (by decide) ?_
  show Wp _ _ _ _ 52 [cA 0, cU] [] (Sn 27 p_26 sc) (apU u_30 C0z) _
  refine wp_aload_n (nx := 53) dX10_init_52 rfl rfl ?_
  refine wp_new (nx := 56) (mc := 53) (ms := 4157) clsX8 (hdfX (by decide +kernel)) dX10_init_53 rfl kC_X10_30 kin_X8 kz_X8 (by omega) (by omega) ?_
  refine wp_heap (nw_Sn (m2 := 28) (by decide) (by decide) (by decide) (by decide) (by decide +kernel)) (nw_C (by decide +kernel)) ?_
  show Wp _ _ _ _ 56 [cA 0, cU] [cA 27, cA 0] (Sn 28 p_26 sc) (apU u_30 C0z) _
  refine wp_dup (nx := 57) dX10_init_56 rfl (k1A _) ?_
  refine wp_invI (nx := 60) (d := d + 3) (N := M_X8_init) (as := []) (st := [cA 27, cA 0]) (a := 27) (mc := 1) (ms := 400) (mc' := 52) (ms' := 3757) dX10_init_57 rfl mok_X8_init kM_X10_32 ki_X8_init rfl rfl (sn_b (by decide)) rfl rfl (leB rfl) (leB rfl) (by omega) (by omega) ?_
  refine Wp.deep (d := d + 1) (ct_7 ?_) (by omega) (Nat.le_refl _) (Nat.le_refl _)
  show Wp _ _ _ _ 60 [cA 0, cU] [cA 27, cA 0] (Sn 29 p_27 sc) (apU u_30 C0z) _
  refine wp_putAF (kk := 5) (nx := 63) clsX10 dX10_init_60 rfl kF_X10_33 (by decide) (sn_b (by decide)) (sn_t (by decide)) rfl rfl rfl rfl (by decide) ?_
  show Wp _ _ _ _ 63 [cA 0, cU] [] (Sn 29 p_28 sc) (apU u_30 C0z) _
  refine wp_aload_n (nx := 64) dX10_init_63 rfl rfl ?_
  refine wp_new (nx := 67) (mc := 51) (ms := 3745) clsX4 (hdfX (by decide +kernel)) dX10_init_64 rfl kC_X10_37 kin_X4 kz_X4 (by omega) (by omega) ?_
  refine wp_heap (nw_Sn (m2 := 30) (by decide) (by decide) (by decide) (by decide) (by decide +kernel)) (nw_C (by decide +kernel)) ?_
  show Wp _ _ _ _ 67 [cA 0, cU] [cA 29, cA 0] (Sn 30 p_28 sc) (apU u_30 C0z) _
  refine wp_dup (nx := 68) dX10_init_67 rfl (k1A _) ?_
  refine wp_aload_n (nx := 69) dX10_init_68 rfl rfl ?_
  refine wp_getAe (kk := 5) (r := 27) (nx := 72) clsX10 dX10_init_69 rfl kF_X10_33 (by decide) (sn_b (by decide)) (sn_t (by decide)) rfl (sn_p (by decide +kernel)) ?_
  refine wp_invI (nx := 75) (d := d + 3) (N := M_X4_init) (as := [cA 27]) (st := [cA 29, cA 0]) (a := 29) (mc := 10) (ms := 1672) (mc' := 41) (ms' := 2073) dX10_init_72 rfl mok_X4_init kM_X10_39 ki_X4_init rfl rfl (sn_b (by decide)) rfl rfl (leB rfl) (leB rfl) (by omega) (by omega) ?_
  refine Wp.deep (d := d + 3) (ct_9 ?_) (by omega) (Nat.le_refl _) (Nat.le_refl _)
  show Wp _ _ _ _ 75 [cA 0, cU] [cA 29, cA 0] (Sn 40 p_39 sc) (apU u_31 C0z) _
  refine wp_putAF (kk := 6) (nx := 78) clsX10 dX10_init_75 rfl kF_X10_42 (by decide) (sn_b (by decide)) (sn_t (by decide)) rfl rfl rfl rfl (by decide) ?_
  show Wp _ _ _ _ 78 [cA 0, cU] [] (Sn 40 p_40 sc) (apU u_31 C0z) _
  refine wp_aload_n (nx := 79) dX10_init_78 rfl rfl ?_
  refine wp_new (nx := 82) (mc := 40) (ms := 2069) clsX2 (hdfX (by decide +kernel)) dX10_init_79 rfl kC_X10_46 kin_X2 kz_X2 (by omega) (by omega) ?_
  refine wp_heap (nw_Sn (m2 := 41) (by decide) (by decide) (by decide) (by decide) (by decide +kernel)) (nw_C (by decide +kernel)) ?_
  show Wp _ _ _ _ 82 [cA 0, cU] [cA 40, cA 0] (Sn 41 p_40 sc) (apU u_31 C0z) _
  refine wp_dup (nx := 83) dX10_init_82 rfl (k1A _) ?_
  refine wp_invI (nx := 86) (d := d + 3) (N := M_X2_init) (as := []) (st := [cA 40, cA 0]) (a := 40) (mc := 3) (ms := 59) (mc' := 37) (ms' := 2010) dX10_init_83 rfl mok_X2_init kM_X10_48 ki_X2_init rfl rfl (sn_b (by decide)) rfl rfl (leB rfl) (leB rfl) (by omega) (by omega) ?_
  refine Wp.deep (d := d + 2) (ct_11 ?_) (by omega) (Nat.le_refl _) (Nat.le_refl _)
  show Wp _ _ _ _ 86 [cA 0, cU] [cA 40, cA 0] (Sn 44 p_43 sc) (apU u_31 C0z) _
  refine wp_putAF (kk := 7) (nx := 89) clsX10 dX10_init_86 rfl kF_X10_49 (by decide) (sn_b (by decide)) (sn_t (by decide)) rfl rfl rfl rfl (by decide) ?_
  show Wp _ _ _ _ 89 [cA 0, cU] [] (Sn 44 p_44 sc) (apU u_31 C0z) _
  refine wp_aload_n (nx := 90) dX10_init_89 rfl rfl ?_
  refine wp_new (nx := 93) (mc := 36) (ms := 2000) clsX3 (hdfX (by decide +kernel)) dX10_init_90 rfl kC_X10_53 kin_X3 kz_X3 (by omega) (by omega) ?_
  refine wp_heap (nw_Sn (m2 := 45) (by decide) (by decide) (by decide) (by decide) (by decide +kernel)) (nw_C (by decide +kernel)) ?_
  show Wp _ _ _ _ 93 [cA 0, cU] [cA 44, cA 0] (Sn 45 p_44 sc) (apU u_31 C0z) _
  refine wp_dup (nx := 94) dX10_init_93 rfl (k1A _) ?_
  refine wp_aload_n (nx := 95) dX10_init_94 rfl rfl ?_
  refine wp_getAe (kk := 7) (r := 40) (nx := 98) clsX10 dX10_init_95 rfl kF_X10_49 (by decide) (sn_b (by decide)) (sn_t (by decide)) rfl (sn_p (by decide +kernel)) ?_
  refine wp_invI (nx := 101) (d := d + 3) (N := M_X3_init) (as := [cA 40]) (st := [cA 44, cA 0]) (a := 44) (mc := 7) (ms := 892) (mc' := 29) (ms' := 1108) dX10_init_98 rfl mok_X3_init kM_X10_55 ki_X3_init rfl rfl (sn_b (by decide)) rfl rfl (leB rfl) (leB rfl) (by omega) (by omega) ?_
  refine Wp.deep (d := d + 1) (ct_12 ?_) (by omega) (Nat.le_refl _) (Nat.le_refl _)
  show Wp _ _ _ _ 101 [cA 0, cU] [cA 44, cA 0] (Sn 52 p_52 sc) (apU u_31 C0z) _
  refine wp_putAF (kk := 8) (nx := 104) clsX10 dX10_init_101 rfl kF_X10_58 (by decide) (sn_b (by decide)) (sn_t (by decide)) rfl rfl rfl rfl (by decide) ?_
  show Wp _ _ _ _ 104 [cA 0, cU] [] (Sn 52 p_53 sc) (apU u_31 C0z) _
  refine wp_aload_n (nx := 105) dX10_init_104 rfl rfl ?_
  refine wp_new (nx := 108) (mc := 28) (ms := 1106) clsX1 (hdfX (by decide +kernel)) dX10_init_105 rfl kC_X10_62 kin_X1 kz_X1 (by omega) (by omega) ?_
  refine wp_heap (nw_Sn (m2 := 53) (by decide) (by decide) (by decide) (by decide) (by decide +kernel)) (nw_C (by decide +kernel)) ?_
  show Wp _ _ _ _ 108 [cA 0, cU] [cA 52, cA 0] (Sn 53 p_53 sc) (apU u_31 C0z) _
  refine wp_dup (nx := 109) dX10_init_108 rfl (k1A _) ?_
  refine wp_invI (nx := 112) (d := d + 3) (N := M_X1_init) (as := []) (st := [cA 52, cA 0]) (a := 52) (mc := 2) (ms := 100) (mc' := 26) (ms' := 1006) dX10_init_109 rfl mok_X1_init kM_X10_64 ki_X1_init rfl rfl (sn_b (by decide)) rfl rfl (leB rfl) (leB rfl) (by omega) (by omega) ?_
  refine Wp.deep (d := d + 1) (ct_13 ?_) (by omega) (Nat.le_refl _) (Nat.le_refl _)
  show Wp _ _ _ _ 112 [cA 0, cU] [cA 52, cA 0] (Sn 55 p_55 sc) (apU u_31 C0z) _
  refine wp_putAF (kk := 9) (nx := 115) clsX10 dX10_init_112 rfl kF_X10_65 (by decide) (sn_b (by decide)) (sn_t (by decide)) rfl rfl rfl rfl (by decide) ?_
  show Wp _ _ _ _ 115 [cA 0, cU] [] (Sn 55 p_56 sc) (apU u_31 C0z) _
  refine wp_aload_n (nx := 116) dX10_init_115 rfl rfl ?_
  refine wp_new (nx := 119) (mc := 25) (ms := 1002) clsX0 (hdfX (by decide +kernel)) dX10_init_116 rfl kC_X10_69 kin_X0 kz_X0 (by omega) (by omega) ?_
  refine wp_heap (nw_Sn (m2 := 56) (by decide) (by decide) (by decide) (by decide) (by decide +kernel)) (nw_C (by decide +kernel)) ?_
  show Wp _ _ _ _ 119 [cA 0, cU] [cA 55, cA 0] (Sn 56 p_56 sc) (apU u_31 C0z) _
  refine wp_dup (nx := 120) dX10_init_119 rfl (k1A _) ?_
  refine wp_invI (nx := 123) (d := d + 3) (N := M_X0_init) (as := []) (st := [cA 55, cA 0]) (a := 55) (mc := 3) (ms := 768) (mc' := 22) (ms' := 234) dX10_init_120 rfl mok_X0_init kM_X10_71 ki_X0_init rfl rfl (sn_b (by decide)) rfl rfl (leB rfl) (leB rfl) (by omega) (by omega) ?_
  refine Wp.deep (d := d + 1) (ct_14 ?_) (by omega) (Nat.le_refl _) (Nat.le_refl _)
  show Wp _ _ _ _ 123 [cA 0, cU] [cA 55, cA 0] (Sn 59 p_59 sc) (apU u_31 C0z) _
  refine wp_putAF (kk := 10) (nx := 126) clsX10 dX10_init_123 rfl kF_X10_72 (by decide) (sn_b (by decide)) (sn_t (by decide)) rfl rfl rfl rfl (by decide) ?_
  show Wp _ _ _ _ 126 [cA 0, cU] [] (Sn 59 p_60 sc) (apU u_31 C0z) _
  refine wp_aload_n (nx := 127) dX10_init_126 rfl rfl ?_
  refine wp_new (nx := 130) (mc := 21) (ms := 229) clsX6 (hdfX (by decide +kernel)) dX10_init_127 rfl kC_X10_76 kin_X6 kz_X6 (by omega) (by omega) ?_
  refine wp_heap (nw_Sn (m2 := 60) (by decide) (by decide) (by decide) (by decide) (by decide +kernel)) (nw_C (by decide +kernel)) ?_
  show Wp _ _ _ _ 130 [cA 0, cU] [cA 59, cA 0] (Sn 60 p_60 sc) (apU u_31 C0z) _
  refine wp_dup (nx := 131) dX10_init_130 rfl (k1A _) ?_
  refine wp_invI (nx := 134) (d := d + 3) (N := M_X6_init) (as := []) (st := [cA 59, cA 0]) (a := 59) (mc := 3) (ms := 80) (mc' := 18) (ms' := 149) dX10_init_131 rfl mok_X6_init kM_X10_78 ki_X6_init rfl rfl (sn_b (by decide)) rfl rfl (leB rfl) (leB rfl) (by omega) (by omega) ?_
  refine Wp.deep (d := d + 2) (ct_16 ?_) (by omega) (Nat.le_refl _) (Nat.le_refl _)
  show Wp _ _ _ _ 134 [cA 0, cU] [cA 59, cA 0] (Sn 63 p_63 sc) (apU u_32 C0z) _
  refine wp_putAF (kk := 11) (nx := 137) clsX10 dX10_init_134 rfl kF_X10_79 (by decide) (sn_b (by decide)) (sn_t (by decide)) rfl rfl rfl rfl (by decide) ?_
  show Wp _ _ _ _ 137 [cA 0, cU] [] (Sn 63 p_64 sc) (apU u_32 C0z) _
  refine wp_aload_n (nx := 138) dX10_init_137 rfl rfl ?_
  refine wp_bipush (nx := 140) dX10_init_138 rfl ⟨by decide, i32 (by decide)⟩ ?_
  refine wp_newJ (nx := 142) (mc := 17) (ms := 129) dX10_init_140 rfl ka_long (by decide) (by decide) (by omega) (by omega) ?_
  refine wp_heap (nw_Sn (m2 := 64) (by decide) (by decide) (by decide) (by decide) (by decide +kernel)) (nw_C (by decide +kernel)) ?_
  show Wp _ _ _ _ 142 [cA 0, cU] [cA 63, cA 0] (Sn 64 p_64 sc) (apU u_32 C0z) _
  refine wp_putAF (kk := 12) (nx := 145) clsX10 dX10_init_142 rfl kF_X10_83 (by decide) (sn_b (by decide)) (sn_t (by decide)) rfl rfl rfl rfl (by decide) ?_
  show Wp _ _ _ _ 145 [cA 0, cU] [] (Sn 64 p_65 sc) (apU u_32 C0z) _
  refine wp_aload_n (nx := 146) dX10_init_145 rfl rfl ?_
  refine wp_iconst (nx := 147) dX10_init_146 rfl (i32 (by decide)) ?_
  refine wp_newI (nx := 149) (mc := 16) (ms := 124) dX10_init_147 rfl ka_int (by decide) (by decide) (by omega) (by omega) ?_
  refine wp_heap (nw_Sn (m2 := 65) (by decide) (by decide) (by decide) (by decide) (by decide +kernel)) (nw_C (by decide +kernel)) ?_
  show Wp _ _ _ _ 149 [cA 0, cU] [cA 64, cA 0] (Sn 65 p_65 sc) (apU u_32 C0z) _
  refine wp_putAF (kk := 13) (nx := 152) clsX10 dX10_init_149 rfl kF_X10_87 (by decide) (sn_b (by decide)) (sn_t (by decide)) rfl rfl rfl rfl (by decide) ?_
  show Wp _ _ _ _ 152 [cA 0, cU] [] (Sn 65 p_66 sc) (apU u_32 C0z) _
  refine wp_iconst (nx := 153) dX10_init_152 rfl (i32 (by decide)) ?_
  refine wp_istore_n (nx := 154) dX10_init_153 rfl (by decide) ?_
  refine wp_ls (ls2 := [cA 0, cI 0]) rfl ?_
  refine wp_iload_n (nx := 155) dX10_init_154 rfl rfl ?_
  refine wp_iconst (nx := 156) dX10_init_155 rfl (i32 (by decide)) ?_
  refine wp_icmp_ge (nx := 159) (tg := 178) dX10_init_156 rfl rfl (fun hc => absurd hc (by decide)) (fun hc => ?_)
  refine wp_aload_n (nx := 160) dX10_init_159 rfl rfl ?_
  refine wp_getAe (kk := 3) (r := 25) (nx := 163) clsX10 dX10_init_160 rfl kF_X10_22 (by decide) (sn_b (by decide)) (sn_t (by decide)) rfl (sn_p (by decide +kernel)) ?_
  refine wp_iload_n (nx := 164) dX10_init_163 rfl rfl ?_
  refine wp_new (nx := 167) (mc := 15) (ms := 113) clsX7 (hdfX (by decide +kernel)) dX10_init_164 rfl kC_X10_9 kin_X7 kz_X7 (by omega) (by omega) ?_
  refine wp_heap (nw_Sn (m2 := 66) (by decide) (by decide) (by decide) (by decide) (by decide +kernel)) (nw_C (by decide +kernel)) ?_
  show Wp _ _ _ _ 167 [cA 0, cI 0] [cA 65, cI 0, cA 25] (Sn 66 p_66 sc) (apU u_32 C0z) _
  refine wp_dup (nx := 168) dX10_init_167 rfl (k1A _) ?_
  refine wp_invI (nx := 171) (d := d + 3) (N := M_X7_init) (as := []) (st := [cA 65, cI 0, cA 25]) (a := 65) (mc := 7) (ms := 51) (mc' := 8) (ms' := 62) dX10_init_168 rfl mok_X7_init kM_X10_11 ki_X7_init rfl rfl (sn_b (by decide)) rfl rfl (leB rfl) (leB rfl) (by omega) (by omega) ?_
  refine Wp.deep (d := d + 2) (ct_18 ?_) (by omega) (Nat.le_refl _) (Nat.le_refl _)
  show Wp _ _ _ _ 171 [cA 0, cI 0] [cA 65, cI 0, cA 25] (Sn 73 p_73 sc) (apU u_42 C0z) _
  refine wp_aastore (nx := 172) clsX7 dX10_init_171 rfl (sn_b (by decide)) (sn_i (by decide)) (t := 31) (sn_t (by decide)) rfl rfl (sn_b (by decide)) (sn_t (by decide)) ?_
  show Wp _ _ _ _ 172 [cA 0, cI 0] [] (Sn 73 p_74 sc) (apU u_42 C0z) _
  refine wp_iinc (nx := 175) dX10_init_172 rfl rfl (by decide) ?_
  refine wp_ls (ls2 := [cA 0, cI 1]) rfl ?_
  refine wp_goto (nx := 154) dX10_init_175 rfl ?_
  refine wp_iload_n (nx := 155) dX10_init_154 rfl rfl ?_
  refine wp_iconst (nx := 156) dX10_init_155 rfl (i32 (by decide)) ?_
  refine wp_icmp_ge (nx := 159) (tg := 178) dX10_init_156 rfl rfl (fun hc => absurd hc (by decide)) (fun hc => ?_)
  refine wp_aload_n (nx := 160) dX10_init_159 rfl rfl ?_
  refine wp_getAe (kk := 3) (r := 25) (nx := 163) clsX10 dX10_init_160 rfl kF_X10_22 (by decide) (sn_b (by decide)) (sn_t (by decide)) rfl (sn_p (by decide +kernel)) ?_
  refine wp_iload_n (nx := 164) dX10_init_163 rfl rfl ?_
  refine wp_new (nx := 167) (mc := 7) (ms := 51) clsX7 (hdfX (by decide +kernel)) dX10_init_164 rfl kC_X10_9 kin_X7 kz_X7 (by omega) (by omega) ?_
  refine wp_heap (nw_Sn (m2 := 74) (by decide) (by decide) (by decide) (by decide) (by decide +kernel)) (nw_C (by decide +kernel)) ?_
  show Wp _ _ _ _ 167 [cA 0, cI 1] [cA 73, cI 1, cA 25] (Sn 74 p_74 sc) (apU u_42 C0z) _
  refine wp_dup (nx := 168) dX10_init_167 rfl (k1A _) ?_
  refine wp_invI (nx := 171) (d := d + 3) (N := M_X7_init) (as := []) (st := [cA 73, cI 1, cA 25]) (a := 73) (mc := 7) (ms := 51) (mc' := 0) (ms' := 0) dX10_init_168 rfl mok_X7_init kM_X10_11 ki_X7_init rfl rfl (sn_b (by decide)) rfl rfl (leB rfl) (leB rfl) (by omega) (by omega) ?_
  refine Wp.deep (d := d + 2) (ct_20 ?_) (by omega) (Nat.le_refl _) (Nat.le_refl _)
  show Wp _ _ _ _ 171 [cA 0, cI 1] [cA 73, cI 1, cA 25] (Sn 81 p_81 sc) (apU u_52 C0z) _
  refine wp_aastore (nx := 172) clsX7 dX10_init_171 rfl (sn_b (by decide)) (sn_i (by decide)) (t := 31) (sn_t (by decide)) rfl rfl (sn_b (by decide)) (sn_t (by decide)) ?_
  show Wp _ _ _ _ 172 [cA 0, cI 1] [] (Sn 81 p_82 sc) (apU u_52 C0z) _
  refine wp_iinc (nx := 175) dX10_init_172 rfl rfl (by decide) ?_
  refine wp_ls (ls2 := [cA 0, cI 2]) rfl ?_
  refine wp_goto (nx := 154) dX10_init_175 rfl ?_
  refine wp_iload_n (nx := 155) dX10_init_154 rfl rfl ?_
  refine wp_iconst (nx := 156) dX10_init_155 rfl (i32 (by decide)) ?_
  refine wp_icmp_ge (nx := 159) (tg := 178) dX10_init_156 rfl rfl (fun hc => ?_) (fun hc => absurd (by decide) hc)
  exact wp_return dX10_init_178 rfl h
abbrev p_83 : List (Int × Int × Int) := (81, 1, 82) :: p_82
abbrev p_84 : List (Int × Int × Int) := (81, 2, 83) :: p_83
abbrev p_85 : List (Int × Int × Int) := (81, 3, 84) :: p_84
abbrev p_86 : List (Int × Int × Int) := (81, 4, 85) :: p_85
abbrev p_87 : List (Int × Int × Int) := (81, 5, 86) :: p_86
abbrev u_53 : List (Int × Int × Int) := (87, 0, 109) :: u_52
abbrev u_54 : List (Int × Int × Int) := (87, 1, 105) :: u_53
abbrev u_55 : List (Int × Int × Int) := (87, 2, 110) :: u_54
abbrev u_56 : List (Int × Int × Int) := (87, 3, 100) :: u_55
abbrev u_57 : List (Int × Int × Int) := (87, 4, 115) :: u_56
abbrev u_58 : List (Int × Int × Int) := (87, 5, 32) :: u_57
abbrev u_59 : List (Int × Int × Int) := (87, 6, 108) :: u_58
abbrev u_60 : List (Int × Int × Int) := (87, 7, 101) :: u_59
abbrev u_61 : List (Int × Int × Int) := (87, 8, 110) :: u_60
abbrev u_62 : List (Int × Int × Int) := (87, 9, 100) :: u_61
abbrev u_63 : List (Int × Int × Int) := (87, 10, 115) :: u_62
abbrev u_64 : List (Int × Int × Int) := (87, 11, 32) :: u_63
abbrev u_65 : List (Int × Int × Int) := (87, 12, 98) :: u_64
abbrev u_66 : List (Int × Int × Int) := (87, 13, 97) :: u_65
abbrev u_67 : List (Int × Int × Int) := (87, 14, 114) :: u_66
abbrev u_68 : List (Int × Int × Int) := (87, 15, 115) :: u_67
abbrev u_69 : List (Int × Int × Int) := (87, 16, 32) :: u_68
abbrev u_70 : List (Int × Int × Int) := (87, 17, 105) :: u_69
abbrev u_71 : List (Int × Int × Int) := (87, 18, 102) :: u_70
abbrev u_72 : List (Int × Int × Int) := (87, 19, 32) :: u_71
abbrev u_73 : List (Int × Int × Int) := (87, 20, 111) :: u_72
abbrev u_74 : List (Int × Int × Int) := (87, 21, 114) :: u_73
abbrev u_75 : List (Int × Int × Int) := (87, 22, 32) :: u_74
abbrev u_76 : List (Int × Int × Int) := (87, 23, 97) :: u_75
abbrev u_77 : List (Int × Int × Int) := (87, 24, 110) :: u_76
abbrev u_78 : List (Int × Int × Int) := (87, 25, 100) :: u_77
abbrev u_79 : List (Int × Int × Int) := (87, 26, 32) :: u_78
abbrev u_80 : List (Int × Int × Int) := (87, 27, 110) :: u_79
abbrev u_81 : List (Int × Int × Int) := (87, 28, 111) :: u_80
abbrev u_82 : List (Int × Int × Int) := (87, 29, 116) :: u_81
abbrev u_83 : List (Int × Int × Int) := (87, 30, 32) :: u_82
abbrev u_84 : List (Int × Int × Int) := (87, 31, 104) :: u_83
abbrev u_85 : List (Int × Int × Int) := (87, 32, 111) :: u_84
abbrev u_86 : List (Int × Int × Int) := (87, 33, 117) :: u_85
abbrev u_87 : List (Int × Int × Int) := (87, 34, 115) :: u_86
abbrev u_88 : List (Int × Int × Int) := (87, 35, 101) :: u_87
abbrev u_89 : List (Int × Int × Int) := (87, 36, 32) :: u_88
abbrev u_90 : List (Int × Int × Int) := (87, 37, 107) :: u_89
abbrev u_91 : List (Int × Int × Int) := (87, 38, 101) :: u_90
abbrev u_92 : List (Int × Int × Int) := (87, 39, 121) :: u_91
abbrev u_93 : List (Int × Int × Int) := (87, 40, 32) :: u_92
abbrev u_94 : List (Int × Int × Int) := (87, 41, 98) :: u_93
abbrev u_95 : List (Int × Int × Int) := (87, 42, 101) :: u_94
abbrev u_96 : List (Int × Int × Int) := (87, 43, 97) :: u_95
abbrev u_97 : List (Int × Int × Int) := (87, 44, 116) :: u_96
abbrev u_98 : List (Int × Int × Int) := (87, 45, 32) :: u_97
abbrev u_99 : List (Int × Int × Int) := (87, 46, 104) :: u_98
abbrev u_100 : List (Int × Int × Int) := (87, 47, 97) :: u_99
abbrev u_101 : List (Int × Int × Int) := (87, 48, 110) :: u_100
abbrev u_102 : List (Int × Int × Int) := (87, 49, 100) :: u_101
abbrev u_103 : List (Int × Int × Int) := (87, 50, 115) :: u_102
abbrev u_104 : List (Int × Int × Int) := (87, 51, 32) :: u_103
abbrev u_105 : List (Int × Int × Int) := (87, 52, 114) :: u_104
abbrev u_106 : List (Int × Int × Int) := (87, 53, 101) :: u_105
abbrev u_107 : List (Int × Int × Int) := (87, 54, 97) :: u_106
abbrev u_108 : List (Int × Int × Int) := (87, 55, 99) :: u_107
abbrev u_109 : List (Int × Int × Int) := (87, 56, 104) :: u_108
abbrev u_110 : List (Int × Int × Int) := (87, 57, 32) :: u_109
abbrev u_111 : List (Int × Int × Int) := (87, 58, 109) :: u_110
abbrev u_112 : List (Int × Int × Int) := (87, 59, 111) :: u_111
abbrev u_113 : List (Int × Int × Int) := (87, 60, 111) :: u_112
abbrev u_114 : List (Int × Int × Int) := (87, 61, 100) :: u_113
abbrev u_115 : List (Int × Int × Int) := (87, 62, 32) :: u_114
abbrev u_116 : List (Int × Int × Int) := (87, 63, 111) :: u_115
abbrev u_117 : List (Int × Int × Int) := (87, 64, 119) :: u_116
abbrev u_118 : List (Int × Int × Int) := (87, 65, 110) :: u_117
abbrev u_119 : List (Int × Int × Int) := (87, 66, 101) :: u_118
abbrev u_120 : List (Int × Int × Int) := (87, 67, 114) :: u_119
abbrev u_121 : List (Int × Int × Int) := (87, 68, 32) :: u_120
abbrev u_122 : List (Int × Int × Int) := (87, 69, 100) :: u_121
abbrev u_123 : List (Int × Int × Int) := (87, 70, 97) :: u_122
abbrev u_124 : List (Int × Int × Int) := (87, 71, 121) :: u_123
abbrev u_125 : List (Int × Int × Int) := (87, 72, 32) :: u_124
abbrev u_126 : List (Int × Int × Int) := (87, 73, 100) :: u_125
abbrev u_127 : List (Int × Int × Int) := (87, 74, 111) :: u_126
abbrev u_128 : List (Int × Int × Int) := (87, 75, 110) :: u_127
abbrev u_129 : List (Int × Int × Int) := (87, 76, 101) :: u_128
abbrev u_130 : List (Int × Int × Int) := (87, 77, 32) :: u_129
abbrev u_131 : List (Int × Int × Int) := (87, 78, 108) :: u_130
abbrev u_132 : List (Int × Int × Int) := (87, 79, 97) :: u_131
abbrev u_133 : List (Int × Int × Int) := (87, 80, 116) :: u_132
abbrev u_134 : List (Int × Int × Int) := (87, 81, 101) :: u_133
abbrev u_135 : List (Int × Int × Int) := (87, 82, 115) :: u_134
abbrev u_136 : List (Int × Int × Int) := (87, 83, 116) :: u_135
abbrev u_137 : List (Int × Int × Int) := (87, 84, 32) :: u_136
abbrev u_138 : List (Int × Int × Int) := (87, 85, 100) :: u_137
abbrev u_139 : List (Int × Int × Int) := (87, 86, 114) :: u_138
abbrev u_140 : List (Int × Int × Int) := (87, 87, 105) :: u_139
abbrev u_141 : List (Int × Int × Int) := (87, 88, 108) :: u_140
abbrev u_142 : List (Int × Int × Int) := (87, 89, 108) :: u_141
abbrev u_143 : List (Int × Int × Int) := (87, 90, 32) :: u_142
abbrev u_144 : List (Int × Int × Int) := (87, 91, 110) :: u_143
abbrev u_145 : List (Int × Int × Int) := (87, 92, 111) :: u_144
abbrev u_146 : List (Int × Int × Int) := (87, 93, 116) :: u_145
abbrev u_147 : List (Int × Int × Int) := (87, 94, 101) :: u_146
abbrev u_148 : List (Int × Int × Int) := (87, 95, 115) :: u_147
abbrev u_149 : List (Int × Int × Int) := (87, 96, 32) :: u_148
abbrev u_150 : List (Int × Int × Int) := (87, 97, 109) :: u_149
abbrev u_151 : List (Int × Int × Int) := (87, 98, 117) :: u_150
abbrev u_152 : List (Int × Int × Int) := (87, 99, 115) :: u_151
abbrev u_153 : List (Int × Int × Int) := (87, 100, 105) :: u_152
abbrev u_154 : List (Int × Int × Int) := (87, 101, 99) :: u_153
abbrev u_155 : List (Int × Int × Int) := (87, 102, 32) :: u_154
abbrev u_156 : List (Int × Int × Int) := (87, 103, 110) :: u_155
abbrev u_157 : List (Int × Int × Int) := (87, 104, 111) :: u_156
abbrev u_158 : List (Int × Int × Int) := (87, 105, 116) :: u_157
abbrev u_159 : List (Int × Int × Int) := (87, 106, 101) :: u_158
abbrev u_160 : List (Int × Int × Int) := (87, 107, 32) :: u_159
abbrev u_161 : List (Int × Int × Int) := (87, 108, 97) :: u_160
abbrev u_162 : List (Int × Int × Int) := (87, 109, 116) :: u_161
abbrev u_163 : List (Int × Int × Int) := (87, 110, 32) :: u_162
abbrev u_164 : List (Int × Int × Int) := (87, 111, 103) :: u_163
abbrev u_165 : List (Int × Int × Int) := (87, 112, 105) :: u_164
abbrev u_166 : List (Int × Int × Int) := (87, 113, 118) :: u_165
abbrev u_167 : List (Int × Int × Int) := (87, 114, 101) :: u_166
abbrev u_168 : List (Int × Int × Int) := (87, 115, 32) :: u_167
abbrev u_169 : List (Int × Int × Int) := (87, 116, 116) :: u_168
abbrev u_170 : List (Int × Int × Int) := (87, 117, 111) :: u_169
abbrev u_171 : List (Int × Int × Int) := (87, 118, 32) :: u_170
abbrev u_172 : List (Int × Int × Int) := (87, 119, 115) :: u_171
abbrev u_173 : List (Int × Int × Int) := (87, 120, 104) :: u_172
abbrev u_174 : List (Int × Int × Int) := (87, 121, 105) :: u_173
abbrev u_175 : List (Int × Int × Int) := (87, 122, 102) :: u_174
abbrev u_176 : List (Int × Int × Int) := (87, 123, 116) :: u_175
abbrev u_177 : List (Int × Int × Int) := (87, 124, 32) :: u_176
abbrev u_178 : List (Int × Int × Int) := (87, 125, 112) :: u_177
abbrev u_179 : List (Int × Int × Int) := (87, 126, 97) :: u_178
abbrev u_180 : List (Int × Int × Int) := (87, 127, 115) :: u_179
abbrev u_181 : List (Int × Int × Int) := (87, 128, 115) :: u_180
abbrev u_182 : List (Int × Int × Int) := (87, 129, 32) :: u_181
abbrev u_183 : List (Int × Int × Int) := (87, 130, 116) :: u_182
abbrev u_184 : List (Int × Int × Int) := (87, 131, 105) :: u_183
abbrev u_185 : List (Int × Int × Int) := (87, 132, 109) :: u_184
abbrev u_186 : List (Int × Int × Int) := (87, 133, 101) :: u_185
abbrev u_187 : List (Int × Int × Int) := (87, 134, 115) :: u_186
abbrev u_188 : List (Int × Int × Int) := (87, 135, 32) :: u_187
abbrev p_88 : List (Int × Int × Int) := (81, 7, 87) :: p_87
abbrev p_89 : List (Int × Int × Int) := (81, 11, 88) :: p_88
abbrev p_90 : List (Int × Int × Int) := (81, 12, 89) :: p_89
abbrev u_189 : List (Int × Int × Int) := (81, 14, (-1)) :: u_188
abbrev p_91 : List (Int × Int × Int) := (81, 15, 90) :: p_90
abbrev p_92 : List (Int × Int × Int) := (81, 16, 91) :: p_91
abbrev p_93 : List (Int × Int × Int) := (81, 17, 92) :: p_92
abbrev p_94 : List (Int × Int × Int) := (81, 26, 93) :: p_93
abbrev p_95 : List (Int × Int × Int) := (81, 30, 94) :: p_94
abbrev p_96 : List (Int × Int × Int) := (81, 31, 95) :: p_95
abbrev p_97 : List (Int × Int × Int) := (81, 32, 96) :: p_96
abbrev p_98 : List (Int × Int × Int) := (81, 33, 97) :: p_97
abbrev p_99 : List (Int × Int × Int) := (81, 34, 98) :: p_98
abbrev p_100 : List (Int × Int × Int) := (81, 35, 99) :: p_99
abbrev p_101 : List (Int × Int × Int) := (81, 36, 100) :: p_100
abbrev p_102 : List (Int × Int × Int) := (81, 37, 101) :: p_101
abbrev p_103 : List (Int × Int × Int) := (81, 38, 102) :: p_102
abbrev p_104 : List (Int × Int × Int) := (81, 39, 103) :: p_103
abbrev p_105 : List (Int × Int × Int) := (81, 40, 104) :: p_104
abbrev p_106 : List (Int × Int × Int) := (81, 41, 105) :: p_105
abbrev u_190 : List (Int × Int × Int) := (81, 43, (-1)) :: u_189
abbrev p_107 : List (Int × Int × Int) := (81, 49, 106) :: p_106
abbrev p_108 : List (Int × Int × Int) := (81, 50, 107) :: p_107
abbrev u_191 : List (Int × Int × Int) := (83, 43, 1) :: u_190
abbrev u_192 : List (Int × Int × Int) := (83, 48, (-1)) :: u_191
abbrev u_193 : List (Int × Int × Int) := (83, 0, (-1)) :: u_192
abbrev u_194 : List (Int × Int × Int) := (83, 1, (-1)) :: u_193
abbrev u_195 : List (Int × Int × Int) := (83, 2, (-1)) :: u_194
abbrev u_196 : List (Int × Int × Int) := (83, 3, (-1)) :: u_195
abbrev u_197 : List (Int × Int × Int) := (83, 4, (-1)) :: u_196
abbrev u_198 : List (Int × Int × Int) := (83, 5, (-1)) :: u_197
abbrev u_199 : List (Int × Int × Int) := (83, 6, (-1)) :: u_198
abbrev u_200 : List (Int × Int × Int) := (83, 7, (-1)) :: u_199
set_option maxRecDepth 20000 in
theorem ct_22 {d : Nat} {sc : Int × (Int → Int)} {Q : Int → MS → MC → Prop} (h : Q 0 (Sn 108 p_108 sc) (apU u_200 C0z)) : Wp (d + 1) 26 39557 M_X11_init 0 [cA 81, cU] [] (Sn 82 p_82 sc) (apU u_52 C0z) Q := by
  refine wp_aload_n (nx := 1) dX11_init_0 rfl rfl ?_
  refine wp_objInit (nx := 4) dX11_init_1 rfl kM_X11_22 ki_objectInit kc_objectInit (by decide) (leB rfl) ?_
  refine wp_aload_n (nx := 5) dX11_init_4 rfl rfl ?_
  refine wp_bipush (nx := 7) dX11_init_5 rfl ⟨by decide, i32 (by decide)⟩ ?_
  refine wp_newI (nx := 9) (mc := 25) (ms := 39550) dX11_init_7 rfl ka_int (by decide) (by decide) (by omega) (by omega) ?_
  refine wp_heap (nw_Sn (m2 := 83) (by decide) (by decide) (by decide) (by decide) (by decide +kernel)) (nw_C (by decide +kernel)) ?_
  show Wp _ _ _ _ 9 [cA 81, cU] [cA 82, cA 81] (Sn 83 p_82 sc) (apU u_52 C0z) _
  refine wp_putAF (kk := 1) (nx := 12) clsX11 dX11_init_9 rfl kF_X11_7 (by decide) (sn_b (by decide)) (sn_t (by decide)) rfl rfl rfl rfl (by decide) ?_
  show Wp _ _ _ _ 12 [cA 81, cU] [] (Sn 83 p_83 sc) (apU u_52 C0z) _
  refine wp_aload_n (nx := 13) dX11_init_12 rfl rfl ?_
  refine wp_sipush (nx := 16) dX11_init_13 rfl ⟨by decide, i32 (by decide)⟩ ?_
  refine wp_newI (nx := 18) (mc := 24) (ms := 33894) dX11_init_16 rfl ka_int (by decide) (by decide) (by omega) (by omega) ?_
  refine wp_heap (nw_Sn (m2 := 84) (by decide) (by decide) (by decide) (by decide) (by decide +kernel)) (nw_C (by decide +kernel)) ?_
  show Wp _ _ _ _ 18 [cA 81, cU] [cA 83, cA 81] (Sn 84 p_83 sc) (apU u_52 C0z) _
  refine wp_putAF (kk := 2) (nx := 21) clsX11 dX11_init_18 rfl kF_X11_28 (by decide) (sn_b (by decide)) (sn_t (by decide)) rfl rfl rfl rfl (by decide) ?_
  show Wp _ _ _ _ 21 [cA 81, cU] [] (Sn 84 p_84 sc) (apU u_52 C0z) _
  refine wp_aload_n (nx := 22) dX11_init_21 rfl rfl ?_
  refine wp_sipush (nx := 25) dX11_init_22 rfl ⟨by decide, i32 (by decide)⟩ ?_
  refine wp_newI (nx := 27) (mc := 23) (ms := 22582) dX11_init_25 rfl ka_int (by decide) (by decide) (by omega) (by omega) ?_
  refine wp_heap (nw_Sn (m2 := 85) (by decide) (by decide) (by decide) (by decide) (by decide +kernel)) (nw_C (by decide +kernel)) ?_
  show Wp _ _ _ _ 27 [cA 81, cU] [cA 84, cA 81] (Sn 85 p_84 sc) (apU u_52 C0z) _
  refine wp_putAF (kk := 3) (nx := 30) clsX11 dX11_init_27 rfl kF_X11_31 (by decide) (sn_b (by decide)) (sn_t (by decide)) rfl rfl rfl rfl (by decide) ?_
  show Wp _ _ _ _ 30 [cA 81, cU] [] (Sn 85 p_85 sc) (apU u_52 C0z) _
  refine wp_aload_n (nx := 31) dX11_init_30 rfl rfl ?_
  refine wp_iconst (nx := 32) dX11_init_31 rfl (i32 (by decide)) ?_
  refine wp_newZ (nx := 34) (mc := 22) (ms := 22580) dX11_init_32 rfl ka_boolean (by decide) (by decide) (by omega) (by omega) ?_
  refine wp_heap (nw_Sn (m2 := 86) (by decide) (by decide) (by decide) (by decide) (by decide +kernel)) (nw_C (by decide +kernel)) ?_
  show Wp _ _ _ _ 34 [cA 81, cU] [cA 85, cA 81] (Sn 86 p_85 sc) (apU u_52 C0z) _
  refine wp_putAF (kk := 4) (nx := 37) clsX11 dX11_init_34 rfl kF_X11_34 (by decide) (sn_b (by decide)) (sn_t (by decide)) rfl rfl rfl rfl (by decide) ?_
  show Wp _ _ _ _ 37 [cA 81, cU] [] (Sn 86 p_86 sc) (apU u_52 C0z) _
  refine wp_aload_n (nx := 38) dX11_init_37 rfl rfl ?_
  refine wp_bipush (nx := 40) dX11_init_38 rfl ⟨by decide, i32 (by decide)⟩ ?_
  refine wp_newI (nx := 42) (mc := 21) (ms := 22530) dX11_init_40 rfl ka_int (by decide) (by decide) (by omega) (by omega) ?_
  refine wp_heap (nw_Sn (m2 := 87) (by decide) (by decide) (by decide) (by decide) (by decide +kernel)) (nw_C (by decide +kernel)) ?_
  show Wp _ _ _ _ 42 [cA 81, cU] [cA 86, cA 81] (Sn 87 p_86 sc) (apU u_52 C0z) _
  refine wp_putAF (kk := 5) (nx := 45) clsX11 dX11_init_42 rfl kF_X11_38 (by decide) (sn_b (by decide)) (sn_t (by decide)) rfl rfl rfl rfl (by decide) ?_
  show Wp _ _ _ _ 45 [cA 81, cU] [] (Sn 87 p_87 sc) (apU u_52 C0z) _
  refine wp_aload_n (nx := 46) dX11_init_45 rfl rfl ?_
  refine wp_sipush (nx := 49) dX11_init_46 rfl ⟨by decide, i32 (by decide)⟩ ?_
  refine wp_newB (nx := 51) (mc := 20) (ms := 22394) dX11_init_49 rfl ka_byte (by decide) (by decide) (by omega) (by omega) ?_
  refine wp_heap (nw_Sn (m2 := 88) (by decide) (by decide) (by decide) (by decide) (by decide +kernel)) (nw_C (by decide +kernel)) ?_
  show Wp _ _ _ _ 51 [cA 81, cU] [cA 87, cA 81] (Sn 88 p_87 sc) (apU u_52 C0z) _
  refine wp_dup (nx := 52) dX11_init_51 rfl (k1A _) ?_
  refine wp_iconst (nx := 53) dX11_init_52 rfl (i32 (by decide)) ?_
  refine wp_bipush (nx := 55) dX11_init_53 rfl ⟨by decide, i32 (by decide)⟩ ?_
  refine wp_bastore (nx := 56) dX11_init_55 rfl (sn_b (by decide)) (sn_i (by decide)) (sn_t (by decide)) ?_
  refine wp_heap (C2 := (apU u_53 C0z)) rfl (by rw [show nB 109 = 109 by decide]; rfl) ?_
  show Wp _ _ _ _ 56 [cA 81, cU] [cA 87, cA 81] (Sn 88 p_87 sc) (apU u_53 C0z) _
  refine wp_dup (nx := 57) dX11_init_56 rfl (k1A _) ?_
  refine wp_iconst (nx := 58) dX11_init_57 rfl (i32 (by decide)) ?_
  refine wp_bipush (nx := 60) dX11_init_58 rfl ⟨by decide, i32 (by decide)⟩ ?_
  refine wp_bastore (nx := 61) dX11_init_60 rfl (sn_b (by decide)) (sn_i (by decide)) (sn_t (by decide)) ?_
  refine wp_heap (C2 := (apU u_54 C0z)) rfl (by rw [show nB 105 = 105 by decide]; rfl) ?_
  show Wp _ _ _ _ 61 [cA 81, cU] [cA 87, cA 81] (Sn 88 p_87 sc) (apU u_54 C0z) _
  refine wp_dup (nx := 62) dX11_init_61 rfl (k1A _) ?_
  refine wp_iconst (nx := 63) dX11_init_62 rfl (i32 (by decide)) ?_
  refine wp_bipush (nx := 65) dX11_init_63 rfl ⟨by decide, i32 (by decide)⟩ ?_
  refine wp_bastore (nx := 66) dX11_init_65 rfl (sn_b (by decide)) (sn_i (by decide)) (sn_t (by decide)) ?_
  refine wp_heap (C2 := (apU u_55 C0z)) rfl (by rw [show nB 110 = 110 by decide]; rfl) ?_
  show Wp _ _ _ _ 66 [cA 81, cU] [cA 87, cA 81] (Sn 88 p_87 sc) (apU u_55 C0z) _
  refine wp_dup (nx := 67) dX11_init_66 rfl (k1A _) ?_
  refine wp_iconst (nx := 68) dX11_init_67 rfl (i32 (by decide)) ?_
  refine wp_bipush (nx := 70) dX11_init_68 rfl ⟨by decide, i32 (by decide)⟩ ?_
  refine wp_bastore (nx := 71) dX11_init_70 rfl (sn_b (by decide)) (sn_i (by decide)) (sn_t (by decide)) ?_
  refine wp_heap (C2 := (apU u_56 C0z)) rfl (by rw [show nB 100 = 100 by decide]; rfl) ?_
  show Wp _ _ _ _ 71 [cA 81, cU] [cA 87, cA 81] (Sn 88 p_87 sc) (apU u_56 C0z) _
  refine wp_dup (nx := 72) dX11_init_71 rfl (k1A _) ?_
  refine wp_iconst (nx := 73) dX11_init_72 rfl (i32 (by decide)) ?_
  refine wp_bipush (nx := 75) dX11_init_73 rfl ⟨by decide, i32 (by decide)⟩ ?_
  refine wp_bastore (nx := 76) dX11_init_75 rfl (sn_b (by decide)) (sn_i (by decide)) (sn_t (by decide)) ?_
  refine wp_heap (C2 := (apU u_57 C0z)) rfl (by rw [show nB 115 = 115 by decide]; rfl) ?_
  show Wp _ _ _ _ 76 [cA 81, cU] [cA 87, cA 81] (Sn 88 p_87 sc) (apU u_57 C0z) _
  refine wp_dup (nx := 77) dX11_init_76 rfl (k1A _) ?_
  refine wp_iconst (nx := 78) dX11_init_77 rfl (i32 (by decide)) ?_
  refine wp_bipush (nx := 80) dX11_init_78 rfl ⟨by decide, i32 (by decide)⟩ ?_
  refine wp_bastore (nx := 81) dX11_init_80 rfl (sn_b (by decide)) (sn_i (by decide)) (sn_t (by decide)) ?_
  refine wp_heap (C2 := (apU u_58 C0z)) rfl (by rw [show nB 32 = 32 by decide]; rfl) ?_
  show Wp _ _ _ _ 81 [cA 81, cU] [cA 87, cA 81] (Sn 88 p_87 sc) (apU u_58 C0z) _
  refine wp_dup (nx := 82) dX11_init_81 rfl (k1A _) ?_
  refine wp_bipush (nx := 84) dX11_init_82 rfl ⟨by decide, i32 (by decide)⟩ ?_
  refine wp_bipush (nx := 86) dX11_init_84 rfl ⟨by decide, i32 (by decide)⟩ ?_
  refine wp_bastore (nx := 87) dX11_init_86 rfl (sn_b (by decide)) (sn_i (by decide)) (sn_t (by decide)) ?_
  refine wp_heap (C2 := (apU u_59 C0z)) rfl (by rw [show nB 108 = 108 by decide]; rfl) ?_
  show Wp _ _ _ _ 87 [cA 81, cU] [cA 87, cA 81] (Sn 88 p_87 sc) (apU u_59 C0z) _
  refine wp_dup (nx := 88) dX11_init_87 rfl (k1A _) ?_
  refine wp_bipush (nx := 90) dX11_init_88 rfl ⟨by decide, i32 (by decide)⟩ ?_
  refine wp_bipush (nx := 92) dX11_init_90 rfl ⟨by decide, i32 (by decide)⟩ ?_
  refine wp_bastore (nx := 93) dX11_init_92 rfl (sn_b (by decide)) (sn_i (by decide)) (sn_t (by decide)) ?_
  refine wp_heap (C2 := (apU u_60 C0z)) rfl (by rw [show nB 101 = 101 by decide]; rfl) ?_
  show Wp _ _ _ _ 93 [cA 81, cU] [cA 87, cA 81] (Sn 88 p_87 sc) (apU u_60 C0z) _
  refine wp_dup (nx := 94) dX11_init_93 rfl (k1A _) ?_
  refine wp_bipush (nx := 96) dX11_init_94 rfl ⟨by decide, i32 (by decide)⟩ ?_
  refine wp_bipush (nx := 98) dX11_init_96 rfl ⟨by decide, i32 (by decide)⟩ ?_
  refine wp_bastore (nx := 99) dX11_init_98 rfl (sn_b (by decide)) (sn_i (by decide)) (sn_t (by decide)) ?_
  refine wp_heap (C2 := (apU u_61 C0z)) rfl (by rw [show nB 110 = 110 by decide]; rfl) ?_
  show Wp _ _ _ _ 99 [cA 81, cU] [cA 87, cA 81] (Sn 88 p_87 sc) (apU u_61 C0z) _
  refine wp_dup (nx := 100) dX11_init_99 rfl (k1A _) ?_
  refine wp_bipush (nx := 102) dX11_init_100 rfl ⟨by decide, i32 (by decide)⟩ ?_
  refine wp_bipush (nx := 104) dX11_init_102 rfl ⟨by decide, i32 (by decide)⟩ ?_
  refine wp_bastore (nx := 105) dX11_init_104 rfl (sn_b (by decide)) (sn_i (by decide)) (sn_t (by decide)) ?_
  refine wp_heap (C2 := (apU u_62 C0z)) rfl (by rw [show nB 100 = 100 by decide]; rfl) ?_
  show Wp _ _ _ _ 105 [cA 81, cU] [cA 87, cA 81] (Sn 88 p_87 sc) (apU u_62 C0z) _
  refine wp_dup (nx := 106) dX11_init_105 rfl (k1A _) ?_
  refine wp_bipush (nx := 108) dX11_init_106 rfl ⟨by decide, i32 (by decide)⟩ ?_
  refine wp_bipush (nx := 110) dX11_init_108 rfl ⟨by decide, i32 (by decide)⟩ ?_
  refine wp_bastore (nx := 111) dX11_init_110 rfl (sn_b (by decide)) (sn_i (by decide)) (sn_t (by decide)) ?_
  refine wp_heap (C2 := (apU u_63 C0z)) rfl (by rw [show nB 115 = 115 by decide]; rfl) ?_
  show Wp _ _ _ _ 111 [cA 81, cU] [cA 87, cA 81] (Sn 88 p_87 sc) (apU u_63 C0z) _
  refine wp_dup (nx := 112) dX11_init_111 rfl (k1A _) ?_
  refine wp_bipush (nx := 114) dX11_init_112 rfl ⟨by decide, i32 (by decide)⟩ ?_
  refine wp_bipush (nx := 116) dX11_init_114 rfl ⟨by decide, i32 (by decide)⟩ ?_
  refine wp_bastore (nx := 117) dX11_init_116 rfl (sn_b (by decide)) (sn_i (by decide)) (sn_t (by decide)) ?_
  refine wp_heap (C2 := (apU u_64 C0z)) rfl (by rw [show nB 32 = 32 by decide]; rfl) ?_
  show Wp _ _ _ _ 117 [cA 81, cU] [cA 87, cA 81] (Sn 88 p_87 sc) (apU u_64 C0z) _
  refine wp_dup (nx := 118) dX11_init_117 rfl (k1A _) ?_
  refine wp_bipush (nx := 120) dX11_init_118 rfl ⟨by decide, i32 (by decide)⟩ ?_
  refine wp_bipush (nx := 122) dX11_init_120 rfl ⟨by decide, i32 (by decide)⟩ ?_
  refine wp_bastore (nx := 123) dX11_init_122 rfl (sn_b (by decide)) (sn_i (by decide)) (sn_t (by decide)) ?_
  refine wp_heap (C2 := (apU u_65 C0z)) rfl (by rw [show nB 98 = 98 by decide]; rfl) ?_
  show Wp _ _ _ _ 123 [cA 81, cU] [cA 87, cA 81] (Sn 88 p_87 sc) (apU u_65 C0z) _
  refine wp_dup (nx := 124) dX11_init_123 rfl (k1A _) ?_
  refine wp_bipush (nx := 126) dX11_init_124 rfl ⟨by decide, i32 (by decide)⟩ ?_
  refine wp_bipush (nx := 128) dX11_init_126 rfl ⟨by decide, i32 (by decide)⟩ ?_
  refine wp_bastore (nx := 129) dX11_init_128 rfl (sn_b (by decide)) (sn_i (by decide)) (sn_t (by decide)) ?_
  refine wp_heap (C2 := (apU u_66 C0z)) rfl (by rw [show nB 97 = 97 by decide]; rfl) ?_
  show Wp _ _ _ _ 129 [cA 81, cU] [cA 87, cA 81] (Sn 88 p_87 sc) (apU u_66 C0z) _
  refine wp_dup (nx := 130) dX11_init_129 rfl (k1A _) ?_
  refine wp_bipush (nx := 132) dX11_init_130 rfl ⟨by decide, i32 (by decide)⟩ ?_
  refine wp_bipush (nx := 134) dX11_init_132 rfl ⟨by decide, i32 (by decide)⟩ ?_
  refine wp_bastore (nx := 135) dX11_init_134 rfl (sn_b (by decide)) (sn_i (by decide)) (sn_t (by decide)) ?_
  refine wp_heap (C2 := (apU u_67 C0z)) rfl (by rw [show nB 114 = 114 by decide]; rfl) ?_
  show Wp _ _ _ _ 135 [cA 81, cU] [cA 87, cA 81] (Sn 88 p_87 sc) (apU u_67 C0z) _
  refine wp_dup (nx := 136) dX11_init_135 rfl (k1A _) ?_
  refine wp_bipush (nx := 138) dX11_init_136 rfl ⟨by decide, i32 (by decide)⟩ ?_
  refine wp_bipush (nx := 140) dX11_init_138 rfl ⟨by decide, i32 (by decide)⟩ ?_
  refine wp_bastore (nx := 141) dX11_init_140 rfl (sn_b (by decide)) (sn_i (by decide)) (sn_t (by decide)) ?_
  refine wp_heap (C2 := (apU u_68 C0z)) rfl (by rw [show nB 115 = 115 by decide]; rfl) ?_
  show Wp _ _ _ _ 141 [cA 81, cU] [cA 87, cA 81] (Sn 88 p_87 sc) (apU u_68 C0z) _
  refine wp_dup (nx := 142) dX11_init_141 rfl (k1A _) ?_
  refine wp_bipush (nx := 144) dX11_init_142 rfl ⟨by decide, i32 (by decide)⟩ ?_
  refine wp_bipush (nx := 146) dX11_init_144 rfl ⟨by decide, i32 (by decide)⟩ ?_
  refine wp_bastore (nx := 147) dX11_init_146 rfl (sn_b (by decide)) (sn_i (by decide)) (sn_t (by decide)) ?_
  refine wp_heap (C2 := (apU u_69 C0z)) rfl (by rw [show nB 32 = 32 by decide]; rfl) ?_
  show Wp _ _ _ _ 147 [cA 81, cU] [cA 87, cA 81] (Sn 88 p_87 sc) (apU u_69 C0z) _
  refine wp_dup (nx := 148) dX11_init_147 rfl (k1A _) ?_
  refine wp_bipush (nx := 150) dX11_init_148 rfl ⟨by decide, i32 (by decide)⟩ ?_
  refine wp_bipush (nx := 152) dX11_init_150 rfl ⟨by decide, i32 (by decide)⟩ ?_
  refine wp_bastore (nx := 153) dX11_init_152 rfl (sn_b (by decide)) (sn_i (by decide)) (sn_t (by decide)) ?_
  refine wp_heap (C2 := (apU u_70 C0z)) rfl (by rw [show nB 105 = 105 by decide]; rfl) ?_
  show Wp _ _ _ _ 153 [cA 81, cU] [cA 87, cA 81] (Sn 88 p_87 sc) (apU u_70 C0z) _
  refine wp_dup (nx := 154) dX11_init_153 rfl (k1A _) ?_
  refine wp_bipush (nx := 156) dX11_init_154 rfl ⟨by decide, i32 (by decide)⟩ ?_
  refine wp_bipush (nx := 158) dX11_init_156 rfl ⟨by decide, i32 (by decide)⟩ ?_
  refine wp_bastore (nx := 159) dX11_init_158 rfl (sn_b (by decide)) (sn_i (by decide)) (sn_t (by decide)) ?_
  refine wp_heap (C2 := (apU u_71 C0z)) rfl (by rw [show nB 102 = 102 by decide]; rfl) ?_
  show Wp _ _ _ _ 159 [cA 81, cU] [cA 87, cA 81] (Sn 88 p_87 sc) (apU u_71 C0z) _
  refine wp_dup (nx := 160) dX11_init_159 rfl (k1A _) ?_
  refine wp_bipush (nx := 162) dX11_init_160 rfl ⟨by decide, i32 (by decide)⟩ ?_
  refine wp_bipush (nx := 164) dX11_init_162 rfl ⟨by decide, i32 (by decide)⟩ ?_
  refine wp_bastore (nx := 165) dX11_init_164 rfl (sn_b (by decide)) (sn_i (by decide)) (sn_t (by decide)) ?_
  refine wp_heap (C2 := (apU u_72 C0z)) rfl (by rw [show nB 32 = 32 by decide]; rfl) ?_
  show Wp _ _ _ _ 165 [cA 81, cU] [cA 87, cA 81] (Sn 88 p_87 sc) (apU u_72 C0z) _
  refine wp_dup (nx := 166) dX11_init_165 rfl (k1A _) ?_
  refine wp_bipush (nx := 168) dX11_init_166 rfl ⟨by decide, i32 (by decide)⟩ ?_
  refine wp_bipush (nx := 170) dX11_init_168 rfl ⟨by decide, i32 (by decide)⟩ ?_
  refine wp_bastore (nx := 171) dX11_init_170 rfl (sn_b (by decide)) (sn_i (by decide)) (sn_t (by decide)) ?_
  refine wp_heap (C2 := (apU u_73 C0z)) rfl (by rw [show nB 111 = 111 by decide]; rfl) ?_
  show Wp _ _ _ _ 171 [cA 81, cU] [cA 87, cA 81] (Sn 88 p_87 sc) (apU u_73 C0z) _
  refine wp_dup (nx := 172) dX11_init_171 rfl (k1A _) ?_
  refine wp_bipush (nx := 174) dX11_init_172 rfl ⟨by decide, i32 (by decide)⟩ ?_
  refine wp_bipush (nx := 176) dX11_init_174 rfl ⟨by decide, i32 (by decide)⟩ ?_
  refine wp_bastore (nx := 177) dX11_init_176 rfl (sn_b (by decide)) (sn_i (by decide)) (sn_t (by decide)) ?_
  refine wp_heap (C2 := (apU u_74 C0z)) rfl (by rw [show nB 114 = 114 by decide]; rfl) ?_
  show Wp _ _ _ _ 177 [cA 81, cU] [cA 87, cA 81] (Sn 88 p_87 sc) (apU u_74 C0z) _
  refine wp_dup (nx := 178) dX11_init_177 rfl (k1A _) ?_
  refine wp_bipush (nx := 180) dX11_init_178 rfl ⟨by decide, i32 (by decide)⟩ ?_
  refine wp_bipush (nx := 182) dX11_init_180 rfl ⟨by decide, i32 (by decide)⟩ ?_
  refine wp_bastore (nx := 183) dX11_init_182 rfl (sn_b (by decide)) (sn_i (by decide)) (sn_t (by decide)) ?_
  refine wp_heap (C2 := (apU u_75 C0z)) rfl (by rw [show nB 32 = 32 by decide]; rfl) ?_
  show Wp _ _ _ _ 183 [cA 81, cU] [cA 87, cA 81] (Sn 88 p_87 sc) (apU u_75 C0z) _
  refine wp_dup (nx := 184) dX11_init_183 rfl (k1A _) ?_
  refine wp_bipush (nx := 186) dX11_init_184 rfl ⟨by decide, i32 (by decide)⟩ ?_
  refine wp_bipush (nx := 188) dX11_init_186 rfl ⟨by decide, i32 (by decide)⟩ ?_
  refine wp_bastore (nx := 189) dX11_init_188 rfl (sn_b (by decide)) (sn_i (by decide)) (sn_t (by decide)) ?_
  refine wp_heap (C2 := (apU u_76 C0z)) rfl (by rw [show nB 97 = 97 by decide]; rfl) ?_
  show Wp _ _ _ _ 189 [cA 81, cU] [cA 87, cA 81] (Sn 88 p_87 sc) (apU u_76 C0z) _
  refine wp_dup (nx := 190) dX11_init_189 rfl (k1A _) ?_
  refine wp_bipush (nx := 192) dX11_init_190 rfl ⟨by decide, i32 (by decide)⟩ ?_
  refine wp_bipush (nx := 194) dX11_init_192 rfl ⟨by decide, i32 (by decide)⟩ ?_
  refine wp_bastore (nx := 195) dX11_init_194 rfl (sn_b (by decide)) (sn_i (by decide)) (sn_t (by decide)) ?_
  refine wp_heap (C2 := (apU u_77 C0z)) rfl (by rw [show nB 110 = 110 by decide]; rfl) ?_
  show Wp _ _ _ _ 195 [cA 81, cU] [cA 87, cA 81] (Sn 88 p_87 sc) (apU u_77 C0z) _
  refine wp_dup (nx := 196) dX11_init_195 rfl (k1A _) ?_
  refine wp_bipush (nx := 198) dX11_init_196 rfl ⟨by decide, i32 (by decide)⟩ ?_
  refine wp_bipush (nx := 200) dX11_init_198 rfl ⟨by decide, i32 (by decide)⟩ ?_
  refine wp_bastore (nx := 201) dX11_init_200 rfl (sn_b (by decide)) (sn_i (by decide)) (sn_t (by decide)) ?_
  refine wp_heap (C2 := (apU u_78 C0z)) rfl (by rw [show nB 100 = 100 by decide]; rfl) ?_
  show Wp _ _ _ _ 201 [cA 81, cU] [cA 87, cA 81] (Sn 88 p_87 sc) (apU u_78 C0z) _
  refine wp_dup (nx := 202) dX11_init_201 rfl (k1A _) ?_
  refine wp_bipush (nx := 204) dX11_init_202 rfl ⟨by decide, i32 (by decide)⟩ ?_
  refine wp_bipush (nx := 206) dX11_init_204 rfl ⟨by decide, i32 (by decide)⟩ ?_
  refine wp_bastore (nx := 207) dX11_init_206 rfl (sn_b (by decide)) (sn_i (by decide)) (sn_t (by decide)) ?_
  refine wp_heap (C2 := (apU u_79 C0z)) rfl (by rw [show nB 32 = 32 by decide]; rfl) ?_
  show Wp _ _ _ _ 207 [cA 81, cU] [cA 87, cA 81] (Sn 88 p_87 sc) (apU u_79 C0z) _
  refine wp_dup (nx := 208) dX11_init_207 rfl (k1A _) ?_
  refine wp_bipush (nx := 210) dX11_init_208 rfl ⟨by decide, i32 (by decide)⟩ ?_
  refine wp_bipush (nx := 212) dX11_init_210 rfl ⟨by decide, i32 (by decide)⟩ ?_
  refine wp_bastore (nx := 213) dX11_init_212 rfl (sn_b (by decide)) (sn_i (by decide)) (sn_t (by decide)) ?_
  refine wp_heap (C2 := (apU u_80 C0z)) rfl (by rw [show nB 110 = 110 by decide]; rfl) ?_
  show Wp _ _ _ _ 213 [cA 81, cU] [cA 87, cA 81] (Sn 88 p_87 sc) (apU u_80 C0z) _
  refine wp_dup (nx := 214) dX11_init_213 rfl (k1A _) ?_
  refine wp_bipush (nx := 216) dX11_init_214 rfl ⟨by decide, i32 (by decide)⟩ ?_
  refine wp_bipush (nx := 218) dX11_init_216 rfl ⟨by decide, i32 (by decide)⟩ ?_
  refine wp_bastore (nx := 219) dX11_init_218 rfl (sn_b (by decide)) (sn_i (by decide)) (sn_t (by decide)) ?_
  refine wp_heap (C2 := (apU u_81 C0z)) rfl (by rw [show nB 111 = 111 by decide]; rfl) ?_
  show Wp _ _ _ _ 219 [cA 81, cU] [cA 87, cA 81] (Sn 88 p_87 sc) (apU u_81 C0z) _
  refine wp_dup (nx := 220) dX11_init_219 rfl (k1A _) ?_
  refine wp_bipush (nx := 222) dX11_init_220 rfl ⟨by decide, i32 (by decide)⟩ ?_
  refine wp_bipush (nx := 224) dX11_init_222 rfl ⟨by decide, i32 (by decide)⟩ ?_
  refine wp_bastore (nx := 225) dX11_init_224 rfl (sn_b (by decide)) (sn_i (by decide)) (sn_t (by decide)) ?_
  refine wp_heap (C2 := (apU u_82 C0z)) rfl (by rw [show nB 116 = 116 by decide]; rfl) ?_
  show Wp _ _ _ _ 225 [cA 81, cU] [cA 87, cA 81] (Sn 88 p_87 sc) (apU u_82 C0z) _
  refine wp_dup (nx := 226) dX11_init_225 rfl (k1A _) ?_
  refine wp_bipush (nx := 228) dX11_init_226 rfl ⟨by decide, i32 (by decide)⟩ ?_
  refine wp_bipush (nx := 230) dX11_init_228 rfl ⟨by decide, i32 (by decide)⟩ ?_
  refine wp_bastore (nx := 231) dX11_init_230 rfl (sn_b (by decide)) (sn_i (by decide)) (sn_t (by decide)) ?_
  refine wp_heap (C2 := (apU u_83 C0z)) rfl (by rw [show nB 32 = 32 by decide]; rfl) ?_
  show Wp _ _ _ _ 231 [cA 81, cU] [cA 87, cA 81] (Sn 88 p_87 sc) (apU u_83 C0z) _
  refine wp_dup (nx := 232) dX11_init_231 rfl (k1A _) ?_
  refine wp_bipush (nx := 234) dX11_init_232 rfl ⟨by decide, i32 (by decide)⟩ ?_
  refine wp_bipush (nx := 236) dX11_init_234 rfl ⟨by decide, i32 (by decide)⟩ ?_
  refine wp_bastore (nx := 237) dX11_init_236 rfl (sn_b (by decide)) (sn_i (by decide)) (sn_t (by decide)) ?_
  refine wp_heap (C2 := (apU u_84 C0z)) rfl (by rw [show nB 104 = 104 by decide]; rfl) ?_
  show Wp _ _ _ _ 237 [cA 81, cU] [cA 87, cA 81] (Sn 88 p_87 sc) (apU u_84 C0z) _
  refine wp_dup (nx := 238) dX11_init_237 rfl (k1A _) ?_
  refine wp_bipush (nx := 240) dX11_init_238 rfl ⟨by decide, i32 (by decide)⟩ ?_
  refine wp_bipush (nx := 242) dX11_init_240 rfl ⟨by decide, i32 (by decide)⟩ ?_
  refine wp_bastore (nx := 243) dX11_init_242 rfl (sn_b (by decide)) (sn_i (by decide)) (sn_t (by decide)) ?_
  refine wp_heap (C2 := (apU u_85 C0z)) rfl (by rw [show nB 111 = 111 by decide]; rfl) ?_
  show Wp _ _ _ _ 243 [cA 81, cU] [cA 87, cA 81] (Sn 88 p_87 sc) (apU u_85 C0z) _
  refine wp_dup (nx := 244) dX11_init_243 rfl (k1A _) ?_
  refine wp_bipush (nx := 246) dX11_init_244 rfl ⟨by decide, i32 (by decide)⟩ ?_
  refine wp_bipush (nx := 248) dX11_init_246 rfl ⟨by decide, i32 (by decide)⟩ ?_
  refine wp_bastore (nx := 249) dX11_init_248 rfl (sn_b (by decide)) (sn_i (by decide)) (sn_t (by decide)) ?_
  refine wp_heap (C2 := (apU u_86 C0z)) rfl (by rw [show nB 117 = 117 by decide]; rfl) ?_
  show Wp _ _ _ _ 249 [cA 81, cU] [cA 87, cA 81] (Sn 88 p_87 sc) (apU u_86 C0z) _
  refine wp_dup (nx := 250) dX11_init_249 rfl (k1A _) ?_
  refine wp_bipush (nx := 252) dX11_init_250 rfl ⟨by decide, i32 (by decide)⟩ ?_
  refine wp_bipush (nx := 254) dX11_init_252 rfl ⟨by decide, i32 (by decide)⟩ ?_
  refine wp_bastore (nx := 255) dX11_init_254 rfl (sn_b (by decide)) (sn_i (by decide)) (sn_t (by decide)) ?_
  refine wp_heap (C2 := (apU u_87 C0z)) rfl (by rw [show nB 115 = 115 by decide]; rfl) ?_
  show Wp _ _ _ _ 255 [cA 81, cU] [cA 87, cA 81] (Sn 88 p_87 sc) (apU u_87 C0z) _
  refine wp_dup (nx := 256) dX11_init_255 rfl (k1A _) ?_
  refine wp_bipush (nx := 258) dX11_init_256 rfl ⟨by decide, i32 (by decide)⟩ ?_
  refine wp_bipush (nx := 260) dX11_init_258 rfl ⟨by decide, i32 (by decide)⟩ ?_
  refine wp_bastore (nx := 261) dX11_init_260 rfl (sn_b (by decide)) (sn_i (by decide)) (sn_t (by decide)) ?_
  refine wp_heap (C2 := (apU u_88 C0z)) rfl (by rw [show nB 101 = 101 by decide]; rfl) ?_
  show Wp _ _ _ _ 261 [cA 81, cU] [cA 87, cA 81] (Sn 88 p_87 sc) (apU u_88 C0z) _
  refine wp_dup (nx := 262) dX11_init_261 rfl (k1A _) ?_
  refine wp_bipush (nx := 264) dX11_init_262 rfl ⟨by decide, i32 (by decide)⟩ ?_
  refine wp_bipush (nx := 266) dX11_init_264 rfl ⟨by decide, i32 (by decide)⟩ ?_
  refine wp_bastore (nx := 267) dX11_init_266 rfl (sn_b (by decide)) (sn_i (by decide)) (sn_t (by decide)) ?_
  refine wp_heap (C2 := (apU u_89 C0z)) rfl (by rw [show nB 32 = 32 by decide]; rfl) ?_
  show Wp _ _ _ _ 267 [cA 81, cU] [cA 87, cA 81] (Sn 88 p_87 sc) (apU u_89 C0z) _
  refine wp_dup (nx := 268) dX11_init_267 rfl (k1A _) ?_
  refine wp_bipush (nx := 270) dX11_init_268 rfl ⟨by decide, i32 (by decide)⟩ ?_
  refine wp_bipush (nx := 272) dX11_init_270 rfl ⟨by decide, i32 (by decide)⟩ ?_
  refine wp_bastore (nx := 273) dX11_init_272 rfl (sn_b (by decide)) (sn_i (by decide)) (sn_t (by decide)) ?_
  refine wp_heap (C2 := (apU u_90 C0z)) rfl (by rw [show nB 107 = 107 by decide]; rfl) ?_
  show Wp _ _ _ _ 273 [cA 81, cU] [cA 87, cA 81] (Sn 88 p_87 sc) (apU u_90 C0z) _
  refine wp_dup (nx := 274) dX11_init_273 rfl (k1A _) ?_
  refine wp_bipush (nx := 276) dX11_init_274 rfl ⟨by decide, i32 (by decide)⟩ ?_
  refine wp_bipush (nx := 278) dX11_init_276 rfl ⟨by decide, i32 (by decide)⟩ ?_
  refine wp_bastore (nx := 279) dX11_init_278 rfl (sn_b (by decide)) (sn_i (by decide)) (sn_t (by decide)) ?_
  refine wp_heap (C2 := (apU u_91 C0z)) rfl (by rw [show nB 101 = 101 by decide]; rfl) ?_
  show Wp _ _ _ _ 279 [cA 81, cU] [cA 87, cA 81] (Sn 88 p_87 sc) (apU u_91 C0z) _
  refine wp_dup (nx := 280) dX11_init_279 rfl (k1A _) ?_
  refine wp_bipush (nx := 282) dX11_init_280 rfl ⟨by decide, i32 (by decide)⟩ ?_
  refine wp_bipush (nx := 284) dX11_init_282 rfl ⟨by decide, i32 (by decide)⟩ ?_
  refine wp_bastore (nx := 285) dX11_init_284 rfl (sn_b (by decide)) (sn_i (by decide)) (sn_t (by decide)) ?_
  refine wp_heap (C2 := (apU u_92 C0z)) rfl (by rw [show nB 121 = 121 by decide]; rfl) ?_
  show Wp _ _ _ _ 285 [cA 81, cU] [cA 87, cA 81] (Sn 88 p_87 sc) (apU u_92 C0z) _
  refine wp_dup (nx := 286) dX11_init_285 rfl (k1A _) ?_
  refine wp_bipush (nx := 288) dX11_init_286 rfl ⟨by decide, i32 (by decide)⟩ ?_
  refine wp_bipush (nx := 290) dX11_init_288 rfl ⟨by decide, i32 (by decide)⟩ ?_
  refine wp_bastore (nx := 291) dX11_init_290 rfl (sn_b (by decide)) (sn_i (by decide)) (sn_t (by decide)) ?_
  refine wp_heap (C2 := (apU u_93 C0z)) rfl (by rw [show nB 32 = 32 by decide]; rfl) ?_
  show Wp _ _ _ _ 291 [cA 81, cU] [cA 87, cA 81] (Sn 88 p_87 sc) (apU u_93 C0z) _
  refine wp_dup (nx := 292) dX11_init_291 rfl (k1A _) ?_
  refine wp_bipush (nx := 294) dX11_init_292 rfl ⟨by decide, i32 (by decide)⟩ ?_
  refine wp_bipush (nx := 296) dX11_init_294 rfl ⟨by decide, i32 (by decide)⟩ ?_
  refine wp_bastore (nx := 297) dX11_init_296 rfl (sn_b (by decide)) (sn_i (by decide)) (sn_t (by decide)) ?_
  refine wp_heap (C2 := (apU u_94 C0z)) rfl (by rw [show nB 98 = 98 by decide]; rfl) ?_
  show Wp _ _ _ _ 297 [cA 81, cU] [cA 87, cA 81] (Sn 88 p_87 sc) (apU u_94 C0z) _
  refine wp_dup (nx := 298) dX11_init_297 rfl (k1A _) ?_
  refine wp_bipush (nx := 300) dX11_init_298 rfl ⟨by decide, i32 (by decide)⟩ ?_
  refine wp_bipush (nx := 302) dX11_init_300 rfl ⟨by decide, i32 (by decide)⟩ ?_
  refine wp_bastore (nx := 303) dX11_init_302 rfl (sn_b (by decide)) (sn_i (by decide)) (sn_t (by decide)) ?_
  refine wp_heap (C2 := (apU u_95 C0z)) rfl (by rw [show nB 101 = 101 by decide]; rfl) ?_
  show Wp _ _ _ _ 303 [cA 81, cU] [cA 87, cA 81] (Sn 88 p_87 sc) (apU u_95 C0z) _
  refine wp_dup (nx := 304) dX11_init_303 rfl (k1A _) ?_
  refine wp_bipush (nx := 306) dX11_init_304 rfl ⟨by decide, i32 (by decide)⟩ ?_
  refine wp_bipush (nx := 308) dX11_init_306 rfl ⟨by decide, i32 (by decide)⟩ ?_
  refine wp_bastore (nx := 309) dX11_init_308 rfl (sn_b (by decide)) (sn_i (by decide)) (sn_t (by decide)) ?_
  refine wp_heap (C2 := (apU u_96 C0z)) rfl (by rw [show nB 97 = 97 by decide]; rfl) ?_
  show Wp _ _ _ _ 309 [cA 81, cU] [cA 87, cA 81] (Sn 88 p_87 sc) (apU u_96 C0z) _
  refine wp_dup (nx := 310) dX11_init_309 rfl (k1A _) ?_
  refine wp_bipush (nx := 312) dX11_init_310 rfl ⟨by decide, i32 (by decide)⟩ ?_
  refine wp_bipush (nx := 314) dX11_init_312 rfl ⟨by decide, i32 (by decide)⟩ ?_
  refine wp_bastore (nx := 315) dX11_init_314 rfl (sn_b (by decide)) (sn_i (by decide)) (sn_t (by decide)) ?_
  refine wp_heap (C2 := (apU u_97 C0z)) rfl (by rw [show nB 116 = 116 by decide]; rfl) ?_
  show Wp _ _ _ _ 315 [cA 81, cU] [cA 87, cA 81] (Sn 88 p_87 sc) (apU u_97 C0z) _
  refine wp_dup (nx := 316) dX11_init_315 rfl (k1A _) ?_
  refine wp_bipush (nx := 318) dX11_init_316 rfl ⟨by decide, i32 (by decide)⟩ ?_
  refine wp_bipush (nx := 320) dX11_init_318 rfl ⟨by decide, i32 (by decide)⟩ ?_
  refine wp_bastore (nx := 321) dX11_init_320 rfl (sn_b (by decide)) (sn_i (by decide)) (sn_t (by decide)) ?_
  refine wp_heap (C2 := (apU u_98 C0z)) rfl (by rw [show nB 32 = 32 by decide]; rfl) ?_
  show Wp _ _ _ _ 321 [cA 81, cU] [cA 87, cA 81] (Sn 88 p_87 sc) (apU u_98 C0z) _
  refine wp_dup (nx := 322) dX11_init_321 rfl (k1A _) ?_
  refine wp_bipush (nx := 324) dX11_init_322 rfl ⟨by decide, i32 (by decide)⟩ ?_
  refine wp_bipush (nx := 326) dX11_init_324 rfl ⟨by decide, i32 (by decide)⟩ ?_
  refine wp_bastore (nx := 327) dX11_init_326 rfl (sn_b (by decide)) (sn_i (by decide)) (sn_t (by decide)) ?_
  refine wp_heap (C2 := (apU u_99 C0z)) rfl (by rw [show nB 104 = 104 by decide]; rfl) ?_
  show Wp _ _ _ _ 327 [cA 81, cU] [cA 87, cA 81] (Sn 88 p_87 sc) (apU u_99 C0z) _
  refine wp_dup (nx := 328) dX11_init_327 rfl (k1A _) ?_
  refine wp_bipush (nx := 330) dX11_init_328 rfl ⟨by decide, i32 (by decide)⟩ ?_
  refine wp_bipush (nx := 332) dX11_init_330 rfl ⟨by decide, i32 (by decide)⟩ ?_
  refine wp_bastore (nx := 333) dX11_init_332 rfl (sn_b (by decide)) (sn_i (by decide)) (sn_t (by decide)) ?_
  refine wp_heap (C2 := (apU u_100 C0z)) rfl (by rw [show nB 97 = 97 by decide]; rfl) ?_
  show Wp _ _ _ _ 333 [cA 81, cU] [cA 87, cA 81] (Sn 88 p_87 sc) (apU u_100 C0z) _
  refine wp_dup (nx := 334) dX11_init_333 rfl (k1A _) ?_
  refine wp_bipush (nx := 336) dX11_init_334 rfl ⟨by decide, i32 (by decide)⟩ ?_
  refine wp_bipush (nx := 338) dX11_init_336 rfl ⟨by decide, i32 (by decide)⟩ ?_
  refine wp_bastore (nx := 339) dX11_init_338 rfl (sn_b (by decide)) (sn_i (by decide)) (sn_t (by decide)) ?_
  refine wp_heap (C2 := (apU u_101 C0z)) rfl (by rw [show nB 110 = 110 by decide]; rfl) ?_
  show Wp _ _ _ _ 339 [cA 81, cU] [cA 87, cA 81] (Sn 88 p_87 sc) (apU u_101 C0z) _
  refine wp_dup (nx := 340) dX11_init_339 rfl (k1A _) ?_
  refine wp_bipush (nx := 342) dX11_init_340 rfl ⟨by decide, i32 (by decide)⟩ ?_
  refine wp_bipush (nx := 344) dX11_init_342 rfl ⟨by decide, i32 (by decide)⟩ ?_
  refine wp_bastore (nx := 345) dX11_init_344 rfl (sn_b (by decide)) (sn_i (by decide)) (sn_t (by decide)) ?_
  refine wp_heap (C2 := (apU u_102 C0z)) rfl (by rw [show nB 100 = 100 by decide]; rfl) ?_
  show Wp _ _ _ _ 345 [cA 81, cU] [cA 87, cA 81] (Sn 88 p_87 sc) (apU u_102 C0z) _
  refine wp_dup (nx := 346) dX11_init_345 rfl (k1A _) ?_
  refine wp_bipush (nx := 348) dX11_init_346 rfl ⟨by decide, i32 (by decide)⟩ ?_
  refine wp_bipush (nx := 350) dX11_init_348 rfl ⟨by decide, i32 (by decide)⟩ ?_
  refine wp_bastore (nx := 351) dX11_init_350 rfl (sn_b (by decide)) (sn_i (by decide)) (sn_t (by decide)) ?_
  refine wp_heap (C2 := (apU u_103 C0z)) rfl (by rw [show nB 115 = 115 by decide]; rfl) ?_
  show Wp _ _ _ _ 351 [cA 81, cU] [cA 87, cA 81] (Sn 88 p_87 sc) (apU u_103 C0z) _
  refine wp_dup (nx := 352) dX11_init_351 rfl (k1A _) ?_
  refine wp_bipush (nx := 354) dX11_init_352 rfl ⟨by decide, i32 (by decide)⟩ ?_
  refine wp_bipush (nx := 356) dX11_init_354 rfl ⟨by decide, i32 (by decide)⟩ ?_
  refine wp_bastore (nx := 357) dX11_init_356 rfl (sn_b (by decide)) (sn_i (by decide)) (sn_t (by decide)) ?_
  refine wp_heap (C2 := (apU u_104 C0z)) rfl (by rw [show nB 32 = 32 by decide]; rfl) ?_
  show Wp _ _ _ _ 357 [cA 81, cU] [cA 87, cA 81] (Sn 88 p_87 sc) (apU u_104 C0z) _
  refine wp_dup (nx := 358) dX11_init_357 rfl (k1A _) ?_
  refine wp_bipush (nx := 360) dX11_init_358 rfl ⟨by decide, i32 (by decide)⟩ ?_
  refine wp_bipush (nx := 362) dX11_init_360 rfl ⟨by decide, i32 (by decide)⟩ ?_
  refine wp_bastore (nx := 363) dX11_init_362 rfl (sn_b (by decide)) (sn_i (by decide)) (sn_t (by decide)) ?_
  refine wp_heap (C2 := (apU u_105 C0z)) rfl (by rw [show nB 114 = 114 by decide]; rfl) ?_
  show Wp _ _ _ _ 363 [cA 81, cU] [cA 87, cA 81] (Sn 88 p_87 sc) (apU u_105 C0z) _
  refine wp_dup (nx := 364) dX11_init_363 rfl (k1A _) ?_
  refine wp_bipush (nx := 366) dX11_init_364 rfl ⟨by decide, i32 (by decide)⟩ ?_
  refine wp_bipush (nx := 368) dX11_init_366 rfl ⟨by decide, i32 (by decide)⟩ ?_
  refine wp_bastore (nx := 369) dX11_init_368 rfl (sn_b (by decide)) (sn_i (by decide)) (sn_t (by decide)) ?_
  refine wp_heap (C2 := (apU u_106 C0z)) rfl (by rw [show nB 101 = 101 by decide]; rfl) ?_
  show Wp _ _ _ _ 369 [cA 81, cU] [cA 87, cA 81] (Sn 88 p_87 sc) (apU u_106 C0z) _
  refine wp_dup (nx := 370) dX11_init_369 rfl (k1A _) ?_
  refine wp_bipush (nx := 372) dX11_init_370 rfl ⟨by decide, i32 (by decide)⟩ ?_
  refine wp_bipush (nx := 374) dX11_init_372 rfl ⟨by decide, i32 (by decide)⟩ ?_
  refine wp_bastore (nx := 375) dX11_init_374 rfl (sn_b (by decide)) (sn_i (by decide)) (sn_t (by decide)) ?_
  refine wp_heap (C2 := (apU u_107 C0z)) rfl (by rw [show nB 97 = 97 by decide]; rfl) ?_
  show Wp _ _ _ _ 375 [cA 81, cU] [cA 87, cA 81] (Sn 88 p_87 sc) (apU u_107 C0z) _
  refine wp_dup (nx := 376) dX11_init_375 rfl (k1A _) ?_
  refine wp_bipush (nx := 378) dX11_init_376 rfl ⟨by decide, i32 (by decide)⟩ ?_
  refine wp_bipush (nx := 380) dX11_init_378 rfl ⟨by decide, i32 (by decide)⟩ ?_
  refine wp_bastore (nx := 381) dX11_init_380 rfl (sn_b (by decide)) (sn_i (by decide)) (sn_t (by decide)) ?_
  refine wp_heap (C2 := (apU u_108 C0z)) rfl (by rw [show nB 99 = 99 by decide]; rfl) ?_
  show Wp _ _ _ _ 381 [cA 81, cU] [cA 87, cA 81] (Sn 88 p_87 sc) (apU u_108 C0z) _
  refine wp_dup (nx := 382) dX11_init_381 rfl (k1A _) ?_
  refine wp_bipush (nx := 384) dX11_init_382 rfl ⟨by decide, i32 (by decide)⟩ ?_
  refine wp_bipush (nx := 386) dX11_init_384 rfl ⟨by decide, i32 (by decide)⟩ ?_
  refine wp_bastore (nx := 387) dX11_init_386 rfl (sn_b (by decide)) (sn_i (by decide)) (sn_t (by decide)) ?_
  refine wp_heap (C2 := (apU u_109 C0z)) rfl (by rw [show nB 104 = 104 by decide]; rfl) ?_
  show Wp _ _ _ _ 387 [cA 81, cU] [cA 87, cA 81] (Sn 88 p_87 sc) (apU u_109 C0z) _
  refine wp_dup (nx := 388) dX11_init_387 rfl (k1A _) ?_
  refine wp_bipush (nx := 390) dX11_init_388 rfl ⟨by decide, i32 (by decide)⟩ ?_
  refine wp_bipush (nx := 392) dX11_init_390 rfl ⟨by decide, i32 (by decide)⟩ ?_
  refine wp_bastore (nx := 393) dX11_init_392 rfl (sn_b (by decide)) (sn_i (by decide)) (sn_t (by decide)) ?_
  refine wp_heap (C2 := (apU u_110 C0z)) rfl (by rw [show nB 32 = 32 by decide]; rfl) ?_
  show Wp _ _ _ _ 393 [cA 81, cU] [cA 87, cA 81] (Sn 88 p_87 sc) (apU u_110 C0z) _
  refine wp_dup (nx := 394) dX11_init_393 rfl (k1A _) ?_
  refine wp_bipush (nx := 396) dX11_init_394 rfl ⟨by decide, i32 (by decide)⟩ ?_
  refine wp_bipush (nx := 398) dX11_init_396 rfl ⟨by decide, i32 (by decide)⟩ ?_
  refine wp_bastore (nx := 399) dX11_init_398 rfl (sn_b (by decide)) (sn_i (by decide)) (sn_t (by decide)) ?_
  refine wp_heap (C2 := (apU u_111 C0z)) rfl (by rw [show nB 109 = 109 by decide]; rfl) ?_
  show Wp _ _ _ _ 399 [cA 81, cU] [cA 87, cA 81] (Sn 88 p_87 sc) (apU u_111 C0z) _
  refine wp_dup (nx := 400) dX11_init_399 rfl (k1A _) ?_
  refine wp_bipush (nx := 402) dX11_init_400 rfl ⟨by decide, i32 (by decide)⟩ ?_
  refine wp_bipush (nx := 404) dX11_init_402 rfl ⟨by decide, i32 (by decide)⟩ ?_
  refine wp_bastore (nx := 405) dX11_init_404 rfl (sn_b (by decide)) (sn_i (by decide)) (sn_t (by decide)) ?_
  refine wp_heap (C2 := (apU u_112 C0z)) rfl (by rw [show nB 111 = 111 by decide]; rfl) ?_
  show Wp _ _ _ _ 405 [cA 81, cU] [cA 87, cA 81] (Sn 88 p_87 sc) (apU u_112 C0z) _
  refine wp_dup (nx := 406) dX11_init_405 rfl (k1A _) ?_
  refine wp_bipush (nx := 408) dX11_init_406 rfl ⟨by decide, i32 (by decide)⟩ ?_
  refine wp_bipush (nx := 410) dX11_init_408 rfl ⟨by decide, i32 (by decide)⟩ ?_
  refine wp_bastore (nx := 411) dX11_init_410 rfl (sn_b (by decide)) (sn_i (by decide)) (sn_t (by decide)) ?_
  refine wp_heap (C2 := (apU u_113 C0z)) rfl (by rw [show nB 111 = 111 by decide]; rfl) ?_
  show Wp _ _ _ _ 411 [cA 81, cU] [cA 87, cA 81] (Sn 88 p_87 sc) (apU u_113 C0z) _
  refine wp_dup (nx := 412) dX11_init_411 rfl (k1A _) ?_
  refine wp_bipush (nx := 414) dX11_init_412 rfl ⟨by decide, i32 (by decide)⟩ ?_
  refine wp_bipush (nx := 416) dX11_init_414 rfl ⟨by decide, i32 (by decide)⟩ ?_
  refine wp_bastore (nx := 417) dX11_init_416 rfl (sn_b (by decide)) (sn_i (by decide)) (sn_t (by decide)) ?_
  refine wp_heap (C2 := (apU u_114 C0z)) rfl (by rw [show nB 100 = 100 by decide]; rfl) ?_
  show Wp _ _ _ _ 417 [cA 81, cU] [cA 87, cA 81] (Sn 88 p_87 sc) (apU u_114 C0z) _
  refine wp_dup (nx := 418) dX11_init_417 rfl (k1A _) ?_
  refine wp_bipush (nx := 420) dX11_init_418 rfl ⟨by decide, i32 (by decide)⟩ ?_
  refine wp_bipush (nx := 422) dX11_init_420 rfl ⟨by decide, i32 (by decide)⟩ ?_
  refine wp_bastore (nx := 423) dX11_init_422 rfl (sn_b (by decide)) (sn_i (by decide)) (sn_t (by decide)) ?_
  refine wp_heap (C2 := (apU u_115 C0z)) rfl (by rw [show nB 32 = 32 by decide]; rfl) ?_
  show Wp _ _ _ _ 423 [cA 81, cU] [cA 87, cA 81] (Sn 88 p_87 sc) (apU u_115 C0z) _
  refine wp_dup (nx := 424) dX11_init_423 rfl (k1A _) ?_
  refine wp_bipush (nx := 426) dX11_init_424 rfl ⟨by decide, i32 (by decide)⟩ ?_
  refine wp_bipush (nx := 428) dX11_init_426 rfl ⟨by decide, i32 (by decide)⟩ ?_
  refine wp_bastore (nx := 429) dX11_init_428 rfl (sn_b (by decide)) (sn_i (by decide)) (sn_t (by decide)) ?_
  refine wp_heap (C2 := (apU u_116 C0z)) rfl (by rw [show nB 111 = 111 by decide]; rfl) ?_
  show Wp _ _ _ _ 429 [cA 81, cU] [cA 87, cA 81] (Sn 88 p_87 sc) (apU u_116 C0z) _
  refine wp_dup (nx := 430) dX11_init_429 rfl (k1A _) ?_
  refine wp_bipush (nx := 432) dX11_init_430 rfl ⟨by decide, i32 (by decide)⟩ ?_
  refine wp_bipush (nx := 434) dX11_init_432 rfl ⟨by decide, i32 (by decide)⟩ ?_
  refine wp_bastore (nx := 435) dX11_init_434 rfl (sn_b (by decide)) (sn_i (by decide)) (sn_t (by decide)) ?_
  refine wp_heap (C2 := (apU u_117 C0z)) rfl (by rw [show nB 119 = 119 by decide]; rfl) ?_
  show Wp _ _ _ _ 435 [cA 81, cU] [cA 87, cA 81] (Sn 88 p_87 sc) (apU u_117 C0z) _
  refine wp_dup (nx := 436) dX11_init_435 rfl (k1A _) ?_
  refine wp_bipush (nx := 438) dX11_init_436 rfl ⟨by decide, i32 (by decide)⟩ ?_
  refine wp_bipush (nx := 440) dX11_init_438 rfl ⟨by decide, i32 (by decide)⟩ ?_
  refine wp_bastore (nx := 441) dX11_init_440 rfl (sn_b (by decide)) (sn_i (by decide)) (sn_t (by decide)) ?_
  refine wp_heap (C2 := (apU u_118 C0z)) rfl (by rw [show nB 110 = 110 by decide]; rfl) ?_
  show Wp _ _ _ _ 441 [cA 81, cU] [cA 87, cA 81] (Sn 88 p_87 sc) (apU u_118 C0z) _
  refine wp_dup (nx := 442) dX11_init_441 rfl (k1A _) ?_
  refine wp_bipush (nx := 444) dX11_init_442 rfl ⟨by decide, i32 (by decide)⟩ ?_
  refine wp_bipush (nx := 446) dX11_init_444 rfl ⟨by decide, i32 (by decide)⟩ ?_
  refine wp_bastore (nx := 447) dX11_init_446 rfl (sn_b (by decide)) (sn_i (by decide)) (sn_t (by decide)) ?_
  refine wp_heap (C2 := (apU u_119 C0z)) rfl (by rw [show nB 101 = 101 by decide]; rfl) ?_
  show Wp _ _ _ _ 447 [cA 81, cU] [cA 87, cA 81] (Sn 88 p_87 sc) (apU u_119 C0z) _
  refine wp_dup (nx := 448) dX11_init_447 rfl (k1A _) ?_
  refine wp_bipush (nx := 450) dX11_init_448 rfl ⟨by decide, i32 (by decide)⟩ ?_
  refine wp_bipush (nx := 452) dX11_init_450 rfl ⟨by decide, i32 (by decide)⟩ ?_
  refine wp_bastore (nx := 453) dX11_init_452 rfl (sn_b (by decide)) (sn_i (by decide)) (sn_t (by decide)) ?_
  refine wp_heap (C2 := (apU u_120 C0z)) rfl (by rw [show nB 114 = 114 by decide]; rfl) ?_
  show Wp _ _ _ _ 453 [cA 81, cU] [cA 87, cA 81] (Sn 88 p_87 sc) (apU u_120 C0z) _
  refine wp_dup (nx := 454) dX11_init_453 rfl (k1A _) ?_
  refine wp_bipush (nx := 456) dX11_init_454 rfl ⟨by decide, i32 (by decide)⟩ ?_
  refine wp_bipush (nx := 458) dX11_init_456 rfl ⟨by decide, i32 (by decide)⟩ ?_
  refine wp_bastore (nx := 459) dX11_init_458 rfl (sn_b (by decide)) (sn_i (by decide)) (sn_t (by decide)) ?_
  refine wp_heap (C2 := (apU u_121 C0z)) rfl (by rw [show nB 32 = 32 by decide]; rfl) ?_
  show Wp _ _ _ _ 459 [cA 81, cU] [cA 87, cA 81] (Sn 88 p_87 sc) (apU u_121 C0z) _
  refine wp_dup (nx := 460) dX11_init_459 rfl (k1A _) ?_
  refine wp_bipush (nx := 462) dX11_init_460 rfl ⟨by decide, i32 (by decide)⟩ ?_
  refine wp_bipush (nx := 464) dX11_init_462 rfl ⟨by decide, i32 (by decide)⟩ ?_
  refine wp_bastore (nx := 465) dX11_init_464 rfl (sn_b (by decide)) (sn_i (by decide)) (sn_t (by decide)) ?_
  refine wp_heap (C2 := (apU u_122 C0z)) rfl (by rw [show nB 100 = 100 by decide]; rfl) ?_
  show Wp _ _ _ _ 465 [cA 81, cU] [cA 87, cA 81] (Sn 88 p_87 sc) (apU u_122 C0z) _
  refine wp_dup (nx := 466) dX11_init_465 rfl (k1A _) ?_
  refine wp_bipush (nx := 468) dX11_init_466 rfl ⟨by decide, i32 (by decide)⟩ ?_
  refine wp_bipush (nx := 470) dX11_init_468 rfl ⟨by decide, i32 (by decide)⟩ ?_
  refine wp_bastore (nx := 471) dX11_init_470 rfl (sn_b (by decide)) (sn_i (by decide)) (sn_t (by decide)) ?_
  refine wp_heap (C2 := (apU u_123 C0z)) rfl (by rw [show nB 97 = 97 by decide]; rfl) ?_
  show Wp _ _ _ _ 471 [cA 81, cU] [cA 87, cA 81] (Sn 88 p_87 sc) (apU u_123 C0z) _
  refine wp_dup (nx := 472) dX11_init_471 rfl (k1A _) ?_
  refine wp_bipush (nx := 474) dX11_init_472 rfl ⟨by decide, i32 (by decide)⟩ ?_
  refine wp_bipush (nx := 476) dX11_init_474 rfl ⟨by decide, i32 (by decide)⟩ ?_
  refine wp_bastore (nx := 477) dX11_init_476 rfl (sn_b (by decide)) (sn_i (by decide)) (sn_t (by decide)) ?_
  refine wp_heap (C2 := (apU u_124 C0z)) rfl (by rw [show nB 121 = 121 by decide]; rfl) ?_
  show Wp _ _ _ _ 477 [cA 81, cU] [cA 87, cA 81] (Sn 88 p_87 sc) (apU u_124 C0z) _
  refine wp_dup (nx := 478) dX11_init_477 rfl (k1A _) ?_
  refine wp_bipush (nx := 480) dX11_init_478 rfl ⟨by decide, i32 (by decide)⟩ ?_
  refine wp_bipush (nx := 482) dX11_init_480 rfl ⟨by decide, i32 (by decide)⟩ ?_
  refine wp_bastore (nx := 483) dX11_init_482 rfl (sn_b (by decide)) (sn_i (by decide)) (sn_t (by decide)) ?_
  refine wp_heap (C2 := (apU u_125 C0z)) rfl (by rw [show nB 32 = 32 by decide]; rfl) ?_
  show Wp _ _ _ _ 483 [cA 81, cU] [cA 87, cA 81] (Sn 88 p_87 sc) (apU u_125 C0z) _
  refine wp_dup (nx := 484) dX11_init_483 rfl (k1A _) ?_
  refine wp_bipush (nx := 486) dX11_init_484 rfl ⟨by decide, i32 (by decide)⟩ ?_
  refine wp_bipush (nx := 488) dX11_init_486 rfl ⟨by decide, i32 (by decide)⟩ ?_
  refine wp_bastore (nx := 489) dX11_init_488 rfl (sn_b (by decide)) (sn_i (by decide)) (sn_t (by decide)) ?_
  refine wp_heap (C2 := (apU u_126 C0z)) rfl (by rw [show nB 100 = 100 by decide]; rfl) ?_
  show Wp _ _ _ _ 489 [cA 81, cU] [cA 87, cA 81] (Sn 88 p_87 sc) (apU u_126 C0z) _
  refine wp_dup (nx := 490) dX11_init_489 rfl (k1A _) ?_
  refine wp_bipush (nx := 492) dX11_init_490 rfl ⟨by decide, i32 (by decide)⟩ ?_
  refine wp_bipush (nx := 494) dX11_init_492 rfl ⟨by decide, i32 (by decide)⟩ ?_
  refine wp_bastore (nx := 495) dX11_init_494 rfl (sn_b (by decide)) (sn_i (by decide)) (sn_t (by decide)) ?_
  refine wp_heap (C2 := (apU u_127 C0z)) rfl (by rw [show nB 111 = 111 by decide]; rfl) ?_
  show Wp _ _ _ _ 495 [cA 81, cU] [cA 87, cA 81] (Sn 88 p_87 sc) (apU u_127 C0z) _
  refine wp_dup (nx := 496) dX11_init_495 rfl (k1A _) ?_
  refine wp_bipush (nx := 498) dX11_init_496 rfl ⟨by decide, i32 (by decide)⟩ ?_
  refine wp_bipush (nx := 500) dX11_init_498 rfl ⟨by decide, i32 (by decide)⟩ ?_
  refine wp_bastore (nx := 501) dX11_init_500 rfl (sn_b (by decide)) (sn_i (by decide)) (sn_t (by decide)) ?_
  refine wp_heap (C2 := (apU u_128 C0z)) rfl (by rw [show nB 110 = 110 by decide]; rfl) ?_
  show Wp _ _ _ _ 501 [cA 81, cU] [cA 87, cA 81] (Sn 88 p_87 sc) (apU u_128 C0z) _
  refine wp_dup (nx := 502) dX11_init_501 rfl (k1A _) ?_
  refine wp_bipush (nx := 504) dX11_init_502 rfl ⟨by decide, i32 (by decide)⟩ ?_
  refine wp_bipush (nx := 506) dX11_init_504 rfl ⟨by decide, i32 (by decide)⟩ ?_
  refine wp_bastore (nx := 507) dX11_init_506 rfl (sn_b (by decide)) (sn_i (by decide)) (sn_t (by decide)) ?_
  refine wp_heap (C2 := (apU u_129 C0z)) rfl (by rw [show nB 101 = 101 by decide]; rfl) ?_
  show Wp _ _ _ _ 507 [cA 81, cU] [cA 87, cA 81] (Sn 88 p_87 sc) (apU u_129 C0z) _
  refine wp_dup (nx := 508) dX11_init_507 rfl (k1A _) ?_
  refine wp_bipush (nx := 510) dX11_init_508 rfl ⟨by decide, i32 (by decide)⟩ ?_
  refine wp_bipush (nx := 512) dX11_init_510 rfl ⟨by decide, i32 (by decide)⟩ ?_
  refine wp_bastore (nx := 513) dX11_init_512 rfl (sn_b (by decide)) (sn_i (by decide)) (sn_t (by decide)) ?_
  refine wp_heap (C2 := (apU u_130 C0z)) rfl (by rw [show nB 32 = 32 by decide]; rfl) ?_
  show Wp _ _ _ _ 513 [cA 81, cU] [cA 87, cA 81] (Sn 88 p_87 sc) (apU u_130 C0z) _
  refine wp_dup (nx := 514) dX11_init_513 rfl (k1A _) ?_
  refine wp_bipush (nx := 516) dX11_init_514 rfl ⟨by decide, i32 (by decide)⟩ ?_
  refine wp_bipush (nx := 518) dX11_init_516 rfl ⟨by decide, i32 (by decide)⟩ ?_
  refine wp_bastore (nx := 519) dX11_init_518 rfl (sn_b (by decide)) (sn_i (by decide)) (sn_t (by decide)) ?_
  refine wp_heap (C2 := (apU u_131 C0z)) rfl (by rw [show nB 108 = 108 by decide]; rfl) ?_
  show Wp _ _ _ _ 519 [cA 81, cU] [cA 87, cA 81] (Sn 88 p_87 sc) (apU u_131 C0z) _
  refine wp_dup (nx := 520) dX11_init_519 rfl (k1A _) ?_
  refine wp_bipush (nx := 522) dX11_init_520 rfl ⟨by decide, i32 (by decide)⟩ ?_
  refine wp_bipush (nx := 524) dX11_init_522 rfl ⟨by decide, i32 (by decide)⟩ ?_
  refine wp_bastore (nx := 525) dX11_init_524 rfl (sn_b (by decide)) (sn_i (by decide)) (sn_t (by decide)) ?_
  refine wp_heap (C2 := (apU u_132 C0z)) rfl (by rw [show nB 97 = 97 by decide]; rfl) ?_
  show Wp _ _ _ _ 525 [cA 81, cU] [cA 87, cA 81] (Sn 88 p_87 sc) (apU u_132 C0z) _
  refine wp_dup (nx := 526) dX11_init_525 rfl (k1A _) ?_
  refine wp_bipush (nx := 528) dX11_init_526 rfl ⟨by decide, i32 (by decide)⟩ ?_
  refine wp_bipush (nx := 530) dX11_init_528 rfl ⟨by decide, i32 (by decide)⟩ ?_
  refine wp_bastore (nx := 531) dX11_init_530 rfl (sn_b (by decide)) (sn_i (by decide)) (sn_t (by decide)) ?_
  refine wp_heap (C2 := (apU u_133 C0z)) rfl (by rw [show nB 116 = 116 by decide]; rfl) ?_
  show Wp _ _ _ _ 531 [cA 81, cU] [cA 87, cA 81] (Sn 88 p_87 sc) (apU u_133 C0z) _
  refine wp_dup (nx := 532) dX11_init_531 rfl (k1A _) ?_
  refine wp_bipush (nx := 534) dX11_init_532 rfl ⟨by decide, i32 (by decide)⟩ ?_
  refine wp_bipush (nx := 536) dX11_init_534 rfl ⟨by decide, i32 (by decide)⟩ ?_
  refine wp_bastore (nx := 537) dX11_init_536 rfl (sn_b (by decide)) (sn_i (by decide)) (sn_t (by decide)) ?_
  refine wp_heap (C2 := (apU u_134 C0z)) rfl (by rw [show nB 101 = 101 by decide]; rfl) ?_
  show Wp _ _ _ _ 537 [cA 81, cU] [cA 87, cA 81] (Sn 88 p_87 sc) (apU u_134 C0z) _
  refine wp_dup (nx := 538) dX11_init_537 rfl (k1A _) ?_
  refine wp_bipush (nx := 540) dX11_init_538 rfl ⟨by decide, i32 (by decide)⟩ ?_
  refine wp_bipush (nx := 542) dX11_init_540 rfl ⟨by decide, i32 (by decide)⟩ ?_
  refine wp_bastore (nx := 543) dX11_init_542 rfl (sn_b (by decide)) (sn_i (by decide)) (sn_t (by decide)) ?_
  refine wp_heap (C2 := (apU u_135 C0z)) rfl (by rw [show nB 115 = 115 by decide]; rfl) ?_
  show Wp _ _ _ _ 543 [cA 81, cU] [cA 87, cA 81] (Sn 88 p_87 sc) (apU u_135 C0z) _
  refine wp_dup (nx := 544) dX11_init_543 rfl (k1A _) ?_
  refine wp_bipush (nx := 546) dX11_init_544 rfl ⟨by decide, i32 (by decide)⟩ ?_
  refine wp_bipush (nx := 548) dX11_init_546 rfl ⟨by decide, i32 (by decide)⟩ ?_
  refine wp_bastore (nx := 549) dX11_init_548 rfl (sn_b (by decide)) (sn_i (by decide)) (sn_t (by decide)) ?_
  refine wp_heap (C2 := (apU u_136 C0z)) rfl (by rw [show nB 116 = 116 by decide]; rfl) ?_
  show Wp _ _ _ _ 549 [cA 81, cU] [cA 87, cA 81] (Sn 88 p_87 sc) (apU u_136 C0z) _
  refine wp_dup (nx := 550) dX11_init_549 rfl (k1A _) ?_
  refine wp_bipush (nx := 552) dX11_init_550 rfl ⟨by decide, i32 (by decide)⟩ ?_
  refine wp_bipush (nx := 554) dX11_init_552 rfl ⟨by decide, i32 (by decide)⟩ ?_
  refine wp_bastore (nx := 555) dX11_init_554 rfl (sn_b (by decide)) (sn_i (by decide)) (sn_t (by decide)) ?_
  refine wp_heap (C2 := (apU u_137 C0z)) rfl (by rw [show nB 32 = 32 by decide]; rfl) ?_
  show Wp _ _ _ _ 555 [cA 81, cU] [cA 87, cA 81] (Sn 88 p_87 sc) (apU u_137 C0z) _
  refine wp_dup (nx := 556) dX11_init_555 rfl (k1A _) ?_
  refine wp_bipush (nx := 558) dX11_init_556 rfl ⟨by decide, i32 (by decide)⟩ ?_
  refine wp_bipush (nx := 560) dX11_init_558 rfl ⟨by decide, i32 (by decide)⟩ ?_
  refine wp_bastore (nx := 561) dX11_init_560 rfl (sn_b (by decide)) (sn_i (by decide)) (sn_t (by decide)) ?_
  refine wp_heap (C2 := (apU u_138 C0z)) rfl (by rw [show nB 100 = 100 by decide]; rfl) ?_
  show Wp _ _ _ _ 561 [cA 81, cU] [cA 87, cA 81] (Sn 88 p_87 sc) (apU u_138 C0z) _
  refine wp_dup (nx := 562) dX11_init_561 rfl (k1A _) ?_
  refine wp_bipush (nx := 564) dX11_init_562 rfl ⟨by decide, i32 (by decide)⟩ ?_
  refine wp_bipush (nx := 566) dX11_init_564 rfl ⟨by decide, i32 (by decide)⟩ ?_
  refine wp_bastore (nx := 567) dX11_init_566 rfl (sn_b (by decide)) (sn_i (by decide)) (sn_t (by decide)) ?_
  refine wp_heap (C2 := (apU u_139 C0z)) rfl (by rw [show nB 114 = 114 by decide]; rfl) ?_
  show Wp _ _ _ _ 567 [cA 81, cU] [cA 87, cA 81] (Sn 88 p_87 sc) (apU u_139 C0z) _
  refine wp_dup (nx := 568) dX11_init_567 rfl (k1A _) ?_
  refine wp_bipush (nx := 570) dX11_init_568 rfl ⟨by decide, i32 (by decide)⟩ ?_
  refine wp_bipush (nx := 572) dX11_init_570 rfl ⟨by decide, i32 (by decide)⟩ ?_
  refine wp_bastore (nx := 573) dX11_init_572 rfl (sn_b (by decide)) (sn_i (by decide)) (sn_t (by decide)) ?_
  refine wp_heap (C2 := (apU u_140 C0z)) rfl (by rw [show nB 105 = 105 by decide]; rfl) ?_
  show Wp _ _ _ _ 573 [cA 81, cU] [cA 87, cA 81] (Sn 88 p_87 sc) (apU u_140 C0z) _
  refine wp_dup (nx := 574) dX11_init_573 rfl (k1A _) ?_
  refine wp_bipush (nx := 576) dX11_init_574 rfl ⟨by decide, i32 (by decide)⟩ ?_
  refine wp_bipush (nx := 578) dX11_init_576 rfl ⟨by decide, i32 (by decide)⟩ ?_
  refine wp_bastore (nx := 579) dX11_init_578 rfl (sn_b (by decide)) (sn_i (by decide)) (sn_t (by decide)) ?_
  refine wp_heap (C2 := (apU u_141 C0z)) rfl (by rw [show nB 108 = 108 by decide]; rfl) ?_
  show Wp _ _ _ _ 579 [cA 81, cU] [cA 87, cA 81] (Sn 88 p_87 sc) (apU u_141 C0z) _
  refine wp_dup (nx := 580) dX11_init_579 rfl (k1A _) ?_
  refine wp_bipush (nx := 582) dX11_init_580 rfl ⟨by decide, i32 (by decide)⟩ ?_
  refine wp_bipush (nx := 584) dX11_init_582 rfl ⟨by decide, i32 (by decide)⟩ ?_
  refine wp_bastore (nx := 585) dX11_init_584 rfl (sn_b (by decide)) (sn_i (by decide)) (sn_t (by decide)) ?_
  refine wp_heap (C2 := (apU u_142 C0z)) rfl (by rw [show nB 108 = 108 by decide]; rfl) ?_
  show Wp _ _ _ _ 585 [cA 81, cU] [cA 87, cA 81] (Sn 88 p_87 sc) (apU u_142 C0z) _
  refine wp_dup (nx := 586) dX11_init_585 rfl (k1A _) ?_
  refine wp_bipush (nx := 588) dX11_init_586 rfl ⟨by decide, i32 (by decide)⟩ ?_
  refine wp_bipush (nx := 590) dX11_init_588 rfl ⟨by decide, i32 (by decide)⟩ ?_
  refine wp_bastore (nx := 591) dX11_init_590 rfl (sn_b (by decide)) (sn_i (by decide)) (sn_t (by decide)) ?_
  refine wp_heap (C2 := (apU u_143 C0z)) rfl (by rw [show nB 32 = 32 by decide]; rfl) ?_
  show Wp _ _ _ _ 591 [cA 81, cU] [cA 87, cA 81] (Sn 88 p_87 sc) (apU u_143 C0z) _
  refine wp_dup (nx := 592) dX11_init_591 rfl (k1A _) ?_
  refine wp_bipush (nx := 594) dX11_init_592 rfl ⟨by decide, i32 (by decide)⟩ ?_
  refine wp_bipush (nx := 596) dX11_init_594 rfl ⟨by decide, i32 (by decide)⟩ ?_
  refine wp_bastore (nx := 597) dX11_init_596 rfl (sn_b (by decide)) (sn_i (by decide)) (sn_t (by decide)) ?_
  refine wp_heap (C2 := (apU u_144 C0z)) rfl (by rw [show nB 110 = 110 by decide]; rfl) ?_
  show Wp _ _ _ _ 597 [cA 81, cU] [cA 87, cA 81] (Sn 88 p_87 sc) (apU u_144 C0z) _
  refine wp_dup (nx := 598) dX11_init_597 rfl (k1A _) ?_
  refine wp_bipush (nx := 600) dX11_init_598 rfl ⟨by decide, i32 (by decide)⟩ ?_
  refine wp_bipush (nx := 602) dX11_init_600 rfl ⟨by decide, i32 (by decide)⟩ ?_
  refine wp_bastore (nx := 603) dX11_init_602 rfl (sn_b (by decide)) (sn_i (by decide)) (sn_t (by decide)) ?_
  refine wp_heap (C2 := (apU u_145 C0z)) rfl (by rw [show nB 111 = 111 by decide]; rfl) ?_
  show Wp _ _ _ _ 603 [cA 81, cU] [cA 87, cA 81] (Sn 88 p_87 sc) (apU u_145 C0z) _
  refine wp_dup (nx := 604) dX11_init_603 rfl (k1A _) ?_
  refine wp_bipush (nx := 606) dX11_init_604 rfl ⟨by decide, i32 (by decide)⟩ ?_
  refine wp_bipush (nx := 608) dX11_init_606 rfl ⟨by decide, i32 (by decide)⟩ ?_
  refine wp_bastore (nx := 609) dX11_init_608 rfl (sn_b (by decide)) (sn_i (by decide)) (sn_t (by decide)) ?_
  refine wp_heap (C2 := (apU u_146 C0z)) rfl (by rw [show nB 116 = 116 by decide]; rfl) ?_
  show Wp _ _ _ _ 609 [cA 81, cU] [cA 87, cA 81] (Sn 88 p_87 sc) (apU u_146 C0z) _
  refine wp_dup (nx := 610) dX11_init_609 rfl (k1A _) ?_
  refine wp_bipush (nx := 612) dX11_init_610 rfl ⟨by decide, i32 (by decide)⟩ ?_
  refine wp_bipush (nx := 614) dX11_init_612 rfl ⟨by decide, i32 (by decide)⟩ ?_
  refine wp_bastore (nx := 615) dX11_init_614 rfl (sn_b (by decide)) (sn_i (by decide)) (sn_t (by decide)) ?_
  refine wp_heap (C2 := (apU u_147 C0z)) rfl (by rw [show nB 101 = 101 by decide]; rfl) ?_
  show Wp _ _ _ _ 615 [cA 81, cU] [cA 87, cA 81] (Sn 88 p_87 sc) (apU u_147 C0z) _
  refine wp_dup (nx := 616) dX11_init_615 rfl (k1A _) ?_
  refine wp_bipush (nx := 618) dX11_init_616 rfl ⟨by decide, i32 (by decide)⟩ ?_
  refine wp_bipush (nx := 620) dX11_init_618 rfl ⟨by decide, i32 (by decide)⟩ ?_
  refine wp_bastore (nx := 621) dX11_init_620 rfl (sn_b (by decide)) (sn_i (by decide)) (sn_t (by decide)) ?_
  refine wp_heap (C2 := (apU u_148 C0z)) rfl (by rw [show nB 115 = 115 by decide]; rfl) ?_
  show Wp _ _ _ _ 621 [cA 81, cU] [cA 87, cA 81] (Sn 88 p_87 sc) (apU u_148 C0z) _
  refine wp_dup (nx := 622) dX11_init_621 rfl (k1A _) ?_
  refine wp_bipush (nx := 624) dX11_init_622 rfl ⟨by decide, i32 (by decide)⟩ ?_
  refine wp_bipush (nx := 626) dX11_init_624 rfl ⟨by decide, i32 (by decide)⟩ ?_
  refine wp_bastore (nx := 627) dX11_init_626 rfl (sn_b (by decide)) (sn_i (by decide)) (sn_t (by decide)) ?_
  refine wp_heap (C2 := (apU u_149 C0z)) rfl (by rw [show nB 32 = 32 by decide]; rfl) ?_
  show Wp _ _ _ _ 627 [cA 81, cU] [cA 87, cA 81] (Sn 88 p_87 sc) (apU u_149 C0z) _
  refine wp_dup (nx := 628) dX11_init_627 rfl (k1A _) ?_
  refine wp_bipush (nx := 630) dX11_init_628 rfl ⟨by decide, i32 (by decide)⟩ ?_
  refine wp_bipush (nx := 632) dX11_init_630 rfl ⟨by decide, i32 (by decide)⟩ ?_
  refine wp_bastore (nx := 633) dX11_init_632 rfl (sn_b (by decide)) (sn_i (by decide)) (sn_t (by decide)) ?_
  refine wp_heap (C2 := (apU u_150 C0z)) rfl (by rw [show nB 109 = 109 by decide]; rfl) ?_
  show Wp _ _ _ _ 633 [cA 81, cU] [cA 87, cA 81] (Sn 88 p_87 sc) (apU u_150 C0z) _
  refine wp_dup (nx := 634) dX11_init_633 rfl (k1A _) ?_
  refine wp_bipush (nx := 636) dX11_init_634 rfl ⟨by decide, i32 (by decide)⟩ ?_
  refine wp_bipush (nx := 638) dX11_init_636 rfl ⟨by decide, i32 (by decide)⟩ ?_
  refine wp_bastore (nx := 639) dX11_init_638 rfl (sn_b (by decide)) (sn_i (by decide)) (sn_t (by decide)) ?_
  refine wp_heap (C2 := (apU u_151 C0z)) rfl (by rw [show nB 117 = 117 by decide]; rfl) ?_
  show Wp _ _ _ _ 639 [cA 81, cU] [cA 87, cA 81] (Sn 88 p_87 sc) (apU u_151 C0z) _
  refine wp_dup (nx := 640) dX11_init_639 rfl (k1A _) ?_
  refine wp_bipush (nx := 642) dX11_init_640 rfl ⟨by decide, i32 (by decide)⟩ ?_
  refine wp_bipush (nx := 644) dX11_init_642 rfl ⟨by decide, i32 (by decide)⟩ ?_
  refine wp_bastore (nx := 645) dX11_init_644 rfl (sn_b (by decide)) (sn_i (by decide)) (sn_t (by decide)) ?_
  refine wp_heap (C2 := (apU u_152 C0z)) rfl (by rw [show nB 115 = 115 by decide]; rfl) ?_
  show Wp _ _ _ _ 645 [cA 81, cU] [cA 87, cA 81] (Sn 88 p_87 sc) (apU u_152 C0z) _
  refine wp_dup (nx := 646) dX11_init_645 rfl (k1A _) ?_
  refine wp_bipush (nx := 648) dX11_init_646 rfl ⟨by decide, i32 (by decide)⟩ ?_
  refine wp_bipush (nx := 650) dX11_init_648 rfl ⟨by decide, i32 (by decide)⟩ ?_
  refine wp_bastore (nx := 651) dX11_init_650 rfl (sn_b (by decide)) (sn_i (by decide)) (sn_t (by decide)) ?_
  refine wp_heap (C2 := (apU u_153 C0z)) rfl (by rw [show nB 105 = 105 by decide]; rfl) ?_
  show Wp _ _ _ _ 651 [cA 81, cU] [cA 87, cA 81] (Sn 88 p_87 sc) (apU u_153 C0z) _
  refine wp_dup (nx := 652) dX11_init_651 rfl (k1A _) ?_
  refine wp_bipush (nx := 654) dX11_init_652 rfl ⟨by decide, i32 (by decide)⟩ ?_
  refine wp_bipush (nx := 656) dX11_init_654 rfl ⟨by decide, i32 (by decide)⟩ ?_
  refine wp_bastore (nx := 657) dX11_init_656 rfl (sn_b (by decide)) (sn_i (by decide)) (sn_t (by decide)) ?_
  refine wp_heap (C2 := (apU u_154 C0z)) rfl (by rw [show nB 99 = 99 by decide]; rfl) ?_
  show Wp _ _ _ _ 657 [cA 81, cU] [cA 87, cA 81] (Sn 88 p_87 sc) (apU u_154 C0z) _
  refine wp_dup (nx := 658) dX11_init_657 rfl (k1A _) ?_
  refine wp_bipush (nx := 660) dX11_init_658 rfl ⟨by decide, i32 (by decide)⟩ ?_
  refine wp_bipush (nx := 662) dX11_init_660 rfl ⟨by decide, i32 (by decide)⟩ ?_
  refine wp_bastore (nx := 663) dX11_init_662 rfl (sn_b (by decide)) (sn_i (by decide)) (sn_t (by decide)) ?_
  refine wp_heap (C2 := (apU u_155 C0z)) rfl (by rw [show nB 32 = 32 by decide]; rfl) ?_
  show Wp _ _ _ _ 663 [cA 81, cU] [cA 87, cA 81] (Sn 88 p_87 sc) (apU u_155 C0z) _
  refine wp_dup (nx := 664) dX11_init_663 rfl (k1A _) ?_
  refine wp_bipush (nx := 666) dX11_init_664 rfl ⟨by decide, i32 (by decide)⟩ ?_
  refine wp_bipush (nx := 668) dX11_init_666 rfl ⟨by decide, i32 (by decide)⟩ ?_
  refine wp_bastore (nx := 669) dX11_init_668 rfl (sn_b (by decide)) (sn_i (by decide)) (sn_t (by decide)) ?_
  refine wp_heap (C2 := (apU u_156 C0z)) rfl (by rw [show nB 110 = 110 by decide]; rfl) ?_
  show Wp _ _ _ _ 669 [cA 81, cU] [cA 87, cA 81] (Sn 88 p_87 sc) (apU u_156 C0z) _
  refine wp_dup (nx := 670) dX11_init_669 rfl (k1A _) ?_
  refine wp_bipush (nx := 672) dX11_init_670 rfl ⟨by decide, i32 (by decide)⟩ ?_
  refine wp_bipush (nx := 674) dX11_init_672 rfl ⟨by decide, i32 (by decide)⟩ ?_
  refine wp_bastore (nx := 675) dX11_init_674 rfl (sn_b (by decide)) (sn_i (by decide)) (sn_t (by decide)) ?_
  refine wp_heap (C2 := (apU u_157 C0z)) rfl (by rw [show nB 111 = 111 by decide]; rfl) ?_
  show Wp _ _ _ _ 675 [cA 81, cU] [cA 87, cA 81] (Sn 88 p_87 sc) (apU u_157 C0z) _
  refine wp_dup (nx := 676) dX11_init_675 rfl (k1A _) ?_
  refine wp_bipush (nx := 678) dX11_init_676 rfl ⟨by decide, i32 (by decide)⟩ ?_
  refine wp_bipush (nx := 680) dX11_init_678 rfl ⟨by decide, i32 (by decide)⟩ ?_
  refine wp_bastore (nx := 681) dX11_init_680 rfl (sn_b (by decide)) (sn_i (by decide)) (sn_t (by decide)) ?_
  refine wp_heap (C2 := (apU u_158 C0z)) rfl (by rw [show nB 116 = 116 by decide]; rfl) ?_
  show Wp _ _ _ _ 681 [cA 81, cU] [cA 87, cA 81] (Sn 88 p_87 sc) (apU u_158 C0z) _
  refine wp_dup (nx := 682) dX11_init_681 rfl (k1A _) ?_
  refine wp_bipush (nx := 684) dX11_init_682 rfl ⟨by decide, i32 (by decide)⟩ ?_
  refine wp_bipush (nx := 686) dX11_init_684 rfl ⟨by decide, i32 (by decide)⟩ ?_
  refine wp_bastore (nx := 687) dX11_init_686 rfl (sn_b (by decide)) (sn_i (by decide)) (sn_t (by decide)) ?_
  refine wp_heap (C2 := (apU u_159 C0z)) rfl (by rw [show nB 101 = 101 by decide]; rfl) ?_
  show Wp _ _ _ _ 687 [cA 81, cU] [cA 87, cA 81] (Sn 88 p_87 sc) (apU u_159 C0z) _
  refine wp_dup (nx := 688) dX11_init_687 rfl (k1A _) ?_
  refine wp_bipush (nx := 690) dX11_init_688 rfl ⟨by decide, i32 (by decide)⟩ ?_
  refine wp_bipush (nx := 692) dX11_init_690 rfl ⟨by decide, i32 (by decide)⟩ ?_
  refine wp_bastore (nx := 693) dX11_init_692 rfl (sn_b (by decide)) (sn_i (by decide)) (sn_t (by decide)) ?_
  refine wp_heap (C2 := (apU u_160 C0z)) rfl (by rw [show nB 32 = 32 by decide]; rfl) ?_
  show Wp _ _ _ _ 693 [cA 81, cU] [cA 87, cA 81] (Sn 88 p_87 sc) (apU u_160 C0z) _
  refine wp_dup (nx := 694) dX11_init_693 rfl (k1A _) ?_
  refine wp_bipush (nx := 696) dX11_init_694 rfl ⟨by decide, i32 (by decide)⟩ ?_
  refine wp_bipush (nx := 698) dX11_init_696 rfl ⟨by decide, i32 (by decide)⟩ ?_
  refine wp_bastore (nx := 699) dX11_init_698 rfl (sn_b (by decide)) (sn_i (by decide)) (sn_t (by decide)) ?_
  refine wp_heap (C2 := (apU u_161 C0z)) rfl (by rw [show nB 97 = 97 by decide]; rfl) ?_
  show Wp _ _ _ _ 699 [cA 81, cU] [cA 87, cA 81] (Sn 88 p_87 sc) (apU u_161 C0z) _
  refine wp_dup (nx := 700) dX11_init_699 rfl (k1A _) ?_
  refine wp_bipush (nx := 702) dX11_init_700 rfl ⟨by decide, i32 (by decide)⟩ ?_
  refine wp_bipush (nx := 704) dX11_init_702 rfl ⟨by decide, i32 (by decide)⟩ ?_
  refine wp_bastore (nx := 705) dX11_init_704 rfl (sn_b (by decide)) (sn_i (by decide)) (sn_t (by decide)) ?_
  refine wp_heap (C2 := (apU u_162 C0z)) rfl (by rw [show nB 116 = 116 by decide]; rfl) ?_
  show Wp _ _ _ _ 705 [cA 81, cU] [cA 87, cA 81] (Sn 88 p_87 sc) (apU u_162 C0z) _
  refine wp_dup (nx := 706) dX11_init_705 rfl (k1A _) ?_
  refine wp_bipush (nx := 708) dX11_init_706 rfl ⟨by decide, i32 (by decide)⟩ ?_
  refine wp_bipush (nx := 710) dX11_init_708 rfl ⟨by decide, i32 (by decide)⟩ ?_
  refine wp_bastore (nx := 711) dX11_init_710 rfl (sn_b (by decide)) (sn_i (by decide)) (sn_t (by decide)) ?_
  refine wp_heap (C2 := (apU u_163 C0z)) rfl (by rw [show nB 32 = 32 by decide]; rfl) ?_
  show Wp _ _ _ _ 711 [cA 81, cU] [cA 87, cA 81] (Sn 88 p_87 sc) (apU u_163 C0z) _
  refine wp_dup (nx := 712) dX11_init_711 rfl (k1A _) ?_
  refine wp_bipush (nx := 714) dX11_init_712 rfl ⟨by decide, i32 (by decide)⟩ ?_
  refine wp_bipush (nx := 716) dX11_init_714 rfl ⟨by decide, i32 (by decide)⟩ ?_
  refine wp_bastore (nx := 717) dX11_init_716 rfl (sn_b (by decide)) (sn_i (by decide)) (sn_t (by decide)) ?_
  refine wp_heap (C2 := (apU u_164 C0z)) rfl (by rw [show nB 103 = 103 by decide]; rfl) ?_
  show Wp _ _ _ _ 717 [cA 81, cU] [cA 87, cA 81] (Sn 88 p_87 sc) (apU u_164 C0z) _
  refine wp_dup (nx := 718) dX11_init_717 rfl (k1A _) ?_
  refine wp_bipush (nx := 720) dX11_init_718 rfl ⟨by decide, i32 (by decide)⟩ ?_
  refine wp_bipush (nx := 722) dX11_init_720 rfl ⟨by decide, i32 (by decide)⟩ ?_
  refine wp_bastore (nx := 723) dX11_init_722 rfl (sn_b (by decide)) (sn_i (by decide)) (sn_t (by decide)) ?_
  refine wp_heap (C2 := (apU u_165 C0z)) rfl (by rw [show nB 105 = 105 by decide]; rfl) ?_
  show Wp _ _ _ _ 723 [cA 81, cU] [cA 87, cA 81] (Sn 88 p_87 sc) (apU u_165 C0z) _
  refine wp_dup (nx := 724) dX11_init_723 rfl (k1A _) ?_
  refine wp_bipush (nx := 726) dX11_init_724 rfl ⟨by decide, i32 (by decide)⟩ ?_
  refine wp_bipush (nx := 728) dX11_init_726 rfl ⟨by decide, i32 (by decide)⟩ ?_
  refine wp_bastore (nx := 729) dX11_init_728 rfl (sn_b (by decide)) (sn_i (by decide)) (sn_t (by decide)) ?_
  refine wp_heap (C2 := (apU u_166 C0z)) rfl (by rw [show nB 118 = 118 by decide]; rfl) ?_
  show Wp _ _ _ _ 729 [cA 81, cU] [cA 87, cA 81] (Sn 88 p_87 sc) (apU u_166 C0z) _
  refine wp_dup (nx := 730) dX11_init_729 rfl (k1A _) ?_
  refine wp_bipush (nx := 732) dX11_init_730 rfl ⟨by decide, i32 (by decide)⟩ ?_
  refine wp_bipush (nx := 734) dX11_init_732 rfl ⟨by decide, i32 (by decide)⟩ ?_
  refine wp_bastore (nx := 735) dX11_init_734 rfl (sn_b (by decide)) (sn_i (by decide)) (sn_t (by decide)) ?_
  refine wp_heap (C2 := (apU u_167 C0z)) rfl (by rw [show nB 101 = 101 by decide]; rfl) ?_
  show Wp _ _ _ _ 735 [cA 81, cU] [cA 87, cA 81] (Sn 88 p_87 sc) (apU u_167 C0z) _
  refine wp_dup (nx := 736) dX11_init_735 rfl (k1A _) ?_
  refine wp_bipush (nx := 738) dX11_init_736 rfl ⟨by decide, i32 (by decide)⟩ ?_
  refine wp_bipush (nx := 740) dX11_init_738 rfl ⟨by decide, i32 (by decide)⟩ ?_
  refine wp_bastore (nx := 741) dX11_init_740 rfl (sn_b (by decide)) (sn_i (by decide)) (sn_t (by decide)) ?_
  refine wp_heap (C2 := (apU u_168 C0z)) rfl (by rw [show nB 32 = 32 by decide]; rfl) ?_
  show Wp _ _ _ _ 741 [cA 81, cU] [cA 87, cA 81] (Sn 88 p_87 sc) (apU u_168 C0z) _
  refine wp_dup (nx := 742) dX11_init_741 rfl (k1A _) ?_
  refine wp_bipush (nx := 744) dX11_init_742 rfl ⟨by decide, i32 (by decide)⟩ ?_
  refine wp_bipush (nx := 746) dX11_init_744 rfl ⟨by decide, i32 (by decide)⟩ ?_
  refine wp_bastore (nx := 747) dX11_init_746 rfl (sn_b (by decide)) (sn_i (by decide)) (sn_t (by decide)) ?_
  refine wp_heap (C2 := (apU u_169 C0z)) rfl (by rw [show nB 116 = 116 by decide]; rfl) ?_
  show Wp _ _ _ _ 747 [cA 81, cU] [cA 87, cA 81] (Sn 88 p_87 sc) (apU u_169 C0z) _
  refine wp_dup (nx := 748) dX11_init_747 rfl (k1A _) ?_
  refine wp_bipush (nx := 750) dX11_init_748 rfl ⟨by decide, i32 (by decide)⟩ ?_
  refine wp_bipush (nx := 752) dX11_init_750 rfl ⟨by decide, i32 (by decide)⟩ ?_
  refine wp_bastore (nx := 753) dX11_init_752 rfl (sn_b (by decide)) (sn_i (by decide)) (sn_t (by decide)) ?_
  refine wp_heap (C2 := (apU u_170 C0z)) rfl (by rw [show nB 111 = 111 by decide]; rfl) ?_
  show Wp _ _ _ _ 753 [cA 81, cU] [cA 87, cA 81] (Sn 88 p_87 sc) (apU u_170 C0z) _
  refine wp_dup (nx := 754) dX11_init_753 rfl (k1A _) ?_
  refine wp_bipush (nx := 756) dX11_init_754 rfl ⟨by decide, i32 (by decide)⟩ ?_
  refine wp_bipush (nx := 758) dX11_init_756 rfl ⟨by decide, i32 (by decide)⟩ ?_
  refine wp_bastore (nx := 759) dX11_init_758 rfl (sn_b (by decide)) (sn_i (by decide)) (sn_t (by decide)) ?_
  refine wp_heap (C2 := (apU u_171 C0z)) rfl (by rw [show nB 32 = 32 by decide]; rfl) ?_
  show Wp _ _ _ _ 759 [cA 81, cU] [cA 87, cA 81] (Sn 88 p_87 sc) (apU u_171 C0z) _
  refine wp_dup (nx := 760) dX11_init_759 rfl (k1A _) ?_
  refine wp_bipush (nx := 762) dX11_init_760 rfl ⟨by decide, i32 (by decide)⟩ ?_
  refine wp_bipush (nx := 764) dX11_init_762 rfl ⟨by decide, i32 (by decide)⟩ ?_
  refine wp_bastore (nx := 765) dX11_init_764 rfl (sn_b (by decide)) (sn_i (by decide)) (sn_t (by decide)) ?_
  refine wp_heap (C2 := (apU u_172 C0z)) rfl (by rw [show nB 115 = 115 by decide]; rfl) ?_
  show Wp _ _ _ _ 765 [cA 81, cU] [cA 87, cA 81] (Sn 88 p_87 sc) (apU u_172 C0z) _
  refine wp_dup (nx := 766) dX11_init_765 rfl (k1A _) ?_
  refine wp_bipush (nx := 768) dX11_init_766 rfl ⟨by decide, i32 (by decide)⟩ ?_
  refine wp_bipush (nx := 770) dX11_init_768 rfl ⟨by decide, i32 (by decide)⟩ ?_
  refine wp_bastore (nx := 771) dX11_init_770 rfl (sn_b (by decide)) (sn_i (by decide)) (sn_t (by decide)) ?_
  refine wp_heap (C2 := (apU u_173 C0z)) rfl (by rw [show nB 104 = 104 by decide]; rfl) ?_
  show Wp _ _ _ _ 771 [cA 81, cU] [cA 87, cA 81] (Sn 88 p_87 sc) (apU u_173 C0z) _
  refine wp_dup (nx := 772) dX11_init_771 rfl (k1A _) ?_
  refine wp_bipush (nx := 774) dX11_init_772 rfl ⟨by decide, i32 (by decide)⟩ ?_
  refine wp_bipush (nx := 776) dX11_init_774 rfl ⟨by decide, i32 (by decide)⟩ ?_
  refine wp_bastore (nx := 777) dX11_init_776 rfl (sn_b (by decide)) (sn_i (by decide)) (sn_t (by decide)) ?_
  refine wp_heap (C2 := (apU u_174 C0z)) rfl (by rw [show nB 105 = 105 by decide]; rfl) ?_
  show Wp _ _ _ _ 777 [cA 81, cU] [cA 87, cA 81] (Sn 88 p_87 sc) (apU u_174 C0z) _
  refine wp_dup (nx := 778) dX11_init_777 rfl (k1A _) ?_
  refine wp_bipush (nx := 780) dX11_init_778 rfl ⟨by decide, i32 (by decide)⟩ ?_
  refine wp_bipush (nx := 782) dX11_init_780 rfl ⟨by decide, i32 (by decide)⟩ ?_
  refine wp_bastore (nx := 783) dX11_init_782 rfl (sn_b (by decide)) (sn_i (by decide)) (sn_t (by decide)) ?_
  refine wp_heap (C2 := (apU u_175 C0z)) rfl (by rw [show nB 102 = 102 by decide]; rfl) ?_
  show Wp _ _ _ _ 783 [cA 81, cU] [cA 87, cA 81] (Sn 88 p_87 sc) (apU u_175 C0z) _
  refine wp_dup (nx := 784) dX11_init_783 rfl (k1A _) ?_
  refine wp_bipush (nx := 786) dX11_init_784 rfl ⟨by decide, i32 (by decide)⟩ ?_
  refine wp_bipush (nx := 788) dX11_init_786 rfl ⟨by decide, i32 (by decide)⟩ ?_
  refine wp_bastore (nx := 789) dX11_init_788 rfl (sn_b (by decide)) (sn_i (by decide)) (sn_t (by decide)) ?_
  refine wp_heap (C2 := (apU u_176 C0z)) rfl (by rw [show nB 116 = 116 by decide]; rfl) ?_
  show Wp _ _ _ _ 789 [cA 81, cU] [cA 87, cA 81] (Sn 88 p_87 sc) (apU u_176 C0z) _
  refine wp_dup (nx := 790) dX11_init_789 rfl (k1A _) ?_
  refine wp_bipush (nx := 792) dX11_init_790 rfl ⟨by decide, i32 (by decide)⟩ ?_
  refine wp_bipush (nx := 794) dX11_init_792 rfl ⟨by decide, i32 (by decide)⟩ ?_
  refine wp_bastore (nx := 795) dX11_init_794 rfl (sn_b (by decide)) (sn_i (by decide)) (sn_t (by decide)) ?_
  refine wp_heap (C2 := (apU u_177 C0z)) rfl (by rw [show nB 32 = 32 by decide]; rfl) ?_
  show Wp _ _ _ _ 795 [cA 81, cU] [cA 87, cA 81] (Sn 88 p_87 sc) (apU u_177 C0z) _
  refine wp_dup (nx := 796) dX11_init_795 rfl (k1A _) ?_
  refine wp_bipush (nx := 798) dX11_init_796 rfl ⟨by decide, i32 (by decide)⟩ ?_
  refine wp_bipush (nx := 800) dX11_init_798 rfl ⟨by decide, i32 (by decide)⟩ ?_
  refine wp_bastore (nx := 801) dX11_init_800 rfl (sn_b (by decide)) (sn_i (by decide)) (sn_t (by decide)) ?_
  refine wp_heap (C2 := (apU u_178 C0z)) rfl (by rw [show nB 112 = 112 by decide]; rfl) ?_
  show Wp _ _ _ _ 801 [cA 81, cU] [cA 87, cA 81] (Sn 88 p_87 sc) (apU u_178 C0z) _
  refine wp_dup (nx := 802) dX11_init_801 rfl (k1A _) ?_
  refine wp_bipush (nx := 804) dX11_init_802 rfl ⟨by decide, i32 (by decide)⟩ ?_
  refine wp_bipush (nx := 806) dX11_init_804 rfl ⟨by decide, i32 (by decide)⟩ ?_
  refine wp_bastore (nx := 807) dX11_init_806 rfl (sn_b (by decide)) (sn_i (by decide)) (sn_t (by decide)) ?_
  refine wp_heap (C2 := (apU u_179 C0z)) rfl (by rw [show nB 97 = 97 by decide]; rfl) ?_
  show Wp _ _ _ _ 807 [cA 81, cU] [cA 87, cA 81] (Sn 88 p_87 sc) (apU u_179 C0z) _
  refine wp_dup (nx := 808) dX11_init_807 rfl (k1A _) ?_
  refine wp_bipush (nx := 810) dX11_init_808 rfl ⟨by decide, i32 (by decide)⟩ ?_
  refine wp_bipush (nx := 812) dX11_init_810 rfl ⟨by decide, i32 (by decide)⟩ ?_
  refine wp_bastore (nx := 813) dX11_init_812 rfl (sn_b (by decide)) (sn_i (by decide)) (sn_t (by decide)) ?_
  refine wp_heap (C2 := (apU u_180 C0z)) rfl (by rw [show nB 115 = 115 by decide]; rfl) ?_
  show Wp _ _ _ _ 813 [cA 81, cU] [cA 87, cA 81] (Sn 88 p_87 sc) (apU u_180 C0z) _
  refine wp_dup (nx := 814) dX11_init_813 rfl (k1A _) ?_
  refine wp_sipush (nx := 817) dX11_init_814 rfl ⟨by decide, i32 (by decide)⟩ ?_
  refine wp_bipush (nx := 819) dX11_init_817 rfl ⟨by decide, i32 (by decide)⟩ ?_
  refine wp_bastore (nx := 820) dX11_init_819 rfl (sn_b (by decide)) (sn_i (by decide)) (sn_t (by decide)) ?_
  refine wp_heap (C2 := (apU u_181 C0z)) rfl (by rw [show nB 115 = 115 by decide]; rfl) ?_
  show Wp _ _ _ _ 820 [cA 81, cU] [cA 87, cA 81] (Sn 88 p_87 sc) (apU u_181 C0z) _
  refine wp_dup (nx := 821) dX11_init_820 rfl (k1A _) ?_
  refine wp_sipush (nx := 824) dX11_init_821 rfl ⟨by decide, i32 (by decide)⟩ ?_
  refine wp_bipush (nx := 826) dX11_init_824 rfl ⟨by decide, i32 (by decide)⟩ ?_
  refine wp_bastore (nx := 827) dX11_init_826 rfl (sn_b (by decide)) (sn_i (by decide)) (sn_t (by decide)) ?_
  refine wp_heap (C2 := (apU u_182 C0z)) rfl (by rw [show nB 32 = 32 by decide]; rfl) ?_
  show Wp _ _ _ _ 827 [cA 81, cU] [cA 87, cA 81] (Sn 88 p_87 sc) (apU u_182 C0z) _
  refine wp_dup (nx := 828) dX11_init_827 rfl (k1A _) ?_
  refine wp_sipush (nx := 831) dX11_init_828 rfl ⟨by decide, i32 (by decide)⟩ ?_
  refine wp_bipush (nx := 833) dX11_init_831 rfl ⟨by decide, i32 (by decide)⟩ ?_
  refine wp_bastore (nx := 834) dX11_init_833 rfl (sn_b (by decide)) (sn_i (by decide)) (sn_t (by decide)) ?_
  refine wp_heap (C2 := (apU u_183 C0z)) rfl (by rw [show nB 116 = 116 by decide]; rfl) ?_
  show Wp _ _ _ _ 834 [cA 81, cU] [cA 87, cA 81] (Sn 88 p_87 sc) (apU u_183 C0z) _
  refine wp_dup (nx := 835) dX11_init_834 rfl (k1A _) ?_
  refine wp_sipush (nx := 838) dX11_init_835 rfl ⟨by decide, i32 (by decide)⟩ ?_
  refine wp_bipush (nx := 840) dX11_init_838 rfl ⟨by decide, i32 (by decide)⟩ ?_
  refine wp_bastore (nx := 841) dX11_init_840 rfl (sn_b (by decide)) (sn_i (by decide)) (sn_t (by decide)) ?_
  refine wp_heap (C2 := (apU u_184 C0z)) rfl (by rw [show nB 105 = 105 by decide]; rfl) ?_
  show Wp _ _ _ _ 841 [cA 81, cU] [cA 87, cA 81] (Sn 88 p_87 sc) (apU u_184 C0z) _
  refine wp_dup (nx := 842) dX11_init_841 rfl (k1A _) ?_
  refine wp_sipush (nx := 845) dX11_init_842 rfl ⟨by decide, i32 (by decide)⟩ ?_
  refine wp_bipush (nx := 847) dX11_init_845 rfl ⟨by decide, i32 (by decide)⟩ ?_
  refine wp_bastore (nx := 848) dX11_init_847 rfl (sn_b (by decide)) (sn_i (by decide)) (sn_t (by decide)) ?_
  refine wp_heap (C2 := (apU u_185 C0z)) rfl (by rw [show nB 109 = 109 by decide]; rfl) ?_
  show Wp _ _ _ _ 848 [cA 81, cU] [cA 87, cA 81] (Sn 88 p_87 sc) (apU u_185 C0z) _
  refine wp_dup (nx := 849) dX11_init_848 rfl (k1A _) ?_
  refine wp_sipush (nx := 852) dX11_init_849 rfl ⟨by decide, i32 (by decide)⟩ ?_
  refine wp_bipush (nx := 854) dX11_init_852 rfl ⟨by decide, i32 (by decide)⟩ ?_
  refine wp_bastore (nx := 855) dX11_init_854 rfl (sn_b (by decide)) (sn_i (by decide)) (sn_t (by decide)) ?_
  refine wp_heap (C2 := (apU u_186 C0z)) rfl (by rw [show nB 101 = 101 by decide]; rfl) ?_
  show Wp _ _ _ _ 855 [cA 81, cU] [cA 87, cA 81] (Sn 88 p_87 sc) (apU u_186 C0z) _
  refine wp_dup (nx := 856) dX11_init_855 rfl (k1A _) ?_
  refine wp_sipush (nx := 859) dX11_init_856 rfl ⟨by decide, i32 (by decide)⟩ ?_
  refine wp_bipush (nx := 861) dX11_init_859 rfl ⟨by decide, i32 (by decide)⟩ ?_
  refine wp_bastore (nx := 862) dX11_init_861 rfl (sn_b (by decide)) (sn_i (by decide)) (sn_t (by decide)) ?_
  refine wp_heap (C2 := (apU u_187 C0z)) rfl (by rw [show nB 115 = 115 by decide]; rfl) ?_
  show Wp _ _ _ _ 862 [cA 81, cU] [cA 87, cA 81] (Sn 88 p_87 sc) (apU u_187 C0z) _
  refine wp_dup (nx := 863) dX11_init_862 rfl (k1A _) ?_
  refine wp_sipush (nx := 866) dX11_init_863 rfl ⟨by decide, i32 (by decide)⟩ ?_
  refine wp_bipush (nx := 868) dX11_init_866 rfl ⟨by decide, i32 (by decide)⟩ ?_
  refine wp_bastore (nx := 869) dX11_init_868 rfl (sn_b (by decide)) (sn_i (by decide)) (sn_t (by decide)) ?_
  refine wp_heap (C2 := (apU u_188 C0z)) rfl (by rw [show nB 32 = 32 by decide]; rfl) ?_
  show Wp _ _ _ _ 869 [cA 81, cU] [cA 87, cA 81] (Sn 88 p_87 sc) (apU u_188 C0z) _
  refine wp_putAF (kk := 7) (nx := 872) clsX11 dX11_init_869 rfl kF_X11_41 (by decide) (sn_b (by decide)) (sn_t (by decide)) rfl rfl rfl rfl (by decide) ?_
  show Wp _ _ _ _ 872 [cA 81, cU] [] (Sn 88 p_88 sc) (apU u_188 C0z) _
  refine wp_aload_n (nx := 873) dX11_init_872 rfl rfl ?_
  refine wp_sipush (nx := 876) dX11_init_873 rfl ⟨by decide, i32 (by decide)⟩ ?_
  refine wp_newB (nx := 878) (mc := 19) (ms := 21994) dX11_init_876 rfl ka_byte (by decide) (by decide) (by omega) (by omega) ?_
  refine wp_heap (nw_Sn (m2 := 89) (by decide) (by decide) (by decide) (by decide) (by decide +kernel)) (nw_C (by decide +kernel)) ?_
  show Wp _ _ _ _ 878 [cA 81, cU] [cA 88, cA 81] (Sn 89 p_88 sc) (apU u_188 C0z) _
  refine wp_putAF (kk := 11) (nx := 881) clsX11 dX11_init_878 rfl kF_X11_45 (by decide) (sn_b (by decide)) (sn_t (by decide)) rfl rfl rfl rfl (by decide) ?_
  show Wp _ _ _ _ 881 [cA 81, cU] [] (Sn 89 p_89 sc) (apU u_188 C0z) _
  refine wp_aload_n (nx := 882) dX11_init_881 rfl rfl ?_
  refine wp_iconst (nx := 883) dX11_init_882 rfl (i32 (by decide)) ?_
  refine wp_newI (nx := 885) (mc := 18) (ms := 21989) dX11_init_883 rfl ka_int (by decide) (by decide) (by omega) (by omega) ?_
  refine wp_heap (nw_Sn (m2 := 90) (by decide) (by decide) (by decide) (by decide) (by decide +kernel)) (nw_C (by decide +kernel)) ?_
  show Wp _ _ _ _ 885 [cA 81, cU] [cA 89, cA 81] (Sn 90 p_89 sc) (apU u_188 C0z) _
  refine wp_putAF (kk := 12) (nx := 888) clsX11 dX11_init_885 rfl kF_X11_48 (by decide) (sn_b (by decide)) (sn_t (by decide)) rfl rfl rfl rfl (by decide) ?_
  show Wp _ _ _ _ 888 [cA 81, cU] [] (Sn 90 p_90 sc) (apU u_188 C0z) _
  refine wp_aload_n (nx := 889) dX11_init_888 rfl rfl ?_
  refine wp_iconst (nx := 890) dX11_init_889 rfl (i32 (by decide)) ?_
  refine wp_putI (kk := 14) (nx := 893) clsX11 dX11_init_890 rfl kF_X11_51 (by decide) (sn_b (by decide)) (sn_t (by decide)) rfl rfl ⟨by decide, by decide⟩ ?_
  show Wp _ _ _ _ 893 [cA 81, cU] [] (Sn 90 p_90 sc) (apU u_189 C0z) _
  refine wp_aload_n (nx := 894) dX11_init_893 rfl rfl ?_
  refine wp_sipush (nx := 897) dX11_init_894 rfl ⟨by decide, i32 (by decide)⟩ ?_
  refine wp_newI (nx := 899) (mc := 17) (ms := 21588) dX11_init_897 rfl ka_int (by decide) (by decide) (by omega) (by omega) ?_
  refine wp_heap (nw_Sn (m2 := 91) (by decide) (by decide) (by decide) (by decide) (by decide +kernel)) (nw_C (by decide +kernel)) ?_
  show Wp _ _ _ _ 899 [cA 81, cU] [cA 90, cA 81] (Sn 91 p_90 sc) (apU u_189 C0z) _
  refine wp_putAF (kk := 15) (nx := 902) clsX11 dX11_init_899 rfl kF_X11_54 (by decide) (sn_b (by decide)) (sn_t (by decide)) rfl rfl rfl rfl (by decide) ?_
  show Wp _ _ _ _ 902 [cA 81, cU] [] (Sn 91 p_91 sc) (apU u_189 C0z) _
  refine wp_aload_n (nx := 903) dX11_init_902 rfl rfl ?_
  refine wp_sipush (nx := 906) dX11_init_903 rfl ⟨by decide, i32 (by decide)⟩ ?_
  refine wp_newI (nx := 908) (mc := 16) (ms := 21187) dX11_init_906 rfl ka_int (by decide) (by decide) (by omega) (by omega) ?_
  refine wp_heap (nw_Sn (m2 := 92) (by decide) (by decide) (by decide) (by decide) (by decide +kernel)) (nw_C (by decide +kernel)) ?_
  show Wp _ _ _ _ 908 [cA 81, cU] [cA 91, cA 81] (Sn 92 p_91 sc) (apU u_189 C0z) _
  refine wp_putAF (kk := 16) (nx := 911) clsX11 dX11_init_908 rfl kF_X11_57 (by decide) (sn_b (by decide)) (sn_t (by decide)) rfl rfl rfl rfl (by decide) ?_
  show Wp _ _ _ _ 911 [cA 81, cU] [] (Sn 92 p_92 sc) (apU u_189 C0z) _
  refine wp_aload_n (nx := 912) dX11_init_911 rfl rfl ?_
  refine wp_sipush (nx := 915) dX11_init_912 rfl ⟨by decide, i32 (by decide)⟩ ?_
  refine wp_newI (nx := 917) (mc := 15) (ms := 20786) dX11_init_915 rfl ka_int (by decide) (by decide) (by omega) (by omega) ?_
  refine wp_heap (nw_Sn (m2 := 93) (by decide) (by decide) (by decide) (by decide) (by decide +kernel)) (nw_C (by decide +kernel)) ?_
  show Wp _ _ _ _ 917 [cA 81, cU] [cA 92, cA 81] (Sn 93 p_92 sc) (apU u_189 C0z) _
  refine wp_putAF (kk := 17) (nx := 920) clsX11 dX11_init_917 rfl kF_X11_60 (by decide) (sn_b (by decide)) (sn_t (by decide)) rfl rfl rfl rfl (by decide) ?_
  show Wp _ _ _ _ 920 [cA 81, cU] [] (Sn 93 p_93 sc) (apU u_189 C0z) _
  refine wp_aload_n (nx := 921) dX11_init_920 rfl rfl ?_
  refine wp_bipush (nx := 923) dX11_init_921 rfl ⟨by decide, i32 (by decide)⟩ ?_
  refine wp_newI (nx := 925) (mc := 14) (ms := 20778) dX11_init_923 rfl ka_int (by decide) (by decide) (by omega) (by omega) ?_
  refine wp_heap (nw_Sn (m2 := 94) (by decide) (by decide) (by decide) (by decide) (by decide +kernel)) (nw_C (by decide +kernel)) ?_
  show Wp _ _ _ _ 925 [cA 81, cU] [cA 93, cA 81] (Sn 94 p_93 sc) (apU u_189 C0z) _
  refine wp_putAF (kk := 26) (nx := 928) clsX11 dX11_init_925 rfl kF_X11_63 (by decide) (sn_b (by decide)) (sn_t (by decide)) rfl rfl rfl rfl (by decide) ?_
  show Wp _ _ _ _ 928 [cA 81, cU] [] (Sn 94 p_94 sc) (apU u_189 C0z) _
  refine wp_aload_n (nx := 929) dX11_init_928 rfl rfl ?_
  refine wp_sipush (nx := 932) dX11_init_929 rfl ⟨by decide, i32 (by decide)⟩ ?_
  refine wp_newI (nx := 934) (mc := 13) (ms := 19242) dX11_init_932 rfl ka_int (by decide) (by decide) (by omega) (by omega) ?_
  refine wp_heap (nw_Sn (m2 := 95) (by decide) (by decide) (by decide) (by decide) (by decide +kernel)) (nw_C (by decide +kernel)) ?_
  show Wp _ _ _ _ 934 [cA 81, cU] [cA 94, cA 81] (Sn 95 p_94 sc) (apU u_189 C0z) _
  refine wp_putAF (kk := 30) (nx := 937) clsX11 dX11_init_934 rfl kF_X11_66 (by decide) (sn_b (by decide)) (sn_t (by decide)) rfl rfl rfl rfl (by decide) ?_
  show Wp _ _ _ _ 937 [cA 81, cU] [] (Sn 95 p_95 sc) (apU u_189 C0z) _
  refine wp_aload_n (nx := 938) dX11_init_937 rfl rfl ?_
  refine wp_bipush (nx := 940) dX11_init_938 rfl ⟨by decide, i32 (by decide)⟩ ?_
  refine wp_newI (nx := 942) (mc := 12) (ms := 19234) dX11_init_940 rfl ka_int (by decide) (by decide) (by omega) (by omega) ?_
  refine wp_heap (nw_Sn (m2 := 96) (by decide) (by decide) (by decide) (by decide) (by decide +kernel)) (nw_C (by decide +kernel)) ?_
  show Wp _ _ _ _ 942 [cA 81, cU] [cA 95, cA 81] (Sn 96 p_95 sc) (apU u_189 C0z) _
  refine wp_putAF (kk := 31) (nx := 945) clsX11 dX11_init_942 rfl kF_X11_69 (by decide) (sn_b (by decide)) (sn_t (by decide)) rfl rfl rfl rfl (by decide) ?_
  show Wp _ _ _ _ 945 [cA 81, cU] [] (Sn 96 p_96 sc) (apU u_189 C0z) _
  refine wp_aload_n (nx := 946) dX11_init_945 rfl rfl ?_
  refine wp_sipush (nx := 949) dX11_init_946 rfl ⟨by decide, i32 (by decide)⟩ ?_
  refine wp_newI (nx := 951) (mc := 11) (ms := 17442) dX11_init_949 rfl ka_int (by decide) (by decide) (by omega) (by omega) ?_
  refine wp_heap (nw_Sn (m2 := 97) (by decide) (by decide) (by decide) (by decide) (by decide +kernel)) (nw_C (by decide +kernel)) ?_
  show Wp _ _ _ _ 951 [cA 81, cU] [cA 96, cA 81] (Sn 97 p_96 sc) (apU u_189 C0z) _
  refine wp_putAF (kk := 32) (nx := 954) clsX11 dX11_init_951 rfl kF_X11_72 (by decide) (sn_b (by decide)) (sn_t (by decide)) rfl rfl rfl rfl (by decide) ?_
  show Wp _ _ _ _ 954 [cA 81, cU] [] (Sn 97 p_97 sc) (apU u_189 C0z) _
  refine wp_aload_n (nx := 955) dX11_init_954 rfl rfl ?_
  refine wp_bipush (nx := 957) dX11_init_955 rfl ⟨by decide, i32 (by decide)⟩ ?_
  refine wp_newI (nx := 959) (mc := 10) (ms := 17436) dX11_init_957 rfl ka_int (by decide) (by decide) (by omega) (by omega) ?_
  refine wp_heap (nw_Sn (m2 := 98) (by decide) (by decide) (by decide) (by decide) (by decide +kernel)) (nw_C (by decide +kernel)) ?_
  show Wp _ _ _ _ 959 [cA 81, cU] [cA 97, cA 81] (Sn 98 p_97 sc) (apU u_189 C0z) _
  refine wp_putAF (kk := 33) (nx := 962) clsX11 dX11_init_959 rfl kF_X11_75 (by decide) (sn_b (by decide)) (sn_t (by decide)) rfl rfl rfl rfl (by decide) ?_
  show Wp _ _ _ _ 962 [cA 81, cU] [] (Sn 98 p_98 sc) (apU u_189 C0z) _
  refine wp_aload_n (nx := 963) dX11_init_962 rfl rfl ?_
  refine wp_bipush (nx := 965) dX11_init_963 rfl ⟨by decide, i32 (by decide)⟩ ?_
  refine wp_newI (nx := 967) (mc := 9) (ms := 17428) dX11_init_965 rfl ka_int (by decide) (by decide) (by omega) (by omega) ?_
  refine wp_heap (nw_Sn (m2 := 99) (by decide) (by decide) (by decide) (by decide) (by decide +kernel)) (nw_C (by decide +kernel)) ?_
  show Wp _ _ _ _ 967 [cA 81, cU] [cA 98, cA 81] (Sn 99 p_98 sc) (apU u_189 C0z) _
  refine wp_putAF (kk := 34) (nx := 970) clsX11 dX11_init_967 rfl kF_X11_78 (by decide) (sn_b (by decide)) (sn_t (by decide)) rfl rfl rfl rfl (by decide) ?_
  show Wp _ _ _ _ 970 [cA 81, cU] [] (Sn 99 p_99 sc) (apU u_189 C0z) _
  refine wp_aload_n (nx := 971) dX11_init_970 rfl rfl ?_
  refine wp_sipush (nx := 974) dX11_init_971 rfl ⟨by decide, i32 (by decide)⟩ ?_
  refine wp_newZ (nx := 976) (mc := 8) (ms := 1044) dX11_init_974 rfl ka_boolean (by decide) (by decide) (by omega) (by omega) ?_
  refine wp_heap (nw_Sn (m2 := 100) (by decide) (by decide) (by decide) (by decide) (by decide +kernel)) (nw_C (by decide +kernel)) ?_
  show Wp _ _ _ _ 976 [cA 81, cU] [cA 99, cA 81] (Sn 100 p_99 sc) (apU u_189 C0z) _
  refine wp_putAF (kk := 35) (nx := 979) clsX11 dX11_init_976 rfl kF_X11_81 (by decide) (sn_b (by decide)) (sn_t (by decide)) rfl rfl rfl rfl (by decide) ?_
  show Wp _ _ _ _ 979 [cA 81, cU] [] (Sn 100 p_100 sc) (apU u_189 C0z) _
  refine wp_aload_n (nx := 980) dX11_init_979 rfl rfl ?_
  refine wp_bipush (nx := 982) dX11_init_980 rfl ⟨by decide, i32 (by decide)⟩ ?_
  refine wp_newZ (nx := 984) (mc := 7) (ms := 980) dX11_init_982 rfl ka_boolean (by decide) (by decide) (by omega) (by omega) ?_
  refine wp_heap (nw_Sn (m2 := 101) (by decide) (by decide) (by decide) (by decide) (by decide +kernel)) (nw_C (by decide +kernel)) ?_
  show Wp _ _ _ _ 984 [cA 81, cU] [cA 100, cA 81] (Sn 101 p_100 sc) (apU u_189 C0z) _
  refine wp_putAF (kk := 36) (nx := 987) clsX11 dX11_init_984 rfl kF_X11_84 (by decide) (sn_b (by decide)) (sn_t (by decide)) rfl rfl rfl rfl (by decide) ?_
  show Wp _ _ _ _ 987 [cA 81, cU] [] (Sn 101 p_101 sc) (apU u_189 C0z) _
  refine wp_aload_n (nx := 988) dX11_init_987 rfl rfl ?_
  refine wp_bipush (nx := 990) dX11_init_988 rfl ⟨by decide, i32 (by decide)⟩ ?_
  refine wp_newI (nx := 992) (mc := 6) (ms := 944) dX11_init_990 rfl ka_int (by decide) (by decide) (by omega) (by omega) ?_
  refine wp_heap (nw_Sn (m2 := 102) (by decide) (by decide) (by decide) (by decide) (by decide +kernel)) (nw_C (by decide +kernel)) ?_
  show Wp _ _ _ _ 992 [cA 81, cU] [cA 101, cA 81] (Sn 102 p_101 sc) (apU u_189 C0z) _
  refine wp_putAF (kk := 37) (nx := 995) clsX11 dX11_init_992 rfl kF_X11_87 (by decide) (sn_b (by decide)) (sn_t (by decide)) rfl rfl rfl rfl (by decide) ?_
  show Wp _ _ _ _ 995 [cA 81, cU] [] (Sn 102 p_102 sc) (apU u_189 C0z) _
  refine wp_aload_n (nx := 996) dX11_init_995 rfl rfl ?_
  refine wp_bipush (nx := 998) dX11_init_996 rfl ⟨by decide, i32 (by decide)⟩ ?_
  refine wp_newI (nx := 1000) (mc := 5) (ms := 880) dX11_init_998 rfl ka_int (by decide) (by decide) (by omega) (by omega) ?_
  refine wp_heap (nw_Sn (m2 := 103) (by decide) (by decide) (by decide) (by decide) (by decide +kernel)) (nw_C (by decide +kernel)) ?_
  show Wp _ _ _ _ 1000 [cA 81, cU] [cA 102, cA 81] (Sn 103 p_102 sc) (apU u_189 C0z) _
  refine wp_putAF (kk := 38) (nx := 1003) clsX11 dX11_init_1000 rfl kF_X11_90 (by decide) (sn_b (by decide)) (sn_t (by decide)) rfl rfl rfl rfl (by decide) ?_
  show Wp _ _ _ _ 1003 [cA 81, cU] [] (Sn 103 p_103 sc) (apU u_189 C0z) _
  refine wp_aload_n (nx := 1004) dX11_init_1003 rfl rfl ?_
  refine wp_bipush (nx := 1006) dX11_init_1004 rfl ⟨by decide, i32 (by decide)⟩ ?_
  refine wp_newJ (nx := 1008) (mc := 4) (ms := 859) dX11_init_1006 rfl ka_long (by decide) (by decide) (by omega) (by omega) ?_
  refine wp_heap (nw_Sn (m2 := 104) (by decide) (by decide) (by decide) (by decide) (by decide +kernel)) (nw_C (by decide +kernel)) ?_
  show Wp _ _ _ _ 1008 [cA 81, cU] [cA 103, cA 81] (Sn 104 p_103 sc) (apU u_189 C0z) _
  refine wp_putAF (kk := 39) (nx := 1011) clsX11 dX11_init_1008 rfl kF_X11_93 (by decide) (sn_b (by decide)) (sn_t (by decide)) rfl rfl rfl rfl (by decide) ?_
  show Wp _ _ _ _ 1011 [cA 81, cU] [] (Sn 104 p_104 sc) (apU u_189 C0z) _
  refine wp_aload_n (nx := 1012) dX11_init_1011 rfl rfl ?_
  refine wp_sipush (nx := 1015) dX11_init_1012 rfl ⟨by decide, i32 (by decide)⟩ ?_
  refine wp_newI (nx := 1017) (mc := 3) (ms := 443) dX11_init_1015 rfl ka_int (by decide) (by decide) (by omega) (by omega) ?_
  refine wp_heap (nw_Sn (m2 := 105) (by decide) (by decide) (by decide) (by decide) (by decide +kernel)) (nw_C (by decide +kernel)) ?_
  show Wp _ _ _ _ 1017 [cA 81, cU] [cA 104, cA 81] (Sn 105 p_104 sc) (apU u_189 C0z) _
  refine wp_putAF (kk := 40) (nx := 1020) clsX11 dX11_init_1017 rfl kF_X11_97 (by decide) (sn_b (by decide)) (sn_t (by decide)) rfl rfl rfl rfl (by decide) ?_
  show Wp _ _ _ _ 1020 [cA 81, cU] [] (Sn 105 p_105 sc) (apU u_189 C0z) _
  refine wp_aload_n (nx := 1021) dX11_init_1020 rfl rfl ?_
  refine wp_sipush (nx := 1024) dX11_init_1021 rfl ⟨by decide, i32 (by decide)⟩ ?_
  refine wp_newI (nx := 1026) (mc := 2) (ms := 27) dX11_init_1024 rfl ka_int (by decide) (by decide) (by omega) (by omega) ?_
  refine wp_heap (nw_Sn (m2 := 106) (by decide) (by decide) (by decide) (by decide) (by decide +kernel)) (nw_C (by decide +kernel)) ?_
  show Wp _ _ _ _ 1026 [cA 81, cU] [cA 105, cA 81] (Sn 106 p_105 sc) (apU u_189 C0z) _
  refine wp_putAF (kk := 41) (nx := 1029) clsX11 dX11_init_1026 rfl kF_X11_100 (by decide) (sn_b (by decide)) (sn_t (by decide)) rfl rfl rfl rfl (by decide) ?_
  show Wp _ _ _ _ 1029 [cA 81, cU] [] (Sn 106 p_106 sc) (apU u_189 C0z) _
  refine wp_aload_n (nx := 1030) dX11_init_1029 rfl rfl ?_
  refine wp_iconst (nx := 1031) dX11_init_1030 rfl (i32 (by decide)) ?_
  refine wp_putI (kk := 43) (nx := 1034) clsX11 dX11_init_1031 rfl kF_X11_103 (by decide) (sn_b (by decide)) (sn_t (by decide)) rfl rfl ⟨by decide, by decide⟩ ?_
  show Wp _ _ _ _ 1034 [cA 81, cU] [] (Sn 106 p_106 sc) (apU u_190 C0z) _
  refine wp_aload_n (nx := 1035) dX11_init_1034 rfl rfl ?_
  refine wp_iconst (nx := 1036) dX11_init_1035 rfl (i32 (by decide)) ?_
  refine wp_newJ (nx := 1038) (mc := 1) (ms := 25) dX11_init_1036 rfl ka_long (by decide) (by decide) (by omega) (by omega) ?_
  refine wp_heap (nw_Sn (m2 := 107) (by decide) (by decide) (by decide) (by decide) (by decide +kernel)) (nw_C (by decide +kernel)) ?_
  show Wp _ _ _ _ 1038 [cA 81, cU] [cA 106, cA 81] (Sn 107 p_106 sc) (apU u_190 C0z) _
  refine wp_putAF (kk := 49) (nx := 1041) clsX11 dX11_init_1038 rfl kF_X11_106 (by decide) (sn_b (by decide)) (sn_t (by decide)) rfl rfl rfl rfl (by decide) ?_
  show Wp _ _ _ _ 1041 [cA 81, cU] [] (Sn 107 p_107 sc) (apU u_190 C0z) _
  refine wp_aload_n (nx := 1042) dX11_init_1041 rfl rfl ?_
  refine wp_bipush (nx := 1044) dX11_init_1042 rfl ⟨by decide, i32 (by decide)⟩ ?_
  refine wp_newI (nx := 1046) (mc := 0) (ms := 0) dX11_init_1044 rfl ka_int (by decide) (by decide) (by omega) (by omega) ?_
  refine wp_heap (nw_Sn (m2 := 108) (by decide) (by decide) (by decide) (by decide) (by decide +kernel)) (nw_C (by decide +kernel)) ?_
  show Wp _ _ _ _ 1046 [cA 81, cU] [cA 107, cA 81] (Sn 108 p_107 sc) (apU u_190 C0z) _
  refine wp_putAF (kk := 50) (nx := 1049) clsX11 dX11_init_1046 rfl kF_X11_109 (by decide) (sn_b (by decide)) (sn_t (by decide)) rfl rfl rfl rfl (by decide) ?_
  show Wp _ _ _ _ 1049 [cA 81, cU] [] (Sn 108 p_108 sc) (apU u_190 C0z) _
  refine wp_aload_n (nx := 1050) dX11_init_1049 rfl rfl ?_
  refine wp_getAe (kk := 2) (r := 83) (nx := 1053) clsX11 dX11_init_1050 rfl kF_X11_28 (by decide) (sn_b (by decide)) (sn_t (by decide)) rfl (sn_p (by decide +kernel)) ?_
  refine wp_bipush (nx := 1055) dX11_init_1053 rfl ⟨by decide, i32 (by decide)⟩ ?_
  refine wp_iconst (nx := 1056) dX11_init_1055 rfl (i32 (by decide)) ?_
  refine wp_iastore (nx := 1057) dX11_init_1056 rfl (sn_b (by decide)) (sn_i (by decide)) (sn_t (by decide)) ?_
  show Wp _ _ _ _ 1057 [cA 81, cU] [] (Sn 108 p_108 sc) (apU u_191 C0z) _
  refine wp_aload_n (nx := 1058) dX11_init_1057 rfl rfl ?_
  refine wp_getAe (kk := 2) (r := 83) (nx := 1061) clsX11 dX11_init_1058 rfl kF_X11_28 (by decide) (sn_b (by decide)) (sn_t (by decide)) rfl (sn_p (by decide +kernel)) ?_
  refine wp_bipush (nx := 1063) dX11_init_1061 rfl ⟨by decide, i32 (by decide)⟩ ?_
  refine wp_iconst (nx := 1064) dX11_init_1063 rfl (i32 (by decide)) ?_
  refine wp_iastore (nx := 1065) dX11_init_1064 rfl (sn_b (by decide)) (sn_i (by decide)) (sn_t (by decide)) ?_
  show Wp _ _ _ _ 1065 [cA 81, cU] [] (Sn 108 p_108 sc) (apU u_192 C0z) _
  refine wp_iconst (nx := 1066) dX11_init_1065 rfl (i32 (by decide)) ?_
  refine wp_istore_n (nx := 1067) dX11_init_1066 rfl (by decide) ?_
  refine wp_ls (ls2 := [cA 81, cI 0]) rfl ?_
  refine wp_iload_n (nx := 1068) dX11_init_1067 rfl rfl ?_
  refine wp_bipush (nx := 1070) dX11_init_1068 rfl ⟨by decide, i32 (by decide)⟩ ?_
  refine wp_icmp_ge (nx := 1073) (tg := 1088) dX11_init_1070 rfl rfl (fun hc => absurd hc (by decide)) (fun hc => ?_)
  refine wp_aload_n (nx := 1074) dX11_init_1073 rfl rfl ?_
  refine wp_getAe (kk := 2) (r := 83) (nx := 1077) clsX11 dX11_init_1074 rfl kF_X11_28 (by decide) (sn_b (by decide)) (sn_t (by decide)) rfl (sn_p (by decide +kernel)) ?_
  refine wp_iconst (nx := 1078) dX11_init_1077 rfl (i32 (by decide)) ?_
  refine wp_iload_n (nx := 1079) dX11_init_1078 rfl rfl ?_
  refine wp_iadd (nx := 1080) dX11_init_1079 rfl ?_
  refine wp_eqI 0 (by decide) ?_
  refine wp_iconst (nx := 1081) dX11_init_1080 rfl (i32 (by decide)) ?_
  refine wp_iastore (nx := 1082) dX11_init_1081 rfl (sn_b (by decide)) (sn_i (by decide)) (sn_t (by decide)) ?_
  show Wp _ _ _ _ 1082 [cA 81, cI 0] [] (Sn 108 p_108 sc) (apU u_193 C0z) _
  refine wp_iinc (nx := 1085) dX11_init_1082 rfl rfl (by decide) ?_
  refine wp_ls (ls2 := [cA 81, cI 1]) rfl ?_
  refine wp_goto (nx := 1067) dX11_init_1085 rfl ?_
  refine wp_iload_n (nx := 1068) dX11_init_1067 rfl rfl ?_
  refine wp_bipush (nx := 1070) dX11_init_1068 rfl ⟨by decide, i32 (by decide)⟩ ?_
  refine wp_icmp_ge (nx := 1073) (tg := 1088) dX11_init_1070 rfl rfl (fun hc => absurd hc (by decide)) (fun hc => ?_)
  refine wp_aload_n (nx := 1074) dX11_init_1073 rfl rfl ?_
  refine wp_getAe (kk := 2) (r := 83) (nx := 1077) clsX11 dX11_init_1074 rfl kF_X11_28 (by decide) (sn_b (by decide)) (sn_t (by decide)) rfl (sn_p (by decide +kernel)) ?_
  refine wp_iconst (nx := 1078) dX11_init_1077 rfl (i32 (by decide)) ?_
  refine wp_iload_n (nx := 1079) dX11_init_1078 rfl rfl ?_
  refine wp_iadd (nx := 1080) dX11_init_1079 rfl ?_
  refine wp_eqI 1 (by decide) ?_
  refine wp_iconst (nx := 1081) dX11_init_1080 rfl (i32 (by decide)) ?_
  refine wp_iastore (nx := 1082) dX11_init_1081 rfl (sn_b (by decide)) (sn_i (by decide)) (sn_t (by decide)) ?_
  show Wp _ _ _ _ 1082 [cA 81, cI 1] [] (Sn 108 p_108 sc) (apU u_194 C0z) _
  refine wp_iinc (nx := 1085) dX11_init_1082 rfl rfl (by decide) ?_
  refine wp_ls (ls2 := [cA 81, cI 2]) rfl ?_
  refine wp_goto (nx := 1067) dX11_init_1085 rfl ?_
  refine wp_iload_n (nx := 1068) dX11_init_1067 rfl rfl ?_
  refine wp_bipush (nx := 1070) dX11_init_1068 rfl ⟨by decide, i32 (by decide)⟩ ?_
  refine wp_icmp_ge (nx := 1073) (tg := 1088) dX11_init_1070 rfl rfl (fun hc => absurd hc (by decide)) (fun hc => ?_)
  refine wp_aload_n (nx := 1074) dX11_init_1073 rfl rfl ?_
  refine wp_getAe (kk := 2) (r := 83) (nx := 1077) clsX11 dX11_init_1074 rfl kF_X11_28 (by decide) (sn_b (by decide)) (sn_t (by decide)) rfl (sn_p (by decide +kernel)) ?_
  refine wp_iconst (nx := 1078) dX11_init_1077 rfl (i32 (by decide)) ?_
  refine wp_iload_n (nx := 1079) dX11_init_1078 rfl rfl ?_
  refine wp_iadd (nx := 1080) dX11_init_1079 rfl ?_
  refine wp_eqI 2 (by decide) ?_
  refine wp_iconst (nx := 1081) dX11_init_1080 rfl (i32 (by decide)) ?_
  refine wp_iastore (nx := 1082) dX11_init_1081 rfl (sn_b (by decide)) (sn_i (by decide)) (sn_t (by decide)) ?_
  show Wp _ _ _ _ 1082 [cA 81, cI 2] [] (Sn 108 p_108 sc) (apU u_195 C0z) _
  refine wp_iinc (nx := 1085) dX11_init_1082 rfl rfl (by decide) ?_
  refine wp_ls (ls2 := [cA 81, cI 3]) rfl ?_
  refine wp_goto (nx := 1067) dX11_init_1085 rfl ?_
  refine wp_iload_n (nx := 1068) dX11_init_1067 rfl rfl ?_
  refine wp_bipush (nx := 1070) dX11_init_1068 rfl ⟨by decide, i32 (by decide)⟩ ?_
  refine wp_icmp_ge (nx := 1073) (tg := 1088) dX11_init_1070 rfl rfl (fun hc => absurd hc (by decide)) (fun hc => ?_)
  refine wp_aload_n (nx := 1074) dX11_init_1073 rfl rfl ?_
  refine wp_getAe (kk := 2) (r := 83) (nx := 1077) clsX11 dX11_init_1074 rfl kF_X11_28 (by decide) (sn_b (by decide)) (sn_t (by decide)) rfl (sn_p (by decide +kernel)) ?_
  refine wp_iconst (nx := 1078) dX11_init_1077 rfl (i32 (by decide)) ?_
  refine wp_iload_n (nx := 1079) dX11_init_1078 rfl rfl ?_
  refine wp_iadd (nx := 1080) dX11_init_1079 rfl ?_
  refine wp_eqI 3 (by decide) ?_
  refine wp_iconst (nx := 1081) dX11_init_1080 rfl (i32 (by decide)) ?_
  refine wp_iastore (nx := 1082) dX11_init_1081 rfl (sn_b (by decide)) (sn_i (by decide)) (sn_t (by decide)) ?_
  show Wp _ _ _ _ 1082 [cA 81, cI 3] [] (Sn 108 p_108 sc) (apU u_196 C0z) _
  refine wp_iinc (nx := 1085) dX11_init_1082 rfl rfl (by decide) ?_
  refine wp_ls (ls2 := [cA 81, cI 4]) rfl ?_
  refine wp_goto (nx := 1067) dX11_init_1085 rfl ?_
  refine wp_iload_n (nx := 1068) dX11_init_1067 rfl rfl ?_
  refine wp_bipush (nx := 1070) dX11_init_1068 rfl ⟨by decide, i32 (by decide)⟩ ?_
  refine wp_icmp_ge (nx := 1073) (tg := 1088) dX11_init_1070 rfl rfl (fun hc => absurd hc (by decide)) (fun hc => ?_)
  refine wp_aload_n (nx := 1074) dX11_init_1073 rfl rfl ?_
  refine wp_getAe (kk := 2) (r := 83) (nx := 1077) clsX11 dX11_init_1074 rfl kF_X11_28 (by decide) (sn_b (by decide)) (sn_t (by decide)) rfl (sn_p (by decide +kernel)) ?_
  refine wp_iconst (nx := 1078) dX11_init_1077 rfl (i32 (by decide)) ?_
  refine wp_iload_n (nx := 1079) dX11_init_1078 rfl rfl ?_
  refine wp_iadd (nx := 1080) dX11_init_1079 rfl ?_
  refine wp_eqI 4 (by decide) ?_
  refine wp_iconst (nx := 1081) dX11_init_1080 rfl (i32 (by decide)) ?_
  refine wp_iastore (nx := 1082) dX11_init_1081 rfl (sn_b (by decide)) (sn_i (by decide)) (sn_t (by decide)) ?_
  show Wp _ _ _ _ 1082 [cA 81, cI 4] [] (Sn 108 p_108 sc) (apU u_197 C0z) _
  refine wp_iinc (nx := 1085) dX11_init_1082 rfl rfl (by decide) ?_
  refine wp_ls (ls2 := [cA 81, cI 5]) rfl ?_
  refine wp_goto (nx := 1067) dX11_init_1085 rfl ?_
  refine wp_iload_n (nx := 1068) dX11_init_1067 rfl rfl ?_
  refine wp_bipush (nx := 1070) dX11_init_1068 rfl ⟨by decide, i32 (by decide)⟩ ?_
  refine wp_icmp_ge (nx := 1073) (tg := 1088) dX11_init_1070 rfl rfl (fun hc => absurd hc (by decide)) (fun hc => ?_)
  refine wp_aload_n (nx := 1074) dX11_init_1073 rfl rfl ?_
  refine wp_getAe (kk := 2) (r := 83) (nx := 1077) clsX11 dX11_init_1074 rfl kF_X11_28 (by decide) (sn_b (by decide)) (sn_t (by decide)) rfl (sn_p (by decide +kernel)) ?_
  refine wp_iconst (nx := 1078) dX11_init_1077 rfl (i32 (by decide)) ?_
  refine wp_iload_n (nx := 1079) dX11_init_1078 rfl rfl ?_
  refine wp_iadd (nx := 1080) dX11_init_1079 rfl ?_
  refine wp_eqI 5 (by decide) ?_
  refine wp_iconst (nx := 1081) dX11_init_1080 rfl (i32 (by decide)) ?_
  refine wp_iastore (nx := 1082) dX11_init_1081 rfl (sn_b (by decide)) (sn_i (by decide)) (sn_t (by decide)) ?_
  show Wp _ _ _ _ 1082 [cA 81, cI 5] [] (Sn 108 p_108 sc) (apU u_198 C0z) _
  refine wp_iinc (nx := 1085) dX11_init_1082 rfl rfl (by decide) ?_
  refine wp_ls (ls2 := [cA 81, cI 6]) rfl ?_
  refine wp_goto (nx := 1067) dX11_init_1085 rfl ?_
  refine wp_iload_n (nx := 1068) dX11_init_1067 rfl rfl ?_
  refine wp_bipush (nx := 1070) dX11_init_1068 rfl ⟨by decide, i32 (by decide)⟩ ?_
  refine wp_icmp_ge (nx := 1073) (tg := 1088) dX11_init_1070 rfl rfl (fun hc => absurd hc (by decide)) (fun hc => ?_)
  refine wp_aload_n (nx := 1074) dX11_init_1073 rfl rfl ?_
  refine wp_getAe (kk := 2) (r := 83) (nx := 1077) clsX11 dX11_init_1074 rfl kF_X11_28 (by decide) (sn_b (by decide)) (sn_t (by decide)) rfl (sn_p (by decide +kernel)) ?_
  refine wp_iconst (nx := 1078) dX11_init_1077 rfl (i32 (by decide)) ?_
  refine wp_iload_n (nx := 1079) dX11_init_1078 rfl rfl ?_
  refine wp_iadd (nx := 1080) dX11_init_1079 rfl ?_
  refine wp_eqI 6 (by decide) ?_
  refine wp_iconst (nx := 1081) dX11_init_1080 rfl (i32 (by decide)) ?_
  refine wp_iastore (nx := 1082) dX11_init_1081 rfl (sn_b (by decide)) (sn_i (by decide)) (sn_t (by decide)) ?_
  show Wp _ _ _ _ 1082 [cA 81, cI 6] [] (Sn 108 p_108 sc) (apU u_199 C0z) _
  refine wp_iinc (nx := 1085) dX11_init_1082 rfl rfl (by decide) ?_
  refine wp_ls (ls2 := [cA 81, cI 7]) rfl ?_
  refine wp_goto (nx := 1067) dX11_init_1085 rfl ?_
  refine wp_iload_n (nx := 1068) dX11_init_1067 rfl rfl ?_
  refine wp_bipush (nx := 1070) dX11_init_1068 rfl ⟨by decide, i32 (by decide)⟩ ?_
  refine wp_icmp_ge (nx := 1073) (tg := 1088) dX11_init_1070 rfl rfl (fun hc => absurd hc (by decide)) (fun hc => ?_)
  refine wp_aload_n (nx := 1074) dX11_init_1073 rfl rfl ?_
  refine wp_getAe (kk := 2) (r := 83) (nx := 1077) clsX11 dX11_init_1074 rfl kF_X11_28 (by decide) (sn_b (by decide)) (sn_t (by decide)) rfl (sn_p (by decide +kernel)) ?_
  refine wp_iconst (nx := 1078) dX11_init_1077 rfl (i32 (by decide)) ?_
  refine wp_iload_n (nx := 1079) dX11_init_1078 rfl rfl ?_
  refine wp_iadd (nx := 1080) dX11_init_1079 rfl ?_
  refine wp_eqI 7 (by decide) ?_
  refine wp_iconst (nx := 1081) dX11_init_1080 rfl (i32 (by decide)) ?_
  refine wp_iastore (nx := 1082) dX11_init_1081 rfl (sn_b (by decide)) (sn_i (by decide)) (sn_t (by decide)) ?_
  show Wp _ _ _ _ 1082 [cA 81, cI 7] [] (Sn 108 p_108 sc) (apU u_200 C0z) _
  refine wp_iinc (nx := 1085) dX11_init_1082 rfl rfl (by decide) ?_
  refine wp_ls (ls2 := [cA 81, cI 8]) rfl ?_
  refine wp_goto (nx := 1067) dX11_init_1085 rfl ?_
  refine wp_iload_n (nx := 1068) dX11_init_1067 rfl rfl ?_
  refine wp_bipush (nx := 1070) dX11_init_1068 rfl ⟨by decide, i32 (by decide)⟩ ?_
  refine wp_icmp_ge (nx := 1073) (tg := 1088) dX11_init_1070 rfl rfl (fun hc => ?_) (fun hc => absurd (by decide) hc)
  exact wp_return dX11_init_1088 rfl h
