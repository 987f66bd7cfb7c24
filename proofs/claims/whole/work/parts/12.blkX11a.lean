/-! blocks -/
theorem b_X11_lies_0 {d mc ms : Nat} {l0 l1 l2 : Int} {S : MS} {C : MC} {Q : Int → MS → MC → Prop} (F : Fix S) (h : ((l0 < l1 → Q 0 S C) ∧ (¬ l0 < l1 → ((l2 < l0 → Q 0 S C) ∧ (¬ l2 < l0 → Q 1 S C))))) : K_X11_lies_0 d mc ms l0 l1 l2 S C Q := by
  show Wp d mc ms M_X11_lies 0 [cI l0, cI l1, cI l2] [] S C Q
  refine wp_iload_n (nx := 1) dX11_lies_0 rfl rfl ?_
  refine wp_iload_n (nx := 2) dX11_lies_1 rfl rfl ?_
  refine wp_icmp_lt (nx := 5) (tg := 14) dX11_lies_2 rfl rfl (fun hc => ?_) (fun hc => ?_)
  · have h := h.1 hc
    refine wp_iconst (nx := 15) dX11_lies_14 rfl (i32 (by decide)) ?_
    exact wp_ireturn dX11_lies_15 rfl rfl (nz_of (Or.inl rfl)) h
  · have h := h.2 hc
    refine wp_iload_n (nx := 6) dX11_lies_5 rfl rfl ?_
    refine wp_iload_n (nx := 7) dX11_lies_6 rfl rfl ?_
    refine wp_icmp_gt (nx := 10) (tg := 14) dX11_lies_7 rfl rfl (fun hc => ?_) (fun hc => ?_)
    · have h := h.1 hc
      refine wp_iconst (nx := 15) dX11_lies_14 rfl (i32 (by decide)) ?_
      exact wp_ireturn dX11_lies_15 rfl rfl (nz_of (Or.inl rfl)) h
    · have h := h.2 hc
      refine wp_iconst (nx := 11) dX11_lies_10 rfl (i32 (by decide)) ?_
      refine wp_goto (nx := 15) dX11_lies_11 rfl ?_
      exact wp_ireturn dX11_lies_15 rfl rfl (nz_of (Or.inr rfl)) h
theorem b_X11_lesser_0 {d mc ms : Nat} {l0 l1 : Int} {S : MS} {C : MC} {Q : Int → MS → MC → Prop} (F : Fix S) (h : ((l1 ≤ l0 → Q l1 S C) ∧ (¬ l1 ≤ l0 → Q l0 S C))) : K_X11_lesser_0 d mc ms l0 l1 S C Q := by
  show Wp d mc ms M_X11_lesser 0 [cI l0, cI l1] [] S C Q
  refine wp_iload_n (nx := 1) dX11_lesser_0 rfl rfl ?_
  refine wp_iload_n (nx := 2) dX11_lesser_1 rfl rfl ?_
  refine wp_icmp_ge (nx := 5) (tg := 9) dX11_lesser_2 rfl rfl (fun hc => ?_) (fun hc => ?_)
  · have h := h.1 hc
    refine wp_iload_n (nx := 10) dX11_lesser_9 rfl rfl ?_
    exact wp_ireturn dX11_lesser_10 rfl rfl rfl h
  · have h := h.2 hc
    refine wp_iload_n (nx := 6) dX11_lesser_5 rfl rfl ?_
    refine wp_goto (nx := 10) dX11_lesser_6 rfl ?_
    exact wp_ireturn dX11_lesser_10 rfl rfl rfl h
theorem b_X11_greater_0 {d mc ms : Nat} {l0 l1 : Int} {S : MS} {C : MC} {Q : Int → MS → MC → Prop} (F : Fix S) (h : ((l0 ≤ l1 → Q l1 S C) ∧ (¬ l0 ≤ l1 → Q l0 S C))) : K_X11_greater_0 d mc ms l0 l1 S C Q := by
  show Wp d mc ms M_X11_greater 0 [cI l0, cI l1] [] S C Q
  refine wp_iload_n (nx := 1) dX11_greater_0 rfl rfl ?_
  refine wp_iload_n (nx := 2) dX11_greater_1 rfl rfl ?_
  refine wp_icmp_le (nx := 5) (tg := 9) dX11_greater_2 rfl rfl (fun hc => ?_) (fun hc => ?_)
  · have h := h.1 hc
    refine wp_iload_n (nx := 10) dX11_greater_9 rfl rfl ?_
    exact wp_ireturn dX11_greater_10 rfl rfl rfl h
  · have h := h.2 hc
    refine wp_iload_n (nx := 6) dX11_greater_5 rfl rfl ?_
    refine wp_goto (nx := 10) dX11_greater_6 rfl ?_
    exact wp_ireturn dX11_greater_10 rfl rfl rfl h
theorem b_X11_refuses_0 {d mc ms : Nat} {l1 : Int} {S : MS} {C : MC} {Q : Int → MS → MC → Prop} (F : Fix S) (h : ((0 : Int) ≤ w32 (-l1) ∧ w32 (-l1) < 7) ∧ ((0 : Int) ≤ w32 (-l1) ∧ w32 (-l1) < 7) ∧ Q l1 S (upC (upC C 81 0 l1) 82 (w32 (-l1)) (w32 ((C 82 (w32 (-l1))) + 1)))) : K_X11_refuses_0 d mc ms l1 S C Q := by
  show Wp d mc ms M_X11_refuses 0 [cA 81, cI l1] [] S C Q
  refine wp_aload_n (nx := 1) dX11_refuses_0 rfl rfl ?_
  refine wp_iload_n (nx := 2) dX11_refuses_1 rfl rfl ?_
  refine wp_putIe (kk := 0) 0 (nx := 5) clsX11 dX11_refuses_2 rfl kF_X11_3 (by decide) (fo_81 F) (ft_81 F) rfl rfl ⟨rfl, rfl⟩ rfl ?_
  refine wp_aload_n (nx := 6) dX11_refuses_5 rfl rfl ?_
  refine wp_getAe (kk := 1) (nx := 9) clsX11 dX11_refuses_6 rfl kF_X11_7 (by decide) (fo_81 F) (ft_81 F) rfl (fp_81_1 F) ?_
  refine wp_iload_n (nx := 10) dX11_refuses_9 rfl rfl ?_
  refine wp_ineg (nx := 11) dX11_refuses_10 rfl ?_
  refine wp_dup2 (nx := 12) dX11_refuses_11 rfl (k1I _) (k1A _) ?_
  obtain ⟨hi, h⟩ := h
  refine wp_ialoadE (nx := 13) dX11_refuses_12 rfl (fo_82 F) (fl_82 F) hi (ft_82 F) (upC_sA (by decide)) ?_
  refine wp_iconst (nx := 14) dX11_refuses_13 rfl (i32 (by decide)) ?_
  refine wp_iadd (nx := 15) dX11_refuses_14 rfl ?_
  obtain ⟨hi, h⟩ := h
  refine wp_iastoreE (nx := 16) dX11_refuses_15 rfl (fo_82 F) (fl_82 F) hi (ft_82 F) ?_
  refine wp_iload_n (nx := 17) dX11_refuses_16 rfl rfl ?_
  exact wp_ireturn dX11_refuses_17 rfl rfl rfl h
theorem b_X11_good_0 {d mc ms : Nat} {l1 : Int} {S : MS} {C : MC} {Q : Int → MS → MC → Prop} (F : Fix S) (h : Q l1 S (upC C 81 0 0)) : K_X11_good_0 d mc ms l1 S C Q := by
  show Wp d mc ms M_X11_good 0 [cA 81, cI l1] [] S C Q
  refine wp_aload_n (nx := 1) dX11_good_0 rfl rfl ?_
  refine wp_iconst (nx := 2) dX11_good_1 rfl (i32 (by decide)) ?_
  refine wp_putIe (kk := 0) 0 (nx := 5) clsX11 dX11_good_2 rfl kF_X11_3 (by decide) (fo_81 F) (ft_81 F) rfl rfl ⟨rfl, rfl⟩ rfl ?_
  refine wp_iload_n (nx := 6) dX11_good_5 rfl rfl ?_
  exact wp_ireturn dX11_good_6 rfl rfl rfl h
theorem b_X11_goodAnew_0 {d mc ms : Nat} {l1 : Int} {S : MS} {C : MC} {Q : Int → MS → MC → Prop} (F : Fix S) (h : K_X11_good_0 d 0 0 l1 S ((upC C 81 42 0)) (fun r1 Sq C2 => Sq = S ∧ Q r1 S C2)) : K_X11_goodAnew_0 (d + 1) mc ms l1 S C Q := by
  show Wp (d + 1) mc ms M_X11_goodAnew 0 [cA 81, cI l1] [] S C Q
  refine wp_aload_n (nx := 1) dX11_goodAnew_0 rfl rfl ?_
  refine wp_iconst (nx := 2) dX11_goodAnew_1 rfl (i32 (by decide)) ?_
  refine wp_putIe (kk := 42) 42 (nx := 5) clsX11 dX11_goodAnew_2 rfl kF_X11_11 (by decide) (fo_81 F) (ft_81 F) rfl rfl ⟨rfl, rfl⟩ rfl ?_
  refine wp_aload_n (nx := 6) dX11_goodAnew_5 rfl rfl ?_
  refine wp_iload_n (nx := 7) dX11_goodAnew_6 rfl rfl ?_
  refine wp_invV (nx := 10) (N := M_X11_good) (as := [cI l1]) (st := []) (mc := 0) (ms := 0) (mc' := mc) (ms' := ms) (a := 81) clsX11 dX11_goodAnew_7 rfl mok_X11_good kM_X11_14 ki_X11_good ke_X11_good (fo_81 F) (ft_81 F) rfl rfl (leB rfl) (leB rfl) (z0 _) (z0 _) (Wp.mono h ?_)
  intro r1 Sq C2 h
  obtain ⟨e9, h⟩ := h
  rw [e9]
  show Wp (d + 1) mc ms M_X11_goodAnew 10 [cA 81, cI l1] [cI r1] S C2 Q
  exact wp_ireturn dX11_goodAnew_10 rfl rfl rfl h
theorem b_X11_isIn_0 {d mc ms : Nat} {l0 l1 : Int} {S : MS} {C : MC} {Q : Int → MS → MC → Prop} (F : Fix S) (h : ((¬ iAnd (iShr l0 l1) 1 = 1 → Q 0 S C) ∧ (iAnd (iShr l0 l1) 1 = 1 → Q 1 S C))) : K_X11_isIn_0 d mc ms l0 l1 S C Q := by
  show Wp d mc ms M_X11_isIn 0 [cI l0, cI l1] [] S C Q
  refine wp_iload_n (nx := 1) dX11_isIn_0 rfl rfl ?_
  refine wp_iload_n (nx := 2) dX11_isIn_1 rfl rfl ?_
  refine wp_ishr (nx := 3) dX11_isIn_2 rfl ?_
  refine wp_iconst (nx := 4) dX11_isIn_3 rfl (i32 (by decide)) ?_
  refine wp_iand (nx := 5) dX11_isIn_4 rfl ?_
  refine wp_iconst (nx := 6) dX11_isIn_5 rfl (i32 (by decide)) ?_
  refine wp_icmp_ne (nx := 9) (tg := 13) dX11_isIn_6 rfl rfl (fun hc => ?_) (fun hc => ?_)
  · have h := h.1 hc
    refine wp_iconst (nx := 14) dX11_isIn_13 rfl (i32 (by decide)) ?_
    exact wp_ireturn dX11_isIn_14 rfl rfl (nz_of (Or.inl rfl)) h
  · have h := h.2 hc
    refine wp_iconst (nx := 10) dX11_isIn_9 rfl (i32 (by decide)) ?_
    refine wp_goto (nx := 14) dX11_isIn_10 rfl ?_
    exact wp_ireturn dX11_isIn_14 rfl rfl (nz_of (Or.inr rfl)) h
theorem b_X11_ones_0 {d mc ms : Nat} {l0 : Int} {S : MS} {C : MC} {Q : Int → MS → MC → Prop} (F : Fix S) (h : K_X11_ones_4 d mc ms l0 0 0 S C Q) : K_X11_ones_0 d mc ms l0 S C Q := by
  show Wp d mc ms M_X11_ones 0 [cI l0, cU, cU] [] S C Q
  refine wp_iconst (nx := 1) dX11_ones_0 rfl (i32 (by decide)) ?_
  refine wp_istore_n (nx := 2) dX11_ones_1 rfl (by decide) ?_
  refine wp_ls (ls2 := [cI l0, cI 0, cU]) rfl ?_
  refine wp_iconst (nx := 3) dX11_ones_2 rfl (i32 (by decide)) ?_
  refine wp_istore_n (nx := 4) dX11_ones_3 rfl (by decide) ?_
  refine wp_ls (ls2 := [cI l0, cI 0, cI 0]) rfl ?_
  exact h
theorem b_X11_ones_4 {d mc ms : Nat} {l0 l1 l2 : Int} {S : MS} {C : MC} {Q : Int → MS → MC → Prop} (F : Fix S) (h : ((8 ≤ l2 → Q l1 S C) ∧ (¬ 8 ≤ l2 → K_X11_ones_4 d mc ms l0 (w32 (l1 + (iAnd (iShr l0 l2) 1))) (w32 (l2 + 1)) S C Q))) : K_X11_ones_4 d mc ms l0 l1 l2 S C Q := by
  show Wp d mc ms M_X11_ones 4 [cI l0, cI l1, cI l2] [] S C Q
  refine wp_iload_n (nx := 5) dX11_ones_4 rfl rfl ?_
  refine wp_bipush (nx := 7) dX11_ones_5 rfl ⟨by decide, i32 (by decide)⟩ ?_
  refine wp_icmp_ge (nx := 10) (tg := 24) dX11_ones_7 rfl rfl (fun hc => ?_) (fun hc => ?_)
  · have h := h.1 hc
    refine wp_iload_n (nx := 25) dX11_ones_24 rfl rfl ?_
    exact wp_ireturn dX11_ones_25 rfl rfl rfl h
  · have h := h.2 hc
    refine wp_iload_n (nx := 11) dX11_ones_10 rfl rfl ?_
    refine wp_iload_n (nx := 12) dX11_ones_11 rfl rfl ?_
    refine wp_iload_n (nx := 13) dX11_ones_12 rfl rfl ?_
    refine wp_ishr (nx := 14) dX11_ones_13 rfl ?_
    refine wp_iconst (nx := 15) dX11_ones_14 rfl (i32 (by decide)) ?_
    refine wp_iand (nx := 16) dX11_ones_15 rfl ?_
    refine wp_iadd (nx := 17) dX11_ones_16 rfl ?_
    refine wp_istore_n (nx := 18) dX11_ones_17 rfl (by decide) ?_
    refine wp_ls (ls2 := [cI l0, cI (w32 (l1 + (iAnd (iShr l0 l2) 1))), cI l2]) rfl ?_
    refine wp_iinc (nx := 21) dX11_ones_18 rfl rfl (by decide) ?_
    refine wp_ls (ls2 := [cI l0, cI (w32 (l1 + (iAnd (iShr l0 l2) 1))), cI (w32 (l2 + 1))]) rfl ?_
    refine wp_goto (nx := 4) dX11_ones_21 rfl ?_
    exact h
theorem b_X11_isKey_0 {d mc ms : Nat} {l0 : Int} {S : MS} {C : MC} {Q : Int → MS → MC → Prop} (F : Fix S) (h : K_X11_lies_0 d 0 0 l0 0 7 S C (fun r1 Sq C2 => Sq = S ∧ ((r1 = 0 ∨ r1 = 1) ∧ Q r1 S C2))) : K_X11_isKey_0 (d + 1) mc ms l0 S C Q := by
  show Wp (d + 1) mc ms M_X11_isKey 0 [cI l0] [] S C Q
  refine wp_iload_n (nx := 1) dX11_isKey_0 rfl rfl ?_
  refine wp_iconst (nx := 2) dX11_isKey_1 rfl (i32 (by decide)) ?_
  refine wp_bipush (nx := 4) dX11_isKey_2 rfl ⟨by decide, i32 (by decide)⟩ ?_
  refine wp_invS (nx := 7) (N := M_X11_lies) (as := [cI l0, cI 0, cI 7]) (st := []) (mc := 0) (ms := 0) (mc' := mc) (ms' := ms) dX11_isKey_4 rfl mok_X11_lies kM_X11_18 ks_X11_lies rfl rfl (leB rfl) (leB rfl) (z0 _) (z0 _) (Wp.mono h ?_)
  intro r1 Sq C2 h
  obtain ⟨e9, h⟩ := h
  rw [e9]
  show Wp (d + 1) mc ms M_X11_isKey 7 [cI l0] [cI r1] S C2 Q
  obtain ⟨hz, h⟩ := h
  exact wp_ireturn dX11_isKey_7 rfl rfl (nz_of hz) h
theorem b_X11_isBeat_0 {d mc ms : Nat} {l0 : Int} {S : MS} {C : MC} {Q : Int → MS → MC → Prop} (F : Fix S) (h : K_X11_lies_0 d 0 0 l0 0 15 S C (fun r1 Sq C2 => Sq = S ∧ ((r1 = 0 ∨ r1 = 1) ∧ Q r1 S C2))) : K_X11_isBeat_0 (d + 1) mc ms l0 S C Q := by
  show Wp (d + 1) mc ms M_X11_isBeat 0 [cI l0] [] S C Q
  refine wp_iload_n (nx := 1) dX11_isBeat_0 rfl rfl ?_
  refine wp_iconst (nx := 2) dX11_isBeat_1 rfl (i32 (by decide)) ?_
  refine wp_bipush (nx := 4) dX11_isBeat_2 rfl ⟨by decide, i32 (by decide)⟩ ?_
  refine wp_invS (nx := 7) (N := M_X11_lies) (as := [cI l0, cI 0, cI 15]) (st := []) (mc := 0) (ms := 0) (mc' := mc) (ms' := ms) dX11_isBeat_4 rfl mok_X11_lies kM_X11_18 ks_X11_lies rfl rfl (leB rfl) (leB rfl) (z0 _) (z0 _) (Wp.mono h ?_)
  intro r1 Sq C2 h
  obtain ⟨e9, h⟩ := h
  rw [e9]
  show Wp (d + 1) mc ms M_X11_isBeat 7 [cI l0] [cI r1] S C2 Q
  obtain ⟨hz, h⟩ := h
  exact wp_ireturn dX11_isBeat_7 rfl rfl (nz_of hz) h
theorem b_X11_laysAside_0 {d mc ms : Nat} {l1 : Int} {S : MS} {C : MC} {Q : Int → MS → MC → Prop} (F : Fix S) (h : K_X11_laysAside_2 d mc ms l1 0 S C Q) : K_X11_laysAside_0 d mc ms l1 S C Q := by
  show Wp d mc ms M_X11_laysAside 0 [cA 81, cI l1, cU] [] S C Q
  refine wp_iconst (nx := 1) dX11_laysAside_0 rfl (i32 (by decide)) ?_
  refine wp_istore_n (nx := 2) dX11_laysAside_1 rfl (by decide) ?_
  refine wp_ls (ls2 := [cA 81, cI l1, cI 0]) rfl ?_
  exact h
theorem b_X11_laysAside_2 {d mc ms : Nat} {l1 l2 : Int} {S : MS} {C : MC} {Q : Int → MS → MC → Prop} (F : Fix S) (h : ((25 ≤ l2 → Q 0 S C) ∧ (¬ 25 ≤ l2 → ((0 : Int) ≤ l2 ∧ l2 < 5656) ∧ ((0 : Int) ≤ w32 ((w32 (25 * l1)) + l2) ∧ w32 ((w32 (25 * l1)) + l2) < 50) ∧ K_X11_laysAside_2 d mc ms l1 (w32 (l2 + 1)) S (upC C 86 (w32 ((w32 (25 * l1)) + l2)) (C 83 l2)) Q))) : K_X11_laysAside_2 d mc ms l1 l2 S C Q := by
  show Wp d mc ms M_X11_laysAside 2 [cA 81, cI l1, cI l2] [] S C Q
  refine wp_iload_n (nx := 3) dX11_laysAside_2 rfl rfl ?_
  refine wp_bipush (nx := 5) dX11_laysAside_3 rfl ⟨by decide, i32 (by decide)⟩ ?_
  refine wp_icmp_ge (nx := 8) (tg := 31) dX11_laysAside_5 rfl rfl (fun hc => ?_) (fun hc => ?_)
  · have h := h.1 hc
    exact wp_return dX11_laysAside_31 rfl h
  · have h := h.2 hc
    refine wp_aload_n (nx := 9) dX11_laysAside_8 rfl rfl ?_
    refine wp_getAe (kk := 5) (nx := 12) clsX11 dX11_laysAside_9 rfl kF_X11_38 (by decide) (fo_81 F) (ft_81 F) rfl (fp_81_5 F) ?_
    refine wp_bipush (nx := 14) dX11_laysAside_12 rfl ⟨by decide, i32 (by decide)⟩ ?_
    refine wp_iload_n (nx := 15) dX11_laysAside_14 rfl rfl ?_
    refine wp_imul (nx := 16) dX11_laysAside_15 rfl ?_
    refine wp_iload_n (nx := 17) dX11_laysAside_16 rfl rfl ?_
    refine wp_iadd (nx := 18) dX11_laysAside_17 rfl ?_
    refine wp_aload_n (nx := 19) dX11_laysAside_18 rfl rfl ?_
    refine wp_getAe (kk := 2) (nx := 22) clsX11 dX11_laysAside_19 rfl kF_X11_28 (by decide) (fo_81 F) (ft_81 F) rfl (fp_81_2 F) ?_
    refine wp_iload_n (nx := 23) dX11_laysAside_22 rfl rfl ?_
    obtain ⟨hi, h⟩ := h
    refine wp_ialoadE (nx := 24) dX11_laysAside_23 rfl (fo_83 F) (fl_83 F) hi (ft_83 F) rfl ?_
    obtain ⟨hi, h⟩ := h
    refine wp_iastoreE (nx := 25) dX11_laysAside_24 rfl (fo_86 F) (fl_86 F) hi (ft_86 F) ?_
    refine wp_iinc (nx := 28) dX11_laysAside_25 rfl rfl (by decide) ?_
    refine wp_ls (ls2 := [cA 81, cI l1, cI (w32 (l2 + 1))]) rfl ?_
    refine wp_goto (nx := 2) dX11_laysAside_28 rfl ?_
    exact h
theorem b_X11_takesBack_0 {d mc ms : Nat} {l1 : Int} {S : MS} {C : MC} {Q : Int → MS → MC → Prop} (F : Fix S) (h : K_X11_takesBack_2 d mc ms l1 0 S C Q) : K_X11_takesBack_0 d mc ms l1 S C Q := by
  show Wp d mc ms M_X11_takesBack 0 [cA 81, cI l1, cU] [] S C Q
  refine wp_iconst (nx := 1) dX11_takesBack_0 rfl (i32 (by decide)) ?_
  refine wp_istore_n (nx := 2) dX11_takesBack_1 rfl (by decide) ?_
  refine wp_ls (ls2 := [cA 81, cI l1, cI 0]) rfl ?_
  exact h
theorem b_X11_takesBack_2 {d mc ms : Nat} {l1 l2 : Int} {S : MS} {C : MC} {Q : Int → MS → MC → Prop} (F : Fix S) (h : ((25 ≤ l2 → Q 0 S C) ∧ (¬ 25 ≤ l2 → ((0 : Int) ≤ w32 ((w32 (25 * l1)) + l2) ∧ w32 ((w32 (25 * l1)) + l2) < 50) ∧ ((0 : Int) ≤ l2 ∧ l2 < 5656) ∧ K_X11_takesBack_2 d mc ms l1 (w32 (l2 + 1)) S (upC C 83 l2 (C 86 (w32 ((w32 (25 * l1)) + l2)))) Q))) : K_X11_takesBack_2 d mc ms l1 l2 S C Q := by
  show Wp d mc ms M_X11_takesBack 2 [cA 81, cI l1, cI l2] [] S C Q
  refine wp_iload_n (nx := 3) dX11_takesBack_2 rfl rfl ?_
  refine wp_bipush (nx := 5) dX11_takesBack_3 rfl ⟨by decide, i32 (by decide)⟩ ?_
  refine wp_icmp_ge (nx := 8) (tg := 31) dX11_takesBack_5 rfl rfl (fun hc => ?_) (fun hc => ?_)
  · have h := h.1 hc
    exact wp_return dX11_takesBack_31 rfl h
  · have h := h.2 hc
    refine wp_aload_n (nx := 9) dX11_takesBack_8 rfl rfl ?_
    refine wp_getAe (kk := 2) (nx := 12) clsX11 dX11_takesBack_9 rfl kF_X11_28 (by decide) (fo_81 F) (ft_81 F) rfl (fp_81_2 F) ?_
    refine wp_iload_n (nx := 13) dX11_takesBack_12 rfl rfl ?_
    refine wp_aload_n (nx := 14) dX11_takesBack_13 rfl rfl ?_
    refine wp_getAe (kk := 5) (nx := 17) clsX11 dX11_takesBack_14 rfl kF_X11_38 (by decide) (fo_81 F) (ft_81 F) rfl (fp_81_5 F) ?_
    refine wp_bipush (nx := 19) dX11_takesBack_17 rfl ⟨by decide, i32 (by decide)⟩ ?_
    refine wp_iload_n (nx := 20) dX11_takesBack_19 rfl rfl ?_
    refine wp_imul (nx := 21) dX11_takesBack_20 rfl ?_
    refine wp_iload_n (nx := 22) dX11_takesBack_21 rfl rfl ?_
    refine wp_iadd (nx := 23) dX11_takesBack_22 rfl ?_
    obtain ⟨hi, h⟩ := h
    refine wp_ialoadE (nx := 24) dX11_takesBack_23 rfl (fo_86 F) (fl_86 F) hi (ft_86 F) rfl ?_
    obtain ⟨hi, h⟩ := h
    refine wp_iastoreE (nx := 25) dX11_takesBack_24 rfl (fo_83 F) (fl_83 F) hi (ft_83 F) ?_
    refine wp_iinc (nx := 28) dX11_takesBack_25 rfl rfl (by decide) ?_
    refine wp_ls (ls2 := [cA 81, cI l1, cI (w32 (l2 + 1))]) rfl ?_
    refine wp_goto (nx := 2) dX11_takesBack_28 rfl ?_
    exact h
theorem b_X11_image_0 {d mc ms : Nat} {l1 : Int} {S : MS} {C : MC} {Q : Int → MS → MC → Prop} (F : Fix S) (h : K_X11_lies_0 d 0 0 l1 0 1 S C (fun r1 Sq C2 => Sq = S ∧ ((¬ r1 = 0 → K_X11_image_17 (d + 1) mc ms l1 0 S C2 Q) ∧ (r1 = 0 → K_X11_refuses_0 d 0 0 (-1) S C2 (fun r3 Sq C4 => Sq = S ∧ Q r3 S C4))))) : K_X11_image_0 (d + 1) mc ms l1 S C Q := by
  show Wp (d + 1) mc ms M_X11_image 0 [cA 81, cI l1, cU] [] S C Q
  refine wp_iload_n (nx := 1) dX11_image_0 rfl rfl ?_
  refine wp_iconst (nx := 2) dX11_image_1 rfl (i32 (by decide)) ?_
  refine wp_iconst (nx := 3) dX11_image_2 rfl (i32 (by decide)) ?_
  refine wp_invS (nx := 6) (N := M_X11_lies) (as := [cI l1, cI 0, cI 1]) (st := []) (mc := 0) (ms := 0) (mc' := mc) (ms' := ms) dX11_image_3 rfl mok_X11_lies kM_X11_18 ks_X11_lies rfl rfl (leB rfl) (leB rfl) (z0 _) (z0 _) (Wp.mono h ?_)
  intro r1 Sq C2 h
  obtain ⟨e9, h⟩ := h
  rw [e9]
  show Wp (d + 1) mc ms M_X11_image 6 [cA 81, cI l1, cU] [cI r1] S C2 Q
  refine wp_if_ne (nx := 9) (tg := 15) dX11_image_6 rfl rfl (fun hc => ?_) (fun hc => ?_)
  · have h := h.1 hc
    refine wp_iconst (nx := 16) dX11_image_15 rfl (i32 (by decide)) ?_
    refine wp_istore_n (nx := 17) dX11_image_16 rfl (by decide) ?_
    refine wp_ls (ls2 := [cA 81, cI l1, cI 0]) rfl ?_
    exact h
  · have h := h.2 hc
    refine wp_aload_n (nx := 10) dX11_image_9 rfl rfl ?_
    refine wp_iconst (nx := 11) dX11_image_10 rfl (i32 (by decide)) ?_
    refine wp_invV (nx := 14) (N := M_X11_refuses) (as := [cI (-1)]) (st := []) (mc := 0) (ms := 0) (mc' := mc) (ms' := ms) (a := 81) clsX11 dX11_image_11 rfl mok_X11_refuses kM_X11_112 ki_X11_refuses ke_X11_refuses (fo_81 F) (ft_81 F) rfl rfl (leB rfl) (leB rfl) (z0 _) (z0 _) (Wp.mono h ?_)
    intro r3 Sq C4 h
    obtain ⟨e9, h⟩ := h
    rw [e9]
    show Wp (d + 1) mc ms M_X11_image 14 [cA 81, cI l1, cU] [cI r3] S C4 Q
    exact wp_ireturn dX11_image_14 rfl rfl rfl h
theorem b_X11_image_17 {d mc ms : Nat} {l1 l2 : Int} {S : MS} {C : MC} {Q : Int → MS → MC → Prop} (F : Fix S) (h : ((5656 ≤ l2 → ((0 : Int) ≤ l1 ∧ l1 < 2) ∧ K_X11_good_0 d 0 0 0 S ((upC C 85 l1 (nZ 1))) (fun r1 Sq C2 => Sq = S ∧ Q r1 S C2)) ∧ (¬ 5656 ≤ l2 → ((0 : Int) ≤ l2 ∧ l2 < 5656) ∧ ((0 : Int) ≤ w32 ((w32 (5656 * l1)) + l2) ∧ w32 ((w32 (5656 * l1)) + l2) < 11312) ∧ K_X11_image_17 (d + 1) mc ms l1 (w32 (l2 + 1)) S (upC C 84 (w32 ((w32 (5656 * l1)) + l2)) (C 83 l2)) Q))) : K_X11_image_17 (d + 1) mc ms l1 l2 S C Q := by
  show Wp (d + 1) mc ms M_X11_image 17 [cA 81, cI l1, cI l2] [] S C Q
  refine wp_iload_n (nx := 18) dX11_image_17 rfl rfl ?_
  refine wp_sipush (nx := 21) dX11_image_18 rfl ⟨by decide, i32 (by decide)⟩ ?_
  refine wp_icmp_ge (nx := 24) (tg := 48) dX11_image_21 rfl rfl (fun hc => ?_) (fun hc => ?_)
  · have h := h.1 hc
    refine wp_aload_n (nx := 49) dX11_image_48 rfl rfl ?_
    refine wp_getAe (kk := 4) (nx := 52) clsX11 dX11_image_49 rfl kF_X11_34 (by decide) (fo_81 F) (ft_81 F) rfl (fp_81_4 F) ?_
    refine wp_iload_n (nx := 53) dX11_image_52 rfl rfl ?_
    refine wp_iconst (nx := 54) dX11_image_53 rfl (i32 (by decide)) ?_
    obtain ⟨hi, h⟩ := h
    refine wp_zastoreE (nx := 55) dX11_image_54 rfl (fo_85 F) (fl_85 F) hi (ft_85 F) ?_
    refine wp_aload_n (nx := 56) dX11_image_55 rfl rfl ?_
    refine wp_iconst (nx := 57) dX11_image_56 rfl (i32 (by decide)) ?_
    refine wp_invV (nx := 60) (N := M_X11_good) (as := [cI 0]) (st := []) (mc := 0) (ms := 0) (mc' := mc) (ms' := ms) (a := 81) clsX11 dX11_image_57 rfl mok_X11_good kM_X11_14 ki_X11_good ke_X11_good (fo_81 F) (ft_81 F) rfl rfl (leB rfl) (leB rfl) (z0 _) (z0 _) (Wp.mono h ?_)
    intro r1 Sq C2 h
    obtain ⟨e9, h⟩ := h
    rw [e9]
    show Wp (d + 1) mc ms M_X11_image 60 [cA 81, cI l1, cI l2] [cI r1] S C2 Q
    exact wp_ireturn dX11_image_60 rfl rfl rfl h
  · have h := h.2 hc
    refine wp_aload_n (nx := 25) dX11_image_24 rfl rfl ?_
    refine wp_getAe (kk := 3) (nx := 28) clsX11 dX11_image_25 rfl kF_X11_31 (by decide) (fo_81 F) (ft_81 F) rfl (fp_81_3 F) ?_
    refine wp_sipush (nx := 31) dX11_image_28 rfl ⟨by decide, i32 (by decide)⟩ ?_
    refine wp_iload_n (nx := 32) dX11_image_31 rfl rfl ?_
    refine wp_imul (nx := 33) dX11_image_32 rfl ?_
    refine wp_iload_n (nx := 34) dX11_image_33 rfl rfl ?_
    refine wp_iadd (nx := 35) dX11_image_34 rfl ?_
    refine wp_aload_n (nx := 36) dX11_image_35 rfl rfl ?_
    refine wp_getAe (kk := 2) (nx := 39) clsX11 dX11_image_36 rfl kF_X11_28 (by decide) (fo_81 F) (ft_81 F) rfl (fp_81_2 F) ?_
    refine wp_iload_n (nx := 40) dX11_image_39 rfl rfl ?_
    obtain ⟨hi, h⟩ := h
    refine wp_ialoadE (nx := 41) dX11_image_40 rfl (fo_83 F) (fl_83 F) hi (ft_83 F) rfl ?_
    obtain ⟨hi, h⟩ := h
    refine wp_iastoreE (nx := 42) dX11_image_41 rfl (fo_84 F) (fl_84 F) hi (ft_84 F) ?_
    refine wp_iinc (nx := 45) dX11_image_42 rfl rfl (by decide) ?_
    refine wp_ls (ls2 := [cA 81, cI l1, cI (w32 (l2 + 1))]) rfl ?_
    refine wp_goto (nx := 17) dX11_image_45 rfl ?_
    exact h
theorem b_X11_back_0 {d mc ms : Nat} {l1 : Int} {S : MS} {C : MC} {Q : Int → MS → MC → Prop} (F : Fix S) (h : K_X11_lies_0 d 0 0 l1 0 1 S C (fun r1 Sq C2 => Sq = S ∧ ((¬ r1 = 0 → ((0 : Int) ≤ l1 ∧ l1 < 2) ∧ ((¬ C2 85 l1 = 0 → K_X11_back_33 (d + 1) mc ms l1 0 S C2 Q) ∧ (C2 85 l1 = 0 → K_X11_refuses_0 d 0 0 (-2) S C2 (fun r3 Sq C4 => Sq = S ∧ Q r3 S C4)))) ∧ (r1 = 0 → K_X11_refuses_0 d 0 0 (-1) S C2 (fun r5 Sq C6 => Sq = S ∧ Q r5 S C6))))) : K_X11_back_0 (d + 1) mc ms l1 S C Q := by
  show Wp (d + 1) mc ms M_X11_back 0 [cA 81, cI l1, cU] [] S C Q
  refine wp_iload_n (nx := 1) dX11_back_0 rfl rfl ?_
  refine wp_iconst (nx := 2) dX11_back_1 rfl (i32 (by decide)) ?_
  refine wp_iconst (nx := 3) dX11_back_2 rfl (i32 (by decide)) ?_
  refine wp_invS (nx := 6) (N := M_X11_lies) (as := [cI l1, cI 0, cI 1]) (st := []) (mc := 0) (ms := 0) (mc' := mc) (ms' := ms) dX11_back_3 rfl mok_X11_lies kM_X11_18 ks_X11_lies rfl rfl (leB rfl) (leB rfl) (z0 _) (z0 _) (Wp.mono h ?_)
  intro r1 Sq C2 h
  obtain ⟨e9, h⟩ := h
  rw [e9]
  show Wp (d + 1) mc ms M_X11_back 6 [cA 81, cI l1, cU] [cI r1] S C2 Q
  refine wp_if_ne (nx := 9) (tg := 15) dX11_back_6 rfl rfl (fun hc => ?_) (fun hc => ?_)
  · have h := h.1 hc
    refine wp_aload_n (nx := 16) dX11_back_15 rfl rfl ?_
    refine wp_getAe (kk := 4) (nx := 19) clsX11 dX11_back_16 rfl kF_X11_34 (by decide) (fo_81 F) (ft_81 F) rfl (fp_81_4 F) ?_
    refine wp_iload_n (nx := 20) dX11_back_19 rfl rfl ?_
    obtain ⟨hi, h⟩ := h
    refine wp_zaloadE (nx := 21) dX11_back_20 rfl (fo_85 F) (fl_85 F) hi (ft_85 F) rfl ?_
    refine wp_if_ne (nx := 24) (tg := 31) dX11_back_21 rfl rfl (fun hc => ?_) (fun hc => ?_)
    · have h := h.1 hc
      refine wp_iconst (nx := 32) dX11_back_31 rfl (i32 (by decide)) ?_
      refine wp_istore_n (nx := 33) dX11_back_32 rfl (by decide) ?_
      refine wp_ls (ls2 := [cA 81, cI l1, cI 0]) rfl ?_
      exact h
    · have h := h.2 hc
      refine wp_aload_n (nx := 25) dX11_back_24 rfl rfl ?_
      refine wp_bipush (nx := 27) dX11_back_25 rfl ⟨by decide, i32 (by decide)⟩ ?_
      refine wp_invV (nx := 30) (N := M_X11_refuses) (as := [cI (-2)]) (st := []) (mc := 0) (ms := 0) (mc' := mc) (ms' := ms) (a := 81) clsX11 dX11_back_27 rfl mok_X11_refuses kM_X11_112 ki_X11_refuses ke_X11_refuses (fo_81 F) (ft_81 F) rfl rfl (leB rfl) (leB rfl) (z0 _) (z0 _) (Wp.mono h ?_)
      intro r3 Sq C4 h
      obtain ⟨e9, h⟩ := h
      rw [e9]
      show Wp (d + 1) mc ms M_X11_back 30 [cA 81, cI l1, cU] [cI r3] S C4 Q
      exact wp_ireturn dX11_back_30 rfl rfl rfl h
  · have h := h.2 hc
    refine wp_aload_n (nx := 10) dX11_back_9 rfl rfl ?_
    refine wp_iconst (nx := 11) dX11_back_10 rfl (i32 (by decide)) ?_
    refine wp_invV (nx := 14) (N := M_X11_refuses) (as := [cI (-1)]) (st := []) (mc := 0) (ms := 0) (mc' := mc) (ms' := ms) (a := 81) clsX11 dX11_back_11 rfl mok_X11_refuses kM_X11_112 ki_X11_refuses ke_X11_refuses (fo_81 F) (ft_81 F) rfl rfl (leB rfl) (leB rfl) (z0 _) (z0 _) (Wp.mono h ?_)
    intro r5 Sq C6 h
    obtain ⟨e9, h⟩ := h
    rw [e9]
    show Wp (d + 1) mc ms M_X11_back 14 [cA 81, cI l1, cU] [cI r5] S C6 Q
    exact wp_ireturn dX11_back_14 rfl rfl rfl h
theorem b_X11_back_33 {d mc ms : Nat} {l1 l2 : Int} {S : MS} {C : MC} {Q : Int → MS → MC → Prop} (F : Fix S) (h : ((5656 ≤ l2 → K_X11_goodAnew_0 d 0 0 0 S C (fun r1 Sq C2 => Sq = S ∧ Q r1 S C2)) ∧ (¬ 5656 ≤ l2 → ((0 : Int) ≤ w32 ((w32 (5656 * l1)) + l2) ∧ w32 ((w32 (5656 * l1)) + l2) < 11312) ∧ ((0 : Int) ≤ l2 ∧ l2 < 5656) ∧ K_X11_back_33 (d + 1) mc ms l1 (w32 (l2 + 1)) S (upC C 83 l2 (C 84 (w32 ((w32 (5656 * l1)) + l2)))) Q))) : K_X11_back_33 (d + 1) mc ms l1 l2 S C Q := by
  show Wp (d + 1) mc ms M_X11_back 33 [cA 81, cI l1, cI l2] [] S C Q
  refine wp_iload_n (nx := 34) dX11_back_33 rfl rfl ?_
  refine wp_sipush (nx := 37) dX11_back_34 rfl ⟨by decide, i32 (by decide)⟩ ?_
  refine wp_icmp_ge (nx := 40) (tg := 64) dX11_back_37 rfl rfl (fun hc => ?_) (fun hc => ?_)
  · have h := h.1 hc
    refine wp_aload_n (nx := 65) dX11_back_64 rfl rfl ?_
    refine wp_iconst (nx := 66) dX11_back_65 rfl (i32 (by decide)) ?_
    refine wp_invV (nx := 69) (N := M_X11_goodAnew) (as := [cI 0]) (st := []) (mc := 0) (ms := 0) (mc' := mc) (ms' := ms) (a := 81) clsX11 dX11_back_66 rfl mok_X11_goodAnew kM_X11_115 ki_X11_goodAnew ke_X11_goodAnew (fo_81 F) (ft_81 F) rfl rfl (leB rfl) (leB rfl) (z0 _) (z0 _) (Wp.mono h ?_)
    intro r1 Sq C2 h
    obtain ⟨e9, h⟩ := h
    rw [e9]
    show Wp (d + 1) mc ms M_X11_back 69 [cA 81, cI l1, cI l2] [cI r1] S C2 Q
    exact wp_ireturn dX11_back_69 rfl rfl rfl h
  · have h := h.2 hc
    refine wp_aload_n (nx := 41) dX11_back_40 rfl rfl ?_
    refine wp_getAe (kk := 2) (nx := 44) clsX11 dX11_back_41 rfl kF_X11_28 (by decide) (fo_81 F) (ft_81 F) rfl (fp_81_2 F) ?_
    refine wp_iload_n (nx := 45) dX11_back_44 rfl rfl ?_
    refine wp_aload_n (nx := 46) dX11_back_45 rfl rfl ?_
    refine wp_getAe (kk := 3) (nx := 49) clsX11 dX11_back_46 rfl kF_X11_31 (by decide) (fo_81 F) (ft_81 F) rfl (fp_81_3 F) ?_
    refine wp_sipush (nx := 52) dX11_back_49 rfl ⟨by decide, i32 (by decide)⟩ ?_
    refine wp_iload_n (nx := 53) dX11_back_52 rfl rfl ?_
    refine wp_imul (nx := 54) dX11_back_53 rfl ?_
    refine wp_iload_n (nx := 55) dX11_back_54 rfl rfl ?_
    refine wp_iadd (nx := 56) dX11_back_55 rfl ?_
    obtain ⟨hi, h⟩ := h
    refine wp_ialoadE (nx := 57) dX11_back_56 rfl (fo_84 F) (fl_84 F) hi (ft_84 F) rfl ?_
    obtain ⟨hi, h⟩ := h
    refine wp_iastoreE (nx := 58) dX11_back_57 rfl (fo_83 F) (fl_83 F) hi (ft_83 F) ?_
    refine wp_iinc (nx := 61) dX11_back_58 rfl rfl (by decide) ?_
    refine wp_ls (ls2 := [cA 81, cI l1, cI (w32 (l2 + 1))]) rfl ?_
    refine wp_goto (nx := 33) dX11_back_61 rfl ?_
    exact h
theorem b_X11_many_0 {d mc ms : Nat} {S : MS} {C : MC} {Q : Int → MS → MC → Prop} (F : Fix S) (h : Q (C 83 45) S C) : K_X11_many_0 d mc ms S C Q := by
  show Wp d mc ms M_X11_many 0 [cA 81] [] S C Q
  refine wp_aload_n (nx := 1) dX11_many_0 rfl rfl ?_
  refine wp_getAe (kk := 2) (nx := 4) clsX11 dX11_many_1 rfl kF_X11_28 (by decide) (fo_81 F) (ft_81 F) rfl (fp_81_2 F) ?_
  refine wp_bipush (nx := 6) dX11_many_4 rfl ⟨by decide, i32 (by decide)⟩ ?_
  refine wp_ialoadE (nx := 7) dX11_many_6 rfl (fo_83 F) (fl_83 F) (by decide) (ft_83 F) rfl ?_
  exact wp_ireturn dX11_many_7 rfl rfl rfl h
theorem b_X11_isHouse_0 {d mc ms : Nat} {l1 : Int} {S : MS} {C : MC} {Q : Int → MS → MC → Prop} (F : Fix S) (h : K_X11_many_0 d 0 0 S C (fun r1 Sq C2 => Sq = S ∧ K_X11_lies_0 d 0 0 l1 0 (w32 (r1 - 1)) S C2 (fun r3 Sq C4 => Sq = S ∧ ((r3 = 0 ∨ r3 = 1) ∧ Q r3 S C4)))) : K_X11_isHouse_0 (d + 1) mc ms l1 S C Q := by
  show Wp (d + 1) mc ms M_X11_isHouse 0 [cA 81, cI l1] [] S C Q
  refine wp_iload_n (nx := 1) dX11_isHouse_0 rfl rfl ?_
  refine wp_iconst (nx := 2) dX11_isHouse_1 rfl (i32 (by decide)) ?_
  refine wp_aload_n (nx := 3) dX11_isHouse_2 rfl rfl ?_
  refine wp_invV (nx := 6) (N := M_X11_many) (as := []) (st := [cI 0, cI l1]) (mc := 0) (ms := 0) (mc' := mc) (ms' := ms) (a := 81) clsX11 dX11_isHouse_3 rfl mok_X11_many kM_X11_118 ki_X11_many ke_X11_many (fo_81 F) (ft_81 F) rfl rfl (leB rfl) (leB rfl) (z0 _) (z0 _) (Wp.mono h ?_)
  intro r1 Sq C2 h
  obtain ⟨e9, h⟩ := h
  rw [e9]
  show Wp (d + 1) mc ms M_X11_isHouse 6 [cA 81, cI l1] [cI r1, cI 0, cI l1] S C2 Q
  refine wp_iconst (nx := 7) dX11_isHouse_6 rfl (i32 (by decide)) ?_
  refine wp_isub (nx := 8) dX11_isHouse_7 rfl ?_
  refine wp_invS (nx := 11) (N := M_X11_lies) (as := [cI l1, cI 0, cI (w32 (r1 - 1))]) (st := []) (mc := 0) (ms := 0) (mc' := mc) (ms' := ms) dX11_isHouse_8 rfl mok_X11_lies kM_X11_18 ks_X11_lies rfl rfl (leB rfl) (leB rfl) (z0 _) (z0 _) (Wp.mono h ?_)
  intro r3 Sq C4 h
  obtain ⟨e9, h⟩ := h
  rw [e9]
  show Wp (d + 1) mc ms M_X11_isHouse 11 [cA 81, cI l1] [cI r3] S C4 Q
  obtain ⟨hz, h⟩ := h
  exact wp_ireturn dX11_isHouse_11 rfl rfl (nz_of hz) h
theorem b_X11_musicAt_0 {d mc ms : Nat} {l1 : Int} {S : MS} {C : MC} {Q : Int → MS → MC → Prop} (F : Fix S) (h : ((0 : Int) ≤ w32 (8 + l1) ∧ w32 (8 + l1) < 5656) ∧ Q (C 83 (w32 (8 + l1))) S C) : K_X11_musicAt_0 d mc ms l1 S C Q := by
  show Wp d mc ms M_X11_musicAt 0 [cA 81, cI l1] [] S C Q
  refine wp_aload_n (nx := 1) dX11_musicAt_0 rfl rfl ?_
  refine wp_getAe (kk := 2) (nx := 4) clsX11 dX11_musicAt_1 rfl kF_X11_28 (by decide) (fo_81 F) (ft_81 F) rfl (fp_81_2 F) ?_
  refine wp_bipush (nx := 6) dX11_musicAt_4 rfl ⟨by decide, i32 (by decide)⟩ ?_
  refine wp_iload_n (nx := 7) dX11_musicAt_6 rfl rfl ?_
  refine wp_iadd (nx := 8) dX11_musicAt_7 rfl ?_
  obtain ⟨hi, h⟩ := h
  refine wp_ialoadE (nx := 9) dX11_musicAt_8 rfl (fo_83 F) (fl_83 F) hi (ft_83 F) rfl ?_
  exact wp_ireturn dX11_musicAt_9 rfl rfl rfl h
theorem b_X11_notes0_0 {d mc ms : Nat} {S : MS} {C : MC} {Q : Int → MS → MC → Prop} (F : Fix S) (h : K_X11_notes0_4 (d + 1) mc ms 0 0 S C Q) : K_X11_notes0_0 (d + 1) mc ms S C Q := by
  show Wp (d + 1) mc ms M_X11_notes0 0 [cA 81, cU, cU] [] S C Q
  refine wp_iconst (nx := 1) dX11_notes0_0 rfl (i32 (by decide)) ?_
  refine wp_istore_n (nx := 2) dX11_notes0_1 rfl (by decide) ?_
  refine wp_ls (ls2 := [cA 81, cI 0, cU]) rfl ?_
  refine wp_iconst (nx := 3) dX11_notes0_2 rfl (i32 (by decide)) ?_
  refine wp_istore_n (nx := 4) dX11_notes0_3 rfl (by decide) ?_
  refine wp_ls (ls2 := [cA 81, cI 0, cI 0]) rfl ?_
  exact h
theorem b_X11_notes0_4 {d mc ms : Nat} {l1 l2 : Int} {S : MS} {C : MC} {Q : Int → MS → MC → Prop} (F : Fix S) (h : ((16 ≤ l2 → Q l1 S C) ∧ (¬ 16 ≤ l2 → K_X11_musicAt_0 d 0 0 l2 S C (fun r1 Sq C2 => Sq = S ∧ K_X11_ones_0 d 0 0 r1 S C2 (fun r3 Sq C4 => Sq = S ∧ K_X11_notes0_4 (d + 1) mc ms (w32 (l1 + r3)) (w32 (l2 + 1)) S C4 Q))))) : K_X11_notes0_4 (d + 1) mc ms l1 l2 S C Q := by
  show Wp (d + 1) mc ms M_X11_notes0 4 [cA 81, cI l1, cI l2] [] S C Q
  refine wp_iload_n (nx := 5) dX11_notes0_4 rfl rfl ?_
  refine wp_bipush (nx := 7) dX11_notes0_5 rfl ⟨by decide, i32 (by decide)⟩ ?_
  refine wp_icmp_ge (nx := 10) (tg := 27) dX11_notes0_7 rfl rfl (fun hc => ?_) (fun hc => ?_)
  · have h := h.1 hc
    refine wp_iload_n (nx := 28) dX11_notes0_27 rfl rfl ?_
    exact wp_ireturn dX11_notes0_28 rfl rfl rfl h
  · have h := h.2 hc
    refine wp_iload_n (nx := 11) dX11_notes0_10 rfl rfl ?_
    refine wp_aload_n (nx := 12) dX11_notes0_11 rfl rfl ?_
    refine wp_iload_n (nx := 13) dX11_notes0_12 rfl rfl ?_
    refine wp_invV (nx := 16) (N := M_X11_musicAt) (as := [cI l2]) (st := [cI l1]) (mc := 0) (ms := 0) (mc' := mc) (ms' := ms) (a := 81) clsX11 dX11_notes0_13 rfl mok_X11_musicAt kM_X11_122 ki_X11_musicAt ke_X11_musicAt (fo_81 F) (ft_81 F) rfl rfl (leB rfl) (leB rfl) (z0 _) (z0 _) (Wp.mono h ?_)
    intro r1 Sq C2 h
    obtain ⟨e9, h⟩ := h
    rw [e9]
    show Wp (d + 1) mc ms M_X11_notes0 16 [cA 81, cI l1, cI l2] [cI r1, cI l1] S C2 Q
    refine wp_invS (nx := 19) (N := M_X11_ones) (as := [cI r1]) (st := [cI l1]) (mc := 0) (ms := 0) (mc' := mc) (ms' := ms) dX11_notes0_16 rfl mok_X11_ones kM_X11_125 ks_X11_ones rfl rfl (leB rfl) (leB rfl) (z0 _) (z0 _) (Wp.mono h ?_)
    intro r3 Sq C4 h
    obtain ⟨e9, h⟩ := h
    rw [e9]
    show Wp (d + 1) mc ms M_X11_notes0 19 [cA 81, cI l1, cI l2] [cI r3, cI l1] S C4 Q
    refine wp_iadd (nx := 20) dX11_notes0_19 rfl ?_
    refine wp_istore_n (nx := 21) dX11_notes0_20 rfl (by decide) ?_
    refine wp_ls (ls2 := [cA 81, cI (w32 (l1 + r3)), cI l2]) rfl ?_
    refine wp_iinc (nx := 24) dX11_notes0_21 rfl rfl (by decide) ?_
    refine wp_ls (ls2 := [cA 81, cI (w32 (l1 + r3)), cI (w32 (l2 + 1))]) rfl ?_
    refine wp_goto (nx := 4) dX11_notes0_24 rfl ?_
    exact h
theorem b_X11_house_0 {d mc ms : Nat} {l1 l2 : Int} {S : MS} {C : MC} {Q : Int → MS → MC → Prop} (F : Fix S) (h : K_X11_lies_0 d 0 0 l1 1 8 S C (fun r1 Sq C2 => Sq = S ∧ ((r1 = 0 → K_X11_refuses_0 d 0 0 (-1) S C2 (fun r3 Sq C4 => Sq = S ∧ Q r3 S C4)) ∧ (¬ r1 = 0 → K_X11_lies_0 d 0 0 l2 0 7 S C2 (fun r5 Sq C6 => Sq = S ∧ ((¬ r5 = 0 → K_X11_many_0 d 0 0 S C6 (fun r7 Sq C8 => Sq = S ∧ ((¬ r7 = 6 → ((0 : Int) ≤ w32 (25 + r7) ∧ w32 (25 + r7) < 5656) ∧ ((0 : Int) ≤ w32 (31 + r7) ∧ w32 (31 + r7) < 5656) ∧ K_X11_goodAnew_0 d 0 0 r7 S ((upC (upC (upC C8 83 (w32 (25 + r7)) l1) 83 (w32 (31 + r7)) l2) 83 45 (w32 (((upC (upC C8 83 (w32 (25 + r7)) l1) 83 (w32 (31 + r7)) l2) 83 45) + 1)))) (fun r9 Sq C10 => Sq = S ∧ Q r9 S C10)) ∧ (r7 = 6 → K_X11_refuses_0 d 0 0 (-5) S C8 (fun r11 Sq C12 => Sq = S ∧ Q r11 S C12))))) ∧ (r5 = 0 → K_X11_refuses_0 d 0 0 (-1) S C6 (fun r13 Sq C14 => Sq = S ∧ Q r13 S C14)))))))) : K_X11_house_0 (d + 1) mc ms l1 l2 S C Q := by
  show Wp (d + 1) mc ms M_X11_house 0 [cA 81, cI l1, cI l2, cU] [] S C Q
  refine wp_iload_n (nx := 1) dX11_house_0 rfl rfl ?_
  refine wp_iconst (nx := 2) dX11_house_1 rfl (i32 (by decide)) ?_
  refine wp_bipush (nx := 4) dX11_house_2 rfl ⟨by decide, i32 (by decide)⟩ ?_
  refine wp_invS (nx := 7) (N := M_X11_lies) (as := [cI l1, cI 1, cI 8]) (st := []) (mc := 0) (ms := 0) (mc' := mc) (ms' := ms) dX11_house_4 rfl mok_X11_lies kM_X11_18 ks_X11_lies rfl rfl (leB rfl) (leB rfl) (z0 _) (z0 _) (Wp.mono h ?_)
  intro r1 Sq C2 h
  obtain ⟨e9, h⟩ := h
  rw [e9]
  show Wp (d + 1) mc ms M_X11_house 7 [cA 81, cI l1, cI l2, cU] [cI r1] S C2 Q
  refine wp_if_eq (nx := 10) (tg := 20) dX11_house_7 rfl rfl (fun hc => ?_) (fun hc => ?_)
  · have h := h.1 hc
    refine wp_aload_n (nx := 21) dX11_house_20 rfl rfl ?_
    refine wp_iconst (nx := 22) dX11_house_21 rfl (i32 (by decide)) ?_
    refine wp_invV (nx := 25) (N := M_X11_refuses) (as := [cI (-1)]) (st := []) (mc := 0) (ms := 0) (mc' := mc) (ms' := ms) (a := 81) clsX11 dX11_house_22 rfl mok_X11_refuses kM_X11_112 ki_X11_refuses ke_X11_refuses (fo_81 F) (ft_81 F) rfl rfl (leB rfl) (leB rfl) (z0 _) (z0 _) (Wp.mono h ?_)
    intro r3 Sq C4 h
    obtain ⟨e9, h⟩ := h
    rw [e9]
    show Wp (d + 1) mc ms M_X11_house 25 [cA 81, cI l1, cI l2, cU] [cI r3] S C4 Q
    exact wp_ireturn dX11_house_25 rfl rfl rfl h
  · have h := h.2 hc
    refine wp_iload_n (nx := 11) dX11_house_10 rfl rfl ?_
    refine wp_iconst (nx := 12) dX11_house_11 rfl (i32 (by decide)) ?_
    refine wp_bipush (nx := 14) dX11_house_12 rfl ⟨by decide, i32 (by decide)⟩ ?_
    refine wp_invS (nx := 17) (N := M_X11_lies) (as := [cI l2, cI 0, cI 7]) (st := []) (mc := 0) (ms := 0) (mc' := mc) (ms' := ms) dX11_house_14 rfl mok_X11_lies kM_X11_18 ks_X11_lies rfl rfl (leB rfl) (leB rfl) (z0 _) (z0 _) (Wp.mono h ?_)
    intro r5 Sq C6 h
    obtain ⟨e9, h⟩ := h
    rw [e9]
    show Wp (d + 1) mc ms M_X11_house 17 [cA 81, cI l1, cI l2, cU] [cI r5] S C6 Q
    refine wp_if_ne (nx := 20) (tg := 26) dX11_house_17 rfl rfl (fun hc => ?_) (fun hc => ?_)
    · have h := h.1 hc
      refine wp_aload_n (nx := 27) dX11_house_26 rfl rfl ?_
      refine wp_invV (nx := 30) (N := M_X11_many) (as := []) (st := []) (mc := 0) (ms := 0) (mc' := mc) (ms' := ms) (a := 81) clsX11 dX11_house_27 rfl mok_X11_many kM_X11_118 ki_X11_many ke_X11_many (fo_81 F) (ft_81 F) rfl rfl (leB rfl) (leB rfl) (z0 _) (z0 _) (Wp.mono h ?_)
      intro r7 Sq C8 h
      obtain ⟨e9, h⟩ := h
      rw [e9]
      show Wp (d + 1) mc ms M_X11_house 30 [cA 81, cI l1, cI l2, cU] [cI r7] S C8 Q
      refine wp_istore_n (nx := 31) dX11_house_30 rfl (by decide) ?_
      refine wp_ls (ls2 := [cA 81, cI l1, cI l2, cI r7]) rfl ?_
      refine wp_iload_n (nx := 32) dX11_house_31 rfl rfl ?_
      refine wp_bipush (nx := 34) dX11_house_32 rfl ⟨by decide, i32 (by decide)⟩ ?_
      refine wp_icmp_ne (nx := 37) (tg := 44) dX11_house_34 rfl rfl (fun hc => ?_) (fun hc => ?_)
      · have h := h.1 hc
        refine wp_aload_n (nx := 45) dX11_house_44 rfl rfl ?_
        refine wp_getAe (kk := 2) (nx := 48) clsX11 dX11_house_45 rfl kF_X11_28 (by decide) (fo_81 F) (ft_81 F) rfl (fp_81_2 F) ?_
        refine wp_bipush (nx := 50) dX11_house_48 rfl ⟨by decide, i32 (by decide)⟩ ?_
        refine wp_iload_n (nx := 51) dX11_house_50 rfl rfl ?_
        refine wp_iadd (nx := 52) dX11_house_51 rfl ?_
        refine wp_iload_n (nx := 53) dX11_house_52 rfl rfl ?_
        obtain ⟨hi, h⟩ := h
        refine wp_iastoreE (nx := 54) dX11_house_53 rfl (fo_83 F) (fl_83 F) hi (ft_83 F) ?_
        refine wp_aload_n (nx := 55) dX11_house_54 rfl rfl ?_
        refine wp_getAe (kk := 2) (nx := 58) clsX11 dX11_house_55 rfl kF_X11_28 (by decide) (fo_81 F) (ft_81 F) rfl (fp_81_2 F) ?_
        refine wp_bipush (nx := 60) dX11_house_58 rfl ⟨by decide, i32 (by decide)⟩ ?_
        refine wp_iload_n (nx := 61) dX11_house_60 rfl rfl ?_
        refine wp_iadd (nx := 62) dX11_house_61 rfl ?_
        refine wp_iload_n (nx := 63) dX11_house_62 rfl rfl ?_
        obtain ⟨hi, h⟩ := h
        refine wp_iastoreE (nx := 64) dX11_house_63 rfl (fo_83 F) (fl_83 F) hi (ft_83 F) ?_
        refine wp_aload_n (nx := 65) dX11_house_64 rfl rfl ?_
        refine wp_getAe (kk := 2) (nx := 68) clsX11 dX11_house_65 rfl kF_X11_28 (by decide) (fo_81 F) (ft_81 F) rfl (fp_81_2 F) ?_
        refine wp_bipush (nx := 70) dX11_house_68 rfl ⟨by decide, i32 (by decide)⟩ ?_
        refine wp_dup2 (nx := 71) dX11_house_70 rfl (k1I _) (k1A _) ?_
        refine wp_ialoadE (nx := 72) dX11_house_71 rfl (fo_83 F) (fl_83 F) (by decide) (ft_83 F) rfl ?_
        refine wp_iconst (nx := 73) dX11_house_72 rfl (i32 (by decide)) ?_
        refine wp_iadd (nx := 74) dX11_house_73 rfl ?_
        refine wp_iastoreE (nx := 75) dX11_house_74 rfl (fo_83 F) (fl_83 F) (by decide) (ft_83 F) ?_
        refine wp_aload_n (nx := 76) dX11_house_75 rfl rfl ?_
        refine wp_iload_n (nx := 77) dX11_house_76 rfl rfl ?_
        refine wp_invV (nx := 80) (N := M_X11_goodAnew) (as := [cI r7]) (st := []) (mc := 0) (ms := 0) (mc' := mc) (ms' := ms) (a := 81) clsX11 dX11_house_77 rfl mok_X11_goodAnew kM_X11_115 ki_X11_goodAnew ke_X11_goodAnew (fo_81 F) (ft_81 F) rfl rfl (leB rfl) (leB rfl) (z0 _) (z0 _) (Wp.mono h ?_)
        intro r9 Sq C10 h
        obtain ⟨e9, h⟩ := h
        rw [e9]
        show Wp (d + 1) mc ms M_X11_house 80 [cA 81, cI l1, cI l2, cI r7] [cI r9] S C10 Q
        exact wp_ireturn dX11_house_80 rfl rfl rfl h
      · have h := h.2 hc
        refine wp_aload_n (nx := 38) dX11_house_37 rfl rfl ?_
        refine wp_bipush (nx := 40) dX11_house_38 rfl ⟨by decide, i32 (by decide)⟩ ?_
        refine wp_invV (nx := 43) (N := M_X11_refuses) (as := [cI (-5)]) (st := []) (mc := 0) (ms := 0) (mc' := mc) (ms' := ms) (a := 81) clsX11 dX11_house_40 rfl mok_X11_refuses kM_X11_112 ki_X11_refuses ke_X11_refuses (fo_81 F) (ft_81 F) rfl rfl (leB rfl) (leB rfl) (z0 _) (z0 _) (Wp.mono h ?_)
        intro r11 Sq C12 h
        obtain ⟨e9, h⟩ := h
        rw [e9]
        show Wp (d + 1) mc ms M_X11_house 43 [cA 81, cI l1, cI l2, cI r7] [cI r11] S C12 Q
        exact wp_ireturn dX11_house_43 rfl rfl rfl h
    · have h := h.2 hc
      refine wp_aload_n (nx := 21) dX11_house_20 rfl rfl ?_
      refine wp_iconst (nx := 22) dX11_house_21 rfl (i32 (by decide)) ?_
      refine wp_invV (nx := 25) (N := M_X11_refuses) (as := [cI (-1)]) (st := []) (mc := 0) (ms := 0) (mc' := mc) (ms' := ms) (a := 81) clsX11 dX11_house_22 rfl mok_X11_refuses kM_X11_112 ki_X11_refuses ke_X11_refuses (fo_81 F) (ft_81 F) rfl rfl (leB rfl) (leB rfl) (z0 _) (z0 _) (Wp.mono h ?_)
      intro r13 Sq C14 h
      obtain ⟨e9, h⟩ := h
      rw [e9]
      show Wp (d + 1) mc ms M_X11_house 25 [cA 81, cI l1, cI l2, cU] [cI r13] S C14 Q
      exact wp_ireturn dX11_house_25 rfl rfl rfl h
theorem b_X11_ownedBy_0 {d mc ms : Nat} {l1 : Int} {S : MS} {C : MC} {Q : Int → MS → MC → Prop} (F : Fix S) (h : K_X11_ownedBy_4 d mc ms l1 0 0 S C Q) : K_X11_ownedBy_0 d mc ms l1 S C Q := by
  show Wp d mc ms M_X11_ownedBy 0 [cA 81, cI l1, cU, cU] [] S C Q
  refine wp_iconst (nx := 1) dX11_ownedBy_0 rfl (i32 (by decide)) ?_
  refine wp_istore_n (nx := 2) dX11_ownedBy_1 rfl (by decide) ?_
  refine wp_ls (ls2 := [cA 81, cI l1, cI 0, cU]) rfl ?_
  refine wp_iconst (nx := 3) dX11_ownedBy_2 rfl (i32 (by decide)) ?_
  refine wp_istore_n (nx := 4) dX11_ownedBy_3 rfl (by decide) ?_
  refine wp_ls (ls2 := [cA 81, cI l1, cI 0, cI 0]) rfl ?_
  exact h
theorem b_X11_ownedBy_4 {d mc ms : Nat} {l1 l2 l3 : Int} {S : MS} {C : MC} {Q : Int → MS → MC → Prop} (F : Fix S) (h : ((8 ≤ l3 → Q l2 S C) ∧ (¬ 8 ≤ l3 → ((0 : Int) ≤ w32 (0 + l3) ∧ w32 (0 + l3) < 5656) ∧ ((¬ C 83 (w32 (0 + l3)) = l1 → K_X11_ownedBy_4 d mc ms l1 (iOr l2 0) (w32 (l3 + 1)) S C Q) ∧ (C 83 (w32 (0 + l3)) = l1 → K_X11_ownedBy_4 d mc ms l1 (iOr l2 (iShl 1 l3)) (w32 (l3 + 1)) S C Q))))) : K_X11_ownedBy_4 d mc ms l1 l2 l3 S C Q := by
  show Wp d mc ms M_X11_ownedBy 4 [cA 81, cI l1, cI l2, cI l3] [] S C Q
  refine wp_iload_n (nx := 5) dX11_ownedBy_4 rfl rfl ?_
  refine wp_bipush (nx := 7) dX11_ownedBy_5 rfl ⟨by decide, i32 (by decide)⟩ ?_
  refine wp_icmp_ge (nx := 10) (tg := 38) dX11_ownedBy_7 rfl rfl (fun hc => ?_) (fun hc => ?_)
  · have h := h.1 hc
    refine wp_iload_n (nx := 39) dX11_ownedBy_38 rfl rfl ?_
    exact wp_ireturn dX11_ownedBy_39 rfl rfl rfl h
  · have h := h.2 hc
    refine wp_iload_n (nx := 11) dX11_ownedBy_10 rfl rfl ?_
    refine wp_aload_n (nx := 12) dX11_ownedBy_11 rfl rfl ?_
    refine wp_getAe (kk := 2) (nx := 15) clsX11 dX11_ownedBy_12 rfl kF_X11_28 (by decide) (fo_81 F) (ft_81 F) rfl (fp_81_2 F) ?_
    refine wp_iconst (nx := 16) dX11_ownedBy_15 rfl (i32 (by decide)) ?_
    refine wp_iload_n (nx := 17) dX11_ownedBy_16 rfl rfl ?_
    refine wp_iadd (nx := 18) dX11_ownedBy_17 rfl ?_
    obtain ⟨hi, h⟩ := h
    refine wp_ialoadE (nx := 19) dX11_ownedBy_18 rfl (fo_83 F) (fl_83 F) hi (ft_83 F) rfl ?_
    refine wp_iload_n (nx := 20) dX11_ownedBy_19 rfl rfl ?_
    refine wp_icmp_ne (nx := 23) (tg := 29) dX11_ownedBy_20 rfl rfl (fun hc => ?_) (fun hc => ?_)
    · have h := h.1 hc
      refine wp_iconst (nx := 30) dX11_ownedBy_29 rfl (i32 (by decide)) ?_
      refine wp_ior (nx := 31) dX11_ownedBy_30 rfl ?_
      refine wp_istore_n (nx := 32) dX11_ownedBy_31 rfl (by decide) ?_
      refine wp_ls (ls2 := [cA 81, cI l1, cI (iOr l2 0), cI l3]) rfl ?_
      refine wp_iinc (nx := 35) dX11_ownedBy_32 rfl rfl (by decide) ?_
      refine wp_ls (ls2 := [cA 81, cI l1, cI (iOr l2 0), cI (w32 (l3 + 1))]) rfl ?_
      refine wp_goto (nx := 4) dX11_ownedBy_35 rfl ?_
      exact h
    · have h := h.2 hc
      refine wp_iconst (nx := 24) dX11_ownedBy_23 rfl (i32 (by decide)) ?_
      refine wp_iload_n (nx := 25) dX11_ownedBy_24 rfl rfl ?_
      refine wp_ishl (nx := 26) dX11_ownedBy_25 rfl ?_
      refine wp_goto (nx := 30) dX11_ownedBy_26 rfl ?_
      refine wp_ior (nx := 31) dX11_ownedBy_30 rfl ?_
      refine wp_istore_n (nx := 32) dX11_ownedBy_31 rfl (by decide) ?_
      refine wp_ls (ls2 := [cA 81, cI l1, cI (iOr l2 (iShl 1 l3)), cI l3]) rfl ?_
      refine wp_iinc (nx := 35) dX11_ownedBy_32 rfl rfl (by decide) ?_
      refine wp_ls (ls2 := [cA 81, cI l1, cI (iOr l2 (iShl 1 l3)), cI (w32 (l3 + 1))]) rfl ?_
      refine wp_goto (nx := 4) dX11_ownedBy_35 rfl ?_
      exact h
theorem b_X11_of_0 {d mc ms : Nat} {l1 l2 : Int} {S : MS} {C : MC} {Q : Int → MS → MC → Prop} (F : Fix S) (h : K_X11_isHouse_0 d 0 0 l1 S C (fun r1 Sq C2 => Sq = S ∧ ((¬ r1 = 0 → ((l2 < 0 ∨ 2 < l2 → Q (-1) S C2) ∧ (l2 = 0 → ((0 : Int) ≤ w32 (25 + l1) ∧ w32 (25 + l1) < 5656) ∧ Q (C2 83 (w32 (25 + l1))) S C2) ∧ (l2 = 1 → ((0 : Int) ≤ w32 (31 + l1) ∧ w32 (31 + l1) < 5656) ∧ Q (C2 83 (w32 (31 + l1))) S C2) ∧ (l2 = 2 → K_X11_ownedBy_0 d 0 0 l1 S C2 (fun r3 Sq C4 => Sq = S ∧ Q r3 S C4)))) ∧ (r1 = 0 → Q (-1) S C2)))) : K_X11_of_0 (d + 1) mc ms l1 l2 S C Q := by
  show Wp (d + 1) mc ms M_X11_of 0 [cA 81, cI l1, cI l2] [] S C Q
  refine wp_aload_n (nx := 1) dX11_of_0 rfl rfl ?_
  refine wp_iload_n (nx := 2) dX11_of_1 rfl rfl ?_
  refine wp_invV (nx := 5) (N := M_X11_isHouse) (as := [cI l1]) (st := []) (mc := 0) (ms := 0) (mc' := mc) (ms' := ms) (a := 81) clsX11 dX11_of_2 rfl mok_X11_isHouse kM_X11_128 ki_X11_isHouse ke_X11_isHouse (fo_81 F) (ft_81 F) rfl rfl (leB rfl) (leB rfl) (z0 _) (z0 _) (Wp.mono h ?_)
  intro r1 Sq C2 h
  obtain ⟨e9, h⟩ := h
  rw [e9]
  show Wp (d + 1) mc ms M_X11_of 5 [cA 81, cI l1, cI l2] [cI r1] S C2 Q
  refine wp_if_ne (nx := 8) (tg := 10) dX11_of_5 rfl rfl (fun hc => ?_) (fun hc => ?_)
  · have h := h.1 hc
    refine wp_iload_n (nx := 11) dX11_of_10 rfl rfl ?_
    rcases (show (l2 < 0 ∨ 2 < l2) ∨ l2 = 0 ∨ l2 = 1 ∨ l2 = 2 by omega) with hc | hc | hc | hc
    · have h := h.1 hc
      refine wp_tableOut (tg := 62) dX11_of_11 hc rfl ?_
      refine wp_iconst (nx := 63) dX11_of_62 rfl (i32 (by decide)) ?_
      exact wp_ireturn dX11_of_63 rfl rfl rfl h
    · have h := h.2.1 hc
      refine wp_tableIn (tg := 36) (off := 25) dX11_of_11 (by omega) (by omega) (by rw [show (l2 - 0).toNat = 0 by omega]; rfl) rfl ?_
      refine wp_aload_n (nx := 37) dX11_of_36 rfl rfl ?_
      refine wp_getAe (kk := 2) (nx := 40) clsX11 dX11_of_37 rfl kF_X11_28 (by decide) (fo_81 F) (ft_81 F) rfl (fp_81_2 F) ?_
      refine wp_bipush (nx := 42) dX11_of_40 rfl ⟨by decide, i32 (by decide)⟩ ?_
      refine wp_iload_n (nx := 43) dX11_of_42 rfl rfl ?_
      refine wp_iadd (nx := 44) dX11_of_43 rfl ?_
      obtain ⟨hi, h⟩ := h
      refine wp_ialoadE (nx := 45) dX11_of_44 rfl (fo_83 F) (fl_83 F) hi (ft_83 F) rfl ?_
      exact wp_ireturn dX11_of_45 rfl rfl rfl h
    · have h := h.2.2.1 hc
      refine wp_tableIn (tg := 46) (off := 35) dX11_of_11 (by omega) (by omega) (by rw [show (l2 - 0).toNat = 1 by omega]; rfl) rfl ?_
      refine wp_aload_n (nx := 47) dX11_of_46 rfl rfl ?_
      refine wp_getAe (kk := 2) (nx := 50) clsX11 dX11_of_47 rfl kF_X11_28 (by decide) (fo_81 F) (ft_81 F) rfl (fp_81_2 F) ?_
      refine wp_bipush (nx := 52) dX11_of_50 rfl ⟨by decide, i32 (by decide)⟩ ?_
      refine wp_iload_n (nx := 53) dX11_of_52 rfl rfl ?_
      refine wp_iadd (nx := 54) dX11_of_53 rfl ?_
      obtain ⟨hi, h⟩ := h
      refine wp_ialoadE (nx := 55) dX11_of_54 rfl (fo_83 F) (fl_83 F) hi (ft_83 F) rfl ?_
      exact wp_ireturn dX11_of_55 rfl rfl rfl h
    · have h := h.2.2.2 hc
      refine wp_tableIn (tg := 56) (off := 45) dX11_of_11 (by omega) (by omega) (by rw [show (l2 - 0).toNat = 2 by omega]; rfl) rfl ?_
      refine wp_aload_n (nx := 57) dX11_of_56 rfl rfl ?_
      refine wp_iload_n (nx := 58) dX11_of_57 rfl rfl ?_
      refine wp_invV (nx := 61) (N := M_X11_ownedBy) (as := [cI l1]) (st := []) (mc := 0) (ms := 0) (mc' := mc) (ms' := ms) (a := 81) clsX11 dX11_of_58 rfl mok_X11_ownedBy kM_X11_132 ki_X11_ownedBy ke_X11_ownedBy (fo_81 F) (ft_81 F) rfl rfl (leB rfl) (leB rfl) (z0 _) (z0 _) (Wp.mono h ?_)
      intro r3 Sq C4 h
      obtain ⟨e9, h⟩ := h
      rw [e9]
      show Wp (d + 1) mc ms M_X11_of 61 [cA 81, cI l1, cI l2] [cI r3] S C4 Q
      exact wp_ireturn dX11_of_61 rfl rfl rfl h
  · have h := h.2 hc
    refine wp_iconst (nx := 9) dX11_of_8 rfl (i32 (by decide)) ?_
    exact wp_ireturn dX11_of_9 rfl rfl rfl h
theorem b_X11_owner_0 {d mc ms : Nat} {l1 : Int} {S : MS} {C : MC} {Q : Int → MS → MC → Prop} (F : Fix S) (h : K_X11_isKey_0 d 0 0 l1 S C (fun r1 Sq C2 => Sq = S ∧ ((r1 = 0 → Q (-1) S C2) ∧ (¬ r1 = 0 → ((0 : Int) ≤ w32 (0 + l1) ∧ w32 (0 + l1) < 5656) ∧ Q (C2 83 (w32 (0 + l1))) S C2)))) : K_X11_owner_0 (d + 1) mc ms l1 S C Q := by
  show Wp (d + 1) mc ms M_X11_owner 0 [cA 81, cI l1] [] S C Q
  refine wp_iload_n (nx := 1) dX11_owner_0 rfl rfl ?_
  refine wp_invS (nx := 4) (N := M_X11_isKey) (as := [cI l1]) (st := []) (mc := 0) (ms := 0) (mc' := mc) (ms' := ms) dX11_owner_1 rfl mok_X11_isKey kM_X11_135 ks_X11_isKey rfl rfl (leB rfl) (leB rfl) (z0 _) (z0 _) (Wp.mono h ?_)
  intro r1 Sq C2 h
  obtain ⟨e9, h⟩ := h
  rw [e9]
  show Wp (d + 1) mc ms M_X11_owner 4 [cA 81, cI l1] [cI r1] S C2 Q
  refine wp_if_eq (nx := 7) (tg := 18) dX11_owner_4 rfl rfl (fun hc => ?_) (fun hc => ?_)
  · have h := h.1 hc
    refine wp_iconst (nx := 19) dX11_owner_18 rfl (i32 (by decide)) ?_
    exact wp_ireturn dX11_owner_19 rfl rfl rfl h
  · have h := h.2 hc
    refine wp_aload_n (nx := 8) dX11_owner_7 rfl rfl ?_
    refine wp_getAe (kk := 2) (nx := 11) clsX11 dX11_owner_8 rfl kF_X11_28 (by decide) (fo_81 F) (ft_81 F) rfl (fp_81_2 F) ?_
    refine wp_iconst (nx := 12) dX11_owner_11 rfl (i32 (by decide)) ?_
    refine wp_iload_n (nx := 13) dX11_owner_12 rfl rfl ?_
    refine wp_iadd (nx := 14) dX11_owner_13 rfl ?_
    obtain ⟨hi, h⟩ := h
    refine wp_ialoadE (nx := 15) dX11_owner_14 rfl (fo_83 F) (fl_83 F) hi (ft_83 F) rfl ?_
    refine wp_goto (nx := 19) dX11_owner_15 rfl ?_
    exact wp_ireturn dX11_owner_19 rfl rfl rfl h
theorem b_X11_music_0 {d mc ms : Nat} {l1 : Int} {S : MS} {C : MC} {Q : Int → MS → MC → Prop} (F : Fix S) (h : K_X11_isBeat_0 d 0 0 l1 S C (fun r1 Sq C2 => Sq = S ∧ ((r1 = 0 → Q (-1) S C2) ∧ (¬ r1 = 0 → K_X11_musicAt_0 d 0 0 l1 S C2 (fun r3 Sq C4 => Sq = S ∧ Q r3 S C4))))) : K_X11_music_0 (d + 1) mc ms l1 S C Q := by
  show Wp (d + 1) mc ms M_X11_music 0 [cA 81, cI l1] [] S C Q
  refine wp_iload_n (nx := 1) dX11_music_0 rfl rfl ?_
  refine wp_invS (nx := 4) (N := M_X11_isBeat) (as := [cI l1]) (st := []) (mc := 0) (ms := 0) (mc' := mc) (ms' := ms) dX11_music_1 rfl mok_X11_isBeat kM_X11_138 ks_X11_isBeat rfl rfl (leB rfl) (leB rfl) (z0 _) (z0 _) (Wp.mono h ?_)
  intro r1 Sq C2 h
  obtain ⟨e9, h⟩ := h
  rw [e9]
  show Wp (d + 1) mc ms M_X11_music 4 [cA 81, cI l1] [cI r1] S C2 Q
  refine wp_if_eq (nx := 7) (tg := 15) dX11_music_4 rfl rfl (fun hc => ?_) (fun hc => ?_)
  · have h := h.1 hc
    refine wp_iconst (nx := 16) dX11_music_15 rfl (i32 (by decide)) ?_
    exact wp_ireturn dX11_music_16 rfl rfl rfl h
  · have h := h.2 hc
    refine wp_aload_n (nx := 8) dX11_music_7 rfl rfl ?_
    refine wp_iload_n (nx := 9) dX11_music_8 rfl rfl ?_
    refine wp_invV (nx := 12) (N := M_X11_musicAt) (as := [cI l1]) (st := []) (mc := 0) (ms := 0) (mc' := mc) (ms' := ms) (a := 81) clsX11 dX11_music_9 rfl mok_X11_musicAt kM_X11_122 ki_X11_musicAt ke_X11_musicAt (fo_81 F) (ft_81 F) rfl rfl (leB rfl) (leB rfl) (z0 _) (z0 _) (Wp.mono h ?_)
    intro r3 Sq C4 h
    obtain ⟨e9, h⟩ := h
    rw [e9]
    show Wp (d + 1) mc ms M_X11_music 12 [cA 81, cI l1] [cI r3] S C4 Q
    refine wp_goto (nx := 16) dX11_music_12 rfl ?_
    exact wp_ireturn dX11_music_16 rfl rfl rfl h
theorem b_X11_asks_0 {d mc ms : Nat} {l1 l2 l3 l4 : Int} {S : MS} {C : MC} {Q : Int → MS → MC → Prop} (F : Fix S) (h : K_X11_isHouse_0 d 0 0 l1 S C (fun r1 Sq C2 => Sq = S ∧ ((r1 = 0 → Q (-1) S C2) ∧ (¬ r1 = 0 → K_X11_isKey_0 d 0 0 l2 S C2 (fun r3 Sq C4 => Sq = S ∧ ((r3 = 0 → Q (-1) S C4) ∧ (¬ r3 = 0 → K_X11_isBeat_0 d 0 0 l3 S C4 (fun r5 Sq C6 => Sq = S ∧ ((¬ r5 = 0 → ((l4 ≠ 0 ∧ l4 ≠ 1 → Q (-1) S C6) ∧ (l4 = 0 → K_X11_mindedAt_0 d 0 0 l1 l2 l3 S C6 (fun r7 Sq C8 => Sq = S ∧ Q r7 S C8)) ∧ (l4 = 1 → K_X11_canPlay_0 d 0 0 l1 l2 l3 S C6 (fun r9 Sq C10 => Sq = S ∧ ((r9 = 0 → Q 0 S C10) ∧ (¬ r9 = 0 → Q 1 S C10)))))) ∧ (r5 = 0 → Q (-1) S C6)))))))))) : K_X11_asks_0 (d + 1) mc ms l1 l2 l3 l4 S C Q := by
  show Wp (d + 1) mc ms M_X11_asks 0 [cA 81, cI l1, cI l2, cI l3, cI l4] [] S C Q
  refine wp_aload_n (nx := 1) dX11_asks_0 rfl rfl ?_
  refine wp_iload_n (nx := 2) dX11_asks_1 rfl rfl ?_
  refine wp_invV (nx := 5) (N := M_X11_isHouse) (as := [cI l1]) (st := []) (mc := 0) (ms := 0) (mc' := mc) (ms' := ms) (a := 81) clsX11 dX11_asks_2 rfl mok_X11_isHouse kM_X11_128 ki_X11_isHouse ke_X11_isHouse (fo_81 F) (ft_81 F) rfl rfl (leB rfl) (leB rfl) (z0 _) (z0 _) (Wp.mono h ?_)
  intro r1 Sq C2 h
  obtain ⟨e9, h⟩ := h
  rw [e9]
  show Wp (d + 1) mc ms M_X11_asks 5 [cA 81, cI l1, cI l2, cI l3, cI l4] [cI r1] S C2 Q
  refine wp_if_eq (nx := 8) (tg := 22) dX11_asks_5 rfl rfl (fun hc => ?_) (fun hc => ?_)
  · have h := h.1 hc
    refine wp_iconst (nx := 23) dX11_asks_22 rfl (i32 (by decide)) ?_
    exact wp_ireturn dX11_asks_23 rfl rfl rfl h
  · have h := h.2 hc
    refine wp_iload_n (nx := 9) dX11_asks_8 rfl rfl ?_
    refine wp_invS (nx := 12) (N := M_X11_isKey) (as := [cI l2]) (st := []) (mc := 0) (ms := 0) (mc' := mc) (ms' := ms) dX11_asks_9 rfl mok_X11_isKey kM_X11_135 ks_X11_isKey rfl rfl (leB rfl) (leB rfl) (z0 _) (z0 _) (Wp.mono h ?_)
    intro r3 Sq C4 h
    obtain ⟨e9, h⟩ := h
    rw [e9]
    show Wp (d + 1) mc ms M_X11_asks 12 [cA 81, cI l1, cI l2, cI l3, cI l4] [cI r3] S C4 Q
    refine wp_if_eq (nx := 15) (tg := 22) dX11_asks_12 rfl rfl (fun hc => ?_) (fun hc => ?_)
    · have h := h.1 hc
      refine wp_iconst (nx := 23) dX11_asks_22 rfl (i32 (by decide)) ?_
      exact wp_ireturn dX11_asks_23 rfl rfl rfl h
    · have h := h.2 hc
      refine wp_iload_n (nx := 16) dX11_asks_15 rfl rfl ?_
      refine wp_invS (nx := 19) (N := M_X11_isBeat) (as := [cI l3]) (st := []) (mc := 0) (ms := 0) (mc' := mc) (ms' := ms) dX11_asks_16 rfl mok_X11_isBeat kM_X11_138 ks_X11_isBeat rfl rfl (leB rfl) (leB rfl) (z0 _) (z0 _) (Wp.mono h ?_)
      intro r5 Sq C6 h
      obtain ⟨e9, h⟩ := h
      rw [e9]
      show Wp (d + 1) mc ms M_X11_asks 19 [cA 81, cI l1, cI l2, cI l3, cI l4] [cI r5] S C6 Q
      refine wp_if_ne (nx := 22) (tg := 24) dX11_asks_19 rfl rfl (fun hc => ?_) (fun hc => ?_)
      · have h := h.1 hc
        refine wp_iload (nx := 26) dX11_asks_24 rfl rfl ?_
        rcases (show (l4 ≠ 0 ∧ l4 ≠ 1) ∨ l4 = 0 ∨ l4 = 1 by omega) with hc | hc | hc
        · have h := h.1 hc
          refine wp_lookup (tg := 76) (off := 50) dX11_asks_26 (by decide) (by simp [Op.lookupswitch.offset, hc]; omega) rfl ?_
          refine wp_iconst (nx := 77) dX11_asks_76 rfl (i32 (by decide)) ?_
          exact wp_ireturn dX11_asks_77 rfl rfl rfl h
        · have h := h.2.1 hc
          refine wp_lookup (tg := 52) (off := 26) dX11_asks_26 (by decide) (by rw [hc]; rfl) rfl ?_
          refine wp_aload_n (nx := 53) dX11_asks_52 rfl rfl ?_
          refine wp_iload_n (nx := 54) dX11_asks_53 rfl rfl ?_
          refine wp_iload_n (nx := 55) dX11_asks_54 rfl rfl ?_
          refine wp_iload_n (nx := 56) dX11_asks_55 rfl rfl ?_
          refine wp_invV (nx := 59) (N := M_X11_mindedAt) (as := [cI l1, cI l2, cI l3]) (st := []) (mc := 0) (ms := 0) (mc' := mc) (ms' := ms) (a := 81) clsX11 dX11_asks_56 rfl mok_X11_mindedAt kM_X11_141 ki_X11_mindedAt ke_X11_mindedAt (fo_81 F) (ft_81 F) rfl rfl (leB rfl) (leB rfl) (z0 _) (z0 _) (Wp.mono h ?_)
          intro r7 Sq C8 h
          obtain ⟨e9, h⟩ := h
          rw [e9]
          show Wp (d + 1) mc ms M_X11_asks 59 [cA 81, cI l1, cI l2, cI l3, cI l4] [cI r7] S C8 Q
          exact wp_ireturn dX11_asks_59 rfl rfl rfl h
        · have h := h.2.2 hc
          refine wp_lookup (tg := 60) (off := 34) dX11_asks_26 (by decide) (by rw [hc]; rfl) rfl ?_
          refine wp_aload_n (nx := 61) dX11_asks_60 rfl rfl ?_
          refine wp_iload_n (nx := 62) dX11_asks_61 rfl rfl ?_
          refine wp_iload_n (nx := 63) dX11_asks_62 rfl rfl ?_
          refine wp_iload_n (nx := 64) dX11_asks_63 rfl rfl ?_
          refine wp_invV (nx := 67) (N := M_X11_canPlay) (as := [cI l1, cI l2, cI l3]) (st := []) (mc := 0) (ms := 0) (mc' := mc) (ms' := ms) (a := 81) clsX11 dX11_asks_64 rfl mok_X11_canPlay kM_X11_145 ki_X11_canPlay ke_X11_canPlay (fo_81 F) (ft_81 F) rfl rfl (leB rfl) (leB rfl) (z0 _) (z0 _) (Wp.mono h ?_)
          intro r9 Sq C10 h
          obtain ⟨e9, h⟩ := h
          rw [e9]
          show Wp (d + 1) mc ms M_X11_asks 67 [cA 81, cI l1, cI l2, cI l3, cI l4] [cI r9] S C10 Q
          refine wp_if_eq (nx := 70) (tg := 74) dX11_asks_67 rfl rfl (fun hc => ?_) (fun hc => ?_)
          · have h := h.1 hc
            refine wp_iconst (nx := 75) dX11_asks_74 rfl (i32 (by decide)) ?_
            exact wp_ireturn dX11_asks_75 rfl rfl rfl h
          · have h := h.2 hc
            refine wp_iconst (nx := 71) dX11_asks_70 rfl (i32 (by decide)) ?_
            refine wp_goto (nx := 75) dX11_asks_71 rfl ?_
            exact wp_ireturn dX11_asks_75 rfl rfl rfl h
      · have h := h.2 hc
        refine wp_iconst (nx := 23) dX11_asks_22 rfl (i32 (by decide)) ?_
        exact wp_ireturn dX11_asks_23 rfl rfl rfl h
theorem b_X11_isTerm_0 {d mc ms : Nat} {l0 l1 : Int} {S : MS} {C : MC} {Q : Int → MS → MC → Prop} (F : Fix S) (h : ((l0 < 0 ∨ 2 < l0 → Q 0 S C) ∧ (l0 = 0 → K_X11_lies_0 d 0 0 l1 0 999 S C (fun r1 Sq C2 => Sq = S ∧ ((r1 = 0 ∨ r1 = 1) ∧ Q r1 S C2))) ∧ (l0 = 1 → K_X11_lies_0 d 0 0 l1 0 10 S C (fun r3 Sq C4 => Sq = S ∧ ((r3 = 0 ∨ r3 = 1) ∧ Q r3 S C4))) ∧ (l0 = 2 → K_X11_lies_0 d 0 0 l1 0 9 S C (fun r5 Sq C6 => Sq = S ∧ ((r5 = 0 ∨ r5 = 1) ∧ Q r5 S C6))))) : K_X11_isTerm_0 (d + 1) mc ms l0 l1 S C Q := by
  show Wp (d + 1) mc ms M_X11_isTerm 0 [cI l0, cI l1] [] S C Q
  refine wp_iload_n (nx := 1) dX11_isTerm_0 rfl rfl ?_
  rcases (show (l0 < 0 ∨ 2 < l0) ∨ l0 = 0 ∨ l0 = 1 ∨ l0 = 2 by omega) with hc | hc | hc | hc
  · have h := h.1 hc
    refine wp_tableOut (tg := 53) dX11_isTerm_1 hc rfl ?_
    refine wp_iconst (nx := 54) dX11_isTerm_53 rfl (i32 (by decide)) ?_
    exact wp_ireturn dX11_isTerm_54 rfl rfl (nz_of (Or.inl rfl)) h
  · have h := h.2.1 hc
    refine wp_tableIn (tg := 28) (off := 27) dX11_isTerm_1 (by omega) (by omega) (by rw [show (l0 - 0).toNat = 0 by omega]; rfl) rfl ?_
    refine wp_iload_n (nx := 29) dX11_isTerm_28 rfl rfl ?_
    refine wp_iconst (nx := 30) dX11_isTerm_29 rfl (i32 (by decide)) ?_
    refine wp_sipush (nx := 33) dX11_isTerm_30 rfl ⟨by decide, i32 (by decide)⟩ ?_
    refine wp_invS (nx := 36) (N := M_X11_lies) (as := [cI l1, cI 0, cI 999]) (st := []) (mc := 0) (ms := 0) (mc' := mc) (ms' := ms) dX11_isTerm_33 rfl mok_X11_lies kM_X11_18 ks_X11_lies rfl rfl (leB rfl) (leB rfl) (z0 _) (z0 _) (Wp.mono h ?_)
    intro r1 Sq C2 h
    obtain ⟨e9, h⟩ := h
    rw [e9]
    show Wp (d + 1) mc ms M_X11_isTerm 36 [cI l0, cI l1] [cI r1] S C2 Q
    obtain ⟨hz, h⟩ := h
    exact wp_ireturn dX11_isTerm_36 rfl rfl (nz_of hz) h
  · have h := h.2.2.1 hc
    refine wp_tableIn (tg := 37) (off := 36) dX11_isTerm_1 (by omega) (by omega) (by rw [show (l0 - 0).toNat = 1 by omega]; rfl) rfl ?_
    refine wp_iload_n (nx := 38) dX11_isTerm_37 rfl rfl ?_
    refine wp_iconst (nx := 39) dX11_isTerm_38 rfl (i32 (by decide)) ?_
    refine wp_bipush (nx := 41) dX11_isTerm_39 rfl ⟨by decide, i32 (by decide)⟩ ?_
    refine wp_invS (nx := 44) (N := M_X11_lies) (as := [cI l1, cI 0, cI 10]) (st := []) (mc := 0) (ms := 0) (mc' := mc) (ms' := ms) dX11_isTerm_41 rfl mok_X11_lies kM_X11_18 ks_X11_lies rfl rfl (leB rfl) (leB rfl) (z0 _) (z0 _) (Wp.mono h ?_)
    intro r3 Sq C4 h
    obtain ⟨e9, h⟩ := h
    rw [e9]
    show Wp (d + 1) mc ms M_X11_isTerm 44 [cI l0, cI l1] [cI r3] S C4 Q
    obtain ⟨hz, h⟩ := h
    exact wp_ireturn dX11_isTerm_44 rfl rfl (nz_of hz) h
  · have h := h.2.2.2 hc
    refine wp_tableIn (tg := 45) (off := 44) dX11_isTerm_1 (by omega) (by omega) (by rw [show (l0 - 0).toNat = 2 by omega]; rfl) rfl ?_
    refine wp_iload_n (nx := 46) dX11_isTerm_45 rfl rfl ?_
    refine wp_iconst (nx := 47) dX11_isTerm_46 rfl (i32 (by decide)) ?_
    refine wp_bipush (nx := 49) dX11_isTerm_47 rfl ⟨by decide, i32 (by decide)⟩ ?_
    refine wp_invS (nx := 52) (N := M_X11_lies) (as := [cI l1, cI 0, cI 9]) (st := []) (mc := 0) (ms := 0) (mc' := mc) (ms' := ms) dX11_isTerm_49 rfl mok_X11_lies kM_X11_18 ks_X11_lies rfl rfl (leB rfl) (leB rfl) (z0 _) (z0 _) (Wp.mono h ?_)
    intro r5 Sq C6 h
    obtain ⟨e9, h⟩ := h
    rw [e9]
    show Wp (d + 1) mc ms M_X11_isTerm 52 [cI l0, cI l1] [cI r5] S C6 Q
    obtain ⟨hz, h⟩ := h
    exact wp_ireturn dX11_isTerm_52 rfl rfl (nz_of hz) h
theorem b_X11_termAt_0 {d mc ms : Nat} {l0 : Int} {S : MS} {C : MC} {Q : Int → MS → MC → Prop} (F : Fix S) (h : ((¬ l0 = 0 → ((¬ l0 = 1 → Q 44 S C) ∧ (l0 = 1 → Q 43 S C))) ∧ (l0 = 0 → Q 24 S C))) : K_X11_termAt_0 d mc ms l0 S C Q := by
  show Wp d mc ms M_X11_termAt 0 [cI l0] [] S C Q
  refine wp_iload_n (nx := 1) dX11_termAt_0 rfl rfl ?_
  refine wp_if_ne (nx := 4) (tg := 9) dX11_termAt_1 rfl rfl (fun hc => ?_) (fun hc => ?_)
  · have h := h.1 hc
    refine wp_iload_n (nx := 10) dX11_termAt_9 rfl rfl ?_
    refine wp_iconst (nx := 11) dX11_termAt_10 rfl (i32 (by decide)) ?_
    refine wp_icmp_ne (nx := 14) (tg := 19) dX11_termAt_11 rfl rfl (fun hc => ?_) (fun hc => ?_)
    · have h := h.1 hc
      refine wp_bipush (nx := 21) dX11_termAt_19 rfl ⟨by decide, i32 (by decide)⟩ ?_
      exact wp_ireturn dX11_termAt_21 rfl rfl rfl h
    · have h := h.2 hc
      refine wp_bipush (nx := 16) dX11_termAt_14 rfl ⟨by decide, i32 (by decide)⟩ ?_
      refine wp_goto (nx := 21) dX11_termAt_16 rfl ?_
      exact wp_ireturn dX11_termAt_21 rfl rfl rfl h
  · have h := h.2 hc
    refine wp_bipush (nx := 6) dX11_termAt_4 rfl ⟨by decide, i32 (by decide)⟩ ?_
    refine wp_goto (nx := 21) dX11_termAt_6 rfl ?_
    exact wp_ireturn dX11_termAt_21 rfl rfl rfl h
theorem b_X11_terms_0 {d mc ms : Nat} {l1 l2 : Int} {S : MS} {C : MC} {Q : Int → MS → MC → Prop} (F : Fix S) (h : K_X11_isTerm_0 d 0 0 l1 l2 S C (fun r1 Sq C2 => Sq = S ∧ ((¬ r1 = 0 → K_X11_termAt_0 d 0 0 l1 S C2 (fun r3 Sq C4 => Sq = S ∧ ((0 : Int) ≤ r3 ∧ r3 < 5656) ∧ K_X11_termAt_0 d 0 0 l1 S C4 (fun r5 Sq C6 => Sq = S ∧ ((0 : Int) ≤ r5 ∧ r5 < 5656) ∧ K_X11_goodAnew_0 d 0 0 (C4 83 r3) S ((upC C6 83 r5 l2)) (fun r7 Sq C8 => Sq = S ∧ Q r7 S C8)))) ∧ (r1 = 0 → K_X11_refuses_0 d 0 0 (-1) S C2 (fun r9 Sq C10 => Sq = S ∧ Q r9 S C10))))) : K_X11_terms_0 (d + 1) mc ms l1 l2 S C Q := by
  show Wp (d + 1) mc ms M_X11_terms 0 [cA 81, cI l1, cI l2, cU] [] S C Q
  refine wp_iload_n (nx := 1) dX11_terms_0 rfl rfl ?_
  refine wp_iload_n (nx := 2) dX11_terms_1 rfl rfl ?_
  refine wp_invS (nx := 5) (N := M_X11_isTerm) (as := [cI l1, cI l2]) (st := []) (mc := 0) (ms := 0) (mc' := mc) (ms' := ms) dX11_terms_2 rfl mok_X11_isTerm kM_X11_148 ks_X11_isTerm rfl rfl (leB rfl) (leB rfl) (z0 _) (z0 _) (Wp.mono h ?_)
  intro r1 Sq C2 h
  obtain ⟨e9, h⟩ := h
  rw [e9]
  show Wp (d + 1) mc ms M_X11_terms 5 [cA 81, cI l1, cI l2, cU] [cI r1] S C2 Q
  refine wp_if_ne (nx := 8) (tg := 14) dX11_terms_5 rfl rfl (fun hc => ?_) (fun hc => ?_)
  · have h := h.1 hc
    refine wp_aload_n (nx := 15) dX11_terms_14 rfl rfl ?_
    refine wp_getAe (kk := 2) (nx := 18) clsX11 dX11_terms_15 rfl kF_X11_28 (by decide) (fo_81 F) (ft_81 F) rfl (fp_81_2 F) ?_
    refine wp_iload_n (nx := 19) dX11_terms_18 rfl rfl ?_
    refine wp_invS (nx := 22) (N := M_X11_termAt) (as := [cI l1]) (st := [cA 83]) (mc := 0) (ms := 0) (mc' := mc) (ms' := ms) dX11_terms_19 rfl mok_X11_termAt kM_X11_152 ks_X11_termAt rfl rfl (leB rfl) (leB rfl) (z0 _) (z0 _) (Wp.mono h ?_)
    intro r3 Sq C4 h
    obtain ⟨e9, h⟩ := h
    rw [e9]
    show Wp (d + 1) mc ms M_X11_terms 22 [cA 81, cI l1, cI l2, cU] [cI r3, cA 83] S C4 Q
    obtain ⟨hi, h⟩ := h
    refine wp_ialoadE (nx := 23) dX11_terms_22 rfl (fo_83 F) (fl_83 F) hi (ft_83 F) rfl ?_
    refine wp_istore_n (nx := 24) dX11_terms_23 rfl (by decide) ?_
    refine wp_ls (ls2 := [cA 81, cI l1, cI l2, cI (C4 83 r3)]) rfl ?_
    refine wp_aload_n (nx := 25) dX11_terms_24 rfl rfl ?_
    refine wp_getAe (kk := 2) (nx := 28) clsX11 dX11_terms_25 rfl kF_X11_28 (by decide) (fo_81 F) (ft_81 F) rfl (fp_81_2 F) ?_
    refine wp_iload_n (nx := 29) dX11_terms_28 rfl rfl ?_
    refine wp_invS (nx := 32) (N := M_X11_termAt) (as := [cI l1]) (st := [cA 83]) (mc := 0) (ms := 0) (mc' := mc) (ms' := ms) dX11_terms_29 rfl mok_X11_termAt kM_X11_152 ks_X11_termAt rfl rfl (leB rfl) (leB rfl) (z0 _) (z0 _) (Wp.mono h ?_)
    intro r5 Sq C6 h
    obtain ⟨e9, h⟩ := h
    rw [e9]
    show Wp (d + 1) mc ms M_X11_terms 32 [cA 81, cI l1, cI l2, cI (C4 83 r3)] [cI r5, cA 83] S C6 Q
    refine wp_iload_n (nx := 33) dX11_terms_32 rfl rfl ?_
    obtain ⟨hi, h⟩ := h
    refine wp_iastoreE (nx := 34) dX11_terms_33 rfl (fo_83 F) (fl_83 F) hi (ft_83 F) ?_
    refine wp_aload_n (nx := 35) dX11_terms_34 rfl rfl ?_
    refine wp_iload_n (nx := 36) dX11_terms_35 rfl rfl ?_
    refine wp_invV (nx := 39) (N := M_X11_goodAnew) (as := [cI (C4 83 r3)]) (st := []) (mc := 0) (ms := 0) (mc' := mc) (ms' := ms) (a := 81) clsX11 dX11_terms_36 rfl mok_X11_goodAnew kM_X11_115 ki_X11_goodAnew ke_X11_goodAnew (fo_81 F) (ft_81 F) rfl rfl (leB rfl) (leB rfl) (z0 _) (z0 _) (Wp.mono h ?_)
    intro r7 Sq C8 h
    obtain ⟨e9, h⟩ := h
    rw [e9]
    show Wp (d + 1) mc ms M_X11_terms 39 [cA 81, cI l1, cI l2, cI (C4 83 r3)] [cI r7] S C8 Q
    exact wp_ireturn dX11_terms_39 rfl rfl rfl h
  · have h := h.2 hc
    refine wp_aload_n (nx := 9) dX11_terms_8 rfl rfl ?_
    refine wp_iconst (nx := 10) dX11_terms_9 rfl (i32 (by decide)) ?_
    refine wp_invV (nx := 13) (N := M_X11_refuses) (as := [cI (-1)]) (st := []) (mc := 0) (ms := 0) (mc' := mc) (ms' := ms) (a := 81) clsX11 dX11_terms_10 rfl mok_X11_refuses kM_X11_112 ki_X11_refuses ke_X11_refuses (fo_81 F) (ft_81 F) rfl rfl (leB rfl) (leB rfl) (z0 _) (z0 _) (Wp.mono h ?_)
    intro r9 Sq C10 h
    obtain ⟨e9, h⟩ := h
    rw [e9]
    show Wp (d + 1) mc ms M_X11_terms 13 [cA 81, cI l1, cI l2, cU] [cI r9] S C10 Q
    exact wp_ireturn dX11_terms_13 rfl rfl rfl h
theorem b_X11_row_0 {d mc ms : Nat} {S : MS} {C : MC} {Q : Int → MS → MC → Prop} (F : Fix S) (h : ((¬ C 81 13 = 0 → K_X11_row_32 (d + 1) mc ms (C 81 13) 0 0 S (upC (upC C 81 13 0) 81 6 (w32 (Int.tmod (C 81 13) 2))) Q) ∧ (C 81 13 = 0 → K_X11_refuses_0 d 0 0 (-6) S ((upC C 81 13 0)) (fun r1 Sq C2 => Sq = S ∧ Q r1 S C2)))) : K_X11_row_0 (d + 1) mc ms S C Q := by
  show Wp (d + 1) mc ms M_X11_row 0 [cA 81, cU, cU, cU] [] S C Q
  refine wp_aload_n (nx := 1) dX11_row_0 rfl rfl ?_
  refine wp_getIe (kk := 13) 13 (nx := 4) clsX11 dX11_row_1 rfl kF_X11_155 (by decide) (fo_81 F) (ft_81 F) rfl rfl rfl ?_
  refine wp_istore_n (nx := 5) dX11_row_4 rfl (by decide) ?_
  refine wp_ls (ls2 := [cA 81, cI (C 81 13), cU, cU]) rfl ?_
  refine wp_aload_n (nx := 6) dX11_row_5 rfl rfl ?_
  refine wp_iconst (nx := 7) dX11_row_6 rfl (i32 (by decide)) ?_
  refine wp_putIe (kk := 13) 13 (nx := 10) clsX11 dX11_row_7 rfl kF_X11_155 (by decide) (fo_81 F) (ft_81 F) rfl rfl ⟨rfl, rfl⟩ rfl ?_
  refine wp_iload_n (nx := 11) dX11_row_10 rfl rfl ?_
  refine wp_if_ne (nx := 14) (tg := 21) dX11_row_11 rfl rfl (fun hc => ?_) (fun hc => ?_)
  · have h := h.1 hc
    refine wp_iconst (nx := 22) dX11_row_21 rfl (i32 (by decide)) ?_
    refine wp_istore_n (nx := 23) dX11_row_22 rfl (by decide) ?_
    refine wp_ls (ls2 := [cA 81, cI (C 81 13), cI 0, cU]) rfl ?_
    refine wp_aload_n (nx := 24) dX11_row_23 rfl rfl ?_
    refine wp_iload_n (nx := 25) dX11_row_24 rfl rfl ?_
    refine wp_iconst (nx := 26) dX11_row_25 rfl (i32 (by decide)) ?_
    refine wp_irem (nx := 27) dX11_row_26 rfl (by decide) ?_
    refine wp_putIe (kk := 6) 6 (nx := 30) clsX11 dX11_row_27 rfl kF_X11_158 (by decide) (fo_81 F) (ft_81 F) rfl rfl ⟨rfl, rfl⟩ rfl ?_
    refine wp_iconst (nx := 31) dX11_row_30 rfl (i32 (by decide)) ?_
    refine wp_istore_n (nx := 32) dX11_row_31 rfl (by decide) ?_
    refine wp_ls (ls2 := [cA 81, cI (C 81 13), cI 0, cI 0]) rfl ?_
    exact h
  · have h := h.2 hc
    refine wp_aload_n (nx := 15) dX11_row_14 rfl rfl ?_
    refine wp_bipush (nx := 17) dX11_row_15 rfl ⟨by decide, i32 (by decide)⟩ ?_
    refine wp_invV (nx := 20) (N := M_X11_refuses) (as := [cI (-6)]) (st := []) (mc := 0) (ms := 0) (mc' := mc) (ms' := ms) (a := 81) clsX11 dX11_row_17 rfl mok_X11_refuses kM_X11_112 ki_X11_refuses ke_X11_refuses (fo_81 F) (ft_81 F) rfl rfl (leB rfl) (leB rfl) (z0 _) (z0 _) (Wp.mono h ?_)
    intro r1 Sq C2 h
    obtain ⟨e9, h⟩ := h
    rw [e9]
    show Wp (d + 1) mc ms M_X11_row 20 [cA 81, cI (C 81 13), cU, cU] [cI r1] S C2 Q
    exact wp_ireturn dX11_row_20 rfl rfl rfl h
theorem b_X11_row_32 {d mc ms : Nat} {l1 l2 l3 : Int} {S : MS} {C : MC} {Q : Int → MS → MC → Prop} (F : Fix S) (h : ((l1 < w32 (l3 + 2) → K_X11_goodAnew_0 d 0 0 l2 S C (fun r1 Sq C2 => Sq = S ∧ Q r1 S C2)) ∧ (¬ l1 < w32 (l3 + 2) → ((0 : Int) ≤ l3 ∧ l3 < 400) ∧ K_X11_isBeat_0 d 0 0 (C 88 l3) S C (fun r3 Sq C4 => Sq = S ∧ ((r3 = 0 → K_X11_row_32 (d + 1) mc ms l1 l2 (w32 (l3 + 2)) S (upC C4 81 6 (w32 ((C4 81 6) + 1))) Q) ∧ (¬ r3 = 0 → ((0 : Int) ≤ l3 ∧ l3 < 400) ∧ ((0 : Int) ≤ w32 (l3 + 1) ∧ w32 (l3 + 1) < 400) ∧ ((0 : Int) ≤ w32 (8 + (C4 88 l3)) ∧ w32 (8 + (C4 88 l3)) < 5656) ∧ K_X11_row_32 (d + 1) mc ms l1 (w32 (l2 + 1)) (w32 (l3 + 2)) S (upC C4 83 (w32 (8 + (C4 88 l3))) (iAnd (C4 88 (w32 (l3 + 1))) 255)) Q)))))) : K_X11_row_32 (d + 1) mc ms l1 l2 l3 S C Q := by
  show Wp (d + 1) mc ms M_X11_row 32 [cA 81, cI l1, cI l2, cI l3] [] S C Q
  refine wp_iload_n (nx := 33) dX11_row_32 rfl rfl ?_
  refine wp_iconst (nx := 34) dX11_row_33 rfl (i32 (by decide)) ?_
  refine wp_iadd (nx := 35) dX11_row_34 rfl ?_
  refine wp_iload_n (nx := 36) dX11_row_35 rfl rfl ?_
  refine wp_icmp_gt (nx := 39) (tg := 99) dX11_row_36 rfl rfl (fun hc => ?_) (fun hc => ?_)
  · have h := h.1 hc
    refine wp_aload_n (nx := 100) dX11_row_99 rfl rfl ?_
    refine wp_iload_n (nx := 101) dX11_row_100 rfl rfl ?_
    refine wp_invV (nx := 104) (N := M_X11_goodAnew) (as := [cI l2]) (st := []) (mc := 0) (ms := 0) (mc' := mc) (ms' := ms) (a := 81) clsX11 dX11_row_101 rfl mok_X11_goodAnew kM_X11_115 ki_X11_goodAnew ke_X11_goodAnew (fo_81 F) (ft_81 F) rfl rfl (leB rfl) (leB rfl) (z0 _) (z0 _) (Wp.mono h ?_)
    intro r1 Sq C2 h
    obtain ⟨e9, h⟩ := h
    rw [e9]
    show Wp (d + 1) mc ms M_X11_row 104 [cA 81, cI l1, cI l2, cI l3] [cI r1] S C2 Q
    exact wp_ireturn dX11_row_104 rfl rfl rfl h
  · have h := h.2 hc
    refine wp_aload_n (nx := 40) dX11_row_39 rfl rfl ?_
    refine wp_getAe (kk := 11) (nx := 43) clsX11 dX11_row_40 rfl kF_X11_45 (by decide) (fo_81 F) (ft_81 F) rfl (fp_81_11 F) ?_
    refine wp_iload_n (nx := 44) dX11_row_43 rfl rfl ?_
    obtain ⟨hi, h⟩ := h
    refine wp_baloadE (nx := 45) dX11_row_44 rfl (fo_88 F) (fl_88 F) hi (ft_88 F) rfl ?_
    refine wp_invS (nx := 48) (N := M_X11_isBeat) (as := [cI (C 88 l3)]) (st := []) (mc := 0) (ms := 0) (mc' := mc) (ms' := ms) dX11_row_45 rfl mok_X11_isBeat kM_X11_138 ks_X11_isBeat rfl rfl (leB rfl) (leB rfl) (z0 _) (z0 _) (Wp.mono h ?_)
    intro r3 Sq C4 h
    obtain ⟨e9, h⟩ := h
    rw [e9]
    show Wp (d + 1) mc ms M_X11_row 48 [cA 81, cI l1, cI l2, cI l3] [cI r3] S C4 Q
    refine wp_if_eq (nx := 51) (tg := 83) dX11_row_48 rfl rfl (fun hc => ?_) (fun hc => ?_)
    · have h := h.1 hc
      refine wp_aload_n (nx := 84) dX11_row_83 rfl rfl ?_
      refine wp_dup (nx := 85) dX11_row_84 rfl (k1A _) ?_
      refine wp_getIe (kk := 6) 6 (nx := 88) clsX11 dX11_row_85 rfl kF_X11_158 (by decide) (fo_81 F) (ft_81 F) rfl rfl rfl ?_
      refine wp_iconst (nx := 89) dX11_row_88 rfl (i32 (by decide)) ?_
      refine wp_iadd (nx := 90) dX11_row_89 rfl ?_
      refine wp_putIe (kk := 6) 6 (nx := 93) clsX11 dX11_row_90 rfl kF_X11_158 (by decide) (fo_81 F) (ft_81 F) rfl rfl ⟨rfl, rfl⟩ rfl ?_
      refine wp_iinc (nx := 96) dX11_row_93 rfl rfl (by decide) ?_
      refine wp_ls (ls2 := [cA 81, cI l1, cI l2, cI (w32 (l3 + 2))]) rfl ?_
      refine wp_goto (nx := 32) dX11_row_96 rfl ?_
      exact h
    · have h := h.2 hc
      refine wp_aload_n (nx := 52) dX11_row_51 rfl rfl ?_
      refine wp_getAe (kk := 2) (nx := 55) clsX11 dX11_row_52 rfl kF_X11_28 (by decide) (fo_81 F) (ft_81 F) rfl (fp_81_2 F) ?_
      refine wp_bipush (nx := 57) dX11_row_55 rfl ⟨by decide, i32 (by decide)⟩ ?_
      refine wp_aload_n (nx := 58) dX11_row_57 rfl rfl ?_
      refine wp_getAe (kk := 11) (nx := 61) clsX11 dX11_row_58 rfl kF_X11_45 (by decide) (fo_81 F) (ft_81 F) rfl (fp_81_11 F) ?_
      refine wp_iload_n (nx := 62) dX11_row_61 rfl rfl ?_
      obtain ⟨hi, h⟩ := h
      refine wp_baloadE (nx := 63) dX11_row_62 rfl (fo_88 F) (fl_88 F) hi (ft_88 F) rfl ?_
      refine wp_iadd (nx := 64) dX11_row_63 rfl ?_
      refine wp_aload_n (nx := 65) dX11_row_64 rfl rfl ?_
      refine wp_getAe (kk := 11) (nx := 68) clsX11 dX11_row_65 rfl kF_X11_45 (by decide) (fo_81 F) (ft_81 F) rfl (fp_81_11 F) ?_
      refine wp_iload_n (nx := 69) dX11_row_68 rfl rfl ?_
      refine wp_iconst (nx := 70) dX11_row_69 rfl (i32 (by decide)) ?_
      refine wp_iadd (nx := 71) dX11_row_70 rfl ?_
      obtain ⟨hi, h⟩ := h
      refine wp_baloadE (nx := 72) dX11_row_71 rfl (fo_88 F) (fl_88 F) hi (ft_88 F) rfl ?_
      refine wp_sipush (nx := 75) dX11_row_72 rfl ⟨by decide, i32 (by decide)⟩ ?_
      refine wp_iand (nx := 76) dX11_row_75 rfl ?_
      obtain ⟨hi, h⟩ := h
      refine wp_iastoreE (nx := 77) dX11_row_76 rfl (fo_83 F) (fl_83 F) hi (ft_83 F) ?_
      refine wp_iinc (nx := 80) dX11_row_77 rfl rfl (by decide) ?_
      refine wp_ls (ls2 := [cA 81, cI l1, cI (w32 (l2 + 1)), cI l3]) rfl ?_
      refine wp_goto (nx := 93) dX11_row_80 rfl ?_
      refine wp_iinc (nx := 96) dX11_row_93 rfl rfl (by decide) ?_
      refine wp_ls (ls2 := [cA 81, cI l1, cI (w32 (l2 + 1)), cI (w32 (l3 + 2))]) rfl ?_
      refine wp_goto (nx := 32) dX11_row_96 rfl ?_
      exact h
theorem b_X11_creaks_0 {d mc ms : Nat} {S : MS} {C : MC} {Q : Int → MS → MC → Prop} (F : Fix S) (h : Q (C 81 6) S C) : K_X11_creaks_0 d mc ms S C Q := by
  show Wp d mc ms M_X11_creaks 0 [cA 81] [] S C Q
  refine wp_aload_n (nx := 1) dX11_creaks_0 rfl rfl ?_
  refine wp_getIe (kk := 6) 6 (nx := 4) clsX11 dX11_creaks_1 rfl kF_X11_158 (by decide) (fo_81 F) (ft_81 F) rfl rfl rfl ?_
  exact wp_ireturn dX11_creaks_4 rfl rfl rfl h
theorem b_X11_feed_0 {d mc ms : Nat} {l1 l2 l3 l4 l5 : Int} {S : MS} {C : MC} {Q : Int → MS → MC → Prop} (F : Fix S) (h : ((w32 ((C 81 13) + 20) ≤ 400 → K_X11_feed_55 d mc ms 0 S (upC (upC (upC (upC (upC C 89 0 l1) 89 1 l2) 89 2 l3) 89 3 l4) 89 4 l5) Q) ∧ (¬ w32 ((C 81 13) + 20) ≤ 400 → Q (-1) S C))) : K_X11_feed_0 d mc ms l1 l2 l3 l4 l5 S C Q := by
  show Wp d mc ms M_X11_feed 0 [cA 81, cI l1, cI l2, cI l3, cI l4, cI l5, cU] [] S C Q
  refine wp_aload_n (nx := 1) dX11_feed_0 rfl rfl ?_
  refine wp_getIe (kk := 13) 13 (nx := 4) clsX11 dX11_feed_1 rfl kF_X11_155 (by decide) (fo_81 F) (ft_81 F) rfl rfl rfl ?_
  refine wp_bipush (nx := 6) dX11_feed_4 rfl ⟨by decide, i32 (by decide)⟩ ?_
  refine wp_iadd (nx := 7) dX11_feed_6 rfl ?_
  refine wp_sipush (nx := 10) dX11_feed_7 rfl ⟨by decide, i32 (by decide)⟩ ?_
  refine wp_icmp_le (nx := 13) (tg := 15) dX11_feed_10 rfl rfl (fun hc => ?_) (fun hc => ?_)
  · have h := h.1 hc
    refine wp_aload_n (nx := 16) dX11_feed_15 rfl rfl ?_
    refine wp_getAe (kk := 12) (nx := 19) clsX11 dX11_feed_16 rfl kF_X11_48 (by decide) (fo_81 F) (ft_81 F) rfl (fp_81_12 F) ?_
    refine wp_iconst (nx := 20) dX11_feed_19 rfl (i32 (by decide)) ?_
    refine wp_iload_n (nx := 21) dX11_feed_20 rfl rfl ?_
    refine wp_iastoreE (nx := 22) dX11_feed_21 rfl (fo_89 F) (fl_89 F) (by decide) (ft_89 F) ?_
    refine wp_aload_n (nx := 23) dX11_feed_22 rfl rfl ?_
    refine wp_getAe (kk := 12) (nx := 26) clsX11 dX11_feed_23 rfl kF_X11_48 (by decide) (fo_81 F) (ft_81 F) rfl (fp_81_12 F) ?_
    refine wp_iconst (nx := 27) dX11_feed_26 rfl (i32 (by decide)) ?_
    refine wp_iload_n (nx := 28) dX11_feed_27 rfl rfl ?_
    refine wp_iastoreE (nx := 29) dX11_feed_28 rfl (fo_89 F) (fl_89 F) (by decide) (ft_89 F) ?_
    refine wp_aload_n (nx := 30) dX11_feed_29 rfl rfl ?_
    refine wp_getAe (kk := 12) (nx := 33) clsX11 dX11_feed_30 rfl kF_X11_48 (by decide) (fo_81 F) (ft_81 F) rfl (fp_81_12 F) ?_
    refine wp_iconst (nx := 34) dX11_feed_33 rfl (i32 (by decide)) ?_
    refine wp_iload_n (nx := 35) dX11_feed_34 rfl rfl ?_
    refine wp_iastoreE (nx := 36) dX11_feed_35 rfl (fo_89 F) (fl_89 F) (by decide) (ft_89 F) ?_
    refine wp_aload_n (nx := 37) dX11_feed_36 rfl rfl ?_
    refine wp_getAe (kk := 12) (nx := 40) clsX11 dX11_feed_37 rfl kF_X11_48 (by decide) (fo_81 F) (ft_81 F) rfl (fp_81_12 F) ?_
    refine wp_iconst (nx := 41) dX11_feed_40 rfl (i32 (by decide)) ?_
    refine wp_iload (nx := 43) dX11_feed_41 rfl rfl ?_
    refine wp_iastoreE (nx := 44) dX11_feed_43 rfl (fo_89 F) (fl_89 F) (by decide) (ft_89 F) ?_
    refine wp_aload_n (nx := 45) dX11_feed_44 rfl rfl ?_
    refine wp_getAe (kk := 12) (nx := 48) clsX11 dX11_feed_45 rfl kF_X11_48 (by decide) (fo_81 F) (ft_81 F) rfl (fp_81_12 F) ?_
    refine wp_iconst (nx := 49) dX11_feed_48 rfl (i32 (by decide)) ?_
    refine wp_iload (nx := 51) dX11_feed_49 rfl rfl ?_
    refine wp_iastoreE (nx := 52) dX11_feed_51 rfl (fo_89 F) (fl_89 F) (by decide) (ft_89 F) ?_
    refine wp_iconst (nx := 53) dX11_feed_52 rfl (i32 (by decide)) ?_
    refine wp_istore (nx := 55) dX11_feed_53 rfl (by decide) ?_
    refine wp_ls (ls2 := [cA 81, cI l1, cI l2, cI l3, cI l4, cI l5, cI 0]) rfl ?_
    refine wp_fg [true, false, false, false, false, false, true] (ls2 := [cA 81, cU, cU, cU, cU, cU, cI 0]) rfl ?_
    exact h
  · have h := h.2 hc
    refine wp_iconst (nx := 14) dX11_feed_13 rfl (i32 (by decide)) ?_
    exact wp_ireturn dX11_feed_14 rfl rfl rfl h
theorem b_X11_feed_55 {d mc ms : Nat} {l6 : Int} {S : MS} {C : MC} {Q : Int → MS → MC → Prop} (F : Fix S) (h : ((20 ≤ l6 → Q (w32 ((C 81 13) + 20)) S (upC C 81 13 (w32 ((C 81 13) + 20)))) ∧ (¬ 20 ≤ l6 → ((0 : Int) ≤ w32 (Int.tdiv l6 4) ∧ w32 (Int.tdiv l6 4) < 5) ∧ ((0 : Int) ≤ w32 ((C 81 13) + l6) ∧ w32 ((C 81 13) + l6) < 400) ∧ K_X11_feed_55 d mc ms (w32 (l6 + 1)) S (upC C 88 (w32 ((C 81 13) + l6)) (nB (i2b (iShr (C 89 (w32 (Int.tdiv l6 4))) (w32 (24 - (w32 (8 * (w32 (Int.tmod l6 4)))))))))) Q))) : K_X11_feed_55 d mc ms l6 S C Q := by
  show Wp d mc ms M_X11_feed 55 [cA 81, cU, cU, cU, cU, cU, cI l6] [] S C Q
  refine wp_iload (nx := 57) dX11_feed_55 rfl rfl ?_
  refine wp_bipush (nx := 59) dX11_feed_57 rfl ⟨by decide, i32 (by decide)⟩ ?_
  refine wp_icmp_ge (nx := 62) (tg := 101) dX11_feed_59 rfl rfl (fun hc => ?_) (fun hc => ?_)
  · have h := h.1 hc
    refine wp_aload_n (nx := 102) dX11_feed_101 rfl rfl ?_
    refine wp_dup (nx := 103) dX11_feed_102 rfl (k1A _) ?_
    refine wp_getIe (kk := 13) 13 (nx := 106) clsX11 dX11_feed_103 rfl kF_X11_155 (by decide) (fo_81 F) (ft_81 F) rfl rfl rfl ?_
    refine wp_bipush (nx := 108) dX11_feed_106 rfl ⟨by decide, i32 (by decide)⟩ ?_
    refine wp_iadd (nx := 109) dX11_feed_108 rfl ?_
    refine wp_putIe (kk := 13) 13 (nx := 112) clsX11 dX11_feed_109 rfl kF_X11_155 (by decide) (fo_81 F) (ft_81 F) rfl rfl ⟨rfl, rfl⟩ rfl ?_
    refine wp_aload_n (nx := 113) dX11_feed_112 rfl rfl ?_
    refine wp_getIe (kk := 13) 13 (nx := 116) clsX11 dX11_feed_113 rfl kF_X11_155 (by decide) (fo_81 F) (ft_81 F) rfl rfl upC_h ?_
    exact wp_ireturn dX11_feed_116 rfl rfl rfl h
  · have h := h.2 hc
    refine wp_aload_n (nx := 63) dX11_feed_62 rfl rfl ?_
    refine wp_getAe (kk := 11) (nx := 66) clsX11 dX11_feed_63 rfl kF_X11_45 (by decide) (fo_81 F) (ft_81 F) rfl (fp_81_11 F) ?_
    refine wp_aload_n (nx := 67) dX11_feed_66 rfl rfl ?_
    refine wp_getIe (kk := 13) 13 (nx := 70) clsX11 dX11_feed_67 rfl kF_X11_155 (by decide) (fo_81 F) (ft_81 F) rfl rfl rfl ?_
    refine wp_iload (nx := 72) dX11_feed_70 rfl rfl ?_
    refine wp_iadd (nx := 73) dX11_feed_72 rfl ?_
    refine wp_aload_n (nx := 74) dX11_feed_73 rfl rfl ?_
    refine wp_getAe (kk := 12) (nx := 77) clsX11 dX11_feed_74 rfl kF_X11_48 (by decide) (fo_81 F) (ft_81 F) rfl (fp_81_12 F) ?_
    refine wp_iload (nx := 79) dX11_feed_77 rfl rfl ?_
    refine wp_iconst (nx := 80) dX11_feed_79 rfl (i32 (by decide)) ?_
    refine wp_idiv (nx := 81) dX11_feed_80 rfl (by decide) ?_
    obtain ⟨hi, h⟩ := h
    refine wp_ialoadE (nx := 82) dX11_feed_81 rfl (fo_89 F) (fl_89 F) hi (ft_89 F) rfl ?_
    refine wp_bipush (nx := 84) dX11_feed_82 rfl ⟨by decide, i32 (by decide)⟩ ?_
    refine wp_bipush (nx := 86) dX11_feed_84 rfl ⟨by decide, i32 (by decide)⟩ ?_
    refine wp_iload (nx := 88) dX11_feed_86 rfl rfl ?_
    refine wp_iconst (nx := 89) dX11_feed_88 rfl (i32 (by decide)) ?_
    refine wp_irem (nx := 90) dX11_feed_89 rfl (by decide) ?_
    refine wp_imul (nx := 91) dX11_feed_90 rfl ?_
    refine wp_isub (nx := 92) dX11_feed_91 rfl ?_
    refine wp_ishr (nx := 93) dX11_feed_92 rfl ?_
    refine wp_i2b (nx := 94) dX11_feed_93 rfl ?_
    obtain ⟨hi, h⟩ := h
    refine wp_bastoreE (nx := 95) dX11_feed_94 rfl (fo_88 F) (fl_88 F) hi (ft_88 F) ?_
    refine wp_iinc (nx := 98) dX11_feed_95 rfl rfl (by decide) ?_
    refine wp_ls (ls2 := [cA 81, cU, cU, cU, cU, cU, cI (w32 (l6 + 1))]) rfl ?_
    refine wp_goto (nx := 55) dX11_feed_98 rfl ?_
    exact h
theorem b_X11_end_0 {d mc ms : Nat} {l1 : Int} {S : MS} {C : MC} {Q : Int → MS → MC → Prop} (F : Fix S) (h : K_X11_lies_0 d 0 0 l1 0 (C 81 13) S C (fun r1 Sq C2 => Sq = S ∧ ((¬ r1 = 0 → Q l1 S (upC C2 81 13 l1)) ∧ (r1 = 0 → Q (-1) S C2)))) : K_X11_end_0 (d + 1) mc ms l1 S C Q := by
  show Wp (d + 1) mc ms M_X11_end 0 [cA 81, cI l1] [] S C Q
  refine wp_iload_n (nx := 1) dX11_end_0 rfl rfl ?_
  refine wp_iconst (nx := 2) dX11_end_1 rfl (i32 (by decide)) ?_
  refine wp_aload_n (nx := 3) dX11_end_2 rfl rfl ?_
  refine wp_getIe (kk := 13) 13 (nx := 6) clsX11 dX11_end_3 rfl kF_X11_155 (by decide) (fo_81 F) (ft_81 F) rfl rfl rfl ?_
  refine wp_invS (nx := 9) (N := M_X11_lies) (as := [cI l1, cI 0, cI (C 81 13)]) (st := []) (mc := 0) (ms := 0) (mc' := mc) (ms' := ms) dX11_end_6 rfl mok_X11_lies kM_X11_18 ks_X11_lies rfl rfl (leB rfl) (leB rfl) (z0 _) (z0 _) (Wp.mono h ?_)
  intro r1 Sq C2 h
  obtain ⟨e9, h⟩ := h
  rw [e9]
  show Wp (d + 1) mc ms M_X11_end 9 [cA 81, cI l1] [cI r1] S C2 Q
  refine wp_if_ne (nx := 12) (tg := 14) dX11_end_9 rfl rfl (fun hc => ?_) (fun hc => ?_)
  · have h := h.1 hc
    refine wp_aload_n (nx := 15) dX11_end_14 rfl rfl ?_
    refine wp_iload_n (nx := 16) dX11_end_15 rfl rfl ?_
    refine wp_putIe (kk := 13) 13 (nx := 19) clsX11 dX11_end_16 rfl kF_X11_155 (by decide) (fo_81 F) (ft_81 F) rfl rfl ⟨rfl, rfl⟩ rfl ?_
    refine wp_iload_n (nx := 20) dX11_end_19 rfl rfl ?_
    exact wp_ireturn dX11_end_20 rfl rfl rfl h
  · have h := h.2 hc
    refine wp_iconst (nx := 13) dX11_end_12 rfl (i32 (by decide)) ?_
    exact wp_ireturn dX11_end_13 rfl rfl rfl h
theorem b_X11_isSmall_0 {d mc ms : Nat} {l0 : Int} {S : MS} {C : MC} {Q : Int → MS → MC → Prop} (F : Fix S) (h : ((l0 < 97 → Q 0 S C) ∧ (¬ l0 < 97 → ((122 < l0 → Q 0 S C) ∧ (¬ 122 < l0 → Q 1 S C))))) : K_X11_isSmall_0 d mc ms l0 S C Q := by
  show Wp d mc ms M_X11_isSmall 0 [cI l0] [] S C Q
  refine wp_iload_n (nx := 1) dX11_isSmall_0 rfl rfl ?_
  refine wp_bipush (nx := 3) dX11_isSmall_1 rfl ⟨by decide, i32 (by decide)⟩ ?_
  refine wp_icmp_lt (nx := 6) (tg := 16) dX11_isSmall_3 rfl rfl (fun hc => ?_) (fun hc => ?_)
  · have h := h.1 hc
    refine wp_iconst (nx := 17) dX11_isSmall_16 rfl (i32 (by decide)) ?_
    exact wp_ireturn dX11_isSmall_17 rfl rfl (nz_of (Or.inl rfl)) h
  · have h := h.2 hc
    refine wp_iload_n (nx := 7) dX11_isSmall_6 rfl rfl ?_
    refine wp_bipush (nx := 9) dX11_isSmall_7 rfl ⟨by decide, i32 (by decide)⟩ ?_
    refine wp_icmp_gt (nx := 12) (tg := 16) dX11_isSmall_9 rfl rfl (fun hc => ?_) (fun hc => ?_)
    · have h := h.1 hc
      refine wp_iconst (nx := 17) dX11_isSmall_16 rfl (i32 (by decide)) ?_
      exact wp_ireturn dX11_isSmall_17 rfl rfl (nz_of (Or.inl rfl)) h
    · have h := h.2 hc
      refine wp_iconst (nx := 13) dX11_isSmall_12 rfl (i32 (by decide)) ?_
      refine wp_goto (nx := 17) dX11_isSmall_13 rfl ?_
      exact wp_ireturn dX11_isSmall_17 rfl rfl (nz_of (Or.inr rfl)) h
theorem b_X11_isDigit_0 {d mc ms : Nat} {l0 : Int} {S : MS} {C : MC} {Q : Int → MS → MC → Prop} (F : Fix S) (h : ((l0 < 48 → Q 0 S C) ∧ (¬ l0 < 48 → ((57 < l0 → Q 0 S C) ∧ (¬ 57 < l0 → Q 1 S C))))) : K_X11_isDigit_0 d mc ms l0 S C Q := by
  show Wp d mc ms M_X11_isDigit 0 [cI l0] [] S C Q
  refine wp_iload_n (nx := 1) dX11_isDigit_0 rfl rfl ?_
  refine wp_bipush (nx := 3) dX11_isDigit_1 rfl ⟨by decide, i32 (by decide)⟩ ?_
  refine wp_icmp_lt (nx := 6) (tg := 16) dX11_isDigit_3 rfl rfl (fun hc => ?_) (fun hc => ?_)
  · have h := h.1 hc
    refine wp_iconst (nx := 17) dX11_isDigit_16 rfl (i32 (by decide)) ?_
    exact wp_ireturn dX11_isDigit_17 rfl rfl (nz_of (Or.inl rfl)) h
  · have h := h.2 hc
    refine wp_iload_n (nx := 7) dX11_isDigit_6 rfl rfl ?_
    refine wp_bipush (nx := 9) dX11_isDigit_7 rfl ⟨by decide, i32 (by decide)⟩ ?_
    refine wp_icmp_gt (nx := 12) (tg := 16) dX11_isDigit_9 rfl rfl (fun hc => ?_) (fun hc => ?_)
    · have h := h.1 hc
      refine wp_iconst (nx := 17) dX11_isDigit_16 rfl (i32 (by decide)) ?_
      exact wp_ireturn dX11_isDigit_17 rfl rfl (nz_of (Or.inl rfl)) h
    · have h := h.2 hc
      refine wp_iconst (nx := 13) dX11_isDigit_12 rfl (i32 (by decide)) ?_
      refine wp_goto (nx := 17) dX11_isDigit_13 rfl ?_
      exact wp_ireturn dX11_isDigit_17 rfl rfl (nz_of (Or.inr rfl)) h
theorem b_X11_wordOf_0 {d mc ms : Nat} {l1 l2 : Int} {S : MS} {C : MC} {Q : Int → MS → MC → Prop} (F : Fix S) (h : K_X11_wordOf_5 d mc ms l1 l2 1 0 S C Q) : K_X11_wordOf_0 d mc ms l1 l2 S C Q := by
  show Wp d mc ms M_X11_wordOf 0 [cA 81, cI l1, cI l2, cU, cU, cU, cU, cU] [] S C Q
  refine wp_iconst (nx := 1) dX11_wordOf_0 rfl (i32 (by decide)) ?_
  refine wp_istore_n (nx := 2) dX11_wordOf_1 rfl (by decide) ?_
  refine wp_ls (ls2 := [cA 81, cI l1, cI l2, cI 1, cU, cU, cU, cU]) rfl ?_
  refine wp_iconst (nx := 3) dX11_wordOf_2 rfl (i32 (by decide)) ?_
  refine wp_istore (nx := 5) dX11_wordOf_3 rfl (by decide) ?_
  refine wp_ls (ls2 := [cA 81, cI l1, cI l2, cI 1, cI 0, cU, cU, cU]) rfl ?_
  exact h
theorem b_X11_wordOf_5 {d mc ms : Nat} {l1 l2 l3 l4 : Int} {S : MS} {C : MC} {Q : Int → MS → MC → Prop} (F : Fix S) (h : ((136 ≤ l4 → Q 0 S C) ∧ (¬ 136 ≤ l4 → K_X11_wordOf_18 d mc ms l1 l2 l3 l4 0 S C Q))) : K_X11_wordOf_5 d mc ms l1 l2 l3 l4 S C Q := by
  show Wp d mc ms M_X11_wordOf 5 [cA 81, cI l1, cI l2, cI l3, cI l4, cU, cU, cU] [] S C Q
  refine wp_iload (nx := 7) dX11_wordOf_5 rfl rfl ?_
  refine wp_aload_n (nx := 8) dX11_wordOf_7 rfl rfl ?_
  refine wp_getAe (kk := 7) (nx := 11) clsX11 dX11_wordOf_8 rfl kF_X11_41 (by decide) (fo_81 F) (ft_81 F) rfl (fp_81_7 F) ?_
  refine wp_alenE (nx := 12) dX11_wordOf_11 rfl (fo_87 F) (fl_87 F) (by rw [(ft_87 F)]; decide) ?_
  refine wp_icmp_ge (nx := 15) (tg := 126) dX11_wordOf_12 rfl rfl (fun hc => ?_) (fun hc => ?_)
  · have h := h.1 hc
    refine wp_iconst (nx := 127) dX11_wordOf_126 rfl (i32 (by decide)) ?_
    exact wp_ireturn dX11_wordOf_127 rfl rfl rfl h
  · have h := h.2 hc
    refine wp_iconst (nx := 16) dX11_wordOf_15 rfl (i32 (by decide)) ?_
    refine wp_istore (nx := 18) dX11_wordOf_16 rfl (by decide) ?_
    refine wp_ls (ls2 := [cA 81, cI l1, cI l2, cI l3, cI l4, cI 0, cU, cU]) rfl ?_
    exact h
theorem b_X11_wordOf_18 {d mc ms : Nat} {l1 l2 l3 l4 l5 : Int} {S : MS} {C : MC} {Q : Int → MS → MC → Prop} (F : Fix S) (h : ((0 : Int) ≤ w32 (l4 + l5) ∧ w32 (l4 + l5) < 136) ∧ ((C 87 (w32 (l4 + l5)) = 32 → ((¬ l5 = w32 (l2 - l1) → K_X11_wordOf_57 d mc ms l1 l2 l3 l4 l5 0 0 S C Q) ∧ (l5 = w32 (l2 - l1) → K_X11_wordOf_57 d mc ms l1 l2 l3 l4 l5 1 0 S C Q))) ∧ (¬ C 87 (w32 (l4 + l5)) = 32 → K_X11_wordOf_18 d mc ms l1 l2 l3 l4 (w32 (l5 + 1)) S C Q))) : K_X11_wordOf_18 d mc ms l1 l2 l3 l4 l5 S C Q := by
  show Wp d mc ms M_X11_wordOf 18 [cA 81, cI l1, cI l2, cI l3, cI l4, cI l5, cU, cU] [] S C Q
  refine wp_aload_n (nx := 19) dX11_wordOf_18 rfl rfl ?_
  refine wp_getAe (kk := 7) (nx := 22) clsX11 dX11_wordOf_19 rfl kF_X11_41 (by decide) (fo_81 F) (ft_81 F) rfl (fp_81_7 F) ?_
  refine wp_iload (nx := 24) dX11_wordOf_22 rfl rfl ?_
  refine wp_iload (nx := 26) dX11_wordOf_24 rfl rfl ?_
  refine wp_iadd (nx := 27) dX11_wordOf_26 rfl ?_
  obtain ⟨hi, h⟩ := h
  refine wp_baloadE (nx := 28) dX11_wordOf_27 rfl (fo_87 F) (fl_87 F) hi (ft_87 F) rfl ?_
  refine wp_bipush (nx := 30) dX11_wordOf_28 rfl ⟨by decide, i32 (by decide)⟩ ?_
  refine wp_icmp_eq (nx := 33) (tg := 39) dX11_wordOf_30 rfl rfl (fun hc => ?_) (fun hc => ?_)
  · have h := h.1 hc
    refine wp_iload (nx := 41) dX11_wordOf_39 rfl rfl ?_
    refine wp_iload_n (nx := 42) dX11_wordOf_41 rfl rfl ?_
    refine wp_iload_n (nx := 43) dX11_wordOf_42 rfl rfl ?_
    refine wp_isub (nx := 44) dX11_wordOf_43 rfl ?_
    refine wp_icmp_ne (nx := 47) (tg := 51) dX11_wordOf_44 rfl rfl (fun hc => ?_) (fun hc => ?_)
    · have h := h.1 hc
      refine wp_iconst (nx := 52) dX11_wordOf_51 rfl (i32 (by decide)) ?_
      refine wp_istore (nx := 54) dX11_wordOf_52 rfl (by decide) ?_
      refine wp_ls (ls2 := [cA 81, cI l1, cI l2, cI l3, cI l4, cI l5, cI 0, cU]) rfl ?_
      refine wp_iconst (nx := 55) dX11_wordOf_54 rfl (i32 (by decide)) ?_
      refine wp_istore (nx := 57) dX11_wordOf_55 rfl (by decide) ?_
      refine wp_ls (ls2 := [cA 81, cI l1, cI l2, cI l3, cI l4, cI l5, cI 0, cI 0]) rfl ?_
      exact h
    · have h := h.2 hc
      refine wp_iconst (nx := 48) dX11_wordOf_47 rfl (i32 (by decide)) ?_
      refine wp_goto (nx := 52) dX11_wordOf_48 rfl ?_
      refine wp_istore (nx := 54) dX11_wordOf_52 rfl (by decide) ?_
      refine wp_ls (ls2 := [cA 81, cI l1, cI l2, cI l3, cI l4, cI l5, cI 1, cU]) rfl ?_
      refine wp_iconst (nx := 55) dX11_wordOf_54 rfl (i32 (by decide)) ?_
      refine wp_istore (nx := 57) dX11_wordOf_55 rfl (by decide) ?_
      refine wp_ls (ls2 := [cA 81, cI l1, cI l2, cI l3, cI l4, cI l5, cI 1, cI 0]) rfl ?_
      exact h
  · have h := h.2 hc
    refine wp_iinc (nx := 36) dX11_wordOf_33 rfl rfl (by decide) ?_
    refine wp_ls (ls2 := [cA 81, cI l1, cI l2, cI l3, cI l4, cI (w32 (l5 + 1)), cU, cU]) rfl ?_
    refine wp_goto (nx := 18) dX11_wordOf_36 rfl ?_
    exact h
theorem b_X11_wordOf_57 {d mc ms : Nat} {l1 l2 l3 l4 l5 l6 l7 : Int} {S : MS} {C : MC} {Q : Int → MS → MC → Prop} (F : Fix S) (h : ((l5 ≤ l7 → ((l6 = 0 → K_X11_wordOf_5 d mc ms l1 l2 (w32 (l3 + 1)) (w32 (l4 + (w32 (l5 + 1)))) S C Q) ∧ (¬ l6 = 0 → Q l3 S C))) ∧ (¬ l5 ≤ l7 → ((l6 = 0 → ((l6 = 0 → K_X11_wordOf_5 d mc ms l1 l2 (w32 (l3 + 1)) (w32 (l4 + (w32 (l5 + 1)))) S C Q) ∧ (¬ l6 = 0 → Q l3 S C))) ∧ (¬ l6 = 0 → ((0 : Int) ≤ w32 (l4 + l7) ∧ w32 (l4 + l7) < 136) ∧ ((0 : Int) ≤ w32 (l1 + l7) ∧ w32 (l1 + l7) < 400) ∧ ((¬ C 87 (w32 (l4 + l7)) = C 88 (w32 (l1 + l7)) → K_X11_wordOf_57 d mc ms l1 l2 l3 l4 l5 0 (w32 (l7 + 1)) S C Q) ∧ (C 87 (w32 (l4 + l7)) = C 88 (w32 (l1 + l7)) → K_X11_wordOf_57 d mc ms l1 l2 l3 l4 l5 1 (w32 (l7 + 1)) S C Q))))))) : K_X11_wordOf_57 d mc ms l1 l2 l3 l4 l5 l6 l7 S C Q := by
  show Wp d mc ms M_X11_wordOf 57 [cA 81, cI l1, cI l2, cI l3, cI l4, cI l5, cI l6, cI l7] [] S C Q
  refine wp_iload (nx := 59) dX11_wordOf_57 rfl rfl ?_
  refine wp_iload (nx := 61) dX11_wordOf_59 rfl rfl ?_
  refine wp_icmp_ge (nx := 64) (tg := 104) dX11_wordOf_61 rfl rfl (fun hc => ?_) (fun hc => ?_)
  · have h := h.1 hc
    refine wp_iload (nx := 106) dX11_wordOf_104 rfl rfl ?_
    refine wp_if_eq (nx := 109) (tg := 111) dX11_wordOf_106 rfl rfl (fun hc => ?_) (fun hc => ?_)
    · have h := h.1 hc
      refine wp_iload (nx := 113) dX11_wordOf_111 rfl rfl ?_
      refine wp_iload (nx := 115) dX11_wordOf_113 rfl rfl ?_
      refine wp_iconst (nx := 116) dX11_wordOf_115 rfl (i32 (by decide)) ?_
      refine wp_iadd (nx := 117) dX11_wordOf_116 rfl ?_
      refine wp_iadd (nx := 118) dX11_wordOf_117 rfl ?_
      refine wp_istore (nx := 120) dX11_wordOf_118 rfl (by decide) ?_
      refine wp_ls (ls2 := [cA 81, cI l1, cI l2, cI l3, cI (w32 (l4 + (w32 (l5 + 1)))), cI l5, cI l6, cI l7]) rfl ?_
      refine wp_iinc (nx := 123) dX11_wordOf_120 rfl rfl (by decide) ?_
      refine wp_ls (ls2 := [cA 81, cI l1, cI l2, cI (w32 (l3 + 1)), cI (w32 (l4 + (w32 (l5 + 1)))), cI l5, cI l6, cI l7]) rfl ?_
      refine wp_goto (nx := 5) dX11_wordOf_123 rfl ?_
      refine wp_fg [true, true, true, true, true, false, false, false] (ls2 := [cA 81, cI l1, cI l2, cI (w32 (l3 + 1)), cI (w32 (l4 + (w32 (l5 + 1)))), cU, cU, cU]) rfl ?_
      exact h
    · have h := h.2 hc
      refine wp_iload_n (nx := 110) dX11_wordOf_109 rfl rfl ?_
      exact wp_ireturn dX11_wordOf_110 rfl rfl rfl h
  · have h := h.2 hc
    refine wp_iload (nx := 66) dX11_wordOf_64 rfl rfl ?_
    refine wp_if_eq (nx := 69) (tg := 104) dX11_wordOf_66 rfl rfl (fun hc => ?_) (fun hc => ?_)
    · have h := h.1 hc
      refine wp_iload (nx := 106) dX11_wordOf_104 rfl rfl ?_
      refine wp_if_eq (nx := 109) (tg := 111) dX11_wordOf_106 rfl rfl (fun hc => ?_) (fun hc => ?_)
      · have h := h.1 hc
        refine wp_iload (nx := 113) dX11_wordOf_111 rfl rfl ?_
        refine wp_iload (nx := 115) dX11_wordOf_113 rfl rfl ?_
        refine wp_iconst (nx := 116) dX11_wordOf_115 rfl (i32 (by decide)) ?_
        refine wp_iadd (nx := 117) dX11_wordOf_116 rfl ?_
        refine wp_iadd (nx := 118) dX11_wordOf_117 rfl ?_
        refine wp_istore (nx := 120) dX11_wordOf_118 rfl (by decide) ?_
        refine wp_ls (ls2 := [cA 81, cI l1, cI l2, cI l3, cI (w32 (l4 + (w32 (l5 + 1)))), cI l5, cI l6, cI l7]) rfl ?_
        refine wp_iinc (nx := 123) dX11_wordOf_120 rfl rfl (by decide) ?_
        refine wp_ls (ls2 := [cA 81, cI l1, cI l2, cI (w32 (l3 + 1)), cI (w32 (l4 + (w32 (l5 + 1)))), cI l5, cI l6, cI l7]) rfl ?_
        refine wp_goto (nx := 5) dX11_wordOf_123 rfl ?_
        refine wp_fg [true, true, true, true, true, false, false, false] (ls2 := [cA 81, cI l1, cI l2, cI (w32 (l3 + 1)), cI (w32 (l4 + (w32 (l5 + 1)))), cU, cU, cU]) rfl ?_
        exact h
      · have h := h.2 hc
        refine wp_iload_n (nx := 110) dX11_wordOf_109 rfl rfl ?_
        exact wp_ireturn dX11_wordOf_110 rfl rfl rfl h
    · have h := h.2 hc
      refine wp_aload_n (nx := 70) dX11_wordOf_69 rfl rfl ?_
      refine wp_getAe (kk := 7) (nx := 73) clsX11 dX11_wordOf_70 rfl kF_X11_41 (by decide) (fo_81 F) (ft_81 F) rfl (fp_81_7 F) ?_
      refine wp_iload (nx := 75) dX11_wordOf_73 rfl rfl ?_
      refine wp_iload (nx := 77) dX11_wordOf_75 rfl rfl ?_
      refine wp_iadd (nx := 78) dX11_wordOf_77 rfl ?_
      obtain ⟨hi, h⟩ := h
      refine wp_baloadE (nx := 79) dX11_wordOf_78 rfl (fo_87 F) (fl_87 F) hi (ft_87 F) rfl ?_
      refine wp_aload_n (nx := 80) dX11_wordOf_79 rfl rfl ?_
      refine wp_getAe (kk := 11) (nx := 83) clsX11 dX11_wordOf_80 rfl kF_X11_45 (by decide) (fo_81 F) (ft_81 F) rfl (fp_81_11 F) ?_
      refine wp_iload_n (nx := 84) dX11_wordOf_83 rfl rfl ?_
      refine wp_iload (nx := 86) dX11_wordOf_84 rfl rfl ?_
      refine wp_iadd (nx := 87) dX11_wordOf_86 rfl ?_
      obtain ⟨hi, h⟩ := h
      refine wp_baloadE (nx := 88) dX11_wordOf_87 rfl (fo_88 F) (fl_88 F) hi (ft_88 F) rfl ?_
      refine wp_icmp_ne (nx := 91) (tg := 95) dX11_wordOf_88 rfl rfl (fun hc => ?_) (fun hc => ?_)
      · have h := h.1 hc
        refine wp_iconst (nx := 96) dX11_wordOf_95 rfl (i32 (by decide)) ?_
        refine wp_istore (nx := 98) dX11_wordOf_96 rfl (by decide) ?_
        refine wp_ls (ls2 := [cA 81, cI l1, cI l2, cI l3, cI l4, cI l5, cI 0, cI l7]) rfl ?_
        refine wp_iinc (nx := 101) dX11_wordOf_98 rfl rfl (by decide) ?_
        refine wp_ls (ls2 := [cA 81, cI l1, cI l2, cI l3, cI l4, cI l5, cI 0, cI (w32 (l7 + 1))]) rfl ?_
        refine wp_goto (nx := 57) dX11_wordOf_101 rfl ?_
        exact h
      · have h := h.2 hc
        refine wp_iconst (nx := 92) dX11_wordOf_91 rfl (i32 (by decide)) ?_
        refine wp_goto (nx := 96) dX11_wordOf_92 rfl ?_
        refine wp_istore (nx := 98) dX11_wordOf_96 rfl (by decide) ?_
        refine wp_ls (ls2 := [cA 81, cI l1, cI l2, cI l3, cI l4, cI l5, cI 1, cI l7]) rfl ?_
        refine wp_iinc (nx := 101) dX11_wordOf_98 rfl rfl (by decide) ?_
        refine wp_ls (ls2 := [cA 81, cI l1, cI l2, cI l3, cI l4, cI l5, cI 1, cI (w32 (l7 + 1))]) rfl ?_
        refine wp_goto (nx := 57) dX11_wordOf_101 rfl ?_
        exact h
theorem b_X11_splits_0 {d mc ms : Nat} {l1 : Int} {S : MS} {C : MC} {Q : Int → MS → MC → Prop} (F : Fix S) (h : K_X11_splits_7 (d + 1) mc ms l1 0 S (upC C 81 18 0) Q) : K_X11_splits_0 (d + 1) mc ms l1 S C Q := by
  show Wp (d + 1) mc ms M_X11_splits 0 [cA 81, cI l1, cU, cU, cU, cU] [] S C Q
  refine wp_aload_n (nx := 1) dX11_splits_0 rfl rfl ?_
  refine wp_iconst (nx := 2) dX11_splits_1 rfl (i32 (by decide)) ?_
  refine wp_putIe (kk := 18) 18 (nx := 5) clsX11 dX11_splits_2 rfl kF_X11_161 (by decide) (fo_81 F) (ft_81 F) rfl rfl ⟨rfl, rfl⟩ rfl ?_
  refine wp_iconst (nx := 6) dX11_splits_5 rfl (i32 (by decide)) ?_
  refine wp_istore_n (nx := 7) dX11_splits_6 rfl (by decide) ?_
  refine wp_ls (ls2 := [cA 81, cI l1, cI 0, cU, cU, cU]) rfl ?_
  exact h
theorem b_X11_splits_7 {d mc ms : Nat} {l1 l2 : Int} {S : MS} {C : MC} {Q : Int → MS → MC → Prop} (F : Fix S) (h : ((l1 ≤ l2 → ((0 : Int) ≤ C 81 18 ∧ C 81 18 < 401) ∧ ((0 : Int) ≤ C 81 18 ∧ C 81 18 < 401) ∧ ((0 : Int) ≤ C 81 18 ∧ C 81 18 < 401) ∧ Q 0 S (upC (upC (upC C 92 (C 81 18) l1) 90 (C 81 18) 0) 91 (C 81 18) 0)) ∧ (¬ l1 ≤ l2 → ((0 : Int) ≤ l2 ∧ l2 < 400) ∧ ((¬ C 88 l2 = 32 → K_X11_isSmall_0 d 0 0 (C 88 l2) S C (fun r1 Sq C2 => Sq = S ∧ ((r1 = 0 → K_X11_isDigit_0 d 0 0 (C 88 l2) S C2 (fun r3 Sq C4 => Sq = S ∧ ((r3 = 0 → K_X11_splits_100 (d + 1) mc ms l1 l2 (C 88 l2) (w32 (l2 + 1)) S C4 Q) ∧ (¬ r3 = 0 → K_X11_splits_75 (d + 1) mc ms l1 l2 (C 88 l2) (w32 (l2 + 1)) S C4 Q)))) ∧ (¬ r1 = 0 → K_X11_splits_43 (d + 1) mc ms l1 l2 (C 88 l2) (w32 (l2 + 1)) S C2 Q)))) ∧ (C 88 l2 = 32 → K_X11_splits_7 (d + 1) mc ms l1 (w32 (l2 + 1)) S C Q))))) : K_X11_splits_7 (d + 1) mc ms l1 l2 S C Q := by
  show Wp (d + 1) mc ms M_X11_splits 7 [cA 81, cI l1, cI l2, cU, cU, cU] [] S C Q
  refine wp_iload_n (nx := 8) dX11_splits_7 rfl rfl ?_
  refine wp_iload_n (nx := 9) dX11_splits_8 rfl rfl ?_
  refine wp_icmp_ge (nx := 12) (tg := 263) dX11_splits_9 rfl rfl (fun hc => ?_) (fun hc => ?_)
  · have h := h.1 hc
    refine wp_aload_n (nx := 264) dX11_splits_263 rfl rfl ?_
    refine wp_getAe (kk := 17) (nx := 267) clsX11 dX11_splits_264 rfl kF_X11_60 (by decide) (fo_81 F) (ft_81 F) rfl (fp_81_17 F) ?_
    refine wp_aload_n (nx := 268) dX11_splits_267 rfl rfl ?_
    refine wp_getIe (kk := 18) 18 (nx := 271) clsX11 dX11_splits_268 rfl kF_X11_161 (by decide) (fo_81 F) (ft_81 F) rfl rfl rfl ?_
    refine wp_iload_n (nx := 272) dX11_splits_271 rfl rfl ?_
    obtain ⟨hi, h⟩ := h
    refine wp_iastoreE (nx := 273) dX11_splits_272 rfl (fo_92 F) (fl_92 F) hi (ft_92 F) ?_
    refine wp_aload_n (nx := 274) dX11_splits_273 rfl rfl ?_
    refine wp_getAe (kk := 15) (nx := 277) clsX11 dX11_splits_274 rfl kF_X11_54 (by decide) (fo_81 F) (ft_81 F) rfl (fp_81_15 F) ?_
    refine wp_aload_n (nx := 278) dX11_splits_277 rfl rfl ?_
    refine wp_getIe (kk := 18) 18 (nx := 281) clsX11 dX11_splits_278 rfl kF_X11_161 (by decide) (fo_81 F) (ft_81 F) rfl rfl (upC_sA (by decide)) ?_
    refine wp_iconst (nx := 282) dX11_splits_281 rfl (i32 (by decide)) ?_
    obtain ⟨hi, h⟩ := h
    refine wp_iastoreE (nx := 283) dX11_splits_282 rfl (fo_90 F) (fl_90 F) hi (ft_90 F) ?_
    refine wp_aload_n (nx := 284) dX11_splits_283 rfl rfl ?_
    refine wp_getAe (kk := 16) (nx := 287) clsX11 dX11_splits_284 rfl kF_X11_57 (by decide) (fo_81 F) (ft_81 F) rfl (fp_81_16 F) ?_
    refine wp_aload_n (nx := 288) dX11_splits_287 rfl rfl ?_
    refine wp_getIe (kk := 18) 18 (nx := 291) clsX11 dX11_splits_288 rfl kF_X11_161 (by decide) (fo_81 F) (ft_81 F) rfl rfl ((upC_sA (by decide)).trans (upC_sA (by decide))) ?_
    refine wp_iconst (nx := 292) dX11_splits_291 rfl (i32 (by decide)) ?_
    obtain ⟨hi, h⟩ := h
    refine wp_iastoreE (nx := 293) dX11_splits_292 rfl (fo_91 F) (fl_91 F) hi (ft_91 F) ?_
    exact wp_return dX11_splits_293 rfl h
  · have h := h.2 hc
    refine wp_aload_n (nx := 13) dX11_splits_12 rfl rfl ?_
    refine wp_getAe (kk := 11) (nx := 16) clsX11 dX11_splits_13 rfl kF_X11_45 (by decide) (fo_81 F) (ft_81 F) rfl (fp_81_11 F) ?_
    refine wp_iload_n (nx := 17) dX11_splits_16 rfl rfl ?_
    obtain ⟨hi, h⟩ := h
    refine wp_baloadE (nx := 18) dX11_splits_17 rfl (fo_88 F) (fl_88 F) hi (ft_88 F) rfl ?_
    refine wp_istore_n (nx := 19) dX11_splits_18 rfl (by decide) ?_
    refine wp_ls (ls2 := [cA 81, cI l1, cI l2, cI (C 88 l2), cU, cU]) rfl ?_
    refine wp_iload_n (nx := 20) dX11_splits_19 rfl rfl ?_
    refine wp_bipush (nx := 22) dX11_splits_20 rfl ⟨by decide, i32 (by decide)⟩ ?_
    refine wp_icmp_ne (nx := 25) (tg := 31) dX11_splits_22 rfl rfl (fun hc => ?_) (fun hc => ?_)
    · have h := h.1 hc
      refine wp_iload_n (nx := 32) dX11_splits_31 rfl rfl ?_
      refine wp_iconst (nx := 33) dX11_splits_32 rfl (i32 (by decide)) ?_
      refine wp_iadd (nx := 34) dX11_splits_33 rfl ?_
      refine wp_istore (nx := 36) dX11_splits_34 rfl (by decide) ?_
      refine wp_ls (ls2 := [cA 81, cI l1, cI l2, cI (C 88 l2), cI (w32 (l2 + 1)), cU]) rfl ?_
      refine wp_iload_n (nx := 37) dX11_splits_36 rfl rfl ?_
      refine wp_invS (nx := 40) (N := M_X11_isSmall) (as := [cI (C 88 l2)]) (st := []) (mc := 0) (ms := 0) (mc' := mc) (ms' := ms) dX11_splits_37 rfl mok_X11_isSmall kM_X11_164 ks_X11_isSmall rfl rfl (leB rfl) (leB rfl) (z0 _) (z0 _) (Wp.mono h ?_)
      intro r1 Sq C2 h
      obtain ⟨e9, h⟩ := h
      rw [e9]
      show Wp (d + 1) mc ms M_X11_splits 40 [cA 81, cI l1, cI l2, cI (C 88 l2), cI (w32 (l2 + 1)), cU] [cI r1] S C2 Q
      refine wp_if_eq (nx := 43) (tg := 68) dX11_splits_40 rfl rfl (fun hc => ?_) (fun hc => ?_)
      · have h := h.1 hc
        refine wp_iload_n (nx := 69) dX11_splits_68 rfl rfl ?_
        refine wp_invS (nx := 72) (N := M_X11_isDigit) (as := [cI (C 88 l2)]) (st := []) (mc := 0) (ms := 0) (mc' := mc) (ms' := ms) dX11_splits_69 rfl mok_X11_isDigit kM_X11_167 ks_X11_isDigit rfl rfl (leB rfl) (leB rfl) (z0 _) (z0 _) (Wp.mono h ?_)
        intro r3 Sq C4 h
        obtain ⟨e9, h⟩ := h
        rw [e9]
        show Wp (d + 1) mc ms M_X11_splits 72 [cA 81, cI l1, cI l2, cI (C 88 l2), cI (w32 (l2 + 1)), cU] [cI r3] S C4 Q
        refine wp_if_eq (nx := 75) (tg := 100) dX11_splits_72 rfl rfl (fun hc => ?_) (fun hc => ?_)
        · have h := h.1 hc
          exact h
        · have h := h.2 hc
          exact h
      · have h := h.2 hc
        exact h
    · have h := h.2 hc
      refine wp_iinc (nx := 28) dX11_splits_25 rfl rfl (by decide) ?_
      refine wp_ls (ls2 := [cA 81, cI l1, cI (w32 (l2 + 1)), cI (C 88 l2), cU, cU]) rfl ?_
      refine wp_goto (nx := 7) dX11_splits_28 rfl ?_
      refine wp_fg [true, true, true, false, false, false] (ls2 := [cA 81, cI l1, cI (w32 (l2 + 1)), cU, cU, cU]) rfl ?_
      exact h
theorem b_X11_splits_100 {d mc ms : Nat} {l1 l2 l3 l4 : Int} {S : MS} {C : MC} {Q : Int → MS → MC → Prop} (F : Fix S) (h : ((0 : Int) ≤ C 81 18 ∧ C 81 18 < 401) ∧ ((0 : Int) ≤ C 81 18 ∧ C 81 18 < 401) ∧ K_X11_isSmall_0 d 0 0 l3 S ((upC (upC C 92 (C 81 18) l2) 91 (C 81 18) 0)) (fun r1 Sq C2 => Sq = S ∧ ((r1 = 0 → K_X11_isDigit_0 d 0 0 l3 S C2 (fun r3 Sq C4 => Sq = S ∧ ((r3 = 0 → ((0 : Int) ≤ C 81 18 ∧ C 81 18 < 401) ∧ K_X11_splits_169 (d + 1) mc ms l1 l3 l4 l2 S (upC C4 90 (C 81 18) (w32 (100 + (iAnd l3 255)))) Q) ∧ (¬ r3 = 0 → ((0 : Int) ≤ C 81 18 ∧ C 81 18 < 401) ∧ K_X11_splits_169 (d + 1) mc ms l1 l3 l4 l2 S (upC C4 90 (C 81 18) 50) Q)))) ∧ (¬ r1 = 0 → K_X11_wordOf_0 d 0 0 l2 l4 S C2 (fun r5 Sq C6 => Sq = S ∧ ((0 : Int) ≤ C 81 18 ∧ C 81 18 < 401) ∧ K_X11_splits_169 (d + 1) mc ms l1 l3 l4 l2 S (upC C6 90 (C 81 18) r5) Q))))) : K_X11_splits_100 (d + 1) mc ms l1 l2 l3 l4 S C Q := by
  show Wp (d + 1) mc ms M_X11_splits 100 [cA 81, cI l1, cI l2, cI l3, cI l4, cU] [] S C Q
  refine wp_aload_n (nx := 101) dX11_splits_100 rfl rfl ?_
  refine wp_getAe (kk := 17) (nx := 104) clsX11 dX11_splits_101 rfl kF_X11_60 (by decide) (fo_81 F) (ft_81 F) rfl (fp_81_17 F) ?_
  refine wp_aload_n (nx := 105) dX11_splits_104 rfl rfl ?_
  refine wp_getIe (kk := 18) 18 (nx := 108) clsX11 dX11_splits_105 rfl kF_X11_161 (by decide) (fo_81 F) (ft_81 F) rfl rfl rfl ?_
  refine wp_iload_n (nx := 109) dX11_splits_108 rfl rfl ?_
  obtain ⟨hi, h⟩ := h
  refine wp_iastoreE (nx := 110) dX11_splits_109 rfl (fo_92 F) (fl_92 F) hi (ft_92 F) ?_
  refine wp_aload_n (nx := 111) dX11_splits_110 rfl rfl ?_
  refine wp_getAe (kk := 16) (nx := 114) clsX11 dX11_splits_111 rfl kF_X11_57 (by decide) (fo_81 F) (ft_81 F) rfl (fp_81_16 F) ?_
  refine wp_aload_n (nx := 115) dX11_splits_114 rfl rfl ?_
  refine wp_getIe (kk := 18) 18 (nx := 118) clsX11 dX11_splits_115 rfl kF_X11_161 (by decide) (fo_81 F) (ft_81 F) rfl rfl (upC_sA (by decide)) ?_
  refine wp_iconst (nx := 119) dX11_splits_118 rfl (i32 (by decide)) ?_
  obtain ⟨hi, h⟩ := h
  refine wp_iastoreE (nx := 120) dX11_splits_119 rfl (fo_91 F) (fl_91 F) hi (ft_91 F) ?_
  refine wp_aload_n (nx := 121) dX11_splits_120 rfl rfl ?_
  refine wp_getAe (kk := 15) (nx := 124) clsX11 dX11_splits_121 rfl kF_X11_54 (by decide) (fo_81 F) (ft_81 F) rfl (fp_81_15 F) ?_
  refine wp_aload_n (nx := 125) dX11_splits_124 rfl rfl ?_
  refine wp_getIe (kk := 18) 18 (nx := 128) clsX11 dX11_splits_125 rfl kF_X11_161 (by decide) (fo_81 F) (ft_81 F) rfl rfl ((upC_sA (by decide)).trans (upC_sA (by decide))) ?_
  refine wp_iload_n (nx := 129) dX11_splits_128 rfl rfl ?_
  refine wp_invS (nx := 132) (N := M_X11_isSmall) (as := [cI l3]) (st := [cI (C 81 18), cA 90]) (mc := 0) (ms := 0) (mc' := mc) (ms' := ms) dX11_splits_129 rfl mok_X11_isSmall kM_X11_164 ks_X11_isSmall rfl rfl (leB rfl) (leB rfl) (z0 _) (z0 _) (Wp.mono h ?_)
  intro r1 Sq C2 h
  obtain ⟨e9, h⟩ := h
  rw [e9]
  show Wp (d + 1) mc ms M_X11_splits 132 [cA 81, cI l1, cI l2, cI l3, cI l4, cU] [cI r1, cI (C 81 18), cA 90] S C2 Q
  refine wp_if_eq (nx := 135) (tg := 145) dX11_splits_132 rfl rfl (fun hc => ?_) (fun hc => ?_)
  · have h := h.1 hc
    refine wp_iload_n (nx := 146) dX11_splits_145 rfl rfl ?_
    refine wp_invS (nx := 149) (N := M_X11_isDigit) (as := [cI l3]) (st := [cI (C 81 18), cA 90]) (mc := 0) (ms := 0) (mc' := mc) (ms' := ms) dX11_splits_146 rfl mok_X11_isDigit kM_X11_167 ks_X11_isDigit rfl rfl (leB rfl) (leB rfl) (z0 _) (z0 _) (Wp.mono h ?_)
    intro r3 Sq C4 h
    obtain ⟨e9, h⟩ := h
    rw [e9]
    show Wp (d + 1) mc ms M_X11_splits 149 [cA 81, cI l1, cI l2, cI l3, cI l4, cU] [cI r3, cI (C 81 18), cA 90] S C4 Q
    refine wp_if_eq (nx := 152) (tg := 157) dX11_splits_149 rfl rfl (fun hc => ?_) (fun hc => ?_)
    · have h := h.1 hc
      refine wp_bipush (nx := 159) dX11_splits_157 rfl ⟨by decide, i32 (by decide)⟩ ?_
      refine wp_iload_n (nx := 160) dX11_splits_159 rfl rfl ?_
      refine wp_sipush (nx := 163) dX11_splits_160 rfl ⟨by decide, i32 (by decide)⟩ ?_
      refine wp_iand (nx := 164) dX11_splits_163 rfl ?_
      refine wp_iadd (nx := 165) dX11_splits_164 rfl ?_
      obtain ⟨hi, h⟩ := h
      refine wp_iastoreE (nx := 166) dX11_splits_165 rfl (fo_90 F) (fl_90 F) hi (ft_90 F) ?_
      refine wp_iload_n (nx := 167) dX11_splits_166 rfl rfl ?_
      refine wp_istore (nx := 169) dX11_splits_167 rfl (by decide) ?_
      refine wp_ls (ls2 := [cA 81, cI l1, cI l2, cI l3, cI l4, cI l2]) rfl ?_
      refine wp_fg [true, true, false, true, true, true] (ls2 := [cA 81, cI l1, cU, cI l3, cI l4, cI l2]) rfl ?_
      exact h
    · have h := h.2 hc
      refine wp_bipush (nx := 154) dX11_splits_152 rfl ⟨by decide, i32 (by decide)⟩ ?_
      refine wp_goto (nx := 165) dX11_splits_154 rfl ?_
      obtain ⟨hi, h⟩ := h
      refine wp_iastoreE (nx := 166) dX11_splits_165 rfl (fo_90 F) (fl_90 F) hi (ft_90 F) ?_
      refine wp_iload_n (nx := 167) dX11_splits_166 rfl rfl ?_
      refine wp_istore (nx := 169) dX11_splits_167 rfl (by decide) ?_
      refine wp_ls (ls2 := [cA 81, cI l1, cI l2, cI l3, cI l4, cI l2]) rfl ?_
      refine wp_fg [true, true, false, true, true, true] (ls2 := [cA 81, cI l1, cU, cI l3, cI l4, cI l2]) rfl ?_
      exact h
  · have h := h.2 hc
    refine wp_aload_n (nx := 136) dX11_splits_135 rfl rfl ?_
    refine wp_iload_n (nx := 137) dX11_splits_136 rfl rfl ?_
    refine wp_iload (nx := 139) dX11_splits_137 rfl rfl ?_
    refine wp_invV (nx := 142) (N := M_X11_wordOf) (as := [cI l2, cI l4]) (st := [cI (C 81 18), cA 90]) (mc := 0) (ms := 0) (mc' := mc) (ms' := ms) (a := 81) clsX11 dX11_splits_139 rfl mok_X11_wordOf kM_X11_170 ki_X11_wordOf ke_X11_wordOf (fo_81 F) (ft_81 F) rfl rfl (leB rfl) (leB rfl) (z0 _) (z0 _) (Wp.mono h ?_)
    intro r5 Sq C6 h
    obtain ⟨e9, h⟩ := h
    rw [e9]
    show Wp (d + 1) mc ms M_X11_splits 142 [cA 81, cI l1, cI l2, cI l3, cI l4, cU] [cI r5, cI (C 81 18), cA 90] S C6 Q
    refine wp_goto (nx := 165) dX11_splits_142 rfl ?_
    obtain ⟨hi, h⟩ := h
    refine wp_iastoreE (nx := 166) dX11_splits_165 rfl (fo_90 F) (fl_90 F) hi (ft_90 F) ?_
    refine wp_iload_n (nx := 167) dX11_splits_166 rfl rfl ?_
    refine wp_istore (nx := 169) dX11_splits_167 rfl (by decide) ?_
    refine wp_ls (ls2 := [cA 81, cI l1, cI l2, cI l3, cI l4, cI l2]) rfl ?_
    refine wp_fg [true, true, false, true, true, true] (ls2 := [cA 81, cI l1, cU, cI l3, cI l4, cI l2]) rfl ?_
    exact h
theorem b_X11_splits_75 {d mc ms : Nat} {l1 l2 l3 l4 : Int} {S : MS} {C : MC} {Q : Int → MS → MC → Prop} (F : Fix S) (h : ((l1 ≤ l4 → K_X11_splits_100 (d + 1) mc ms l1 l2 l3 l4 S C Q) ∧ (¬ l1 ≤ l4 → ((0 : Int) ≤ l4 ∧ l4 < 400) ∧ K_X11_isDigit_0 d 0 0 (C 88 l4) S C (fun r1 Sq C2 => Sq = S ∧ ((r1 = 0 → K_X11_splits_100 (d + 1) mc ms l1 l2 l3 l4 S C2 Q) ∧ (¬ r1 = 0 → K_X11_splits_75 (d + 1) mc ms l1 l2 l3 (w32 (l4 + 1)) S C2 Q)))))) : K_X11_splits_75 (d + 1) mc ms l1 l2 l3 l4 S C Q := by
  show Wp (d + 1) mc ms M_X11_splits 75 [cA 81, cI l1, cI l2, cI l3, cI l4, cU] [] S C Q
  refine wp_iload (nx := 77) dX11_splits_75 rfl rfl ?_
  refine wp_iload_n (nx := 78) dX11_splits_77 rfl rfl ?_
  refine wp_icmp_ge (nx := 81) (tg := 100) dX11_splits_78 rfl rfl (fun hc => ?_) (fun hc => ?_)
  · have h := h.1 hc
    exact h
  · have h := h.2 hc
    refine wp_aload_n (nx := 82) dX11_splits_81 rfl rfl ?_
    refine wp_getAe (kk := 11) (nx := 85) clsX11 dX11_splits_82 rfl kF_X11_45 (by decide) (fo_81 F) (ft_81 F) rfl (fp_81_11 F) ?_
    refine wp_iload (nx := 87) dX11_splits_85 rfl rfl ?_
    obtain ⟨hi, h⟩ := h
    refine wp_baloadE (nx := 88) dX11_splits_87 rfl (fo_88 F) (fl_88 F) hi (ft_88 F) rfl ?_
    refine wp_invS (nx := 91) (N := M_X11_isDigit) (as := [cI (C 88 l4)]) (st := []) (mc := 0) (ms := 0) (mc' := mc) (ms' := ms) dX11_splits_88 rfl mok_X11_isDigit kM_X11_167 ks_X11_isDigit rfl rfl (leB rfl) (leB rfl) (z0 _) (z0 _) (Wp.mono h ?_)
    intro r1 Sq C2 h
    obtain ⟨e9, h⟩ := h
    rw [e9]
    show Wp (d + 1) mc ms M_X11_splits 91 [cA 81, cI l1, cI l2, cI l3, cI l4, cU] [cI r1] S C2 Q
    refine wp_if_eq (nx := 94) (tg := 100) dX11_splits_91 rfl rfl (fun hc => ?_) (fun hc => ?_)
    · have h := h.1 hc
      exact h
    · have h := h.2 hc
      refine wp_iinc (nx := 97) dX11_splits_94 rfl rfl (by decide) ?_
      refine wp_ls (ls2 := [cA 81, cI l1, cI l2, cI l3, cI (w32 (l4 + 1)), cU]) rfl ?_
      refine wp_goto (nx := 75) dX11_splits_97 rfl ?_
      exact h
theorem b_X11_splits_43 {d mc ms : Nat} {l1 l2 l3 l4 : Int} {S : MS} {C : MC} {Q : Int → MS → MC → Prop} (F : Fix S) (h : ((l1 ≤ l4 → K_X11_isDigit_0 d 0 0 l3 S C (fun r1 Sq C2 => Sq = S ∧ ((r1 = 0 → K_X11_splits_100 (d + 1) mc ms l1 l2 l3 l4 S C2 Q) ∧ (¬ r1 = 0 → K_X11_splits_75 (d + 1) mc ms l1 l2 l3 l4 S C2 Q)))) ∧ (¬ l1 ≤ l4 → ((0 : Int) ≤ l4 ∧ l4 < 400) ∧ K_X11_isSmall_0 d 0 0 (C 88 l4) S C (fun r3 Sq C4 => Sq = S ∧ ((r3 = 0 → K_X11_isDigit_0 d 0 0 l3 S C4 (fun r5 Sq C6 => Sq = S ∧ ((r5 = 0 → K_X11_splits_100 (d + 1) mc ms l1 l2 l3 l4 S C6 Q) ∧ (¬ r5 = 0 → K_X11_splits_75 (d + 1) mc ms l1 l2 l3 l4 S C6 Q)))) ∧ (¬ r3 = 0 → K_X11_splits_43 (d + 1) mc ms l1 l2 l3 (w32 (l4 + 1)) S C4 Q)))))) : K_X11_splits_43 (d + 1) mc ms l1 l2 l3 l4 S C Q := by
  show Wp (d + 1) mc ms M_X11_splits 43 [cA 81, cI l1, cI l2, cI l3, cI l4, cU] [] S C Q
  refine wp_iload (nx := 45) dX11_splits_43 rfl rfl ?_
  refine wp_iload_n (nx := 46) dX11_splits_45 rfl rfl ?_
  refine wp_icmp_ge (nx := 49) (tg := 68) dX11_splits_46 rfl rfl (fun hc => ?_) (fun hc => ?_)
  · have h := h.1 hc
    refine wp_iload_n (nx := 69) dX11_splits_68 rfl rfl ?_
    refine wp_invS (nx := 72) (N := M_X11_isDigit) (as := [cI l3]) (st := []) (mc := 0) (ms := 0) (mc' := mc) (ms' := ms) dX11_splits_69 rfl mok_X11_isDigit kM_X11_167 ks_X11_isDigit rfl rfl (leB rfl) (leB rfl) (z0 _) (z0 _) (Wp.mono h ?_)
    intro r1 Sq C2 h
    obtain ⟨e9, h⟩ := h
    rw [e9]
    show Wp (d + 1) mc ms M_X11_splits 72 [cA 81, cI l1, cI l2, cI l3, cI l4, cU] [cI r1] S C2 Q
    refine wp_if_eq (nx := 75) (tg := 100) dX11_splits_72 rfl rfl (fun hc => ?_) (fun hc => ?_)
    · have h := h.1 hc
      exact h
    · have h := h.2 hc
      exact h
  · have h := h.2 hc
    refine wp_aload_n (nx := 50) dX11_splits_49 rfl rfl ?_
    refine wp_getAe (kk := 11) (nx := 53) clsX11 dX11_splits_50 rfl kF_X11_45 (by decide) (fo_81 F) (ft_81 F) rfl (fp_81_11 F) ?_
    refine wp_iload (nx := 55) dX11_splits_53 rfl rfl ?_
    obtain ⟨hi, h⟩ := h
    refine wp_baloadE (nx := 56) dX11_splits_55 rfl (fo_88 F) (fl_88 F) hi (ft_88 F) rfl ?_
    refine wp_invS (nx := 59) (N := M_X11_isSmall) (as := [cI (C 88 l4)]) (st := []) (mc := 0) (ms := 0) (mc' := mc) (ms' := ms) dX11_splits_56 rfl mok_X11_isSmall kM_X11_164 ks_X11_isSmall rfl rfl (leB rfl) (leB rfl) (z0 _) (z0 _) (Wp.mono h ?_)
    intro r3 Sq C4 h
    obtain ⟨e9, h⟩ := h
    rw [e9]
    show Wp (d + 1) mc ms M_X11_splits 59 [cA 81, cI l1, cI l2, cI l3, cI l4, cU] [cI r3] S C4 Q
    refine wp_if_eq (nx := 62) (tg := 68) dX11_splits_59 rfl rfl (fun hc => ?_) (fun hc => ?_)
    · have h := h.1 hc
      refine wp_iload_n (nx := 69) dX11_splits_68 rfl rfl ?_
      refine wp_invS (nx := 72) (N := M_X11_isDigit) (as := [cI l3]) (st := []) (mc := 0) (ms := 0) (mc' := mc) (ms' := ms) dX11_splits_69 rfl mok_X11_isDigit kM_X11_167 ks_X11_isDigit rfl rfl (leB rfl) (leB rfl) (z0 _) (z0 _) (Wp.mono h ?_)
      intro r5 Sq C6 h
      obtain ⟨e9, h⟩ := h
      rw [e9]
      show Wp (d + 1) mc ms M_X11_splits 72 [cA 81, cI l1, cI l2, cI l3, cI l4, cU] [cI r5] S C6 Q
      refine wp_if_eq (nx := 75) (tg := 100) dX11_splits_72 rfl rfl (fun hc => ?_) (fun hc => ?_)
      · have h := h.1 hc
        exact h
      · have h := h.2 hc
        exact h
    · have h := h.2 hc
      refine wp_iinc (nx := 65) dX11_splits_62 rfl rfl (by decide) ?_
      refine wp_ls (ls2 := [cA 81, cI l1, cI l2, cI l3, cI (w32 (l4 + 1)), cU]) rfl ?_
      refine wp_goto (nx := 43) dX11_splits_65 rfl ?_
      exact h
theorem b_X11_splits_169 {d mc ms : Nat} {l1 l3 l4 l5 : Int} {S : MS} {C : MC} {Q : Int → MS → MC → Prop} (F : Fix S) (h : ((l4 ≤ l5 → K_X11_splits_7 (d + 1) mc ms l1 l4 S (upC C 81 18 (w32 ((C 81 18) + 1))) Q) ∧ (¬ l4 ≤ l5 → K_X11_isDigit_0 d 0 0 l3 S C (fun r1 Sq C2 => Sq = S ∧ ((r1 = 0 → K_X11_splits_7 (d + 1) mc ms l1 l4 S (upC C2 81 18 (w32 ((C2 81 18) + 1))) Q) ∧ (¬ r1 = 0 → ((0 : Int) ≤ C2 81 18 ∧ C2 81 18 < 401) ∧ ((C2 91 (C2 81 18) ≤ 1000000 → ((0 : Int) ≤ C2 81 18 ∧ C2 81 18 < 401) ∧ ((0 : Int) ≤ l5 ∧ l5 < 400) ∧ ((0 : Int) ≤ C2 81 18 ∧ C2 81 18 < 401) ∧ K_X11_splits_169 (d + 1) mc ms l1 l3 l4 (w32 (l5 + 1)) S (upC C2 91 (C2 81 18) (w32 ((w32 ((w32 (10 * (C2 91 (C2 81 18)))) + (C2 88 l5))) - 48))) Q) ∧ (¬ C2 91 (C2 81 18) ≤ 1000000 → ((0 : Int) ≤ C2 81 18 ∧ C2 81 18 < 401) ∧ ((0 : Int) ≤ C2 81 18 ∧ C2 81 18 < 401) ∧ K_X11_splits_169 (d + 1) mc ms l1 l3 l4 (w32 (l5 + 1)) S (upC C2 91 (C2 81 18) (C2 91 (C2 81 18))) Q)))))))) : K_X11_splits_169 (d + 1) mc ms l1 l3 l4 l5 S C Q := by
  show Wp (d + 1) mc ms M_X11_splits 169 [cA 81, cI l1, cU, cI l3, cI l4, cI l5] [] S C Q
  refine wp_iload (nx := 171) dX11_splits_169 rfl rfl ?_
  refine wp_iload (nx := 173) dX11_splits_171 rfl rfl ?_
  refine wp_icmp_ge (nx := 176) (tg := 247) dX11_splits_173 rfl rfl (fun hc => ?_) (fun hc => ?_)
  · have h := h.1 hc
    refine wp_aload_n (nx := 248) dX11_splits_247 rfl rfl ?_
    refine wp_dup (nx := 249) dX11_splits_248 rfl (k1A _) ?_
    refine wp_getIe (kk := 18) 18 (nx := 252) clsX11 dX11_splits_249 rfl kF_X11_161 (by decide) (fo_81 F) (ft_81 F) rfl rfl rfl ?_
    refine wp_iconst (nx := 253) dX11_splits_252 rfl (i32 (by decide)) ?_
    refine wp_iadd (nx := 254) dX11_splits_253 rfl ?_
    refine wp_putIe (kk := 18) 18 (nx := 257) clsX11 dX11_splits_254 rfl kF_X11_161 (by decide) (fo_81 F) (ft_81 F) rfl rfl ⟨rfl, rfl⟩ rfl ?_
    refine wp_iload (nx := 259) dX11_splits_257 rfl rfl ?_
    refine wp_istore_n (nx := 260) dX11_splits_259 rfl (by decide) ?_
    refine wp_ls (ls2 := [cA 81, cI l1, cI l4, cI l3, cI l4, cI l5]) rfl ?_
    refine wp_goto (nx := 7) dX11_splits_260 rfl ?_
    refine wp_fg [true, true, true, false, false, false] (ls2 := [cA 81, cI l1, cI l4, cU, cU, cU]) rfl ?_
    exact h
  · have h := h.2 hc
    refine wp_iload_n (nx := 177) dX11_splits_176 rfl rfl ?_
    refine wp_invS (nx := 180) (N := M_X11_isDigit) (as := [cI l3]) (st := []) (mc := 0) (ms := 0) (mc' := mc) (ms' := ms) dX11_splits_177 rfl mok_X11_isDigit kM_X11_167 ks_X11_isDigit rfl rfl (leB rfl) (leB rfl) (z0 _) (z0 _) (Wp.mono h ?_)
    intro r1 Sq C2 h
    obtain ⟨e9, h⟩ := h
    rw [e9]
    show Wp (d + 1) mc ms M_X11_splits 180 [cA 81, cI l1, cU, cI l3, cI l4, cI l5] [cI r1] S C2 Q
    refine wp_if_eq (nx := 183) (tg := 247) dX11_splits_180 rfl rfl (fun hc => ?_) (fun hc => ?_)
    · have h := h.1 hc
      refine wp_aload_n (nx := 248) dX11_splits_247 rfl rfl ?_
      refine wp_dup (nx := 249) dX11_splits_248 rfl (k1A _) ?_
      refine wp_getIe (kk := 18) 18 (nx := 252) clsX11 dX11_splits_249 rfl kF_X11_161 (by decide) (fo_81 F) (ft_81 F) rfl rfl rfl ?_
      refine wp_iconst (nx := 253) dX11_splits_252 rfl (i32 (by decide)) ?_
      refine wp_iadd (nx := 254) dX11_splits_253 rfl ?_
      refine wp_putIe (kk := 18) 18 (nx := 257) clsX11 dX11_splits_254 rfl kF_X11_161 (by decide) (fo_81 F) (ft_81 F) rfl rfl ⟨rfl, rfl⟩ rfl ?_
      refine wp_iload (nx := 259) dX11_splits_257 rfl rfl ?_
      refine wp_istore_n (nx := 260) dX11_splits_259 rfl (by decide) ?_
      refine wp_ls (ls2 := [cA 81, cI l1, cI l4, cI l3, cI l4, cI l5]) rfl ?_
      refine wp_goto (nx := 7) dX11_splits_260 rfl ?_
      refine wp_fg [true, true, true, false, false, false] (ls2 := [cA 81, cI l1, cI l4, cU, cU, cU]) rfl ?_
      exact h
    · have h := h.2 hc
      refine wp_aload_n (nx := 184) dX11_splits_183 rfl rfl ?_
      refine wp_getAe (kk := 16) (nx := 187) clsX11 dX11_splits_184 rfl kF_X11_57 (by decide) (fo_81 F) (ft_81 F) rfl (fp_81_16 F) ?_
      refine wp_aload_n (nx := 188) dX11_splits_187 rfl rfl ?_
      refine wp_getIe (kk := 18) 18 (nx := 191) clsX11 dX11_splits_188 rfl kF_X11_161 (by decide) (fo_81 F) (ft_81 F) rfl rfl rfl ?_
      refine wp_aload_n (nx := 192) dX11_splits_191 rfl rfl ?_
      refine wp_getAe (kk := 16) (nx := 195) clsX11 dX11_splits_192 rfl kF_X11_57 (by decide) (fo_81 F) (ft_81 F) rfl (fp_81_16 F) ?_
      refine wp_aload_n (nx := 196) dX11_splits_195 rfl rfl ?_
      refine wp_getIe (kk := 18) 18 (nx := 199) clsX11 dX11_splits_196 rfl kF_X11_161 (by decide) (fo_81 F) (ft_81 F) rfl rfl rfl ?_
      obtain ⟨hi, h⟩ := h
      refine wp_ialoadE (nx := 200) dX11_splits_199 rfl (fo_91 F) (fl_91 F) hi (ft_91 F) rfl ?_
      refine wp_ldc (nx := 202) dX11_splits_200 rfl kI_X11_174 (i32 (by decide)) ?_
      refine wp_icmp_le (nx := 205) (tg := 217) dX11_splits_202 rfl rfl (fun hc => ?_) (fun hc => ?_)
      · have h := h.1 hc
        refine wp_bipush (nx := 219) dX11_splits_217 rfl ⟨by decide, i32 (by decide)⟩ ?_
        refine wp_aload_n (nx := 220) dX11_splits_219 rfl rfl ?_
        refine wp_getAe (kk := 16) (nx := 223) clsX11 dX11_splits_220 rfl kF_X11_57 (by decide) (fo_81 F) (ft_81 F) rfl (fp_81_16 F) ?_
        refine wp_aload_n (nx := 224) dX11_splits_223 rfl rfl ?_
        refine wp_getIe (kk := 18) 18 (nx := 227) clsX11 dX11_splits_224 rfl kF_X11_161 (by decide) (fo_81 F) (ft_81 F) rfl rfl rfl ?_
        obtain ⟨hi, h⟩ := h
        refine wp_ialoadE (nx := 228) dX11_splits_227 rfl (fo_91 F) (fl_91 F) hi (ft_91 F) rfl ?_
        refine wp_imul (nx := 229) dX11_splits_228 rfl ?_
        refine wp_aload_n (nx := 230) dX11_splits_229 rfl rfl ?_
        refine wp_getAe (kk := 11) (nx := 233) clsX11 dX11_splits_230 rfl kF_X11_45 (by decide) (fo_81 F) (ft_81 F) rfl (fp_81_11 F) ?_
        refine wp_iload (nx := 235) dX11_splits_233 rfl rfl ?_
        obtain ⟨hi, h⟩ := h
        refine wp_baloadE (nx := 236) dX11_splits_235 rfl (fo_88 F) (fl_88 F) hi (ft_88 F) rfl ?_
        refine wp_iadd (nx := 237) dX11_splits_236 rfl ?_
        refine wp_bipush (nx := 239) dX11_splits_237 rfl ⟨by decide, i32 (by decide)⟩ ?_
        refine wp_isub (nx := 240) dX11_splits_239 rfl ?_
        obtain ⟨hi, h⟩ := h
        refine wp_iastoreE (nx := 241) dX11_splits_240 rfl (fo_91 F) (fl_91 F) hi (ft_91 F) ?_
        refine wp_iinc (nx := 244) dX11_splits_241 rfl rfl (by decide) ?_
        refine wp_ls (ls2 := [cA 81, cI l1, cU, cI l3, cI l4, cI (w32 (l5 + 1))]) rfl ?_
        refine wp_goto (nx := 169) dX11_splits_244 rfl ?_
        exact h
      · have h := h.2 hc
        refine wp_aload_n (nx := 206) dX11_splits_205 rfl rfl ?_
        refine wp_getAe (kk := 16) (nx := 209) clsX11 dX11_splits_206 rfl kF_X11_57 (by decide) (fo_81 F) (ft_81 F) rfl (fp_81_16 F) ?_
        refine wp_aload_n (nx := 210) dX11_splits_209 rfl rfl ?_
        refine wp_getIe (kk := 18) 18 (nx := 213) clsX11 dX11_splits_210 rfl kF_X11_161 (by decide) (fo_81 F) (ft_81 F) rfl rfl rfl ?_
        obtain ⟨hi, h⟩ := h
        refine wp_ialoadE (nx := 214) dX11_splits_213 rfl (fo_91 F) (fl_91 F) hi (ft_91 F) rfl ?_
        refine wp_goto (nx := 240) dX11_splits_214 rfl ?_
        obtain ⟨hi, h⟩ := h
        refine wp_iastoreE (nx := 241) dX11_splits_240 rfl (fo_91 F) (fl_91 F) hi (ft_91 F) ?_
        refine wp_iinc (nx := 244) dX11_splits_241 rfl rfl (by decide) ?_
        refine wp_ls (ls2 := [cA 81, cI l1, cU, cI l3, cI l4, cI (w32 (l5 + 1))]) rfl ?_
        refine wp_goto (nx := 169) dX11_splits_244 rfl ?_
        exact h
theorem b_X11_fine_0 {d mc ms : Nat} {S : MS} {C : MC} {Q : Int → MS → MC → Prop} (F : Fix S) (h : ((¬ C 81 21 = (-1) → Q 0 S C) ∧ (C 81 21 = (-1) → Q 1 S C))) : K_X11_fine_0 d mc ms S C Q := by
  show Wp d mc ms M_X11_fine 0 [cA 81] [] S C Q
  refine wp_aload_n (nx := 1) dX11_fine_0 rfl rfl ?_
  refine wp_getIe (kk := 21) 21 (nx := 4) clsX11 dX11_fine_1 rfl kF_X11_175 (by decide) (fo_81 F) (ft_81 F) rfl rfl rfl ?_
  refine wp_iconst (nx := 5) dX11_fine_4 rfl (i32 (by decide)) ?_
  refine wp_icmp_ne (nx := 8) (tg := 12) dX11_fine_5 rfl rfl (fun hc => ?_) (fun hc => ?_)
  · have h := h.1 hc
    refine wp_iconst (nx := 13) dX11_fine_12 rfl (i32 (by decide)) ?_
    exact wp_ireturn dX11_fine_13 rfl rfl (nz_of (Or.inl rfl)) h
  · have h := h.2 hc
    refine wp_iconst (nx := 9) dX11_fine_8 rfl (i32 (by decide)) ?_
    refine wp_goto (nx := 13) dX11_fine_9 rfl ?_
    exact wp_ireturn dX11_fine_13 rfl rfl (nz_of (Or.inr rfl)) h
theorem b_X11_faults_0 {d mc ms : Nat} {S : MS} {C : MC} {Q : Int → MS → MC → Prop} (F : Fix S) (h : K_X11_fine_0 d 0 0 S C (fun r1 Sq C2 => Sq = S ∧ ((r1 = 0 → Q 0 S C2) ∧ (¬ r1 = 0 → ((0 : Int) ≤ C2 81 19 ∧ C2 81 19 < 401) ∧ Q 0 S (upC C2 81 21 (C2 92 (C2 81 19))))))) : K_X11_faults_0 (d + 1) mc ms S C Q := by
  show Wp (d + 1) mc ms M_X11_faults 0 [cA 81] [] S C Q
  refine wp_aload_n (nx := 1) dX11_faults_0 rfl rfl ?_
  refine wp_invV (nx := 4) (N := M_X11_fine) (as := []) (st := []) (mc := 0) (ms := 0) (mc' := mc) (ms' := ms) (a := 81) clsX11 dX11_faults_1 rfl mok_X11_fine kM_X11_178 ki_X11_fine ke_X11_fine (fo_81 F) (ft_81 F) rfl rfl (leB rfl) (leB rfl) (z0 _) (z0 _) (Wp.mono h ?_)
  intro r1 Sq C2 h
  obtain ⟨e9, h⟩ := h
  rw [e9]
  show Wp (d + 1) mc ms M_X11_faults 4 [cA 81] [cI r1] S C2 Q
  refine wp_if_eq (nx := 7) (tg := 20) dX11_faults_4 rfl rfl (fun hc => ?_) (fun hc => ?_)
  · have h := h.1 hc
    exact wp_return dX11_faults_20 rfl h
  · have h := h.2 hc
    refine wp_aload_n (nx := 8) dX11_faults_7 rfl rfl ?_
    refine wp_aload_n (nx := 9) dX11_faults_8 rfl rfl ?_
    refine wp_getAe (kk := 17) (nx := 12) clsX11 dX11_faults_9 rfl kF_X11_60 (by decide) (fo_81 F) (ft_81 F) rfl (fp_81_17 F) ?_
    refine wp_aload_n (nx := 13) dX11_faults_12 rfl rfl ?_
    refine wp_getIe (kk := 19) 19 (nx := 16) clsX11 dX11_faults_13 rfl kF_X11_182 (by decide) (fo_81 F) (ft_81 F) rfl rfl rfl ?_
    obtain ⟨hi, h⟩ := h
    refine wp_ialoadE (nx := 17) dX11_faults_16 rfl (fo_92 F) (fl_92 F) hi (ft_92 F) rfl ?_
    refine wp_putIe (kk := 21) 21 (nx := 20) clsX11 dX11_faults_17 rfl kF_X11_175 (by decide) (fo_81 F) (ft_81 F) rfl rfl ⟨rfl, rfl⟩ rfl ?_
    exact wp_return dX11_faults_20 rfl h
theorem b_X11_takes0_0 {d mc ms : Nat} {l1 : Int} {S : MS} {C : MC} {Q : Int → MS → MC → Prop} (F : Fix S) (h : K_X11_fine_0 d 0 0 S C (fun r1 Sq C2 => Sq = S ∧ ((r1 = 0 → (((0 : Int) = 0 → Q 0 S C2) ∧ (¬ (0 : Int) = 0 → Q 0 S (upC C2 81 19 (w32 ((C2 81 19) + 1)))))) ∧ (¬ r1 = 0 → ((0 : Int) ≤ C2 81 19 ∧ C2 81 19 < 401) ∧ ((¬ C2 90 (C2 81 19) = l1 → (((0 : Int) = 0 → Q 0 S C2) ∧ (¬ (0 : Int) = 0 → Q 0 S (upC C2 81 19 (w32 ((C2 81 19) + 1)))))) ∧ (C2 90 (C2 81 19) = l1 → (((1 : Int) = 0 → Q 1 S C2) ∧ (¬ (1 : Int) = 0 → Q 1 S (upC C2 81 19 (w32 ((C2 81 19) + 1))))))))))) : K_X11_takes0_0 (d + 1) mc ms l1 S C Q := by
  show Wp (d + 1) mc ms M_X11_takes0 0 [cA 81, cI l1, cU] [] S C Q
  refine wp_aload_n (nx := 1) dX11_takes0_0 rfl rfl ?_
  refine wp_invV (nx := 4) (N := M_X11_fine) (as := []) (st := []) (mc := 0) (ms := 0) (mc' := mc) (ms' := ms) (a := 81) clsX11 dX11_takes0_1 rfl mok_X11_fine kM_X11_178 ki_X11_fine ke_X11_fine (fo_81 F) (ft_81 F) rfl rfl (leB rfl) (leB rfl) (z0 _) (z0 _) (Wp.mono h ?_)
  intro r1 Sq C2 h
  obtain ⟨e9, h⟩ := h
  rw [e9]
  show Wp (d + 1) mc ms M_X11_takes0 4 [cA 81, cI l1, cU] [cI r1] S C2 Q
  refine wp_if_eq (nx := 7) (tg := 24) dX11_takes0_4 rfl rfl (fun hc => ?_) (fun hc => ?_)
  · have h := h.1 hc
    refine wp_iconst (nx := 25) dX11_takes0_24 rfl (i32 (by decide)) ?_
    refine wp_istore_n (nx := 26) dX11_takes0_25 rfl (by decide) ?_
    refine wp_ls (ls2 := [cA 81, cI l1, cI 0]) rfl ?_
    refine wp_iload_n (nx := 27) dX11_takes0_26 rfl rfl ?_
    refine wp_if_eq (nx := 30) (tg := 40) dX11_takes0_27 rfl rfl (fun hc => ?_) (fun hc => ?_)
    · have h := h.1 hc
      refine wp_iload_n (nx := 41) dX11_takes0_40 rfl rfl ?_
      exact wp_ireturn dX11_takes0_41 rfl rfl (nz_of (Or.inl rfl)) h
    · have h := h.2 hc
      refine wp_aload_n (nx := 31) dX11_takes0_30 rfl rfl ?_
      refine wp_dup (nx := 32) dX11_takes0_31 rfl (k1A _) ?_
      refine wp_getIe (kk := 19) 19 (nx := 35) clsX11 dX11_takes0_32 rfl kF_X11_182 (by decide) (fo_81 F) (ft_81 F) rfl rfl rfl ?_
      refine wp_iconst (nx := 36) dX11_takes0_35 rfl (i32 (by decide)) ?_
      refine wp_iadd (nx := 37) dX11_takes0_36 rfl ?_
      refine wp_putIe (kk := 19) 19 (nx := 40) clsX11 dX11_takes0_37 rfl kF_X11_182 (by decide) (fo_81 F) (ft_81 F) rfl rfl ⟨rfl, rfl⟩ rfl ?_
      refine wp_iload_n (nx := 41) dX11_takes0_40 rfl rfl ?_
      exact wp_ireturn dX11_takes0_41 rfl rfl (nz_of (Or.inl rfl)) h
  · have h := h.2 hc
    refine wp_aload_n (nx := 8) dX11_takes0_7 rfl rfl ?_
    refine wp_getAe (kk := 15) (nx := 11) clsX11 dX11_takes0_8 rfl kF_X11_54 (by decide) (fo_81 F) (ft_81 F) rfl (fp_81_15 F) ?_
    refine wp_aload_n (nx := 12) dX11_takes0_11 rfl rfl ?_
    refine wp_getIe (kk := 19) 19 (nx := 15) clsX11 dX11_takes0_12 rfl kF_X11_182 (by decide) (fo_81 F) (ft_81 F) rfl rfl rfl ?_
    obtain ⟨hi, h⟩ := h
    refine wp_ialoadE (nx := 16) dX11_takes0_15 rfl (fo_90 F) (fl_90 F) hi (ft_90 F) rfl ?_
    refine wp_iload_n (nx := 17) dX11_takes0_16 rfl rfl ?_
    refine wp_icmp_ne (nx := 20) (tg := 24) dX11_takes0_17 rfl rfl (fun hc => ?_) (fun hc => ?_)
    · have h := h.1 hc
      refine wp_iconst (nx := 25) dX11_takes0_24 rfl (i32 (by decide)) ?_
      refine wp_istore_n (nx := 26) dX11_takes0_25 rfl (by decide) ?_
      refine wp_ls (ls2 := [cA 81, cI l1, cI 0]) rfl ?_
      refine wp_iload_n (nx := 27) dX11_takes0_26 rfl rfl ?_
      refine wp_if_eq (nx := 30) (tg := 40) dX11_takes0_27 rfl rfl (fun hc => ?_) (fun hc => ?_)
      · have h := h.1 hc
        refine wp_iload_n (nx := 41) dX11_takes0_40 rfl rfl ?_
        exact wp_ireturn dX11_takes0_41 rfl rfl (nz_of (Or.inl rfl)) h
      · have h := h.2 hc
        refine wp_aload_n (nx := 31) dX11_takes0_30 rfl rfl ?_
        refine wp_dup (nx := 32) dX11_takes0_31 rfl (k1A _) ?_
        refine wp_getIe (kk := 19) 19 (nx := 35) clsX11 dX11_takes0_32 rfl kF_X11_182 (by decide) (fo_81 F) (ft_81 F) rfl rfl rfl ?_
        refine wp_iconst (nx := 36) dX11_takes0_35 rfl (i32 (by decide)) ?_
        refine wp_iadd (nx := 37) dX11_takes0_36 rfl ?_
        refine wp_putIe (kk := 19) 19 (nx := 40) clsX11 dX11_takes0_37 rfl kF_X11_182 (by decide) (fo_81 F) (ft_81 F) rfl rfl ⟨rfl, rfl⟩ rfl ?_
        refine wp_iload_n (nx := 41) dX11_takes0_40 rfl rfl ?_
        exact wp_ireturn dX11_takes0_41 rfl rfl (nz_of (Or.inl rfl)) h
    · have h := h.2 hc
      refine wp_iconst (nx := 21) dX11_takes0_20 rfl (i32 (by decide)) ?_
      refine wp_goto (nx := 25) dX11_takes0_21 rfl ?_
      refine wp_istore_n (nx := 26) dX11_takes0_25 rfl (by decide) ?_
      refine wp_ls (ls2 := [cA 81, cI l1, cI 1]) rfl ?_
      refine wp_iload_n (nx := 27) dX11_takes0_26 rfl rfl ?_
      refine wp_if_eq (nx := 30) (tg := 40) dX11_takes0_27 rfl rfl (fun hc => ?_) (fun hc => ?_)
      · have h := h.1 hc
        refine wp_iload_n (nx := 41) dX11_takes0_40 rfl rfl ?_
        exact wp_ireturn dX11_takes0_41 rfl rfl (nz_of (Or.inr rfl)) h
      · have h := h.2 hc
        refine wp_aload_n (nx := 31) dX11_takes0_30 rfl rfl ?_
        refine wp_dup (nx := 32) dX11_takes0_31 rfl (k1A _) ?_
        refine wp_getIe (kk := 19) 19 (nx := 35) clsX11 dX11_takes0_32 rfl kF_X11_182 (by decide) (fo_81 F) (ft_81 F) rfl rfl rfl ?_
        refine wp_iconst (nx := 36) dX11_takes0_35 rfl (i32 (by decide)) ?_
        refine wp_iadd (nx := 37) dX11_takes0_36 rfl ?_
        refine wp_putIe (kk := 19) 19 (nx := 40) clsX11 dX11_takes0_37 rfl kF_X11_182 (by decide) (fo_81 F) (ft_81 F) rfl rfl ⟨rfl, rfl⟩ rfl ?_
        refine wp_iload_n (nx := 41) dX11_takes0_40 rfl rfl ?_
        exact wp_ireturn dX11_takes0_41 rfl rfl (nz_of (Or.inr rfl)) h
theorem b_X11_must_0 {d mc ms : Nat} {l1 : Int} {S : MS} {C : MC} {Q : Int → MS → MC → Prop} (F : Fix S) (h : K_X11_takes0_0 d 0 0 l1 S C (fun r1 Sq C2 => Sq = S ∧ ((¬ r1 = 0 → Q 0 S C2) ∧ (r1 = 0 → K_X11_faults_0 d 0 0 S C2 (fun r3 Sq C4 => Sq = S ∧ Q 0 S C4))))) : K_X11_must_0 (d + 1) mc ms l1 S C Q := by
  show Wp (d + 1) mc ms M_X11_must 0 [cA 81, cI l1] [] S C Q
  refine wp_aload_n (nx := 1) dX11_must_0 rfl rfl ?_
  refine wp_iload_n (nx := 2) dX11_must_1 rfl rfl ?_
  refine wp_invV (nx := 5) (N := M_X11_takes0) (as := [cI l1]) (st := []) (mc := 0) (ms := 0) (mc' := mc) (ms' := ms) (a := 81) clsX11 dX11_must_2 rfl mok_X11_takes0 kM_X11_185 ki_X11_takes0 ke_X11_takes0 (fo_81 F) (ft_81 F) rfl rfl (leB rfl) (leB rfl) (z0 _) (z0 _) (Wp.mono h ?_)
  intro r1 Sq C2 h
  obtain ⟨e9, h⟩ := h
  rw [e9]
  show Wp (d + 1) mc ms M_X11_must 5 [cA 81, cI l1] [cI r1] S C2 Q
  refine wp_if_ne (nx := 8) (tg := 12) dX11_must_5 rfl rfl (fun hc => ?_) (fun hc => ?_)
  · have h := h.1 hc
    exact wp_return dX11_must_12 rfl h
  · have h := h.2 hc
    refine wp_aload_n (nx := 9) dX11_must_8 rfl rfl ?_
    refine wp_invV (nx := 12) (N := M_X11_faults) (as := []) (st := []) (mc := 0) (ms := 0) (mc' := mc) (ms' := ms) (a := 81) clsX11 dX11_must_9 rfl mok_X11_faults kM_X11_188 ki_X11_faults ke_X11_faults (fo_81 F) (ft_81 F) rfl rfl (leB rfl) (leB rfl) (z0 _) (z0 _) (Wp.mono h ?_)
    intro r3 Sq C4 h
    obtain ⟨e9, h⟩ := h
    rw [e9]
    show Wp (d + 1) mc ms M_X11_must 12 [cA 81, cI l1] [] S C4 Q
    exact wp_return dX11_must_12 rfl h
theorem b_X11_leaf_0 {d mc ms : Nat} {S : MS} {C : MC} {Q : Int → MS → MC → Prop} (F : Fix S) (h : ((¬ C 81 20 = 50 → K_X11_fine_0 d 0 0 S ((upC C 81 20 (w32 ((C 81 20) + 1)))) (fun r1 Sq C2 => Sq = S ∧ ((r1 = 0 → Q 0 S C2) ∧ (¬ r1 = 0 → Q 0 S (upC C2 81 19 (w32 ((C2 81 19) + 1))))))) ∧ (C 81 20 = 50 → K_X11_faults_0 d 0 0 S C (fun r3 Sq C4 => Sq = S ∧ K_X11_fine_0 d 0 0 S ((upC C4 81 20 (w32 ((C4 81 20) + 1)))) (fun r5 Sq C6 => Sq = S ∧ ((r5 = 0 → Q 0 S C6) ∧ (¬ r5 = 0 → Q 0 S (upC C6 81 19 (w32 ((C6 81 19) + 1)))))))))) : K_X11_leaf_0 (d + 1) mc ms S C Q := by
  show Wp (d + 1) mc ms M_X11_leaf 0 [cA 81] [] S C Q
  refine wp_aload_n (nx := 1) dX11_leaf_0 rfl rfl ?_
  refine wp_getIe (kk := 20) 20 (nx := 4) clsX11 dX11_leaf_1 rfl kF_X11_191 (by decide) (fo_81 F) (ft_81 F) rfl rfl rfl ?_
  refine wp_bipush (nx := 6) dX11_leaf_4 rfl ⟨by decide, i32 (by decide)⟩ ?_
  refine wp_icmp_ne (nx := 9) (tg := 13) dX11_leaf_6 rfl rfl (fun hc => ?_) (fun hc => ?_)
  · have h := h.1 hc
    refine wp_aload_n (nx := 14) dX11_leaf_13 rfl rfl ?_
    refine wp_dup (nx := 15) dX11_leaf_14 rfl (k1A _) ?_
    refine wp_getIe (kk := 20) 20 (nx := 18) clsX11 dX11_leaf_15 rfl kF_X11_191 (by decide) (fo_81 F) (ft_81 F) rfl rfl rfl ?_
    refine wp_iconst (nx := 19) dX11_leaf_18 rfl (i32 (by decide)) ?_
    refine wp_iadd (nx := 20) dX11_leaf_19 rfl ?_
    refine wp_putIe (kk := 20) 20 (nx := 23) clsX11 dX11_leaf_20 rfl kF_X11_191 (by decide) (fo_81 F) (ft_81 F) rfl rfl ⟨rfl, rfl⟩ rfl ?_
    refine wp_aload_n (nx := 24) dX11_leaf_23 rfl rfl ?_
    refine wp_invV (nx := 27) (N := M_X11_fine) (as := []) (st := []) (mc := 0) (ms := 0) (mc' := mc) (ms' := ms) (a := 81) clsX11 dX11_leaf_24 rfl mok_X11_fine kM_X11_178 ki_X11_fine ke_X11_fine (fo_81 F) (ft_81 F) rfl rfl (leB rfl) (leB rfl) (z0 _) (z0 _) (Wp.mono h ?_)
    intro r1 Sq C2 h
    obtain ⟨e9, h⟩ := h
    rw [e9]
    show Wp (d + 1) mc ms M_X11_leaf 27 [cA 81] [cI r1] S C2 Q
    refine wp_if_eq (nx := 30) (tg := 40) dX11_leaf_27 rfl rfl (fun hc => ?_) (fun hc => ?_)
    · have h := h.1 hc
      exact wp_return dX11_leaf_40 rfl h
    · have h := h.2 hc
      refine wp_aload_n (nx := 31) dX11_leaf_30 rfl rfl ?_
      refine wp_dup (nx := 32) dX11_leaf_31 rfl (k1A _) ?_
      refine wp_getIe (kk := 19) 19 (nx := 35) clsX11 dX11_leaf_32 rfl kF_X11_182 (by decide) (fo_81 F) (ft_81 F) rfl rfl rfl ?_
      refine wp_iconst (nx := 36) dX11_leaf_35 rfl (i32 (by decide)) ?_
      refine wp_iadd (nx := 37) dX11_leaf_36 rfl ?_
      refine wp_putIe (kk := 19) 19 (nx := 40) clsX11 dX11_leaf_37 rfl kF_X11_182 (by decide) (fo_81 F) (ft_81 F) rfl rfl ⟨rfl, rfl⟩ rfl ?_
      exact wp_return dX11_leaf_40 rfl h
  · have h := h.2 hc
    refine wp_aload_n (nx := 10) dX11_leaf_9 rfl rfl ?_
    refine wp_invV (nx := 13) (N := M_X11_faults) (as := []) (st := []) (mc := 0) (ms := 0) (mc' := mc) (ms' := ms) (a := 81) clsX11 dX11_leaf_10 rfl mok_X11_faults kM_X11_188 ki_X11_faults ke_X11_faults (fo_81 F) (ft_81 F) rfl rfl (leB rfl) (leB rfl) (z0 _) (z0 _) (Wp.mono h ?_)
    intro r3 Sq C4 h
    obtain ⟨e9, h⟩ := h
    rw [e9]
    show Wp (d + 1) mc ms M_X11_leaf 13 [cA 81] [] S C4 Q
    refine wp_aload_n (nx := 14) dX11_leaf_13 rfl rfl ?_
    refine wp_dup (nx := 15) dX11_leaf_14 rfl (k1A _) ?_
    refine wp_getIe (kk := 20) 20 (nx := 18) clsX11 dX11_leaf_15 rfl kF_X11_191 (by decide) (fo_81 F) (ft_81 F) rfl rfl rfl ?_
    refine wp_iconst (nx := 19) dX11_leaf_18 rfl (i32 (by decide)) ?_
    refine wp_iadd (nx := 20) dX11_leaf_19 rfl ?_
    refine wp_putIe (kk := 20) 20 (nx := 23) clsX11 dX11_leaf_20 rfl kF_X11_191 (by decide) (fo_81 F) (ft_81 F) rfl rfl ⟨rfl, rfl⟩ rfl ?_
    refine wp_aload_n (nx := 24) dX11_leaf_23 rfl rfl ?_
    refine wp_invV (nx := 27) (N := M_X11_fine) (as := []) (st := []) (mc := 0) (ms := 0) (mc' := mc) (ms' := ms) (a := 81) clsX11 dX11_leaf_24 rfl mok_X11_fine kM_X11_178 ki_X11_fine ke_X11_fine (fo_81 F) (ft_81 F) rfl rfl (leB rfl) (leB rfl) (z0 _) (z0 _) (Wp.mono h ?_)
    intro r5 Sq C6 h
    obtain ⟨e9, h⟩ := h
    rw [e9]
    show Wp (d + 1) mc ms M_X11_leaf 27 [cA 81] [cI r5] S C6 Q
    refine wp_if_eq (nx := 30) (tg := 40) dX11_leaf_27 rfl rfl (fun hc => ?_) (fun hc => ?_)
    · have h := h.1 hc
      exact wp_return dX11_leaf_40 rfl h
    · have h := h.2 hc
      refine wp_aload_n (nx := 31) dX11_leaf_30 rfl rfl ?_
      refine wp_dup (nx := 32) dX11_leaf_31 rfl (k1A _) ?_
      refine wp_getIe (kk := 19) 19 (nx := 35) clsX11 dX11_leaf_32 rfl kF_X11_182 (by decide) (fo_81 F) (ft_81 F) rfl rfl rfl ?_
      refine wp_iconst (nx := 36) dX11_leaf_35 rfl (i32 (by decide)) ?_
      refine wp_iadd (nx := 37) dX11_leaf_36 rfl ?_
      refine wp_putIe (kk := 19) 19 (nx := 40) clsX11 dX11_leaf_37 rfl kF_X11_182 (by decide) (fo_81 F) (ft_81 F) rfl rfl ⟨rfl, rfl⟩ rfl ?_
      exact wp_return dX11_leaf_40 rfl h
theorem b_X11_sign_0 {d mc ms : Nat} {l0 : Int} {S : MS} {C : MC} {Q : Int → MS → MC → Prop} (F : Fix S) (h : Q (w32 (100 + l0)) S C) : K_X11_sign_0 d mc ms l0 S C Q := by
  show Wp d mc ms M_X11_sign 0 [cI l0] [] S C Q
  refine wp_bipush (nx := 2) dX11_sign_0 rfl ⟨by decide, i32 (by decide)⟩ ?_
  refine wp_iload_n (nx := 3) dX11_sign_2 rfl rfl ?_
  refine wp_iadd (nx := 4) dX11_sign_3 rfl ?_
  exact wp_ireturn dX11_sign_4 rfl rfl rfl h
theorem b_X11_mustNumber_0 {d mc ms : Nat} {l1 l2 : Int} {S : MS} {C : MC} {Q : Int → MS → MC → Prop} (F : Fix S) (h : K_X11_fine_0 d 0 0 S C (fun r1 Sq C2 => Sq = S ∧ ((r1 = 0 → K_X11_fine_0 d 0 0 S C2 (fun r3 Sq C4 => Sq = S ∧ ((r3 = 0 → Q 0 S C4) ∧ (¬ r3 = 0 → Q 0 S (upC C4 81 19 (w32 ((C4 81 19) + 1))))))) ∧ (¬ r1 = 0 → ((0 : Int) ≤ C2 81 19 ∧ C2 81 19 < 401) ∧ ((¬ C2 90 (C2 81 19) = 50 → K_X11_faults_0 d 0 0 S C2 (fun r5 Sq C6 => Sq = S ∧ K_X11_fine_0 d 0 0 S C6 (fun r7 Sq C8 => Sq = S ∧ ((r7 = 0 → Q 0 S C8) ∧ (¬ r7 = 0 → Q 0 S (upC C8 81 19 (w32 ((C8 81 19) + 1)))))))) ∧ (C2 90 (C2 81 19) = 50 → ((0 : Int) ≤ C2 81 19 ∧ C2 81 19 < 401) ∧ K_X11_lies_0 d 0 0 (C2 91 (C2 81 19)) l1 l2 S C2 (fun r9 Sq C10 => Sq = S ∧ ((¬ r9 = 0 → K_X11_fine_0 d 0 0 S C10 (fun r11 Sq C12 => Sq = S ∧ ((r11 = 0 → Q 0 S C12) ∧ (¬ r11 = 0 → Q 0 S (upC C12 81 19 (w32 ((C12 81 19) + 1))))))) ∧ (r9 = 0 → K_X11_faults_0 d 0 0 S C10 (fun r13 Sq C14 => Sq = S ∧ K_X11_fine_0 d 0 0 S C14 (fun r15 Sq C16 => Sq = S ∧ ((r15 = 0 → Q 0 S C16) ∧ (¬ r15 = 0 → Q 0 S (upC C16 81 19 (w32 ((C16 81 19) + 1)))))))))))))))) : K_X11_mustNumber_0 (d + 1) mc ms l1 l2 S C Q := by
  show Wp (d + 1) mc ms M_X11_mustNumber 0 [cA 81, cI l1, cI l2] [] S C Q
  refine wp_aload_n (nx := 1) dX11_mustNumber_0 rfl rfl ?_
  refine wp_invV (nx := 4) (N := M_X11_fine) (as := []) (st := []) (mc := 0) (ms := 0) (mc' := mc) (ms' := ms) (a := 81) clsX11 dX11_mustNumber_1 rfl mok_X11_fine kM_X11_178 ki_X11_fine ke_X11_fine (fo_81 F) (ft_81 F) rfl rfl (leB rfl) (leB rfl) (z0 _) (z0 _) (Wp.mono h ?_)
  intro r1 Sq C2 h
  obtain ⟨e9, h⟩ := h
  rw [e9]
  show Wp (d + 1) mc ms M_X11_mustNumber 4 [cA 81, cI l1, cI l2] [cI r1] S C2 Q
  refine wp_if_eq (nx := 7) (tg := 42) dX11_mustNumber_4 rfl rfl (fun hc => ?_) (fun hc => ?_)
  · have h := h.1 hc
    refine wp_aload_n (nx := 43) dX11_mustNumber_42 rfl rfl ?_
    refine wp_invV (nx := 46) (N := M_X11_fine) (as := []) (st := []) (mc := 0) (ms := 0) (mc' := mc) (ms' := ms) (a := 81) clsX11 dX11_mustNumber_43 rfl mok_X11_fine kM_X11_178 ki_X11_fine ke_X11_fine (fo_81 F) (ft_81 F) rfl rfl (leB rfl) (leB rfl) (z0 _) (z0 _) (Wp.mono h ?_)
    intro r3 Sq C4 h
    obtain ⟨e9, h⟩ := h
    rw [e9]
    show Wp (d + 1) mc ms M_X11_mustNumber 46 [cA 81, cI l1, cI l2] [cI r3] S C4 Q
    refine wp_if_eq (nx := 49) (tg := 59) dX11_mustNumber_46 rfl rfl (fun hc => ?_) (fun hc => ?_)
    · have h := h.1 hc
      exact wp_return dX11_mustNumber_59 rfl h
    · have h := h.2 hc
      refine wp_aload_n (nx := 50) dX11_mustNumber_49 rfl rfl ?_
      refine wp_dup (nx := 51) dX11_mustNumber_50 rfl (k1A _) ?_
      refine wp_getIe (kk := 19) 19 (nx := 54) clsX11 dX11_mustNumber_51 rfl kF_X11_182 (by decide) (fo_81 F) (ft_81 F) rfl rfl rfl ?_
      refine wp_iconst (nx := 55) dX11_mustNumber_54 rfl (i32 (by decide)) ?_
      refine wp_iadd (nx := 56) dX11_mustNumber_55 rfl ?_
      refine wp_putIe (kk := 19) 19 (nx := 59) clsX11 dX11_mustNumber_56 rfl kF_X11_182 (by decide) (fo_81 F) (ft_81 F) rfl rfl ⟨rfl, rfl⟩ rfl ?_
      exact wp_return dX11_mustNumber_59 rfl h
  · have h := h.2 hc
    refine wp_aload_n (nx := 8) dX11_mustNumber_7 rfl rfl ?_
    refine wp_getAe (kk := 15) (nx := 11) clsX11 dX11_mustNumber_8 rfl kF_X11_54 (by decide) (fo_81 F) (ft_81 F) rfl (fp_81_15 F) ?_
    refine wp_aload_n (nx := 12) dX11_mustNumber_11 rfl rfl ?_
    refine wp_getIe (kk := 19) 19 (nx := 15) clsX11 dX11_mustNumber_12 rfl kF_X11_182 (by decide) (fo_81 F) (ft_81 F) rfl rfl rfl ?_
    obtain ⟨hi, h⟩ := h
    refine wp_ialoadE (nx := 16) dX11_mustNumber_15 rfl (fo_90 F) (fl_90 F) hi (ft_90 F) rfl ?_
    refine wp_bipush (nx := 18) dX11_mustNumber_16 rfl ⟨by decide, i32 (by decide)⟩ ?_
    refine wp_icmp_ne (nx := 21) (tg := 38) dX11_mustNumber_18 rfl rfl (fun hc => ?_) (fun hc => ?_)
    · have h := h.1 hc
      refine wp_aload_n (nx := 39) dX11_mustNumber_38 rfl rfl ?_
      refine wp_invV (nx := 42) (N := M_X11_faults) (as := []) (st := []) (mc := 0) (ms := 0) (mc' := mc) (ms' := ms) (a := 81) clsX11 dX11_mustNumber_39 rfl mok_X11_faults kM_X11_188 ki_X11_faults ke_X11_faults (fo_81 F) (ft_81 F) rfl rfl (leB rfl) (leB rfl) (z0 _) (z0 _) (Wp.mono h ?_)
      intro r5 Sq C6 h
      obtain ⟨e9, h⟩ := h
      rw [e9]
      show Wp (d + 1) mc ms M_X11_mustNumber 42 [cA 81, cI l1, cI l2] [] S C6 Q
      refine wp_aload_n (nx := 43) dX11_mustNumber_42 rfl rfl ?_
      refine wp_invV (nx := 46) (N := M_X11_fine) (as := []) (st := []) (mc := 0) (ms := 0) (mc' := mc) (ms' := ms) (a := 81) clsX11 dX11_mustNumber_43 rfl mok_X11_fine kM_X11_178 ki_X11_fine ke_X11_fine (fo_81 F) (ft_81 F) rfl rfl (leB rfl) (leB rfl) (z0 _) (z0 _) (Wp.mono h ?_)
      intro r7 Sq C8 h
      obtain ⟨e9, h⟩ := h
      rw [e9]
      show Wp (d + 1) mc ms M_X11_mustNumber 46 [cA 81, cI l1, cI l2] [cI r7] S C8 Q
      refine wp_if_eq (nx := 49) (tg := 59) dX11_mustNumber_46 rfl rfl (fun hc => ?_) (fun hc => ?_)
      · have h := h.1 hc
        exact wp_return dX11_mustNumber_59 rfl h
      · have h := h.2 hc
        refine wp_aload_n (nx := 50) dX11_mustNumber_49 rfl rfl ?_
        refine wp_dup (nx := 51) dX11_mustNumber_50 rfl (k1A _) ?_
        refine wp_getIe (kk := 19) 19 (nx := 54) clsX11 dX11_mustNumber_51 rfl kF_X11_182 (by decide) (fo_81 F) (ft_81 F) rfl rfl rfl ?_
        refine wp_iconst (nx := 55) dX11_mustNumber_54 rfl (i32 (by decide)) ?_
        refine wp_iadd (nx := 56) dX11_mustNumber_55 rfl ?_
        refine wp_putIe (kk := 19) 19 (nx := 59) clsX11 dX11_mustNumber_56 rfl kF_X11_182 (by decide) (fo_81 F) (ft_81 F) rfl rfl ⟨rfl, rfl⟩ rfl ?_
        exact wp_return dX11_mustNumber_59 rfl h
    · have h := h.2 hc
      refine wp_aload_n (nx := 22) dX11_mustNumber_21 rfl rfl ?_
      refine wp_getAe (kk := 16) (nx := 25) clsX11 dX11_mustNumber_22 rfl kF_X11_57 (by decide) (fo_81 F) (ft_81 F) rfl (fp_81_16 F) ?_
      refine wp_aload_n (nx := 26) dX11_mustNumber_25 rfl rfl ?_
      refine wp_getIe (kk := 19) 19 (nx := 29) clsX11 dX11_mustNumber_26 rfl kF_X11_182 (by decide) (fo_81 F) (ft_81 F) rfl rfl rfl ?_
      obtain ⟨hi, h⟩ := h
      refine wp_ialoadE (nx := 30) dX11_mustNumber_29 rfl (fo_91 F) (fl_91 F) hi (ft_91 F) rfl ?_
      refine wp_iload_n (nx := 31) dX11_mustNumber_30 rfl rfl ?_
      refine wp_iload_n (nx := 32) dX11_mustNumber_31 rfl rfl ?_
      refine wp_invS (nx := 35) (N := M_X11_lies) (as := [cI (C2 91 (C2 81 19)), cI l1, cI l2]) (st := []) (mc := 0) (ms := 0) (mc' := mc) (ms' := ms) dX11_mustNumber_32 rfl mok_X11_lies kM_X11_18 ks_X11_lies rfl rfl (leB rfl) (leB rfl) (z0 _) (z0 _) (Wp.mono h ?_)
      intro r9 Sq C10 h
      obtain ⟨e9, h⟩ := h
      rw [e9]
      show Wp (d + 1) mc ms M_X11_mustNumber 35 [cA 81, cI l1, cI l2] [cI r9] S C10 Q
      refine wp_if_ne (nx := 38) (tg := 42) dX11_mustNumber_35 rfl rfl (fun hc => ?_) (fun hc => ?_)
      · have h := h.1 hc
        refine wp_aload_n (nx := 43) dX11_mustNumber_42 rfl rfl ?_
        refine wp_invV (nx := 46) (N := M_X11_fine) (as := []) (st := []) (mc := 0) (ms := 0) (mc' := mc) (ms' := ms) (a := 81) clsX11 dX11_mustNumber_43 rfl mok_X11_fine kM_X11_178 ki_X11_fine ke_X11_fine (fo_81 F) (ft_81 F) rfl rfl (leB rfl) (leB rfl) (z0 _) (z0 _) (Wp.mono h ?_)
        intro r11 Sq C12 h
        obtain ⟨e9, h⟩ := h
        rw [e9]
        show Wp (d + 1) mc ms M_X11_mustNumber 46 [cA 81, cI l1, cI l2] [cI r11] S C12 Q
        refine wp_if_eq (nx := 49) (tg := 59) dX11_mustNumber_46 rfl rfl (fun hc => ?_) (fun hc => ?_)
        · have h := h.1 hc
          exact wp_return dX11_mustNumber_59 rfl h
        · have h := h.2 hc
          refine wp_aload_n (nx := 50) dX11_mustNumber_49 rfl rfl ?_
          refine wp_dup (nx := 51) dX11_mustNumber_50 rfl (k1A _) ?_
          refine wp_getIe (kk := 19) 19 (nx := 54) clsX11 dX11_mustNumber_51 rfl kF_X11_182 (by decide) (fo_81 F) (ft_81 F) rfl rfl rfl ?_
          refine wp_iconst (nx := 55) dX11_mustNumber_54 rfl (i32 (by decide)) ?_
          refine wp_iadd (nx := 56) dX11_mustNumber_55 rfl ?_
          refine wp_putIe (kk := 19) 19 (nx := 59) clsX11 dX11_mustNumber_56 rfl kF_X11_182 (by decide) (fo_81 F) (ft_81 F) rfl rfl ⟨rfl, rfl⟩ rfl ?_
          exact wp_return dX11_mustNumber_59 rfl h
      · have h := h.2 hc
        refine wp_aload_n (nx := 39) dX11_mustNumber_38 rfl rfl ?_
        refine wp_invV (nx := 42) (N := M_X11_faults) (as := []) (st := []) (mc := 0) (ms := 0) (mc' := mc) (ms' := ms) (a := 81) clsX11 dX11_mustNumber_39 rfl mok_X11_faults kM_X11_188 ki_X11_faults ke_X11_faults (fo_81 F) (ft_81 F) rfl rfl (leB rfl) (leB rfl) (z0 _) (z0 _) (Wp.mono h ?_)
        intro r13 Sq C14 h
        obtain ⟨e9, h⟩ := h
        rw [e9]
        show Wp (d + 1) mc ms M_X11_mustNumber 42 [cA 81, cI l1, cI l2] [] S C14 Q
        refine wp_aload_n (nx := 43) dX11_mustNumber_42 rfl rfl ?_
        refine wp_invV (nx := 46) (N := M_X11_fine) (as := []) (st := []) (mc := 0) (ms := 0) (mc' := mc) (ms' := ms) (a := 81) clsX11 dX11_mustNumber_43 rfl mok_X11_fine kM_X11_178 ki_X11_fine ke_X11_fine (fo_81 F) (ft_81 F) rfl rfl (leB rfl) (leB rfl) (z0 _) (z0 _) (Wp.mono h ?_)
        intro r15 Sq C16 h
        obtain ⟨e9, h⟩ := h
        rw [e9]
        show Wp (d + 1) mc ms M_X11_mustNumber 46 [cA 81, cI l1, cI l2] [cI r15] S C16 Q
        refine wp_if_eq (nx := 49) (tg := 59) dX11_mustNumber_46 rfl rfl (fun hc => ?_) (fun hc => ?_)
        · have h := h.1 hc
          exact wp_return dX11_mustNumber_59 rfl h
        · have h := h.2 hc
          refine wp_aload_n (nx := 50) dX11_mustNumber_49 rfl rfl ?_
          refine wp_dup (nx := 51) dX11_mustNumber_50 rfl (k1A _) ?_
          refine wp_getIe (kk := 19) 19 (nx := 54) clsX11 dX11_mustNumber_51 rfl kF_X11_182 (by decide) (fo_81 F) (ft_81 F) rfl rfl rfl ?_
          refine wp_iconst (nx := 55) dX11_mustNumber_54 rfl (i32 (by decide)) ?_
          refine wp_iadd (nx := 56) dX11_mustNumber_55 rfl ?_
          refine wp_putIe (kk := 19) 19 (nx := 59) clsX11 dX11_mustNumber_56 rfl kF_X11_182 (by decide) (fo_81 F) (ft_81 F) rfl rfl ⟨rfl, rfl⟩ rfl ?_
          exact wp_return dX11_mustNumber_59 rfl h
theorem b_X11_readClause_0 {d mc ms : Nat} {S : MS} {C : MC} {Q : Int → MS → MC → Prop} (F : Fix S) (h : K_X11_takes0_0 d 0 0 1 S C (fun r1 Sq C2 => Sq = S ∧ ((r1 = 0 → K_X11_takes0_0 d 0 0 2 S C2 (fun r3 Sq C4 => Sq = S ∧ ((¬ r3 = 0 → K_X11_takes0_0 d 0 0 4 S C4 (fun r5 Sq C6 => Sq = S ∧ ((r5 = 0 → Q 0 S C6) ∧ (¬ r5 = 0 → K_X11_readTest_0 d 0 0 0 S C6 (fun r7 Sq C8 => Sq = S ∧ Q 0 S C8))))) ∧ (r3 = 0 → K_X11_must_0 d 0 0 3 S C4 (fun r9 Sq C10 => Sq = S ∧ K_X11_takes0_0 d 0 0 4 S C10 (fun r11 Sq C12 => Sq = S ∧ ((r11 = 0 → Q 0 S C12) ∧ (¬ r11 = 0 → K_X11_readTest_0 d 0 0 0 S C12 (fun r13 Sq C14 => Sq = S ∧ Q 0 S C14))))))))) ∧ (¬ r1 = 0 → K_X11_readSum_0 d 0 0 0 S C2 (fun r15 Sq C16 => Sq = S ∧ K_X11_takes0_0 d 0 0 4 S C16 (fun r17 Sq C18 => Sq = S ∧ ((r17 = 0 → Q 0 S C18) ∧ (¬ r17 = 0 → K_X11_readTest_0 d 0 0 0 S C18 (fun r19 Sq C20 => Sq = S ∧ Q 0 S C20))))))))) : K_X11_readClause_0 (d + 1) mc ms S C Q := by
  show Wp (d + 1) mc ms M_X11_readClause 0 [cA 81] [] S C Q
  refine wp_aload_n (nx := 1) dX11_readClause_0 rfl rfl ?_
  refine wp_iconst (nx := 2) dX11_readClause_1 rfl (i32 (by decide)) ?_
  refine wp_invV (nx := 5) (N := M_X11_takes0) (as := [cI 1]) (st := []) (mc := 0) (ms := 0) (mc' := mc) (ms' := ms) (a := 81) clsX11 dX11_readClause_2 rfl mok_X11_takes0 kM_X11_185 ki_X11_takes0 ke_X11_takes0 (fo_81 F) (ft_81 F) rfl rfl (leB rfl) (leB rfl) (z0 _) (z0 _) (Wp.mono h ?_)
  intro r1 Sq C2 h
  obtain ⟨e9, h⟩ := h
  rw [e9]
  show Wp (d + 1) mc ms M_X11_readClause 5 [cA 81] [cI r1] S C2 Q
  refine wp_if_eq (nx := 8) (tg := 16) dX11_readClause_5 rfl rfl (fun hc => ?_) (fun hc => ?_)
  · have h := h.1 hc
    refine wp_aload_n (nx := 17) dX11_readClause_16 rfl rfl ?_
    refine wp_iconst (nx := 18) dX11_readClause_17 rfl (i32 (by decide)) ?_
    refine wp_invV (nx := 21) (N := M_X11_takes0) (as := [cI 2]) (st := []) (mc := 0) (ms := 0) (mc' := mc) (ms' := ms) (a := 81) clsX11 dX11_readClause_18 rfl mok_X11_takes0 kM_X11_185 ki_X11_takes0 ke_X11_takes0 (fo_81 F) (ft_81 F) rfl rfl (leB rfl) (leB rfl) (z0 _) (z0 _) (Wp.mono h ?_)
    intro r3 Sq C4 h
    obtain ⟨e9, h⟩ := h
    rw [e9]
    show Wp (d + 1) mc ms M_X11_readClause 21 [cA 81] [cI r3] S C4 Q
    refine wp_if_ne (nx := 24) (tg := 29) dX11_readClause_21 rfl rfl (fun hc => ?_) (fun hc => ?_)
    · have h := h.1 hc
      refine wp_aload_n (nx := 30) dX11_readClause_29 rfl rfl ?_
      refine wp_iconst (nx := 31) dX11_readClause_30 rfl (i32 (by decide)) ?_
      refine wp_invV (nx := 34) (N := M_X11_takes0) (as := [cI 4]) (st := []) (mc := 0) (ms := 0) (mc' := mc) (ms' := ms) (a := 81) clsX11 dX11_readClause_31 rfl mok_X11_takes0 kM_X11_185 ki_X11_takes0 ke_X11_takes0 (fo_81 F) (ft_81 F) rfl rfl (leB rfl) (leB rfl) (z0 _) (z0 _) (Wp.mono h ?_)
      intro r5 Sq C6 h
      obtain ⟨e9, h⟩ := h
      rw [e9]
      show Wp (d + 1) mc ms M_X11_readClause 34 [cA 81] [cI r5] S C6 Q
      refine wp_if_eq (nx := 37) (tg := 42) dX11_readClause_34 rfl rfl (fun hc => ?_) (fun hc => ?_)
      · have h := h.1 hc
        exact wp_return dX11_readClause_42 rfl h
      · have h := h.2 hc
        refine wp_aload_n (nx := 38) dX11_readClause_37 rfl rfl ?_
        refine wp_iconst (nx := 39) dX11_readClause_38 rfl (i32 (by decide)) ?_
        refine wp_invV (nx := 42) (N := M_X11_readTest) (as := [cI 0]) (st := []) (mc := 0) (ms := 0) (mc' := mc) (ms' := ms) (a := 81) clsX11 dX11_readClause_39 rfl mok_X11_readTest kM_X11_201 ki_X11_readTest ke_X11_readTest (fo_81 F) (ft_81 F) rfl rfl (leB rfl) (leB rfl) (z0 _) (z0 _) (Wp.mono h ?_)
        intro r7 Sq C8 h
        obtain ⟨e9, h⟩ := h
        rw [e9]
        show Wp (d + 1) mc ms M_X11_readClause 42 [cA 81] [] S C8 Q
        exact wp_return dX11_readClause_42 rfl h
    · have h := h.2 hc
      refine wp_aload_n (nx := 25) dX11_readClause_24 rfl rfl ?_
      refine wp_iconst (nx := 26) dX11_readClause_25 rfl (i32 (by decide)) ?_
      refine wp_invV (nx := 29) (N := M_X11_must) (as := [cI 3]) (st := []) (mc := 0) (ms := 0) (mc' := mc) (ms' := ms) (a := 81) clsX11 dX11_readClause_26 rfl mok_X11_must kM_X11_198 ki_X11_must ke_X11_must (fo_81 F) (ft_81 F) rfl rfl (leB rfl) (leB rfl) (z0 _) (z0 _) (Wp.mono h ?_)
      intro r9 Sq C10 h
      obtain ⟨e9, h⟩ := h
      rw [e9]
      show Wp (d + 1) mc ms M_X11_readClause 29 [cA 81] [] S C10 Q
      refine wp_aload_n (nx := 30) dX11_readClause_29 rfl rfl ?_
      refine wp_iconst (nx := 31) dX11_readClause_30 rfl (i32 (by decide)) ?_
      refine wp_invV (nx := 34) (N := M_X11_takes0) (as := [cI 4]) (st := []) (mc := 0) (ms := 0) (mc' := mc) (ms' := ms) (a := 81) clsX11 dX11_readClause_31 rfl mok_X11_takes0 kM_X11_185 ki_X11_takes0 ke_X11_takes0 (fo_81 F) (ft_81 F) rfl rfl (leB rfl) (leB rfl) (z0 _) (z0 _) (Wp.mono h ?_)
      intro r11 Sq C12 h
      obtain ⟨e9, h⟩ := h
      rw [e9]
      show Wp (d + 1) mc ms M_X11_readClause 34 [cA 81] [cI r11] S C12 Q
      refine wp_if_eq (nx := 37) (tg := 42) dX11_readClause_34 rfl rfl (fun hc => ?_) (fun hc => ?_)
      · have h := h.1 hc
        exact wp_return dX11_readClause_42 rfl h
      · have h := h.2 hc
        refine wp_aload_n (nx := 38) dX11_readClause_37 rfl rfl ?_
        refine wp_iconst (nx := 39) dX11_readClause_38 rfl (i32 (by decide)) ?_
        refine wp_invV (nx := 42) (N := M_X11_readTest) (as := [cI 0]) (st := []) (mc := 0) (ms := 0) (mc' := mc) (ms' := ms) (a := 81) clsX11 dX11_readClause_39 rfl mok_X11_readTest kM_X11_201 ki_X11_readTest ke_X11_readTest (fo_81 F) (ft_81 F) rfl rfl (leB rfl) (leB rfl) (z0 _) (z0 _) (Wp.mono h ?_)
        intro r13 Sq C14 h
        obtain ⟨e9, h⟩ := h
        rw [e9]
        show Wp (d + 1) mc ms M_X11_readClause 42 [cA 81] [] S C14 Q
        exact wp_return dX11_readClause_42 rfl h
  · have h := h.2 hc
    refine wp_aload_n (nx := 9) dX11_readClause_8 rfl rfl ?_
    refine wp_iconst (nx := 10) dX11_readClause_9 rfl (i32 (by decide)) ?_
    refine wp_invV (nx := 13) (N := M_X11_readSum) (as := [cI 0]) (st := []) (mc := 0) (ms := 0) (mc' := mc) (ms' := ms) (a := 81) clsX11 dX11_readClause_10 rfl mok_X11_readSum kM_X11_194 ki_X11_readSum ke_X11_readSum (fo_81 F) (ft_81 F) rfl rfl (leB rfl) (leB rfl) (z0 _) (z0 _) (Wp.mono h ?_)
    intro r15 Sq C16 h
    obtain ⟨e9, h⟩ := h
    rw [e9]
    show Wp (d + 1) mc ms M_X11_readClause 13 [cA 81] [] S C16 Q
    refine wp_goto (nx := 29) dX11_readClause_13 rfl ?_
    refine wp_aload_n (nx := 30) dX11_readClause_29 rfl rfl ?_
    refine wp_iconst (nx := 31) dX11_readClause_30 rfl (i32 (by decide)) ?_
    refine wp_invV (nx := 34) (N := M_X11_takes0) (as := [cI 4]) (st := []) (mc := 0) (ms := 0) (mc' := mc) (ms' := ms) (a := 81) clsX11 dX11_readClause_31 rfl mok_X11_takes0 kM_X11_185 ki_X11_takes0 ke_X11_takes0 (fo_81 F) (ft_81 F) rfl rfl (leB rfl) (leB rfl) (z0 _) (z0 _) (Wp.mono h ?_)
    intro r17 Sq C18 h
    obtain ⟨e9, h⟩ := h
    rw [e9]
    show Wp (d + 1) mc ms M_X11_readClause 34 [cA 81] [cI r17] S C18 Q
    refine wp_if_eq (nx := 37) (tg := 42) dX11_readClause_34 rfl rfl (fun hc => ?_) (fun hc => ?_)
    · have h := h.1 hc
      exact wp_return dX11_readClause_42 rfl h
    · have h := h.2 hc
      refine wp_aload_n (nx := 38) dX11_readClause_37 rfl rfl ?_
      refine wp_iconst (nx := 39) dX11_readClause_38 rfl (i32 (by decide)) ?_
      refine wp_invV (nx := 42) (N := M_X11_readTest) (as := [cI 0]) (st := []) (mc := 0) (ms := 0) (mc' := mc) (ms' := ms) (a := 81) clsX11 dX11_readClause_39 rfl mok_X11_readTest kM_X11_201 ki_X11_readTest ke_X11_readTest (fo_81 F) (ft_81 F) rfl rfl (leB rfl) (leB rfl) (z0 _) (z0 _) (Wp.mono h ?_)
      intro r19 Sq C20 h
      obtain ⟨e9, h⟩ := h
      rw [e9]
      show Wp (d + 1) mc ms M_X11_readClause 42 [cA 81] [] S C20 Q
      exact wp_return dX11_readClause_42 rfl h
