/-! blocks -/
theorem b_J6_bitCount_0f7a4_0 {d mc ms : Nat} {l0 : Int} {S : MS} {C : MC} {Q : Int → MS → MC → Prop} (F : Fix S) (h : Q (iAnd (w32 ((w32 ((iAnd (w32 ((w32 ((iAnd (w32 (l0 - (iAnd (iUshr l0 1) 1431655765))) 858993459) + (iAnd (iUshr (w32 (l0 - (iAnd (iUshr l0 1) 1431655765))) 2) 858993459))) + (iUshr (w32 ((iAnd (w32 (l0 - (iAnd (iUshr l0 1) 1431655765))) 858993459) + (iAnd (iUshr (w32 (l0 - (iAnd (iUshr l0 1) 1431655765))) 2) 858993459))) 4))) 252645135) + (iUshr (iAnd (w32 ((w32 ((iAnd (w32 (l0 - (iAnd (iUshr l0 1) 1431655765))) 858993459) + (iAnd (iUshr (w32 (l0 - (iAnd (iUshr l0 1) 1431655765))) 2) 858993459))) + (iUshr (w32 ((iAnd (w32 (l0 - (iAnd (iUshr l0 1) 1431655765))) 858993459) + (iAnd (iUshr (w32 (l0 - (iAnd (iUshr l0 1) 1431655765))) 2) 858993459))) 4))) 252645135) 8))) + (iUshr (w32 ((iAnd (w32 ((w32 ((iAnd (w32 (l0 - (iAnd (iUshr l0 1) 1431655765))) 858993459) + (iAnd (iUshr (w32 (l0 - (iAnd (iUshr l0 1) 1431655765))) 2) 858993459))) + (iUshr (w32 ((iAnd (w32 (l0 - (iAnd (iUshr l0 1) 1431655765))) 858993459) + (iAnd (iUshr (w32 (l0 - (iAnd (iUshr l0 1) 1431655765))) 2) 858993459))) 4))) 252645135) + (iUshr (iAnd (w32 ((w32 ((iAnd (w32 (l0 - (iAnd (iUshr l0 1) 1431655765))) 858993459) + (iAnd (iUshr (w32 (l0 - (iAnd (iUshr l0 1) 1431655765))) 2) 858993459))) + (iUshr (w32 ((iAnd (w32 (l0 - (iAnd (iUshr l0 1) 1431655765))) 858993459) + (iAnd (iUshr (w32 (l0 - (iAnd (iUshr l0 1) 1431655765))) 2) 858993459))) 4))) 252645135) 8))) 16))) 63) S C) : K_J6_bitCount_0f7a4_0 d mc ms l0 S C Q := by
  show Wp d mc ms M_J6_bitCount_0f7a4 0 [cI l0] [] S C Q
  refine wp_iload_n (nx := 1) dJ6_bitCount_0f7a4_0 rfl rfl ?_
  refine wp_iload_n (nx := 2) dJ6_bitCount_0f7a4_1 rfl rfl ?_
  refine wp_iconst (nx := 3) dJ6_bitCount_0f7a4_2 rfl (i32 (by decide)) ?_
  refine wp_iushr (nx := 4) dJ6_bitCount_0f7a4_3 rfl ?_
  refine wp_ldc_w (nx := 7) dJ6_bitCount_0f7a4_4 rfl kI_J6_265 (i32 (by decide)) ?_
  refine wp_iand (nx := 8) dJ6_bitCount_0f7a4_7 rfl ?_
  refine wp_isub (nx := 9) dJ6_bitCount_0f7a4_8 rfl ?_
  refine wp_istore_n (nx := 10) dJ6_bitCount_0f7a4_9 rfl (by decide) ?_
  refine wp_ls (ls2 := [cI (w32 (l0 - (iAnd (iUshr l0 1) 1431655765)))]) rfl ?_
  refine wp_iload_n (nx := 11) dJ6_bitCount_0f7a4_10 rfl rfl ?_
  refine wp_ldc_w (nx := 14) dJ6_bitCount_0f7a4_11 rfl kI_J6_266 (i32 (by decide)) ?_
  refine wp_iand (nx := 15) dJ6_bitCount_0f7a4_14 rfl ?_
  refine wp_iload_n (nx := 16) dJ6_bitCount_0f7a4_15 rfl rfl ?_
  refine wp_iconst (nx := 17) dJ6_bitCount_0f7a4_16 rfl (i32 (by decide)) ?_
  refine wp_iushr (nx := 18) dJ6_bitCount_0f7a4_17 rfl ?_
  refine wp_ldc_w (nx := 21) dJ6_bitCount_0f7a4_18 rfl kI_J6_266 (i32 (by decide)) ?_
  refine wp_iand (nx := 22) dJ6_bitCount_0f7a4_21 rfl ?_
  refine wp_iadd (nx := 23) dJ6_bitCount_0f7a4_22 rfl ?_
  refine wp_istore_n (nx := 24) dJ6_bitCount_0f7a4_23 rfl (by decide) ?_
  refine wp_ls (ls2 := [cI (w32 ((iAnd (w32 (l0 - (iAnd (iUshr l0 1) 1431655765))) 858993459) + (iAnd (iUshr (w32 (l0 - (iAnd (iUshr l0 1) 1431655765))) 2) 858993459)))]) rfl ?_
  refine wp_iload_n (nx := 25) dJ6_bitCount_0f7a4_24 rfl rfl ?_
  refine wp_iload_n (nx := 26) dJ6_bitCount_0f7a4_25 rfl rfl ?_
  refine wp_iconst (nx := 27) dJ6_bitCount_0f7a4_26 rfl (i32 (by decide)) ?_
  refine wp_iushr (nx := 28) dJ6_bitCount_0f7a4_27 rfl ?_
  refine wp_iadd (nx := 29) dJ6_bitCount_0f7a4_28 rfl ?_
  refine wp_ldc_w (nx := 32) dJ6_bitCount_0f7a4_29 rfl kI_J6_267 (i32 (by decide)) ?_
  refine wp_iand (nx := 33) dJ6_bitCount_0f7a4_32 rfl ?_
  refine wp_istore_n (nx := 34) dJ6_bitCount_0f7a4_33 rfl (by decide) ?_
  refine wp_ls (ls2 := [cI (iAnd (w32 ((w32 ((iAnd (w32 (l0 - (iAnd (iUshr l0 1) 1431655765))) 858993459) + (iAnd (iUshr (w32 (l0 - (iAnd (iUshr l0 1) 1431655765))) 2) 858993459))) + (iUshr (w32 ((iAnd (w32 (l0 - (iAnd (iUshr l0 1) 1431655765))) 858993459) + (iAnd (iUshr (w32 (l0 - (iAnd (iUshr l0 1) 1431655765))) 2) 858993459))) 4))) 252645135)]) rfl ?_
  refine wp_iload_n (nx := 35) dJ6_bitCount_0f7a4_34 rfl rfl ?_
  refine wp_iload_n (nx := 36) dJ6_bitCount_0f7a4_35 rfl rfl ?_
  refine wp_bipush (nx := 38) dJ6_bitCount_0f7a4_36 rfl ⟨by decide, i32 (by decide)⟩ ?_
  refine wp_iushr (nx := 39) dJ6_bitCount_0f7a4_38 rfl ?_
  refine wp_iadd (nx := 40) dJ6_bitCount_0f7a4_39 rfl ?_
  refine wp_istore_n (nx := 41) dJ6_bitCount_0f7a4_40 rfl (by decide) ?_
  refine wp_ls (ls2 := [cI (w32 ((iAnd (w32 ((w32 ((iAnd (w32 (l0 - (iAnd (iUshr l0 1) 1431655765))) 858993459) + (iAnd (iUshr (w32 (l0 - (iAnd (iUshr l0 1) 1431655765))) 2) 858993459))) + (iUshr (w32 ((iAnd (w32 (l0 - (iAnd (iUshr l0 1) 1431655765))) 858993459) + (iAnd (iUshr (w32 (l0 - (iAnd (iUshr l0 1) 1431655765))) 2) 858993459))) 4))) 252645135) + (iUshr (iAnd (w32 ((w32 ((iAnd (w32 (l0 - (iAnd (iUshr l0 1) 1431655765))) 858993459) + (iAnd (iUshr (w32 (l0 - (iAnd (iUshr l0 1) 1431655765))) 2) 858993459))) + (iUshr (w32 ((iAnd (w32 (l0 - (iAnd (iUshr l0 1) 1431655765))) 858993459) + (iAnd (iUshr (w32 (l0 - (iAnd (iUshr l0 1) 1431655765))) 2) 858993459))) 4))) 252645135) 8)))]) rfl ?_
  refine wp_iload_n (nx := 42) dJ6_bitCount_0f7a4_41 rfl rfl ?_
  refine wp_iload_n (nx := 43) dJ6_bitCount_0f7a4_42 rfl rfl ?_
  refine wp_bipush (nx := 45) dJ6_bitCount_0f7a4_43 rfl ⟨by decide, i32 (by decide)⟩ ?_
  refine wp_iushr (nx := 46) dJ6_bitCount_0f7a4_45 rfl ?_
  refine wp_iadd (nx := 47) dJ6_bitCount_0f7a4_46 rfl ?_
  refine wp_istore_n (nx := 48) dJ6_bitCount_0f7a4_47 rfl (by decide) ?_
  refine wp_ls (ls2 := [cI (w32 ((w32 ((iAnd (w32 ((w32 ((iAnd (w32 (l0 - (iAnd (iUshr l0 1) 1431655765))) 858993459) + (iAnd (iUshr (w32 (l0 - (iAnd (iUshr l0 1) 1431655765))) 2) 858993459))) + (iUshr (w32 ((iAnd (w32 (l0 - (iAnd (iUshr l0 1) 1431655765))) 858993459) + (iAnd (iUshr (w32 (l0 - (iAnd (iUshr l0 1) 1431655765))) 2) 858993459))) 4))) 252645135) + (iUshr (iAnd (w32 ((w32 ((iAnd (w32 (l0 - (iAnd (iUshr l0 1) 1431655765))) 858993459) + (iAnd (iUshr (w32 (l0 - (iAnd (iUshr l0 1) 1431655765))) 2) 858993459))) + (iUshr (w32 ((iAnd (w32 (l0 - (iAnd (iUshr l0 1) 1431655765))) 858993459) + (iAnd (iUshr (w32 (l0 - (iAnd (iUshr l0 1) 1431655765))) 2) 858993459))) 4))) 252645135) 8))) + (iUshr (w32 ((iAnd (w32 ((w32 ((iAnd (w32 (l0 - (iAnd (iUshr l0 1) 1431655765))) 858993459) + (iAnd (iUshr (w32 (l0 - (iAnd (iUshr l0 1) 1431655765))) 2) 858993459))) + (iUshr (w32 ((iAnd (w32 (l0 - (iAnd (iUshr l0 1) 1431655765))) 858993459) + (iAnd (iUshr (w32 (l0 - (iAnd (iUshr l0 1) 1431655765))) 2) 858993459))) 4))) 252645135) + (iUshr (iAnd (w32 ((w32 ((iAnd (w32 (l0 - (iAnd (iUshr l0 1) 1431655765))) 858993459) + (iAnd (iUshr (w32 (l0 - (iAnd (iUshr l0 1) 1431655765))) 2) 858993459))) + (iUshr (w32 ((iAnd (w32 (l0 - (iAnd (iUshr l0 1) 1431655765))) 858993459) + (iAnd (iUshr (w32 (l0 - (iAnd (iUshr l0 1) 1431655765))) 2) 858993459))) 4))) 252645135) 8))) 16)))]) rfl ?_
  refine wp_iload_n (nx := 49) dJ6_bitCount_0f7a4_48 rfl rfl ?_
  refine wp_bipush (nx := 51) dJ6_bitCount_0f7a4_49 rfl ⟨by decide, i32 (by decide)⟩ ?_
  refine wp_iand (nx := 52) dJ6_bitCount_0f7a4_51 rfl ?_
  exact wp_ireturn dJ6_bitCount_0f7a4_52 rfl rfl rfl h
theorem b_J7_fill_d0a16_0 {d mc ms : Nat} {l0 l1 : Int} {S : MS} {C : MC} {Q : Int → MS → MC → Prop} (F : Fix S) (ha_l0 : Arr S l0 21) (h : K_J7_fill_d0a16_6 d mc ms l0 l1 0 (S.2.2.1 l0) S C Q) : K_J7_fill_d0a16_0 d mc ms l0 l1 S C Q := by
  show Wp d mc ms M_J7_fill_d0a16 0 [cA l0, cJ l1, cU, cU, cU] [] S C Q
  refine wp_iconst (nx := 1) dJ7_fill_d0a16_0 rfl (i32 (by decide)) ?_
  refine wp_istore_n (nx := 2) dJ7_fill_d0a16_1 rfl (by decide) ?_
  refine wp_ls (ls2 := [cA l0, cJ l1, cU, cI 0, cU]) rfl ?_
  refine wp_aload_n (nx := 3) dJ7_fill_d0a16_2 rfl rfl ?_
  refine wp_alenE (nx := 4) dJ7_fill_d0a16_3 rfl ha_l0.1 rfl (by rw [ha_l0.2]; decide) ?_
  refine wp_istore (nx := 6) dJ7_fill_d0a16_4 rfl (by decide) ?_
  refine wp_ls (ls2 := [cA l0, cJ l1, cU, cI 0, cI (S.2.2.1 l0)]) rfl ?_
  exact h
theorem b_J7_fill_d0a16_6 {d mc ms : Nat} {l0 l1 l3 l4 : Int} {S : MS} {C : MC} {Q : Int → MS → MC → Prop} (F : Fix S) (ha_l0 : Arr S l0 21) (h : ((l4 ≤ l3 → Q 0 S C) ∧ (¬ l4 ≤ l3 → ((0 : Int) ≤ l3 ∧ l3 < S.2.2.1 l0) ∧ K_J7_fill_d0a16_6 d mc ms l0 l1 (w32 (l3 + 1)) l4 S (upC C l0 l3 l1) Q))) : K_J7_fill_d0a16_6 d mc ms l0 l1 l3 l4 S C Q := by
  show Wp d mc ms M_J7_fill_d0a16 6 [cA l0, cJ l1, cU, cI l3, cI l4] [] S C Q
  refine wp_iload_n (nx := 7) dJ7_fill_d0a16_6 rfl rfl ?_
  refine wp_iload (nx := 9) dJ7_fill_d0a16_7 rfl rfl ?_
  refine wp_icmp_ge (nx := 12) (tg := 22) dJ7_fill_d0a16_9 rfl rfl (fun hc => ?_) (fun hc => ?_)
  · have h := h.1 hc
    exact wp_return dJ7_fill_d0a16_22 rfl h
  · have h := h.2 hc
    refine wp_aload_n (nx := 13) dJ7_fill_d0a16_12 rfl rfl ?_
    refine wp_iload_n (nx := 14) dJ7_fill_d0a16_13 rfl rfl ?_
    refine wp_lload_n (nx := 15) dJ7_fill_d0a16_14 rfl rfl ?_
    obtain ⟨hi, h⟩ := h
    refine wp_lastoreE (nx := 16) dJ7_fill_d0a16_15 rfl ha_l0.1 rfl hi ha_l0.2 ?_
    refine wp_iinc (nx := 19) dJ7_fill_d0a16_16 rfl rfl (by decide) ?_
    refine wp_ls (ls2 := [cA l0, cJ l1, cU, cI (w32 (l3 + 1)), cI l4]) rfl ?_
    refine wp_goto (nx := 6) dJ7_fill_d0a16_19 rfl ?_
    exact h
theorem b_J7_fill_53178_0 {d mc ms : Nat} {l0 l1 : Int} {S : MS} {C : MC} {Q : Int → MS → MC → Prop} (F : Fix S) (ha_l0 : Arr S l0 20) (h : K_J7_fill_53178_5 d mc ms l0 l1 0 (S.2.2.1 l0) S C Q) : K_J7_fill_53178_0 d mc ms l0 l1 S C Q := by
  show Wp d mc ms M_J7_fill_53178 0 [cA l0, cI l1, cU, cU] [] S C Q
  refine wp_iconst (nx := 1) dJ7_fill_53178_0 rfl (i32 (by decide)) ?_
  refine wp_istore_n (nx := 2) dJ7_fill_53178_1 rfl (by decide) ?_
  refine wp_ls (ls2 := [cA l0, cI l1, cI 0, cU]) rfl ?_
  refine wp_aload_n (nx := 3) dJ7_fill_53178_2 rfl rfl ?_
  refine wp_alenE (nx := 4) dJ7_fill_53178_3 rfl ha_l0.1 rfl (by rw [ha_l0.2]; decide) ?_
  refine wp_istore_n (nx := 5) dJ7_fill_53178_4 rfl (by decide) ?_
  refine wp_ls (ls2 := [cA l0, cI l1, cI 0, cI (S.2.2.1 l0)]) rfl ?_
  exact h
theorem b_J7_fill_53178_5 {d mc ms : Nat} {l0 l1 l2 l3 : Int} {S : MS} {C : MC} {Q : Int → MS → MC → Prop} (F : Fix S) (ha_l0 : Arr S l0 20) (h : ((l3 ≤ l2 → Q 0 S C) ∧ (¬ l3 ≤ l2 → ((0 : Int) ≤ l2 ∧ l2 < S.2.2.1 l0) ∧ K_J7_fill_53178_5 d mc ms l0 l1 (w32 (l2 + 1)) l3 S (upC C l0 l2 l1) Q))) : K_J7_fill_53178_5 d mc ms l0 l1 l2 l3 S C Q := by
  show Wp d mc ms M_J7_fill_53178 5 [cA l0, cI l1, cI l2, cI l3] [] S C Q
  refine wp_iload_n (nx := 6) dJ7_fill_53178_5 rfl rfl ?_
  refine wp_iload_n (nx := 7) dJ7_fill_53178_6 rfl rfl ?_
  refine wp_icmp_ge (nx := 10) (tg := 20) dJ7_fill_53178_7 rfl rfl (fun hc => ?_) (fun hc => ?_)
  · have h := h.1 hc
    exact wp_return dJ7_fill_53178_20 rfl h
  · have h := h.2 hc
    refine wp_aload_n (nx := 11) dJ7_fill_53178_10 rfl rfl ?_
    refine wp_iload_n (nx := 12) dJ7_fill_53178_11 rfl rfl ?_
    refine wp_iload_n (nx := 13) dJ7_fill_53178_12 rfl rfl ?_
    obtain ⟨hi, h⟩ := h
    refine wp_iastoreE (nx := 14) dJ7_fill_53178_13 rfl ha_l0.1 rfl hi ha_l0.2 ?_
    refine wp_iinc (nx := 17) dJ7_fill_53178_14 rfl rfl (by decide) ?_
    refine wp_ls (ls2 := [cA l0, cI l1, cI (w32 (l2 + 1)), cI l3]) rfl ?_
    refine wp_goto (nx := 5) dJ7_fill_53178_17 rfl ?_
    exact h
