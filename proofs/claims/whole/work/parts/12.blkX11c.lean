/-! blocks -/
theorem b_X11_might_0 {d mc ms : Nat} {l1 l2 : Int} {S : MS} {C : MC} {Q : Int → MS → MC → Prop} (F : Fix S) (h : K_X11_isBeat_0 d 0 0 l1 S C (fun r1 Sq C2 => Sq = S ∧ ((r1 = 0 → Q (-1) S C2) ∧ (¬ r1 = 0 → K_X11_isKey_0 d 0 0 l2 S C2 (fun r3 Sq C4 => Sq = S ∧ ((¬ r3 = 0 → K_X11_musicAt_0 d 0 0 l1 S C4 (fun r5 Sq C6 => Sq = S ∧ K_X11_isIn_0 d 0 0 r5 l2 S C6 (fun r7 Sq C8 => Sq = S ∧ ((¬ r7 = 0 → K_X11_musicAt_0 d 0 0 l1 S C8 (fun r9 Sq C10 => Sq = S ∧ K_X11_laysParts_0 d 0 0 l1 r9 S C10 (fun r11 Sq C12 => Sq = S ∧ K_X11_might_45 (d + 1) mc ms l1 l2 0 0 S C12 Q))) ∧ (r7 = 0 → Q 0 S C8))))) ∧ (r3 = 0 → Q (-1) S C4))))))) : K_X11_might_0 (d + 1) mc ms l1 l2 S C Q := by
  show Wp (d + 1) mc ms M_X11_might 0 [cA 81, cI l1, cI l2, cU, cU] [] S C Q
  refine wp_iload_n (nx := 1) dX11_might_0 rfl rfl ?_
  refine wp_invS (nx := 4) (N := M_X11_isBeat) (as := [cI l1]) (st := []) (mc := 0) (ms := 0) (mc' := mc) (ms' := ms) dX11_might_1 rfl mok_X11_isBeat kM_X11_138 ks_X11_isBeat rfl rfl (leB rfl) (leB rfl) (z0 _) (z0 _) (Wp.mono h ?_)
  intro r1 Sq C2 h
  obtain ⟨e9, h⟩ := h
  rw [e9]
  show Wp (d + 1) mc ms M_X11_might 4 [cA 81, cI l1, cI l2, cU, cU] [cI r1] S C2 Q
  refine wp_if_eq (nx := 7) (tg := 14) dX11_might_4 rfl rfl (fun hc => ?_) (fun hc => ?_)
  · have h := h.1 hc
    refine wp_iconst (nx := 15) dX11_might_14 rfl (i32 (by decide)) ?_
    exact wp_ireturn dX11_might_15 rfl rfl rfl h
  · have h := h.2 hc
    refine wp_iload_n (nx := 8) dX11_might_7 rfl rfl ?_
    refine wp_invS (nx := 11) (N := M_X11_isKey) (as := [cI l2]) (st := []) (mc := 0) (ms := 0) (mc' := mc) (ms' := ms) dX11_might_8 rfl mok_X11_isKey kM_X11_135 ks_X11_isKey rfl rfl (leB rfl) (leB rfl) (z0 _) (z0 _) (Wp.mono h ?_)
    intro r3 Sq C4 h
    obtain ⟨e9, h⟩ := h
    rw [e9]
    show Wp (d + 1) mc ms M_X11_might 11 [cA 81, cI l1, cI l2, cU, cU] [cI r3] S C4 Q
    refine wp_if_ne (nx := 14) (tg := 16) dX11_might_11 rfl rfl (fun hc => ?_) (fun hc => ?_)
    · have h := h.1 hc
      refine wp_aload_n (nx := 17) dX11_might_16 rfl rfl ?_
      refine wp_iload_n (nx := 18) dX11_might_17 rfl rfl ?_
      refine wp_invV (nx := 21) (N := M_X11_musicAt) (as := [cI l1]) (st := []) (mc := 0) (ms := 0) (mc' := mc) (ms' := ms) (a := 81) clsX11 dX11_might_18 rfl mok_X11_musicAt kM_X11_122 ki_X11_musicAt ke_X11_musicAt (fo_81 F) (ft_81 F) rfl rfl (leB rfl) (leB rfl) (z0 _) (z0 _) (Wp.mono h ?_)
      intro r5 Sq C6 h
      obtain ⟨e9, h⟩ := h
      rw [e9]
      show Wp (d + 1) mc ms M_X11_might 21 [cA 81, cI l1, cI l2, cU, cU] [cI r5] S C6 Q
      refine wp_iload_n (nx := 22) dX11_might_21 rfl rfl ?_
      refine wp_invS (nx := 25) (N := M_X11_isIn) (as := [cI r5, cI l2]) (st := []) (mc := 0) (ms := 0) (mc' := mc) (ms' := ms) dX11_might_22 rfl mok_X11_isIn kM_X11_335 ks_X11_isIn rfl rfl (leB rfl) (leB rfl) (z0 _) (z0 _) (Wp.mono h ?_)
      intro r7 Sq C8 h
      obtain ⟨e9, h⟩ := h
      rw [e9]
      show Wp (d + 1) mc ms M_X11_might 25 [cA 81, cI l1, cI l2, cU, cU] [cI r7] S C8 Q
      refine wp_if_ne (nx := 28) (tg := 30) dX11_might_25 rfl rfl (fun hc => ?_) (fun hc => ?_)
      · have h := h.1 hc
        refine wp_aload_n (nx := 31) dX11_might_30 rfl rfl ?_
        refine wp_iload_n (nx := 32) dX11_might_31 rfl rfl ?_
        refine wp_aload_n (nx := 33) dX11_might_32 rfl rfl ?_
        refine wp_iload_n (nx := 34) dX11_might_33 rfl rfl ?_
        refine wp_invV (nx := 37) (N := M_X11_musicAt) (as := [cI l1]) (st := [cI l1, cA 81]) (mc := 0) (ms := 0) (mc' := mc) (ms' := ms) (a := 81) clsX11 dX11_might_34 rfl mok_X11_musicAt kM_X11_122 ki_X11_musicAt ke_X11_musicAt (fo_81 F) (ft_81 F) rfl rfl (leB rfl) (leB rfl) (z0 _) (z0 _) (Wp.mono h ?_)
        intro r9 Sq C10 h
        obtain ⟨e9, h⟩ := h
        rw [e9]
        show Wp (d + 1) mc ms M_X11_might 37 [cA 81, cI l1, cI l2, cU, cU] [cI r9, cI l1, cA 81] S C10 Q
        refine wp_invV (nx := 40) (N := M_X11_laysParts) (as := [cI l1, cI r9]) (st := []) (mc := 0) (ms := 0) (mc' := mc) (ms' := ms) (a := 81) clsX11 dX11_might_37 rfl mok_X11_laysParts kM_X11_345 ki_X11_laysParts ke_X11_laysParts (fo_81 F) (ft_81 F) rfl rfl (leB rfl) (leB rfl) (z0 _) (z0 _) (Wp.mono h ?_)
        intro r11 Sq C12 h
        obtain ⟨e9, h⟩ := h
        rw [e9]
        show Wp (d + 1) mc ms M_X11_might 40 [cA 81, cI l1, cI l2, cU, cU] [] S C12 Q
        refine wp_iconst (nx := 41) dX11_might_40 rfl (i32 (by decide)) ?_
        refine wp_istore_n (nx := 42) dX11_might_41 rfl (by decide) ?_
        refine wp_ls (ls2 := [cA 81, cI l1, cI l2, cI 0, cU]) rfl ?_
        refine wp_iconst (nx := 43) dX11_might_42 rfl (i32 (by decide)) ?_
        refine wp_istore (nx := 45) dX11_might_43 rfl (by decide) ?_
        refine wp_ls (ls2 := [cA 81, cI l1, cI l2, cI 0, cI 0]) rfl ?_
        exact h
      · have h := h.2 hc
        refine wp_iconst (nx := 29) dX11_might_28 rfl (i32 (by decide)) ?_
        exact wp_ireturn dX11_might_29 rfl rfl rfl h
    · have h := h.2 hc
      refine wp_iconst (nx := 15) dX11_might_14 rfl (i32 (by decide)) ?_
      exact wp_ireturn dX11_might_15 rfl rfl rfl h
theorem b_X11_might_45 {d mc ms : Nat} {l1 l2 l3 l4 : Int} {S : MS} {C : MC} {Q : Int → MS → MC → Prop} (F : Fix S) (h : K_X11_many_0 d 0 0 S C (fun r1 Sq C2 => Sq = S ∧ ((r1 ≤ l4 → Q l3 S C2) ∧ (¬ r1 ≤ l4 → K_X11_givesNothing_0 d 0 0 S C2 (fun r3 Sq C4 => Sq = S ∧ ((0 : Int) ≤ l4 ∧ l4 < 6) ∧ K_X11_musicAt_0 d 0 0 l1 S ((upC C4 97 l4 (iShl 1 l2))) (fun r5 Sq C6 => Sq = S ∧ K_X11_leastOf_0 d 0 0 (iAnd r5 (iXor (iShl 1 l2) (-1))) S C6 (fun r7 Sq C8 => Sq = S ∧ ((1000001 ≤ r7 → K_X11_might_45 (d + 1) mc ms l1 l2 (iOr l3 0) (w32 (l4 + 1)) S C8 Q) ∧ (¬ 1000001 ≤ r7 → K_X11_might_45 (d + 1) mc ms l1 l2 (iOr l3 (iShl 1 l4)) (w32 (l4 + 1)) S C8 Q))))))))) : K_X11_might_45 (d + 1) mc ms l1 l2 l3 l4 S C Q := by
  show Wp (d + 1) mc ms M_X11_might 45 [cA 81, cI l1, cI l2, cI l3, cI l4] [] S C Q
  refine wp_iload (nx := 47) dX11_might_45 rfl rfl ?_
  refine wp_aload_n (nx := 48) dX11_might_47 rfl rfl ?_
  refine wp_invV (nx := 51) (N := M_X11_many) (as := []) (st := [cI l4]) (mc := 0) (ms := 0) (mc' := mc) (ms' := ms) (a := 81) clsX11 dX11_might_48 rfl mok_X11_many kM_X11_118 ki_X11_many ke_X11_many (fo_81 F) (ft_81 F) rfl rfl (leB rfl) (leB rfl) (z0 _) (z0 _) (Wp.mono h ?_)
  intro r1 Sq C2 h
  obtain ⟨e9, h⟩ := h
  rw [e9]
  show Wp (d + 1) mc ms M_X11_might 51 [cA 81, cI l1, cI l2, cI l3, cI l4] [cI r1, cI l4] S C2 Q
  refine wp_icmp_ge (nx := 54) (tg := 106) dX11_might_51 rfl rfl (fun hc => ?_) (fun hc => ?_)
  · have h := h.1 hc
    refine wp_iload_n (nx := 107) dX11_might_106 rfl rfl ?_
    exact wp_ireturn dX11_might_107 rfl rfl rfl h
  · have h := h.2 hc
    refine wp_aload_n (nx := 55) dX11_might_54 rfl rfl ?_
    refine wp_invV (nx := 58) (N := M_X11_givesNothing) (as := []) (st := []) (mc := 0) (ms := 0) (mc' := mc) (ms' := ms) (a := 81) clsX11 dX11_might_55 rfl mok_X11_givesNothing kM_X11_348 ki_X11_givesNothing ke_X11_givesNothing (fo_81 F) (ft_81 F) rfl rfl (leB rfl) (leB rfl) (z0 _) (z0 _) (Wp.mono h ?_)
    intro r3 Sq C4 h
    obtain ⟨e9, h⟩ := h
    rw [e9]
    show Wp (d + 1) mc ms M_X11_might 58 [cA 81, cI l1, cI l2, cI l3, cI l4] [] S C4 Q
    refine wp_aload_n (nx := 59) dX11_might_58 rfl rfl ?_
    refine wp_getAe (kk := 33) (nx := 62) clsX11 dX11_might_59 rfl kF_X11_75 (by decide) (fo_81 F) (ft_81 F) rfl (fp_81_33 F) ?_
    refine wp_iload (nx := 64) dX11_might_62 rfl rfl ?_
    refine wp_iconst (nx := 65) dX11_might_64 rfl (i32 (by decide)) ?_
    refine wp_iload_n (nx := 66) dX11_might_65 rfl rfl ?_
    refine wp_ishl (nx := 67) dX11_might_66 rfl ?_
    obtain ⟨hi, h⟩ := h
    refine wp_iastoreE (nx := 68) dX11_might_67 rfl (fo_97 F) (fl_97 F) hi (ft_97 F) ?_
    refine wp_iload_n (nx := 69) dX11_might_68 rfl rfl ?_
    refine wp_aload_n (nx := 70) dX11_might_69 rfl rfl ?_
    refine wp_aload_n (nx := 71) dX11_might_70 rfl rfl ?_
    refine wp_iload_n (nx := 72) dX11_might_71 rfl rfl ?_
    refine wp_invV (nx := 75) (N := M_X11_musicAt) (as := [cI l1]) (st := [cA 81, cI l3]) (mc := 0) (ms := 0) (mc' := mc) (ms' := ms) (a := 81) clsX11 dX11_might_72 rfl mok_X11_musicAt kM_X11_122 ki_X11_musicAt ke_X11_musicAt (fo_81 F) (ft_81 F) rfl rfl (leB rfl) (leB rfl) (z0 _) (z0 _) (Wp.mono h ?_)
    intro r5 Sq C6 h
    obtain ⟨e9, h⟩ := h
    rw [e9]
    show Wp (d + 1) mc ms M_X11_might 75 [cA 81, cI l1, cI l2, cI l3, cI l4] [cI r5, cA 81, cI l3] S C6 Q
    refine wp_iconst (nx := 76) dX11_might_75 rfl (i32 (by decide)) ?_
    refine wp_iload_n (nx := 77) dX11_might_76 rfl rfl ?_
    refine wp_ishl (nx := 78) dX11_might_77 rfl ?_
    refine wp_iconst (nx := 79) dX11_might_78 rfl (i32 (by decide)) ?_
    refine wp_ixor (nx := 80) dX11_might_79 rfl ?_
    refine wp_iand (nx := 81) dX11_might_80 rfl ?_
    refine wp_invV (nx := 84) (N := M_X11_leastOf) (as := [cI (iAnd r5 (iXor (iShl 1 l2) (-1)))]) (st := [cI l3]) (mc := 0) (ms := 0) (mc' := mc) (ms' := ms) (a := 81) clsX11 dX11_might_81 rfl mok_X11_leastOf kM_X11_351 ki_X11_leastOf ke_X11_leastOf (fo_81 F) (ft_81 F) rfl rfl (leB rfl) (leB rfl) (z0 _) (z0 _) (Wp.mono h ?_)
    intro r7 Sq C8 h
    obtain ⟨e9, h⟩ := h
    rw [e9]
    show Wp (d + 1) mc ms M_X11_might 84 [cA 81, cI l1, cI l2, cI l3, cI l4] [cI r7, cI l3] S C8 Q
    refine wp_ldc_w (nx := 87) dX11_might_84 rfl kI_X11_338 (i32 (by decide)) ?_
    refine wp_icmp_ge (nx := 90) (tg := 97) dX11_might_87 rfl rfl (fun hc => ?_) (fun hc => ?_)
    · have h := h.1 hc
      refine wp_iconst (nx := 98) dX11_might_97 rfl (i32 (by decide)) ?_
      refine wp_ior (nx := 99) dX11_might_98 rfl ?_
      refine wp_istore_n (nx := 100) dX11_might_99 rfl (by decide) ?_
      refine wp_ls (ls2 := [cA 81, cI l1, cI l2, cI (iOr l3 0), cI l4]) rfl ?_
      refine wp_iinc (nx := 103) dX11_might_100 rfl rfl (by decide) ?_
      refine wp_ls (ls2 := [cA 81, cI l1, cI l2, cI (iOr l3 0), cI (w32 (l4 + 1))]) rfl ?_
      refine wp_goto (nx := 45) dX11_might_103 rfl ?_
      exact h
    · have h := h.2 hc
      refine wp_iconst (nx := 91) dX11_might_90 rfl (i32 (by decide)) ?_
      refine wp_iload (nx := 93) dX11_might_91 rfl rfl ?_
      refine wp_ishl (nx := 94) dX11_might_93 rfl ?_
      refine wp_goto (nx := 98) dX11_might_94 rfl ?_
      refine wp_ior (nx := 99) dX11_might_98 rfl ?_
      refine wp_istore_n (nx := 100) dX11_might_99 rfl (by decide) ?_
      refine wp_ls (ls2 := [cA 81, cI l1, cI l2, cI (iOr l3 (iShl 1 l4)), cI l4]) rfl ?_
      refine wp_iinc (nx := 103) dX11_might_100 rfl rfl (by decide) ?_
      refine wp_ls (ls2 := [cA 81, cI l1, cI l2, cI (iOr l3 (iShl 1 l4)), cI (w32 (l4 + 1))]) rfl ?_
      refine wp_goto (nx := 45) dX11_might_103 rfl ?_
      exact h
theorem b_X11_hasSet_0 {d mc ms : Nat} {l1 l2 l3 : Int} {S : MS} {C : MC} {Q : Int → MS → MC → Prop} (F : Fix S) (h : ((0 : Int) ≤ w32 ((w32 (256 * l1)) + l3) ∧ w32 ((w32 (256 * l1)) + l3) < 16384) ∧ K_X11_hasSet_17 d mc ms l1 l2 l3 (C 99 (w32 ((w32 (256 * l1)) + l3))) l3 S C Q) : K_X11_hasSet_0 d mc ms l1 l2 l3 S C Q := by
  show Wp d mc ms M_X11_hasSet 0 [cA 81, cI l1, cI l2, cI l3, cU, cU] [] S C Q
  refine wp_aload_n (nx := 1) dX11_hasSet_0 rfl rfl ?_
  refine wp_getAe (kk := 35) (nx := 4) clsX11 dX11_hasSet_1 rfl kF_X11_81 (by decide) (fo_81 F) (ft_81 F) rfl (fp_81_35 F) ?_
  refine wp_sipush (nx := 7) dX11_hasSet_4 rfl ⟨by decide, i32 (by decide)⟩ ?_
  refine wp_iload_n (nx := 8) dX11_hasSet_7 rfl rfl ?_
  refine wp_imul (nx := 9) dX11_hasSet_8 rfl ?_
  refine wp_iload_n (nx := 10) dX11_hasSet_9 rfl rfl ?_
  refine wp_iadd (nx := 11) dX11_hasSet_10 rfl ?_
  obtain ⟨hi, h⟩ := h
  refine wp_zaloadE (nx := 12) dX11_hasSet_11 rfl (fo_99 F) (fl_99 F) hi (ft_99 F) rfl ?_
  refine wp_istore (nx := 14) dX11_hasSet_12 rfl (by decide) ?_
  refine wp_ls (ls2 := [cA 81, cI l1, cI l2, cI l3, cI (C 99 (w32 ((w32 (256 * l1)) + l3))), cU]) rfl ?_
  refine wp_iload_n (nx := 15) dX11_hasSet_14 rfl rfl ?_
  refine wp_istore (nx := 17) dX11_hasSet_15 rfl (by decide) ?_
  refine wp_ls (ls2 := [cA 81, cI l1, cI l2, cI l3, cI (C 99 (w32 ((w32 (256 * l1)) + l3))), cI l3]) rfl ?_
  exact h
theorem b_X11_hasSet_17 {d mc ms : Nat} {l1 l2 l3 l4 l5 : Int} {S : MS} {C : MC} {Q : Int → MS → MC → Prop} (F : Fix S) (h : ((l5 ≤ 0 → ((l4 = 0 ∨ l4 = 1) ∧ Q l4 S C)) ∧ (¬ l5 ≤ 0 → ((¬ l4 = 0 → ((l4 = 0 ∨ l4 = 1) ∧ Q l4 S C)) ∧ (l4 = 0 → ((0 : Int) ≤ w32 ((w32 (256 * l2)) + l5) ∧ w32 ((w32 (256 * l2)) + l5) < 1536) ∧ ((1000001 ≤ C 94 (w32 ((w32 (256 * l2)) + l5)) → K_X11_hasSet_17 d mc ms l1 l2 l3 0 (iAnd (w32 (l5 - 1)) l3) S C Q) ∧ (¬ 1000001 ≤ C 94 (w32 ((w32 (256 * l2)) + l5)) → ((0 : Int) ≤ w32 ((w32 (256 * l1)) + (iXor l3 l5)) ∧ w32 ((w32 (256 * l1)) + (iXor l3 l5)) < 16384) ∧ ((C 99 (w32 ((w32 (256 * l1)) + (iXor l3 l5))) = 0 → K_X11_hasSet_17 d mc ms l1 l2 l3 0 (iAnd (w32 (l5 - 1)) l3) S C Q) ∧ (¬ C 99 (w32 ((w32 (256 * l1)) + (iXor l3 l5))) = 0 → K_X11_hasSet_17 d mc ms l1 l2 l3 1 (iAnd (w32 (l5 - 1)) l3) S C Q))))))))) : K_X11_hasSet_17 d mc ms l1 l2 l3 l4 l5 S C Q := by
  show Wp d mc ms M_X11_hasSet 17 [cA 81, cI l1, cI l2, cI l3, cI l4, cI l5] [] S C Q
  refine wp_iload (nx := 19) dX11_hasSet_17 rfl rfl ?_
  refine wp_if_le (nx := 22) (tg := 82) dX11_hasSet_19 rfl rfl (fun hc => ?_) (fun hc => ?_)
  · have h := h.1 hc
    refine wp_iload (nx := 84) dX11_hasSet_82 rfl rfl ?_
    obtain ⟨hz, h⟩ := h
    exact wp_ireturn dX11_hasSet_84 rfl rfl (nz_of hz) h
  · have h := h.2 hc
    refine wp_iload (nx := 24) dX11_hasSet_22 rfl rfl ?_
    refine wp_if_ne (nx := 27) (tg := 82) dX11_hasSet_24 rfl rfl (fun hc => ?_) (fun hc => ?_)
    · have h := h.1 hc
      refine wp_iload (nx := 84) dX11_hasSet_82 rfl rfl ?_
      obtain ⟨hz, h⟩ := h
      exact wp_ireturn dX11_hasSet_84 rfl rfl (nz_of hz) h
    · have h := h.2 hc
      refine wp_aload_n (nx := 28) dX11_hasSet_27 rfl rfl ?_
      refine wp_getAe (kk := 30) (nx := 31) clsX11 dX11_hasSet_28 rfl kF_X11_66 (by decide) (fo_81 F) (ft_81 F) rfl (fp_81_30 F) ?_
      refine wp_sipush (nx := 34) dX11_hasSet_31 rfl ⟨by decide, i32 (by decide)⟩ ?_
      refine wp_iload_n (nx := 35) dX11_hasSet_34 rfl rfl ?_
      refine wp_imul (nx := 36) dX11_hasSet_35 rfl ?_
      refine wp_iload (nx := 38) dX11_hasSet_36 rfl rfl ?_
      refine wp_iadd (nx := 39) dX11_hasSet_38 rfl ?_
      obtain ⟨hi, h⟩ := h
      refine wp_ialoadE (nx := 40) dX11_hasSet_39 rfl (fo_94 F) (fl_94 F) hi (ft_94 F) rfl ?_
      refine wp_ldc_w (nx := 43) dX11_hasSet_40 rfl kI_X11_338 (i32 (by decide)) ?_
      refine wp_icmp_ge (nx := 46) (tg := 68) dX11_hasSet_43 rfl rfl (fun hc => ?_) (fun hc => ?_)
      · have h := h.1 hc
        refine wp_iconst (nx := 69) dX11_hasSet_68 rfl (i32 (by decide)) ?_
        refine wp_istore (nx := 71) dX11_hasSet_69 rfl (by decide) ?_
        refine wp_ls (ls2 := [cA 81, cI l1, cI l2, cI l3, cI 0, cI l5]) rfl ?_
        refine wp_iload (nx := 73) dX11_hasSet_71 rfl rfl ?_
        refine wp_iconst (nx := 74) dX11_hasSet_73 rfl (i32 (by decide)) ?_
        refine wp_isub (nx := 75) dX11_hasSet_74 rfl ?_
        refine wp_iload_n (nx := 76) dX11_hasSet_75 rfl rfl ?_
        refine wp_iand (nx := 77) dX11_hasSet_76 rfl ?_
        refine wp_istore (nx := 79) dX11_hasSet_77 rfl (by decide) ?_
        refine wp_ls (ls2 := [cA 81, cI l1, cI l2, cI l3, cI 0, cI (iAnd (w32 (l5 - 1)) l3)]) rfl ?_
        refine wp_goto (nx := 17) dX11_hasSet_79 rfl ?_
        exact h
      · have h := h.2 hc
        refine wp_aload_n (nx := 47) dX11_hasSet_46 rfl rfl ?_
        refine wp_getAe (kk := 35) (nx := 50) clsX11 dX11_hasSet_47 rfl kF_X11_81 (by decide) (fo_81 F) (ft_81 F) rfl (fp_81_35 F) ?_
        refine wp_sipush (nx := 53) dX11_hasSet_50 rfl ⟨by decide, i32 (by decide)⟩ ?_
        refine wp_iload_n (nx := 54) dX11_hasSet_53 rfl rfl ?_
        refine wp_imul (nx := 55) dX11_hasSet_54 rfl ?_
        refine wp_iload_n (nx := 56) dX11_hasSet_55 rfl rfl ?_
        refine wp_iload (nx := 58) dX11_hasSet_56 rfl rfl ?_
        refine wp_ixor (nx := 59) dX11_hasSet_58 rfl ?_
        refine wp_iadd (nx := 60) dX11_hasSet_59 rfl ?_
        obtain ⟨hi, h⟩ := h
        refine wp_zaloadE (nx := 61) dX11_hasSet_60 rfl (fo_99 F) (fl_99 F) hi (ft_99 F) rfl ?_
        refine wp_if_eq (nx := 64) (tg := 68) dX11_hasSet_61 rfl rfl (fun hc => ?_) (fun hc => ?_)
        · have h := h.1 hc
          refine wp_iconst (nx := 69) dX11_hasSet_68 rfl (i32 (by decide)) ?_
          refine wp_istore (nx := 71) dX11_hasSet_69 rfl (by decide) ?_
          refine wp_ls (ls2 := [cA 81, cI l1, cI l2, cI l3, cI 0, cI l5]) rfl ?_
          refine wp_iload (nx := 73) dX11_hasSet_71 rfl rfl ?_
          refine wp_iconst (nx := 74) dX11_hasSet_73 rfl (i32 (by decide)) ?_
          refine wp_isub (nx := 75) dX11_hasSet_74 rfl ?_
          refine wp_iload_n (nx := 76) dX11_hasSet_75 rfl rfl ?_
          refine wp_iand (nx := 77) dX11_hasSet_76 rfl ?_
          refine wp_istore (nx := 79) dX11_hasSet_77 rfl (by decide) ?_
          refine wp_ls (ls2 := [cA 81, cI l1, cI l2, cI l3, cI 0, cI (iAnd (w32 (l5 - 1)) l3)]) rfl ?_
          refine wp_goto (nx := 17) dX11_hasSet_79 rfl ?_
          exact h
        · have h := h.2 hc
          refine wp_iconst (nx := 65) dX11_hasSet_64 rfl (i32 (by decide)) ?_
          refine wp_goto (nx := 69) dX11_hasSet_65 rfl ?_
          refine wp_istore (nx := 71) dX11_hasSet_69 rfl (by decide) ?_
          refine wp_ls (ls2 := [cA 81, cI l1, cI l2, cI l3, cI 1, cI l5]) rfl ?_
          refine wp_iload (nx := 73) dX11_hasSet_71 rfl rfl ?_
          refine wp_iconst (nx := 74) dX11_hasSet_73 rfl (i32 (by decide)) ?_
          refine wp_isub (nx := 75) dX11_hasSet_74 rfl ?_
          refine wp_iload_n (nx := 76) dX11_hasSet_75 rfl rfl ?_
          refine wp_iand (nx := 77) dX11_hasSet_76 rfl ?_
          refine wp_istore (nx := 79) dX11_hasSet_77 rfl (by decide) ?_
          refine wp_ls (ls2 := [cA 81, cI l1, cI l2, cI l3, cI 1, cI (iAnd (w32 (l5 - 1)) l3)]) rfl ?_
          refine wp_goto (nx := 17) dX11_hasSet_79 rfl ?_
          exact h
theorem b_X11_laysCrowds_0 {d mc ms : Nat} {l1 : Int} {S : MS} {C : MC} {Q : Int → MS → MC → Prop} (F : Fix S) (h : K_X11_musicAt_0 d 0 0 l1 S C (fun r1 Sq C2 => Sq = S ∧ K_X11_laysParts_0 d 0 0 l1 r1 S C2 (fun r3 Sq C4 => Sq = S ∧ K_X11_laysCrowds_14 (d + 1) mc ms r1 0 S C4 Q))) : K_X11_laysCrowds_0 (d + 1) mc ms l1 S C Q := by
  show Wp (d + 1) mc ms M_X11_laysCrowds 0 [cA 81, cI l1, cU, cU, cU, cU] [] S C Q
  refine wp_aload_n (nx := 1) dX11_laysCrowds_0 rfl rfl ?_
  refine wp_iload_n (nx := 2) dX11_laysCrowds_1 rfl rfl ?_
  refine wp_invV (nx := 5) (N := M_X11_musicAt) (as := [cI l1]) (st := []) (mc := 0) (ms := 0) (mc' := mc) (ms' := ms) (a := 81) clsX11 dX11_laysCrowds_2 rfl mok_X11_musicAt kM_X11_122 ki_X11_musicAt ke_X11_musicAt (fo_81 F) (ft_81 F) rfl rfl (leB rfl) (leB rfl) (z0 _) (z0 _) (Wp.mono h ?_)
  intro r1 Sq C2 h
  obtain ⟨e9, h⟩ := h
  rw [e9]
  show Wp (d + 1) mc ms M_X11_laysCrowds 5 [cA 81, cI l1, cU, cU, cU, cU] [cI r1] S C2 Q
  refine wp_istore_n (nx := 6) dX11_laysCrowds_5 rfl (by decide) ?_
  refine wp_ls (ls2 := [cA 81, cI l1, cI r1, cU, cU, cU]) rfl ?_
  refine wp_aload_n (nx := 7) dX11_laysCrowds_6 rfl rfl ?_
  refine wp_iload_n (nx := 8) dX11_laysCrowds_7 rfl rfl ?_
  refine wp_iload_n (nx := 9) dX11_laysCrowds_8 rfl rfl ?_
  refine wp_invV (nx := 12) (N := M_X11_laysParts) (as := [cI l1, cI r1]) (st := []) (mc := 0) (ms := 0) (mc' := mc) (ms' := ms) (a := 81) clsX11 dX11_laysCrowds_9 rfl mok_X11_laysParts kM_X11_345 ki_X11_laysParts ke_X11_laysParts (fo_81 F) (ft_81 F) rfl rfl (leB rfl) (leB rfl) (z0 _) (z0 _) (Wp.mono h ?_)
  intro r3 Sq C4 h
  obtain ⟨e9, h⟩ := h
  rw [e9]
  show Wp (d + 1) mc ms M_X11_laysCrowds 12 [cA 81, cI l1, cI r1, cU, cU, cU] [] S C4 Q
  refine wp_iconst (nx := 13) dX11_laysCrowds_12 rfl (i32 (by decide)) ?_
  refine wp_istore_n (nx := 14) dX11_laysCrowds_13 rfl (by decide) ?_
  refine wp_ls (ls2 := [cA 81, cI l1, cI r1, cI 0, cU, cU]) rfl ?_
  refine wp_fg [true, false, true, true, false, false] (ls2 := [cA 81, cU, cI r1, cI 0, cU, cU]) rfl ?_
  exact h
theorem b_X11_laysCrowds_14 {d mc ms : Nat} {l2 l3 : Int} {S : MS} {C : MC} {Q : Int → MS → MC → Prop} (F : Fix S) (h : K_X11_many_0 d 0 0 S C (fun r1 Sq C2 => Sq = S ∧ ((iShl 1 r1 ≤ l3 → Q 0 S C2) ∧ (¬ iShl 1 r1 ≤ l3 → K_X11_many_0 d 0 0 S C2 (fun r3 Sq C4 => Sq = S ∧ K_X11_laysCrowds_32 (d + 1) mc ms l2 l3 (w32 (r3 - 1)) S C4 Q))))) : K_X11_laysCrowds_14 (d + 1) mc ms l2 l3 S C Q := by
  show Wp (d + 1) mc ms M_X11_laysCrowds 14 [cA 81, cU, cI l2, cI l3, cU, cU] [] S C Q
  refine wp_iload_n (nx := 15) dX11_laysCrowds_14 rfl rfl ?_
  refine wp_iconst (nx := 16) dX11_laysCrowds_15 rfl (i32 (by decide)) ?_
  refine wp_aload_n (nx := 17) dX11_laysCrowds_16 rfl rfl ?_
  refine wp_invV (nx := 20) (N := M_X11_many) (as := []) (st := [cI 1, cI l3]) (mc := 0) (ms := 0) (mc' := mc) (ms' := ms) (a := 81) clsX11 dX11_laysCrowds_17 rfl mok_X11_many kM_X11_118 ki_X11_many ke_X11_many (fo_81 F) (ft_81 F) rfl rfl (leB rfl) (leB rfl) (z0 _) (z0 _) (Wp.mono h ?_)
  intro r1 Sq C2 h
  obtain ⟨e9, h⟩ := h
  rw [e9]
  show Wp (d + 1) mc ms M_X11_laysCrowds 20 [cA 81, cU, cI l2, cI l3, cU, cU] [cI r1, cI 1, cI l3] S C2 Q
  refine wp_ishl (nx := 21) dX11_laysCrowds_20 rfl ?_
  refine wp_icmp_ge (nx := 24) (tg := 128) dX11_laysCrowds_21 rfl rfl (fun hc => ?_) (fun hc => ?_)
  · have h := h.1 hc
    exact wp_return dX11_laysCrowds_128 rfl h
  · have h := h.2 hc
    refine wp_aload_n (nx := 25) dX11_laysCrowds_24 rfl rfl ?_
    refine wp_invV (nx := 28) (N := M_X11_many) (as := []) (st := []) (mc := 0) (ms := 0) (mc' := mc) (ms' := ms) (a := 81) clsX11 dX11_laysCrowds_25 rfl mok_X11_many kM_X11_118 ki_X11_many ke_X11_many (fo_81 F) (ft_81 F) rfl rfl (leB rfl) (leB rfl) (z0 _) (z0 _) (Wp.mono h ?_)
    intro r3 Sq C4 h
    obtain ⟨e9, h⟩ := h
    rw [e9]
    show Wp (d + 1) mc ms M_X11_laysCrowds 28 [cA 81, cU, cI l2, cI l3, cU, cU] [cI r3] S C4 Q
    refine wp_iconst (nx := 29) dX11_laysCrowds_28 rfl (i32 (by decide)) ?_
    refine wp_isub (nx := 30) dX11_laysCrowds_29 rfl ?_
    refine wp_istore (nx := 32) dX11_laysCrowds_30 rfl (by decide) ?_
    refine wp_ls (ls2 := [cA 81, cU, cI l2, cI l3, cI (w32 (r3 - 1)), cU]) rfl ?_
    exact h
theorem b_X11_laysCrowds_32 {d mc ms : Nat} {l2 l3 l4 : Int} {S : MS} {C : MC} {Q : Int → MS → MC → Prop} (F : Fix S) (h : ((l4 ≤ 0 → K_X11_laysCrowds_55 (d + 1) mc ms l2 l3 l4 0 S C Q) ∧ (¬ l4 ≤ 0 → K_X11_isIn_0 d 0 0 l3 l4 S C (fun r1 Sq C2 => Sq = S ∧ ((¬ r1 = 0 → K_X11_laysCrowds_55 (d + 1) mc ms l2 l3 l4 0 S C2 Q) ∧ (r1 = 0 → K_X11_laysCrowds_32 (d + 1) mc ms l2 l3 (w32 (l4 + (-1))) S C2 Q)))))) : K_X11_laysCrowds_32 (d + 1) mc ms l2 l3 l4 S C Q := by
  show Wp (d + 1) mc ms M_X11_laysCrowds 32 [cA 81, cU, cI l2, cI l3, cI l4, cU] [] S C Q
  refine wp_iload (nx := 34) dX11_laysCrowds_32 rfl rfl ?_
  refine wp_if_le (nx := 37) (tg := 52) dX11_laysCrowds_34 rfl rfl (fun hc => ?_) (fun hc => ?_)
  · have h := h.1 hc
    refine wp_iconst (nx := 53) dX11_laysCrowds_52 rfl (i32 (by decide)) ?_
    refine wp_istore (nx := 55) dX11_laysCrowds_53 rfl (by decide) ?_
    refine wp_ls (ls2 := [cA 81, cU, cI l2, cI l3, cI l4, cI 0]) rfl ?_
    exact h
  · have h := h.2 hc
    refine wp_iload_n (nx := 38) dX11_laysCrowds_37 rfl rfl ?_
    refine wp_iload (nx := 40) dX11_laysCrowds_38 rfl rfl ?_
    refine wp_invS (nx := 43) (N := M_X11_isIn) (as := [cI l3, cI l4]) (st := []) (mc := 0) (ms := 0) (mc' := mc) (ms' := ms) dX11_laysCrowds_40 rfl mok_X11_isIn kM_X11_335 ks_X11_isIn rfl rfl (leB rfl) (leB rfl) (z0 _) (z0 _) (Wp.mono h ?_)
    intro r1 Sq C2 h
    obtain ⟨e9, h⟩ := h
    rw [e9]
    show Wp (d + 1) mc ms M_X11_laysCrowds 43 [cA 81, cU, cI l2, cI l3, cI l4, cU] [cI r1] S C2 Q
    refine wp_if_ne (nx := 46) (tg := 52) dX11_laysCrowds_43 rfl rfl (fun hc => ?_) (fun hc => ?_)
    · have h := h.1 hc
      refine wp_iconst (nx := 53) dX11_laysCrowds_52 rfl (i32 (by decide)) ?_
      refine wp_istore (nx := 55) dX11_laysCrowds_53 rfl (by decide) ?_
      refine wp_ls (ls2 := [cA 81, cU, cI l2, cI l3, cI l4, cI 0]) rfl ?_
      exact h
    · have h := h.2 hc
      refine wp_iinc (nx := 49) dX11_laysCrowds_46 rfl rfl (by decide) ?_
      refine wp_ls (ls2 := [cA 81, cU, cI l2, cI l3, cI (w32 (l4 + (-1))), cU]) rfl ?_
      refine wp_goto (nx := 32) dX11_laysCrowds_49 rfl ?_
      exact h
theorem b_X11_laysCrowds_55 {d mc ms : Nat} {l2 l3 l4 l5 : Int} {S : MS} {C : MC} {Q : Int → MS → MC → Prop} (F : Fix S) (h : ((l2 < l5 → K_X11_laysCrowds_14 (d + 1) mc ms l2 (w32 (l3 + 1)) S C Q) ∧ (¬ l2 < l5 → ((¬ iAnd l5 (iXor l2 (-1)) = 0 → K_X11_laysCrowds_55 (d + 1) mc ms l2 l3 l4 (w32 (l5 + 1)) S C Q) ∧ (iAnd l5 (iXor l2 (-1)) = 0 → ((¬ l3 = 0 → K_X11_hasSet_0 d 0 0 (iAnd l3 (iXor (iShl 1 l4) (-1))) l4 l5 S C (fun r1 Sq C2 => Sq = S ∧ ((0 : Int) ≤ w32 ((w32 (256 * l3)) + l5) ∧ w32 ((w32 (256 * l3)) + l5) < 16384) ∧ K_X11_laysCrowds_55 (d + 1) mc ms l2 l3 l4 (w32 (l5 + 1)) S (upC C2 99 (w32 ((w32 (256 * l3)) + l5)) (nZ r1)) Q)) ∧ (l3 = 0 → ((¬ l5 = 0 → ((0 : Int) ≤ w32 ((w32 (256 * l3)) + l5) ∧ w32 ((w32 (256 * l3)) + l5) < 16384) ∧ K_X11_laysCrowds_55 (d + 1) mc ms l2 l3 l4 (w32 (l5 + 1)) S (upC C 99 (w32 ((w32 (256 * l3)) + l5)) (nZ 0)) Q) ∧ (l5 = 0 → ((0 : Int) ≤ w32 ((w32 (256 * l3)) + l5) ∧ w32 ((w32 (256 * l3)) + l5) < 16384) ∧ K_X11_laysCrowds_55 (d + 1) mc ms l2 l3 l4 (w32 (l5 + 1)) S (upC C 99 (w32 ((w32 (256 * l3)) + l5)) (nZ 1)) Q))))))))) : K_X11_laysCrowds_55 (d + 1) mc ms l2 l3 l4 l5 S C Q := by
  show Wp (d + 1) mc ms M_X11_laysCrowds 55 [cA 81, cU, cI l2, cI l3, cI l4, cI l5] [] S C Q
  refine wp_iload (nx := 57) dX11_laysCrowds_55 rfl rfl ?_
  refine wp_iload_n (nx := 58) dX11_laysCrowds_57 rfl rfl ?_
  refine wp_icmp_gt (nx := 61) (tg := 122) dX11_laysCrowds_58 rfl rfl (fun hc => ?_) (fun hc => ?_)
  · have h := h.1 hc
    refine wp_iinc (nx := 125) dX11_laysCrowds_122 rfl rfl (by decide) ?_
    refine wp_ls (ls2 := [cA 81, cU, cI l2, cI (w32 (l3 + 1)), cI l4, cI l5]) rfl ?_
    refine wp_goto (nx := 14) dX11_laysCrowds_125 rfl ?_
    refine wp_fg [true, false, true, true, false, false] (ls2 := [cA 81, cU, cI l2, cI (w32 (l3 + 1)), cU, cU]) rfl ?_
    exact h
  · have h := h.2 hc
    refine wp_iload (nx := 63) dX11_laysCrowds_61 rfl rfl ?_
    refine wp_iload_n (nx := 64) dX11_laysCrowds_63 rfl rfl ?_
    refine wp_iconst (nx := 65) dX11_laysCrowds_64 rfl (i32 (by decide)) ?_
    refine wp_ixor (nx := 66) dX11_laysCrowds_65 rfl ?_
    refine wp_iand (nx := 67) dX11_laysCrowds_66 rfl ?_
    refine wp_if_ne (nx := 70) (tg := 116) dX11_laysCrowds_67 rfl rfl (fun hc => ?_) (fun hc => ?_)
    · have h := h.1 hc
      refine wp_iinc (nx := 119) dX11_laysCrowds_116 rfl rfl (by decide) ?_
      refine wp_ls (ls2 := [cA 81, cU, cI l2, cI l3, cI l4, cI (w32 (l5 + 1))]) rfl ?_
      refine wp_goto (nx := 55) dX11_laysCrowds_119 rfl ?_
      exact h
    · have h := h.2 hc
      refine wp_aload_n (nx := 71) dX11_laysCrowds_70 rfl rfl ?_
      refine wp_getAe (kk := 35) (nx := 74) clsX11 dX11_laysCrowds_71 rfl kF_X11_81 (by decide) (fo_81 F) (ft_81 F) rfl (fp_81_35 F) ?_
      refine wp_sipush (nx := 77) dX11_laysCrowds_74 rfl ⟨by decide, i32 (by decide)⟩ ?_
      refine wp_iload_n (nx := 78) dX11_laysCrowds_77 rfl rfl ?_
      refine wp_imul (nx := 79) dX11_laysCrowds_78 rfl ?_
      refine wp_iload (nx := 81) dX11_laysCrowds_79 rfl rfl ?_
      refine wp_iadd (nx := 82) dX11_laysCrowds_81 rfl ?_
      refine wp_iload_n (nx := 83) dX11_laysCrowds_82 rfl rfl ?_
      refine wp_if_ne (nx := 86) (tg := 99) dX11_laysCrowds_83 rfl rfl (fun hc => ?_) (fun hc => ?_)
      · have h := h.1 hc
        refine wp_aload_n (nx := 100) dX11_laysCrowds_99 rfl rfl ?_
        refine wp_iload_n (nx := 101) dX11_laysCrowds_100 rfl rfl ?_
        refine wp_iconst (nx := 102) dX11_laysCrowds_101 rfl (i32 (by decide)) ?_
        refine wp_iload (nx := 104) dX11_laysCrowds_102 rfl rfl ?_
        refine wp_ishl (nx := 105) dX11_laysCrowds_104 rfl ?_
        refine wp_iconst (nx := 106) dX11_laysCrowds_105 rfl (i32 (by decide)) ?_
        refine wp_ixor (nx := 107) dX11_laysCrowds_106 rfl ?_
        refine wp_iand (nx := 108) dX11_laysCrowds_107 rfl ?_
        refine wp_iload (nx := 110) dX11_laysCrowds_108 rfl rfl ?_
        refine wp_iload (nx := 112) dX11_laysCrowds_110 rfl rfl ?_
        refine wp_invV (nx := 115) (N := M_X11_hasSet) (as := [cI (iAnd l3 (iXor (iShl 1 l4) (-1))), cI l4, cI l5]) (st := [cI (w32 ((w32 (256 * l3)) + l5)), cA 99]) (mc := 0) (ms := 0) (mc' := mc) (ms' := ms) (a := 81) clsX11 dX11_laysCrowds_112 rfl mok_X11_hasSet kM_X11_372 ki_X11_hasSet ke_X11_hasSet (fo_81 F) (ft_81 F) rfl rfl (leB rfl) (leB rfl) (z0 _) (z0 _) (Wp.mono h ?_)
        intro r1 Sq C2 h
        obtain ⟨e9, h⟩ := h
        rw [e9]
        show Wp (d + 1) mc ms M_X11_laysCrowds 115 [cA 81, cU, cI l2, cI l3, cI l4, cI l5] [cI r1, cI (w32 ((w32 (256 * l3)) + l5)), cA 99] S C2 Q
        obtain ⟨hi, h⟩ := h
        refine wp_zastoreE (nx := 116) dX11_laysCrowds_115 rfl (fo_99 F) (fl_99 F) hi (ft_99 F) ?_
        refine wp_iinc (nx := 119) dX11_laysCrowds_116 rfl rfl (by decide) ?_
        refine wp_ls (ls2 := [cA 81, cU, cI l2, cI l3, cI l4, cI (w32 (l5 + 1))]) rfl ?_
        refine wp_goto (nx := 55) dX11_laysCrowds_119 rfl ?_
        exact h
      · have h := h.2 hc
        refine wp_iload (nx := 88) dX11_laysCrowds_86 rfl rfl ?_
        refine wp_if_ne (nx := 91) (tg := 95) dX11_laysCrowds_88 rfl rfl (fun hc => ?_) (fun hc => ?_)
        · have h := h.1 hc
          refine wp_iconst (nx := 96) dX11_laysCrowds_95 rfl (i32 (by decide)) ?_
          refine wp_goto (nx := 115) dX11_laysCrowds_96 rfl ?_
          obtain ⟨hi, h⟩ := h
          refine wp_zastoreE (nx := 116) dX11_laysCrowds_115 rfl (fo_99 F) (fl_99 F) hi (ft_99 F) ?_
          refine wp_iinc (nx := 119) dX11_laysCrowds_116 rfl rfl (by decide) ?_
          refine wp_ls (ls2 := [cA 81, cU, cI l2, cI l3, cI l4, cI (w32 (l5 + 1))]) rfl ?_
          refine wp_goto (nx := 55) dX11_laysCrowds_119 rfl ?_
          exact h
        · have h := h.2 hc
          refine wp_iconst (nx := 92) dX11_laysCrowds_91 rfl (i32 (by decide)) ?_
          refine wp_goto (nx := 115) dX11_laysCrowds_92 rfl ?_
          obtain ⟨hi, h⟩ := h
          refine wp_zastoreE (nx := 116) dX11_laysCrowds_115 rfl (fo_99 F) (fl_99 F) hi (ft_99 F) ?_
          refine wp_iinc (nx := 119) dX11_laysCrowds_116 rfl rfl (by decide) ?_
          refine wp_ls (ls2 := [cA 81, cU, cI l2, cI l3, cI l4, cI (w32 (l5 + 1))]) rfl ?_
          refine wp_goto (nx := 55) dX11_laysCrowds_119 rfl ?_
          exact h
theorem b_X11_cover_0 {d mc ms : Nat} {l1 : Int} {S : MS} {C : MC} {Q : Int → MS → MC → Prop} (F : Fix S) (h : K_X11_lies_0 d 0 0 l1 0 1 S C (fun r1 Sq C2 => Sq = S ∧ ((¬ r1 = 0 → K_X11_many_0 d 0 0 S C2 (fun r3 Sq C4 => Sq = S ∧ K_X11_cover_20 (d + 1) mc ms l1 (iShl 1 r3) 0 S C4 Q)) ∧ (r1 = 0 → Q (-1) S C2)))) : K_X11_cover_0 (d + 1) mc ms l1 S C Q := by
  show Wp (d + 1) mc ms M_X11_cover 0 [cA 81, cI l1, cU, cU, cU] [] S C Q
  refine wp_iload_n (nx := 1) dX11_cover_0 rfl rfl ?_
  refine wp_iconst (nx := 2) dX11_cover_1 rfl (i32 (by decide)) ?_
  refine wp_iconst (nx := 3) dX11_cover_2 rfl (i32 (by decide)) ?_
  refine wp_invS (nx := 6) (N := M_X11_lies) (as := [cI l1, cI 0, cI 1]) (st := []) (mc := 0) (ms := 0) (mc' := mc) (ms' := ms) dX11_cover_3 rfl mok_X11_lies kM_X11_18 ks_X11_lies rfl rfl (leB rfl) (leB rfl) (z0 _) (z0 _) (Wp.mono h ?_)
  intro r1 Sq C2 h
  obtain ⟨e9, h⟩ := h
  rw [e9]
  show Wp (d + 1) mc ms M_X11_cover 6 [cA 81, cI l1, cU, cU, cU] [cI r1] S C2 Q
  refine wp_if_ne (nx := 9) (tg := 11) dX11_cover_6 rfl rfl (fun hc => ?_) (fun hc => ?_)
  · have h := h.1 hc
    refine wp_iconst (nx := 12) dX11_cover_11 rfl (i32 (by decide)) ?_
    refine wp_aload_n (nx := 13) dX11_cover_12 rfl rfl ?_
    refine wp_invV (nx := 16) (N := M_X11_many) (as := []) (st := [cI 1]) (mc := 0) (ms := 0) (mc' := mc) (ms' := ms) (a := 81) clsX11 dX11_cover_13 rfl mok_X11_many kM_X11_118 ki_X11_many ke_X11_many (fo_81 F) (ft_81 F) rfl rfl (leB rfl) (leB rfl) (z0 _) (z0 _) (Wp.mono h ?_)
    intro r3 Sq C4 h
    obtain ⟨e9, h⟩ := h
    rw [e9]
    show Wp (d + 1) mc ms M_X11_cover 16 [cA 81, cI l1, cU, cU, cU] [cI r3, cI 1] S C4 Q
    refine wp_ishl (nx := 17) dX11_cover_16 rfl ?_
    refine wp_istore_n (nx := 18) dX11_cover_17 rfl (by decide) ?_
    refine wp_ls (ls2 := [cA 81, cI l1, cI (iShl 1 r3), cU, cU]) rfl ?_
    refine wp_iconst (nx := 19) dX11_cover_18 rfl (i32 (by decide)) ?_
    refine wp_istore_n (nx := 20) dX11_cover_19 rfl (by decide) ?_
    refine wp_ls (ls2 := [cA 81, cI l1, cI (iShl 1 r3), cI 0, cU]) rfl ?_
    exact h
  · have h := h.2 hc
    refine wp_iconst (nx := 10) dX11_cover_9 rfl (i32 (by decide)) ?_
    exact wp_ireturn dX11_cover_10 rfl rfl rfl h
theorem b_X11_cover_20 {d mc ms : Nat} {l1 l2 l3 : Int} {S : MS} {C : MC} {Q : Int → MS → MC → Prop} (F : Fix S) (h : ((l2 ≤ l3 → K_X11_cover_40 (d + 1) mc ms l1 l2 0 S C Q) ∧ (¬ l2 ≤ l3 → ((0 : Int) ≤ l3 ∧ l3 < 64) ∧ K_X11_cover_20 (d + 1) mc ms l1 l2 (w32 (l3 + 1)) S (upC C 100 l3 (nZ 1)) Q))) : K_X11_cover_20 (d + 1) mc ms l1 l2 l3 S C Q := by
  show Wp (d + 1) mc ms M_X11_cover 20 [cA 81, cI l1, cI l2, cI l3, cU] [] S C Q
  refine wp_iload_n (nx := 21) dX11_cover_20 rfl rfl ?_
  refine wp_iload_n (nx := 22) dX11_cover_21 rfl rfl ?_
  refine wp_icmp_ge (nx := 25) (tg := 38) dX11_cover_22 rfl rfl (fun hc => ?_) (fun hc => ?_)
  · have h := h.1 hc
    refine wp_iconst (nx := 39) dX11_cover_38 rfl (i32 (by decide)) ?_
    refine wp_istore_n (nx := 40) dX11_cover_39 rfl (by decide) ?_
    refine wp_ls (ls2 := [cA 81, cI l1, cI l2, cI 0, cU]) rfl ?_
    exact h
  · have h := h.2 hc
    refine wp_aload_n (nx := 26) dX11_cover_25 rfl rfl ?_
    refine wp_getAe (kk := 36) (nx := 29) clsX11 dX11_cover_26 rfl kF_X11_84 (by decide) (fo_81 F) (ft_81 F) rfl (fp_81_36 F) ?_
    refine wp_iload_n (nx := 30) dX11_cover_29 rfl rfl ?_
    refine wp_iconst (nx := 31) dX11_cover_30 rfl (i32 (by decide)) ?_
    obtain ⟨hi, h⟩ := h
    refine wp_zastoreE (nx := 32) dX11_cover_31 rfl (fo_100 F) (fl_100 F) hi (ft_100 F) ?_
    refine wp_iinc (nx := 35) dX11_cover_32 rfl rfl (by decide) ?_
    refine wp_ls (ls2 := [cA 81, cI l1, cI l2, cI (w32 (l3 + 1)), cU]) rfl ?_
    refine wp_goto (nx := 20) dX11_cover_35 rfl ?_
    exact h
theorem b_X11_cover_40 {d mc ms : Nat} {l1 l2 l3 : Int} {S : MS} {C : MC} {Q : Int → MS → MC → Prop} (F : Fix S) (h : ((16 ≤ l3 → K_X11_cover_119 (d + 1) mc ms l1 l2 (-1) 0 S C Q) ∧ (¬ 16 ≤ l3 → K_X11_laysCrowds_0 d 0 0 l3 S C (fun r1 Sq C2 => Sq = S ∧ K_X11_cover_54 (d + 1) mc ms l1 l2 l3 0 S C2 Q)))) : K_X11_cover_40 (d + 1) mc ms l1 l2 l3 S C Q := by
  show Wp (d + 1) mc ms M_X11_cover 40 [cA 81, cI l1, cI l2, cI l3, cU] [] S C Q
  refine wp_iload_n (nx := 41) dX11_cover_40 rfl rfl ?_
  refine wp_bipush (nx := 43) dX11_cover_41 rfl ⟨by decide, i32 (by decide)⟩ ?_
  refine wp_icmp_ge (nx := 46) (tg := 114) dX11_cover_43 rfl rfl (fun hc => ?_) (fun hc => ?_)
  · have h := h.1 hc
    refine wp_iconst (nx := 115) dX11_cover_114 rfl (i32 (by decide)) ?_
    refine wp_istore_n (nx := 116) dX11_cover_115 rfl (by decide) ?_
    refine wp_ls (ls2 := [cA 81, cI l1, cI l2, cI (-1), cU]) rfl ?_
    refine wp_iconst (nx := 117) dX11_cover_116 rfl (i32 (by decide)) ?_
    refine wp_istore (nx := 119) dX11_cover_117 rfl (by decide) ?_
    refine wp_ls (ls2 := [cA 81, cI l1, cI l2, cI (-1), cI 0]) rfl ?_
    exact h
  · have h := h.2 hc
    refine wp_aload_n (nx := 47) dX11_cover_46 rfl rfl ?_
    refine wp_iload_n (nx := 48) dX11_cover_47 rfl rfl ?_
    refine wp_invV (nx := 51) (N := M_X11_laysCrowds) (as := [cI l3]) (st := []) (mc := 0) (ms := 0) (mc' := mc) (ms' := ms) (a := 81) clsX11 dX11_cover_48 rfl mok_X11_laysCrowds kM_X11_375 ki_X11_laysCrowds ke_X11_laysCrowds (fo_81 F) (ft_81 F) rfl rfl (leB rfl) (leB rfl) (z0 _) (z0 _) (Wp.mono h ?_)
    intro r1 Sq C2 h
    obtain ⟨e9, h⟩ := h
    rw [e9]
    show Wp (d + 1) mc ms M_X11_cover 51 [cA 81, cI l1, cI l2, cI l3, cU] [] S C2 Q
    refine wp_iconst (nx := 52) dX11_cover_51 rfl (i32 (by decide)) ?_
    refine wp_istore (nx := 54) dX11_cover_52 rfl (by decide) ?_
    refine wp_ls (ls2 := [cA 81, cI l1, cI l2, cI l3, cI 0]) rfl ?_
    exact h
theorem b_X11_cover_119 {d mc ms : Nat} {l1 l2 l3 l4 : Int} {S : MS} {C : MC} {Q : Int → MS → MC → Prop} (F : Fix S) (h : ((l2 ≤ l4 → ((l3 = (-1) → Q l3 S C) ∧ (¬ l3 = (-1) → ((¬ l1 = 1 → K_X11_ones_0 d 0 0 l3 S C (fun r1 Sq C2 => Sq = S ∧ Q r1 S C2)) ∧ (l1 = 1 → Q l3 S C))))) ∧ (¬ l2 ≤ l4 → ((0 : Int) ≤ l4 ∧ l4 < 64) ∧ ((C 100 l4 = 0 → K_X11_cover_119 (d + 1) mc ms l1 l2 l3 (w32 (l4 + 1)) S C Q) ∧ (¬ C 100 l4 = 0 → ((l3 = (-1) → K_X11_cover_119 (d + 1) mc ms l1 l2 l4 (w32 (l4 + 1)) S C Q) ∧ (¬ l3 = (-1) → K_X11_ones_0 d 0 0 l4 S C (fun r3 Sq C4 => Sq = S ∧ K_X11_ones_0 d 0 0 l3 S C4 (fun r5 Sq C6 => Sq = S ∧ ((r5 ≤ r3 → K_X11_cover_119 (d + 1) mc ms l1 l2 l3 (w32 (l4 + 1)) S C6 Q) ∧ (¬ r5 ≤ r3 → K_X11_cover_119 (d + 1) mc ms l1 l2 l4 (w32 (l4 + 1)) S C6 Q))))))))))) : K_X11_cover_119 (d + 1) mc ms l1 l2 l3 l4 S C Q := by
  show Wp (d + 1) mc ms M_X11_cover 119 [cA 81, cI l1, cI l2, cI l3, cI l4] [] S C Q
  refine wp_iload (nx := 121) dX11_cover_119 rfl rfl ?_
  refine wp_iload_n (nx := 122) dX11_cover_121 rfl rfl ?_
  refine wp_icmp_ge (nx := 125) (tg := 161) dX11_cover_122 rfl rfl (fun hc => ?_) (fun hc => ?_)
  · have h := h.1 hc
    refine wp_iload_n (nx := 162) dX11_cover_161 rfl rfl ?_
    refine wp_iconst (nx := 163) dX11_cover_162 rfl (i32 (by decide)) ?_
    refine wp_icmp_eq (nx := 166) (tg := 171) dX11_cover_163 rfl rfl (fun hc => ?_) (fun hc => ?_)
    · have h := h.1 hc
      refine wp_iload_n (nx := 172) dX11_cover_171 rfl rfl ?_
      refine wp_goto (nx := 179) dX11_cover_172 rfl ?_
      exact wp_ireturn dX11_cover_179 rfl rfl rfl h
    · have h := h.2 hc
      refine wp_iload_n (nx := 167) dX11_cover_166 rfl rfl ?_
      refine wp_iconst (nx := 168) dX11_cover_167 rfl (i32 (by decide)) ?_
      refine wp_icmp_ne (nx := 171) (tg := 175) dX11_cover_168 rfl rfl (fun hc => ?_) (fun hc => ?_)
      · have h := h.1 hc
        refine wp_iload_n (nx := 176) dX11_cover_175 rfl rfl ?_
        refine wp_invS (nx := 179) (N := M_X11_ones) (as := [cI l3]) (st := []) (mc := 0) (ms := 0) (mc' := mc) (ms' := ms) dX11_cover_176 rfl mok_X11_ones kM_X11_125 ks_X11_ones rfl rfl (leB rfl) (leB rfl) (z0 _) (z0 _) (Wp.mono h ?_)
        intro r1 Sq C2 h
        obtain ⟨e9, h⟩ := h
        rw [e9]
        show Wp (d + 1) mc ms M_X11_cover 179 [cA 81, cI l1, cI l2, cI l3, cI l4] [cI r1] S C2 Q
        exact wp_ireturn dX11_cover_179 rfl rfl rfl h
      · have h := h.2 hc
        refine wp_iload_n (nx := 172) dX11_cover_171 rfl rfl ?_
        refine wp_goto (nx := 179) dX11_cover_172 rfl ?_
        exact wp_ireturn dX11_cover_179 rfl rfl rfl h
  · have h := h.2 hc
    refine wp_aload_n (nx := 126) dX11_cover_125 rfl rfl ?_
    refine wp_getAe (kk := 36) (nx := 129) clsX11 dX11_cover_126 rfl kF_X11_84 (by decide) (fo_81 F) (ft_81 F) rfl (fp_81_36 F) ?_
    refine wp_iload (nx := 131) dX11_cover_129 rfl rfl ?_
    obtain ⟨hi, h⟩ := h
    refine wp_zaloadE (nx := 132) dX11_cover_131 rfl (fo_100 F) (fl_100 F) hi (ft_100 F) rfl ?_
    refine wp_if_eq (nx := 135) (tg := 155) dX11_cover_132 rfl rfl (fun hc => ?_) (fun hc => ?_)
    · have h := h.1 hc
      refine wp_iinc (nx := 158) dX11_cover_155 rfl rfl (by decide) ?_
      refine wp_ls (ls2 := [cA 81, cI l1, cI l2, cI l3, cI (w32 (l4 + 1))]) rfl ?_
      refine wp_goto (nx := 119) dX11_cover_158 rfl ?_
      exact h
    · have h := h.2 hc
      refine wp_iload_n (nx := 136) dX11_cover_135 rfl rfl ?_
      refine wp_iconst (nx := 137) dX11_cover_136 rfl (i32 (by decide)) ?_
      refine wp_icmp_eq (nx := 140) (tg := 152) dX11_cover_137 rfl rfl (fun hc => ?_) (fun hc => ?_)
      · have h := h.1 hc
        refine wp_iload (nx := 154) dX11_cover_152 rfl rfl ?_
        refine wp_istore_n (nx := 155) dX11_cover_154 rfl (by decide) ?_
        refine wp_ls (ls2 := [cA 81, cI l1, cI l2, cI l4, cI l4]) rfl ?_
        refine wp_iinc (nx := 158) dX11_cover_155 rfl rfl (by decide) ?_
        refine wp_ls (ls2 := [cA 81, cI l1, cI l2, cI l4, cI (w32 (l4 + 1))]) rfl ?_
        refine wp_goto (nx := 119) dX11_cover_158 rfl ?_
        exact h
      · have h := h.2 hc
        refine wp_iload (nx := 142) dX11_cover_140 rfl rfl ?_
        refine wp_invS (nx := 145) (N := M_X11_ones) (as := [cI l4]) (st := []) (mc := 0) (ms := 0) (mc' := mc) (ms' := ms) dX11_cover_142 rfl mok_X11_ones kM_X11_125 ks_X11_ones rfl rfl (leB rfl) (leB rfl) (z0 _) (z0 _) (Wp.mono h ?_)
        intro r3 Sq C4 h
        obtain ⟨e9, h⟩ := h
        rw [e9]
        show Wp (d + 1) mc ms M_X11_cover 145 [cA 81, cI l1, cI l2, cI l3, cI l4] [cI r3] S C4 Q
        refine wp_iload_n (nx := 146) dX11_cover_145 rfl rfl ?_
        refine wp_invS (nx := 149) (N := M_X11_ones) (as := [cI l3]) (st := [cI r3]) (mc := 0) (ms := 0) (mc' := mc) (ms' := ms) dX11_cover_146 rfl mok_X11_ones kM_X11_125 ks_X11_ones rfl rfl (leB rfl) (leB rfl) (z0 _) (z0 _) (Wp.mono h ?_)
        intro r5 Sq C6 h
        obtain ⟨e9, h⟩ := h
        rw [e9]
        show Wp (d + 1) mc ms M_X11_cover 149 [cA 81, cI l1, cI l2, cI l3, cI l4] [cI r5, cI r3] S C6 Q
        refine wp_icmp_ge (nx := 152) (tg := 155) dX11_cover_149 rfl rfl (fun hc => ?_) (fun hc => ?_)
        · have h := h.1 hc
          refine wp_iinc (nx := 158) dX11_cover_155 rfl rfl (by decide) ?_
          refine wp_ls (ls2 := [cA 81, cI l1, cI l2, cI l3, cI (w32 (l4 + 1))]) rfl ?_
          refine wp_goto (nx := 119) dX11_cover_158 rfl ?_
          exact h
        · have h := h.2 hc
          refine wp_iload (nx := 154) dX11_cover_152 rfl rfl ?_
          refine wp_istore_n (nx := 155) dX11_cover_154 rfl (by decide) ?_
          refine wp_ls (ls2 := [cA 81, cI l1, cI l2, cI l4, cI l4]) rfl ?_
          refine wp_iinc (nx := 158) dX11_cover_155 rfl rfl (by decide) ?_
          refine wp_ls (ls2 := [cA 81, cI l1, cI l2, cI l4, cI (w32 (l4 + 1))]) rfl ?_
          refine wp_goto (nx := 119) dX11_cover_158 rfl ?_
          exact h
theorem b_X11_cover_54 {d mc ms : Nat} {l1 l2 l3 l4 : Int} {S : MS} {C : MC} {Q : Int → MS → MC → Prop} (F : Fix S) (h : ((l2 ≤ l4 → K_X11_cover_40 (d + 1) mc ms l1 l2 (w32 (l3 + 1)) S C Q) ∧ (¬ l2 ≤ l4 → ((0 : Int) ≤ l4 ∧ l4 < 64) ∧ ((C 100 l4 = 0 → ((0 : Int) ≤ l4 ∧ l4 < 64) ∧ K_X11_cover_54 (d + 1) mc ms l1 l2 l3 (w32 (l4 + 1)) S (upC C 100 l4 (nZ 0)) Q) ∧ (¬ C 100 l4 = 0 → K_X11_musicAt_0 d 0 0 l3 S C (fun r1 Sq C2 => Sq = S ∧ ((0 : Int) ≤ w32 ((w32 (256 * l4)) + r1) ∧ w32 ((w32 (256 * l4)) + r1) < 16384) ∧ ((C2 99 (w32 ((w32 (256 * l4)) + r1)) = 0 → ((0 : Int) ≤ l4 ∧ l4 < 64) ∧ K_X11_cover_54 (d + 1) mc ms l1 l2 l3 (w32 (l4 + 1)) S (upC C2 100 l4 (nZ 0)) Q) ∧ (¬ C2 99 (w32 ((w32 (256 * l4)) + r1)) = 0 → ((0 : Int) ≤ l4 ∧ l4 < 64) ∧ K_X11_cover_54 (d + 1) mc ms l1 l2 l3 (w32 (l4 + 1)) S (upC C2 100 l4 (nZ 1)) Q)))))))) : K_X11_cover_54 (d + 1) mc ms l1 l2 l3 l4 S C Q := by
  show Wp (d + 1) mc ms M_X11_cover 54 [cA 81, cI l1, cI l2, cI l3, cI l4] [] S C Q
  refine wp_iload (nx := 56) dX11_cover_54 rfl rfl ?_
  refine wp_iload_n (nx := 57) dX11_cover_56 rfl rfl ?_
  refine wp_icmp_ge (nx := 60) (tg := 108) dX11_cover_57 rfl rfl (fun hc => ?_) (fun hc => ?_)
  · have h := h.1 hc
    refine wp_iinc (nx := 111) dX11_cover_108 rfl rfl (by decide) ?_
    refine wp_ls (ls2 := [cA 81, cI l1, cI l2, cI (w32 (l3 + 1)), cI l4]) rfl ?_
    refine wp_goto (nx := 40) dX11_cover_111 rfl ?_
    refine wp_fg [true, true, true, true, false] (ls2 := [cA 81, cI l1, cI l2, cI (w32 (l3 + 1)), cU]) rfl ?_
    exact h
  · have h := h.2 hc
    refine wp_aload_n (nx := 61) dX11_cover_60 rfl rfl ?_
    refine wp_getAe (kk := 36) (nx := 64) clsX11 dX11_cover_61 rfl kF_X11_84 (by decide) (fo_81 F) (ft_81 F) rfl (fp_81_36 F) ?_
    refine wp_iload (nx := 66) dX11_cover_64 rfl rfl ?_
    refine wp_aload_n (nx := 67) dX11_cover_66 rfl rfl ?_
    refine wp_getAe (kk := 36) (nx := 70) clsX11 dX11_cover_67 rfl kF_X11_84 (by decide) (fo_81 F) (ft_81 F) rfl (fp_81_36 F) ?_
    refine wp_iload (nx := 72) dX11_cover_70 rfl rfl ?_
    obtain ⟨hi, h⟩ := h
    refine wp_zaloadE (nx := 73) dX11_cover_72 rfl (fo_100 F) (fl_100 F) hi (ft_100 F) rfl ?_
    refine wp_if_eq (nx := 76) (tg := 100) dX11_cover_73 rfl rfl (fun hc => ?_) (fun hc => ?_)
    · have h := h.1 hc
      refine wp_iconst (nx := 101) dX11_cover_100 rfl (i32 (by decide)) ?_
      obtain ⟨hi, h⟩ := h
      refine wp_zastoreE (nx := 102) dX11_cover_101 rfl (fo_100 F) (fl_100 F) hi (ft_100 F) ?_
      refine wp_iinc (nx := 105) dX11_cover_102 rfl rfl (by decide) ?_
      refine wp_ls (ls2 := [cA 81, cI l1, cI l2, cI l3, cI (w32 (l4 + 1))]) rfl ?_
      refine wp_goto (nx := 54) dX11_cover_105 rfl ?_
      exact h
    · have h := h.2 hc
      refine wp_aload_n (nx := 77) dX11_cover_76 rfl rfl ?_
      refine wp_getAe (kk := 35) (nx := 80) clsX11 dX11_cover_77 rfl kF_X11_81 (by decide) (fo_81 F) (ft_81 F) rfl (fp_81_35 F) ?_
      refine wp_sipush (nx := 83) dX11_cover_80 rfl ⟨by decide, i32 (by decide)⟩ ?_
      refine wp_iload (nx := 85) dX11_cover_83 rfl rfl ?_
      refine wp_imul (nx := 86) dX11_cover_85 rfl ?_
      refine wp_aload_n (nx := 87) dX11_cover_86 rfl rfl ?_
      refine wp_iload_n (nx := 88) dX11_cover_87 rfl rfl ?_
      refine wp_invV (nx := 91) (N := M_X11_musicAt) (as := [cI l3]) (st := [cI (w32 (256 * l4)), cA 99, cI l4, cA 100]) (mc := 0) (ms := 0) (mc' := mc) (ms' := ms) (a := 81) clsX11 dX11_cover_88 rfl mok_X11_musicAt kM_X11_122 ki_X11_musicAt ke_X11_musicAt (fo_81 F) (ft_81 F) rfl rfl (leB rfl) (leB rfl) (z0 _) (z0 _) (Wp.mono h ?_)
      intro r1 Sq C2 h
      obtain ⟨e9, h⟩ := h
      rw [e9]
      show Wp (d + 1) mc ms M_X11_cover 91 [cA 81, cI l1, cI l2, cI l3, cI l4] [cI r1, cI (w32 (256 * l4)), cA 99, cI l4, cA 100] S C2 Q
      refine wp_iadd (nx := 92) dX11_cover_91 rfl ?_
      obtain ⟨hi, h⟩ := h
      refine wp_zaloadE (nx := 93) dX11_cover_92 rfl (fo_99 F) (fl_99 F) hi (ft_99 F) rfl ?_
      refine wp_if_eq (nx := 96) (tg := 100) dX11_cover_93 rfl rfl (fun hc => ?_) (fun hc => ?_)
      · have h := h.1 hc
        refine wp_iconst (nx := 101) dX11_cover_100 rfl (i32 (by decide)) ?_
        obtain ⟨hi, h⟩ := h
        refine wp_zastoreE (nx := 102) dX11_cover_101 rfl (fo_100 F) (fl_100 F) hi (ft_100 F) ?_
        refine wp_iinc (nx := 105) dX11_cover_102 rfl rfl (by decide) ?_
        refine wp_ls (ls2 := [cA 81, cI l1, cI l2, cI l3, cI (w32 (l4 + 1))]) rfl ?_
        refine wp_goto (nx := 54) dX11_cover_105 rfl ?_
        exact h
      · have h := h.2 hc
        refine wp_iconst (nx := 97) dX11_cover_96 rfl (i32 (by decide)) ?_
        refine wp_goto (nx := 101) dX11_cover_97 rfl ?_
        obtain ⟨hi, h⟩ := h
        refine wp_zastoreE (nx := 102) dX11_cover_101 rfl (fo_100 F) (fl_100 F) hi (ft_100 F) ?_
        refine wp_iinc (nx := 105) dX11_cover_102 rfl rfl (by decide) ?_
        refine wp_ls (ls2 := [cA 81, cI l1, cI l2, cI l3, cI (w32 (l4 + 1))]) rfl ?_
        refine wp_goto (nx := 54) dX11_cover_105 rfl ?_
        exact h
theorem b_X11_run_0 {d mc ms : Nat} {l1 l2 : Int} {S : MS} {C : MC} {Q : Int → MS → MC → Prop} (F : Fix S) (h : K_X11_many_0 d 0 0 S C (fun r1 Sq C2 => Sq = S ∧ K_X11_lies_0 d 0 0 l1 0 (w32 ((iShl 1 r1) - 1)) S C2 (fun r3 Sq C4 => Sq = S ∧ ((r3 = 0 → Q (-1) S C4) ∧ (¬ r3 = 0 → K_X11_lies_0 d 0 0 l2 0 1 S C4 (fun r5 Sq C6 => Sq = S ∧ ((¬ r5 = 0 → K_X11_run_38 (d + 1) mc ms l1 l2 0 (-1) 0 0 S C6 Q) ∧ (r5 = 0 → Q (-1) S C6)))))))) : K_X11_run_0 (d + 1) mc ms l1 l2 S C Q := by
  show Wp (d + 1) mc ms M_X11_run 0 [cA 81, cI l1, cI l2, cU, cU, cU, cU] [] S C Q
  refine wp_iload_n (nx := 1) dX11_run_0 rfl rfl ?_
  refine wp_iconst (nx := 2) dX11_run_1 rfl (i32 (by decide)) ?_
  refine wp_iconst (nx := 3) dX11_run_2 rfl (i32 (by decide)) ?_
  refine wp_aload_n (nx := 4) dX11_run_3 rfl rfl ?_
  refine wp_invV (nx := 7) (N := M_X11_many) (as := []) (st := [cI 1, cI 0, cI l1]) (mc := 0) (ms := 0) (mc' := mc) (ms' := ms) (a := 81) clsX11 dX11_run_4 rfl mok_X11_many kM_X11_118 ki_X11_many ke_X11_many (fo_81 F) (ft_81 F) rfl rfl (leB rfl) (leB rfl) (z0 _) (z0 _) (Wp.mono h ?_)
  intro r1 Sq C2 h
  obtain ⟨e9, h⟩ := h
  rw [e9]
  show Wp (d + 1) mc ms M_X11_run 7 [cA 81, cI l1, cI l2, cU, cU, cU, cU] [cI r1, cI 1, cI 0, cI l1] S C2 Q
  refine wp_ishl (nx := 8) dX11_run_7 rfl ?_
  refine wp_iconst (nx := 9) dX11_run_8 rfl (i32 (by decide)) ?_
  refine wp_isub (nx := 10) dX11_run_9 rfl ?_
  refine wp_invS (nx := 13) (N := M_X11_lies) (as := [cI l1, cI 0, cI (w32 ((iShl 1 r1) - 1))]) (st := []) (mc := 0) (ms := 0) (mc' := mc) (ms' := ms) dX11_run_10 rfl mok_X11_lies kM_X11_18 ks_X11_lies rfl rfl (leB rfl) (leB rfl) (z0 _) (z0 _) (Wp.mono h ?_)
  intro r3 Sq C4 h
  obtain ⟨e9, h⟩ := h
  rw [e9]
  show Wp (d + 1) mc ms M_X11_run 13 [cA 81, cI l1, cI l2, cU, cU, cU, cU] [cI r3] S C4 Q
  refine wp_if_eq (nx := 16) (tg := 25) dX11_run_13 rfl rfl (fun hc => ?_) (fun hc => ?_)
  · have h := h.1 hc
    refine wp_iconst (nx := 26) dX11_run_25 rfl (i32 (by decide)) ?_
    exact wp_ireturn dX11_run_26 rfl rfl rfl h
  · have h := h.2 hc
    refine wp_iload_n (nx := 17) dX11_run_16 rfl rfl ?_
    refine wp_iconst (nx := 18) dX11_run_17 rfl (i32 (by decide)) ?_
    refine wp_iconst (nx := 19) dX11_run_18 rfl (i32 (by decide)) ?_
    refine wp_invS (nx := 22) (N := M_X11_lies) (as := [cI l2, cI 0, cI 1]) (st := []) (mc := 0) (ms := 0) (mc' := mc) (ms' := ms) dX11_run_19 rfl mok_X11_lies kM_X11_18 ks_X11_lies rfl rfl (leB rfl) (leB rfl) (z0 _) (z0 _) (Wp.mono h ?_)
    intro r5 Sq C6 h
    obtain ⟨e9, h⟩ := h
    rw [e9]
    show Wp (d + 1) mc ms M_X11_run 22 [cA 81, cI l1, cI l2, cU, cU, cU, cU] [cI r5] S C6 Q
    refine wp_if_ne (nx := 25) (tg := 27) dX11_run_22 rfl rfl (fun hc => ?_) (fun hc => ?_)
    · have h := h.1 hc
      refine wp_iconst (nx := 28) dX11_run_27 rfl (i32 (by decide)) ?_
      refine wp_istore_n (nx := 29) dX11_run_28 rfl (by decide) ?_
      refine wp_ls (ls2 := [cA 81, cI l1, cI l2, cI 0, cU, cU, cU]) rfl ?_
      refine wp_iconst (nx := 30) dX11_run_29 rfl (i32 (by decide)) ?_
      refine wp_istore (nx := 32) dX11_run_30 rfl (by decide) ?_
      refine wp_ls (ls2 := [cA 81, cI l1, cI l2, cI 0, cI (-1), cU, cU]) rfl ?_
      refine wp_iconst (nx := 33) dX11_run_32 rfl (i32 (by decide)) ?_
      refine wp_istore (nx := 35) dX11_run_33 rfl (by decide) ?_
      refine wp_ls (ls2 := [cA 81, cI l1, cI l2, cI 0, cI (-1), cI 0, cU]) rfl ?_
      refine wp_iconst (nx := 36) dX11_run_35 rfl (i32 (by decide)) ?_
      refine wp_istore (nx := 38) dX11_run_36 rfl (by decide) ?_
      refine wp_ls (ls2 := [cA 81, cI l1, cI l2, cI 0, cI (-1), cI 0, cI 0]) rfl ?_
      exact h
    · have h := h.2 hc
      refine wp_iconst (nx := 26) dX11_run_25 rfl (i32 (by decide)) ?_
      exact wp_ireturn dX11_run_26 rfl rfl rfl h
theorem b_X11_run_38 {d mc ms : Nat} {l1 l2 l3 l4 l5 l6 : Int} {S : MS} {C : MC} {Q : Int → MS → MC → Prop} (F : Fix S) (h : ((16 ≤ l6 → ((¬ l2 = 0 → Q l4 S C) ∧ (l2 = 0 → Q l3 S C))) ∧ (¬ 16 ≤ l6 → K_X11_laysCrowds_0 d 0 0 l6 S C (fun r1 Sq C2 => Sq = S ∧ K_X11_musicAt_0 d 0 0 l6 S C2 (fun r3 Sq C4 => Sq = S ∧ ((0 : Int) ≤ w32 ((w32 (256 * l1)) + r3) ∧ w32 ((w32 (256 * l1)) + r3) < 16384) ∧ ((C4 99 (w32 ((w32 (256 * l1)) + r3)) = 0 → ((l3 < (0 : Int) → K_X11_run_38 (d + 1) mc ms l1 l2 0 (w32 ((w32 (l6 - 0)) + 1)) 0 (w32 (l6 + 1)) S C4 Q) ∧ (¬ l3 < (0 : Int) → K_X11_run_38 (d + 1) mc ms l1 l2 l3 l4 0 (w32 (l6 + 1)) S C4 Q))) ∧ (¬ C4 99 (w32 ((w32 (256 * l1)) + r3)) = 0 → ((l3 < w32 (l5 + 1) → K_X11_run_38 (d + 1) mc ms l1 l2 (w32 (l5 + 1)) (w32 ((w32 (l6 - (w32 (l5 + 1)))) + 1)) (w32 (l5 + 1)) (w32 (l6 + 1)) S C4 Q) ∧ (¬ l3 < w32 (l5 + 1) → K_X11_run_38 (d + 1) mc ms l1 l2 l3 l4 (w32 (l5 + 1)) (w32 (l6 + 1)) S C4 Q))))))))) : K_X11_run_38 (d + 1) mc ms l1 l2 l3 l4 l5 l6 S C Q := by
  show Wp (d + 1) mc ms M_X11_run 38 [cA 81, cI l1, cI l2, cI l3, cI l4, cI l5, cI l6] [] S C Q
  refine wp_iload (nx := 40) dX11_run_38 rfl rfl ?_
  refine wp_bipush (nx := 42) dX11_run_40 rfl ⟨by decide, i32 (by decide)⟩ ?_
  refine wp_icmp_ge (nx := 45) (tg := 108) dX11_run_42 rfl rfl (fun hc => ?_) (fun hc => ?_)
  · have h := h.1 hc
    refine wp_iload_n (nx := 109) dX11_run_108 rfl rfl ?_
    refine wp_if_ne (nx := 112) (tg := 116) dX11_run_109 rfl rfl (fun hc => ?_) (fun hc => ?_)
    · have h := h.1 hc
      refine wp_iload (nx := 118) dX11_run_116 rfl rfl ?_
      exact wp_ireturn dX11_run_118 rfl rfl rfl h
    · have h := h.2 hc
      refine wp_iload_n (nx := 113) dX11_run_112 rfl rfl ?_
      refine wp_goto (nx := 118) dX11_run_113 rfl ?_
      exact wp_ireturn dX11_run_118 rfl rfl rfl h
  · have h := h.2 hc
    refine wp_aload_n (nx := 46) dX11_run_45 rfl rfl ?_
    refine wp_iload (nx := 48) dX11_run_46 rfl rfl ?_
    refine wp_invV (nx := 51) (N := M_X11_laysCrowds) (as := [cI l6]) (st := []) (mc := 0) (ms := 0) (mc' := mc) (ms' := ms) (a := 81) clsX11 dX11_run_48 rfl mok_X11_laysCrowds kM_X11_375 ki_X11_laysCrowds ke_X11_laysCrowds (fo_81 F) (ft_81 F) rfl rfl (leB rfl) (leB rfl) (z0 _) (z0 _) (Wp.mono h ?_)
    intro r1 Sq C2 h
    obtain ⟨e9, h⟩ := h
    rw [e9]
    show Wp (d + 1) mc ms M_X11_run 51 [cA 81, cI l1, cI l2, cI l3, cI l4, cI l5, cI l6] [] S C2 Q
    refine wp_aload_n (nx := 52) dX11_run_51 rfl rfl ?_
    refine wp_getAe (kk := 35) (nx := 55) clsX11 dX11_run_52 rfl kF_X11_81 (by decide) (fo_81 F) (ft_81 F) rfl (fp_81_35 F) ?_
    refine wp_sipush (nx := 58) dX11_run_55 rfl ⟨by decide, i32 (by decide)⟩ ?_
    refine wp_iload_n (nx := 59) dX11_run_58 rfl rfl ?_
    refine wp_imul (nx := 60) dX11_run_59 rfl ?_
    refine wp_aload_n (nx := 61) dX11_run_60 rfl rfl ?_
    refine wp_iload (nx := 63) dX11_run_61 rfl rfl ?_
    refine wp_invV (nx := 66) (N := M_X11_musicAt) (as := [cI l6]) (st := [cI (w32 (256 * l1)), cA 99]) (mc := 0) (ms := 0) (mc' := mc) (ms' := ms) (a := 81) clsX11 dX11_run_63 rfl mok_X11_musicAt kM_X11_122 ki_X11_musicAt ke_X11_musicAt (fo_81 F) (ft_81 F) rfl rfl (leB rfl) (leB rfl) (z0 _) (z0 _) (Wp.mono h ?_)
    intro r3 Sq C4 h
    obtain ⟨e9, h⟩ := h
    rw [e9]
    show Wp (d + 1) mc ms M_X11_run 66 [cA 81, cI l1, cI l2, cI l3, cI l4, cI l5, cI l6] [cI r3, cI (w32 (256 * l1)), cA 99] S C4 Q
    refine wp_iadd (nx := 67) dX11_run_66 rfl ?_
    obtain ⟨hi, h⟩ := h
    refine wp_zaloadE (nx := 68) dX11_run_67 rfl (fo_99 F) (fl_99 F) hi (ft_99 F) rfl ?_
    refine wp_if_eq (nx := 71) (tg := 78) dX11_run_68 rfl rfl (fun hc => ?_) (fun hc => ?_)
    · have h := h.1 hc
      refine wp_iconst (nx := 79) dX11_run_78 rfl (i32 (by decide)) ?_
      refine wp_istore (nx := 81) dX11_run_79 rfl (by decide) ?_
      refine wp_ls (ls2 := [cA 81, cI l1, cI l2, cI l3, cI l4, cI 0, cI l6]) rfl ?_
      refine wp_iload (nx := 83) dX11_run_81 rfl rfl ?_
      refine wp_iload_n (nx := 84) dX11_run_83 rfl rfl ?_
      refine wp_icmp_gt (nx := 87) (tg := 90) dX11_run_84 rfl rfl (fun hc => ?_) (fun hc => ?_)
      · have h := h.1 hc
        refine wp_iload (nx := 92) dX11_run_90 rfl rfl ?_
        refine wp_istore_n (nx := 93) dX11_run_92 rfl (by decide) ?_
        refine wp_ls (ls2 := [cA 81, cI l1, cI l2, cI 0, cI l4, cI 0, cI l6]) rfl ?_
        refine wp_iload (nx := 95) dX11_run_93 rfl rfl ?_
        refine wp_iload (nx := 97) dX11_run_95 rfl rfl ?_
        refine wp_isub (nx := 98) dX11_run_97 rfl ?_
        refine wp_iconst (nx := 99) dX11_run_98 rfl (i32 (by decide)) ?_
        refine wp_iadd (nx := 100) dX11_run_99 rfl ?_
        refine wp_istore (nx := 102) dX11_run_100 rfl (by decide) ?_
        refine wp_ls (ls2 := [cA 81, cI l1, cI l2, cI 0, cI (w32 ((w32 (l6 - 0)) + 1)), cI 0, cI l6]) rfl ?_
        refine wp_iinc (nx := 105) dX11_run_102 rfl rfl (by decide) ?_
        refine wp_ls (ls2 := [cA 81, cI l1, cI l2, cI 0, cI (w32 ((w32 (l6 - 0)) + 1)), cI 0, cI (w32 (l6 + 1))]) rfl ?_
        refine wp_goto (nx := 38) dX11_run_105 rfl ?_
        exact h
      · have h := h.2 hc
        refine wp_goto (nx := 102) dX11_run_87 rfl ?_
        refine wp_iinc (nx := 105) dX11_run_102 rfl rfl (by decide) ?_
        refine wp_ls (ls2 := [cA 81, cI l1, cI l2, cI l3, cI l4, cI 0, cI (w32 (l6 + 1))]) rfl ?_
        refine wp_goto (nx := 38) dX11_run_105 rfl ?_
        exact h
    · have h := h.2 hc
      refine wp_iload (nx := 73) dX11_run_71 rfl rfl ?_
      refine wp_iconst (nx := 74) dX11_run_73 rfl (i32 (by decide)) ?_
      refine wp_iadd (nx := 75) dX11_run_74 rfl ?_
      refine wp_goto (nx := 79) dX11_run_75 rfl ?_
      refine wp_istore (nx := 81) dX11_run_79 rfl (by decide) ?_
      refine wp_ls (ls2 := [cA 81, cI l1, cI l2, cI l3, cI l4, cI (w32 (l5 + 1)), cI l6]) rfl ?_
      refine wp_iload (nx := 83) dX11_run_81 rfl rfl ?_
      refine wp_iload_n (nx := 84) dX11_run_83 rfl rfl ?_
      refine wp_icmp_gt (nx := 87) (tg := 90) dX11_run_84 rfl rfl (fun hc => ?_) (fun hc => ?_)
      · have h := h.1 hc
        refine wp_iload (nx := 92) dX11_run_90 rfl rfl ?_
        refine wp_istore_n (nx := 93) dX11_run_92 rfl (by decide) ?_
        refine wp_ls (ls2 := [cA 81, cI l1, cI l2, cI (w32 (l5 + 1)), cI l4, cI (w32 (l5 + 1)), cI l6]) rfl ?_
        refine wp_iload (nx := 95) dX11_run_93 rfl rfl ?_
        refine wp_iload (nx := 97) dX11_run_95 rfl rfl ?_
        refine wp_isub (nx := 98) dX11_run_97 rfl ?_
        refine wp_iconst (nx := 99) dX11_run_98 rfl (i32 (by decide)) ?_
        refine wp_iadd (nx := 100) dX11_run_99 rfl ?_
        refine wp_istore (nx := 102) dX11_run_100 rfl (by decide) ?_
        refine wp_ls (ls2 := [cA 81, cI l1, cI l2, cI (w32 (l5 + 1)), cI (w32 ((w32 (l6 - (w32 (l5 + 1)))) + 1)), cI (w32 (l5 + 1)), cI l6]) rfl ?_
        refine wp_iinc (nx := 105) dX11_run_102 rfl rfl (by decide) ?_
        refine wp_ls (ls2 := [cA 81, cI l1, cI l2, cI (w32 (l5 + 1)), cI (w32 ((w32 (l6 - (w32 (l5 + 1)))) + 1)), cI (w32 (l5 + 1)), cI (w32 (l6 + 1))]) rfl ?_
        refine wp_goto (nx := 38) dX11_run_105 rfl ?_
        exact h
      · have h := h.2 hc
        refine wp_goto (nx := 102) dX11_run_87 rfl ?_
        refine wp_iinc (nx := 105) dX11_run_102 rfl rfl (by decide) ?_
        refine wp_ls (ls2 := [cA 81, cI l1, cI l2, cI l3, cI l4, cI (w32 (l5 + 1)), cI (w32 (l6 + 1))]) rfl ?_
        refine wp_goto (nx := 38) dX11_run_105 rfl ?_
        exact h
theorem b_X11_shifted_0 {d mc ms : Nat} {l0 l1 : Int} {S : MS} {C : MC} {Q : Int → MS → MC → Prop} (F : Fix S) (h : K_X11_shifted_4 (d + 1) mc ms l0 l1 0 0 S C Q) : K_X11_shifted_0 (d + 1) mc ms l0 l1 S C Q := by
  show Wp (d + 1) mc ms M_X11_shifted 0 [cI l0, cI l1, cU, cU] [] S C Q
  refine wp_iconst (nx := 1) dX11_shifted_0 rfl (i32 (by decide)) ?_
  refine wp_istore_n (nx := 2) dX11_shifted_1 rfl (by decide) ?_
  refine wp_ls (ls2 := [cI l0, cI l1, cI 0, cU]) rfl ?_
  refine wp_iconst (nx := 3) dX11_shifted_2 rfl (i32 (by decide)) ?_
  refine wp_istore_n (nx := 4) dX11_shifted_3 rfl (by decide) ?_
  refine wp_ls (ls2 := [cI l0, cI l1, cI 0, cI 0]) rfl ?_
  exact h
theorem b_X11_shifted_4 {d mc ms : Nat} {l0 l1 l2 l3 : Int} {S : MS} {C : MC} {Q : Int → MS → MC → Prop} (F : Fix S) (h : ((8 ≤ l3 → Q l2 S C) ∧ (¬ 8 ≤ l3 → K_X11_isIn_0 d 0 0 l0 l3 S C (fun r1 Sq C2 => Sq = S ∧ ((¬ r1 = 0 → K_X11_isKey_0 d 0 0 (w32 (l3 + l1)) S C2 (fun r3 Sq C4 => Sq = S ∧ ((¬ r3 = 0 → K_X11_shifted_4 (d + 1) mc ms l0 l1 (iOr l2 (iShl 1 (w32 (l3 + l1)))) (w32 (l3 + 1)) S C4 Q) ∧ (r3 = 0 → Q (-1) S C4)))) ∧ (r1 = 0 → K_X11_shifted_4 (d + 1) mc ms l0 l1 l2 (w32 (l3 + 1)) S C2 Q)))))) : K_X11_shifted_4 (d + 1) mc ms l0 l1 l2 l3 S C Q := by
  show Wp (d + 1) mc ms M_X11_shifted 4 [cI l0, cI l1, cI l2, cI l3] [] S C Q
  refine wp_iload_n (nx := 5) dX11_shifted_4 rfl rfl ?_
  refine wp_bipush (nx := 7) dX11_shifted_5 rfl ⟨by decide, i32 (by decide)⟩ ?_
  refine wp_icmp_ge (nx := 10) (tg := 46) dX11_shifted_7 rfl rfl (fun hc => ?_) (fun hc => ?_)
  · have h := h.1 hc
    refine wp_iload_n (nx := 47) dX11_shifted_46 rfl rfl ?_
    exact wp_ireturn dX11_shifted_47 rfl rfl rfl h
  · have h := h.2 hc
    refine wp_iload_n (nx := 11) dX11_shifted_10 rfl rfl ?_
    refine wp_iload_n (nx := 12) dX11_shifted_11 rfl rfl ?_
    refine wp_invS (nx := 15) (N := M_X11_isIn) (as := [cI l0, cI l3]) (st := []) (mc := 0) (ms := 0) (mc' := mc) (ms' := ms) dX11_shifted_12 rfl mok_X11_isIn kM_X11_335 ks_X11_isIn rfl rfl (leB rfl) (leB rfl) (z0 _) (z0 _) (Wp.mono h ?_)
    intro r1 Sq C2 h
    obtain ⟨e9, h⟩ := h
    rw [e9]
    show Wp (d + 1) mc ms M_X11_shifted 15 [cI l0, cI l1, cI l2, cI l3] [cI r1] S C2 Q
    refine wp_if_ne (nx := 18) (tg := 21) dX11_shifted_15 rfl rfl (fun hc => ?_) (fun hc => ?_)
    · have h := h.1 hc
      refine wp_iload_n (nx := 22) dX11_shifted_21 rfl rfl ?_
      refine wp_iload_n (nx := 23) dX11_shifted_22 rfl rfl ?_
      refine wp_iadd (nx := 24) dX11_shifted_23 rfl ?_
      refine wp_invS (nx := 27) (N := M_X11_isKey) (as := [cI (w32 (l3 + l1))]) (st := []) (mc := 0) (ms := 0) (mc' := mc) (ms' := ms) dX11_shifted_24 rfl mok_X11_isKey kM_X11_135 ks_X11_isKey rfl rfl (leB rfl) (leB rfl) (z0 _) (z0 _) (Wp.mono h ?_)
      intro r3 Sq C4 h
      obtain ⟨e9, h⟩ := h
      rw [e9]
      show Wp (d + 1) mc ms M_X11_shifted 27 [cI l0, cI l1, cI l2, cI l3] [cI r3] S C4 Q
      refine wp_if_ne (nx := 30) (tg := 32) dX11_shifted_27 rfl rfl (fun hc => ?_) (fun hc => ?_)
      · have h := h.1 hc
        refine wp_iload_n (nx := 33) dX11_shifted_32 rfl rfl ?_
        refine wp_iconst (nx := 34) dX11_shifted_33 rfl (i32 (by decide)) ?_
        refine wp_iload_n (nx := 35) dX11_shifted_34 rfl rfl ?_
        refine wp_iload_n (nx := 36) dX11_shifted_35 rfl rfl ?_
        refine wp_iadd (nx := 37) dX11_shifted_36 rfl ?_
        refine wp_ishl (nx := 38) dX11_shifted_37 rfl ?_
        refine wp_ior (nx := 39) dX11_shifted_38 rfl ?_
        refine wp_istore_n (nx := 40) dX11_shifted_39 rfl (by decide) ?_
        refine wp_ls (ls2 := [cI l0, cI l1, cI (iOr l2 (iShl 1 (w32 (l3 + l1)))), cI l3]) rfl ?_
        refine wp_iinc (nx := 43) dX11_shifted_40 rfl rfl (by decide) ?_
        refine wp_ls (ls2 := [cI l0, cI l1, cI (iOr l2 (iShl 1 (w32 (l3 + l1)))), cI (w32 (l3 + 1))]) rfl ?_
        refine wp_goto (nx := 4) dX11_shifted_43 rfl ?_
        exact h
      · have h := h.2 hc
        refine wp_iconst (nx := 31) dX11_shifted_30 rfl (i32 (by decide)) ?_
        exact wp_ireturn dX11_shifted_31 rfl rfl rfl h
    · have h := h.2 hc
      refine wp_goto (nx := 40) dX11_shifted_18 rfl ?_
      refine wp_iinc (nx := 43) dX11_shifted_40 rfl rfl (by decide) ?_
      refine wp_ls (ls2 := [cI l0, cI l1, cI l2, cI (w32 (l3 + 1))]) rfl ?_
      refine wp_goto (nx := 4) dX11_shifted_43 rfl ?_
      exact h
theorem b_X11_best_0 {d mc ms : Nat} {l1 : Int} {S : MS} {C : MC} {Q : Int → MS → MC → Prop} (F : Fix S) (h : K_X11_lies_0 d 0 0 l1 0 1 S C (fun r1 Sq C2 => Sq = S ∧ ((¬ r1 = 0 → K_X11_best_23 (d + 1) mc ms l1 (-100) 1000001 (-7) S C2 Q) ∧ (r1 = 0 → Q (-100) S C2)))) : K_X11_best_0 (d + 1) mc ms l1 S C Q := by
  show Wp (d + 1) mc ms M_X11_best 0 [cA 81, cI l1, cU, cU, cU, cU] [] S C Q
  refine wp_iload_n (nx := 1) dX11_best_0 rfl rfl ?_
  refine wp_iconst (nx := 2) dX11_best_1 rfl (i32 (by decide)) ?_
  refine wp_iconst (nx := 3) dX11_best_2 rfl (i32 (by decide)) ?_
  refine wp_invS (nx := 6) (N := M_X11_lies) (as := [cI l1, cI 0, cI 1]) (st := []) (mc := 0) (ms := 0) (mc' := mc) (ms' := ms) dX11_best_3 rfl mok_X11_lies kM_X11_18 ks_X11_lies rfl rfl (leB rfl) (leB rfl) (z0 _) (z0 _) (Wp.mono h ?_)
  intro r1 Sq C2 h
  obtain ⟨e9, h⟩ := h
  rw [e9]
  show Wp (d + 1) mc ms M_X11_best 6 [cA 81, cI l1, cU, cU, cU, cU] [cI r1] S C2 Q
  refine wp_if_ne (nx := 9) (tg := 12) dX11_best_6 rfl rfl (fun hc => ?_) (fun hc => ?_)
  · have h := h.1 hc
    refine wp_bipush (nx := 14) dX11_best_12 rfl ⟨by decide, i32 (by decide)⟩ ?_
    refine wp_istore_n (nx := 15) dX11_best_14 rfl (by decide) ?_
    refine wp_ls (ls2 := [cA 81, cI l1, cI (-100), cU, cU, cU]) rfl ?_
    refine wp_ldc_w (nx := 18) dX11_best_15 rfl kI_X11_338 (i32 (by decide)) ?_
    refine wp_istore_n (nx := 19) dX11_best_18 rfl (by decide) ?_
    refine wp_ls (ls2 := [cA 81, cI l1, cI (-100), cI 1000001, cU, cU]) rfl ?_
    refine wp_bipush (nx := 21) dX11_best_19 rfl ⟨by decide, i32 (by decide)⟩ ?_
    refine wp_istore (nx := 23) dX11_best_21 rfl (by decide) ?_
    refine wp_ls (ls2 := [cA 81, cI l1, cI (-100), cI 1000001, cI (-7), cU]) rfl ?_
    exact h
  · have h := h.2 hc
    refine wp_bipush (nx := 11) dX11_best_9 rfl ⟨by decide, i32 (by decide)⟩ ?_
    exact wp_ireturn dX11_best_11 rfl rfl rfl h
theorem b_X11_best_23 {d mc ms : Nat} {l1 l2 l3 l4 : Int} {S : MS} {C : MC} {Q : Int → MS → MC → Prop} (F : Fix S) (h : ((7 < l4 → ((l2 = (-100) → Q l2 S C) ∧ (¬ l2 = (-100) → ((¬ l1 = 0 → Q l3 S C) ∧ (l1 = 0 → Q l2 S C))))) ∧ (¬ 7 < l4 → K_X11_leastOfAll_0 d 0 0 l4 S C (fun r1 Sq C2 => Sq = S ∧ ((r1 < l3 → K_X11_best_23 (d + 1) mc ms l1 l4 r1 (w32 (l4 + 1)) S C2 Q) ∧ (¬ r1 < l3 → K_X11_best_23 (d + 1) mc ms l1 l2 l3 (w32 (l4 + 1)) S C2 Q)))))) : K_X11_best_23 (d + 1) mc ms l1 l2 l3 l4 S C Q := by
  show Wp (d + 1) mc ms M_X11_best 23 [cA 81, cI l1, cI l2, cI l3, cI l4, cU] [] S C Q
  refine wp_iload (nx := 25) dX11_best_23 rfl rfl ?_
  refine wp_bipush (nx := 27) dX11_best_25 rfl ⟨by decide, i32 (by decide)⟩ ?_
  refine wp_icmp_gt (nx := 30) (tg := 59) dX11_best_27 rfl rfl (fun hc => ?_) (fun hc => ?_)
  · have h := h.1 hc
    refine wp_iload_n (nx := 60) dX11_best_59 rfl rfl ?_
    refine wp_bipush (nx := 62) dX11_best_60 rfl ⟨by decide, i32 (by decide)⟩ ?_
    refine wp_icmp_eq (nx := 65) (tg := 69) dX11_best_62 rfl rfl (fun hc => ?_) (fun hc => ?_)
    · have h := h.1 hc
      refine wp_iload_n (nx := 70) dX11_best_69 rfl rfl ?_
      refine wp_goto (nx := 74) dX11_best_70 rfl ?_
      exact wp_ireturn dX11_best_74 rfl rfl rfl h
    · have h := h.2 hc
      refine wp_iload_n (nx := 66) dX11_best_65 rfl rfl ?_
      refine wp_if_ne (nx := 69) (tg := 73) dX11_best_66 rfl rfl (fun hc => ?_) (fun hc => ?_)
      · have h := h.1 hc
        refine wp_iload_n (nx := 74) dX11_best_73 rfl rfl ?_
        exact wp_ireturn dX11_best_74 rfl rfl rfl h
      · have h := h.2 hc
        refine wp_iload_n (nx := 70) dX11_best_69 rfl rfl ?_
        refine wp_goto (nx := 74) dX11_best_70 rfl ?_
        exact wp_ireturn dX11_best_74 rfl rfl rfl h
  · have h := h.2 hc
    refine wp_aload_n (nx := 31) dX11_best_30 rfl rfl ?_
    refine wp_iload (nx := 33) dX11_best_31 rfl rfl ?_
    refine wp_invV (nx := 36) (N := M_X11_leastOfAll) (as := [cI l4]) (st := []) (mc := 0) (ms := 0) (mc' := mc) (ms' := ms) (a := 81) clsX11 dX11_best_33 rfl mok_X11_leastOfAll kM_X11_363 ki_X11_leastOfAll ke_X11_leastOfAll (fo_81 F) (ft_81 F) rfl rfl (leB rfl) (leB rfl) (z0 _) (z0 _) (Wp.mono h ?_)
    intro r1 Sq C2 h
    obtain ⟨e9, h⟩ := h
    rw [e9]
    show Wp (d + 1) mc ms M_X11_best 36 [cA 81, cI l1, cI l2, cI l3, cI l4, cU] [cI r1] S C2 Q
    refine wp_istore (nx := 38) dX11_best_36 rfl (by decide) ?_
    refine wp_ls (ls2 := [cA 81, cI l1, cI l2, cI l3, cI l4, cI r1]) rfl ?_
    refine wp_iload (nx := 40) dX11_best_38 rfl rfl ?_
    refine wp_iload_n (nx := 41) dX11_best_40 rfl rfl ?_
    refine wp_icmp_lt (nx := 44) (tg := 47) dX11_best_41 rfl rfl (fun hc => ?_) (fun hc => ?_)
    · have h := h.1 hc
      refine wp_iload (nx := 49) dX11_best_47 rfl rfl ?_
      refine wp_istore_n (nx := 50) dX11_best_49 rfl (by decide) ?_
      refine wp_ls (ls2 := [cA 81, cI l1, cI l2, cI r1, cI l4, cI r1]) rfl ?_
      refine wp_iload (nx := 52) dX11_best_50 rfl rfl ?_
      refine wp_istore_n (nx := 53) dX11_best_52 rfl (by decide) ?_
      refine wp_ls (ls2 := [cA 81, cI l1, cI l4, cI r1, cI l4, cI r1]) rfl ?_
      refine wp_iinc (nx := 56) dX11_best_53 rfl rfl (by decide) ?_
      refine wp_ls (ls2 := [cA 81, cI l1, cI l4, cI r1, cI (w32 (l4 + 1)), cI r1]) rfl ?_
      refine wp_goto (nx := 23) dX11_best_56 rfl ?_
      refine wp_fg [true, true, true, true, true, false] (ls2 := [cA 81, cI l1, cI l4, cI r1, cI (w32 (l4 + 1)), cU]) rfl ?_
      exact h
    · have h := h.2 hc
      refine wp_goto (nx := 53) dX11_best_44 rfl ?_
      refine wp_iinc (nx := 56) dX11_best_53 rfl rfl (by decide) ?_
      refine wp_ls (ls2 := [cA 81, cI l1, cI l2, cI l3, cI (w32 (l4 + 1)), cI r1]) rfl ?_
      refine wp_goto (nx := 23) dX11_best_56 rfl ?_
      refine wp_fg [true, true, true, true, true, false] (ls2 := [cA 81, cI l1, cI l2, cI l3, cI (w32 (l4 + 1)), cU]) rfl ?_
      exact h
theorem b_X11_motif_0 {d mc ms : Nat} {l1 : Int} {S : MS} {C : MC} {Q : Int → MS → MC → Prop} (F : Fix S) (h : K_X11_lies_0 d 0 0 l1 0 255 S C (fun r1 Sq C2 => Sq = S ∧ ((¬ r1 = 0 → ((¬ C2 83 46 = 6 → ((0 : Int) ≤ w32 (37 + (C2 83 46)) ∧ w32 (37 + (C2 83 46)) < 5656) ∧ K_X11_good_0 d 0 0 (w32 ((C2 83 46) + 1)) S ((upC (upC C2 83 (w32 (37 + (C2 83 46))) l1) 83 46 (w32 (((upC C2 83 (w32 (37 + (C2 83 46))) l1) 83 46) + 1)))) (fun r3 Sq C4 => Sq = S ∧ Q r3 S C4)) ∧ (C2 83 46 = 6 → K_X11_refuses_0 d 0 0 (-5) S C2 (fun r5 Sq C6 => Sq = S ∧ Q r5 S C6)))) ∧ (r1 = 0 → K_X11_refuses_0 d 0 0 (-1) S C2 (fun r7 Sq C8 => Sq = S ∧ Q r7 S C8))))) : K_X11_motif_0 (d + 1) mc ms l1 S C Q := by
  show Wp (d + 1) mc ms M_X11_motif 0 [cA 81, cI l1, cU] [] S C Q
  refine wp_iload_n (nx := 1) dX11_motif_0 rfl rfl ?_
  refine wp_iconst (nx := 2) dX11_motif_1 rfl (i32 (by decide)) ?_
  refine wp_sipush (nx := 5) dX11_motif_2 rfl ⟨by decide, i32 (by decide)⟩ ?_
  refine wp_invS (nx := 8) (N := M_X11_lies) (as := [cI l1, cI 0, cI 255]) (st := []) (mc := 0) (ms := 0) (mc' := mc) (ms' := ms) dX11_motif_5 rfl mok_X11_lies kM_X11_18 ks_X11_lies rfl rfl (leB rfl) (leB rfl) (z0 _) (z0 _) (Wp.mono h ?_)
  intro r1 Sq C2 h
  obtain ⟨e9, h⟩ := h
  rw [e9]
  show Wp (d + 1) mc ms M_X11_motif 8 [cA 81, cI l1, cU] [cI r1] S C2 Q
  refine wp_if_ne (nx := 11) (tg := 17) dX11_motif_8 rfl rfl (fun hc => ?_) (fun hc => ?_)
  · have h := h.1 hc
    refine wp_aload_n (nx := 18) dX11_motif_17 rfl rfl ?_
    refine wp_getAe (kk := 2) (nx := 21) clsX11 dX11_motif_18 rfl kF_X11_28 (by decide) (fo_81 F) (ft_81 F) rfl (fp_81_2 F) ?_
    refine wp_bipush (nx := 23) dX11_motif_21 rfl ⟨by decide, i32 (by decide)⟩ ?_
    refine wp_ialoadE (nx := 24) dX11_motif_23 rfl (fo_83 F) (fl_83 F) (by decide) (ft_83 F) rfl ?_
    refine wp_istore_n (nx := 25) dX11_motif_24 rfl (by decide) ?_
    refine wp_ls (ls2 := [cA 81, cI l1, cI (C2 83 46)]) rfl ?_
    refine wp_iload_n (nx := 26) dX11_motif_25 rfl rfl ?_
    refine wp_bipush (nx := 28) dX11_motif_26 rfl ⟨by decide, i32 (by decide)⟩ ?_
    refine wp_icmp_ne (nx := 31) (tg := 38) dX11_motif_28 rfl rfl (fun hc => ?_) (fun hc => ?_)
    · have h := h.1 hc
      refine wp_aload_n (nx := 39) dX11_motif_38 rfl rfl ?_
      refine wp_getAe (kk := 2) (nx := 42) clsX11 dX11_motif_39 rfl kF_X11_28 (by decide) (fo_81 F) (ft_81 F) rfl (fp_81_2 F) ?_
      refine wp_bipush (nx := 44) dX11_motif_42 rfl ⟨by decide, i32 (by decide)⟩ ?_
      refine wp_iload_n (nx := 45) dX11_motif_44 rfl rfl ?_
      refine wp_iadd (nx := 46) dX11_motif_45 rfl ?_
      refine wp_iload_n (nx := 47) dX11_motif_46 rfl rfl ?_
      obtain ⟨hi, h⟩ := h
      refine wp_iastoreE (nx := 48) dX11_motif_47 rfl (fo_83 F) (fl_83 F) hi (ft_83 F) ?_
      refine wp_aload_n (nx := 49) dX11_motif_48 rfl rfl ?_
      refine wp_getAe (kk := 2) (nx := 52) clsX11 dX11_motif_49 rfl kF_X11_28 (by decide) (fo_81 F) (ft_81 F) rfl (fp_81_2 F) ?_
      refine wp_bipush (nx := 54) dX11_motif_52 rfl ⟨by decide, i32 (by decide)⟩ ?_
      refine wp_dup2 (nx := 55) dX11_motif_54 rfl (k1I _) (k1A _) ?_
      refine wp_ialoadE (nx := 56) dX11_motif_55 rfl (fo_83 F) (fl_83 F) (by decide) (ft_83 F) rfl ?_
      refine wp_iconst (nx := 57) dX11_motif_56 rfl (i32 (by decide)) ?_
      refine wp_iadd (nx := 58) dX11_motif_57 rfl ?_
      refine wp_iastoreE (nx := 59) dX11_motif_58 rfl (fo_83 F) (fl_83 F) (by decide) (ft_83 F) ?_
      refine wp_aload_n (nx := 60) dX11_motif_59 rfl rfl ?_
      refine wp_iload_n (nx := 61) dX11_motif_60 rfl rfl ?_
      refine wp_iconst (nx := 62) dX11_motif_61 rfl (i32 (by decide)) ?_
      refine wp_iadd (nx := 63) dX11_motif_62 rfl ?_
      refine wp_invV (nx := 66) (N := M_X11_good) (as := [cI (w32 ((C2 83 46) + 1))]) (st := []) (mc := 0) (ms := 0) (mc' := mc) (ms' := ms) (a := 81) clsX11 dX11_motif_63 rfl mok_X11_good kM_X11_14 ki_X11_good ke_X11_good (fo_81 F) (ft_81 F) rfl rfl (leB rfl) (leB rfl) (z0 _) (z0 _) (Wp.mono h ?_)
      intro r3 Sq C4 h
      obtain ⟨e9, h⟩ := h
      rw [e9]
      show Wp (d + 1) mc ms M_X11_motif 66 [cA 81, cI l1, cI (C2 83 46)] [cI r3] S C4 Q
      exact wp_ireturn dX11_motif_66 rfl rfl rfl h
    · have h := h.2 hc
      refine wp_aload_n (nx := 32) dX11_motif_31 rfl rfl ?_
      refine wp_bipush (nx := 34) dX11_motif_32 rfl ⟨by decide, i32 (by decide)⟩ ?_
      refine wp_invV (nx := 37) (N := M_X11_refuses) (as := [cI (-5)]) (st := []) (mc := 0) (ms := 0) (mc' := mc) (ms' := ms) (a := 81) clsX11 dX11_motif_34 rfl mok_X11_refuses kM_X11_112 ki_X11_refuses ke_X11_refuses (fo_81 F) (ft_81 F) rfl rfl (leB rfl) (leB rfl) (z0 _) (z0 _) (Wp.mono h ?_)
      intro r5 Sq C6 h
      obtain ⟨e9, h⟩ := h
      rw [e9]
      show Wp (d + 1) mc ms M_X11_motif 37 [cA 81, cI l1, cI (C2 83 46)] [cI r5] S C6 Q
      exact wp_ireturn dX11_motif_37 rfl rfl rfl h
  · have h := h.2 hc
    refine wp_aload_n (nx := 12) dX11_motif_11 rfl rfl ?_
    refine wp_iconst (nx := 13) dX11_motif_12 rfl (i32 (by decide)) ?_
    refine wp_invV (nx := 16) (N := M_X11_refuses) (as := [cI (-1)]) (st := []) (mc := 0) (ms := 0) (mc' := mc) (ms' := ms) (a := 81) clsX11 dX11_motif_13 rfl mok_X11_refuses kM_X11_112 ki_X11_refuses ke_X11_refuses (fo_81 F) (ft_81 F) rfl rfl (leB rfl) (leB rfl) (z0 _) (z0 _) (Wp.mono h ?_)
    intro r7 Sq C8 h
    obtain ⟨e9, h⟩ := h
    rw [e9]
    show Wp (d + 1) mc ms M_X11_motif 16 [cA 81, cI l1, cU] [cI r7] S C8 Q
    exact wp_ireturn dX11_motif_16 rfl rfl rfl h
theorem b_X11_forget_0 {d mc ms : Nat} {S : MS} {C : MC} {Q : Int → MS → MC → Prop} (F : Fix S) (h : Q (C 83 46) S (upC C 83 46 0)) : K_X11_forget_0 d mc ms S C Q := by
  show Wp d mc ms M_X11_forget 0 [cA 81, cU] [] S C Q
  refine wp_aload_n (nx := 1) dX11_forget_0 rfl rfl ?_
  refine wp_getAe (kk := 2) (nx := 4) clsX11 dX11_forget_1 rfl kF_X11_28 (by decide) (fo_81 F) (ft_81 F) rfl (fp_81_2 F) ?_
  refine wp_bipush (nx := 6) dX11_forget_4 rfl ⟨by decide, i32 (by decide)⟩ ?_
  refine wp_ialoadE (nx := 7) dX11_forget_6 rfl (fo_83 F) (fl_83 F) (by decide) (ft_83 F) rfl ?_
  refine wp_istore_n (nx := 8) dX11_forget_7 rfl (by decide) ?_
  refine wp_ls (ls2 := [cA 81, cI (C 83 46)]) rfl ?_
  refine wp_aload_n (nx := 9) dX11_forget_8 rfl rfl ?_
  refine wp_getAe (kk := 2) (nx := 12) clsX11 dX11_forget_9 rfl kF_X11_28 (by decide) (fo_81 F) (ft_81 F) rfl (fp_81_2 F) ?_
  refine wp_bipush (nx := 14) dX11_forget_12 rfl ⟨by decide, i32 (by decide)⟩ ?_
  refine wp_iconst (nx := 15) dX11_forget_14 rfl (i32 (by decide)) ?_
  refine wp_iastoreE (nx := 16) dX11_forget_15 rfl (fo_83 F) (fl_83 F) (by decide) (ft_83 F) ?_
  refine wp_iload_n (nx := 17) dX11_forget_16 rfl rfl ?_
  exact wp_ireturn dX11_forget_17 rfl rfl rfl h
theorem b_X11_isFound_0 {d mc ms : Nat} {l1 l2 : Int} {S : MS} {C : MC} {Q : Int → MS → MC → Prop} (F : Fix S) (h : K_X11_isFound_5 (d + 1) mc ms l1 l2 1 0 S C Q) : K_X11_isFound_0 (d + 1) mc ms l1 l2 S C Q := by
  show Wp (d + 1) mc ms M_X11_isFound 0 [cA 81, cI l1, cI l2, cU, cU] [] S C Q
  refine wp_iconst (nx := 1) dX11_isFound_0 rfl (i32 (by decide)) ?_
  refine wp_istore_n (nx := 2) dX11_isFound_1 rfl (by decide) ?_
  refine wp_ls (ls2 := [cA 81, cI l1, cI l2, cI 1, cU]) rfl ?_
  refine wp_iconst (nx := 3) dX11_isFound_2 rfl (i32 (by decide)) ?_
  refine wp_istore (nx := 5) dX11_isFound_3 rfl (by decide) ?_
  refine wp_ls (ls2 := [cA 81, cI l1, cI l2, cI 1, cI 0]) rfl ?_
  exact h
theorem b_X11_isFound_5 {d mc ms : Nat} {l1 l2 l3 l4 : Int} {S : MS} {C : MC} {Q : Int → MS → MC → Prop} (F : Fix S) (h : ((C 83 46 ≤ l4 → ((l3 = 0 ∨ l3 = 1) ∧ Q l3 S C)) ∧ (¬ C 83 46 ≤ l4 → ((l3 = 0 → ((l3 = 0 ∨ l3 = 1) ∧ Q l3 S C)) ∧ (¬ l3 = 0 → ((0 : Int) ≤ w32 (37 + l4) ∧ w32 (37 + l4) < 5656) ∧ K_X11_shifted_0 d 0 0 (C 83 (w32 (37 + l4))) l2 S C (fun r1 Sq C2 => Sq = S ∧ K_X11_musicAt_0 d 0 0 (w32 (l1 + l4)) S C2 (fun r3 Sq C4 => Sq = S ∧ ((¬ r1 = r3 → K_X11_isFound_5 (d + 1) mc ms l1 l2 0 (w32 (l4 + 1)) S C4 Q) ∧ (r1 = r3 → K_X11_isFound_5 (d + 1) mc ms l1 l2 1 (w32 (l4 + 1)) S C4 Q))))))))) : K_X11_isFound_5 (d + 1) mc ms l1 l2 l3 l4 S C Q := by
  show Wp (d + 1) mc ms M_X11_isFound 5 [cA 81, cI l1, cI l2, cI l3, cI l4] [] S C Q
  refine wp_iload (nx := 7) dX11_isFound_5 rfl rfl ?_
  refine wp_aload_n (nx := 8) dX11_isFound_7 rfl rfl ?_
  refine wp_getAe (kk := 2) (nx := 11) clsX11 dX11_isFound_8 rfl kF_X11_28 (by decide) (fo_81 F) (ft_81 F) rfl (fp_81_2 F) ?_
  refine wp_bipush (nx := 13) dX11_isFound_11 rfl ⟨by decide, i32 (by decide)⟩ ?_
  refine wp_ialoadE (nx := 14) dX11_isFound_13 rfl (fo_83 F) (fl_83 F) (by decide) (ft_83 F) rfl ?_
  refine wp_icmp_ge (nx := 17) (tg := 58) dX11_isFound_14 rfl rfl (fun hc => ?_) (fun hc => ?_)
  · have h := h.1 hc
    refine wp_iload_n (nx := 59) dX11_isFound_58 rfl rfl ?_
    obtain ⟨hz, h⟩ := h
    exact wp_ireturn dX11_isFound_59 rfl rfl (nz_of hz) h
  · have h := h.2 hc
    refine wp_iload_n (nx := 18) dX11_isFound_17 rfl rfl ?_
    refine wp_if_eq (nx := 21) (tg := 58) dX11_isFound_18 rfl rfl (fun hc => ?_) (fun hc => ?_)
    · have h := h.1 hc
      refine wp_iload_n (nx := 59) dX11_isFound_58 rfl rfl ?_
      obtain ⟨hz, h⟩ := h
      exact wp_ireturn dX11_isFound_59 rfl rfl (nz_of hz) h
    · have h := h.2 hc
      refine wp_aload_n (nx := 22) dX11_isFound_21 rfl rfl ?_
      refine wp_getAe (kk := 2) (nx := 25) clsX11 dX11_isFound_22 rfl kF_X11_28 (by decide) (fo_81 F) (ft_81 F) rfl (fp_81_2 F) ?_
      refine wp_bipush (nx := 27) dX11_isFound_25 rfl ⟨by decide, i32 (by decide)⟩ ?_
      refine wp_iload (nx := 29) dX11_isFound_27 rfl rfl ?_
      refine wp_iadd (nx := 30) dX11_isFound_29 rfl ?_
      obtain ⟨hi, h⟩ := h
      refine wp_ialoadE (nx := 31) dX11_isFound_30 rfl (fo_83 F) (fl_83 F) hi (ft_83 F) rfl ?_
      refine wp_iload_n (nx := 32) dX11_isFound_31 rfl rfl ?_
      refine wp_invS (nx := 35) (N := M_X11_shifted) (as := [cI (C 83 (w32 (37 + l4))), cI l2]) (st := []) (mc := 0) (ms := 0) (mc' := mc) (ms' := ms) dX11_isFound_32 rfl mok_X11_shifted kM_X11_360 ks_X11_shifted rfl rfl (leB rfl) (leB rfl) (z0 _) (z0 _) (Wp.mono h ?_)
      intro r1 Sq C2 h
      obtain ⟨e9, h⟩ := h
      rw [e9]
      show Wp (d + 1) mc ms M_X11_isFound 35 [cA 81, cI l1, cI l2, cI l3, cI l4] [cI r1] S C2 Q
      refine wp_aload_n (nx := 36) dX11_isFound_35 rfl rfl ?_
      refine wp_iload_n (nx := 37) dX11_isFound_36 rfl rfl ?_
      refine wp_iload (nx := 39) dX11_isFound_37 rfl rfl ?_
      refine wp_iadd (nx := 40) dX11_isFound_39 rfl ?_
      refine wp_invV (nx := 43) (N := M_X11_musicAt) (as := [cI (w32 (l1 + l4))]) (st := [cI r1]) (mc := 0) (ms := 0) (mc' := mc) (ms' := ms) (a := 81) clsX11 dX11_isFound_40 rfl mok_X11_musicAt kM_X11_122 ki_X11_musicAt ke_X11_musicAt (fo_81 F) (ft_81 F) rfl rfl (leB rfl) (leB rfl) (z0 _) (z0 _) (Wp.mono h ?_)
      intro r3 Sq C4 h
      obtain ⟨e9, h⟩ := h
      rw [e9]
      show Wp (d + 1) mc ms M_X11_isFound 43 [cA 81, cI l1, cI l2, cI l3, cI l4] [cI r3, cI r1] S C4 Q
      refine wp_icmp_ne (nx := 46) (tg := 50) dX11_isFound_43 rfl rfl (fun hc => ?_) (fun hc => ?_)
      · have h := h.1 hc
        refine wp_iconst (nx := 51) dX11_isFound_50 rfl (i32 (by decide)) ?_
        refine wp_istore_n (nx := 52) dX11_isFound_51 rfl (by decide) ?_
        refine wp_ls (ls2 := [cA 81, cI l1, cI l2, cI 0, cI l4]) rfl ?_
        refine wp_iinc (nx := 55) dX11_isFound_52 rfl rfl (by decide) ?_
        refine wp_ls (ls2 := [cA 81, cI l1, cI l2, cI 0, cI (w32 (l4 + 1))]) rfl ?_
        refine wp_goto (nx := 5) dX11_isFound_55 rfl ?_
        exact h
      · have h := h.2 hc
        refine wp_iconst (nx := 47) dX11_isFound_46 rfl (i32 (by decide)) ?_
        refine wp_goto (nx := 51) dX11_isFound_47 rfl ?_
        refine wp_istore_n (nx := 52) dX11_isFound_51 rfl (by decide) ?_
        refine wp_ls (ls2 := [cA 81, cI l1, cI l2, cI 1, cI l4]) rfl ?_
        refine wp_iinc (nx := 55) dX11_isFound_52 rfl rfl (by decide) ?_
        refine wp_ls (ls2 := [cA 81, cI l1, cI l2, cI 1, cI (w32 (l4 + 1))]) rfl ?_
        refine wp_goto (nx := 5) dX11_isFound_55 rfl ?_
        exact h
theorem b_X11_isSilent_0 {d mc ms : Nat} {S : MS} {C : MC} {Q : Int → MS → MC → Prop} (F : Fix S) (h : K_X11_isSilent_4 d mc ms 1 0 S C Q) : K_X11_isSilent_0 d mc ms S C Q := by
  show Wp d mc ms M_X11_isSilent 0 [cA 81, cU, cU] [] S C Q
  refine wp_iconst (nx := 1) dX11_isSilent_0 rfl (i32 (by decide)) ?_
  refine wp_istore_n (nx := 2) dX11_isSilent_1 rfl (by decide) ?_
  refine wp_ls (ls2 := [cA 81, cI 1, cU]) rfl ?_
  refine wp_iconst (nx := 3) dX11_isSilent_2 rfl (i32 (by decide)) ?_
  refine wp_istore_n (nx := 4) dX11_isSilent_3 rfl (by decide) ?_
  refine wp_ls (ls2 := [cA 81, cI 1, cI 0]) rfl ?_
  exact h
theorem b_X11_isSilent_4 {d mc ms : Nat} {l1 l2 : Int} {S : MS} {C : MC} {Q : Int → MS → MC → Prop} (F : Fix S) (h : ((C 83 46 ≤ l2 → ((l1 = 0 ∨ l1 = 1) ∧ Q l1 S C)) ∧ (¬ C 83 46 ≤ l2 → ((l1 = 0 → K_X11_isSilent_4 d mc ms 0 (w32 (l2 + 1)) S C Q) ∧ (¬ l1 = 0 → ((0 : Int) ≤ w32 (37 + l2) ∧ w32 (37 + l2) < 5656) ∧ ((¬ C 83 (w32 (37 + l2)) = 0 → K_X11_isSilent_4 d mc ms 0 (w32 (l2 + 1)) S C Q) ∧ (C 83 (w32 (37 + l2)) = 0 → K_X11_isSilent_4 d mc ms 1 (w32 (l2 + 1)) S C Q))))))) : K_X11_isSilent_4 d mc ms l1 l2 S C Q := by
  show Wp d mc ms M_X11_isSilent 4 [cA 81, cI l1, cI l2] [] S C Q
  refine wp_iload_n (nx := 5) dX11_isSilent_4 rfl rfl ?_
  refine wp_aload_n (nx := 6) dX11_isSilent_5 rfl rfl ?_
  refine wp_getAe (kk := 2) (nx := 9) clsX11 dX11_isSilent_6 rfl kF_X11_28 (by decide) (fo_81 F) (ft_81 F) rfl (fp_81_2 F) ?_
  refine wp_bipush (nx := 11) dX11_isSilent_9 rfl ⟨by decide, i32 (by decide)⟩ ?_
  refine wp_ialoadE (nx := 12) dX11_isSilent_11 rfl (fo_83 F) (fl_83 F) (by decide) (ft_83 F) rfl ?_
  refine wp_icmp_ge (nx := 15) (tg := 43) dX11_isSilent_12 rfl rfl (fun hc => ?_) (fun hc => ?_)
  · have h := h.1 hc
    refine wp_iload_n (nx := 44) dX11_isSilent_43 rfl rfl ?_
    obtain ⟨hz, h⟩ := h
    exact wp_ireturn dX11_isSilent_44 rfl rfl (nz_of hz) h
  · have h := h.2 hc
    refine wp_iload_n (nx := 16) dX11_isSilent_15 rfl rfl ?_
    refine wp_if_eq (nx := 19) (tg := 35) dX11_isSilent_16 rfl rfl (fun hc => ?_) (fun hc => ?_)
    · have h := h.1 hc
      refine wp_iconst (nx := 36) dX11_isSilent_35 rfl (i32 (by decide)) ?_
      refine wp_istore_n (nx := 37) dX11_isSilent_36 rfl (by decide) ?_
      refine wp_ls (ls2 := [cA 81, cI 0, cI l2]) rfl ?_
      refine wp_iinc (nx := 40) dX11_isSilent_37 rfl rfl (by decide) ?_
      refine wp_ls (ls2 := [cA 81, cI 0, cI (w32 (l2 + 1))]) rfl ?_
      refine wp_goto (nx := 4) dX11_isSilent_40 rfl ?_
      exact h
    · have h := h.2 hc
      refine wp_aload_n (nx := 20) dX11_isSilent_19 rfl rfl ?_
      refine wp_getAe (kk := 2) (nx := 23) clsX11 dX11_isSilent_20 rfl kF_X11_28 (by decide) (fo_81 F) (ft_81 F) rfl (fp_81_2 F) ?_
      refine wp_bipush (nx := 25) dX11_isSilent_23 rfl ⟨by decide, i32 (by decide)⟩ ?_
      refine wp_iload_n (nx := 26) dX11_isSilent_25 rfl rfl ?_
      refine wp_iadd (nx := 27) dX11_isSilent_26 rfl ?_
      obtain ⟨hi, h⟩ := h
      refine wp_ialoadE (nx := 28) dX11_isSilent_27 rfl (fo_83 F) (fl_83 F) hi (ft_83 F) rfl ?_
      refine wp_if_ne (nx := 31) (tg := 35) dX11_isSilent_28 rfl rfl (fun hc => ?_) (fun hc => ?_)
      · have h := h.1 hc
        refine wp_iconst (nx := 36) dX11_isSilent_35 rfl (i32 (by decide)) ?_
        refine wp_istore_n (nx := 37) dX11_isSilent_36 rfl (by decide) ?_
        refine wp_ls (ls2 := [cA 81, cI 0, cI l2]) rfl ?_
        refine wp_iinc (nx := 40) dX11_isSilent_37 rfl rfl (by decide) ?_
        refine wp_ls (ls2 := [cA 81, cI 0, cI (w32 (l2 + 1))]) rfl ?_
        refine wp_goto (nx := 4) dX11_isSilent_40 rfl ?_
        exact h
      · have h := h.2 hc
        refine wp_iconst (nx := 32) dX11_isSilent_31 rfl (i32 (by decide)) ?_
        refine wp_goto (nx := 36) dX11_isSilent_32 rfl ?_
        refine wp_istore_n (nx := 37) dX11_isSilent_36 rfl (by decide) ?_
        refine wp_ls (ls2 := [cA 81, cI 1, cI l2]) rfl ?_
        refine wp_iinc (nx := 40) dX11_isSilent_37 rfl rfl (by decide) ?_
        refine wp_ls (ls2 := [cA 81, cI 1, cI (w32 (l2 + 1))]) rfl ?_
        refine wp_goto (nx := 4) dX11_isSilent_40 rfl ?_
        exact h
theorem b_X11_find_0 {d mc ms : Nat} {l1 : Int} {S : MS} {C : MC} {Q : Int → MS → MC → Prop} (F : Fix S) (h : ((l1 < (-1) → Q (-1) S C) ∧ (¬ l1 < (-1) → ((¬ C 83 46 = 0 → K_X11_isSilent_0 d 0 0 S C (fun r1 Sq C2 => Sq = S ∧ ((r1 = 0 → K_X11_find_36 (d + 1) mc ms l1 7 0 0 S C2 Q) ∧ (¬ r1 = 0 → K_X11_find_36 (d + 1) mc ms l1 0 0 0 S C2 Q)))) ∧ (C 83 46 = 0 → Q (-1) S C))))) : K_X11_find_0 (d + 1) mc ms l1 S C Q := by
  show Wp (d + 1) mc ms M_X11_find 0 [cA 81, cI l1, cU, cU, cU, cU] [] S C Q
  refine wp_iload_n (nx := 1) dX11_find_0 rfl rfl ?_
  refine wp_iconst (nx := 2) dX11_find_1 rfl (i32 (by decide)) ?_
  refine wp_icmp_lt (nx := 5) (tg := 15) dX11_find_2 rfl rfl (fun hc => ?_) (fun hc => ?_)
  · have h := h.1 hc
    refine wp_iconst (nx := 16) dX11_find_15 rfl (i32 (by decide)) ?_
    exact wp_ireturn dX11_find_16 rfl rfl rfl h
  · have h := h.2 hc
    refine wp_aload_n (nx := 6) dX11_find_5 rfl rfl ?_
    refine wp_getAe (kk := 2) (nx := 9) clsX11 dX11_find_6 rfl kF_X11_28 (by decide) (fo_81 F) (ft_81 F) rfl (fp_81_2 F) ?_
    refine wp_bipush (nx := 11) dX11_find_9 rfl ⟨by decide, i32 (by decide)⟩ ?_
    refine wp_ialoadE (nx := 12) dX11_find_11 rfl (fo_83 F) (fl_83 F) (by decide) (ft_83 F) rfl ?_
    refine wp_if_ne (nx := 15) (tg := 17) dX11_find_12 rfl rfl (fun hc => ?_) (fun hc => ?_)
    · have h := h.1 hc
      refine wp_aload_n (nx := 18) dX11_find_17 rfl rfl ?_
      refine wp_invV (nx := 21) (N := M_X11_isSilent) (as := []) (st := []) (mc := 0) (ms := 0) (mc' := mc) (ms' := ms) (a := 81) clsX11 dX11_find_18 rfl mok_X11_isSilent kM_X11_378 ki_X11_isSilent ke_X11_isSilent (fo_81 F) (ft_81 F) rfl rfl (leB rfl) (leB rfl) (z0 _) (z0 _) (Wp.mono h ?_)
      intro r1 Sq C2 h
      obtain ⟨e9, h⟩ := h
      rw [e9]
      show Wp (d + 1) mc ms M_X11_find 21 [cA 81, cI l1, cU, cU, cU, cU] [cI r1] S C2 Q
      refine wp_if_eq (nx := 24) (tg := 28) dX11_find_21 rfl rfl (fun hc => ?_) (fun hc => ?_)
      · have h := h.1 hc
        refine wp_bipush (nx := 30) dX11_find_28 rfl ⟨by decide, i32 (by decide)⟩ ?_
        refine wp_istore_n (nx := 31) dX11_find_30 rfl (by decide) ?_
        refine wp_ls (ls2 := [cA 81, cI l1, cI 7, cU, cU, cU]) rfl ?_
        refine wp_iconst (nx := 32) dX11_find_31 rfl (i32 (by decide)) ?_
        refine wp_istore_n (nx := 33) dX11_find_32 rfl (by decide) ?_
        refine wp_ls (ls2 := [cA 81, cI l1, cI 7, cI 0, cU, cU]) rfl ?_
        refine wp_iconst (nx := 34) dX11_find_33 rfl (i32 (by decide)) ?_
        refine wp_istore (nx := 36) dX11_find_34 rfl (by decide) ?_
        refine wp_ls (ls2 := [cA 81, cI l1, cI 7, cI 0, cI 0, cU]) rfl ?_
        exact h
      · have h := h.2 hc
        refine wp_iconst (nx := 25) dX11_find_24 rfl (i32 (by decide)) ?_
        refine wp_goto (nx := 30) dX11_find_25 rfl ?_
        refine wp_istore_n (nx := 31) dX11_find_30 rfl (by decide) ?_
        refine wp_ls (ls2 := [cA 81, cI l1, cI 0, cU, cU, cU]) rfl ?_
        refine wp_iconst (nx := 32) dX11_find_31 rfl (i32 (by decide)) ?_
        refine wp_istore_n (nx := 33) dX11_find_32 rfl (by decide) ?_
        refine wp_ls (ls2 := [cA 81, cI l1, cI 0, cI 0, cU, cU]) rfl ?_
        refine wp_iconst (nx := 34) dX11_find_33 rfl (i32 (by decide)) ?_
        refine wp_istore (nx := 36) dX11_find_34 rfl (by decide) ?_
        refine wp_ls (ls2 := [cA 81, cI l1, cI 0, cI 0, cI 0, cU]) rfl ?_
        exact h
    · have h := h.2 hc
      refine wp_iconst (nx := 16) dX11_find_15 rfl (i32 (by decide)) ?_
      exact wp_ireturn dX11_find_16 rfl rfl rfl h
theorem b_X11_find_36 {d mc ms : Nat} {l1 l2 l3 l4 : Int} {S : MS} {C : MC} {Q : Int → MS → MC → Prop} (F : Fix S) (h : ((w32 (16 - (C 83 46)) < l4 → ((¬ l1 = (-1) → Q (-1) S C) ∧ (l1 = (-1) → Q l3 S C))) ∧ (¬ w32 (16 - (C 83 46)) < l4 → K_X11_find_55 (d + 1) mc ms l1 l2 l3 l4 (w32 (-l2)) S C Q))) : K_X11_find_36 (d + 1) mc ms l1 l2 l3 l4 S C Q := by
  show Wp (d + 1) mc ms M_X11_find 36 [cA 81, cI l1, cI l2, cI l3, cI l4, cU] [] S C Q
  refine wp_iload (nx := 38) dX11_find_36 rfl rfl ?_
  refine wp_bipush (nx := 40) dX11_find_38 rfl ⟨by decide, i32 (by decide)⟩ ?_
  refine wp_aload_n (nx := 41) dX11_find_40 rfl rfl ?_
  refine wp_getAe (kk := 2) (nx := 44) clsX11 dX11_find_41 rfl kF_X11_28 (by decide) (fo_81 F) (ft_81 F) rfl (fp_81_2 F) ?_
  refine wp_bipush (nx := 46) dX11_find_44 rfl ⟨by decide, i32 (by decide)⟩ ?_
  refine wp_ialoadE (nx := 47) dX11_find_46 rfl (fo_83 F) (fl_83 F) (by decide) (ft_83 F) rfl ?_
  refine wp_isub (nx := 48) dX11_find_47 rfl ?_
  refine wp_icmp_gt (nx := 51) (tg := 107) dX11_find_48 rfl rfl (fun hc => ?_) (fun hc => ?_)
  · have h := h.1 hc
    refine wp_iload_n (nx := 108) dX11_find_107 rfl rfl ?_
    refine wp_iconst (nx := 109) dX11_find_108 rfl (i32 (by decide)) ?_
    refine wp_icmp_ne (nx := 112) (tg := 116) dX11_find_109 rfl rfl (fun hc => ?_) (fun hc => ?_)
    · have h := h.1 hc
      refine wp_iconst (nx := 117) dX11_find_116 rfl (i32 (by decide)) ?_
      exact wp_ireturn dX11_find_117 rfl rfl rfl h
    · have h := h.2 hc
      refine wp_iload_n (nx := 113) dX11_find_112 rfl rfl ?_
      refine wp_goto (nx := 117) dX11_find_113 rfl ?_
      exact wp_ireturn dX11_find_117 rfl rfl rfl h
  · have h := h.2 hc
    refine wp_iload_n (nx := 52) dX11_find_51 rfl rfl ?_
    refine wp_ineg (nx := 53) dX11_find_52 rfl ?_
    refine wp_istore (nx := 55) dX11_find_53 rfl (by decide) ?_
    refine wp_ls (ls2 := [cA 81, cI l1, cI l2, cI l3, cI l4, cI (w32 (-l2))]) rfl ?_
    exact h
theorem b_X11_find_55 {d mc ms : Nat} {l1 l2 l3 l4 l5 : Int} {S : MS} {C : MC} {Q : Int → MS → MC → Prop} (F : Fix S) (h : ((l2 < l5 → K_X11_find_36 (d + 1) mc ms l1 l2 l3 (w32 (l4 + 1)) S C Q) ∧ (¬ l2 < l5 → K_X11_isFound_0 d 0 0 l4 l5 S C (fun r1 Sq C2 => Sq = S ∧ ((¬ r1 = 0 → ((¬ l3 = l1 → K_X11_find_55 (d + 1) mc ms l1 l2 (w32 (l3 + 1)) l4 (w32 (l5 + 1)) S C2 Q) ∧ (l3 = l1 → Q (w32 ((w32 ((w32 (100 * l4)) + l5)) + 7)) S C2))) ∧ (r1 = 0 → K_X11_find_55 (d + 1) mc ms l1 l2 l3 l4 (w32 (l5 + 1)) S C2 Q)))))) : K_X11_find_55 (d + 1) mc ms l1 l2 l3 l4 l5 S C Q := by
  show Wp (d + 1) mc ms M_X11_find 55 [cA 81, cI l1, cI l2, cI l3, cI l4, cI l5] [] S C Q
  refine wp_iload (nx := 57) dX11_find_55 rfl rfl ?_
  refine wp_iload_n (nx := 58) dX11_find_57 rfl rfl ?_
  refine wp_icmp_gt (nx := 61) (tg := 101) dX11_find_58 rfl rfl (fun hc => ?_) (fun hc => ?_)
  · have h := h.1 hc
    refine wp_iinc (nx := 104) dX11_find_101 rfl rfl (by decide) ?_
    refine wp_ls (ls2 := [cA 81, cI l1, cI l2, cI l3, cI (w32 (l4 + 1)), cI l5]) rfl ?_
    refine wp_goto (nx := 36) dX11_find_104 rfl ?_
    refine wp_fg [true, true, true, true, true, false] (ls2 := [cA 81, cI l1, cI l2, cI l3, cI (w32 (l4 + 1)), cU]) rfl ?_
    exact h
  · have h := h.2 hc
    refine wp_aload_n (nx := 62) dX11_find_61 rfl rfl ?_
    refine wp_iload (nx := 64) dX11_find_62 rfl rfl ?_
    refine wp_iload (nx := 66) dX11_find_64 rfl rfl ?_
    refine wp_invV (nx := 69) (N := M_X11_isFound) (as := [cI l4, cI l5]) (st := []) (mc := 0) (ms := 0) (mc' := mc) (ms' := ms) (a := 81) clsX11 dX11_find_66 rfl mok_X11_isFound kM_X11_381 ki_X11_isFound ke_X11_isFound (fo_81 F) (ft_81 F) rfl rfl (leB rfl) (leB rfl) (z0 _) (z0 _) (Wp.mono h ?_)
    intro r1 Sq C2 h
    obtain ⟨e9, h⟩ := h
    rw [e9]
    show Wp (d + 1) mc ms M_X11_find 69 [cA 81, cI l1, cI l2, cI l3, cI l4, cI l5] [cI r1] S C2 Q
    refine wp_if_ne (nx := 72) (tg := 75) dX11_find_69 rfl rfl (fun hc => ?_) (fun hc => ?_)
    · have h := h.1 hc
      refine wp_iload_n (nx := 76) dX11_find_75 rfl rfl ?_
      refine wp_iload_n (nx := 77) dX11_find_76 rfl rfl ?_
      refine wp_icmp_ne (nx := 80) (tg := 92) dX11_find_77 rfl rfl (fun hc => ?_) (fun hc => ?_)
      · have h := h.1 hc
        refine wp_iinc (nx := 95) dX11_find_92 rfl rfl (by decide) ?_
        refine wp_ls (ls2 := [cA 81, cI l1, cI l2, cI (w32 (l3 + 1)), cI l4, cI l5]) rfl ?_
        refine wp_iinc (nx := 98) dX11_find_95 rfl rfl (by decide) ?_
        refine wp_ls (ls2 := [cA 81, cI l1, cI l2, cI (w32 (l3 + 1)), cI l4, cI (w32 (l5 + 1))]) rfl ?_
        refine wp_goto (nx := 55) dX11_find_98 rfl ?_
        exact h
      · have h := h.2 hc
        refine wp_bipush (nx := 82) dX11_find_80 rfl ⟨by decide, i32 (by decide)⟩ ?_
        refine wp_iload (nx := 84) dX11_find_82 rfl rfl ?_
        refine wp_imul (nx := 85) dX11_find_84 rfl ?_
        refine wp_iload (nx := 87) dX11_find_85 rfl rfl ?_
        refine wp_iadd (nx := 88) dX11_find_87 rfl ?_
        refine wp_bipush (nx := 90) dX11_find_88 rfl ⟨by decide, i32 (by decide)⟩ ?_
        refine wp_iadd (nx := 91) dX11_find_90 rfl ?_
        exact wp_ireturn dX11_find_91 rfl rfl rfl h
    · have h := h.2 hc
      refine wp_goto (nx := 95) dX11_find_72 rfl ?_
      refine wp_iinc (nx := 98) dX11_find_95 rfl rfl (by decide) ?_
      refine wp_ls (ls2 := [cA 81, cI l1, cI l2, cI l3, cI l4, cI (w32 (l5 + 1))]) rfl ?_
      refine wp_goto (nx := 55) dX11_find_98 rfl ?_
      exact h
theorem b_X11_laysDebts_0 {d mc ms : Nat} {S : MS} {C : MC} {Q : Int → MS → MC → Prop} (F : Fix S) (h : K_X11_laysDebts_2 (d + 1) mc ms 0 S C Q) : K_X11_laysDebts_0 (d + 1) mc ms S C Q := by
  show Wp (d + 1) mc ms M_X11_laysDebts 0 [cA 81, cU, cU, cU] [] S C Q
  refine wp_iconst (nx := 1) dX11_laysDebts_0 rfl (i32 (by decide)) ?_
  refine wp_istore_n (nx := 2) dX11_laysDebts_1 rfl (by decide) ?_
  refine wp_ls (ls2 := [cA 81, cI 0, cU, cU]) rfl ?_
  exact h
theorem b_X11_laysDebts_2 {d mc ms : Nat} {l1 : Int} {S : MS} {C : MC} {Q : Int → MS → MC → Prop} (F : Fix S) (h : ((36 ≤ l1 → K_X11_laysDebts_25 (d + 1) mc ms 1 0 S C Q) ∧ (¬ 36 ≤ l1 → ((0 : Int) ≤ l1 ∧ l1 < 36) ∧ K_X11_laysDebts_2 (d + 1) mc ms (w32 (l1 + 1)) S (upC C 101 l1 0) Q))) : K_X11_laysDebts_2 (d + 1) mc ms l1 S C Q := by
  show Wp (d + 1) mc ms M_X11_laysDebts 2 [cA 81, cI l1, cU, cU] [] S C Q
  refine wp_iload_n (nx := 3) dX11_laysDebts_2 rfl rfl ?_
  refine wp_bipush (nx := 5) dX11_laysDebts_3 rfl ⟨by decide, i32 (by decide)⟩ ?_
  refine wp_icmp_ge (nx := 8) (tg := 21) dX11_laysDebts_5 rfl rfl (fun hc => ?_) (fun hc => ?_)
  · have h := h.1 hc
    refine wp_iconst (nx := 22) dX11_laysDebts_21 rfl (i32 (by decide)) ?_
    refine wp_istore_n (nx := 23) dX11_laysDebts_22 rfl (by decide) ?_
    refine wp_ls (ls2 := [cA 81, cI 1, cU, cU]) rfl ?_
    refine wp_iconst (nx := 24) dX11_laysDebts_23 rfl (i32 (by decide)) ?_
    refine wp_istore_n (nx := 25) dX11_laysDebts_24 rfl (by decide) ?_
    refine wp_ls (ls2 := [cA 81, cI 1, cI 0, cU]) rfl ?_
    exact h
  · have h := h.2 hc
    refine wp_aload_n (nx := 9) dX11_laysDebts_8 rfl rfl ?_
    refine wp_getAe (kk := 37) (nx := 12) clsX11 dX11_laysDebts_9 rfl kF_X11_87 (by decide) (fo_81 F) (ft_81 F) rfl (fp_81_37 F) ?_
    refine wp_iload_n (nx := 13) dX11_laysDebts_12 rfl rfl ?_
    refine wp_iconst (nx := 14) dX11_laysDebts_13 rfl (i32 (by decide)) ?_
    obtain ⟨hi, h⟩ := h
    refine wp_iastoreE (nx := 15) dX11_laysDebts_14 rfl (fo_101 F) (fl_101 F) hi (ft_101 F) ?_
    refine wp_iinc (nx := 18) dX11_laysDebts_15 rfl rfl (by decide) ?_
    refine wp_ls (ls2 := [cA 81, cI (w32 (l1 + 1)), cU, cU]) rfl ?_
    refine wp_goto (nx := 2) dX11_laysDebts_18 rfl ?_
    exact h
theorem b_X11_laysDebts_25 {d mc ms : Nat} {l1 l2 : Int} {S : MS} {C : MC} {Q : Int → MS → MC → Prop} (F : Fix S) (h : ((16 ≤ l2 → ((l1 = 0 ∨ l1 = 1) ∧ Q l1 S C)) ∧ (¬ 16 ≤ l2 → ((l1 = 0 → ((l1 = 0 ∨ l1 = 1) ∧ Q l1 S C)) ∧ (¬ l1 = 0 → K_X11_laysWay_0 d 0 0 l2 S C (fun r1 Sq C2 => Sq = S ∧ K_X11_laysDebts_43 (d + 1) mc ms r1 l2 0 S C2 Q)))))) : K_X11_laysDebts_25 (d + 1) mc ms l1 l2 S C Q := by
  show Wp (d + 1) mc ms M_X11_laysDebts 25 [cA 81, cI l1, cI l2, cU] [] S C Q
  refine wp_iload_n (nx := 26) dX11_laysDebts_25 rfl rfl ?_
  refine wp_bipush (nx := 28) dX11_laysDebts_26 rfl ⟨by decide, i32 (by decide)⟩ ?_
  refine wp_icmp_ge (nx := 31) (tg := 127) dX11_laysDebts_28 rfl rfl (fun hc => ?_) (fun hc => ?_)
  · have h := h.1 hc
    refine wp_iload_n (nx := 128) dX11_laysDebts_127 rfl rfl ?_
    obtain ⟨hz, h⟩ := h
    exact wp_ireturn dX11_laysDebts_128 rfl rfl (nz_of hz) h
  · have h := h.2 hc
    refine wp_iload_n (nx := 32) dX11_laysDebts_31 rfl rfl ?_
    refine wp_if_eq (nx := 35) (tg := 127) dX11_laysDebts_32 rfl rfl (fun hc => ?_) (fun hc => ?_)
    · have h := h.1 hc
      refine wp_iload_n (nx := 128) dX11_laysDebts_127 rfl rfl ?_
      obtain ⟨hz, h⟩ := h
      exact wp_ireturn dX11_laysDebts_128 rfl rfl (nz_of hz) h
    · have h := h.2 hc
      refine wp_aload_n (nx := 36) dX11_laysDebts_35 rfl rfl ?_
      refine wp_iload_n (nx := 37) dX11_laysDebts_36 rfl rfl ?_
      refine wp_invV (nx := 40) (N := M_X11_laysWay) (as := [cI l2]) (st := []) (mc := 0) (ms := 0) (mc' := mc) (ms' := ms) (a := 81) clsX11 dX11_laysDebts_37 rfl mok_X11_laysWay kM_X11_369 ki_X11_laysWay ke_X11_laysWay (fo_81 F) (ft_81 F) rfl rfl (leB rfl) (leB rfl) (z0 _) (z0 _) (Wp.mono h ?_)
      intro r1 Sq C2 h
      obtain ⟨e9, h⟩ := h
      rw [e9]
      show Wp (d + 1) mc ms M_X11_laysDebts 40 [cA 81, cI l1, cI l2, cU] [cI r1] S C2 Q
      refine wp_istore_n (nx := 41) dX11_laysDebts_40 rfl (by decide) ?_
      refine wp_ls (ls2 := [cA 81, cI r1, cI l2, cU]) rfl ?_
      refine wp_iconst (nx := 42) dX11_laysDebts_41 rfl (i32 (by decide)) ?_
      refine wp_istore_n (nx := 43) dX11_laysDebts_42 rfl (by decide) ?_
      refine wp_ls (ls2 := [cA 81, cI r1, cI l2, cI 0]) rfl ?_
      exact h
theorem b_X11_laysDebts_43 {d mc ms : Nat} {l1 l2 l3 : Int} {S : MS} {C : MC} {Q : Int → MS → MC → Prop} (F : Fix S) (h : ((8 ≤ l3 → K_X11_laysDebts_25 (d + 1) mc ms l1 (w32 (l2 + 1)) S C Q) ∧ (¬ 8 ≤ l3 → ((0 : Int) ≤ l3 ∧ l3 < 8) ∧ ((C 98 l3 = (-1) → K_X11_laysDebts_43 (d + 1) mc ms l1 l2 (w32 (l3 + 1)) S C Q) ∧ (¬ C 98 l3 = (-1) → ((0 : Int) ≤ w32 (0 + l3) ∧ w32 (0 + l3) < 5656) ∧ ((C 83 (w32 (0 + l3)) = (-1) → K_X11_laysDebts_43 (d + 1) mc ms l1 l2 (w32 (l3 + 1)) S C Q) ∧ (¬ C 83 (w32 (0 + l3)) = (-1) → ((0 : Int) ≤ w32 (0 + l3) ∧ w32 (0 + l3) < 5656) ∧ ((0 : Int) ≤ l3 ∧ l3 < 8) ∧ ((C 83 (w32 (0 + l3)) = C 98 l3 → K_X11_laysDebts_43 (d + 1) mc ms l1 l2 (w32 (l3 + 1)) S C Q) ∧ (¬ C 83 (w32 (0 + l3)) = C 98 l3 → ((0 : Int) ≤ l3 ∧ l3 < 8) ∧ ((0 : Int) ≤ w32 (0 + l3) ∧ w32 (0 + l3) < 5656) ∧ ((0 : Int) ≤ w32 ((w32 (6 * (C 98 l3))) + (C 83 (w32 (0 + l3)))) ∧ w32 ((w32 (6 * (C 98 l3))) + (C 83 (w32 (0 + l3)))) < 36) ∧ ((0 : Int) ≤ w32 ((w32 (6 * (C 98 l3))) + (C 83 (w32 (0 + l3)))) ∧ w32 ((w32 (6 * (C 98 l3))) + (C 83 (w32 (0 + l3)))) < 36) ∧ K_X11_laysDebts_43 (d + 1) mc ms l1 l2 (w32 (l3 + 1)) S (upC C 101 (w32 ((w32 (6 * (C 98 l3))) + (C 83 (w32 (0 + l3))))) (w32 ((C 101 (w32 ((w32 (6 * (C 98 l3))) + (C 83 (w32 (0 + l3)))))) + 1))) Q))))))))) : K_X11_laysDebts_43 (d + 1) mc ms l1 l2 l3 S C Q := by
  show Wp (d + 1) mc ms M_X11_laysDebts 43 [cA 81, cI l1, cI l2, cI l3] [] S C Q
  refine wp_iload_n (nx := 44) dX11_laysDebts_43 rfl rfl ?_
  refine wp_bipush (nx := 46) dX11_laysDebts_44 rfl ⟨by decide, i32 (by decide)⟩ ?_
  refine wp_icmp_ge (nx := 49) (tg := 121) dX11_laysDebts_46 rfl rfl (fun hc => ?_) (fun hc => ?_)
  · have h := h.1 hc
    refine wp_iinc (nx := 124) dX11_laysDebts_121 rfl rfl (by decide) ?_
    refine wp_ls (ls2 := [cA 81, cI l1, cI (w32 (l2 + 1)), cI l3]) rfl ?_
    refine wp_goto (nx := 25) dX11_laysDebts_124 rfl ?_
    refine wp_fg [true, true, true, false] (ls2 := [cA 81, cI l1, cI (w32 (l2 + 1)), cU]) rfl ?_
    exact h
  · have h := h.2 hc
    refine wp_aload_n (nx := 50) dX11_laysDebts_49 rfl rfl ?_
    refine wp_getAe (kk := 34) (nx := 53) clsX11 dX11_laysDebts_50 rfl kF_X11_78 (by decide) (fo_81 F) (ft_81 F) rfl (fp_81_34 F) ?_
    refine wp_iload_n (nx := 54) dX11_laysDebts_53 rfl rfl ?_
    obtain ⟨hi, h⟩ := h
    refine wp_ialoadE (nx := 55) dX11_laysDebts_54 rfl (fo_98 F) (fl_98 F) hi (ft_98 F) rfl ?_
    refine wp_iconst (nx := 56) dX11_laysDebts_55 rfl (i32 (by decide)) ?_
    refine wp_icmp_eq (nx := 59) (tg := 115) dX11_laysDebts_56 rfl rfl (fun hc => ?_) (fun hc => ?_)
    · have h := h.1 hc
      refine wp_iinc (nx := 118) dX11_laysDebts_115 rfl rfl (by decide) ?_
      refine wp_ls (ls2 := [cA 81, cI l1, cI l2, cI (w32 (l3 + 1))]) rfl ?_
      refine wp_goto (nx := 43) dX11_laysDebts_118 rfl ?_
      exact h
    · have h := h.2 hc
      refine wp_aload_n (nx := 60) dX11_laysDebts_59 rfl rfl ?_
      refine wp_getAe (kk := 2) (nx := 63) clsX11 dX11_laysDebts_60 rfl kF_X11_28 (by decide) (fo_81 F) (ft_81 F) rfl (fp_81_2 F) ?_
      refine wp_iconst (nx := 64) dX11_laysDebts_63 rfl (i32 (by decide)) ?_
      refine wp_iload_n (nx := 65) dX11_laysDebts_64 rfl rfl ?_
      refine wp_iadd (nx := 66) dX11_laysDebts_65 rfl ?_
      obtain ⟨hi, h⟩ := h
      refine wp_ialoadE (nx := 67) dX11_laysDebts_66 rfl (fo_83 F) (fl_83 F) hi (ft_83 F) rfl ?_
      refine wp_iconst (nx := 68) dX11_laysDebts_67 rfl (i32 (by decide)) ?_
      refine wp_icmp_eq (nx := 71) (tg := 115) dX11_laysDebts_68 rfl rfl (fun hc => ?_) (fun hc => ?_)
      · have h := h.1 hc
        refine wp_iinc (nx := 118) dX11_laysDebts_115 rfl rfl (by decide) ?_
        refine wp_ls (ls2 := [cA 81, cI l1, cI l2, cI (w32 (l3 + 1))]) rfl ?_
        refine wp_goto (nx := 43) dX11_laysDebts_118 rfl ?_
        exact h
      · have h := h.2 hc
        refine wp_aload_n (nx := 72) dX11_laysDebts_71 rfl rfl ?_
        refine wp_getAe (kk := 2) (nx := 75) clsX11 dX11_laysDebts_72 rfl kF_X11_28 (by decide) (fo_81 F) (ft_81 F) rfl (fp_81_2 F) ?_
        refine wp_iconst (nx := 76) dX11_laysDebts_75 rfl (i32 (by decide)) ?_
        refine wp_iload_n (nx := 77) dX11_laysDebts_76 rfl rfl ?_
        refine wp_iadd (nx := 78) dX11_laysDebts_77 rfl ?_
        obtain ⟨hi, h⟩ := h
        refine wp_ialoadE (nx := 79) dX11_laysDebts_78 rfl (fo_83 F) (fl_83 F) hi (ft_83 F) rfl ?_
        refine wp_aload_n (nx := 80) dX11_laysDebts_79 rfl rfl ?_
        refine wp_getAe (kk := 34) (nx := 83) clsX11 dX11_laysDebts_80 rfl kF_X11_78 (by decide) (fo_81 F) (ft_81 F) rfl (fp_81_34 F) ?_
        refine wp_iload_n (nx := 84) dX11_laysDebts_83 rfl rfl ?_
        obtain ⟨hi, h⟩ := h
        refine wp_ialoadE (nx := 85) dX11_laysDebts_84 rfl (fo_98 F) (fl_98 F) hi (ft_98 F) rfl ?_
        refine wp_icmp_eq (nx := 88) (tg := 115) dX11_laysDebts_85 rfl rfl (fun hc => ?_) (fun hc => ?_)
        · have h := h.1 hc
          refine wp_iinc (nx := 118) dX11_laysDebts_115 rfl rfl (by decide) ?_
          refine wp_ls (ls2 := [cA 81, cI l1, cI l2, cI (w32 (l3 + 1))]) rfl ?_
          refine wp_goto (nx := 43) dX11_laysDebts_118 rfl ?_
          exact h
        · have h := h.2 hc
          refine wp_aload_n (nx := 89) dX11_laysDebts_88 rfl rfl ?_
          refine wp_getAe (kk := 37) (nx := 92) clsX11 dX11_laysDebts_89 rfl kF_X11_87 (by decide) (fo_81 F) (ft_81 F) rfl (fp_81_37 F) ?_
          refine wp_bipush (nx := 94) dX11_laysDebts_92 rfl ⟨by decide, i32 (by decide)⟩ ?_
          refine wp_aload_n (nx := 95) dX11_laysDebts_94 rfl rfl ?_
          refine wp_getAe (kk := 34) (nx := 98) clsX11 dX11_laysDebts_95 rfl kF_X11_78 (by decide) (fo_81 F) (ft_81 F) rfl (fp_81_34 F) ?_
          refine wp_iload_n (nx := 99) dX11_laysDebts_98 rfl rfl ?_
          obtain ⟨hi, h⟩ := h
          refine wp_ialoadE (nx := 100) dX11_laysDebts_99 rfl (fo_98 F) (fl_98 F) hi (ft_98 F) rfl ?_
          refine wp_imul (nx := 101) dX11_laysDebts_100 rfl ?_
          refine wp_aload_n (nx := 102) dX11_laysDebts_101 rfl rfl ?_
          refine wp_getAe (kk := 2) (nx := 105) clsX11 dX11_laysDebts_102 rfl kF_X11_28 (by decide) (fo_81 F) (ft_81 F) rfl (fp_81_2 F) ?_
          refine wp_iconst (nx := 106) dX11_laysDebts_105 rfl (i32 (by decide)) ?_
          refine wp_iload_n (nx := 107) dX11_laysDebts_106 rfl rfl ?_
          refine wp_iadd (nx := 108) dX11_laysDebts_107 rfl ?_
          obtain ⟨hi, h⟩ := h
          refine wp_ialoadE (nx := 109) dX11_laysDebts_108 rfl (fo_83 F) (fl_83 F) hi (ft_83 F) rfl ?_
          refine wp_iadd (nx := 110) dX11_laysDebts_109 rfl ?_
          refine wp_dup2 (nx := 111) dX11_laysDebts_110 rfl (k1I _) (k1A _) ?_
          obtain ⟨hi, h⟩ := h
          refine wp_ialoadE (nx := 112) dX11_laysDebts_111 rfl (fo_101 F) (fl_101 F) hi (ft_101 F) rfl ?_
          refine wp_iconst (nx := 113) dX11_laysDebts_112 rfl (i32 (by decide)) ?_
          refine wp_iadd (nx := 114) dX11_laysDebts_113 rfl ?_
          obtain ⟨hi, h⟩ := h
          refine wp_iastoreE (nx := 115) dX11_laysDebts_114 rfl (fo_101 F) (fl_101 F) hi (ft_101 F) ?_
          refine wp_iinc (nx := 118) dX11_laysDebts_115 rfl rfl (by decide) ?_
          refine wp_ls (ls2 := [cA 81, cI l1, cI l2, cI (w32 (l3 + 1))]) rfl ?_
          refine wp_goto (nx := 43) dX11_laysDebts_118 rfl ?_
          exact h
theorem b_X11_owes_0 {d mc ms : Nat} {l1 l2 : Int} {S : MS} {C : MC} {Q : Int → MS → MC → Prop} (F : Fix S) (h : K_X11_isHouse_0 d 0 0 l1 S C (fun r1 Sq C2 => Sq = S ∧ ((r1 = 0 → Q (-1) S C2) ∧ (¬ r1 = 0 → K_X11_isHouse_0 d 0 0 l2 S C2 (fun r3 Sq C4 => Sq = S ∧ ((r3 = 0 → Q (-1) S C4) ∧ (¬ r3 = 0 → ((l1 = l2 → Q (-1) S C4) ∧ (¬ l1 = l2 → K_X11_laysDebts_0 d 0 0 S C4 (fun r5 Sq C6 => Sq = S ∧ ((¬ r5 = 0 → ((0 : Int) ≤ w32 ((w32 (6 * l1)) + l2) ∧ w32 ((w32 (6 * l1)) + l2) < 36) ∧ Q (C6 101 (w32 ((w32 (6 * l1)) + l2))) S C6) ∧ (r5 = 0 → Q (-1) S C6)))))))))))) : K_X11_owes_0 (d + 1) mc ms l1 l2 S C Q := by
  show Wp (d + 1) mc ms M_X11_owes 0 [cA 81, cI l1, cI l2] [] S C Q
  refine wp_aload_n (nx := 1) dX11_owes_0 rfl rfl ?_
  refine wp_iload_n (nx := 2) dX11_owes_1 rfl rfl ?_
  refine wp_invV (nx := 5) (N := M_X11_isHouse) (as := [cI l1]) (st := []) (mc := 0) (ms := 0) (mc' := mc) (ms' := ms) (a := 81) clsX11 dX11_owes_2 rfl mok_X11_isHouse kM_X11_128 ki_X11_isHouse ke_X11_isHouse (fo_81 F) (ft_81 F) rfl rfl (leB rfl) (leB rfl) (z0 _) (z0 _) (Wp.mono h ?_)
  intro r1 Sq C2 h
  obtain ⟨e9, h⟩ := h
  rw [e9]
  show Wp (d + 1) mc ms M_X11_owes 5 [cA 81, cI l1, cI l2] [cI r1] S C2 Q
  refine wp_if_eq (nx := 8) (tg := 28) dX11_owes_5 rfl rfl (fun hc => ?_) (fun hc => ?_)
  · have h := h.1 hc
    refine wp_iconst (nx := 29) dX11_owes_28 rfl (i32 (by decide)) ?_
    exact wp_ireturn dX11_owes_29 rfl rfl rfl h
  · have h := h.2 hc
    refine wp_aload_n (nx := 9) dX11_owes_8 rfl rfl ?_
    refine wp_iload_n (nx := 10) dX11_owes_9 rfl rfl ?_
    refine wp_invV (nx := 13) (N := M_X11_isHouse) (as := [cI l2]) (st := []) (mc := 0) (ms := 0) (mc' := mc) (ms' := ms) (a := 81) clsX11 dX11_owes_10 rfl mok_X11_isHouse kM_X11_128 ki_X11_isHouse ke_X11_isHouse (fo_81 F) (ft_81 F) rfl rfl (leB rfl) (leB rfl) (z0 _) (z0 _) (Wp.mono h ?_)
    intro r3 Sq C4 h
    obtain ⟨e9, h⟩ := h
    rw [e9]
    show Wp (d + 1) mc ms M_X11_owes 13 [cA 81, cI l1, cI l2] [cI r3] S C4 Q
    refine wp_if_eq (nx := 16) (tg := 28) dX11_owes_13 rfl rfl (fun hc => ?_) (fun hc => ?_)
    · have h := h.1 hc
      refine wp_iconst (nx := 29) dX11_owes_28 rfl (i32 (by decide)) ?_
      exact wp_ireturn dX11_owes_29 rfl rfl rfl h
    · have h := h.2 hc
      refine wp_iload_n (nx := 17) dX11_owes_16 rfl rfl ?_
      refine wp_iload_n (nx := 18) dX11_owes_17 rfl rfl ?_
      refine wp_icmp_eq (nx := 21) (tg := 28) dX11_owes_18 rfl rfl (fun hc => ?_) (fun hc => ?_)
      · have h := h.1 hc
        refine wp_iconst (nx := 29) dX11_owes_28 rfl (i32 (by decide)) ?_
        exact wp_ireturn dX11_owes_29 rfl rfl rfl h
      · have h := h.2 hc
        refine wp_aload_n (nx := 22) dX11_owes_21 rfl rfl ?_
        refine wp_invV (nx := 25) (N := M_X11_laysDebts) (as := []) (st := []) (mc := 0) (ms := 0) (mc' := mc) (ms' := ms) (a := 81) clsX11 dX11_owes_22 rfl mok_X11_laysDebts kM_X11_384 ki_X11_laysDebts ke_X11_laysDebts (fo_81 F) (ft_81 F) rfl rfl (leB rfl) (leB rfl) (z0 _) (z0 _) (Wp.mono h ?_)
        intro r5 Sq C6 h
        obtain ⟨e9, h⟩ := h
        rw [e9]
        show Wp (d + 1) mc ms M_X11_owes 25 [cA 81, cI l1, cI l2] [cI r5] S C6 Q
        refine wp_if_ne (nx := 28) (tg := 30) dX11_owes_25 rfl rfl (fun hc => ?_) (fun hc => ?_)
        · have h := h.1 hc
          refine wp_aload_n (nx := 31) dX11_owes_30 rfl rfl ?_
          refine wp_getAe (kk := 37) (nx := 34) clsX11 dX11_owes_31 rfl kF_X11_87 (by decide) (fo_81 F) (ft_81 F) rfl (fp_81_37 F) ?_
          refine wp_bipush (nx := 36) dX11_owes_34 rfl ⟨by decide, i32 (by decide)⟩ ?_
          refine wp_iload_n (nx := 37) dX11_owes_36 rfl rfl ?_
          refine wp_imul (nx := 38) dX11_owes_37 rfl ?_
          refine wp_iload_n (nx := 39) dX11_owes_38 rfl rfl ?_
          refine wp_iadd (nx := 40) dX11_owes_39 rfl ?_
          obtain ⟨hi, h⟩ := h
          refine wp_ialoadE (nx := 41) dX11_owes_40 rfl (fo_101 F) (fl_101 F) hi (ft_101 F) rfl ?_
          exact wp_ireturn dX11_owes_41 rfl rfl rfl h
        · have h := h.2 hc
          refine wp_iconst (nx := 29) dX11_owes_28 rfl (i32 (by decide)) ?_
          exact wp_ireturn dX11_owes_29 rfl rfl rfl h
theorem b_X11_owedMore_0 {d mc ms : Nat} {l1 : Int} {S : MS} {C : MC} {Q : Int → MS → MC → Prop} (F : Fix S) (h : K_X11_owedMore_4 (d + 1) mc ms l1 0 0 S C Q) : K_X11_owedMore_0 (d + 1) mc ms l1 S C Q := by
  show Wp (d + 1) mc ms M_X11_owedMore 0 [cA 81, cI l1, cU, cU, cU] [] S C Q
  refine wp_iconst (nx := 1) dX11_owedMore_0 rfl (i32 (by decide)) ?_
  refine wp_istore_n (nx := 2) dX11_owedMore_1 rfl (by decide) ?_
  refine wp_ls (ls2 := [cA 81, cI l1, cI 0, cU, cU]) rfl ?_
  refine wp_iconst (nx := 3) dX11_owedMore_2 rfl (i32 (by decide)) ?_
  refine wp_istore_n (nx := 4) dX11_owedMore_3 rfl (by decide) ?_
  refine wp_ls (ls2 := [cA 81, cI l1, cI 0, cI 0, cU]) rfl ?_
  exact h
theorem b_X11_owedMore_4 {d mc ms : Nat} {l1 l2 l3 : Int} {S : MS} {C : MC} {Q : Int → MS → MC → Prop} (F : Fix S) (h : ((6 ≤ l3 → Q l2 S C) ∧ (¬ 6 ≤ l3 → K_X11_owedMore_13 (d + 1) mc ms l1 l2 l3 0 S C Q))) : K_X11_owedMore_4 (d + 1) mc ms l1 l2 l3 S C Q := by
  show Wp (d + 1) mc ms M_X11_owedMore 4 [cA 81, cI l1, cI l2, cI l3, cU] [] S C Q
  refine wp_iload_n (nx := 5) dX11_owedMore_4 rfl rfl ?_
  refine wp_bipush (nx := 7) dX11_owedMore_5 rfl ⟨by decide, i32 (by decide)⟩ ?_
  refine wp_icmp_ge (nx := 10) (tg := 101) dX11_owedMore_7 rfl rfl (fun hc => ?_) (fun hc => ?_)
  · have h := h.1 hc
    refine wp_iload_n (nx := 102) dX11_owedMore_101 rfl rfl ?_
    exact wp_ireturn dX11_owedMore_102 rfl rfl rfl h
  · have h := h.2 hc
    refine wp_iconst (nx := 11) dX11_owedMore_10 rfl (i32 (by decide)) ?_
    refine wp_istore (nx := 13) dX11_owedMore_11 rfl (by decide) ?_
    refine wp_ls (ls2 := [cA 81, cI l1, cI l2, cI l3, cI 0]) rfl ?_
    exact h
theorem b_X11_owedMore_13 {d mc ms : Nat} {l1 l2 l3 l4 : Int} {S : MS} {C : MC} {Q : Int → MS → MC → Prop} (F : Fix S) (h : ((6 ≤ l4 → K_X11_owedMore_4 (d + 1) mc ms l1 l2 (w32 (l3 + 1)) S C Q) ∧ (¬ 6 ≤ l4 → K_X11_isIn_0 d 0 0 l1 l4 S C (fun r1 Sq C2 => Sq = S ∧ ((r1 = 0 → K_X11_owedMore_53 (d + 1) mc ms l1 l3 l4 l2 S C2 Q) ∧ (¬ r1 = 0 → K_X11_isIn_0 d 0 0 l1 l3 S C2 (fun r3 Sq C4 => Sq = S ∧ ((¬ r3 = 0 → K_X11_owedMore_53 (d + 1) mc ms l1 l3 l4 l2 S C4 Q) ∧ (r3 = 0 → ((0 : Int) ≤ w32 ((w32 (6 * l3)) + l4) ∧ w32 ((w32 (6 * l3)) + l4) < 36) ∧ K_X11_owedMore_13 (d + 1) mc ms l1 (w32 (l2 + (C4 101 (w32 ((w32 (6 * l3)) + l4))))) l3 (w32 (l4 + 1)) S C4 Q))))))))) : K_X11_owedMore_13 (d + 1) mc ms l1 l2 l3 l4 S C Q := by
  show Wp (d + 1) mc ms M_X11_owedMore 13 [cA 81, cI l1, cI l2, cI l3, cI l4] [] S C Q
  refine wp_iload (nx := 15) dX11_owedMore_13 rfl rfl ?_
  refine wp_bipush (nx := 17) dX11_owedMore_15 rfl ⟨by decide, i32 (by decide)⟩ ?_
  refine wp_icmp_ge (nx := 20) (tg := 95) dX11_owedMore_17 rfl rfl (fun hc => ?_) (fun hc => ?_)
  · have h := h.1 hc
    refine wp_iinc (nx := 98) dX11_owedMore_95 rfl rfl (by decide) ?_
    refine wp_ls (ls2 := [cA 81, cI l1, cI l2, cI (w32 (l3 + 1)), cI l4]) rfl ?_
    refine wp_goto (nx := 4) dX11_owedMore_98 rfl ?_
    refine wp_fg [true, true, true, true, false] (ls2 := [cA 81, cI l1, cI l2, cI (w32 (l3 + 1)), cU]) rfl ?_
    exact h
  · have h := h.2 hc
    refine wp_iload_n (nx := 21) dX11_owedMore_20 rfl rfl ?_
    refine wp_iload_n (nx := 22) dX11_owedMore_21 rfl rfl ?_
    refine wp_iload (nx := 24) dX11_owedMore_22 rfl rfl ?_
    refine wp_invS (nx := 27) (N := M_X11_isIn) (as := [cI l1, cI l4]) (st := [cI l2]) (mc := 0) (ms := 0) (mc' := mc) (ms' := ms) dX11_owedMore_24 rfl mok_X11_isIn kM_X11_335 ks_X11_isIn rfl rfl (leB rfl) (leB rfl) (z0 _) (z0 _) (Wp.mono h ?_)
    intro r1 Sq C2 h
    obtain ⟨e9, h⟩ := h
    rw [e9]
    show Wp (d + 1) mc ms M_X11_owedMore 27 [cA 81, cI l1, cI l2, cI l3, cI l4] [cI r1, cI l2] S C2 Q
    refine wp_if_eq (nx := 30) (tg := 53) dX11_owedMore_27 rfl rfl (fun hc => ?_) (fun hc => ?_)
    · have h := h.1 hc
      refine wp_fg [true, true, false, true, true] (ls2 := [cA 81, cI l1, cU, cI l3, cI l4]) rfl ?_
      exact h
    · have h := h.2 hc
      refine wp_iload_n (nx := 31) dX11_owedMore_30 rfl rfl ?_
      refine wp_iload_n (nx := 32) dX11_owedMore_31 rfl rfl ?_
      refine wp_invS (nx := 35) (N := M_X11_isIn) (as := [cI l1, cI l3]) (st := [cI l2]) (mc := 0) (ms := 0) (mc' := mc) (ms' := ms) dX11_owedMore_32 rfl mok_X11_isIn kM_X11_335 ks_X11_isIn rfl rfl (leB rfl) (leB rfl) (z0 _) (z0 _) (Wp.mono h ?_)
      intro r3 Sq C4 h
      obtain ⟨e9, h⟩ := h
      rw [e9]
      show Wp (d + 1) mc ms M_X11_owedMore 35 [cA 81, cI l1, cI l2, cI l3, cI l4] [cI r3, cI l2] S C4 Q
      refine wp_if_ne (nx := 38) (tg := 53) dX11_owedMore_35 rfl rfl (fun hc => ?_) (fun hc => ?_)
      · have h := h.1 hc
        refine wp_fg [true, true, false, true, true] (ls2 := [cA 81, cI l1, cU, cI l3, cI l4]) rfl ?_
        exact h
      · have h := h.2 hc
        refine wp_aload_n (nx := 39) dX11_owedMore_38 rfl rfl ?_
        refine wp_getAe (kk := 37) (nx := 42) clsX11 dX11_owedMore_39 rfl kF_X11_87 (by decide) (fo_81 F) (ft_81 F) rfl (fp_81_37 F) ?_
        refine wp_bipush (nx := 44) dX11_owedMore_42 rfl ⟨by decide, i32 (by decide)⟩ ?_
        refine wp_iload_n (nx := 45) dX11_owedMore_44 rfl rfl ?_
        refine wp_imul (nx := 46) dX11_owedMore_45 rfl ?_
        refine wp_iload (nx := 48) dX11_owedMore_46 rfl rfl ?_
        refine wp_iadd (nx := 49) dX11_owedMore_48 rfl ?_
        obtain ⟨hi, h⟩ := h
        refine wp_ialoadE (nx := 50) dX11_owedMore_49 rfl (fo_101 F) (fl_101 F) hi (ft_101 F) rfl ?_
        refine wp_goto (nx := 87) dX11_owedMore_50 rfl ?_
        refine wp_iadd (nx := 88) dX11_owedMore_87 rfl ?_
        refine wp_istore_n (nx := 89) dX11_owedMore_88 rfl (by decide) ?_
        refine wp_ls (ls2 := [cA 81, cI l1, cI (w32 (l2 + (C4 101 (w32 ((w32 (6 * l3)) + l4))))), cI l3, cI l4]) rfl ?_
        refine wp_iinc (nx := 92) dX11_owedMore_89 rfl rfl (by decide) ?_
        refine wp_ls (ls2 := [cA 81, cI l1, cI (w32 (l2 + (C4 101 (w32 ((w32 (6 * l3)) + l4))))), cI l3, cI (w32 (l4 + 1))]) rfl ?_
        refine wp_goto (nx := 13) dX11_owedMore_92 rfl ?_
        exact h
theorem b_X11_owedMore_53 {d mc ms : Nat} {l1 l3 l4 s0 : Int} {S : MS} {C : MC} {Q : Int → MS → MC → Prop} (F : Fix S) (h : K_X11_isIn_0 d 0 0 l1 l3 S C (fun r1 Sq C2 => Sq = S ∧ ((r1 = 0 → K_X11_owedMore_13 (d + 1) mc ms l1 (w32 (s0 + 0)) l3 (w32 (l4 + 1)) S C2 Q) ∧ (¬ r1 = 0 → K_X11_isIn_0 d 0 0 l1 l4 S C2 (fun r3 Sq C4 => Sq = S ∧ ((¬ r3 = 0 → K_X11_owedMore_13 (d + 1) mc ms l1 (w32 (s0 + 0)) l3 (w32 (l4 + 1)) S C4 Q) ∧ (r3 = 0 → ((0 : Int) ≤ w32 ((w32 (6 * l3)) + l4) ∧ w32 ((w32 (6 * l3)) + l4) < 36) ∧ K_X11_owedMore_13 (d + 1) mc ms l1 (w32 (s0 + (w32 (-(C4 101 (w32 ((w32 (6 * l3)) + l4))))))) l3 (w32 (l4 + 1)) S C4 Q))))))) : K_X11_owedMore_53 (d + 1) mc ms l1 l3 l4 s0 S C Q := by
  show Wp (d + 1) mc ms M_X11_owedMore 53 [cA 81, cI l1, cU, cI l3, cI l4] [cI s0] S C Q
  refine wp_iload_n (nx := 54) dX11_owedMore_53 rfl rfl ?_
  refine wp_iload_n (nx := 55) dX11_owedMore_54 rfl rfl ?_
  refine wp_invS (nx := 58) (N := M_X11_isIn) (as := [cI l1, cI l3]) (st := [cI s0]) (mc := 0) (ms := 0) (mc' := mc) (ms' := ms) dX11_owedMore_55 rfl mok_X11_isIn kM_X11_335 ks_X11_isIn rfl rfl (leB rfl) (leB rfl) (z0 _) (z0 _) (Wp.mono h ?_)
  intro r1 Sq C2 h
  obtain ⟨e9, h⟩ := h
  rw [e9]
  show Wp (d + 1) mc ms M_X11_owedMore 58 [cA 81, cI l1, cU, cI l3, cI l4] [cI r1, cI s0] S C2 Q
  refine wp_if_eq (nx := 61) (tg := 86) dX11_owedMore_58 rfl rfl (fun hc => ?_) (fun hc => ?_)
  · have h := h.1 hc
    refine wp_iconst (nx := 87) dX11_owedMore_86 rfl (i32 (by decide)) ?_
    refine wp_iadd (nx := 88) dX11_owedMore_87 rfl ?_
    refine wp_istore_n (nx := 89) dX11_owedMore_88 rfl (by decide) ?_
    refine wp_ls (ls2 := [cA 81, cI l1, cI (w32 (s0 + 0)), cI l3, cI l4]) rfl ?_
    refine wp_iinc (nx := 92) dX11_owedMore_89 rfl rfl (by decide) ?_
    refine wp_ls (ls2 := [cA 81, cI l1, cI (w32 (s0 + 0)), cI l3, cI (w32 (l4 + 1))]) rfl ?_
    refine wp_goto (nx := 13) dX11_owedMore_92 rfl ?_
    exact h
  · have h := h.2 hc
    refine wp_iload_n (nx := 62) dX11_owedMore_61 rfl rfl ?_
    refine wp_iload (nx := 64) dX11_owedMore_62 rfl rfl ?_
    refine wp_invS (nx := 67) (N := M_X11_isIn) (as := [cI l1, cI l4]) (st := [cI s0]) (mc := 0) (ms := 0) (mc' := mc) (ms' := ms) dX11_owedMore_64 rfl mok_X11_isIn kM_X11_335 ks_X11_isIn rfl rfl (leB rfl) (leB rfl) (z0 _) (z0 _) (Wp.mono h ?_)
    intro r3 Sq C4 h
    obtain ⟨e9, h⟩ := h
    rw [e9]
    show Wp (d + 1) mc ms M_X11_owedMore 67 [cA 81, cI l1, cU, cI l3, cI l4] [cI r3, cI s0] S C4 Q
    refine wp_if_ne (nx := 70) (tg := 86) dX11_owedMore_67 rfl rfl (fun hc => ?_) (fun hc => ?_)
    · have h := h.1 hc
      refine wp_iconst (nx := 87) dX11_owedMore_86 rfl (i32 (by decide)) ?_
      refine wp_iadd (nx := 88) dX11_owedMore_87 rfl ?_
      refine wp_istore_n (nx := 89) dX11_owedMore_88 rfl (by decide) ?_
      refine wp_ls (ls2 := [cA 81, cI l1, cI (w32 (s0 + 0)), cI l3, cI l4]) rfl ?_
      refine wp_iinc (nx := 92) dX11_owedMore_89 rfl rfl (by decide) ?_
      refine wp_ls (ls2 := [cA 81, cI l1, cI (w32 (s0 + 0)), cI l3, cI (w32 (l4 + 1))]) rfl ?_
      refine wp_goto (nx := 13) dX11_owedMore_92 rfl ?_
      exact h
    · have h := h.2 hc
      refine wp_aload_n (nx := 71) dX11_owedMore_70 rfl rfl ?_
      refine wp_getAe (kk := 37) (nx := 74) clsX11 dX11_owedMore_71 rfl kF_X11_87 (by decide) (fo_81 F) (ft_81 F) rfl (fp_81_37 F) ?_
      refine wp_bipush (nx := 76) dX11_owedMore_74 rfl ⟨by decide, i32 (by decide)⟩ ?_
      refine wp_iload_n (nx := 77) dX11_owedMore_76 rfl rfl ?_
      refine wp_imul (nx := 78) dX11_owedMore_77 rfl ?_
      refine wp_iload (nx := 80) dX11_owedMore_78 rfl rfl ?_
      refine wp_iadd (nx := 81) dX11_owedMore_80 rfl ?_
      obtain ⟨hi, h⟩ := h
      refine wp_ialoadE (nx := 82) dX11_owedMore_81 rfl (fo_101 F) (fl_101 F) hi (ft_101 F) rfl ?_
      refine wp_ineg (nx := 83) dX11_owedMore_82 rfl ?_
      refine wp_goto (nx := 87) dX11_owedMore_83 rfl ?_
      refine wp_iadd (nx := 88) dX11_owedMore_87 rfl ?_
      refine wp_istore_n (nx := 89) dX11_owedMore_88 rfl (by decide) ?_
      refine wp_ls (ls2 := [cA 81, cI l1, cI (w32 (s0 + (w32 (-(C4 101 (w32 ((w32 (6 * l3)) + l4))))))), cI l3, cI l4]) rfl ?_
      refine wp_iinc (nx := 92) dX11_owedMore_89 rfl rfl (by decide) ?_
      refine wp_ls (ls2 := [cA 81, cI l1, cI (w32 (s0 + (w32 (-(C4 101 (w32 ((w32 (6 * l3)) + l4))))))), cI l3, cI (w32 (l4 + 1))]) rfl ?_
      refine wp_goto (nx := 13) dX11_owedMore_92 rfl ?_
      exact h
theorem b_X11_settled_0 {d mc ms : Nat} {S : MS} {C : MC} {Q : Int → MS → MC → Prop} (F : Fix S) (h : K_X11_laysDebts_0 d 0 0 S C (fun r1 Sq C2 => Sq = S ∧ ((¬ r1 = 0 → K_X11_settled_13 (d + 1) mc ms 0 0 S C2 Q) ∧ (r1 = 0 → Q (-1) S C2)))) : K_X11_settled_0 (d + 1) mc ms S C Q := by
  show Wp (d + 1) mc ms M_X11_settled 0 [cA 81, cU, cU, cU] [] S C Q
  refine wp_aload_n (nx := 1) dX11_settled_0 rfl rfl ?_
  refine wp_invV (nx := 4) (N := M_X11_laysDebts) (as := []) (st := []) (mc := 0) (ms := 0) (mc' := mc) (ms' := ms) (a := 81) clsX11 dX11_settled_1 rfl mok_X11_laysDebts kM_X11_384 ki_X11_laysDebts ke_X11_laysDebts (fo_81 F) (ft_81 F) rfl rfl (leB rfl) (leB rfl) (z0 _) (z0 _) (Wp.mono h ?_)
  intro r1 Sq C2 h
  obtain ⟨e9, h⟩ := h
  rw [e9]
  show Wp (d + 1) mc ms M_X11_settled 4 [cA 81, cU, cU, cU] [cI r1] S C2 Q
  refine wp_if_ne (nx := 7) (tg := 9) dX11_settled_4 rfl rfl (fun hc => ?_) (fun hc => ?_)
  · have h := h.1 hc
    refine wp_iconst (nx := 10) dX11_settled_9 rfl (i32 (by decide)) ?_
    refine wp_istore_n (nx := 11) dX11_settled_10 rfl (by decide) ?_
    refine wp_ls (ls2 := [cA 81, cI 0, cU, cU]) rfl ?_
    refine wp_iconst (nx := 12) dX11_settled_11 rfl (i32 (by decide)) ?_
    refine wp_istore_n (nx := 13) dX11_settled_12 rfl (by decide) ?_
    refine wp_ls (ls2 := [cA 81, cI 0, cI 0, cU]) rfl ?_
    exact h
  · have h := h.2 hc
    refine wp_iconst (nx := 8) dX11_settled_7 rfl (i32 (by decide)) ?_
    exact wp_ireturn dX11_settled_8 rfl rfl rfl h
theorem b_X11_settled_13 {d mc ms : Nat} {l1 l2 : Int} {S : MS} {C : MC} {Q : Int → MS → MC → Prop} (F : Fix S) (h : ((6 ≤ l2 → K_X11_settled_47 (d + 1) mc ms l1 0 S C Q) ∧ (¬ 6 ≤ l2 → K_X11_owedMore_0 d 0 0 (iShl 1 l2) S C (fun r1 Sq C2 => Sq = S ∧ ((¬ r1 = 0 → K_X11_settled_13 (d + 1) mc ms (iOr l1 (iShl 1 l2)) (w32 (l2 + 1)) S C2 Q) ∧ (r1 = 0 → K_X11_settled_13 (d + 1) mc ms (iOr l1 0) (w32 (l2 + 1)) S C2 Q)))))) : K_X11_settled_13 (d + 1) mc ms l1 l2 S C Q := by
  show Wp (d + 1) mc ms M_X11_settled 13 [cA 81, cI l1, cI l2, cU] [] S C Q
  refine wp_iload_n (nx := 14) dX11_settled_13 rfl rfl ?_
  refine wp_bipush (nx := 16) dX11_settled_14 rfl ⟨by decide, i32 (by decide)⟩ ?_
  refine wp_icmp_ge (nx := 19) (tg := 45) dX11_settled_16 rfl rfl (fun hc => ?_) (fun hc => ?_)
  · have h := h.1 hc
    refine wp_iconst (nx := 46) dX11_settled_45 rfl (i32 (by decide)) ?_
    refine wp_istore_n (nx := 47) dX11_settled_46 rfl (by decide) ?_
    refine wp_ls (ls2 := [cA 81, cI l1, cI 0, cU]) rfl ?_
    exact h
  · have h := h.2 hc
    refine wp_iload_n (nx := 20) dX11_settled_19 rfl rfl ?_
    refine wp_aload_n (nx := 21) dX11_settled_20 rfl rfl ?_
    refine wp_iconst (nx := 22) dX11_settled_21 rfl (i32 (by decide)) ?_
    refine wp_iload_n (nx := 23) dX11_settled_22 rfl rfl ?_
    refine wp_ishl (nx := 24) dX11_settled_23 rfl ?_
    refine wp_invV (nx := 27) (N := M_X11_owedMore) (as := [cI (iShl 1 l2)]) (st := [cI l1]) (mc := 0) (ms := 0) (mc' := mc) (ms' := ms) (a := 81) clsX11 dX11_settled_24 rfl mok_X11_owedMore kM_X11_387 ki_X11_owedMore ke_X11_owedMore (fo_81 F) (ft_81 F) rfl rfl (leB rfl) (leB rfl) (z0 _) (z0 _) (Wp.mono h ?_)
    intro r1 Sq C2 h
    obtain ⟨e9, h⟩ := h
    rw [e9]
    show Wp (d + 1) mc ms M_X11_settled 27 [cA 81, cI l1, cI l2, cU] [cI r1, cI l1] S C2 Q
    refine wp_if_ne (nx := 30) (tg := 34) dX11_settled_27 rfl rfl (fun hc => ?_) (fun hc => ?_)
    · have h := h.1 hc
      refine wp_iconst (nx := 35) dX11_settled_34 rfl (i32 (by decide)) ?_
      refine wp_iload_n (nx := 36) dX11_settled_35 rfl rfl ?_
      refine wp_ishl (nx := 37) dX11_settled_36 rfl ?_
      refine wp_ior (nx := 38) dX11_settled_37 rfl ?_
      refine wp_istore_n (nx := 39) dX11_settled_38 rfl (by decide) ?_
      refine wp_ls (ls2 := [cA 81, cI (iOr l1 (iShl 1 l2)), cI l2, cU]) rfl ?_
      refine wp_iinc (nx := 42) dX11_settled_39 rfl rfl (by decide) ?_
      refine wp_ls (ls2 := [cA 81, cI (iOr l1 (iShl 1 l2)), cI (w32 (l2 + 1)), cU]) rfl ?_
      refine wp_goto (nx := 13) dX11_settled_42 rfl ?_
      exact h
    · have h := h.2 hc
      refine wp_iconst (nx := 31) dX11_settled_30 rfl (i32 (by decide)) ?_
      refine wp_goto (nx := 37) dX11_settled_31 rfl ?_
      refine wp_ior (nx := 38) dX11_settled_37 rfl ?_
      refine wp_istore_n (nx := 39) dX11_settled_38 rfl (by decide) ?_
      refine wp_ls (ls2 := [cA 81, cI (iOr l1 0), cI l2, cU]) rfl ?_
      refine wp_iinc (nx := 42) dX11_settled_39 rfl rfl (by decide) ?_
      refine wp_ls (ls2 := [cA 81, cI (iOr l1 0), cI (w32 (l2 + 1)), cU]) rfl ?_
      refine wp_goto (nx := 13) dX11_settled_42 rfl ?_
      exact h
theorem b_X11_settled_47 {d mc ms : Nat} {l1 l2 : Int} {S : MS} {C : MC} {Q : Int → MS → MC → Prop} (F : Fix S) (h : ((l1 < l2 → K_X11_ones_0 d 0 0 l1 S C (fun r1 Sq C2 => Sq = S ∧ ((0 : Int) ≤ l1 ∧ l1 < 64) ∧ Q (w32 (r1 - (C2 102 l1))) S C2)) ∧ (¬ l1 < l2 → ((iAnd l2 (iXor l1 (-1)) = 0 → ((¬ l2 = 0 → ((0 : Int) ≤ l2 ∧ l2 < 64) ∧ K_X11_settled_80 (d + 1) mc ms l1 l2 l2 S (upC C 102 l2 (-1)) Q) ∧ (l2 = 0 → ((0 : Int) ≤ l2 ∧ l2 < 64) ∧ K_X11_settled_80 (d + 1) mc ms l1 l2 l2 S (upC C 102 l2 0) Q))) ∧ (¬ iAnd l2 (iXor l1 (-1)) = 0 → K_X11_settled_47 (d + 1) mc ms l1 (w32 (l2 + 1)) S C Q))))) : K_X11_settled_47 (d + 1) mc ms l1 l2 S C Q := by
  show Wp (d + 1) mc ms M_X11_settled 47 [cA 81, cI l1, cI l2, cU] [] S C Q
  refine wp_iload_n (nx := 48) dX11_settled_47 rfl rfl ?_
  refine wp_iload_n (nx := 49) dX11_settled_48 rfl rfl ?_
  refine wp_icmp_gt (nx := 52) (tg := 144) dX11_settled_49 rfl rfl (fun hc => ?_) (fun hc => ?_)
  · have h := h.1 hc
    refine wp_iload_n (nx := 145) dX11_settled_144 rfl rfl ?_
    refine wp_invS (nx := 148) (N := M_X11_ones) (as := [cI l1]) (st := []) (mc := 0) (ms := 0) (mc' := mc) (ms' := ms) dX11_settled_145 rfl mok_X11_ones kM_X11_125 ks_X11_ones rfl rfl (leB rfl) (leB rfl) (z0 _) (z0 _) (Wp.mono h ?_)
    intro r1 Sq C2 h
    obtain ⟨e9, h⟩ := h
    rw [e9]
    show Wp (d + 1) mc ms M_X11_settled 148 [cA 81, cI l1, cI l2, cU] [cI r1] S C2 Q
    refine wp_aload_n (nx := 149) dX11_settled_148 rfl rfl ?_
    refine wp_getAe (kk := 38) (nx := 152) clsX11 dX11_settled_149 rfl kF_X11_90 (by decide) (fo_81 F) (ft_81 F) rfl (fp_81_38 F) ?_
    refine wp_iload_n (nx := 153) dX11_settled_152 rfl rfl ?_
    obtain ⟨hi, h⟩ := h
    refine wp_ialoadE (nx := 154) dX11_settled_153 rfl (fo_102 F) (fl_102 F) hi (ft_102 F) rfl ?_
    refine wp_isub (nx := 155) dX11_settled_154 rfl ?_
    exact wp_ireturn dX11_settled_155 rfl rfl rfl h
  · have h := h.2 hc
    refine wp_iload_n (nx := 53) dX11_settled_52 rfl rfl ?_
    refine wp_iload_n (nx := 54) dX11_settled_53 rfl rfl ?_
    refine wp_iconst (nx := 55) dX11_settled_54 rfl (i32 (by decide)) ?_
    refine wp_ixor (nx := 56) dX11_settled_55 rfl ?_
    refine wp_iand (nx := 57) dX11_settled_56 rfl ?_
    refine wp_if_eq (nx := 60) (tg := 63) dX11_settled_57 rfl rfl (fun hc => ?_) (fun hc => ?_)
    · have h := h.1 hc
      refine wp_aload_n (nx := 64) dX11_settled_63 rfl rfl ?_
      refine wp_getAe (kk := 38) (nx := 67) clsX11 dX11_settled_64 rfl kF_X11_90 (by decide) (fo_81 F) (ft_81 F) rfl (fp_81_38 F) ?_
      refine wp_iload_n (nx := 68) dX11_settled_67 rfl rfl ?_
      refine wp_iload_n (nx := 69) dX11_settled_68 rfl rfl ?_
      refine wp_if_ne (nx := 72) (tg := 76) dX11_settled_69 rfl rfl (fun hc => ?_) (fun hc => ?_)
      · have h := h.1 hc
        refine wp_iconst (nx := 77) dX11_settled_76 rfl (i32 (by decide)) ?_
        obtain ⟨hi, h⟩ := h
        refine wp_iastoreE (nx := 78) dX11_settled_77 rfl (fo_102 F) (fl_102 F) hi (ft_102 F) ?_
        refine wp_iload_n (nx := 79) dX11_settled_78 rfl rfl ?_
        refine wp_istore_n (nx := 80) dX11_settled_79 rfl (by decide) ?_
        refine wp_ls (ls2 := [cA 81, cI l1, cI l2, cI l2]) rfl ?_
        exact h
      · have h := h.2 hc
        refine wp_iconst (nx := 73) dX11_settled_72 rfl (i32 (by decide)) ?_
        refine wp_goto (nx := 77) dX11_settled_73 rfl ?_
        obtain ⟨hi, h⟩ := h
        refine wp_iastoreE (nx := 78) dX11_settled_77 rfl (fo_102 F) (fl_102 F) hi (ft_102 F) ?_
        refine wp_iload_n (nx := 79) dX11_settled_78 rfl rfl ?_
        refine wp_istore_n (nx := 80) dX11_settled_79 rfl (by decide) ?_
        refine wp_ls (ls2 := [cA 81, cI l1, cI l2, cI l2]) rfl ?_
        exact h
    · have h := h.2 hc
      refine wp_goto (nx := 138) dX11_settled_60 rfl ?_
      refine wp_iinc (nx := 141) dX11_settled_138 rfl rfl (by decide) ?_
      refine wp_ls (ls2 := [cA 81, cI l1, cI (w32 (l2 + 1)), cU]) rfl ?_
      refine wp_goto (nx := 47) dX11_settled_141 rfl ?_
      exact h
theorem b_X11_settled_80 {d mc ms : Nat} {l1 l2 l3 : Int} {S : MS} {C : MC} {Q : Int → MS → MC → Prop} (F : Fix S) (h : ((l3 ≤ 0 → K_X11_settled_47 (d + 1) mc ms l1 (w32 (l2 + 1)) S C Q) ∧ (¬ l3 ≤ 0 → K_X11_owedMore_0 d 0 0 l3 S C (fun r1 Sq C2 => Sq = S ∧ ((¬ r1 = 0 → K_X11_settled_80 (d + 1) mc ms l1 l2 (iAnd (w32 (l3 - 1)) l2) S C2 Q) ∧ (r1 = 0 → ((0 : Int) ≤ iXor l2 l3 ∧ iXor l2 l3 < 64) ∧ ((C2 102 (iXor l2 l3) = (-1) → K_X11_settled_80 (d + 1) mc ms l1 l2 (iAnd (w32 (l3 - 1)) l2) S C2 Q) ∧ (¬ C2 102 (iXor l2 l3) = (-1) → ((0 : Int) ≤ l2 ∧ l2 < 64) ∧ ((0 : Int) ≤ iXor l2 l3 ∧ iXor l2 l3 < 64) ∧ K_X11_greater_0 d 0 0 (C2 102 l2) (w32 ((C2 102 (iXor l2 l3)) + 1)) S C2 (fun r3 Sq C4 => Sq = S ∧ ((0 : Int) ≤ l2 ∧ l2 < 64) ∧ K_X11_settled_80 (d + 1) mc ms l1 l2 (iAnd (w32 (l3 - 1)) l2) S (upC C4 102 l2 r3) Q))))))))) : K_X11_settled_80 (d + 1) mc ms l1 l2 l3 S C Q := by
  show Wp (d + 1) mc ms M_X11_settled 80 [cA 81, cI l1, cI l2, cI l3] [] S C Q
  refine wp_iload_n (nx := 81) dX11_settled_80 rfl rfl ?_
  refine wp_if_le (nx := 84) (tg := 138) dX11_settled_81 rfl rfl (fun hc => ?_) (fun hc => ?_)
  · have h := h.1 hc
    refine wp_iinc (nx := 141) dX11_settled_138 rfl rfl (by decide) ?_
    refine wp_ls (ls2 := [cA 81, cI l1, cI (w32 (l2 + 1)), cI l3]) rfl ?_
    refine wp_goto (nx := 47) dX11_settled_141 rfl ?_
    refine wp_fg [true, true, true, false] (ls2 := [cA 81, cI l1, cI (w32 (l2 + 1)), cU]) rfl ?_
    exact h
  · have h := h.2 hc
    refine wp_aload_n (nx := 85) dX11_settled_84 rfl rfl ?_
    refine wp_iload_n (nx := 86) dX11_settled_85 rfl rfl ?_
    refine wp_invV (nx := 89) (N := M_X11_owedMore) (as := [cI l3]) (st := []) (mc := 0) (ms := 0) (mc' := mc) (ms' := ms) (a := 81) clsX11 dX11_settled_86 rfl mok_X11_owedMore kM_X11_387 ki_X11_owedMore ke_X11_owedMore (fo_81 F) (ft_81 F) rfl rfl (leB rfl) (leB rfl) (z0 _) (z0 _) (Wp.mono h ?_)
    intro r1 Sq C2 h
    obtain ⟨e9, h⟩ := h
    rw [e9]
    show Wp (d + 1) mc ms M_X11_settled 89 [cA 81, cI l1, cI l2, cI l3] [cI r1] S C2 Q
    refine wp_if_ne (nx := 92) (tg := 129) dX11_settled_89 rfl rfl (fun hc => ?_) (fun hc => ?_)
    · have h := h.1 hc
      refine wp_iload_n (nx := 130) dX11_settled_129 rfl rfl ?_
      refine wp_iconst (nx := 131) dX11_settled_130 rfl (i32 (by decide)) ?_
      refine wp_isub (nx := 132) dX11_settled_131 rfl ?_
      refine wp_iload_n (nx := 133) dX11_settled_132 rfl rfl ?_
      refine wp_iand (nx := 134) dX11_settled_133 rfl ?_
      refine wp_istore_n (nx := 135) dX11_settled_134 rfl (by decide) ?_
      refine wp_ls (ls2 := [cA 81, cI l1, cI l2, cI (iAnd (w32 (l3 - 1)) l2)]) rfl ?_
      refine wp_goto (nx := 80) dX11_settled_135 rfl ?_
      exact h
    · have h := h.2 hc
      refine wp_aload_n (nx := 93) dX11_settled_92 rfl rfl ?_
      refine wp_getAe (kk := 38) (nx := 96) clsX11 dX11_settled_93 rfl kF_X11_90 (by decide) (fo_81 F) (ft_81 F) rfl (fp_81_38 F) ?_
      refine wp_iload_n (nx := 97) dX11_settled_96 rfl rfl ?_
      refine wp_iload_n (nx := 98) dX11_settled_97 rfl rfl ?_
      refine wp_ixor (nx := 99) dX11_settled_98 rfl ?_
      obtain ⟨hi, h⟩ := h
      refine wp_ialoadE (nx := 100) dX11_settled_99 rfl (fo_102 F) (fl_102 F) hi (ft_102 F) rfl ?_
      refine wp_iconst (nx := 101) dX11_settled_100 rfl (i32 (by decide)) ?_
      refine wp_icmp_eq (nx := 104) (tg := 129) dX11_settled_101 rfl rfl (fun hc => ?_) (fun hc => ?_)
      · have h := h.1 hc
        refine wp_iload_n (nx := 130) dX11_settled_129 rfl rfl ?_
        refine wp_iconst (nx := 131) dX11_settled_130 rfl (i32 (by decide)) ?_
        refine wp_isub (nx := 132) dX11_settled_131 rfl ?_
        refine wp_iload_n (nx := 133) dX11_settled_132 rfl rfl ?_
        refine wp_iand (nx := 134) dX11_settled_133 rfl ?_
        refine wp_istore_n (nx := 135) dX11_settled_134 rfl (by decide) ?_
        refine wp_ls (ls2 := [cA 81, cI l1, cI l2, cI (iAnd (w32 (l3 - 1)) l2)]) rfl ?_
        refine wp_goto (nx := 80) dX11_settled_135 rfl ?_
        exact h
      · have h := h.2 hc
        refine wp_aload_n (nx := 105) dX11_settled_104 rfl rfl ?_
        refine wp_getAe (kk := 38) (nx := 108) clsX11 dX11_settled_105 rfl kF_X11_90 (by decide) (fo_81 F) (ft_81 F) rfl (fp_81_38 F) ?_
        refine wp_iload_n (nx := 109) dX11_settled_108 rfl rfl ?_
        refine wp_aload_n (nx := 110) dX11_settled_109 rfl rfl ?_
        refine wp_getAe (kk := 38) (nx := 113) clsX11 dX11_settled_110 rfl kF_X11_90 (by decide) (fo_81 F) (ft_81 F) rfl (fp_81_38 F) ?_
        refine wp_iload_n (nx := 114) dX11_settled_113 rfl rfl ?_
        obtain ⟨hi, h⟩ := h
        refine wp_ialoadE (nx := 115) dX11_settled_114 rfl (fo_102 F) (fl_102 F) hi (ft_102 F) rfl ?_
        refine wp_aload_n (nx := 116) dX11_settled_115 rfl rfl ?_
        refine wp_getAe (kk := 38) (nx := 119) clsX11 dX11_settled_116 rfl kF_X11_90 (by decide) (fo_81 F) (ft_81 F) rfl (fp_81_38 F) ?_
        refine wp_iload_n (nx := 120) dX11_settled_119 rfl rfl ?_
        refine wp_iload_n (nx := 121) dX11_settled_120 rfl rfl ?_
        refine wp_ixor (nx := 122) dX11_settled_121 rfl ?_
        obtain ⟨hi, h⟩ := h
        refine wp_ialoadE (nx := 123) dX11_settled_122 rfl (fo_102 F) (fl_102 F) hi (ft_102 F) rfl ?_
        refine wp_iconst (nx := 124) dX11_settled_123 rfl (i32 (by decide)) ?_
        refine wp_iadd (nx := 125) dX11_settled_124 rfl ?_
        refine wp_invS (nx := 128) (N := M_X11_greater) (as := [cI (C2 102 l2), cI (w32 ((C2 102 (iXor l2 l3)) + 1))]) (st := [cI l2, cA 102]) (mc := 0) (ms := 0) (mc' := mc) (ms' := ms) dX11_settled_125 rfl mok_X11_greater kM_X11_390 ks_X11_greater rfl rfl (leB rfl) (leB rfl) (z0 _) (z0 _) (Wp.mono h ?_)
        intro r3 Sq C4 h
        obtain ⟨e9, h⟩ := h
        rw [e9]
        show Wp (d + 1) mc ms M_X11_settled 128 [cA 81, cI l1, cI l2, cI l3] [cI r3, cI l2, cA 102] S C4 Q
        obtain ⟨hi, h⟩ := h
        refine wp_iastoreE (nx := 129) dX11_settled_128 rfl (fo_102 F) (fl_102 F) hi (ft_102 F) ?_
        refine wp_iload_n (nx := 130) dX11_settled_129 rfl rfl ?_
        refine wp_iconst (nx := 131) dX11_settled_130 rfl (i32 (by decide)) ?_
        refine wp_isub (nx := 132) dX11_settled_131 rfl ?_
        refine wp_iload_n (nx := 133) dX11_settled_132 rfl rfl ?_
        refine wp_iand (nx := 134) dX11_settled_133 rfl ?_
        refine wp_istore_n (nx := 135) dX11_settled_134 rfl (by decide) ?_
        refine wp_ls (ls2 := [cA 81, cI l1, cI l2, cI (iAnd (w32 (l3 - 1)) l2)]) rfl ?_
        refine wp_goto (nx := 80) dX11_settled_135 rfl ?_
        exact h
theorem b_X11_few_0 {d mc ms : Nat} {l1 l2 : Int} {S : MS} {C : MC} {Q : Int → MS → MC → Prop} (F : Fix S) (h : K_X11_lies_0 d 0 0 l1 1 20 S C (fun r1 Sq C2 => Sq = S ∧ ((r1 = 0 → Q (-1) S C2) ∧ (¬ r1 = 0 → K_X11_lies_0 d 0 0 l2 0 99 S C2 (fun r3 Sq C4 => Sq = S ∧ ((¬ r3 = 0 → K_X11_few_26 (d + 1) mc ms l1 l2 0 S C4 Q) ∧ (r3 = 0 → Q (-1) S C4))))))) : K_X11_few_0 (d + 1) mc ms l1 l2 S C Q := by
  show Wp (d + 1) mc ms M_X11_few 0 [cA 81, cI l1, cI l2, cU, cU, cU] [] S C Q
  refine wp_iload_n (nx := 1) dX11_few_0 rfl rfl ?_
  refine wp_iconst (nx := 2) dX11_few_1 rfl (i32 (by decide)) ?_
  refine wp_bipush (nx := 4) dX11_few_2 rfl ⟨by decide, i32 (by decide)⟩ ?_
  refine wp_invS (nx := 7) (N := M_X11_lies) (as := [cI l1, cI 1, cI 20]) (st := []) (mc := 0) (ms := 0) (mc' := mc) (ms' := ms) dX11_few_4 rfl mok_X11_lies kM_X11_18 ks_X11_lies rfl rfl (leB rfl) (leB rfl) (z0 _) (z0 _) (Wp.mono h ?_)
  intro r1 Sq C2 h
  obtain ⟨e9, h⟩ := h
  rw [e9]
  show Wp (d + 1) mc ms M_X11_few 7 [cA 81, cI l1, cI l2, cU, cU, cU] [cI r1] S C2 Q
  refine wp_if_eq (nx := 10) (tg := 20) dX11_few_7 rfl rfl (fun hc => ?_) (fun hc => ?_)
  · have h := h.1 hc
    refine wp_ldc2 (nx := 23) dX11_few_20 rfl kJ_X11_393 (i64 (by decide)) ?_
    exact wp_lreturn dX11_few_23 rfl h
  · have h := h.2 hc
    refine wp_iload_n (nx := 11) dX11_few_10 rfl rfl ?_
    refine wp_iconst (nx := 12) dX11_few_11 rfl (i32 (by decide)) ?_
    refine wp_bipush (nx := 14) dX11_few_12 rfl ⟨by decide, i32 (by decide)⟩ ?_
    refine wp_invS (nx := 17) (N := M_X11_lies) (as := [cI l2, cI 0, cI 99]) (st := []) (mc := 0) (ms := 0) (mc' := mc) (ms' := ms) dX11_few_14 rfl mok_X11_lies kM_X11_18 ks_X11_lies rfl rfl (leB rfl) (leB rfl) (z0 _) (z0 _) (Wp.mono h ?_)
    intro r3 Sq C4 h
    obtain ⟨e9, h⟩ := h
    rw [e9]
    show Wp (d + 1) mc ms M_X11_few 17 [cA 81, cI l1, cI l2, cU, cU, cU] [cI r3] S C4 Q
    refine wp_if_ne (nx := 20) (tg := 24) dX11_few_17 rfl rfl (fun hc => ?_) (fun hc => ?_)
    · have h := h.1 hc
      refine wp_iconst (nx := 25) dX11_few_24 rfl (i32 (by decide)) ?_
      refine wp_istore_n (nx := 26) dX11_few_25 rfl (by decide) ?_
      refine wp_ls (ls2 := [cA 81, cI l1, cI l2, cI 0, cU, cU]) rfl ?_
      exact h
    · have h := h.2 hc
      refine wp_ldc2 (nx := 23) dX11_few_20 rfl kJ_X11_393 (i64 (by decide)) ?_
      exact wp_lreturn dX11_few_23 rfl h
theorem b_X11_few_26 {d mc ms : Nat} {l1 l2 l3 : Int} {S : MS} {C : MC} {Q : Int → MS → MC → Prop} (F : Fix S) (h : ((20 < l3 → K_X11_few_57 (d + 1) mc ms l1 l2 0 S C Q) ∧ (¬ 20 < l3 → ((¬ l3 = 0 → ((0 : Int) ≤ l3 ∧ l3 < 21) ∧ K_X11_few_26 (d + 1) mc ms l1 l2 (w32 (l3 + 1)) S (upC C 103 l3 0) Q) ∧ (l3 = 0 → ((0 : Int) ≤ l3 ∧ l3 < 21) ∧ K_X11_few_26 (d + 1) mc ms l1 l2 (w32 (l3 + 1)) S (upC C 103 l3 1000000000000) Q))))) : K_X11_few_26 (d + 1) mc ms l1 l2 l3 S C Q := by
  show Wp (d + 1) mc ms M_X11_few 26 [cA 81, cI l1, cI l2, cI l3, cU, cU] [] S C Q
  refine wp_iload_n (nx := 27) dX11_few_26 rfl rfl ?_
  refine wp_bipush (nx := 29) dX11_few_27 rfl ⟨by decide, i32 (by decide)⟩ ?_
  refine wp_icmp_gt (nx := 32) (tg := 55) dX11_few_29 rfl rfl (fun hc => ?_) (fun hc => ?_)
  · have h := h.1 hc
    refine wp_iconst (nx := 56) dX11_few_55 rfl (i32 (by decide)) ?_
    refine wp_istore_n (nx := 57) dX11_few_56 rfl (by decide) ?_
    refine wp_ls (ls2 := [cA 81, cI l1, cI l2, cI 0, cU, cU]) rfl ?_
    exact h
  · have h := h.2 hc
    refine wp_aload_n (nx := 33) dX11_few_32 rfl rfl ?_
    refine wp_getAe (kk := 39) (nx := 36) clsX11 dX11_few_33 rfl kF_X11_93 (by decide) (fo_81 F) (ft_81 F) rfl (fp_81_39 F) ?_
    refine wp_iload_n (nx := 37) dX11_few_36 rfl rfl ?_
    refine wp_iload_n (nx := 38) dX11_few_37 rfl rfl ?_
    refine wp_if_ne (nx := 41) (tg := 47) dX11_few_38 rfl rfl (fun hc => ?_) (fun hc => ?_)
    · have h := h.1 hc
      refine wp_lconst (nx := 48) (v := 0) dX11_few_47 rfl ⟨by decide, i64 (by decide)⟩ ?_
      obtain ⟨hi, h⟩ := h
      refine wp_lastoreE (nx := 49) dX11_few_48 rfl (fo_103 F) (fl_103 F) hi (ft_103 F) ?_
      refine wp_iinc (nx := 52) dX11_few_49 rfl rfl (by decide) ?_
      refine wp_ls (ls2 := [cA 81, cI l1, cI l2, cI (w32 (l3 + 1)), cU, cU]) rfl ?_
      refine wp_goto (nx := 26) dX11_few_52 rfl ?_
      exact h
    · have h := h.2 hc
      refine wp_ldc2 (nx := 44) dX11_few_41 rfl kJ_X11_395 (i64 (by decide)) ?_
      refine wp_goto (nx := 48) dX11_few_44 rfl ?_
      obtain ⟨hi, h⟩ := h
      refine wp_lastoreE (nx := 49) dX11_few_48 rfl (fo_103 F) (fl_103 F) hi (ft_103 F) ?_
      refine wp_iinc (nx := 52) dX11_few_49 rfl rfl (by decide) ?_
      refine wp_ls (ls2 := [cA 81, cI l1, cI l2, cI (w32 (l3 + 1)), cU, cU]) rfl ?_
      refine wp_goto (nx := 26) dX11_few_52 rfl ?_
      exact h
theorem b_X11_few_57 {d mc ms : Nat} {l1 l2 l3 : Int} {S : MS} {C : MC} {Q : Int → MS → MC → Prop} (F : Fix S) (h : ((l2 ≤ l3 → K_X11_few_151 (d + 1) mc ms l1 0 0 S C Q) ∧ (¬ l2 ≤ l3 → K_X11_few_67 (d + 1) mc ms l1 l2 l3 (w32 (l1 - 1)) S C Q))) : K_X11_few_57 (d + 1) mc ms l1 l2 l3 S C Q := by
  show Wp (d + 1) mc ms M_X11_few 57 [cA 81, cI l1, cI l2, cI l3, cU, cU] [] S C Q
  refine wp_iload_n (nx := 58) dX11_few_57 rfl rfl ?_
  refine wp_iload_n (nx := 59) dX11_few_58 rfl rfl ?_
  refine wp_icmp_ge (nx := 62) (tg := 146) dX11_few_59 rfl rfl (fun hc => ?_) (fun hc => ?_)
  · have h := h.1 hc
    refine wp_lconst (nx := 147) (v := 0) dX11_few_146 rfl ⟨by decide, i64 (by decide)⟩ ?_
    refine wp_lstore_n (nx := 148) dX11_few_147 rfl (by decide) ?_
    refine wp_ls (ls2 := [cA 81, cI l1, cI l2, cJ 0, cU, cU]) rfl ?_
    refine wp_iconst (nx := 149) dX11_few_148 rfl (i32 (by decide)) ?_
    refine wp_istore (nx := 151) dX11_few_149 rfl (by decide) ?_
    refine wp_ls (ls2 := [cA 81, cI l1, cI l2, cJ 0, cU, cI 0]) rfl ?_
    refine wp_fg [true, true, false, true, false, true] (ls2 := [cA 81, cI l1, cU, cJ 0, cU, cI 0]) rfl ?_
    exact h
  · have h := h.2 hc
    refine wp_iload_n (nx := 63) dX11_few_62 rfl rfl ?_
    refine wp_iconst (nx := 64) dX11_few_63 rfl (i32 (by decide)) ?_
    refine wp_isub (nx := 65) dX11_few_64 rfl ?_
    refine wp_istore (nx := 67) dX11_few_65 rfl (by decide) ?_
    refine wp_ls (ls2 := [cA 81, cI l1, cI l2, cI l3, cI (w32 (l1 - 1)), cU]) rfl ?_
    exact h
theorem b_X11_few_151 {d mc ms : Nat} {l1 l3 l5 : Int} {S : MS} {C : MC} {Q : Int → MS → MC → Prop} (F : Fix S) (h : ((l1 ≤ l5 → Q l3 S C) ∧ (¬ l1 ≤ l5 → ((0 : Int) ≤ l5 ∧ l5 < 21) ∧ K_X11_few_151 (d + 1) mc ms l1 (w64 (l3 + (C 103 l5))) (w32 (l5 + 1)) S C Q))) : K_X11_few_151 (d + 1) mc ms l1 l3 l5 S C Q := by
  show Wp (d + 1) mc ms M_X11_few 151 [cA 81, cI l1, cU, cJ l3, cU, cI l5] [] S C Q
  refine wp_iload (nx := 153) dX11_few_151 rfl rfl ?_
  refine wp_iload_n (nx := 154) dX11_few_153 rfl rfl ?_
  refine wp_icmp_ge (nx := 157) (tg := 173) dX11_few_154 rfl rfl (fun hc => ?_) (fun hc => ?_)
  · have h := h.1 hc
    refine wp_lload_n (nx := 174) dX11_few_173 rfl rfl ?_
    exact wp_lreturn dX11_few_174 rfl h
  · have h := h.2 hc
    refine wp_lload_n (nx := 158) dX11_few_157 rfl rfl ?_
    refine wp_aload_n (nx := 159) dX11_few_158 rfl rfl ?_
    refine wp_getAe (kk := 39) (nx := 162) clsX11 dX11_few_159 rfl kF_X11_93 (by decide) (fo_81 F) (ft_81 F) rfl (fp_81_39 F) ?_
    refine wp_iload (nx := 164) dX11_few_162 rfl rfl ?_
    obtain ⟨hi, h⟩ := h
    refine wp_laloadE (nx := 165) dX11_few_164 rfl (fo_103 F) (fl_103 F) hi (ft_103 F) rfl ?_
    refine wp_ladd (nx := 166) dX11_few_165 rfl ?_
    refine wp_lstore_n (nx := 167) dX11_few_166 rfl (by decide) ?_
    refine wp_ls (ls2 := [cA 81, cI l1, cU, cJ (w64 (l3 + (C 103 l5))), cU, cI l5]) rfl ?_
    refine wp_iinc (nx := 170) dX11_few_167 rfl rfl (by decide) ?_
    refine wp_ls (ls2 := [cA 81, cI l1, cU, cJ (w64 (l3 + (C 103 l5))), cU, cI (w32 (l5 + 1))]) rfl ?_
    refine wp_goto (nx := 151) dX11_few_170 rfl ?_
    exact h
theorem b_X11_few_67 {d mc ms : Nat} {l1 l2 l3 l4 : Int} {S : MS} {C : MC} {Q : Int → MS → MC → Prop} (F : Fix S) (h : ((l4 < 0 → K_X11_few_57 (d + 1) mc ms l1 l2 (w32 (l3 + 1)) S C Q) ∧ (¬ l4 < 0 → ((0 : Int) ≤ w32 (l4 + 1) ∧ w32 (l4 + 1) < 21) ∧ ((0 : Int) ≤ l4 ∧ l4 < 21) ∧ ((0 : Int) ≤ w32 (l4 + 1) ∧ w32 (l4 + 1) < 21) ∧ ((0 : Int) ≤ l4 ∧ l4 < 21) ∧ ((0 : Int) ≤ l4 ∧ l4 < 21) ∧ K_X11_few_67 (d + 1) mc ms l1 l2 l3 (w32 (l4 + (-1))) S (upC (upC C 103 (w32 (l4 + 1)) (w64 ((C 103 (w32 (l4 + 1))) + (w64 (Int.tdiv (w64 ((C 103 l4) * (C 83 43))) 10))))) 103 l4 (w64 (Int.tdiv (w64 (((upC C 103 (w32 (l4 + 1)) (w64 ((C 103 (w32 (l4 + 1))) + (w64 (Int.tdiv (w64 ((C 103 l4) * (C 83 43))) 10))))) 103 l4) * (w32 (10 - (C 83 43))))) 10))) Q))) : K_X11_few_67 (d + 1) mc ms l1 l2 l3 l4 S C Q := by
  show Wp (d + 1) mc ms M_X11_few 67 [cA 81, cI l1, cI l2, cI l3, cI l4, cU] [] S C Q
  refine wp_iload (nx := 69) dX11_few_67 rfl rfl ?_
  refine wp_if_lt (nx := 72) (tg := 140) dX11_few_69 rfl rfl (fun hc => ?_) (fun hc => ?_)
  · have h := h.1 hc
    refine wp_iinc (nx := 143) dX11_few_140 rfl rfl (by decide) ?_
    refine wp_ls (ls2 := [cA 81, cI l1, cI l2, cI (w32 (l3 + 1)), cI l4, cU]) rfl ?_
    refine wp_goto (nx := 57) dX11_few_143 rfl ?_
    refine wp_fg [true, true, true, true, false, false] (ls2 := [cA 81, cI l1, cI l2, cI (w32 (l3 + 1)), cU, cU]) rfl ?_
    exact h
  · have h := h.2 hc
    refine wp_aload_n (nx := 73) dX11_few_72 rfl rfl ?_
    refine wp_getAe (kk := 39) (nx := 76) clsX11 dX11_few_73 rfl kF_X11_93 (by decide) (fo_81 F) (ft_81 F) rfl (fp_81_39 F) ?_
    refine wp_iload (nx := 78) dX11_few_76 rfl rfl ?_
    refine wp_iconst (nx := 79) dX11_few_78 rfl (i32 (by decide)) ?_
    refine wp_iadd (nx := 80) dX11_few_79 rfl ?_
    refine wp_dup2 (nx := 81) dX11_few_80 rfl (k1I _) (k1A _) ?_
    obtain ⟨hi, h⟩ := h
    refine wp_laloadE (nx := 82) dX11_few_81 rfl (fo_103 F) (fl_103 F) hi (ft_103 F) rfl ?_
    refine wp_aload_n (nx := 83) dX11_few_82 rfl rfl ?_
    refine wp_getAe (kk := 39) (nx := 86) clsX11 dX11_few_83 rfl kF_X11_93 (by decide) (fo_81 F) (ft_81 F) rfl (fp_81_39 F) ?_
    refine wp_iload (nx := 88) dX11_few_86 rfl rfl ?_
    obtain ⟨hi, h⟩ := h
    refine wp_laloadE (nx := 89) dX11_few_88 rfl (fo_103 F) (fl_103 F) hi (ft_103 F) rfl ?_
    refine wp_aload_n (nx := 90) dX11_few_89 rfl rfl ?_
    refine wp_getAe (kk := 2) (nx := 93) clsX11 dX11_few_90 rfl kF_X11_28 (by decide) (fo_81 F) (ft_81 F) rfl (fp_81_2 F) ?_
    refine wp_bipush (nx := 95) dX11_few_93 rfl ⟨by decide, i32 (by decide)⟩ ?_
    refine wp_ialoadE (nx := 96) dX11_few_95 rfl (fo_83 F) (fl_83 F) (by decide) (ft_83 F) rfl ?_
    refine wp_i2l (nx := 97) dX11_few_96 rfl ?_
    refine wp_lmul (nx := 98) dX11_few_97 rfl ?_
    refine wp_ldc2 (nx := 101) dX11_few_98 rfl kJ_X11_397 (i64 (by decide)) ?_
    refine wp_ldiv (nx := 102) dX11_few_101 rfl (by decide) ?_
    refine wp_ladd (nx := 103) dX11_few_102 rfl ?_
    obtain ⟨hi, h⟩ := h
    refine wp_lastoreE (nx := 104) dX11_few_103 rfl (fo_103 F) (fl_103 F) hi (ft_103 F) ?_
    refine wp_aload_n (nx := 105) dX11_few_104 rfl rfl ?_
    refine wp_getAe (kk := 39) (nx := 108) clsX11 dX11_few_105 rfl kF_X11_93 (by decide) (fo_81 F) (ft_81 F) rfl (fp_81_39 F) ?_
    refine wp_iload (nx := 110) dX11_few_108 rfl rfl ?_
    refine wp_aload_n (nx := 111) dX11_few_110 rfl rfl ?_
    refine wp_getAe (kk := 39) (nx := 114) clsX11 dX11_few_111 rfl kF_X11_93 (by decide) (fo_81 F) (ft_81 F) rfl (fp_81_39 F) ?_
    refine wp_iload (nx := 116) dX11_few_114 rfl rfl ?_
    obtain ⟨hi, h⟩ := h
    refine wp_laloadE (nx := 117) dX11_few_116 rfl (fo_103 F) (fl_103 F) hi (ft_103 F) rfl ?_
    refine wp_bipush (nx := 119) dX11_few_117 rfl ⟨by decide, i32 (by decide)⟩ ?_
    refine wp_aload_n (nx := 120) dX11_few_119 rfl rfl ?_
    refine wp_getAe (kk := 2) (nx := 123) clsX11 dX11_few_120 rfl kF_X11_28 (by decide) (fo_81 F) (ft_81 F) rfl (fp_81_2 F) ?_
    refine wp_bipush (nx := 125) dX11_few_123 rfl ⟨by decide, i32 (by decide)⟩ ?_
    refine wp_ialoadE (nx := 126) dX11_few_125 rfl (fo_83 F) (fl_83 F) (by decide) (ft_83 F) (upC_sA (by decide)) ?_
    refine wp_isub (nx := 127) dX11_few_126 rfl ?_
    refine wp_i2l (nx := 128) dX11_few_127 rfl ?_
    refine wp_lmul (nx := 129) dX11_few_128 rfl ?_
    refine wp_ldc2 (nx := 132) dX11_few_129 rfl kJ_X11_397 (i64 (by decide)) ?_
    refine wp_ldiv (nx := 133) dX11_few_132 rfl (by decide) ?_
    obtain ⟨hi, h⟩ := h
    refine wp_lastoreE (nx := 134) dX11_few_133 rfl (fo_103 F) (fl_103 F) hi (ft_103 F) ?_
    refine wp_iinc (nx := 137) dX11_few_134 rfl rfl (by decide) ?_
    refine wp_ls (ls2 := [cA 81, cI l1, cI l2, cI l3, cI (w32 (l4 + (-1))), cU]) rfl ?_
    refine wp_goto (nx := 67) dX11_few_137 rfl ?_
    exact h
theorem b_X11_keeps_0 {d mc ms : Nat} {l1 : Int} {S : MS} {C : MC} {Q : Int → MS → MC → Prop} (F : Fix S) (h : ((¬ C 81 42 = 16 → K_X11_keeps_54 d mc ms l1 26 0 S C Q) ∧ (C 81 42 = 16 → K_X11_keeps_14 d mc ms l1 26 0 S C Q))) : K_X11_keeps_0 d mc ms l1 S C Q := by
  show Wp d mc ms M_X11_keeps 0 [cA 81, cI l1, cU, cU] [] S C Q
  refine wp_bipush (nx := 2) dX11_keeps_0 rfl ⟨by decide, i32 (by decide)⟩ ?_
  refine wp_istore_n (nx := 3) dX11_keeps_2 rfl (by decide) ?_
  refine wp_ls (ls2 := [cA 81, cI l1, cI 26, cU]) rfl ?_
  refine wp_aload_n (nx := 4) dX11_keeps_3 rfl rfl ?_
  refine wp_getIe (kk := 42) 42 (nx := 7) clsX11 dX11_keeps_4 rfl kF_X11_11 (by decide) (fo_81 F) (ft_81 F) rfl rfl rfl ?_
  refine wp_bipush (nx := 9) dX11_keeps_7 rfl ⟨by decide, i32 (by decide)⟩ ?_
  refine wp_icmp_ne (nx := 12) (tg := 52) dX11_keeps_9 rfl rfl (fun hc => ?_) (fun hc => ?_)
  · have h := h.1 hc
    refine wp_iconst (nx := 53) dX11_keeps_52 rfl (i32 (by decide)) ?_
    refine wp_istore_n (nx := 54) dX11_keeps_53 rfl (by decide) ?_
    refine wp_ls (ls2 := [cA 81, cI l1, cI 26, cI 0]) rfl ?_
    exact h
  · have h := h.2 hc
    refine wp_iconst (nx := 13) dX11_keeps_12 rfl (i32 (by decide)) ?_
    refine wp_istore_n (nx := 14) dX11_keeps_13 rfl (by decide) ?_
    refine wp_ls (ls2 := [cA 81, cI l1, cI 26, cI 0]) rfl ?_
    exact h
theorem b_X11_keeps_54 {d mc ms : Nat} {l1 l2 l3 : Int} {S : MS} {C : MC} {Q : Int → MS → MC → Prop} (F : Fix S) (h : ((25 ≤ l3 → ((0 : Int) ≤ w32 ((w32 (l2 * (C 81 42))) + 25) ∧ w32 ((w32 (l2 * (C 81 42))) + 25) < 416) ∧ Q 0 S (upC (upC C 104 (w32 ((w32 (l2 * (C 81 42))) + 25)) l1) 81 42 (w32 ((C 81 42) + 1)))) ∧ (¬ 25 ≤ l3 → ((0 : Int) ≤ l3 ∧ l3 < 5656) ∧ ((0 : Int) ≤ w32 ((w32 (l2 * (C 81 42))) + l3) ∧ w32 ((w32 (l2 * (C 81 42))) + l3) < 416) ∧ K_X11_keeps_54 d mc ms l1 l2 (w32 (l3 + 1)) S (upC C 104 (w32 ((w32 (l2 * (C 81 42))) + l3)) (C 83 l3)) Q))) : K_X11_keeps_54 d mc ms l1 l2 l3 S C Q := by
  show Wp d mc ms M_X11_keeps 54 [cA 81, cI l1, cI l2, cI l3] [] S C Q
  refine wp_iload_n (nx := 55) dX11_keeps_54 rfl rfl ?_
  refine wp_bipush (nx := 57) dX11_keeps_55 rfl ⟨by decide, i32 (by decide)⟩ ?_
  refine wp_icmp_ge (nx := 60) (tg := 85) dX11_keeps_57 rfl rfl (fun hc => ?_) (fun hc => ?_)
  · have h := h.1 hc
    refine wp_aload_n (nx := 86) dX11_keeps_85 rfl rfl ?_
    refine wp_getAe (kk := 40) (nx := 89) clsX11 dX11_keeps_86 rfl kF_X11_97 (by decide) (fo_81 F) (ft_81 F) rfl (fp_81_40 F) ?_
    refine wp_iload_n (nx := 90) dX11_keeps_89 rfl rfl ?_
    refine wp_aload_n (nx := 91) dX11_keeps_90 rfl rfl ?_
    refine wp_getIe (kk := 42) 42 (nx := 94) clsX11 dX11_keeps_91 rfl kF_X11_11 (by decide) (fo_81 F) (ft_81 F) rfl rfl rfl ?_
    refine wp_imul (nx := 95) dX11_keeps_94 rfl ?_
    refine wp_bipush (nx := 97) dX11_keeps_95 rfl ⟨by decide, i32 (by decide)⟩ ?_
    refine wp_iadd (nx := 98) dX11_keeps_97 rfl ?_
    refine wp_iload_n (nx := 99) dX11_keeps_98 rfl rfl ?_
    obtain ⟨hi, h⟩ := h
    refine wp_iastoreE (nx := 100) dX11_keeps_99 rfl (fo_104 F) (fl_104 F) hi (ft_104 F) ?_
    refine wp_aload_n (nx := 101) dX11_keeps_100 rfl rfl ?_
    refine wp_dup (nx := 102) dX11_keeps_101 rfl (k1A _) ?_
    refine wp_getIe (kk := 42) 42 (nx := 105) clsX11 dX11_keeps_102 rfl kF_X11_11 (by decide) (fo_81 F) (ft_81 F) rfl rfl (upC_sA (by decide)) ?_
    refine wp_iconst (nx := 106) dX11_keeps_105 rfl (i32 (by decide)) ?_
    refine wp_iadd (nx := 107) dX11_keeps_106 rfl ?_
    refine wp_putIe (kk := 42) 42 (nx := 110) clsX11 dX11_keeps_107 rfl kF_X11_11 (by decide) (fo_81 F) (ft_81 F) rfl rfl ⟨rfl, rfl⟩ rfl ?_
    exact wp_return dX11_keeps_110 rfl h
  · have h := h.2 hc
    refine wp_aload_n (nx := 61) dX11_keeps_60 rfl rfl ?_
    refine wp_getAe (kk := 40) (nx := 64) clsX11 dX11_keeps_61 rfl kF_X11_97 (by decide) (fo_81 F) (ft_81 F) rfl (fp_81_40 F) ?_
    refine wp_iload_n (nx := 65) dX11_keeps_64 rfl rfl ?_
    refine wp_aload_n (nx := 66) dX11_keeps_65 rfl rfl ?_
    refine wp_getIe (kk := 42) 42 (nx := 69) clsX11 dX11_keeps_66 rfl kF_X11_11 (by decide) (fo_81 F) (ft_81 F) rfl rfl rfl ?_
    refine wp_imul (nx := 70) dX11_keeps_69 rfl ?_
    refine wp_iload_n (nx := 71) dX11_keeps_70 rfl rfl ?_
    refine wp_iadd (nx := 72) dX11_keeps_71 rfl ?_
    refine wp_aload_n (nx := 73) dX11_keeps_72 rfl rfl ?_
    refine wp_getAe (kk := 2) (nx := 76) clsX11 dX11_keeps_73 rfl kF_X11_28 (by decide) (fo_81 F) (ft_81 F) rfl (fp_81_2 F) ?_
    refine wp_iload_n (nx := 77) dX11_keeps_76 rfl rfl ?_
    obtain ⟨hi, h⟩ := h
    refine wp_ialoadE (nx := 78) dX11_keeps_77 rfl (fo_83 F) (fl_83 F) hi (ft_83 F) rfl ?_
    obtain ⟨hi, h⟩ := h
    refine wp_iastoreE (nx := 79) dX11_keeps_78 rfl (fo_104 F) (fl_104 F) hi (ft_104 F) ?_
    refine wp_iinc (nx := 82) dX11_keeps_79 rfl rfl (by decide) ?_
    refine wp_ls (ls2 := [cA 81, cI l1, cI l2, cI (w32 (l3 + 1))]) rfl ?_
    refine wp_goto (nx := 54) dX11_keeps_82 rfl ?_
    exact h
theorem b_X11_keeps_14 {d mc ms : Nat} {l1 l2 l3 : Int} {S : MS} {C : MC} {Q : Int → MS → MC → Prop} (F : Fix S) (h : ((w32 (15 * l2) ≤ l3 → K_X11_keeps_54 d mc ms l1 l2 0 S (upC C 81 42 (w32 ((C 81 42) - 1))) Q) ∧ (¬ w32 (15 * l2) ≤ l3 → ((0 : Int) ≤ w32 (l3 + l2) ∧ w32 (l3 + l2) < 416) ∧ ((0 : Int) ≤ l3 ∧ l3 < 416) ∧ K_X11_keeps_14 d mc ms l1 l2 (w32 (l3 + 1)) S (upC C 104 l3 (C 104 (w32 (l3 + l2)))) Q))) : K_X11_keeps_14 d mc ms l1 l2 l3 S C Q := by
  show Wp d mc ms M_X11_keeps 14 [cA 81, cI l1, cI l2, cI l3] [] S C Q
  refine wp_iload_n (nx := 15) dX11_keeps_14 rfl rfl ?_
  refine wp_bipush (nx := 17) dX11_keeps_15 rfl ⟨by decide, i32 (by decide)⟩ ?_
  refine wp_iload_n (nx := 18) dX11_keeps_17 rfl rfl ?_
  refine wp_imul (nx := 19) dX11_keeps_18 rfl ?_
  refine wp_icmp_ge (nx := 22) (tg := 42) dX11_keeps_19 rfl rfl (fun hc => ?_) (fun hc => ?_)
  · have h := h.1 hc
    refine wp_aload_n (nx := 43) dX11_keeps_42 rfl rfl ?_
    refine wp_dup (nx := 44) dX11_keeps_43 rfl (k1A _) ?_
    refine wp_getIe (kk := 42) 42 (nx := 47) clsX11 dX11_keeps_44 rfl kF_X11_11 (by decide) (fo_81 F) (ft_81 F) rfl rfl rfl ?_
    refine wp_iconst (nx := 48) dX11_keeps_47 rfl (i32 (by decide)) ?_
    refine wp_isub (nx := 49) dX11_keeps_48 rfl ?_
    refine wp_putIe (kk := 42) 42 (nx := 52) clsX11 dX11_keeps_49 rfl kF_X11_11 (by decide) (fo_81 F) (ft_81 F) rfl rfl ⟨rfl, rfl⟩ rfl ?_
    refine wp_iconst (nx := 53) dX11_keeps_52 rfl (i32 (by decide)) ?_
    refine wp_istore_n (nx := 54) dX11_keeps_53 rfl (by decide) ?_
    refine wp_ls (ls2 := [cA 81, cI l1, cI l2, cI 0]) rfl ?_
    exact h
  · have h := h.2 hc
    refine wp_aload_n (nx := 23) dX11_keeps_22 rfl rfl ?_
    refine wp_getAe (kk := 40) (nx := 26) clsX11 dX11_keeps_23 rfl kF_X11_97 (by decide) (fo_81 F) (ft_81 F) rfl (fp_81_40 F) ?_
    refine wp_iload_n (nx := 27) dX11_keeps_26 rfl rfl ?_
    refine wp_aload_n (nx := 28) dX11_keeps_27 rfl rfl ?_
    refine wp_getAe (kk := 40) (nx := 31) clsX11 dX11_keeps_28 rfl kF_X11_97 (by decide) (fo_81 F) (ft_81 F) rfl (fp_81_40 F) ?_
    refine wp_iload_n (nx := 32) dX11_keeps_31 rfl rfl ?_
    refine wp_iload_n (nx := 33) dX11_keeps_32 rfl rfl ?_
    refine wp_iadd (nx := 34) dX11_keeps_33 rfl ?_
    obtain ⟨hi, h⟩ := h
    refine wp_ialoadE (nx := 35) dX11_keeps_34 rfl (fo_104 F) (fl_104 F) hi (ft_104 F) rfl ?_
    obtain ⟨hi, h⟩ := h
    refine wp_iastoreE (nx := 36) dX11_keeps_35 rfl (fo_104 F) (fl_104 F) hi (ft_104 F) ?_
    refine wp_iinc (nx := 39) dX11_keeps_36 rfl rfl (by decide) ?_
    refine wp_ls (ls2 := [cA 81, cI l1, cI l2, cI (w32 (l3 + 1))]) rfl ?_
    refine wp_goto (nx := 14) dX11_keeps_39 rfl ?_
    exact h
theorem b_X11_undo_0 {d mc ms : Nat} {S : MS} {C : MC} {Q : Int → MS → MC → Prop} (F : Fix S) (h : ((¬ C 81 42 = 0 → K_X11_undo_34 (d + 1) mc ms (w32 (26 * (w32 ((C 81 42) - 1)))) 0 S (upC C 81 42 (w32 ((C 81 42) - 1))) Q) ∧ (C 81 42 = 0 → K_X11_refuses_0 d 0 0 (-3) S C (fun r1 Sq C2 => Sq = S ∧ Q r1 S C2)))) : K_X11_undo_0 (d + 1) mc ms S C Q := by
  show Wp (d + 1) mc ms M_X11_undo 0 [cA 81, cU, cU] [] S C Q
  refine wp_aload_n (nx := 1) dX11_undo_0 rfl rfl ?_
  refine wp_getIe (kk := 42) 42 (nx := 4) clsX11 dX11_undo_1 rfl kF_X11_11 (by decide) (fo_81 F) (ft_81 F) rfl rfl rfl ?_
  refine wp_if_ne (nx := 7) (tg := 14) dX11_undo_4 rfl rfl (fun hc => ?_) (fun hc => ?_)
  · have h := h.1 hc
    refine wp_aload_n (nx := 15) dX11_undo_14 rfl rfl ?_
    refine wp_dup (nx := 16) dX11_undo_15 rfl (k1A _) ?_
    refine wp_getIe (kk := 42) 42 (nx := 19) clsX11 dX11_undo_16 rfl kF_X11_11 (by decide) (fo_81 F) (ft_81 F) rfl rfl rfl ?_
    refine wp_iconst (nx := 20) dX11_undo_19 rfl (i32 (by decide)) ?_
    refine wp_isub (nx := 21) dX11_undo_20 rfl ?_
    refine wp_putIe (kk := 42) 42 (nx := 24) clsX11 dX11_undo_21 rfl kF_X11_11 (by decide) (fo_81 F) (ft_81 F) rfl rfl ⟨rfl, rfl⟩ rfl ?_
    refine wp_bipush (nx := 26) dX11_undo_24 rfl ⟨by decide, i32 (by decide)⟩ ?_
    refine wp_aload_n (nx := 27) dX11_undo_26 rfl rfl ?_
    refine wp_getIe (kk := 42) 42 (nx := 30) clsX11 dX11_undo_27 rfl kF_X11_11 (by decide) (fo_81 F) (ft_81 F) rfl rfl upC_h ?_
    refine wp_imul (nx := 31) dX11_undo_30 rfl ?_
    refine wp_istore_n (nx := 32) dX11_undo_31 rfl (by decide) ?_
    refine wp_ls (ls2 := [cA 81, cI (w32 (26 * (w32 ((C 81 42) - 1)))), cU]) rfl ?_
    refine wp_iconst (nx := 33) dX11_undo_32 rfl (i32 (by decide)) ?_
    refine wp_istore_n (nx := 34) dX11_undo_33 rfl (by decide) ?_
    refine wp_ls (ls2 := [cA 81, cI (w32 (26 * (w32 ((C 81 42) - 1)))), cI 0]) rfl ?_
    exact h
  · have h := h.2 hc
    refine wp_aload_n (nx := 8) dX11_undo_7 rfl rfl ?_
    refine wp_bipush (nx := 10) dX11_undo_8 rfl ⟨by decide, i32 (by decide)⟩ ?_
    refine wp_invV (nx := 13) (N := M_X11_refuses) (as := [cI (-3)]) (st := []) (mc := 0) (ms := 0) (mc' := mc) (ms' := ms) (a := 81) clsX11 dX11_undo_10 rfl mok_X11_refuses kM_X11_112 ki_X11_refuses ke_X11_refuses (fo_81 F) (ft_81 F) rfl rfl (leB rfl) (leB rfl) (z0 _) (z0 _) (Wp.mono h ?_)
    intro r1 Sq C2 h
    obtain ⟨e9, h⟩ := h
    rw [e9]
    show Wp (d + 1) mc ms M_X11_undo 13 [cA 81, cU, cU] [cI r1] S C2 Q
    exact wp_ireturn dX11_undo_13 rfl rfl rfl h
theorem b_X11_undo_34 {d mc ms : Nat} {l1 l2 : Int} {S : MS} {C : MC} {Q : Int → MS → MC → Prop} (F : Fix S) (h : ((25 ≤ l2 → ((0 : Int) ≤ w32 (l1 + 25) ∧ w32 (l1 + 25) < 416) ∧ K_X11_good_0 d 0 0 (C 104 (w32 (l1 + 25))) S C (fun r1 Sq C2 => Sq = S ∧ Q r1 S C2)) ∧ (¬ 25 ≤ l2 → ((0 : Int) ≤ w32 (l1 + l2) ∧ w32 (l1 + l2) < 416) ∧ ((0 : Int) ≤ l2 ∧ l2 < 5656) ∧ K_X11_undo_34 (d + 1) mc ms l1 (w32 (l2 + 1)) S (upC C 83 l2 (C 104 (w32 (l1 + l2)))) Q))) : K_X11_undo_34 (d + 1) mc ms l1 l2 S C Q := by
  show Wp (d + 1) mc ms M_X11_undo 34 [cA 81, cI l1, cI l2] [] S C Q
  refine wp_iload_n (nx := 35) dX11_undo_34 rfl rfl ?_
  refine wp_bipush (nx := 37) dX11_undo_35 rfl ⟨by decide, i32 (by decide)⟩ ?_
  refine wp_icmp_ge (nx := 40) (tg := 60) dX11_undo_37 rfl rfl (fun hc => ?_) (fun hc => ?_)
  · have h := h.1 hc
    refine wp_aload_n (nx := 61) dX11_undo_60 rfl rfl ?_
    refine wp_aload_n (nx := 62) dX11_undo_61 rfl rfl ?_
    refine wp_getAe (kk := 40) (nx := 65) clsX11 dX11_undo_62 rfl kF_X11_97 (by decide) (fo_81 F) (ft_81 F) rfl (fp_81_40 F) ?_
    refine wp_iload_n (nx := 66) dX11_undo_65 rfl rfl ?_
    refine wp_bipush (nx := 68) dX11_undo_66 rfl ⟨by decide, i32 (by decide)⟩ ?_
    refine wp_iadd (nx := 69) dX11_undo_68 rfl ?_
    obtain ⟨hi, h⟩ := h
    refine wp_ialoadE (nx := 70) dX11_undo_69 rfl (fo_104 F) (fl_104 F) hi (ft_104 F) rfl ?_
    refine wp_invV (nx := 73) (N := M_X11_good) (as := [cI (C 104 (w32 (l1 + 25)))]) (st := []) (mc := 0) (ms := 0) (mc' := mc) (ms' := ms) (a := 81) clsX11 dX11_undo_70 rfl mok_X11_good kM_X11_14 ki_X11_good ke_X11_good (fo_81 F) (ft_81 F) rfl rfl (leB rfl) (leB rfl) (z0 _) (z0 _) (Wp.mono h ?_)
    intro r1 Sq C2 h
    obtain ⟨e9, h⟩ := h
    rw [e9]
    show Wp (d + 1) mc ms M_X11_undo 73 [cA 81, cI l1, cI l2] [cI r1] S C2 Q
    exact wp_ireturn dX11_undo_73 rfl rfl rfl h
  · have h := h.2 hc
    refine wp_aload_n (nx := 41) dX11_undo_40 rfl rfl ?_
    refine wp_getAe (kk := 2) (nx := 44) clsX11 dX11_undo_41 rfl kF_X11_28 (by decide) (fo_81 F) (ft_81 F) rfl (fp_81_2 F) ?_
    refine wp_iload_n (nx := 45) dX11_undo_44 rfl rfl ?_
    refine wp_aload_n (nx := 46) dX11_undo_45 rfl rfl ?_
    refine wp_getAe (kk := 40) (nx := 49) clsX11 dX11_undo_46 rfl kF_X11_97 (by decide) (fo_81 F) (ft_81 F) rfl (fp_81_40 F) ?_
    refine wp_iload_n (nx := 50) dX11_undo_49 rfl rfl ?_
    refine wp_iload_n (nx := 51) dX11_undo_50 rfl rfl ?_
    refine wp_iadd (nx := 52) dX11_undo_51 rfl ?_
    obtain ⟨hi, h⟩ := h
    refine wp_ialoadE (nx := 53) dX11_undo_52 rfl (fo_104 F) (fl_104 F) hi (ft_104 F) rfl ?_
    obtain ⟨hi, h⟩ := h
    refine wp_iastoreE (nx := 54) dX11_undo_53 rfl (fo_83 F) (fl_83 F) hi (ft_83 F) ?_
    refine wp_iinc (nx := 57) dX11_undo_54 rfl rfl (by decide) ?_
    refine wp_ls (ls2 := [cA 81, cI l1, cI (w32 (l2 + 1))]) rfl ?_
    refine wp_goto (nx := 34) dX11_undo_57 rfl ?_
    exact h
theorem b_X11_goodOr_0 {d mc ms : Nat} {l1 : Int} {S : MS} {C : MC} {Q : Int → MS → MC → Prop} (F : Fix S) (h : ((0 ≤ l1 → K_X11_good_0 d 0 0 l1 S C (fun r1 Sq C2 => Sq = S ∧ Q r1 S C2)) ∧ (¬ 0 ≤ l1 → K_X11_refuses_0 d 0 0 l1 S C (fun r3 Sq C4 => Sq = S ∧ Q r3 S C4)))) : K_X11_goodOr_0 (d + 1) mc ms l1 S C Q := by
  show Wp (d + 1) mc ms M_X11_goodOr 0 [cA 81, cI l1] [] S C Q
  refine wp_iload_n (nx := 1) dX11_goodOr_0 rfl rfl ?_
  refine wp_if_ge (nx := 4) (tg := 12) dX11_goodOr_1 rfl rfl (fun hc => ?_) (fun hc => ?_)
  · have h := h.1 hc
    refine wp_aload_n (nx := 13) dX11_goodOr_12 rfl rfl ?_
    refine wp_iload_n (nx := 14) dX11_goodOr_13 rfl rfl ?_
    refine wp_invV (nx := 17) (N := M_X11_good) (as := [cI l1]) (st := []) (mc := 0) (ms := 0) (mc' := mc) (ms' := ms) (a := 81) clsX11 dX11_goodOr_14 rfl mok_X11_good kM_X11_14 ki_X11_good ke_X11_good (fo_81 F) (ft_81 F) rfl rfl (leB rfl) (leB rfl) (z0 _) (z0 _) (Wp.mono h ?_)
    intro r1 Sq C2 h
    obtain ⟨e9, h⟩ := h
    rw [e9]
    show Wp (d + 1) mc ms M_X11_goodOr 17 [cA 81, cI l1] [cI r1] S C2 Q
    exact wp_ireturn dX11_goodOr_17 rfl rfl rfl h
  · have h := h.2 hc
    refine wp_aload_n (nx := 5) dX11_goodOr_4 rfl rfl ?_
    refine wp_iload_n (nx := 6) dX11_goodOr_5 rfl rfl ?_
    refine wp_invV (nx := 9) (N := M_X11_refuses) (as := [cI l1]) (st := []) (mc := 0) (ms := 0) (mc' := mc) (ms' := ms) (a := 81) clsX11 dX11_goodOr_6 rfl mok_X11_refuses kM_X11_112 ki_X11_refuses ke_X11_refuses (fo_81 F) (ft_81 F) rfl rfl (leB rfl) (leB rfl) (z0 _) (z0 _) (Wp.mono h ?_)
    intro r3 Sq C4 h
    obtain ⟨e9, h⟩ := h
    rw [e9]
    show Wp (d + 1) mc ms M_X11_goodOr 9 [cA 81, cI l1] [cI r3] S C4 Q
    refine wp_goto (nx := 17) dX11_goodOr_9 rfl ?_
    exact wp_ireturn dX11_goodOr_17 rfl rfl rfl h
theorem b_X11_notesKept_0 {d mc ms : Nat} {l1 l2 : Int} {S : MS} {C : MC} {Q : Int → MS → MC → Prop} (F : Fix S) (h : K_X11_isKey_0 d 0 0 l1 S C (fun r1 Sq C2 => Sq = S ∧ ((r1 = 0 → Q (-1) S C2) ∧ (¬ r1 = 0 → K_X11_isBeat_0 d 0 0 l2 S C2 (fun r3 Sq C4 => Sq = S ∧ ((¬ r3 = 0 → K_X11_keeps_0 d 0 0 0 S C4 (fun r5 Sq C6 => Sq = S ∧ ((0 : Int) ≤ w32 (8 + l2) ∧ w32 (8 + l2) < 5656) ∧ ((0 : Int) ≤ w32 (8 + l2) ∧ w32 (8 + l2) < 5656) ∧ K_X11_musicAt_0 d 0 0 l2 S ((upC C6 83 (w32 (8 + l2)) (iXor (C6 83 (w32 (8 + l2))) (iShl 1 l1)))) (fun r7 Sq C8 => Sq = S ∧ Q r7 S C8))) ∧ (r3 = 0 → Q (-1) S C4))))))) : K_X11_notesKept_0 (d + 1) mc ms l1 l2 S C Q := by
  show Wp (d + 1) mc ms M_X11_notesKept 0 [cA 81, cI l1, cI l2] [] S C Q
  refine wp_iload_n (nx := 1) dX11_notesKept_0 rfl rfl ?_
  refine wp_invS (nx := 4) (N := M_X11_isKey) (as := [cI l1]) (st := []) (mc := 0) (ms := 0) (mc' := mc) (ms' := ms) dX11_notesKept_1 rfl mok_X11_isKey kM_X11_135 ks_X11_isKey rfl rfl (leB rfl) (leB rfl) (z0 _) (z0 _) (Wp.mono h ?_)
  intro r1 Sq C2 h
  obtain ⟨e9, h⟩ := h
  rw [e9]
  show Wp (d + 1) mc ms M_X11_notesKept 4 [cA 81, cI l1, cI l2] [cI r1] S C2 Q
  refine wp_if_eq (nx := 7) (tg := 14) dX11_notesKept_4 rfl rfl (fun hc => ?_) (fun hc => ?_)
  · have h := h.1 hc
    refine wp_iconst (nx := 15) dX11_notesKept_14 rfl (i32 (by decide)) ?_
    exact wp_ireturn dX11_notesKept_15 rfl rfl rfl h
  · have h := h.2 hc
    refine wp_iload_n (nx := 8) dX11_notesKept_7 rfl rfl ?_
    refine wp_invS (nx := 11) (N := M_X11_isBeat) (as := [cI l2]) (st := []) (mc := 0) (ms := 0) (mc' := mc) (ms' := ms) dX11_notesKept_8 rfl mok_X11_isBeat kM_X11_138 ks_X11_isBeat rfl rfl (leB rfl) (leB rfl) (z0 _) (z0 _) (Wp.mono h ?_)
    intro r3 Sq C4 h
    obtain ⟨e9, h⟩ := h
    rw [e9]
    show Wp (d + 1) mc ms M_X11_notesKept 11 [cA 81, cI l1, cI l2] [cI r3] S C4 Q
    refine wp_if_ne (nx := 14) (tg := 16) dX11_notesKept_11 rfl rfl (fun hc => ?_) (fun hc => ?_)
    · have h := h.1 hc
      refine wp_aload_n (nx := 17) dX11_notesKept_16 rfl rfl ?_
      refine wp_iconst (nx := 18) dX11_notesKept_17 rfl (i32 (by decide)) ?_
      refine wp_invV (nx := 21) (N := M_X11_keeps) (as := [cI 0]) (st := []) (mc := 0) (ms := 0) (mc' := mc) (ms' := ms) (a := 81) clsX11 dX11_notesKept_18 rfl mok_X11_keeps kM_X11_399 ki_X11_keeps ke_X11_keeps (fo_81 F) (ft_81 F) rfl rfl (leB rfl) (leB rfl) (z0 _) (z0 _) (Wp.mono h ?_)
      intro r5 Sq C6 h
      obtain ⟨e9, h⟩ := h
      rw [e9]
      show Wp (d + 1) mc ms M_X11_notesKept 21 [cA 81, cI l1, cI l2] [] S C6 Q
      refine wp_aload_n (nx := 22) dX11_notesKept_21 rfl rfl ?_
      refine wp_getAe (kk := 2) (nx := 25) clsX11 dX11_notesKept_22 rfl kF_X11_28 (by decide) (fo_81 F) (ft_81 F) rfl (fp_81_2 F) ?_
      refine wp_bipush (nx := 27) dX11_notesKept_25 rfl ⟨by decide, i32 (by decide)⟩ ?_
      refine wp_iload_n (nx := 28) dX11_notesKept_27 rfl rfl ?_
      refine wp_iadd (nx := 29) dX11_notesKept_28 rfl ?_
      refine wp_dup2 (nx := 30) dX11_notesKept_29 rfl (k1I _) (k1A _) ?_
      obtain ⟨hi, h⟩ := h
      refine wp_ialoadE (nx := 31) dX11_notesKept_30 rfl (fo_83 F) (fl_83 F) hi (ft_83 F) rfl ?_
      refine wp_iconst (nx := 32) dX11_notesKept_31 rfl (i32 (by decide)) ?_
      refine wp_iload_n (nx := 33) dX11_notesKept_32 rfl rfl ?_
      refine wp_ishl (nx := 34) dX11_notesKept_33 rfl ?_
      refine wp_ixor (nx := 35) dX11_notesKept_34 rfl ?_
      obtain ⟨hi, h⟩ := h
      refine wp_iastoreE (nx := 36) dX11_notesKept_35 rfl (fo_83 F) (fl_83 F) hi (ft_83 F) ?_
      refine wp_aload_n (nx := 37) dX11_notesKept_36 rfl rfl ?_
      refine wp_iload_n (nx := 38) dX11_notesKept_37 rfl rfl ?_
      refine wp_invV (nx := 41) (N := M_X11_musicAt) (as := [cI l2]) (st := []) (mc := 0) (ms := 0) (mc' := mc) (ms' := ms) (a := 81) clsX11 dX11_notesKept_38 rfl mok_X11_musicAt kM_X11_122 ki_X11_musicAt ke_X11_musicAt (fo_81 F) (ft_81 F) rfl rfl (leB rfl) (leB rfl) (z0 _) (z0 _) (Wp.mono h ?_)
      intro r7 Sq C8 h
      obtain ⟨e9, h⟩ := h
      rw [e9]
      show Wp (d + 1) mc ms M_X11_notesKept 41 [cA 81, cI l1, cI l2] [cI r7] S C8 Q
      exact wp_ireturn dX11_notesKept_41 rfl rfl rfl h
    · have h := h.2 hc
      refine wp_iconst (nx := 15) dX11_notesKept_14 rfl (i32 (by decide)) ?_
      exact wp_ireturn dX11_notesKept_15 rfl rfl rfl h
theorem b_X11_givesKept_0 {d mc ms : Nat} {l1 l2 : Int} {S : MS} {C : MC} {Q : Int → MS → MC → Prop} (F : Fix S) (h : K_X11_isKey_0 d 0 0 l1 S C (fun r1 Sq C2 => Sq = S ∧ ((¬ r1 = 0 → ((l2 = (-1) → K_X11_givesKept_25 (d + 1) mc ms l1 l2 S C2 Q) ∧ (¬ l2 = (-1) → K_X11_isHouse_0 d 0 0 l2 S C2 (fun r3 Sq C4 => Sq = S ∧ ((¬ r3 = 0 → K_X11_givesKept_25 (d + 1) mc ms l1 l2 S C4 Q) ∧ (r3 = 0 → Q (-2) S C4)))))) ∧ (r1 = 0 → Q (-1) S C2)))) : K_X11_givesKept_0 (d + 1) mc ms l1 l2 S C Q := by
  show Wp (d + 1) mc ms M_X11_givesKept 0 [cA 81, cI l1, cI l2, cU] [] S C Q
  refine wp_iload_n (nx := 1) dX11_givesKept_0 rfl rfl ?_
  refine wp_invS (nx := 4) (N := M_X11_isKey) (as := [cI l1]) (st := []) (mc := 0) (ms := 0) (mc' := mc) (ms' := ms) dX11_givesKept_1 rfl mok_X11_isKey kM_X11_135 ks_X11_isKey rfl rfl (leB rfl) (leB rfl) (z0 _) (z0 _) (Wp.mono h ?_)
  intro r1 Sq C2 h
  obtain ⟨e9, h⟩ := h
  rw [e9]
  show Wp (d + 1) mc ms M_X11_givesKept 4 [cA 81, cI l1, cI l2, cU] [cI r1] S C2 Q
  refine wp_if_ne (nx := 7) (tg := 9) dX11_givesKept_4 rfl rfl (fun hc => ?_) (fun hc => ?_)
  · have h := h.1 hc
    refine wp_iload_n (nx := 10) dX11_givesKept_9 rfl rfl ?_
    refine wp_iconst (nx := 11) dX11_givesKept_10 rfl (i32 (by decide)) ?_
    refine wp_icmp_eq (nx := 14) (tg := 25) dX11_givesKept_11 rfl rfl (fun hc => ?_) (fun hc => ?_)
    · have h := h.1 hc
      exact h
    · have h := h.2 hc
      refine wp_aload_n (nx := 15) dX11_givesKept_14 rfl rfl ?_
      refine wp_iload_n (nx := 16) dX11_givesKept_15 rfl rfl ?_
      refine wp_invV (nx := 19) (N := M_X11_isHouse) (as := [cI l2]) (st := []) (mc := 0) (ms := 0) (mc' := mc) (ms' := ms) (a := 81) clsX11 dX11_givesKept_16 rfl mok_X11_isHouse kM_X11_128 ki_X11_isHouse ke_X11_isHouse (fo_81 F) (ft_81 F) rfl rfl (leB rfl) (leB rfl) (z0 _) (z0 _) (Wp.mono h ?_)
      intro r3 Sq C4 h
      obtain ⟨e9, h⟩ := h
      rw [e9]
      show Wp (d + 1) mc ms M_X11_givesKept 19 [cA 81, cI l1, cI l2, cU] [cI r3] S C4 Q
      refine wp_if_ne (nx := 22) (tg := 25) dX11_givesKept_19 rfl rfl (fun hc => ?_) (fun hc => ?_)
      · have h := h.1 hc
        exact h
      · have h := h.2 hc
        refine wp_bipush (nx := 24) dX11_givesKept_22 rfl ⟨by decide, i32 (by decide)⟩ ?_
        exact wp_ireturn dX11_givesKept_24 rfl rfl rfl h
  · have h := h.2 hc
    refine wp_iconst (nx := 8) dX11_givesKept_7 rfl (i32 (by decide)) ?_
    exact wp_ireturn dX11_givesKept_8 rfl rfl rfl h
theorem b_X11_givesKept_25 {d mc ms : Nat} {l1 l2 : Int} {S : MS} {C : MC} {Q : Int → MS → MC → Prop} (F : Fix S) (h : ((0 : Int) ≤ w32 (0 + l1) ∧ w32 (0 + l1) < 5656) ∧ ((¬ C 83 (w32 (0 + l1)) = l2 → K_X11_keeps_0 d 0 0 1 S C (fun r1 Sq C2 => Sq = S ∧ ((0 : Int) ≤ w32 (0 + l1) ∧ w32 (0 + l1) < 5656) ∧ ((¬ C 83 (w32 (0 + l1)) = (-1) → Q (C 83 (w32 (0 + l1))) S (upC C2 83 (w32 (0 + l1)) l2)) ∧ (C 83 (w32 (0 + l1)) = (-1) → Q 6 S (upC C2 83 (w32 (0 + l1)) l2))))) ∧ (C 83 (w32 (0 + l1)) = l2 → Q (-3) S C))) : K_X11_givesKept_25 (d + 1) mc ms l1 l2 S C Q := by
  show Wp (d + 1) mc ms M_X11_givesKept 25 [cA 81, cI l1, cI l2, cU] [] S C Q
  refine wp_aload_n (nx := 26) dX11_givesKept_25 rfl rfl ?_
  refine wp_getAe (kk := 2) (nx := 29) clsX11 dX11_givesKept_26 rfl kF_X11_28 (by decide) (fo_81 F) (ft_81 F) rfl (fp_81_2 F) ?_
  refine wp_iconst (nx := 30) dX11_givesKept_29 rfl (i32 (by decide)) ?_
  refine wp_iload_n (nx := 31) dX11_givesKept_30 rfl rfl ?_
  refine wp_iadd (nx := 32) dX11_givesKept_31 rfl ?_
  obtain ⟨hi, h⟩ := h
  refine wp_ialoadE (nx := 33) dX11_givesKept_32 rfl (fo_83 F) (fl_83 F) hi (ft_83 F) rfl ?_
  refine wp_istore_n (nx := 34) dX11_givesKept_33 rfl (by decide) ?_
  refine wp_ls (ls2 := [cA 81, cI l1, cI l2, cI (C 83 (w32 (0 + l1)))]) rfl ?_
  refine wp_iload_n (nx := 35) dX11_givesKept_34 rfl rfl ?_
  refine wp_iload_n (nx := 36) dX11_givesKept_35 rfl rfl ?_
  refine wp_icmp_ne (nx := 39) (tg := 42) dX11_givesKept_36 rfl rfl (fun hc => ?_) (fun hc => ?_)
  · have h := h.1 hc
    refine wp_aload_n (nx := 43) dX11_givesKept_42 rfl rfl ?_
    refine wp_iconst (nx := 44) dX11_givesKept_43 rfl (i32 (by decide)) ?_
    refine wp_invV (nx := 47) (N := M_X11_keeps) (as := [cI 1]) (st := []) (mc := 0) (ms := 0) (mc' := mc) (ms' := ms) (a := 81) clsX11 dX11_givesKept_44 rfl mok_X11_keeps kM_X11_399 ki_X11_keeps ke_X11_keeps (fo_81 F) (ft_81 F) rfl rfl (leB rfl) (leB rfl) (z0 _) (z0 _) (Wp.mono h ?_)
    intro r1 Sq C2 h
    obtain ⟨e9, h⟩ := h
    rw [e9]
    show Wp (d + 1) mc ms M_X11_givesKept 47 [cA 81, cI l1, cI l2, cI (C 83 (w32 (0 + l1)))] [] S C2 Q
    refine wp_aload_n (nx := 48) dX11_givesKept_47 rfl rfl ?_
    refine wp_getAe (kk := 2) (nx := 51) clsX11 dX11_givesKept_48 rfl kF_X11_28 (by decide) (fo_81 F) (ft_81 F) rfl (fp_81_2 F) ?_
    refine wp_iconst (nx := 52) dX11_givesKept_51 rfl (i32 (by decide)) ?_
    refine wp_iload_n (nx := 53) dX11_givesKept_52 rfl rfl ?_
    refine wp_iadd (nx := 54) dX11_givesKept_53 rfl ?_
    refine wp_iload_n (nx := 55) dX11_givesKept_54 rfl rfl ?_
    obtain ⟨hi, h⟩ := h
    refine wp_iastoreE (nx := 56) dX11_givesKept_55 rfl (fo_83 F) (fl_83 F) hi (ft_83 F) ?_
    refine wp_iload_n (nx := 57) dX11_givesKept_56 rfl rfl ?_
    refine wp_iconst (nx := 58) dX11_givesKept_57 rfl (i32 (by decide)) ?_
    refine wp_icmp_ne (nx := 61) (tg := 66) dX11_givesKept_58 rfl rfl (fun hc => ?_) (fun hc => ?_)
    · have h := h.1 hc
      refine wp_iload_n (nx := 67) dX11_givesKept_66 rfl rfl ?_
      exact wp_ireturn dX11_givesKept_67 rfl rfl rfl h
    · have h := h.2 hc
      refine wp_bipush (nx := 63) dX11_givesKept_61 rfl ⟨by decide, i32 (by decide)⟩ ?_
      refine wp_goto (nx := 67) dX11_givesKept_63 rfl ?_
      exact wp_ireturn dX11_givesKept_67 rfl rfl rfl h
  · have h := h.2 hc
    refine wp_bipush (nx := 41) dX11_givesKept_39 rfl ⟨by decide, i32 (by decide)⟩ ?_
    exact wp_ireturn dX11_givesKept_41 rfl rfl rfl h
theorem b_X11_shiftsKept_0 {d mc ms : Nat} {l1 : Int} {S : MS} {C : MC} {Q : Int → MS → MC → Prop} (F : Fix S) (h : ((l1 = 0 → Q (-1) S C) ∧ (¬ l1 = 0 → K_X11_lies_0 d 0 0 l1 (-7) 7 S C (fun r1 Sq C2 => Sq = S ∧ ((¬ r1 = 0 → K_X11_shiftsKept_19 (d + 1) mc ms l1 0 S C2 Q) ∧ (r1 = 0 → Q (-1) S C2)))))) : K_X11_shiftsKept_0 (d + 1) mc ms l1 S C Q := by
  show Wp (d + 1) mc ms M_X11_shiftsKept 0 [cA 81, cI l1, cU] [] S C Q
  refine wp_iload_n (nx := 1) dX11_shiftsKept_0 rfl rfl ?_
  refine wp_if_eq (nx := 4) (tg := 15) dX11_shiftsKept_1 rfl rfl (fun hc => ?_) (fun hc => ?_)
  · have h := h.1 hc
    refine wp_iconst (nx := 16) dX11_shiftsKept_15 rfl (i32 (by decide)) ?_
    exact wp_ireturn dX11_shiftsKept_16 rfl rfl rfl h
  · have h := h.2 hc
    refine wp_iload_n (nx := 5) dX11_shiftsKept_4 rfl rfl ?_
    refine wp_bipush (nx := 7) dX11_shiftsKept_5 rfl ⟨by decide, i32 (by decide)⟩ ?_
    refine wp_bipush (nx := 9) dX11_shiftsKept_7 rfl ⟨by decide, i32 (by decide)⟩ ?_
    refine wp_invS (nx := 12) (N := M_X11_lies) (as := [cI l1, cI (-7), cI 7]) (st := []) (mc := 0) (ms := 0) (mc' := mc) (ms' := ms) dX11_shiftsKept_9 rfl mok_X11_lies kM_X11_18 ks_X11_lies rfl rfl (leB rfl) (leB rfl) (z0 _) (z0 _) (Wp.mono h ?_)
    intro r1 Sq C2 h
    obtain ⟨e9, h⟩ := h
    rw [e9]
    show Wp (d + 1) mc ms M_X11_shiftsKept 12 [cA 81, cI l1, cU] [cI r1] S C2 Q
    refine wp_if_ne (nx := 15) (tg := 17) dX11_shiftsKept_12 rfl rfl (fun hc => ?_) (fun hc => ?_)
    · have h := h.1 hc
      refine wp_iconst (nx := 18) dX11_shiftsKept_17 rfl (i32 (by decide)) ?_
      refine wp_istore_n (nx := 19) dX11_shiftsKept_18 rfl (by decide) ?_
      refine wp_ls (ls2 := [cA 81, cI l1, cI 0]) rfl ?_
      exact h
    · have h := h.2 hc
      refine wp_iconst (nx := 16) dX11_shiftsKept_15 rfl (i32 (by decide)) ?_
      exact wp_ireturn dX11_shiftsKept_16 rfl rfl rfl h
theorem b_X11_shiftsKept_19 {d mc ms : Nat} {l1 l2 : Int} {S : MS} {C : MC} {Q : Int → MS → MC → Prop} (F : Fix S) (h : ((16 ≤ l2 → K_X11_keeps_0 d 0 0 2 S C (fun r1 Sq C2 => Sq = S ∧ K_X11_shiftsKept_54 (d + 1) mc ms l1 0 S C2 Q)) ∧ (¬ 16 ≤ l2 → K_X11_musicAt_0 d 0 0 l2 S C (fun r3 Sq C4 => Sq = S ∧ K_X11_shifted_0 d 0 0 r3 l1 S C4 (fun r5 Sq C6 => Sq = S ∧ ((¬ r5 = (-1) → K_X11_shiftsKept_19 (d + 1) mc ms l1 (w32 (l2 + 1)) S C6 Q) ∧ (r5 = (-1) → Q (-3) S C6))))))) : K_X11_shiftsKept_19 (d + 1) mc ms l1 l2 S C Q := by
  show Wp (d + 1) mc ms M_X11_shiftsKept 19 [cA 81, cI l1, cI l2] [] S C Q
  refine wp_iload_n (nx := 20) dX11_shiftsKept_19 rfl rfl ?_
  refine wp_bipush (nx := 22) dX11_shiftsKept_20 rfl ⟨by decide, i32 (by decide)⟩ ?_
  refine wp_icmp_ge (nx := 25) (tg := 47) dX11_shiftsKept_22 rfl rfl (fun hc => ?_) (fun hc => ?_)
  · have h := h.1 hc
    refine wp_aload_n (nx := 48) dX11_shiftsKept_47 rfl rfl ?_
    refine wp_iconst (nx := 49) dX11_shiftsKept_48 rfl (i32 (by decide)) ?_
    refine wp_invV (nx := 52) (N := M_X11_keeps) (as := [cI 2]) (st := []) (mc := 0) (ms := 0) (mc' := mc) (ms' := ms) (a := 81) clsX11 dX11_shiftsKept_49 rfl mok_X11_keeps kM_X11_399 ki_X11_keeps ke_X11_keeps (fo_81 F) (ft_81 F) rfl rfl (leB rfl) (leB rfl) (z0 _) (z0 _) (Wp.mono h ?_)
    intro r1 Sq C2 h
    obtain ⟨e9, h⟩ := h
    rw [e9]
    show Wp (d + 1) mc ms M_X11_shiftsKept 52 [cA 81, cI l1, cI l2] [] S C2 Q
    refine wp_iconst (nx := 53) dX11_shiftsKept_52 rfl (i32 (by decide)) ?_
    refine wp_istore_n (nx := 54) dX11_shiftsKept_53 rfl (by decide) ?_
    refine wp_ls (ls2 := [cA 81, cI l1, cI 0]) rfl ?_
    exact h
  · have h := h.2 hc
    refine wp_aload_n (nx := 26) dX11_shiftsKept_25 rfl rfl ?_
    refine wp_iload_n (nx := 27) dX11_shiftsKept_26 rfl rfl ?_
    refine wp_invV (nx := 30) (N := M_X11_musicAt) (as := [cI l2]) (st := []) (mc := 0) (ms := 0) (mc' := mc) (ms' := ms) (a := 81) clsX11 dX11_shiftsKept_27 rfl mok_X11_musicAt kM_X11_122 ki_X11_musicAt ke_X11_musicAt (fo_81 F) (ft_81 F) rfl rfl (leB rfl) (leB rfl) (z0 _) (z0 _) (Wp.mono h ?_)
    intro r3 Sq C4 h
    obtain ⟨e9, h⟩ := h
    rw [e9]
    show Wp (d + 1) mc ms M_X11_shiftsKept 30 [cA 81, cI l1, cI l2] [cI r3] S C4 Q
    refine wp_iload_n (nx := 31) dX11_shiftsKept_30 rfl rfl ?_
    refine wp_invS (nx := 34) (N := M_X11_shifted) (as := [cI r3, cI l1]) (st := []) (mc := 0) (ms := 0) (mc' := mc) (ms' := ms) dX11_shiftsKept_31 rfl mok_X11_shifted kM_X11_360 ks_X11_shifted rfl rfl (leB rfl) (leB rfl) (z0 _) (z0 _) (Wp.mono h ?_)
    intro r5 Sq C6 h
    obtain ⟨e9, h⟩ := h
    rw [e9]
    show Wp (d + 1) mc ms M_X11_shiftsKept 34 [cA 81, cI l1, cI l2] [cI r5] S C6 Q
    refine wp_iconst (nx := 35) dX11_shiftsKept_34 rfl (i32 (by decide)) ?_
    refine wp_icmp_ne (nx := 38) (tg := 41) dX11_shiftsKept_35 rfl rfl (fun hc => ?_) (fun hc => ?_)
    · have h := h.1 hc
      refine wp_iinc (nx := 44) dX11_shiftsKept_41 rfl rfl (by decide) ?_
      refine wp_ls (ls2 := [cA 81, cI l1, cI (w32 (l2 + 1))]) rfl ?_
      refine wp_goto (nx := 19) dX11_shiftsKept_44 rfl ?_
      exact h
    · have h := h.2 hc
      refine wp_bipush (nx := 40) dX11_shiftsKept_38 rfl ⟨by decide, i32 (by decide)⟩ ?_
      exact wp_ireturn dX11_shiftsKept_40 rfl rfl rfl h
theorem b_X11_shiftsKept_54 {d mc ms : Nat} {l1 l2 : Int} {S : MS} {C : MC} {Q : Int → MS → MC → Prop} (F : Fix S) (h : ((16 ≤ l2 → K_X11_notes0_0 d 0 0 S C (fun r1 Sq C2 => Sq = S ∧ Q r1 S C2)) ∧ (¬ 16 ≤ l2 → K_X11_musicAt_0 d 0 0 l2 S C (fun r3 Sq C4 => Sq = S ∧ K_X11_shifted_0 d 0 0 r3 l1 S C4 (fun r5 Sq C6 => Sq = S ∧ ((0 : Int) ≤ w32 (8 + l2) ∧ w32 (8 + l2) < 5656) ∧ K_X11_shiftsKept_54 (d + 1) mc ms l1 (w32 (l2 + 1)) S (upC C6 83 (w32 (8 + l2)) r5) Q))))) : K_X11_shiftsKept_54 (d + 1) mc ms l1 l2 S C Q := by
  show Wp (d + 1) mc ms M_X11_shiftsKept 54 [cA 81, cI l1, cI l2] [] S C Q
  refine wp_iload_n (nx := 55) dX11_shiftsKept_54 rfl rfl ?_
  refine wp_bipush (nx := 57) dX11_shiftsKept_55 rfl ⟨by decide, i32 (by decide)⟩ ?_
  refine wp_icmp_ge (nx := 60) (tg := 84) dX11_shiftsKept_57 rfl rfl (fun hc => ?_) (fun hc => ?_)
  · have h := h.1 hc
    refine wp_aload_n (nx := 85) dX11_shiftsKept_84 rfl rfl ?_
    refine wp_invV (nx := 88) (N := M_X11_notes0) (as := []) (st := []) (mc := 0) (ms := 0) (mc' := mc) (ms' := ms) (a := 81) clsX11 dX11_shiftsKept_85 rfl mok_X11_notes0 kM_X11_310 ki_X11_notes0 ke_X11_notes0 (fo_81 F) (ft_81 F) rfl rfl (leB rfl) (leB rfl) (z0 _) (z0 _) (Wp.mono h ?_)
    intro r1 Sq C2 h
    obtain ⟨e9, h⟩ := h
    rw [e9]
    show Wp (d + 1) mc ms M_X11_shiftsKept 88 [cA 81, cI l1, cI l2] [cI r1] S C2 Q
    exact wp_ireturn dX11_shiftsKept_88 rfl rfl rfl h
  · have h := h.2 hc
    refine wp_aload_n (nx := 61) dX11_shiftsKept_60 rfl rfl ?_
    refine wp_getAe (kk := 2) (nx := 64) clsX11 dX11_shiftsKept_61 rfl kF_X11_28 (by decide) (fo_81 F) (ft_81 F) rfl (fp_81_2 F) ?_
    refine wp_bipush (nx := 66) dX11_shiftsKept_64 rfl ⟨by decide, i32 (by decide)⟩ ?_
    refine wp_iload_n (nx := 67) dX11_shiftsKept_66 rfl rfl ?_
    refine wp_iadd (nx := 68) dX11_shiftsKept_67 rfl ?_
    refine wp_aload_n (nx := 69) dX11_shiftsKept_68 rfl rfl ?_
    refine wp_iload_n (nx := 70) dX11_shiftsKept_69 rfl rfl ?_
    refine wp_invV (nx := 73) (N := M_X11_musicAt) (as := [cI l2]) (st := [cI (w32 (8 + l2)), cA 83]) (mc := 0) (ms := 0) (mc' := mc) (ms' := ms) (a := 81) clsX11 dX11_shiftsKept_70 rfl mok_X11_musicAt kM_X11_122 ki_X11_musicAt ke_X11_musicAt (fo_81 F) (ft_81 F) rfl rfl (leB rfl) (leB rfl) (z0 _) (z0 _) (Wp.mono h ?_)
    intro r3 Sq C4 h
    obtain ⟨e9, h⟩ := h
    rw [e9]
    show Wp (d + 1) mc ms M_X11_shiftsKept 73 [cA 81, cI l1, cI l2] [cI r3, cI (w32 (8 + l2)), cA 83] S C4 Q
    refine wp_iload_n (nx := 74) dX11_shiftsKept_73 rfl rfl ?_
    refine wp_invS (nx := 77) (N := M_X11_shifted) (as := [cI r3, cI l1]) (st := [cI (w32 (8 + l2)), cA 83]) (mc := 0) (ms := 0) (mc' := mc) (ms' := ms) dX11_shiftsKept_74 rfl mok_X11_shifted kM_X11_360 ks_X11_shifted rfl rfl (leB rfl) (leB rfl) (z0 _) (z0 _) (Wp.mono h ?_)
    intro r5 Sq C6 h
    obtain ⟨e9, h⟩ := h
    rw [e9]
    show Wp (d + 1) mc ms M_X11_shiftsKept 77 [cA 81, cI l1, cI l2] [cI r5, cI (w32 (8 + l2)), cA 83] S C6 Q
    obtain ⟨hi, h⟩ := h
    refine wp_iastoreE (nx := 78) dX11_shiftsKept_77 rfl (fo_83 F) (fl_83 F) hi (ft_83 F) ?_
    refine wp_iinc (nx := 81) dX11_shiftsKept_78 rfl rfl (by decide) ?_
    refine wp_ls (ls2 := [cA 81, cI l1, cI (w32 (l2 + 1))]) rfl ?_
    refine wp_goto (nx := 54) dX11_shiftsKept_81 rfl ?_
    exact h
theorem b_X11_passesKept_0 {d mc ms : Nat} {S : MS} {C : MC} {Q : Int → MS → MC → Prop} (F : Fix S) (h : ((¬ C 83 24 = 999 → K_X11_keeps_0 d 0 0 3 S C (fun r1 Sq C2 => Sq = S ∧ Q (w32 ((C2 83 24) + 1)) S (upC C2 83 24 (w32 ((C2 83 24) + 1))))) ∧ (C 83 24 = 999 → Q (-3) S C))) : K_X11_passesKept_0 (d + 1) mc ms S C Q := by
  show Wp (d + 1) mc ms M_X11_passesKept 0 [cA 81] [] S C Q
  refine wp_aload_n (nx := 1) dX11_passesKept_0 rfl rfl ?_
  refine wp_getAe (kk := 2) (nx := 4) clsX11 dX11_passesKept_1 rfl kF_X11_28 (by decide) (fo_81 F) (ft_81 F) rfl (fp_81_2 F) ?_
  refine wp_bipush (nx := 6) dX11_passesKept_4 rfl ⟨by decide, i32 (by decide)⟩ ?_
  refine wp_ialoadE (nx := 7) dX11_passesKept_6 rfl (fo_83 F) (fl_83 F) (by decide) (ft_83 F) rfl ?_
  refine wp_sipush (nx := 10) dX11_passesKept_7 rfl ⟨by decide, i32 (by decide)⟩ ?_
  refine wp_icmp_ne (nx := 13) (tg := 16) dX11_passesKept_10 rfl rfl (fun hc => ?_) (fun hc => ?_)
  · have h := h.1 hc
    refine wp_aload_n (nx := 17) dX11_passesKept_16 rfl rfl ?_
    refine wp_iconst (nx := 18) dX11_passesKept_17 rfl (i32 (by decide)) ?_
    refine wp_invV (nx := 21) (N := M_X11_keeps) (as := [cI 3]) (st := []) (mc := 0) (ms := 0) (mc' := mc) (ms' := ms) (a := 81) clsX11 dX11_passesKept_18 rfl mok_X11_keeps kM_X11_399 ki_X11_keeps ke_X11_keeps (fo_81 F) (ft_81 F) rfl rfl (leB rfl) (leB rfl) (z0 _) (z0 _) (Wp.mono h ?_)
    intro r1 Sq C2 h
    obtain ⟨e9, h⟩ := h
    rw [e9]
    show Wp (d + 1) mc ms M_X11_passesKept 21 [cA 81] [] S C2 Q
    refine wp_aload_n (nx := 22) dX11_passesKept_21 rfl rfl ?_
    refine wp_getAe (kk := 2) (nx := 25) clsX11 dX11_passesKept_22 rfl kF_X11_28 (by decide) (fo_81 F) (ft_81 F) rfl (fp_81_2 F) ?_
    refine wp_bipush (nx := 27) dX11_passesKept_25 rfl ⟨by decide, i32 (by decide)⟩ ?_
    refine wp_dup2 (nx := 28) dX11_passesKept_27 rfl (k1I _) (k1A _) ?_
    refine wp_ialoadE (nx := 29) dX11_passesKept_28 rfl (fo_83 F) (fl_83 F) (by decide) (ft_83 F) rfl ?_
    refine wp_iconst (nx := 30) dX11_passesKept_29 rfl (i32 (by decide)) ?_
    refine wp_iadd (nx := 31) dX11_passesKept_30 rfl ?_
    refine wp_iastoreE (nx := 32) dX11_passesKept_31 rfl (fo_83 F) (fl_83 F) (by decide) (ft_83 F) ?_
    refine wp_aload_n (nx := 33) dX11_passesKept_32 rfl rfl ?_
    refine wp_getAe (kk := 2) (nx := 36) clsX11 dX11_passesKept_33 rfl kF_X11_28 (by decide) (fo_81 F) (ft_81 F) rfl (fp_81_2 F) ?_
    refine wp_bipush (nx := 38) dX11_passesKept_36 rfl ⟨by decide, i32 (by decide)⟩ ?_
    refine wp_ialoadE (nx := 39) dX11_passesKept_38 rfl (fo_83 F) (fl_83 F) (by decide) (ft_83 F) upC_h ?_
    exact wp_ireturn dX11_passesKept_39 rfl rfl rfl h
  · have h := h.2 hc
    refine wp_bipush (nx := 15) dX11_passesKept_13 rfl ⟨by decide, i32 (by decide)⟩ ?_
    exact wp_ireturn dX11_passesKept_15 rfl rfl rfl h
theorem b_X11_note_0 {d mc ms : Nat} {l1 l2 : Int} {S : MS} {C : MC} {Q : Int → MS → MC → Prop} (F : Fix S) (h : K_X11_notesKept_0 d 0 0 l1 l2 S C (fun r1 Sq C2 => Sq = S ∧ K_X11_goodOr_0 d 0 0 r1 S C2 (fun r3 Sq C4 => Sq = S ∧ Q r3 S C4))) : K_X11_note_0 (d + 1) mc ms l1 l2 S C Q := by
  show Wp (d + 1) mc ms M_X11_note 0 [cA 81, cI l1, cI l2] [] S C Q
  refine wp_aload_n (nx := 1) dX11_note_0 rfl rfl ?_
  refine wp_aload_n (nx := 2) dX11_note_1 rfl rfl ?_
  refine wp_iload_n (nx := 3) dX11_note_2 rfl rfl ?_
  refine wp_iload_n (nx := 4) dX11_note_3 rfl rfl ?_
  refine wp_invV (nx := 7) (N := M_X11_notesKept) (as := [cI l1, cI l2]) (st := [cA 81]) (mc := 0) (ms := 0) (mc' := mc) (ms' := ms) (a := 81) clsX11 dX11_note_4 rfl mok_X11_notesKept kM_X11_402 ki_X11_notesKept ke_X11_notesKept (fo_81 F) (ft_81 F) rfl rfl (leB rfl) (leB rfl) (z0 _) (z0 _) (Wp.mono h ?_)
  intro r1 Sq C2 h
  obtain ⟨e9, h⟩ := h
  rw [e9]
  show Wp (d + 1) mc ms M_X11_note 7 [cA 81, cI l1, cI l2] [cI r1, cA 81] S C2 Q
  refine wp_invV (nx := 10) (N := M_X11_goodOr) (as := [cI r1]) (st := []) (mc := 0) (ms := 0) (mc' := mc) (ms' := ms) (a := 81) clsX11 dX11_note_7 rfl mok_X11_goodOr kM_X11_405 ki_X11_goodOr ke_X11_goodOr (fo_81 F) (ft_81 F) rfl rfl (leB rfl) (leB rfl) (z0 _) (z0 _) (Wp.mono h ?_)
  intro r3 Sq C4 h
  obtain ⟨e9, h⟩ := h
  rw [e9]
  show Wp (d + 1) mc ms M_X11_note 10 [cA 81, cI l1, cI l2] [cI r3] S C4 Q
  exact wp_ireturn dX11_note_10 rfl rfl rfl h
theorem b_X11_give_0 {d mc ms : Nat} {l1 l2 : Int} {S : MS} {C : MC} {Q : Int → MS → MC → Prop} (F : Fix S) (h : K_X11_givesKept_0 d 0 0 l1 l2 S C (fun r1 Sq C2 => Sq = S ∧ K_X11_goodOr_0 d 0 0 r1 S C2 (fun r3 Sq C4 => Sq = S ∧ Q r3 S C4))) : K_X11_give_0 (d + 1) mc ms l1 l2 S C Q := by
  show Wp (d + 1) mc ms M_X11_give 0 [cA 81, cI l1, cI l2] [] S C Q
  refine wp_aload_n (nx := 1) dX11_give_0 rfl rfl ?_
  refine wp_aload_n (nx := 2) dX11_give_1 rfl rfl ?_
  refine wp_iload_n (nx := 3) dX11_give_2 rfl rfl ?_
  refine wp_iload_n (nx := 4) dX11_give_3 rfl rfl ?_
  refine wp_invV (nx := 7) (N := M_X11_givesKept) (as := [cI l1, cI l2]) (st := [cA 81]) (mc := 0) (ms := 0) (mc' := mc) (ms' := ms) (a := 81) clsX11 dX11_give_4 rfl mok_X11_givesKept kM_X11_408 ki_X11_givesKept ke_X11_givesKept (fo_81 F) (ft_81 F) rfl rfl (leB rfl) (leB rfl) (z0 _) (z0 _) (Wp.mono h ?_)
  intro r1 Sq C2 h
  obtain ⟨e9, h⟩ := h
  rw [e9]
  show Wp (d + 1) mc ms M_X11_give 7 [cA 81, cI l1, cI l2] [cI r1, cA 81] S C2 Q
  refine wp_invV (nx := 10) (N := M_X11_goodOr) (as := [cI r1]) (st := []) (mc := 0) (ms := 0) (mc' := mc) (ms' := ms) (a := 81) clsX11 dX11_give_7 rfl mok_X11_goodOr kM_X11_405 ki_X11_goodOr ke_X11_goodOr (fo_81 F) (ft_81 F) rfl rfl (leB rfl) (leB rfl) (z0 _) (z0 _) (Wp.mono h ?_)
  intro r3 Sq C4 h
  obtain ⟨e9, h⟩ := h
  rw [e9]
  show Wp (d + 1) mc ms M_X11_give 10 [cA 81, cI l1, cI l2] [cI r3] S C4 Q
  exact wp_ireturn dX11_give_10 rfl rfl rfl h
theorem b_X11_shift_0 {d mc ms : Nat} {l1 : Int} {S : MS} {C : MC} {Q : Int → MS → MC → Prop} (F : Fix S) (h : K_X11_shiftsKept_0 d 0 0 l1 S C (fun r1 Sq C2 => Sq = S ∧ K_X11_goodOr_0 d 0 0 r1 S C2 (fun r3 Sq C4 => Sq = S ∧ Q r3 S C4))) : K_X11_shift_0 (d + 1) mc ms l1 S C Q := by
  show Wp (d + 1) mc ms M_X11_shift 0 [cA 81, cI l1] [] S C Q
  refine wp_aload_n (nx := 1) dX11_shift_0 rfl rfl ?_
  refine wp_aload_n (nx := 2) dX11_shift_1 rfl rfl ?_
  refine wp_iload_n (nx := 3) dX11_shift_2 rfl rfl ?_
  refine wp_invV (nx := 6) (N := M_X11_shiftsKept) (as := [cI l1]) (st := [cA 81]) (mc := 0) (ms := 0) (mc' := mc) (ms' := ms) (a := 81) clsX11 dX11_shift_3 rfl mok_X11_shiftsKept kM_X11_411 ki_X11_shiftsKept ke_X11_shiftsKept (fo_81 F) (ft_81 F) rfl rfl (leB rfl) (leB rfl) (z0 _) (z0 _) (Wp.mono h ?_)
  intro r1 Sq C2 h
  obtain ⟨e9, h⟩ := h
  rw [e9]
  show Wp (d + 1) mc ms M_X11_shift 6 [cA 81, cI l1] [cI r1, cA 81] S C2 Q
  refine wp_invV (nx := 9) (N := M_X11_goodOr) (as := [cI r1]) (st := []) (mc := 0) (ms := 0) (mc' := mc) (ms' := ms) (a := 81) clsX11 dX11_shift_6 rfl mok_X11_goodOr kM_X11_405 ki_X11_goodOr ke_X11_goodOr (fo_81 F) (ft_81 F) rfl rfl (leB rfl) (leB rfl) (z0 _) (z0 _) (Wp.mono h ?_)
  intro r3 Sq C4 h
  obtain ⟨e9, h⟩ := h
  rw [e9]
  show Wp (d + 1) mc ms M_X11_shift 9 [cA 81, cI l1] [cI r3] S C4 Q
  exact wp_ireturn dX11_shift_9 rfl rfl rfl h
theorem b_X11_pass_0 {d mc ms : Nat} {S : MS} {C : MC} {Q : Int → MS → MC → Prop} (F : Fix S) (h : K_X11_passesKept_0 d 0 0 S C (fun r1 Sq C2 => Sq = S ∧ K_X11_goodOr_0 d 0 0 r1 S C2 (fun r3 Sq C4 => Sq = S ∧ Q r3 S C4))) : K_X11_pass_0 (d + 1) mc ms S C Q := by
  show Wp (d + 1) mc ms M_X11_pass 0 [cA 81] [] S C Q
  refine wp_aload_n (nx := 1) dX11_pass_0 rfl rfl ?_
  refine wp_aload_n (nx := 2) dX11_pass_1 rfl rfl ?_
  refine wp_invV (nx := 5) (N := M_X11_passesKept) (as := []) (st := [cA 81]) (mc := 0) (ms := 0) (mc' := mc) (ms' := ms) (a := 81) clsX11 dX11_pass_2 rfl mok_X11_passesKept kM_X11_414 ki_X11_passesKept ke_X11_passesKept (fo_81 F) (ft_81 F) rfl rfl (leB rfl) (leB rfl) (z0 _) (z0 _) (Wp.mono h ?_)
  intro r1 Sq C2 h
  obtain ⟨e9, h⟩ := h
  rw [e9]
  show Wp (d + 1) mc ms M_X11_pass 5 [cA 81] [cI r1, cA 81] S C2 Q
  refine wp_invV (nx := 8) (N := M_X11_goodOr) (as := [cI r1]) (st := []) (mc := 0) (ms := 0) (mc' := mc) (ms' := ms) (a := 81) clsX11 dX11_pass_5 rfl mok_X11_goodOr kM_X11_405 ki_X11_goodOr ke_X11_goodOr (fo_81 F) (ft_81 F) rfl rfl (leB rfl) (leB rfl) (z0 _) (z0 _) (Wp.mono h ?_)
  intro r3 Sq C4 h
  obtain ⟨e9, h⟩ := h
  rw [e9]
  show Wp (d + 1) mc ms M_X11_pass 8 [cA 81] [cI r3] S C4 Q
  exact wp_ireturn dX11_pass_8 rfl rfl rfl h
theorem b_X11_stopped_0 {d mc ms : Nat} {S : MS} {C : MC} {Q : Int → MS → MC → Prop} (F : Fix S) (h : Q (C 81 43) S C) : K_X11_stopped_0 d mc ms S C Q := by
  show Wp d mc ms M_X11_stopped 0 [cA 81] [] S C Q
  refine wp_aload_n (nx := 1) dX11_stopped_0 rfl rfl ?_
  refine wp_getIe (kk := 43) 43 (nx := 4) clsX11 dX11_stopped_1 rfl kF_X11_103 (by decide) (fo_81 F) (ft_81 F) rfl rfl rfl ?_
  exact wp_ireturn dX11_stopped_4 rfl rfl rfl h
theorem b_X11_orders_0 {d mc ms : Nat} {S : MS} {C : MC} {Q : Int → MS → MC → Prop} (F : Fix S) (h : K_X11_readsAs_0 d 0 0 1 S ((upC C 81 43 (-1))) (fun r1 Sq C2 => Sq = S ∧ ((¬ r1 = 0 → K_X11_laysAside_0 d 0 0 1 S C2 (fun r3 Sq C4 => Sq = S ∧ K_X11_orders_27 (d + 1) mc ms 0 S C4 Q)) ∧ (r1 = 0 → K_X11_refuses_0 d 0 0 (-6) S C2 (fun r5 Sq C6 => Sq = S ∧ Q r5 S C6))))) : K_X11_orders_0 (d + 1) mc ms S C Q := by
  show Wp (d + 1) mc ms M_X11_orders 0 [cA 81, cU, cU, cU, cU] [] S C Q
  refine wp_aload_n (nx := 1) dX11_orders_0 rfl rfl ?_
  refine wp_iconst (nx := 2) dX11_orders_1 rfl (i32 (by decide)) ?_
  refine wp_putIe (kk := 43) 43 (nx := 5) clsX11 dX11_orders_2 rfl kF_X11_103 (by decide) (fo_81 F) (ft_81 F) rfl rfl ⟨rfl, rfl⟩ rfl ?_
  refine wp_aload_n (nx := 6) dX11_orders_5 rfl rfl ?_
  refine wp_iconst (nx := 7) dX11_orders_6 rfl (i32 (by decide)) ?_
  refine wp_invV (nx := 10) (N := M_X11_readsAs) (as := [cI 1]) (st := []) (mc := 0) (ms := 0) (mc' := mc) (ms' := ms) (a := 81) clsX11 dX11_orders_7 rfl mok_X11_readsAs kM_X11_252 ki_X11_readsAs ke_X11_readsAs (fo_81 F) (ft_81 F) rfl rfl (leB rfl) (leB rfl) (z0 _) (z0 _) (Wp.mono h ?_)
  intro r1 Sq C2 h
  obtain ⟨e9, h⟩ := h
  rw [e9]
  show Wp (d + 1) mc ms M_X11_orders 10 [cA 81, cU, cU, cU, cU] [cI r1] S C2 Q
  refine wp_if_ne (nx := 13) (tg := 20) dX11_orders_10 rfl rfl (fun hc => ?_) (fun hc => ?_)
  · have h := h.1 hc
    refine wp_aload_n (nx := 21) dX11_orders_20 rfl rfl ?_
    refine wp_iconst (nx := 22) dX11_orders_21 rfl (i32 (by decide)) ?_
    refine wp_invV (nx := 25) (N := M_X11_laysAside) (as := [cI 1]) (st := []) (mc := 0) (ms := 0) (mc' := mc) (ms' := ms) (a := 81) clsX11 dX11_orders_22 rfl mok_X11_laysAside kM_X11_417 ki_X11_laysAside ke_X11_laysAside (fo_81 F) (ft_81 F) rfl rfl (leB rfl) (leB rfl) (z0 _) (z0 _) (Wp.mono h ?_)
    intro r3 Sq C4 h
    obtain ⟨e9, h⟩ := h
    rw [e9]
    show Wp (d + 1) mc ms M_X11_orders 25 [cA 81, cU, cU, cU, cU] [] S C4 Q
    refine wp_iconst (nx := 26) dX11_orders_25 rfl (i32 (by decide)) ?_
    refine wp_istore_n (nx := 27) dX11_orders_26 rfl (by decide) ?_
    refine wp_ls (ls2 := [cA 81, cI 0, cU, cU, cU]) rfl ?_
    exact h
  · have h := h.2 hc
    refine wp_aload_n (nx := 14) dX11_orders_13 rfl rfl ?_
    refine wp_bipush (nx := 16) dX11_orders_14 rfl ⟨by decide, i32 (by decide)⟩ ?_
    refine wp_invV (nx := 19) (N := M_X11_refuses) (as := [cI (-6)]) (st := []) (mc := 0) (ms := 0) (mc' := mc) (ms' := ms) (a := 81) clsX11 dX11_orders_16 rfl mok_X11_refuses kM_X11_112 ki_X11_refuses ke_X11_refuses (fo_81 F) (ft_81 F) rfl rfl (leB rfl) (leB rfl) (z0 _) (z0 _) (Wp.mono h ?_)
    intro r5 Sq C6 h
    obtain ⟨e9, h⟩ := h
    rw [e9]
    show Wp (d + 1) mc ms M_X11_orders 19 [cA 81, cU, cU, cU, cU] [cI r5] S C6 Q
    exact wp_ireturn dX11_orders_19 rfl rfl rfl h
theorem b_X11_orders_27 {d mc ms : Nat} {l1 : Int} {S : MS} {C : MC} {Q : Int → MS → MC → Prop} (F : Fix S) (h : ((416 ≤ l1 → K_X11_lays_0 d 0 0 6 S C (fun r1 Sq C2 => Sq = S ∧ K_X11_orders_95 (d + 1) mc ms (C 81 42) (w32 (2400 + (C2 83 55))) 0 S (upC (upC (upC C2 81 27 0) 81 28 (-1)) 81 44 2400) Q)) ∧ (¬ 416 ≤ l1 → ((0 : Int) ≤ l1 ∧ l1 < 416) ∧ ((0 : Int) ≤ l1 ∧ l1 < 416) ∧ K_X11_orders_27 (d + 1) mc ms (w32 (l1 + 1)) S (upC C 105 l1 (C 104 l1)) Q))) : K_X11_orders_27 (d + 1) mc ms l1 S C Q := by
  show Wp (d + 1) mc ms M_X11_orders 27 [cA 81, cI l1, cU, cU, cU] [] S C Q
  refine wp_iload_n (nx := 28) dX11_orders_27 rfl rfl ?_
  refine wp_sipush (nx := 31) dX11_orders_28 rfl ⟨by decide, i32 (by decide)⟩ ?_
  refine wp_icmp_ge (nx := 34) (tg := 52) dX11_orders_31 rfl rfl (fun hc => ?_) (fun hc => ?_)
  · have h := h.1 hc
    refine wp_aload_n (nx := 53) dX11_orders_52 rfl rfl ?_
    refine wp_getIe (kk := 42) 42 (nx := 56) clsX11 dX11_orders_53 rfl kF_X11_11 (by decide) (fo_81 F) (ft_81 F) rfl rfl rfl ?_
    refine wp_istore_n (nx := 57) dX11_orders_56 rfl (by decide) ?_
    refine wp_ls (ls2 := [cA 81, cI (C 81 42), cU, cU, cU]) rfl ?_
    refine wp_aload_n (nx := 58) dX11_orders_57 rfl rfl ?_
    refine wp_bipush (nx := 60) dX11_orders_58 rfl ⟨by decide, i32 (by decide)⟩ ?_
    refine wp_invV (nx := 63) (N := M_X11_lays) (as := [cI 6]) (st := []) (mc := 0) (ms := 0) (mc' := mc) (ms' := ms) (a := 81) clsX11 dX11_orders_60 rfl mok_X11_lays kM_X11_256 ki_X11_lays ke_X11_lays (fo_81 F) (ft_81 F) rfl rfl (leB rfl) (leB rfl) (z0 _) (z0 _) (Wp.mono h ?_)
    intro r1 Sq C2 h
    obtain ⟨e9, h⟩ := h
    rw [e9]
    show Wp (d + 1) mc ms M_X11_orders 63 [cA 81, cI (C 81 42), cU, cU, cU] [] S C2 Q
    refine wp_aload_n (nx := 64) dX11_orders_63 rfl rfl ?_
    refine wp_iconst (nx := 65) dX11_orders_64 rfl (i32 (by decide)) ?_
    refine wp_putIe (kk := 27) 27 (nx := 68) clsX11 dX11_orders_65 rfl kF_X11_301 (by decide) (fo_81 F) (ft_81 F) rfl rfl ⟨rfl, rfl⟩ rfl ?_
    refine wp_aload_n (nx := 69) dX11_orders_68 rfl rfl ?_
    refine wp_iconst (nx := 70) dX11_orders_69 rfl (i32 (by decide)) ?_
    refine wp_putIe (kk := 28) 28 (nx := 73) clsX11 dX11_orders_70 rfl kF_X11_304 (by decide) (fo_81 F) (ft_81 F) rfl rfl ⟨rfl, rfl⟩ rfl ?_
    refine wp_aload_n (nx := 74) dX11_orders_73 rfl rfl ?_
    refine wp_sipush (nx := 77) dX11_orders_74 rfl ⟨by decide, i32 (by decide)⟩ ?_
    refine wp_putIe (kk := 44) 44 (nx := 80) clsX11 dX11_orders_77 rfl kF_X11_420 (by decide) (fo_81 F) (ft_81 F) rfl rfl ⟨rfl, rfl⟩ rfl ?_
    refine wp_aload_n (nx := 81) dX11_orders_80 rfl rfl ?_
    refine wp_getIe (kk := 44) 44 (nx := 84) clsX11 dX11_orders_81 rfl kF_X11_420 (by decide) (fo_81 F) (ft_81 F) rfl rfl upC_h ?_
    refine wp_aload_n (nx := 85) dX11_orders_84 rfl rfl ?_
    refine wp_getAe (kk := 2) (nx := 88) clsX11 dX11_orders_85 rfl kF_X11_28 (by decide) (fo_81 F) (ft_81 F) rfl (fp_81_2 F) ?_
    refine wp_bipush (nx := 90) dX11_orders_88 rfl ⟨by decide, i32 (by decide)⟩ ?_
    refine wp_ialoadE (nx := 91) dX11_orders_90 rfl (fo_83 F) (fl_83 F) (by decide) (ft_83 F) ((upC_sA (by decide)).trans ((upC_sA (by decide)).trans (upC_sA (by decide)))) ?_
    refine wp_iadd (nx := 92) dX11_orders_91 rfl ?_
    refine wp_istore_n (nx := 93) dX11_orders_92 rfl (by decide) ?_
    refine wp_ls (ls2 := [cA 81, cI (C 81 42), cI (w32 (2400 + (C2 83 55))), cU, cU]) rfl ?_
    refine wp_iconst (nx := 94) dX11_orders_93 rfl (i32 (by decide)) ?_
    refine wp_istore_n (nx := 95) dX11_orders_94 rfl (by decide) ?_
    refine wp_ls (ls2 := [cA 81, cI (C 81 42), cI (w32 (2400 + (C2 83 55))), cI 0, cU]) rfl ?_
    exact h
  · have h := h.2 hc
    refine wp_aload_n (nx := 35) dX11_orders_34 rfl rfl ?_
    refine wp_getAe (kk := 41) (nx := 38) clsX11 dX11_orders_35 rfl kF_X11_100 (by decide) (fo_81 F) (ft_81 F) rfl (fp_81_41 F) ?_
    refine wp_iload_n (nx := 39) dX11_orders_38 rfl rfl ?_
    refine wp_aload_n (nx := 40) dX11_orders_39 rfl rfl ?_
    refine wp_getAe (kk := 40) (nx := 43) clsX11 dX11_orders_40 rfl kF_X11_97 (by decide) (fo_81 F) (ft_81 F) rfl (fp_81_40 F) ?_
    refine wp_iload_n (nx := 44) dX11_orders_43 rfl rfl ?_
    obtain ⟨hi, h⟩ := h
    refine wp_ialoadE (nx := 45) dX11_orders_44 rfl (fo_104 F) (fl_104 F) hi (ft_104 F) rfl ?_
    obtain ⟨hi, h⟩ := h
    refine wp_iastoreE (nx := 46) dX11_orders_45 rfl (fo_105 F) (fl_105 F) hi (ft_105 F) ?_
    refine wp_iinc (nx := 49) dX11_orders_46 rfl rfl (by decide) ?_
    refine wp_ls (ls2 := [cA 81, cI (w32 (l1 + 1)), cU, cU, cU]) rfl ?_
    refine wp_goto (nx := 27) dX11_orders_49 rfl ?_
    exact h
theorem b_X11_orders_95 {d mc ms : Nat} {l1 l2 l3 : Int} {S : MS} {C : MC} {Q : Int → MS → MC → Prop} (F : Fix S) (h : ((l2 ≤ C 81 44 → K_X11_good_0 d 0 0 (C 81 27) S C (fun r1 Sq C2 => Sq = S ∧ Q r1 S C2)) ∧ (¬ l2 ≤ C 81 44 → K_X11_runs_0 d 0 0 l2 S C (fun r3 Sq C4 => Sq = S ∧ ((r3 = 0 → K_X11_takesBack_0 d 0 0 1 S C4 (fun r5 Sq C6 => Sq = S ∧ K_X11_orders_122 (d + 1) mc ms l1 l3 0 S C6 Q)) ∧ (¬ r3 = 0 → K_X11_orders_95 (d + 1) mc ms l1 l2 (w32 (l3 + 1)) S C4 Q)))))) : K_X11_orders_95 (d + 1) mc ms l1 l2 l3 S C Q := by
  show Wp (d + 1) mc ms M_X11_orders 95 [cA 81, cI l1, cI l2, cI l3, cU] [] S C Q
  refine wp_aload_n (nx := 96) dX11_orders_95 rfl rfl ?_
  refine wp_getIe (kk := 44) 44 (nx := 99) clsX11 dX11_orders_96 rfl kF_X11_420 (by decide) (fo_81 F) (ft_81 F) rfl rfl rfl ?_
  refine wp_iload_n (nx := 100) dX11_orders_99 rfl rfl ?_
  refine wp_icmp_ge (nx := 103) (tg := 173) dX11_orders_100 rfl rfl (fun hc => ?_) (fun hc => ?_)
  · have h := h.1 hc
    refine wp_aload_n (nx := 174) dX11_orders_173 rfl rfl ?_
    refine wp_aload_n (nx := 175) dX11_orders_174 rfl rfl ?_
    refine wp_getIe (kk := 27) 27 (nx := 178) clsX11 dX11_orders_175 rfl kF_X11_301 (by decide) (fo_81 F) (ft_81 F) rfl rfl rfl ?_
    refine wp_invV (nx := 181) (N := M_X11_good) (as := [cI (C 81 27)]) (st := []) (mc := 0) (ms := 0) (mc' := mc) (ms' := ms) (a := 81) clsX11 dX11_orders_178 rfl mok_X11_good kM_X11_14 ki_X11_good ke_X11_good (fo_81 F) (ft_81 F) rfl rfl (leB rfl) (leB rfl) (z0 _) (z0 _) (Wp.mono h ?_)
    intro r1 Sq C2 h
    obtain ⟨e9, h⟩ := h
    rw [e9]
    show Wp (d + 1) mc ms M_X11_orders 181 [cA 81, cI l1, cI l2, cI l3, cU] [cI r1] S C2 Q
    exact wp_ireturn dX11_orders_181 rfl rfl rfl h
  · have h := h.2 hc
    refine wp_aload_n (nx := 104) dX11_orders_103 rfl rfl ?_
    refine wp_iload_n (nx := 105) dX11_orders_104 rfl rfl ?_
    refine wp_invV (nx := 108) (N := M_X11_runs) (as := [cI l2]) (st := []) (mc := 0) (ms := 0) (mc' := mc) (ms' := ms) (a := 81) clsX11 dX11_orders_105 rfl mok_X11_runs kM_X11_423 ki_X11_runs ke_X11_runs (fo_81 F) (ft_81 F) rfl rfl (leB rfl) (leB rfl) (z0 _) (z0 _) (Wp.mono h ?_)
    intro r3 Sq C4 h
    obtain ⟨e9, h⟩ := h
    rw [e9]
    show Wp (d + 1) mc ms M_X11_orders 108 [cA 81, cI l1, cI l2, cI l3, cU] [cI r3] S C4 Q
    refine wp_if_eq (nx := 111) (tg := 114) dX11_orders_108 rfl rfl (fun hc => ?_) (fun hc => ?_)
    · have h := h.1 hc
      refine wp_aload_n (nx := 115) dX11_orders_114 rfl rfl ?_
      refine wp_iconst (nx := 116) dX11_orders_115 rfl (i32 (by decide)) ?_
      refine wp_invV (nx := 119) (N := M_X11_takesBack) (as := [cI 1]) (st := []) (mc := 0) (ms := 0) (mc' := mc) (ms' := ms) (a := 81) clsX11 dX11_orders_116 rfl mok_X11_takesBack kM_X11_426 ki_X11_takesBack ke_X11_takesBack (fo_81 F) (ft_81 F) rfl rfl (leB rfl) (leB rfl) (z0 _) (z0 _) (Wp.mono h ?_)
      intro r5 Sq C6 h
      obtain ⟨e9, h⟩ := h
      rw [e9]
      show Wp (d + 1) mc ms M_X11_orders 119 [cA 81, cI l1, cI l2, cI l3, cU] [] S C6 Q
      refine wp_iconst (nx := 120) dX11_orders_119 rfl (i32 (by decide)) ?_
      refine wp_istore (nx := 122) dX11_orders_120 rfl (by decide) ?_
      refine wp_ls (ls2 := [cA 81, cI l1, cI l2, cI l3, cI 0]) rfl ?_
      refine wp_fg [true, true, false, true, true] (ls2 := [cA 81, cI l1, cU, cI l3, cI 0]) rfl ?_
      exact h
    · have h := h.2 hc
      refine wp_goto (nx := 167) dX11_orders_111 rfl ?_
      refine wp_iinc (nx := 170) dX11_orders_167 rfl rfl (by decide) ?_
      refine wp_ls (ls2 := [cA 81, cI l1, cI l2, cI (w32 (l3 + 1)), cU]) rfl ?_
      refine wp_goto (nx := 95) dX11_orders_170 rfl ?_
      exact h
theorem b_X11_orders_122 {d mc ms : Nat} {l1 l3 l4 : Int} {S : MS} {C : MC} {Q : Int → MS → MC → Prop} (F : Fix S) (h : ((416 ≤ l4 → K_X11_refuses_0 d 0 0 (-3) S ((upC (upC C 81 42 l1) 81 43 l3)) (fun r1 Sq C2 => Sq = S ∧ Q r1 S C2)) ∧ (¬ 416 ≤ l4 → ((0 : Int) ≤ l4 ∧ l4 < 416) ∧ ((0 : Int) ≤ l4 ∧ l4 < 416) ∧ K_X11_orders_122 (d + 1) mc ms l1 l3 (w32 (l4 + 1)) S (upC C 104 l4 (C 105 l4)) Q))) : K_X11_orders_122 (d + 1) mc ms l1 l3 l4 S C Q := by
  show Wp (d + 1) mc ms M_X11_orders 122 [cA 81, cI l1, cU, cI l3, cI l4] [] S C Q
  refine wp_iload (nx := 124) dX11_orders_122 rfl rfl ?_
  refine wp_sipush (nx := 127) dX11_orders_124 rfl ⟨by decide, i32 (by decide)⟩ ?_
  refine wp_icmp_ge (nx := 130) (tg := 150) dX11_orders_127 rfl rfl (fun hc => ?_) (fun hc => ?_)
  · have h := h.1 hc
    refine wp_aload_n (nx := 151) dX11_orders_150 rfl rfl ?_
    refine wp_iload_n (nx := 152) dX11_orders_151 rfl rfl ?_
    refine wp_putIe (kk := 42) 42 (nx := 155) clsX11 dX11_orders_152 rfl kF_X11_11 (by decide) (fo_81 F) (ft_81 F) rfl rfl ⟨rfl, rfl⟩ rfl ?_
    refine wp_aload_n (nx := 156) dX11_orders_155 rfl rfl ?_
    refine wp_iload_n (nx := 157) dX11_orders_156 rfl rfl ?_
    refine wp_putIe (kk := 43) 43 (nx := 160) clsX11 dX11_orders_157 rfl kF_X11_103 (by decide) (fo_81 F) (ft_81 F) rfl rfl ⟨rfl, rfl⟩ rfl ?_
    refine wp_aload_n (nx := 161) dX11_orders_160 rfl rfl ?_
    refine wp_bipush (nx := 163) dX11_orders_161 rfl ⟨by decide, i32 (by decide)⟩ ?_
    refine wp_invV (nx := 166) (N := M_X11_refuses) (as := [cI (-3)]) (st := []) (mc := 0) (ms := 0) (mc' := mc) (ms' := ms) (a := 81) clsX11 dX11_orders_163 rfl mok_X11_refuses kM_X11_112 ki_X11_refuses ke_X11_refuses (fo_81 F) (ft_81 F) rfl rfl (leB rfl) (leB rfl) (z0 _) (z0 _) (Wp.mono h ?_)
    intro r1 Sq C2 h
    obtain ⟨e9, h⟩ := h
    rw [e9]
    show Wp (d + 1) mc ms M_X11_orders 166 [cA 81, cI l1, cU, cI l3, cI l4] [cI r1] S C2 Q
    exact wp_ireturn dX11_orders_166 rfl rfl rfl h
  · have h := h.2 hc
    refine wp_aload_n (nx := 131) dX11_orders_130 rfl rfl ?_
    refine wp_getAe (kk := 40) (nx := 134) clsX11 dX11_orders_131 rfl kF_X11_97 (by decide) (fo_81 F) (ft_81 F) rfl (fp_81_40 F) ?_
    refine wp_iload (nx := 136) dX11_orders_134 rfl rfl ?_
    refine wp_aload_n (nx := 137) dX11_orders_136 rfl rfl ?_
    refine wp_getAe (kk := 41) (nx := 140) clsX11 dX11_orders_137 rfl kF_X11_100 (by decide) (fo_81 F) (ft_81 F) rfl (fp_81_41 F) ?_
    refine wp_iload (nx := 142) dX11_orders_140 rfl rfl ?_
    obtain ⟨hi, h⟩ := h
    refine wp_ialoadE (nx := 143) dX11_orders_142 rfl (fo_105 F) (fl_105 F) hi (ft_105 F) rfl ?_
    obtain ⟨hi, h⟩ := h
    refine wp_iastoreE (nx := 144) dX11_orders_143 rfl (fo_104 F) (fl_104 F) hi (ft_104 F) ?_
    refine wp_iinc (nx := 147) dX11_orders_144 rfl rfl (by decide) ?_
    refine wp_ls (ls2 := [cA 81, cI l1, cU, cI l3, cI (w32 (l4 + 1))]) rfl ?_
    refine wp_goto (nx := 122) dX11_orders_147 rfl ?_
    exact h
theorem b_X11_hasWord_0 {d mc ms : Nat} {l1 l2 : Int} {S : MS} {C : MC} {Q : Int → MS → MC → Prop} (F : Fix S) (h : K_X11_hasWord_5 (d + 1) mc ms l1 l2 (C 81 44) S C Q) : K_X11_hasWord_0 (d + 1) mc ms l1 l2 S C Q := by
  show Wp (d + 1) mc ms M_X11_hasWord 0 [cA 81, cI l1, cI l2, cU] [] S C Q
  refine wp_aload_n (nx := 1) dX11_hasWord_0 rfl rfl ?_
  refine wp_getIe (kk := 44) 44 (nx := 4) clsX11 dX11_hasWord_1 rfl kF_X11_420 (by decide) (fo_81 F) (ft_81 F) rfl rfl rfl ?_
  refine wp_istore_n (nx := 5) dX11_hasWord_4 rfl (by decide) ?_
  refine wp_ls (ls2 := [cA 81, cI l1, cI l2, cI (C 81 44)]) rfl ?_
  exact h
theorem b_X11_hasWord_5 {d mc ms : Nat} {l1 l2 l3 : Int} {S : MS} {C : MC} {Q : Int → MS → MC → Prop} (F : Fix S) (h : ((l2 ≤ l3 → Q 0 S C) ∧ (¬ l2 ≤ l3 → K_X11_codeAt_0 d 0 0 l3 S C (fun r1 Sq C2 => Sq = S ∧ K_X11_sign_0 d 0 0 59 S C2 (fun r3 Sq C4 => Sq = S ∧ ((r1 = r3 → Q 0 S C4) ∧ (¬ r1 = r3 → K_X11_codeAt_0 d 0 0 l3 S C4 (fun r5 Sq C6 => Sq = S ∧ ((¬ r5 = l1 → K_X11_hasWord_5 (d + 1) mc ms l1 l2 (w32 (l3 + 1)) S C6 Q) ∧ (r5 = l1 → Q 1 S C6)))))))))) : K_X11_hasWord_5 (d + 1) mc ms l1 l2 l3 S C Q := by
  show Wp (d + 1) mc ms M_X11_hasWord 5 [cA 81, cI l1, cI l2, cI l3] [] S C Q
  refine wp_iload_n (nx := 6) dX11_hasWord_5 rfl rfl ?_
  refine wp_iload_n (nx := 7) dX11_hasWord_6 rfl rfl ?_
  refine wp_icmp_ge (nx := 10) (tg := 40) dX11_hasWord_7 rfl rfl (fun hc => ?_) (fun hc => ?_)
  · have h := h.1 hc
    refine wp_iconst (nx := 41) dX11_hasWord_40 rfl (i32 (by decide)) ?_
    exact wp_ireturn dX11_hasWord_41 rfl rfl (nz_of (Or.inl rfl)) h
  · have h := h.2 hc
    refine wp_aload_n (nx := 11) dX11_hasWord_10 rfl rfl ?_
    refine wp_iload_n (nx := 12) dX11_hasWord_11 rfl rfl ?_
    refine wp_invV (nx := 15) (N := M_X11_codeAt) (as := [cI l3]) (st := []) (mc := 0) (ms := 0) (mc' := mc) (ms' := ms) (a := 81) clsX11 dX11_hasWord_12 rfl mok_X11_codeAt kM_X11_268 ki_X11_codeAt ke_X11_codeAt (fo_81 F) (ft_81 F) rfl rfl (leB rfl) (leB rfl) (z0 _) (z0 _) (Wp.mono h ?_)
    intro r1 Sq C2 h
    obtain ⟨e9, h⟩ := h
    rw [e9]
    show Wp (d + 1) mc ms M_X11_hasWord 15 [cA 81, cI l1, cI l2, cI l3] [cI r1] S C2 Q
    refine wp_bipush (nx := 17) dX11_hasWord_15 rfl ⟨by decide, i32 (by decide)⟩ ?_
    refine wp_invS (nx := 20) (N := M_X11_sign) (as := [cI 59]) (st := [cI r1]) (mc := 0) (ms := 0) (mc' := mc) (ms' := ms) dX11_hasWord_17 rfl mok_X11_sign kM_X11_224 ks_X11_sign rfl rfl (leB rfl) (leB rfl) (z0 _) (z0 _) (Wp.mono h ?_)
    intro r3 Sq C4 h
    obtain ⟨e9, h⟩ := h
    rw [e9]
    show Wp (d + 1) mc ms M_X11_hasWord 20 [cA 81, cI l1, cI l2, cI l3] [cI r3, cI r1] S C4 Q
    refine wp_icmp_eq (nx := 23) (tg := 40) dX11_hasWord_20 rfl rfl (fun hc => ?_) (fun hc => ?_)
    · have h := h.1 hc
      refine wp_iconst (nx := 41) dX11_hasWord_40 rfl (i32 (by decide)) ?_
      exact wp_ireturn dX11_hasWord_41 rfl rfl (nz_of (Or.inl rfl)) h
    · have h := h.2 hc
      refine wp_aload_n (nx := 24) dX11_hasWord_23 rfl rfl ?_
      refine wp_iload_n (nx := 25) dX11_hasWord_24 rfl rfl ?_
      refine wp_invV (nx := 28) (N := M_X11_codeAt) (as := [cI l3]) (st := []) (mc := 0) (ms := 0) (mc' := mc) (ms' := ms) (a := 81) clsX11 dX11_hasWord_25 rfl mok_X11_codeAt kM_X11_268 ki_X11_codeAt ke_X11_codeAt (fo_81 F) (ft_81 F) rfl rfl (leB rfl) (leB rfl) (z0 _) (z0 _) (Wp.mono h ?_)
      intro r5 Sq C6 h
      obtain ⟨e9, h⟩ := h
      rw [e9]
      show Wp (d + 1) mc ms M_X11_hasWord 28 [cA 81, cI l1, cI l2, cI l3] [cI r5] S C6 Q
      refine wp_iload_n (nx := 29) dX11_hasWord_28 rfl rfl ?_
      refine wp_icmp_ne (nx := 32) (tg := 34) dX11_hasWord_29 rfl rfl (fun hc => ?_) (fun hc => ?_)
      · have h := h.1 hc
        refine wp_iinc (nx := 37) dX11_hasWord_34 rfl rfl (by decide) ?_
        refine wp_ls (ls2 := [cA 81, cI l1, cI l2, cI (w32 (l3 + 1))]) rfl ?_
        refine wp_goto (nx := 5) dX11_hasWord_37 rfl ?_
        exact h
      · have h := h.2 hc
        refine wp_iconst (nx := 33) dX11_hasWord_32 rfl (i32 (by decide)) ?_
        exact wp_ireturn dX11_hasWord_33 rfl rfl (nz_of (Or.inr rfl)) h
theorem b_X11_goesAlong_0 {d mc ms : Nat} {l1 l2 : Int} {S : MS} {C : MC} {Q : Int → MS → MC → Prop} (F : Fix S) (h : ((l2 = 0 → K_X11_goesAlong_23 (d + 1) mc ms l1 l2 0 S C Q) ∧ (¬ l2 = 0 → K_X11_hasWord_0 d 0 0 18 l1 S C (fun r1 Sq C2 => Sq = S ∧ ((r1 = 0 → K_X11_goesAlong_23 (d + 1) mc ms l1 l2 0 S C2 Q) ∧ (¬ r1 = 0 → K_X11_drill_0 d 0 0 S C2 (fun r3 Sq C4 => Sq = S ∧ K_X11_goesAlong_23 (d + 1) mc ms l1 l2 r3 S C4 Q))))))) : K_X11_goesAlong_0 (d + 1) mc ms l1 l2 S C Q := by
  show Wp (d + 1) mc ms M_X11_goesAlong 0 [cA 81, cI l1, cI l2, cU, cU] [] S C Q
  refine wp_aload_n (nx := 1) dX11_goesAlong_0 rfl rfl ?_
  refine wp_iload_n (nx := 2) dX11_goesAlong_1 rfl rfl ?_
  refine wp_if_eq (nx := 5) (tg := 22) dX11_goesAlong_2 rfl rfl (fun hc => ?_) (fun hc => ?_)
  · have h := h.1 hc
    refine wp_iconst (nx := 23) dX11_goesAlong_22 rfl (i32 (by decide)) ?_
    exact h
  · have h := h.2 hc
    refine wp_aload_n (nx := 6) dX11_goesAlong_5 rfl rfl ?_
    refine wp_bipush (nx := 8) dX11_goesAlong_6 rfl ⟨by decide, i32 (by decide)⟩ ?_
    refine wp_iload_n (nx := 9) dX11_goesAlong_8 rfl rfl ?_
    refine wp_invV (nx := 12) (N := M_X11_hasWord) (as := [cI 18, cI l1]) (st := [cA 81]) (mc := 0) (ms := 0) (mc' := mc) (ms' := ms) (a := 81) clsX11 dX11_goesAlong_9 rfl mok_X11_hasWord kM_X11_429 ki_X11_hasWord ke_X11_hasWord (fo_81 F) (ft_81 F) rfl rfl (leB rfl) (leB rfl) (z0 _) (z0 _) (Wp.mono h ?_)
    intro r1 Sq C2 h
    obtain ⟨e9, h⟩ := h
    rw [e9]
    show Wp (d + 1) mc ms M_X11_goesAlong 12 [cA 81, cI l1, cI l2, cU, cU] [cI r1, cA 81] S C2 Q
    refine wp_if_eq (nx := 15) (tg := 22) dX11_goesAlong_12 rfl rfl (fun hc => ?_) (fun hc => ?_)
    · have h := h.1 hc
      refine wp_iconst (nx := 23) dX11_goesAlong_22 rfl (i32 (by decide)) ?_
      exact h
    · have h := h.2 hc
      refine wp_aload_n (nx := 16) dX11_goesAlong_15 rfl rfl ?_
      refine wp_invV (nx := 19) (N := M_X11_drill) (as := []) (st := [cA 81]) (mc := 0) (ms := 0) (mc' := mc) (ms' := ms) (a := 81) clsX11 dX11_goesAlong_16 rfl mok_X11_drill kM_X11_432 ki_X11_drill ke_X11_drill (fo_81 F) (ft_81 F) rfl rfl (leB rfl) (leB rfl) (z0 _) (z0 _) (Wp.mono h ?_)
      intro r3 Sq C4 h
      obtain ⟨e9, h⟩ := h
      rw [e9]
      show Wp (d + 1) mc ms M_X11_goesAlong 19 [cA 81, cI l1, cI l2, cU, cU] [cI r3, cA 81] S C4 Q
      refine wp_goto (nx := 23) dX11_goesAlong_19 rfl ?_
      exact h
theorem b_X11_goesAlong_23 {d mc ms : Nat} {l1 l2 s1 : Int} {S : MS} {C : MC} {Q : Int → MS → MC → Prop} (F : Fix S) (h : K_X11_codeAt_0 d 0 0 (C 81 44) S ((upC (upC (upC (upC C 81 29 s1) 81 25 1) 81 23 l1) 81 22 (C 81 44))) (fun r1 Sq C2 => Sq = S ∧ ((¬ r1 = 26 → ((¬ r1 = 25 → K_X11_goesAlong_102 (d + 1) mc ms l2 2 0 S (upC (upC (upC C2 81 46 r1) 81 22 (w32 ((C2 81 22) + 1))) 81 47 1) Q) ∧ (r1 = 25 → K_X11_goesAlong_102 (d + 1) mc ms l2 1 0 S (upC (upC (upC C2 81 46 r1) 81 22 (w32 ((C2 81 22) + 1))) 81 47 1) Q))) ∧ (r1 = 26 → K_X11_goesAlong_102 (d + 1) mc ms l2 0 0 S (upC (upC (upC C2 81 46 r1) 81 22 (w32 ((C2 81 22) + 1))) 81 47 1) Q)))) : K_X11_goesAlong_23 (d + 1) mc ms l1 l2 s1 S C Q := by
  show Wp (d + 1) mc ms M_X11_goesAlong 23 [cA 81, cI l1, cI l2, cU, cU] [cI s1, cA 81] S C Q
  refine wp_putIe (kk := 29) 29 (nx := 26) clsX11 dX11_goesAlong_23 rfl kF_X11_307 (by decide) (fo_81 F) (ft_81 F) rfl rfl ⟨rfl, rfl⟩ rfl ?_
  refine wp_aload_n (nx := 27) dX11_goesAlong_26 rfl rfl ?_
  refine wp_iconst (nx := 28) dX11_goesAlong_27 rfl (i32 (by decide)) ?_
  refine wp_putIe (kk := 25) 25 (nx := 31) clsX11 dX11_goesAlong_28 rfl kF_X11_295 (by decide) (fo_81 F) (ft_81 F) rfl rfl (fz_of (Or.inr rfl)) rfl ?_
  refine wp_aload_n (nx := 32) dX11_goesAlong_31 rfl rfl ?_
  refine wp_iload_n (nx := 33) dX11_goesAlong_32 rfl rfl ?_
  refine wp_putIe (kk := 23) 23 (nx := 36) clsX11 dX11_goesAlong_33 rfl kF_X11_262 (by decide) (fo_81 F) (ft_81 F) rfl rfl ⟨rfl, rfl⟩ rfl ?_
  refine wp_aload_n (nx := 37) dX11_goesAlong_36 rfl rfl ?_
  refine wp_aload_n (nx := 38) dX11_goesAlong_37 rfl rfl ?_
  refine wp_getIe (kk := 44) 44 (nx := 41) clsX11 dX11_goesAlong_38 rfl kF_X11_420 (by decide) (fo_81 F) (ft_81 F) rfl rfl ((upC_sK (by decide)).trans ((upC_sK (by decide)).trans (upC_sK (by decide)))) ?_
  refine wp_putIe (kk := 22) 22 (nx := 44) clsX11 dX11_goesAlong_41 rfl kF_X11_265 (by decide) (fo_81 F) (ft_81 F) rfl rfl ⟨rfl, rfl⟩ rfl ?_
  refine wp_aload_n (nx := 45) dX11_goesAlong_44 rfl rfl ?_
  refine wp_aload_n (nx := 46) dX11_goesAlong_45 rfl rfl ?_
  refine wp_aload_n (nx := 47) dX11_goesAlong_46 rfl rfl ?_
  refine wp_getIe (kk := 22) 22 (nx := 50) clsX11 dX11_goesAlong_47 rfl kF_X11_265 (by decide) (fo_81 F) (ft_81 F) rfl rfl upC_h ?_
  refine wp_invV (nx := 53) (N := M_X11_codeAt) (as := [cI (C 81 44)]) (st := [cA 81]) (mc := 0) (ms := 0) (mc' := mc) (ms' := ms) (a := 81) clsX11 dX11_goesAlong_50 rfl mok_X11_codeAt kM_X11_268 ki_X11_codeAt ke_X11_codeAt (fo_81 F) (ft_81 F) rfl rfl (leB rfl) (leB rfl) (z0 _) (z0 _) (Wp.mono h ?_)
  intro r1 Sq C2 h
  obtain ⟨e9, h⟩ := h
  rw [e9]
  show Wp (d + 1) mc ms M_X11_goesAlong 53 [cA 81, cI l1, cI l2, cU, cU] [cI r1, cA 81] S C2 Q
  refine wp_putIe (kk := 46) 46 (nx := 56) clsX11 dX11_goesAlong_53 rfl kF_X11_435 (by decide) (fo_81 F) (ft_81 F) rfl rfl ⟨rfl, rfl⟩ rfl ?_
  refine wp_aload_n (nx := 57) dX11_goesAlong_56 rfl rfl ?_
  refine wp_dup (nx := 58) dX11_goesAlong_57 rfl (k1A _) ?_
  refine wp_getIe (kk := 22) 22 (nx := 61) clsX11 dX11_goesAlong_58 rfl kF_X11_265 (by decide) (fo_81 F) (ft_81 F) rfl rfl (upC_sK (by decide)) ?_
  refine wp_iconst (nx := 62) dX11_goesAlong_61 rfl (i32 (by decide)) ?_
  refine wp_iadd (nx := 63) dX11_goesAlong_62 rfl ?_
  refine wp_putIe (kk := 22) 22 (nx := 66) clsX11 dX11_goesAlong_63 rfl kF_X11_265 (by decide) (fo_81 F) (ft_81 F) rfl rfl ⟨rfl, rfl⟩ rfl ?_
  refine wp_aload_n (nx := 67) dX11_goesAlong_66 rfl rfl ?_
  refine wp_iconst (nx := 68) dX11_goesAlong_67 rfl (i32 (by decide)) ?_
  refine wp_putIe (kk := 47) 47 (nx := 71) clsX11 dX11_goesAlong_68 rfl kF_X11_438 (by decide) (fo_81 F) (ft_81 F) rfl rfl (fz_of (Or.inr rfl)) rfl ?_
  refine wp_aload_n (nx := 72) dX11_goesAlong_71 rfl rfl ?_
  refine wp_getIe (kk := 46) 46 (nx := 75) clsX11 dX11_goesAlong_72 rfl kF_X11_435 (by decide) (fo_81 F) (ft_81 F) rfl rfl ((upC_sK (by decide)).trans ((upC_sK (by decide)).trans upC_h)) ?_
  refine wp_bipush (nx := 77) dX11_goesAlong_75 rfl ⟨by decide, i32 (by decide)⟩ ?_
  refine wp_icmp_ne (nx := 80) (tg := 84) dX11_goesAlong_77 rfl rfl (fun hc => ?_) (fun hc => ?_)
  · have h := h.1 hc
    refine wp_aload_n (nx := 85) dX11_goesAlong_84 rfl rfl ?_
    refine wp_getIe (kk := 46) 46 (nx := 88) clsX11 dX11_goesAlong_85 rfl kF_X11_435 (by decide) (fo_81 F) (ft_81 F) rfl rfl ((upC_sK (by decide)).trans ((upC_sK (by decide)).trans upC_h)) ?_
    refine wp_bipush (nx := 90) dX11_goesAlong_88 rfl ⟨by decide, i32 (by decide)⟩ ?_
    refine wp_icmp_ne (nx := 93) (tg := 97) dX11_goesAlong_90 rfl rfl (fun hc => ?_) (fun hc => ?_)
    · have h := h.1 hc
      refine wp_iconst (nx := 98) dX11_goesAlong_97 rfl (i32 (by decide)) ?_
      refine wp_istore_n (nx := 99) dX11_goesAlong_98 rfl (by decide) ?_
      refine wp_ls (ls2 := [cA 81, cI l1, cI l2, cI 2, cU]) rfl ?_
      refine wp_iconst (nx := 100) dX11_goesAlong_99 rfl (i32 (by decide)) ?_
      refine wp_istore (nx := 102) dX11_goesAlong_100 rfl (by decide) ?_
      refine wp_ls (ls2 := [cA 81, cI l1, cI l2, cI 2, cI 0]) rfl ?_
      refine wp_fg [true, false, true, true, true] (ls2 := [cA 81, cU, cI l2, cI 2, cI 0]) rfl ?_
      exact h
    · have h := h.2 hc
      refine wp_iconst (nx := 94) dX11_goesAlong_93 rfl (i32 (by decide)) ?_
      refine wp_goto (nx := 98) dX11_goesAlong_94 rfl ?_
      refine wp_istore_n (nx := 99) dX11_goesAlong_98 rfl (by decide) ?_
      refine wp_ls (ls2 := [cA 81, cI l1, cI l2, cI 1, cU]) rfl ?_
      refine wp_iconst (nx := 100) dX11_goesAlong_99 rfl (i32 (by decide)) ?_
      refine wp_istore (nx := 102) dX11_goesAlong_100 rfl (by decide) ?_
      refine wp_ls (ls2 := [cA 81, cI l1, cI l2, cI 1, cI 0]) rfl ?_
      refine wp_fg [true, false, true, true, true] (ls2 := [cA 81, cU, cI l2, cI 1, cI 0]) rfl ?_
      exact h
  · have h := h.2 hc
    refine wp_iconst (nx := 81) dX11_goesAlong_80 rfl (i32 (by decide)) ?_
    refine wp_goto (nx := 98) dX11_goesAlong_81 rfl ?_
    refine wp_istore_n (nx := 99) dX11_goesAlong_98 rfl (by decide) ?_
    refine wp_ls (ls2 := [cA 81, cI l1, cI l2, cI 0, cU]) rfl ?_
    refine wp_iconst (nx := 100) dX11_goesAlong_99 rfl (i32 (by decide)) ?_
    refine wp_istore (nx := 102) dX11_goesAlong_100 rfl (by decide) ?_
    refine wp_ls (ls2 := [cA 81, cI l1, cI l2, cI 0, cI 0]) rfl ?_
    refine wp_fg [true, false, true, true, true] (ls2 := [cA 81, cU, cI l2, cI 0, cI 0]) rfl ?_
    exact h
theorem b_X11_goesAlong_102 {d mc ms : Nat} {l2 l3 l4 : Int} {S : MS} {C : MC} {Q : Int → MS → MC → Prop} (F : Fix S) (h : ((l3 ≤ l4 → K_X11_passes0_0 d 0 0 27 S ((upC C 81 45 1)) (fun r1 Sq C2 => Sq = S ∧ ((r1 = 0 → K_X11_passes0_0 d 0 0 4 S ((upC C2 81 24 0)) (fun r3 Sq C4 => Sq = S ∧ ((r3 = 0 → K_X11_goesAlong_237 (d + 1) mc ms 1 S C4 Q) ∧ (¬ r3 = 0 → K_X11_testOf_0 d 0 0 l2 S C4 (fun r5 Sq C6 => Sq = S ∧ ((r5 = 0 → K_X11_goesAlong_237 (d + 1) mc ms 0 S C6 Q) ∧ (¬ r5 = 0 → K_X11_goesAlong_237 (d + 1) mc ms 1 S C6 Q))))))) ∧ (¬ r1 = 0 → ((0 : Int) ≤ w32 (2856 + (C2 81 22)) ∧ w32 (2856 + (C2 81 22)) < 5656) ∧ K_X11_passes0_0 d 0 0 4 S ((upC (upC (upC C2 81 45 (C2 83 (w32 (2856 + (C2 81 22))))) 81 22 (w32 ((C2 81 22) + 1))) 81 24 0)) (fun r7 Sq C8 => Sq = S ∧ ((r7 = 0 → K_X11_goesAlong_237 (d + 1) mc ms 1 S C8 Q) ∧ (¬ r7 = 0 → K_X11_testOf_0 d 0 0 l2 S C8 (fun r9 Sq C10 => Sq = S ∧ ((r9 = 0 → K_X11_goesAlong_237 (d + 1) mc ms 0 S C10 Q) ∧ (¬ r9 = 0 → K_X11_goesAlong_237 (d + 1) mc ms 1 S C10 Q)))))))))) ∧ (¬ l3 ≤ l4 → ((l4 ≤ 0 → K_X11_goesAlong_123 (d + 1) mc ms l2 l3 l4 S C Q) ∧ (¬ l4 ≤ 0 → K_X11_goesAlong_123 (d + 1) mc ms l2 l3 l4 S (upC C 81 22 (w32 ((C 81 22) + 1))) Q))))) : K_X11_goesAlong_102 (d + 1) mc ms l2 l3 l4 S C Q := by
  show Wp (d + 1) mc ms M_X11_goesAlong 102 [cA 81, cU, cI l2, cI l3, cI l4] [] S C Q
  refine wp_iload (nx := 104) dX11_goesAlong_102 rfl rfl ?_
  refine wp_iload_n (nx := 105) dX11_goesAlong_104 rfl rfl ?_
  refine wp_icmp_ge (nx := 108) (tg := 169) dX11_goesAlong_105 rfl rfl (fun hc => ?_) (fun hc => ?_)
  · have h := h.1 hc
    refine wp_aload_n (nx := 170) dX11_goesAlong_169 rfl rfl ?_
    refine wp_iconst (nx := 171) dX11_goesAlong_170 rfl (i32 (by decide)) ?_
    refine wp_putIe (kk := 45) 45 (nx := 174) clsX11 dX11_goesAlong_171 rfl kF_X11_441 (by decide) (fo_81 F) (ft_81 F) rfl rfl ⟨rfl, rfl⟩ rfl ?_
    refine wp_aload_n (nx := 175) dX11_goesAlong_174 rfl rfl ?_
    refine wp_bipush (nx := 177) dX11_goesAlong_175 rfl ⟨by decide, i32 (by decide)⟩ ?_
    refine wp_invV (nx := 180) (N := M_X11_passes0) (as := [cI 27]) (st := []) (mc := 0) (ms := 0) (mc' := mc) (ms' := ms) (a := 81) clsX11 dX11_goesAlong_177 rfl mok_X11_passes0 kM_X11_289 ki_X11_passes0 ke_X11_passes0 (fo_81 F) (ft_81 F) rfl rfl (leB rfl) (leB rfl) (z0 _) (z0 _) (Wp.mono h ?_)
    intro r1 Sq C2 h
    obtain ⟨e9, h⟩ := h
    rw [e9]
    show Wp (d + 1) mc ms M_X11_goesAlong 180 [cA 81, cU, cI l2, cI l3, cI l4] [cI r1] S C2 Q
    refine wp_if_eq (nx := 183) (tg := 210) dX11_goesAlong_180 rfl rfl (fun hc => ?_) (fun hc => ?_)
    · have h := h.1 hc
      refine wp_aload_n (nx := 211) dX11_goesAlong_210 rfl rfl ?_
      refine wp_iconst (nx := 212) dX11_goesAlong_211 rfl (i32 (by decide)) ?_
      refine wp_putIe (kk := 24) 24 (nx := 215) clsX11 dX11_goesAlong_212 rfl kF_X11_275 (by decide) (fo_81 F) (ft_81 F) rfl rfl (fz_of (Or.inl rfl)) rfl ?_
      refine wp_aload_n (nx := 216) dX11_goesAlong_215 rfl rfl ?_
      refine wp_aload_n (nx := 217) dX11_goesAlong_216 rfl rfl ?_
      refine wp_iconst (nx := 218) dX11_goesAlong_217 rfl (i32 (by decide)) ?_
      refine wp_invV (nx := 221) (N := M_X11_passes0) (as := [cI 4]) (st := [cA 81]) (mc := 0) (ms := 0) (mc' := mc) (ms' := ms) (a := 81) clsX11 dX11_goesAlong_218 rfl mok_X11_passes0 kM_X11_289 ki_X11_passes0 ke_X11_passes0 (fo_81 F) (ft_81 F) rfl rfl (leB rfl) (leB rfl) (z0 _) (z0 _) (Wp.mono h ?_)
      intro r3 Sq C4 h
      obtain ⟨e9, h⟩ := h
      rw [e9]
      show Wp (d + 1) mc ms M_X11_goesAlong 221 [cA 81, cU, cI l2, cI l3, cI l4] [cI r3, cA 81] S C4 Q
      refine wp_if_eq (nx := 224) (tg := 232) dX11_goesAlong_221 rfl rfl (fun hc => ?_) (fun hc => ?_)
      · have h := h.1 hc
        refine wp_iconst (nx := 233) dX11_goesAlong_232 rfl (i32 (by decide)) ?_
        refine wp_goto (nx := 237) dX11_goesAlong_233 rfl ?_
        refine wp_fg [true, false, false, false, false] (ls2 := [cA 81, cU, cU, cU, cU]) rfl ?_
        exact h
      · have h := h.2 hc
        refine wp_aload_n (nx := 225) dX11_goesAlong_224 rfl rfl ?_
        refine wp_iload_n (nx := 226) dX11_goesAlong_225 rfl rfl ?_
        refine wp_invV (nx := 229) (N := M_X11_testOf) (as := [cI l2]) (st := [cA 81]) (mc := 0) (ms := 0) (mc' := mc) (ms' := ms) (a := 81) clsX11 dX11_goesAlong_226 rfl mok_X11_testOf kM_X11_322 ki_X11_testOf ke_X11_testOf (fo_81 F) (ft_81 F) rfl rfl (leB rfl) (leB rfl) (z0 _) (z0 _) (Wp.mono h ?_)
        intro r5 Sq C6 h
        obtain ⟨e9, h⟩ := h
        rw [e9]
        show Wp (d + 1) mc ms M_X11_goesAlong 229 [cA 81, cU, cI l2, cI l3, cI l4] [cI r5, cA 81] S C6 Q
        refine wp_if_eq (nx := 232) (tg := 236) dX11_goesAlong_229 rfl rfl (fun hc => ?_) (fun hc => ?_)
        · have h := h.1 hc
          refine wp_iconst (nx := 237) dX11_goesAlong_236 rfl (i32 (by decide)) ?_
          refine wp_fg [true, false, false, false, false] (ls2 := [cA 81, cU, cU, cU, cU]) rfl ?_
          exact h
        · have h := h.2 hc
          refine wp_iconst (nx := 233) dX11_goesAlong_232 rfl (i32 (by decide)) ?_
          refine wp_goto (nx := 237) dX11_goesAlong_233 rfl ?_
          refine wp_fg [true, false, false, false, false] (ls2 := [cA 81, cU, cU, cU, cU]) rfl ?_
          exact h
    · have h := h.2 hc
      refine wp_aload_n (nx := 184) dX11_goesAlong_183 rfl rfl ?_
      refine wp_aload_n (nx := 185) dX11_goesAlong_184 rfl rfl ?_
      refine wp_getAe (kk := 2) (nx := 188) clsX11 dX11_goesAlong_185 rfl kF_X11_28 (by decide) (fo_81 F) (ft_81 F) rfl (fp_81_2 F) ?_
      refine wp_sipush (nx := 191) dX11_goesAlong_188 rfl ⟨by decide, i32 (by decide)⟩ ?_
      refine wp_aload_n (nx := 192) dX11_goesAlong_191 rfl rfl ?_
      refine wp_getIe (kk := 22) 22 (nx := 195) clsX11 dX11_goesAlong_192 rfl kF_X11_265 (by decide) (fo_81 F) (ft_81 F) rfl rfl rfl ?_
      refine wp_iadd (nx := 196) dX11_goesAlong_195 rfl ?_
      obtain ⟨hi, h⟩ := h
      refine wp_ialoadE (nx := 197) dX11_goesAlong_196 rfl (fo_83 F) (fl_83 F) hi (ft_83 F) rfl ?_
      refine wp_putIe (kk := 45) 45 (nx := 200) clsX11 dX11_goesAlong_197 rfl kF_X11_441 (by decide) (fo_81 F) (ft_81 F) rfl rfl ⟨rfl, rfl⟩ rfl ?_
      refine wp_aload_n (nx := 201) dX11_goesAlong_200 rfl rfl ?_
      refine wp_dup (nx := 202) dX11_goesAlong_201 rfl (k1A _) ?_
      refine wp_getIe (kk := 22) 22 (nx := 205) clsX11 dX11_goesAlong_202 rfl kF_X11_265 (by decide) (fo_81 F) (ft_81 F) rfl rfl (upC_sK (by decide)) ?_
      refine wp_iconst (nx := 206) dX11_goesAlong_205 rfl (i32 (by decide)) ?_
      refine wp_iadd (nx := 207) dX11_goesAlong_206 rfl ?_
      refine wp_putIe (kk := 22) 22 (nx := 210) clsX11 dX11_goesAlong_207 rfl kF_X11_265 (by decide) (fo_81 F) (ft_81 F) rfl rfl ⟨rfl, rfl⟩ rfl ?_
      refine wp_aload_n (nx := 211) dX11_goesAlong_210 rfl rfl ?_
      refine wp_iconst (nx := 212) dX11_goesAlong_211 rfl (i32 (by decide)) ?_
      refine wp_putIe (kk := 24) 24 (nx := 215) clsX11 dX11_goesAlong_212 rfl kF_X11_275 (by decide) (fo_81 F) (ft_81 F) rfl rfl (fz_of (Or.inl rfl)) rfl ?_
      refine wp_aload_n (nx := 216) dX11_goesAlong_215 rfl rfl ?_
      refine wp_aload_n (nx := 217) dX11_goesAlong_216 rfl rfl ?_
      refine wp_iconst (nx := 218) dX11_goesAlong_217 rfl (i32 (by decide)) ?_
      refine wp_invV (nx := 221) (N := M_X11_passes0) (as := [cI 4]) (st := [cA 81]) (mc := 0) (ms := 0) (mc' := mc) (ms' := ms) (a := 81) clsX11 dX11_goesAlong_218 rfl mok_X11_passes0 kM_X11_289 ki_X11_passes0 ke_X11_passes0 (fo_81 F) (ft_81 F) rfl rfl (leB rfl) (leB rfl) (z0 _) (z0 _) (Wp.mono h ?_)
      intro r7 Sq C8 h
      obtain ⟨e9, h⟩ := h
      rw [e9]
      show Wp (d + 1) mc ms M_X11_goesAlong 221 [cA 81, cU, cI l2, cI l3, cI l4] [cI r7, cA 81] S C8 Q
      refine wp_if_eq (nx := 224) (tg := 232) dX11_goesAlong_221 rfl rfl (fun hc => ?_) (fun hc => ?_)
      · have h := h.1 hc
        refine wp_iconst (nx := 233) dX11_goesAlong_232 rfl (i32 (by decide)) ?_
        refine wp_goto (nx := 237) dX11_goesAlong_233 rfl ?_
        refine wp_fg [true, false, false, false, false] (ls2 := [cA 81, cU, cU, cU, cU]) rfl ?_
        exact h
      · have h := h.2 hc
        refine wp_aload_n (nx := 225) dX11_goesAlong_224 rfl rfl ?_
        refine wp_iload_n (nx := 226) dX11_goesAlong_225 rfl rfl ?_
        refine wp_invV (nx := 229) (N := M_X11_testOf) (as := [cI l2]) (st := [cA 81]) (mc := 0) (ms := 0) (mc' := mc) (ms' := ms) (a := 81) clsX11 dX11_goesAlong_226 rfl mok_X11_testOf kM_X11_322 ki_X11_testOf ke_X11_testOf (fo_81 F) (ft_81 F) rfl rfl (leB rfl) (leB rfl) (z0 _) (z0 _) (Wp.mono h ?_)
        intro r9 Sq C10 h
        obtain ⟨e9, h⟩ := h
        rw [e9]
        show Wp (d + 1) mc ms M_X11_goesAlong 229 [cA 81, cU, cI l2, cI l3, cI l4] [cI r9, cA 81] S C10 Q
        refine wp_if_eq (nx := 232) (tg := 236) dX11_goesAlong_229 rfl rfl (fun hc => ?_) (fun hc => ?_)
        · have h := h.1 hc
          refine wp_iconst (nx := 237) dX11_goesAlong_236 rfl (i32 (by decide)) ?_
          refine wp_fg [true, false, false, false, false] (ls2 := [cA 81, cU, cU, cU, cU]) rfl ?_
          exact h
        · have h := h.2 hc
          refine wp_iconst (nx := 233) dX11_goesAlong_232 rfl (i32 (by decide)) ?_
          refine wp_goto (nx := 237) dX11_goesAlong_233 rfl ?_
          refine wp_fg [true, false, false, false, false] (ls2 := [cA 81, cU, cU, cU, cU]) rfl ?_
          exact h
  · have h := h.2 hc
    refine wp_iload (nx := 110) dX11_goesAlong_108 rfl rfl ?_
    refine wp_if_le (nx := 113) (tg := 123) dX11_goesAlong_110 rfl rfl (fun hc => ?_) (fun hc => ?_)
    · have h := h.1 hc
      exact h
    · have h := h.2 hc
      refine wp_aload_n (nx := 114) dX11_goesAlong_113 rfl rfl ?_
      refine wp_dup (nx := 115) dX11_goesAlong_114 rfl (k1A _) ?_
      refine wp_getIe (kk := 22) 22 (nx := 118) clsX11 dX11_goesAlong_115 rfl kF_X11_265 (by decide) (fo_81 F) (ft_81 F) rfl rfl rfl ?_
      refine wp_iconst (nx := 119) dX11_goesAlong_118 rfl (i32 (by decide)) ?_
      refine wp_iadd (nx := 120) dX11_goesAlong_119 rfl ?_
      refine wp_putIe (kk := 22) 22 (nx := 123) clsX11 dX11_goesAlong_120 rfl kF_X11_265 (by decide) (fo_81 F) (ft_81 F) rfl rfl ⟨rfl, rfl⟩ rfl ?_
      exact h
theorem b_X11_goesAlong_237 {d mc ms : Nat} {s1 : Int} {S : MS} {C : MC} {Q : Int → MS → MC → Prop} (F : Fix S) (h : (s1 = 0 ∨ s1 = 1) ∧ ((s1 = 0 → Q 0 S (upC (upC (upC C 81 48 s1) 81 48 0) 81 22 (w32 ((C 81 22) + 1)))) ∧ (¬ s1 = 0 → ((¬ C 81 24 = 0 → Q 0 S (upC (upC (upC C 81 48 s1) 81 48 0) 81 22 (w32 ((C 81 22) + 1)))) ∧ (C 81 24 = 0 → Q 0 S (upC (upC (upC C 81 48 s1) 81 48 1) 81 22 (w32 ((C 81 22) + 1)))))))) : K_X11_goesAlong_237 (d + 1) mc ms s1 S C Q := by
  show Wp (d + 1) mc ms M_X11_goesAlong 237 [cA 81, cU, cU, cU, cU] [cI s1, cA 81] S C Q
  obtain ⟨hz, h⟩ := h
  refine wp_putIe (kk := 48) 48 (nx := 240) clsX11 dX11_goesAlong_237 rfl kF_X11_444 (by decide) (fo_81 F) (ft_81 F) rfl rfl (fz_of hz) rfl ?_
  refine wp_aload_n (nx := 241) dX11_goesAlong_240 rfl rfl ?_
  refine wp_aload_n (nx := 242) dX11_goesAlong_241 rfl rfl ?_
  refine wp_getIe (kk := 48) 48 (nx := 245) clsX11 dX11_goesAlong_242 rfl kF_X11_444 (by decide) (fo_81 F) (ft_81 F) rfl rfl upC_h ?_
  refine wp_if_eq (nx := 248) (tg := 259) dX11_goesAlong_245 rfl rfl (fun hc => ?_) (fun hc => ?_)
  · have h := h.1 hc
    refine wp_iconst (nx := 260) dX11_goesAlong_259 rfl (i32 (by decide)) ?_
    refine wp_putIe (kk := 48) 48 (nx := 263) clsX11 dX11_goesAlong_260 rfl kF_X11_444 (by decide) (fo_81 F) (ft_81 F) rfl rfl (fz_of (Or.inl rfl)) rfl ?_
    refine wp_aload_n (nx := 264) dX11_goesAlong_263 rfl rfl ?_
    refine wp_dup (nx := 265) dX11_goesAlong_264 rfl (k1A _) ?_
    refine wp_getIe (kk := 22) 22 (nx := 268) clsX11 dX11_goesAlong_265 rfl kF_X11_265 (by decide) (fo_81 F) (ft_81 F) rfl rfl ((upC_sK (by decide)).trans (upC_sK (by decide))) ?_
    refine wp_iconst (nx := 269) dX11_goesAlong_268 rfl (i32 (by decide)) ?_
    refine wp_iadd (nx := 270) dX11_goesAlong_269 rfl ?_
    refine wp_putIe (kk := 22) 22 (nx := 273) clsX11 dX11_goesAlong_270 rfl kF_X11_265 (by decide) (fo_81 F) (ft_81 F) rfl rfl ⟨rfl, rfl⟩ rfl ?_
    exact wp_return dX11_goesAlong_273 rfl h
  · have h := h.2 hc
    refine wp_aload_n (nx := 249) dX11_goesAlong_248 rfl rfl ?_
    refine wp_getIe (kk := 24) 24 (nx := 252) clsX11 dX11_goesAlong_249 rfl kF_X11_275 (by decide) (fo_81 F) (ft_81 F) rfl rfl (upC_sK (by decide)) ?_
    refine wp_if_ne (nx := 255) (tg := 259) dX11_goesAlong_252 rfl rfl (fun hc => ?_) (fun hc => ?_)
    · have h := h.1 hc
      refine wp_iconst (nx := 260) dX11_goesAlong_259 rfl (i32 (by decide)) ?_
      refine wp_putIe (kk := 48) 48 (nx := 263) clsX11 dX11_goesAlong_260 rfl kF_X11_444 (by decide) (fo_81 F) (ft_81 F) rfl rfl (fz_of (Or.inl rfl)) rfl ?_
      refine wp_aload_n (nx := 264) dX11_goesAlong_263 rfl rfl ?_
      refine wp_dup (nx := 265) dX11_goesAlong_264 rfl (k1A _) ?_
      refine wp_getIe (kk := 22) 22 (nx := 268) clsX11 dX11_goesAlong_265 rfl kF_X11_265 (by decide) (fo_81 F) (ft_81 F) rfl rfl ((upC_sK (by decide)).trans (upC_sK (by decide))) ?_
      refine wp_iconst (nx := 269) dX11_goesAlong_268 rfl (i32 (by decide)) ?_
      refine wp_iadd (nx := 270) dX11_goesAlong_269 rfl ?_
      refine wp_putIe (kk := 22) 22 (nx := 273) clsX11 dX11_goesAlong_270 rfl kF_X11_265 (by decide) (fo_81 F) (ft_81 F) rfl rfl ⟨rfl, rfl⟩ rfl ?_
      exact wp_return dX11_goesAlong_273 rfl h
    · have h := h.2 hc
      refine wp_iconst (nx := 256) dX11_goesAlong_255 rfl (i32 (by decide)) ?_
      refine wp_goto (nx := 260) dX11_goesAlong_256 rfl ?_
      refine wp_putIe (kk := 48) 48 (nx := 263) clsX11 dX11_goesAlong_260 rfl kF_X11_444 (by decide) (fo_81 F) (ft_81 F) rfl rfl (fz_of (Or.inr rfl)) rfl ?_
      refine wp_aload_n (nx := 264) dX11_goesAlong_263 rfl rfl ?_
      refine wp_dup (nx := 265) dX11_goesAlong_264 rfl (k1A _) ?_
      refine wp_getIe (kk := 22) 22 (nx := 268) clsX11 dX11_goesAlong_265 rfl kF_X11_265 (by decide) (fo_81 F) (ft_81 F) rfl rfl ((upC_sK (by decide)).trans (upC_sK (by decide))) ?_
      refine wp_iconst (nx := 269) dX11_goesAlong_268 rfl (i32 (by decide)) ?_
      refine wp_iadd (nx := 270) dX11_goesAlong_269 rfl ?_
      refine wp_putIe (kk := 22) 22 (nx := 273) clsX11 dX11_goesAlong_270 rfl kF_X11_265 (by decide) (fo_81 F) (ft_81 F) rfl rfl ⟨rfl, rfl⟩ rfl ?_
      exact wp_return dX11_goesAlong_273 rfl h
theorem b_X11_goesAlong_123 {d mc ms : Nat} {l2 l3 l4 : Int} {S : MS} {C : MC} {Q : Int → MS → MC → Prop} (F : Fix S) (h : K_X11_sumOf_0 d 0 0 l2 S ((upC C 81 24 0)) (fun r1 Sq C2 => Sq = S ∧ ((0 : Int) ≤ l4 ∧ l4 < 2) ∧ ((C2 81 47 = 0 → K_X11_goesAlong_102 (d + 1) mc ms l2 l3 (w32 (l4 + 1)) S (upC (upC C2 106 l4 r1) 81 47 0) Q) ∧ (¬ C2 81 47 = 0 → ((¬ C2 81 24 = 0 → K_X11_goesAlong_102 (d + 1) mc ms l2 l3 (w32 (l4 + 1)) S (upC (upC C2 106 l4 r1) 81 47 0) Q) ∧ (C2 81 24 = 0 → K_X11_goesAlong_102 (d + 1) mc ms l2 l3 (w32 (l4 + 1)) S (upC (upC C2 106 l4 r1) 81 47 1) Q)))))) : K_X11_goesAlong_123 (d + 1) mc ms l2 l3 l4 S C Q := by
  show Wp (d + 1) mc ms M_X11_goesAlong 123 [cA 81, cU, cI l2, cI l3, cI l4] [] S C Q
  refine wp_aload_n (nx := 124) dX11_goesAlong_123 rfl rfl ?_
  refine wp_iconst (nx := 125) dX11_goesAlong_124 rfl (i32 (by decide)) ?_
  refine wp_putIe (kk := 24) 24 (nx := 128) clsX11 dX11_goesAlong_125 rfl kF_X11_275 (by decide) (fo_81 F) (ft_81 F) rfl rfl (fz_of (Or.inl rfl)) rfl ?_
  refine wp_aload_n (nx := 129) dX11_goesAlong_128 rfl rfl ?_
  refine wp_getAe (kk := 49) (nx := 132) clsX11 dX11_goesAlong_129 rfl kF_X11_106 (by decide) (fo_81 F) (ft_81 F) rfl (fp_81_49 F) ?_
  refine wp_iload (nx := 134) dX11_goesAlong_132 rfl rfl ?_
  refine wp_aload_n (nx := 135) dX11_goesAlong_134 rfl rfl ?_
  refine wp_iload_n (nx := 136) dX11_goesAlong_135 rfl rfl ?_
  refine wp_invV (nx := 139) (N := M_X11_sumOf) (as := [cI l2]) (st := [cI l4, cA 106]) (mc := 0) (ms := 0) (mc' := mc) (ms' := ms) (a := 81) clsX11 dX11_goesAlong_136 rfl mok_X11_sumOf kM_X11_292 ki_X11_sumOf ke_X11_sumOf (fo_81 F) (ft_81 F) rfl rfl (leB rfl) (leB rfl) (z0 _) (z0 _) (Wp.mono h ?_)
  intro r1 Sq C2 h
  obtain ⟨e9, h⟩ := h
  rw [e9]
  show Wp (d + 1) mc ms M_X11_goesAlong 139 [cA 81, cU, cI l2, cI l3, cI l4] [cJ r1, cI l4, cA 106] S C2 Q
  obtain ⟨hi, h⟩ := h
  refine wp_lastoreE (nx := 140) dX11_goesAlong_139 rfl (fo_106 F) (fl_106 F) hi (ft_106 F) ?_
  refine wp_aload_n (nx := 141) dX11_goesAlong_140 rfl rfl ?_
  refine wp_aload_n (nx := 142) dX11_goesAlong_141 rfl rfl ?_
  refine wp_getIe (kk := 47) 47 (nx := 145) clsX11 dX11_goesAlong_142 rfl kF_X11_438 (by decide) (fo_81 F) (ft_81 F) rfl rfl (upC_sA (by decide)) ?_
  refine wp_if_eq (nx := 148) (tg := 159) dX11_goesAlong_145 rfl rfl (fun hc => ?_) (fun hc => ?_)
  · have h := h.1 hc
    refine wp_iconst (nx := 160) dX11_goesAlong_159 rfl (i32 (by decide)) ?_
    refine wp_putIe (kk := 47) 47 (nx := 163) clsX11 dX11_goesAlong_160 rfl kF_X11_438 (by decide) (fo_81 F) (ft_81 F) rfl rfl (fz_of (Or.inl rfl)) rfl ?_
    refine wp_iinc (nx := 166) dX11_goesAlong_163 rfl rfl (by decide) ?_
    refine wp_ls (ls2 := [cA 81, cU, cI l2, cI l3, cI (w32 (l4 + 1))]) rfl ?_
    refine wp_goto (nx := 102) dX11_goesAlong_166 rfl ?_
    exact h
  · have h := h.2 hc
    refine wp_aload_n (nx := 149) dX11_goesAlong_148 rfl rfl ?_
    refine wp_getIe (kk := 24) 24 (nx := 152) clsX11 dX11_goesAlong_149 rfl kF_X11_275 (by decide) (fo_81 F) (ft_81 F) rfl rfl (upC_sA (by decide)) ?_
    refine wp_if_ne (nx := 155) (tg := 159) dX11_goesAlong_152 rfl rfl (fun hc => ?_) (fun hc => ?_)
    · have h := h.1 hc
      refine wp_iconst (nx := 160) dX11_goesAlong_159 rfl (i32 (by decide)) ?_
      refine wp_putIe (kk := 47) 47 (nx := 163) clsX11 dX11_goesAlong_160 rfl kF_X11_438 (by decide) (fo_81 F) (ft_81 F) rfl rfl (fz_of (Or.inl rfl)) rfl ?_
      refine wp_iinc (nx := 166) dX11_goesAlong_163 rfl rfl (by decide) ?_
      refine wp_ls (ls2 := [cA 81, cU, cI l2, cI l3, cI (w32 (l4 + 1))]) rfl ?_
      refine wp_goto (nx := 102) dX11_goesAlong_166 rfl ?_
      exact h
    · have h := h.2 hc
      refine wp_iconst (nx := 156) dX11_goesAlong_155 rfl (i32 (by decide)) ?_
      refine wp_goto (nx := 160) dX11_goesAlong_156 rfl ?_
      refine wp_putIe (kk := 47) 47 (nx := 163) clsX11 dX11_goesAlong_160 rfl kF_X11_438 (by decide) (fo_81 F) (ft_81 F) rfl rfl (fz_of (Or.inr rfl)) rfl ?_
      refine wp_iinc (nx := 166) dX11_goesAlong_163 rfl rfl (by decide) ?_
      refine wp_ls (ls2 := [cA 81, cU, cI l2, cI l3, cI (w32 (l4 + 1))]) rfl ?_
      refine wp_goto (nx := 102) dX11_goesAlong_166 rfl ?_
      exact h
theorem b_X11_small_0 {d mc ms : Nat} {l0 : Int} {S : MS} {C : MC} {Q : Int → MS → MC → Prop} (F : Fix S) (h : ((lCmp l0 (-1000000) < 0 → Q 1000001 S C) ∧ (¬ lCmp l0 (-1000000) < 0 → ((lCmp l0 1000000 ≤ 0 → Q (w32 l0) S C) ∧ (¬ lCmp l0 1000000 ≤ 0 → Q 1000001 S C))))) : K_X11_small_0 d mc ms l0 S C Q := by
  show Wp d mc ms M_X11_small 0 [cJ l0, cU] [] S C Q
  refine wp_lload_n (nx := 1) dX11_small_0 rfl rfl ?_
  refine wp_ldc2 (nx := 4) dX11_small_1 rfl kJ_X11_447 (i64 (by decide)) ?_
  refine wp_lcmp (nx := 5) dX11_small_4 rfl ?_
  refine wp_if_lt (nx := 8) (tg := 16) dX11_small_5 rfl rfl (fun hc => ?_) (fun hc => ?_)
  · have h := h.1 hc
    refine wp_ldc_w (nx := 19) dX11_small_16 rfl kI_X11_338 (i32 (by decide)) ?_
    refine wp_goto (nx := 24) dX11_small_19 rfl ?_
    exact wp_ireturn dX11_small_24 rfl rfl rfl h
  · have h := h.2 hc
    refine wp_lload_n (nx := 9) dX11_small_8 rfl rfl ?_
    refine wp_ldc2 (nx := 12) dX11_small_9 rfl kJ_X11_449 (i64 (by decide)) ?_
    refine wp_lcmp (nx := 13) dX11_small_12 rfl ?_
    refine wp_if_le (nx := 16) (tg := 22) dX11_small_13 rfl rfl (fun hc => ?_) (fun hc => ?_)
    · have h := h.1 hc
      refine wp_lload_n (nx := 23) dX11_small_22 rfl rfl ?_
      refine wp_l2i (nx := 24) dX11_small_23 rfl ?_
      exact wp_ireturn dX11_small_24 rfl rfl rfl h
    · have h := h.2 hc
      refine wp_ldc_w (nx := 19) dX11_small_16 rfl kI_X11_338 (i32 (by decide)) ?_
      refine wp_goto (nx := 24) dX11_small_19 rfl ?_
      exact wp_ireturn dX11_small_24 rfl rfl rfl h
theorem b_X11_obeys_0 {d mc ms : Nat} {S : MS} {C : MC} {Q : Int → MS → MC → Prop} (F : Fix S) (h : K_X11_small_0 d 0 0 (C 106 0) S C (fun r1 Sq C2 => Sq = S ∧ ((C2 81 46 < 23 ∨ 26 < C2 81 46 → K_X11_small_0 d 0 0 (C2 106 1) S C2 (fun r3 Sq C4 => Sq = S ∧ K_X11_notesKept_0 d 0 0 r1 r3 S C4 (fun r5 Sq C6 => Sq = S ∧ Q r5 S C6))) ∧ (C2 81 46 = 23 → K_X11_small_0 d 0 0 (C2 106 1) S C2 (fun r7 Sq C8 => Sq = S ∧ K_X11_givesKept_0 d 0 0 r1 r7 S C8 (fun r9 Sq C10 => Sq = S ∧ Q r9 S C10))) ∧ (C2 81 46 = 24 → K_X11_small_0 d 0 0 (C2 106 1) S C2 (fun r11 Sq C12 => Sq = S ∧ K_X11_notesKept_0 d 0 0 r1 r11 S C12 (fun r13 Sq C14 => Sq = S ∧ Q r13 S C14))) ∧ (C2 81 46 = 25 → K_X11_shiftsKept_0 d 0 0 r1 S C2 (fun r15 Sq C16 => Sq = S ∧ ((0 ≤ r15 → Q r15 S (upC C16 81 28 r15)) ∧ (¬ 0 ≤ r15 → Q r15 S (upC C16 81 28 (C16 81 28)))))) ∧ (C2 81 46 = 26 → K_X11_passesKept_0 d 0 0 S C2 (fun r17 Sq C18 => Sq = S ∧ Q r17 S C18))))) : K_X11_obeys_0 (d + 1) mc ms S C Q := by
  show Wp (d + 1) mc ms M_X11_obeys 0 [cA 81, cU, cU] [] S C Q
  refine wp_aload_n (nx := 1) dX11_obeys_0 rfl rfl ?_
  refine wp_getAe (kk := 49) (nx := 4) clsX11 dX11_obeys_1 rfl kF_X11_106 (by decide) (fo_81 F) (ft_81 F) rfl (fp_81_49 F) ?_
  refine wp_iconst (nx := 5) dX11_obeys_4 rfl (i32 (by decide)) ?_
  refine wp_laloadE (nx := 6) dX11_obeys_5 rfl (fo_106 F) (fl_106 F) (by decide) (ft_106 F) rfl ?_
  refine wp_invS (nx := 9) (N := M_X11_small) (as := [cJ (C 106 0)]) (st := []) (mc := 0) (ms := 0) (mc' := mc) (ms' := ms) dX11_obeys_6 rfl mok_X11_small kM_X11_451 ks_X11_small rfl rfl (leB rfl) (leB rfl) (z0 _) (z0 _) (Wp.mono h ?_)
  intro r1 Sq C2 h
  obtain ⟨e9, h⟩ := h
  rw [e9]
  show Wp (d + 1) mc ms M_X11_obeys 9 [cA 81, cU, cU] [cI r1] S C2 Q
  refine wp_istore_n (nx := 10) dX11_obeys_9 rfl (by decide) ?_
  refine wp_ls (ls2 := [cA 81, cI r1, cU]) rfl ?_
  refine wp_aload_n (nx := 11) dX11_obeys_10 rfl rfl ?_
  refine wp_getIe (kk := 46) 46 (nx := 14) clsX11 dX11_obeys_11 rfl kF_X11_435 (by decide) (fo_81 F) (ft_81 F) rfl rfl rfl ?_
  rcases (show (C2 81 46 < 23 ∨ 26 < C2 81 46) ∨ C2 81 46 = 23 ∨ C2 81 46 = 24 ∨ C2 81 46 = 25 ∨ C2 81 46 = 26 by omega) with hc | hc | hc | hc | hc
  · have h := h.1 hc
    refine wp_tableOut (tg := 88) dX11_obeys_14 hc rfl ?_
    refine wp_aload_n (nx := 89) dX11_obeys_88 rfl rfl ?_
    refine wp_iload_n (nx := 90) dX11_obeys_89 rfl rfl ?_
    refine wp_aload_n (nx := 91) dX11_obeys_90 rfl rfl ?_
    refine wp_getAe (kk := 49) (nx := 94) clsX11 dX11_obeys_91 rfl kF_X11_106 (by decide) (fo_81 F) (ft_81 F) rfl (fp_81_49 F) ?_
    refine wp_iconst (nx := 95) dX11_obeys_94 rfl (i32 (by decide)) ?_
    refine wp_laloadE (nx := 96) dX11_obeys_95 rfl (fo_106 F) (fl_106 F) (by decide) (ft_106 F) rfl ?_
    refine wp_invS (nx := 99) (N := M_X11_small) (as := [cJ (C2 106 1)]) (st := [cI r1, cA 81]) (mc := 0) (ms := 0) (mc' := mc) (ms' := ms) dX11_obeys_96 rfl mok_X11_small kM_X11_451 ks_X11_small rfl rfl (leB rfl) (leB rfl) (z0 _) (z0 _) (Wp.mono h ?_)
    intro r3 Sq C4 h
    obtain ⟨e9, h⟩ := h
    rw [e9]
    show Wp (d + 1) mc ms M_X11_obeys 99 [cA 81, cI r1, cU] [cI r3, cI r1, cA 81] S C4 Q
    refine wp_invV (nx := 102) (N := M_X11_notesKept) (as := [cI r1, cI r3]) (st := []) (mc := 0) (ms := 0) (mc' := mc) (ms' := ms) (a := 81) clsX11 dX11_obeys_99 rfl mok_X11_notesKept kM_X11_402 ki_X11_notesKept ke_X11_notesKept (fo_81 F) (ft_81 F) rfl rfl (leB rfl) (leB rfl) (z0 _) (z0 _) (Wp.mono h ?_)
    intro r5 Sq C6 h
    obtain ⟨e9, h⟩ := h
    rw [e9]
    show Wp (d + 1) mc ms M_X11_obeys 102 [cA 81, cI r1, cU] [cI r5] S C6 Q
    exact wp_ireturn dX11_obeys_102 rfl rfl rfl h
  · have h := h.2.1 hc
    refine wp_tableIn (tg := 44) (off := 30) dX11_obeys_14 (by omega) (by omega) (by rw [show (C2 81 46 - 23).toNat = 0 by omega]; rfl) rfl ?_
    refine wp_aload_n (nx := 45) dX11_obeys_44 rfl rfl ?_
    refine wp_iload_n (nx := 46) dX11_obeys_45 rfl rfl ?_
    refine wp_aload_n (nx := 47) dX11_obeys_46 rfl rfl ?_
    refine wp_getAe (kk := 49) (nx := 50) clsX11 dX11_obeys_47 rfl kF_X11_106 (by decide) (fo_81 F) (ft_81 F) rfl (fp_81_49 F) ?_
    refine wp_iconst (nx := 51) dX11_obeys_50 rfl (i32 (by decide)) ?_
    refine wp_laloadE (nx := 52) dX11_obeys_51 rfl (fo_106 F) (fl_106 F) (by decide) (ft_106 F) rfl ?_
    refine wp_invS (nx := 55) (N := M_X11_small) (as := [cJ (C2 106 1)]) (st := [cI r1, cA 81]) (mc := 0) (ms := 0) (mc' := mc) (ms' := ms) dX11_obeys_52 rfl mok_X11_small kM_X11_451 ks_X11_small rfl rfl (leB rfl) (leB rfl) (z0 _) (z0 _) (Wp.mono h ?_)
    intro r7 Sq C8 h
    obtain ⟨e9, h⟩ := h
    rw [e9]
    show Wp (d + 1) mc ms M_X11_obeys 55 [cA 81, cI r1, cU] [cI r7, cI r1, cA 81] S C8 Q
    refine wp_invV (nx := 58) (N := M_X11_givesKept) (as := [cI r1, cI r7]) (st := []) (mc := 0) (ms := 0) (mc' := mc) (ms' := ms) (a := 81) clsX11 dX11_obeys_55 rfl mok_X11_givesKept kM_X11_408 ki_X11_givesKept ke_X11_givesKept (fo_81 F) (ft_81 F) rfl rfl (leB rfl) (leB rfl) (z0 _) (z0 _) (Wp.mono h ?_)
    intro r9 Sq C10 h
    obtain ⟨e9, h⟩ := h
    rw [e9]
    show Wp (d + 1) mc ms M_X11_obeys 58 [cA 81, cI r1, cU] [cI r9] S C10 Q
    exact wp_ireturn dX11_obeys_58 rfl rfl rfl h
  · have h := h.2.2.1 hc
    refine wp_tableIn (tg := 88) (off := 74) dX11_obeys_14 (by omega) (by omega) (by rw [show (C2 81 46 - 23).toNat = 1 by omega]; rfl) rfl ?_
    refine wp_aload_n (nx := 89) dX11_obeys_88 rfl rfl ?_
    refine wp_iload_n (nx := 90) dX11_obeys_89 rfl rfl ?_
    refine wp_aload_n (nx := 91) dX11_obeys_90 rfl rfl ?_
    refine wp_getAe (kk := 49) (nx := 94) clsX11 dX11_obeys_91 rfl kF_X11_106 (by decide) (fo_81 F) (ft_81 F) rfl (fp_81_49 F) ?_
    refine wp_iconst (nx := 95) dX11_obeys_94 rfl (i32 (by decide)) ?_
    refine wp_laloadE (nx := 96) dX11_obeys_95 rfl (fo_106 F) (fl_106 F) (by decide) (ft_106 F) rfl ?_
    refine wp_invS (nx := 99) (N := M_X11_small) (as := [cJ (C2 106 1)]) (st := [cI r1, cA 81]) (mc := 0) (ms := 0) (mc' := mc) (ms' := ms) dX11_obeys_96 rfl mok_X11_small kM_X11_451 ks_X11_small rfl rfl (leB rfl) (leB rfl) (z0 _) (z0 _) (Wp.mono h ?_)
    intro r11 Sq C12 h
    obtain ⟨e9, h⟩ := h
    rw [e9]
    show Wp (d + 1) mc ms M_X11_obeys 99 [cA 81, cI r1, cU] [cI r11, cI r1, cA 81] S C12 Q
    refine wp_invV (nx := 102) (N := M_X11_notesKept) (as := [cI r1, cI r11]) (st := []) (mc := 0) (ms := 0) (mc' := mc) (ms' := ms) (a := 81) clsX11 dX11_obeys_99 rfl mok_X11_notesKept kM_X11_402 ki_X11_notesKept ke_X11_notesKept (fo_81 F) (ft_81 F) rfl rfl (leB rfl) (leB rfl) (z0 _) (z0 _) (Wp.mono h ?_)
    intro r13 Sq C14 h
    obtain ⟨e9, h⟩ := h
    rw [e9]
    show Wp (d + 1) mc ms M_X11_obeys 102 [cA 81, cI r1, cU] [cI r13] S C14 Q
    exact wp_ireturn dX11_obeys_102 rfl rfl rfl h
  · have h := h.2.2.2.1 hc
    refine wp_tableIn (tg := 59) (off := 45) dX11_obeys_14 (by omega) (by omega) (by rw [show (C2 81 46 - 23).toNat = 2 by omega]; rfl) rfl ?_
    refine wp_aload_n (nx := 60) dX11_obeys_59 rfl rfl ?_
    refine wp_iload_n (nx := 61) dX11_obeys_60 rfl rfl ?_
    refine wp_invV (nx := 64) (N := M_X11_shiftsKept) (as := [cI r1]) (st := []) (mc := 0) (ms := 0) (mc' := mc) (ms' := ms) (a := 81) clsX11 dX11_obeys_61 rfl mok_X11_shiftsKept kM_X11_411 ki_X11_shiftsKept ke_X11_shiftsKept (fo_81 F) (ft_81 F) rfl rfl (leB rfl) (leB rfl) (z0 _) (z0 _) (Wp.mono h ?_)
    intro r15 Sq C16 h
    obtain ⟨e9, h⟩ := h
    rw [e9]
    show Wp (d + 1) mc ms M_X11_obeys 64 [cA 81, cI r1, cU] [cI r15] S C16 Q
    refine wp_istore_n (nx := 65) dX11_obeys_64 rfl (by decide) ?_
    refine wp_ls (ls2 := [cA 81, cI r1, cI r15]) rfl ?_
    refine wp_aload_n (nx := 66) dX11_obeys_65 rfl rfl ?_
    refine wp_iload_n (nx := 67) dX11_obeys_66 rfl rfl ?_
    refine wp_if_ge (nx := 70) (tg := 77) dX11_obeys_67 rfl rfl (fun hc => ?_) (fun hc => ?_)
    · have h := h.1 hc
      refine wp_iload_n (nx := 78) dX11_obeys_77 rfl rfl ?_
      refine wp_putIe (kk := 28) 28 (nx := 81) clsX11 dX11_obeys_78 rfl kF_X11_304 (by decide) (fo_81 F) (ft_81 F) rfl rfl ⟨rfl, rfl⟩ rfl ?_
      refine wp_iload_n (nx := 82) dX11_obeys_81 rfl rfl ?_
      exact wp_ireturn dX11_obeys_82 rfl rfl rfl h
    · have h := h.2 hc
      refine wp_aload_n (nx := 71) dX11_obeys_70 rfl rfl ?_
      refine wp_getIe (kk := 28) 28 (nx := 74) clsX11 dX11_obeys_71 rfl kF_X11_304 (by decide) (fo_81 F) (ft_81 F) rfl rfl rfl ?_
      refine wp_goto (nx := 78) dX11_obeys_74 rfl ?_
      refine wp_putIe (kk := 28) 28 (nx := 81) clsX11 dX11_obeys_78 rfl kF_X11_304 (by decide) (fo_81 F) (ft_81 F) rfl rfl ⟨rfl, rfl⟩ rfl ?_
      refine wp_iload_n (nx := 82) dX11_obeys_81 rfl rfl ?_
      exact wp_ireturn dX11_obeys_82 rfl rfl rfl h
  · have h := h.2.2.2.2 hc
    refine wp_tableIn (tg := 83) (off := 69) dX11_obeys_14 (by omega) (by omega) (by rw [show (C2 81 46 - 23).toNat = 3 by omega]; rfl) rfl ?_
    refine wp_aload_n (nx := 84) dX11_obeys_83 rfl rfl ?_
    refine wp_invV (nx := 87) (N := M_X11_passesKept) (as := []) (st := []) (mc := 0) (ms := 0) (mc' := mc) (ms' := ms) (a := 81) clsX11 dX11_obeys_84 rfl mok_X11_passesKept kM_X11_414 ki_X11_passesKept ke_X11_passesKept (fo_81 F) (ft_81 F) rfl rfl (leB rfl) (leB rfl) (z0 _) (z0 _) (Wp.mono h ?_)
    intro r17 Sq C18 h
    obtain ⟨e9, h⟩ := h
    rw [e9]
    show Wp (d + 1) mc ms M_X11_obeys 87 [cA 81, cI r1, cU] [cI r17] S C18 Q
    exact wp_ireturn dX11_obeys_87 rfl rfl rfl h
theorem b_X11_runs_0 {d mc ms : Nat} {l1 : Int} {S : MS} {C : MC} {Q : Int → MS → MC → Prop} (F : Fix S) (h : K_X11_goesAlong_0 d 0 0 l1 0 S C (fun r1 Sq C2 => Sq = S ∧ K_X11_runs_19 (d + 1) mc ms l1 (C2 81 45) (C2 81 22) 0 S C2 Q)) : K_X11_runs_0 (d + 1) mc ms l1 S C Q := by
  show Wp (d + 1) mc ms M_X11_runs 0 [cA 81, cI l1, cU, cU, cU] [] S C Q
  refine wp_aload_n (nx := 1) dX11_runs_0 rfl rfl ?_
  refine wp_iload_n (nx := 2) dX11_runs_1 rfl rfl ?_
  refine wp_iconst (nx := 3) dX11_runs_2 rfl (i32 (by decide)) ?_
  refine wp_invV (nx := 6) (N := M_X11_goesAlong) (as := [cI l1, cI 0]) (st := []) (mc := 0) (ms := 0) (mc' := mc) (ms' := ms) (a := 81) clsX11 dX11_runs_3 rfl mok_X11_goesAlong kM_X11_455 ki_X11_goesAlong ke_X11_goesAlong (fo_81 F) (ft_81 F) rfl rfl (leB rfl) (leB rfl) (z0 _) (z0 _) (Wp.mono h ?_)
  intro r1 Sq C2 h
  obtain ⟨e9, h⟩ := h
  rw [e9]
  show Wp (d + 1) mc ms M_X11_runs 6 [cA 81, cI l1, cU, cU, cU] [] S C2 Q
  refine wp_aload_n (nx := 7) dX11_runs_6 rfl rfl ?_
  refine wp_getIe (kk := 45) 45 (nx := 10) clsX11 dX11_runs_7 rfl kF_X11_441 (by decide) (fo_81 F) (ft_81 F) rfl rfl rfl ?_
  refine wp_istore_n (nx := 11) dX11_runs_10 rfl (by decide) ?_
  refine wp_ls (ls2 := [cA 81, cI l1, cI (C2 81 45), cU, cU]) rfl ?_
  refine wp_aload_n (nx := 12) dX11_runs_11 rfl rfl ?_
  refine wp_getIe (kk := 22) 22 (nx := 15) clsX11 dX11_runs_12 rfl kF_X11_265 (by decide) (fo_81 F) (ft_81 F) rfl rfl rfl ?_
  refine wp_istore_n (nx := 16) dX11_runs_15 rfl (by decide) ?_
  refine wp_ls (ls2 := [cA 81, cI l1, cI (C2 81 45), cI (C2 81 22), cU]) rfl ?_
  refine wp_iconst (nx := 17) dX11_runs_16 rfl (i32 (by decide)) ?_
  refine wp_istore (nx := 19) dX11_runs_17 rfl (by decide) ?_
  refine wp_ls (ls2 := [cA 81, cI l1, cI (C2 81 45), cI (C2 81 22), cI 0]) rfl ?_
  exact h
theorem b_X11_runs_19 {d mc ms : Nat} {l1 l2 l3 l4 : Int} {S : MS} {C : MC} {Q : Int → MS → MC → Prop} (F : Fix S) (h : ((l2 ≤ l4 → Q 1 S (upC C 81 44 l3)) ∧ (¬ l2 ≤ l4 → K_X11_goesAlong_0 d 0 0 l1 1 S C (fun r1 Sq C2 => Sq = S ∧ ((¬ C2 81 48 = 0 → ((C2 81 47 = 0 → Q 0 S C2) ∧ (¬ C2 81 47 = 0 → K_X11_obeys_0 d 0 0 S C2 (fun r3 Sq C4 => Sq = S ∧ ((0 ≤ r3 → K_X11_runs_19 (d + 1) mc ms l1 l2 l3 (w32 (l4 + 1)) S (upC C4 81 27 (w32 ((C4 81 27) + 1))) Q) ∧ (¬ 0 ≤ r3 → Q 0 S C4)))))) ∧ (C2 81 48 = 0 → K_X11_runs_19 (d + 1) mc ms l1 l2 l3 (w32 (l4 + 1)) S C2 Q)))))) : K_X11_runs_19 (d + 1) mc ms l1 l2 l3 l4 S C Q := by
  show Wp (d + 1) mc ms M_X11_runs 19 [cA 81, cI l1, cI l2, cI l3, cI l4] [] S C Q
  refine wp_iload (nx := 21) dX11_runs_19 rfl rfl ?_
  refine wp_iload_n (nx := 22) dX11_runs_21 rfl rfl ?_
  refine wp_icmp_ge (nx := 25) (tg := 73) dX11_runs_22 rfl rfl (fun hc => ?_) (fun hc => ?_)
  · have h := h.1 hc
    refine wp_aload_n (nx := 74) dX11_runs_73 rfl rfl ?_
    refine wp_iload_n (nx := 75) dX11_runs_74 rfl rfl ?_
    refine wp_putIe (kk := 44) 44 (nx := 78) clsX11 dX11_runs_75 rfl kF_X11_420 (by decide) (fo_81 F) (ft_81 F) rfl rfl ⟨rfl, rfl⟩ rfl ?_
    refine wp_iconst (nx := 79) dX11_runs_78 rfl (i32 (by decide)) ?_
    exact wp_ireturn dX11_runs_79 rfl rfl (nz_of (Or.inr rfl)) h
  · have h := h.2 hc
    refine wp_aload_n (nx := 26) dX11_runs_25 rfl rfl ?_
    refine wp_iload_n (nx := 27) dX11_runs_26 rfl rfl ?_
    refine wp_iconst (nx := 28) dX11_runs_27 rfl (i32 (by decide)) ?_
    refine wp_invV (nx := 31) (N := M_X11_goesAlong) (as := [cI l1, cI 1]) (st := []) (mc := 0) (ms := 0) (mc' := mc) (ms' := ms) (a := 81) clsX11 dX11_runs_28 rfl mok_X11_goesAlong kM_X11_455 ki_X11_goesAlong ke_X11_goesAlong (fo_81 F) (ft_81 F) rfl rfl (leB rfl) (leB rfl) (z0 _) (z0 _) (Wp.mono h ?_)
    intro r1 Sq C2 h
    obtain ⟨e9, h⟩ := h
    rw [e9]
    show Wp (d + 1) mc ms M_X11_runs 31 [cA 81, cI l1, cI l2, cI l3, cI l4] [] S C2 Q
    refine wp_aload_n (nx := 32) dX11_runs_31 rfl rfl ?_
    refine wp_getIe (kk := 48) 48 (nx := 35) clsX11 dX11_runs_32 rfl kF_X11_444 (by decide) (fo_81 F) (ft_81 F) rfl rfl rfl ?_
    refine wp_if_ne (nx := 38) (tg := 41) dX11_runs_35 rfl rfl (fun hc => ?_) (fun hc => ?_)
    · have h := h.1 hc
      refine wp_aload_n (nx := 42) dX11_runs_41 rfl rfl ?_
      refine wp_getIe (kk := 47) 47 (nx := 45) clsX11 dX11_runs_42 rfl kF_X11_438 (by decide) (fo_81 F) (ft_81 F) rfl rfl rfl ?_
      refine wp_if_eq (nx := 48) (tg := 55) dX11_runs_45 rfl rfl (fun hc => ?_) (fun hc => ?_)
      · have h := h.1 hc
        refine wp_iconst (nx := 56) dX11_runs_55 rfl (i32 (by decide)) ?_
        exact wp_ireturn dX11_runs_56 rfl rfl (nz_of (Or.inl rfl)) h
      · have h := h.2 hc
        refine wp_aload_n (nx := 49) dX11_runs_48 rfl rfl ?_
        refine wp_invV (nx := 52) (N := M_X11_obeys) (as := []) (st := []) (mc := 0) (ms := 0) (mc' := mc) (ms' := ms) (a := 81) clsX11 dX11_runs_49 rfl mok_X11_obeys kM_X11_459 ki_X11_obeys ke_X11_obeys (fo_81 F) (ft_81 F) rfl rfl (leB rfl) (leB rfl) (z0 _) (z0 _) (Wp.mono h ?_)
        intro r3 Sq C4 h
        obtain ⟨e9, h⟩ := h
        rw [e9]
        show Wp (d + 1) mc ms M_X11_runs 52 [cA 81, cI l1, cI l2, cI l3, cI l4] [cI r3] S C4 Q
        refine wp_if_ge (nx := 55) (tg := 57) dX11_runs_52 rfl rfl (fun hc => ?_) (fun hc => ?_)
        · have h := h.1 hc
          refine wp_aload_n (nx := 58) dX11_runs_57 rfl rfl ?_
          refine wp_dup (nx := 59) dX11_runs_58 rfl (k1A _) ?_
          refine wp_getIe (kk := 27) 27 (nx := 62) clsX11 dX11_runs_59 rfl kF_X11_301 (by decide) (fo_81 F) (ft_81 F) rfl rfl rfl ?_
          refine wp_iconst (nx := 63) dX11_runs_62 rfl (i32 (by decide)) ?_
          refine wp_iadd (nx := 64) dX11_runs_63 rfl ?_
          refine wp_putIe (kk := 27) 27 (nx := 67) clsX11 dX11_runs_64 rfl kF_X11_301 (by decide) (fo_81 F) (ft_81 F) rfl rfl ⟨rfl, rfl⟩ rfl ?_
          refine wp_iinc (nx := 70) dX11_runs_67 rfl rfl (by decide) ?_
          refine wp_ls (ls2 := [cA 81, cI l1, cI l2, cI l3, cI (w32 (l4 + 1))]) rfl ?_
          refine wp_goto (nx := 19) dX11_runs_70 rfl ?_
          exact h
        · have h := h.2 hc
          refine wp_iconst (nx := 56) dX11_runs_55 rfl (i32 (by decide)) ?_
          exact wp_ireturn dX11_runs_56 rfl rfl (nz_of (Or.inl rfl)) h
    · have h := h.2 hc
      refine wp_goto (nx := 67) dX11_runs_38 rfl ?_
      refine wp_iinc (nx := 70) dX11_runs_67 rfl rfl (by decide) ?_
      refine wp_ls (ls2 := [cA 81, cI l1, cI l2, cI l3, cI (w32 (l4 + 1))]) rfl ?_
      refine wp_goto (nx := 19) dX11_runs_70 rfl ?_
      exact h
theorem b_X11_draws_0 {d mc ms : Nat} {l1 : Int} {S : MS} {C : MC} {Q : Int → MS → MC → Prop} (F : Fix S) (h : (l1 ≠ 0) ∧ Q (w32 (Int.tmod (w32 (w64 (Int.tmod (w64 ((w64 (1103 * (C 81 52))) + 12345)) 1000003))) l1)) S (upC C 81 52 (w32 (w64 (Int.tmod (w64 ((w64 (1103 * (C 81 52))) + 12345)) 1000003))))) : K_X11_draws_0 d mc ms l1 S C Q := by
  show Wp d mc ms M_X11_draws 0 [cA 81, cI l1] [] S C Q
  refine wp_aload_n (nx := 1) dX11_draws_0 rfl rfl ?_
  refine wp_ldc2 (nx := 4) dX11_draws_1 rfl kJ_X11_462 (i64 (by decide)) ?_
  refine wp_aload_n (nx := 5) dX11_draws_4 rfl rfl ?_
  refine wp_getIe (kk := 52) 52 (nx := 8) clsX11 dX11_draws_5 rfl kF_X11_464 (by decide) (fo_81 F) (ft_81 F) rfl rfl rfl ?_
  refine wp_i2l (nx := 9) dX11_draws_8 rfl ?_
  refine wp_lmul (nx := 10) dX11_draws_9 rfl ?_
  refine wp_ldc2 (nx := 13) dX11_draws_10 rfl kJ_X11_467 (i64 (by decide)) ?_
  refine wp_ladd (nx := 14) dX11_draws_13 rfl ?_
  refine wp_ldc2 (nx := 17) dX11_draws_14 rfl kJ_X11_469 (i64 (by decide)) ?_
  refine wp_lrem (nx := 18) dX11_draws_17 rfl (by decide) ?_
  refine wp_l2i (nx := 19) dX11_draws_18 rfl ?_
  refine wp_putIe (kk := 52) 52 (nx := 22) clsX11 dX11_draws_19 rfl kF_X11_464 (by decide) (fo_81 F) (ft_81 F) rfl rfl ⟨rfl, rfl⟩ rfl ?_
  refine wp_aload_n (nx := 23) dX11_draws_22 rfl rfl ?_
  refine wp_getIe (kk := 52) 52 (nx := 26) clsX11 dX11_draws_23 rfl kF_X11_464 (by decide) (fo_81 F) (ft_81 F) rfl rfl upC_h ?_
  refine wp_iload_n (nx := 27) dX11_draws_26 rfl rfl ?_
  obtain ⟨h0, h⟩ := h
  refine wp_irem (nx := 28) dX11_draws_27 rfl h0 ?_
  exact wp_ireturn dX11_draws_28 rfl rfl rfl h
theorem b_X11_happens_0 {d mc ms : Nat} {S : MS} {C : MC} {Q : Int → MS → MC → Prop} (F : Fix S) (h : K_X11_draws_0 d 0 0 16 S C (fun r1 Sq C2 => Sq = S ∧ K_X11_draws_0 d 0 0 8 S C2 (fun r3 Sq C4 => Sq = S ∧ K_X11_many_0 d 0 0 S C4 (fun r5 Sq C6 => Sq = S ∧ K_X11_draws_0 d 0 0 r5 S C6 (fun r7 Sq C8 => Sq = S ∧ K_X11_draws_0 d 0 0 3 S C8 (fun r9 Sq C10 => Sq = S ∧ ((¬ r9 = 0 → ((¬ r9 = 1 → Q 0 S C10) ∧ (r9 = 1 → ((0 : Int) ≤ w32 (0 + r3) ∧ w32 (0 + r3) < 5656) ∧ Q 0 S (upC C10 83 (w32 (0 + r3)) r7)))) ∧ (r9 = 0 → ((0 : Int) ≤ w32 (8 + r1) ∧ w32 (8 + r1) < 5656) ∧ ((0 : Int) ≤ w32 (8 + r1) ∧ w32 (8 + r1) < 5656) ∧ ((¬ r9 = 1 → Q 0 S (upC C10 83 (w32 (8 + r1)) (iXor (C10 83 (w32 (8 + r1))) (iShl 1 r3)))) ∧ (r9 = 1 → ((0 : Int) ≤ w32 (0 + r3) ∧ w32 (0 + r3) < 5656) ∧ Q 0 S (upC (upC C10 83 (w32 (8 + r1)) (iXor (C10 83 (w32 (8 + r1))) (iShl 1 r3))) 83 (w32 (0 + r3)) r7))))))))))) : K_X11_happens_0 (d + 1) mc ms S C Q := by
  show Wp (d + 1) mc ms M_X11_happens 0 [cA 81, cU, cU, cU, cU] [] S C Q
  refine wp_aload_n (nx := 1) dX11_happens_0 rfl rfl ?_
  refine wp_bipush (nx := 3) dX11_happens_1 rfl ⟨by decide, i32 (by decide)⟩ ?_
  refine wp_invV (nx := 6) (N := M_X11_draws) (as := [cI 16]) (st := []) (mc := 0) (ms := 0) (mc' := mc) (ms' := ms) (a := 81) clsX11 dX11_happens_3 rfl mok_X11_draws kM_X11_471 ki_X11_draws ke_X11_draws (fo_81 F) (ft_81 F) rfl rfl (leB rfl) (leB rfl) (z0 _) (z0 _) (Wp.mono h ?_)
  intro r1 Sq C2 h
  obtain ⟨e9, h⟩ := h
  rw [e9]
  show Wp (d + 1) mc ms M_X11_happens 6 [cA 81, cU, cU, cU, cU] [cI r1] S C2 Q
  refine wp_istore_n (nx := 7) dX11_happens_6 rfl (by decide) ?_
  refine wp_ls (ls2 := [cA 81, cI r1, cU, cU, cU]) rfl ?_
  refine wp_aload_n (nx := 8) dX11_happens_7 rfl rfl ?_
  refine wp_bipush (nx := 10) dX11_happens_8 rfl ⟨by decide, i32 (by decide)⟩ ?_
  refine wp_invV (nx := 13) (N := M_X11_draws) (as := [cI 8]) (st := []) (mc := 0) (ms := 0) (mc' := mc) (ms' := ms) (a := 81) clsX11 dX11_happens_10 rfl mok_X11_draws kM_X11_471 ki_X11_draws ke_X11_draws (fo_81 F) (ft_81 F) rfl rfl (leB rfl) (leB rfl) (z0 _) (z0 _) (Wp.mono h ?_)
  intro r3 Sq C4 h
  obtain ⟨e9, h⟩ := h
  rw [e9]
  show Wp (d + 1) mc ms M_X11_happens 13 [cA 81, cI r1, cU, cU, cU] [cI r3] S C4 Q
  refine wp_istore_n (nx := 14) dX11_happens_13 rfl (by decide) ?_
  refine wp_ls (ls2 := [cA 81, cI r1, cI r3, cU, cU]) rfl ?_
  refine wp_aload_n (nx := 15) dX11_happens_14 rfl rfl ?_
  refine wp_aload_n (nx := 16) dX11_happens_15 rfl rfl ?_
  refine wp_invV (nx := 19) (N := M_X11_many) (as := []) (st := [cA 81]) (mc := 0) (ms := 0) (mc' := mc) (ms' := ms) (a := 81) clsX11 dX11_happens_16 rfl mok_X11_many kM_X11_118 ki_X11_many ke_X11_many (fo_81 F) (ft_81 F) rfl rfl (leB rfl) (leB rfl) (z0 _) (z0 _) (Wp.mono h ?_)
  intro r5 Sq C6 h
  obtain ⟨e9, h⟩ := h
  rw [e9]
  show Wp (d + 1) mc ms M_X11_happens 19 [cA 81, cI r1, cI r3, cU, cU] [cI r5, cA 81] S C6 Q
  refine wp_invV (nx := 22) (N := M_X11_draws) (as := [cI r5]) (st := []) (mc := 0) (ms := 0) (mc' := mc) (ms' := ms) (a := 81) clsX11 dX11_happens_19 rfl mok_X11_draws kM_X11_471 ki_X11_draws ke_X11_draws (fo_81 F) (ft_81 F) rfl rfl (leB rfl) (leB rfl) (z0 _) (z0 _) (Wp.mono h ?_)
  intro r7 Sq C8 h
  obtain ⟨e9, h⟩ := h
  rw [e9]
  show Wp (d + 1) mc ms M_X11_happens 22 [cA 81, cI r1, cI r3, cU, cU] [cI r7] S C8 Q
  refine wp_istore_n (nx := 23) dX11_happens_22 rfl (by decide) ?_
  refine wp_ls (ls2 := [cA 81, cI r1, cI r3, cI r7, cU]) rfl ?_
  refine wp_aload_n (nx := 24) dX11_happens_23 rfl rfl ?_
  refine wp_iconst (nx := 25) dX11_happens_24 rfl (i32 (by decide)) ?_
  refine wp_invV (nx := 28) (N := M_X11_draws) (as := [cI 3]) (st := []) (mc := 0) (ms := 0) (mc' := mc) (ms' := ms) (a := 81) clsX11 dX11_happens_25 rfl mok_X11_draws kM_X11_471 ki_X11_draws ke_X11_draws (fo_81 F) (ft_81 F) rfl rfl (leB rfl) (leB rfl) (z0 _) (z0 _) (Wp.mono h ?_)
  intro r9 Sq C10 h
  obtain ⟨e9, h⟩ := h
  rw [e9]
  show Wp (d + 1) mc ms M_X11_happens 28 [cA 81, cI r1, cI r3, cI r7, cU] [cI r9] S C10 Q
  refine wp_istore (nx := 30) dX11_happens_28 rfl (by decide) ?_
  refine wp_ls (ls2 := [cA 81, cI r1, cI r3, cI r7, cI r9]) rfl ?_
  refine wp_iload (nx := 32) dX11_happens_30 rfl rfl ?_
  refine wp_if_ne (nx := 35) (tg := 50) dX11_happens_32 rfl rfl (fun hc => ?_) (fun hc => ?_)
  · have h := h.1 hc
    refine wp_iload (nx := 52) dX11_happens_50 rfl rfl ?_
    refine wp_iconst (nx := 53) dX11_happens_52 rfl (i32 (by decide)) ?_
    refine wp_icmp_ne (nx := 56) (tg := 65) dX11_happens_53 rfl rfl (fun hc => ?_) (fun hc => ?_)
    · have h := h.1 hc
      exact wp_return dX11_happens_65 rfl h
    · have h := h.2 hc
      refine wp_aload_n (nx := 57) dX11_happens_56 rfl rfl ?_
      refine wp_getAe (kk := 2) (nx := 60) clsX11 dX11_happens_57 rfl kF_X11_28 (by decide) (fo_81 F) (ft_81 F) rfl (fp_81_2 F) ?_
      refine wp_iconst (nx := 61) dX11_happens_60 rfl (i32 (by decide)) ?_
      refine wp_iload_n (nx := 62) dX11_happens_61 rfl rfl ?_
      refine wp_iadd (nx := 63) dX11_happens_62 rfl ?_
      refine wp_iload_n (nx := 64) dX11_happens_63 rfl rfl ?_
      obtain ⟨hi, h⟩ := h
      refine wp_iastoreE (nx := 65) dX11_happens_64 rfl (fo_83 F) (fl_83 F) hi (ft_83 F) ?_
      exact wp_return dX11_happens_65 rfl h
  · have h := h.2 hc
    refine wp_aload_n (nx := 36) dX11_happens_35 rfl rfl ?_
    refine wp_getAe (kk := 2) (nx := 39) clsX11 dX11_happens_36 rfl kF_X11_28 (by decide) (fo_81 F) (ft_81 F) rfl (fp_81_2 F) ?_
    refine wp_bipush (nx := 41) dX11_happens_39 rfl ⟨by decide, i32 (by decide)⟩ ?_
    refine wp_iload_n (nx := 42) dX11_happens_41 rfl rfl ?_
    refine wp_iadd (nx := 43) dX11_happens_42 rfl ?_
    refine wp_dup2 (nx := 44) dX11_happens_43 rfl (k1I _) (k1A _) ?_
    obtain ⟨hi, h⟩ := h
    refine wp_ialoadE (nx := 45) dX11_happens_44 rfl (fo_83 F) (fl_83 F) hi (ft_83 F) rfl ?_
    refine wp_iconst (nx := 46) dX11_happens_45 rfl (i32 (by decide)) ?_
    refine wp_iload_n (nx := 47) dX11_happens_46 rfl rfl ?_
    refine wp_ishl (nx := 48) dX11_happens_47 rfl ?_
    refine wp_ixor (nx := 49) dX11_happens_48 rfl ?_
    obtain ⟨hi, h⟩ := h
    refine wp_iastoreE (nx := 50) dX11_happens_49 rfl (fo_83 F) (fl_83 F) hi (ft_83 F) ?_
    refine wp_iload (nx := 52) dX11_happens_50 rfl rfl ?_
    refine wp_iconst (nx := 53) dX11_happens_52 rfl (i32 (by decide)) ?_
    refine wp_icmp_ne (nx := 56) (tg := 65) dX11_happens_53 rfl rfl (fun hc => ?_) (fun hc => ?_)
    · have h := h.1 hc
      exact wp_return dX11_happens_65 rfl h
    · have h := h.2 hc
      refine wp_aload_n (nx := 57) dX11_happens_56 rfl rfl ?_
      refine wp_getAe (kk := 2) (nx := 60) clsX11 dX11_happens_57 rfl kF_X11_28 (by decide) (fo_81 F) (ft_81 F) rfl (fp_81_2 F) ?_
      refine wp_iconst (nx := 61) dX11_happens_60 rfl (i32 (by decide)) ?_
      refine wp_iload_n (nx := 62) dX11_happens_61 rfl rfl ?_
      refine wp_iadd (nx := 63) dX11_happens_62 rfl ?_
      refine wp_iload_n (nx := 64) dX11_happens_63 rfl rfl ?_
      obtain ⟨hi, h⟩ := h
      refine wp_iastoreE (nx := 65) dX11_happens_64 rfl (fo_83 F) (fl_83 F) hi (ft_83 F) ?_
      exact wp_return dX11_happens_65 rfl h
theorem b_X11_evenings_0 {d mc ms : Nat} {l1 l2 : Int} {S : MS} {C : MC} {Q : Int → MS → MC → Prop} (F : Fix S) (h : K_X11_lies_0 d 0 0 l1 0 1000000 S C (fun r1 Sq C2 => Sq = S ∧ ((r1 = 0 → K_X11_refuses_0 d 0 0 (-1) S C2 (fun r3 Sq C4 => Sq = S ∧ Q r3 S C4)) ∧ (¬ r1 = 0 → K_X11_lies_0 d 0 0 l2 1 60 S C2 (fun r5 Sq C6 => Sq = S ∧ ((¬ r5 = 0 → K_X11_many_0 d 0 0 S C6 (fun r7 Sq C8 => Sq = S ∧ ((¬ r7 = 0 → K_X11_laysAside_0 d 0 0 0 S ((upC (upC C8 81 52 l1) 81 51 1)) (fun r9 Sq C10 => Sq = S ∧ K_X11_evenings_60 (d + 1) mc ms l2 0 0 S C10 Q)) ∧ (r7 = 0 → K_X11_refuses_0 d 0 0 (-3) S C8 (fun r11 Sq C12 => Sq = S ∧ Q r11 S C12))))) ∧ (r5 = 0 → K_X11_refuses_0 d 0 0 (-1) S C6 (fun r13 Sq C14 => Sq = S ∧ Q r13 S C14)))))))) : K_X11_evenings_0 (d + 1) mc ms l1 l2 S C Q := by
  show Wp (d + 1) mc ms M_X11_evenings 0 [cA 81, cI l1, cI l2, cU, cU] [] S C Q
  refine wp_iload_n (nx := 1) dX11_evenings_0 rfl rfl ?_
  refine wp_iconst (nx := 2) dX11_evenings_1 rfl (i32 (by decide)) ?_
  refine wp_ldc (nx := 4) dX11_evenings_2 rfl kI_X11_174 (i32 (by decide)) ?_
  refine wp_invS (nx := 7) (N := M_X11_lies) (as := [cI l1, cI 0, cI 1000000]) (st := []) (mc := 0) (ms := 0) (mc' := mc) (ms' := ms) dX11_evenings_4 rfl mok_X11_lies kM_X11_18 ks_X11_lies rfl rfl (leB rfl) (leB rfl) (z0 _) (z0 _) (Wp.mono h ?_)
  intro r1 Sq C2 h
  obtain ⟨e9, h⟩ := h
  rw [e9]
  show Wp (d + 1) mc ms M_X11_evenings 7 [cA 81, cI l1, cI l2, cU, cU] [cI r1] S C2 Q
  refine wp_if_eq (nx := 10) (tg := 20) dX11_evenings_7 rfl rfl (fun hc => ?_) (fun hc => ?_)
  · have h := h.1 hc
    refine wp_aload_n (nx := 21) dX11_evenings_20 rfl rfl ?_
    refine wp_iconst (nx := 22) dX11_evenings_21 rfl (i32 (by decide)) ?_
    refine wp_invV (nx := 25) (N := M_X11_refuses) (as := [cI (-1)]) (st := []) (mc := 0) (ms := 0) (mc' := mc) (ms' := ms) (a := 81) clsX11 dX11_evenings_22 rfl mok_X11_refuses kM_X11_112 ki_X11_refuses ke_X11_refuses (fo_81 F) (ft_81 F) rfl rfl (leB rfl) (leB rfl) (z0 _) (z0 _) (Wp.mono h ?_)
    intro r3 Sq C4 h
    obtain ⟨e9, h⟩ := h
    rw [e9]
    show Wp (d + 1) mc ms M_X11_evenings 25 [cA 81, cI l1, cI l2, cU, cU] [cI r3] S C4 Q
    exact wp_ireturn dX11_evenings_25 rfl rfl rfl h
  · have h := h.2 hc
    refine wp_iload_n (nx := 11) dX11_evenings_10 rfl rfl ?_
    refine wp_iconst (nx := 12) dX11_evenings_11 rfl (i32 (by decide)) ?_
    refine wp_bipush (nx := 14) dX11_evenings_12 rfl ⟨by decide, i32 (by decide)⟩ ?_
    refine wp_invS (nx := 17) (N := M_X11_lies) (as := [cI l2, cI 1, cI 60]) (st := []) (mc := 0) (ms := 0) (mc' := mc) (ms' := ms) dX11_evenings_14 rfl mok_X11_lies kM_X11_18 ks_X11_lies rfl rfl (leB rfl) (leB rfl) (z0 _) (z0 _) (Wp.mono h ?_)
    intro r5 Sq C6 h
    obtain ⟨e9, h⟩ := h
    rw [e9]
    show Wp (d + 1) mc ms M_X11_evenings 17 [cA 81, cI l1, cI l2, cU, cU] [cI r5] S C6 Q
    refine wp_if_ne (nx := 20) (tg := 26) dX11_evenings_17 rfl rfl (fun hc => ?_) (fun hc => ?_)
    · have h := h.1 hc
      refine wp_aload_n (nx := 27) dX11_evenings_26 rfl rfl ?_
      refine wp_invV (nx := 30) (N := M_X11_many) (as := []) (st := []) (mc := 0) (ms := 0) (mc' := mc) (ms' := ms) (a := 81) clsX11 dX11_evenings_27 rfl mok_X11_many kM_X11_118 ki_X11_many ke_X11_many (fo_81 F) (ft_81 F) rfl rfl (leB rfl) (leB rfl) (z0 _) (z0 _) (Wp.mono h ?_)
      intro r7 Sq C8 h
      obtain ⟨e9, h⟩ := h
      rw [e9]
      show Wp (d + 1) mc ms M_X11_evenings 30 [cA 81, cI l1, cI l2, cU, cU] [cI r7] S C8 Q
      refine wp_if_ne (nx := 33) (tg := 40) dX11_evenings_30 rfl rfl (fun hc => ?_) (fun hc => ?_)
      · have h := h.1 hc
        refine wp_aload_n (nx := 41) dX11_evenings_40 rfl rfl ?_
        refine wp_iload_n (nx := 42) dX11_evenings_41 rfl rfl ?_
        refine wp_putIe (kk := 52) 52 (nx := 45) clsX11 dX11_evenings_42 rfl kF_X11_464 (by decide) (fo_81 F) (ft_81 F) rfl rfl ⟨rfl, rfl⟩ rfl ?_
        refine wp_aload_n (nx := 46) dX11_evenings_45 rfl rfl ?_
        refine wp_iconst (nx := 47) dX11_evenings_46 rfl (i32 (by decide)) ?_
        refine wp_putIe (kk := 51) 51 (nx := 50) clsX11 dX11_evenings_47 rfl kF_X11_474 (by decide) (fo_81 F) (ft_81 F) rfl rfl (fz_of (Or.inr rfl)) rfl ?_
        refine wp_aload_n (nx := 51) dX11_evenings_50 rfl rfl ?_
        refine wp_iconst (nx := 52) dX11_evenings_51 rfl (i32 (by decide)) ?_
        refine wp_invV (nx := 55) (N := M_X11_laysAside) (as := [cI 0]) (st := []) (mc := 0) (ms := 0) (mc' := mc) (ms' := ms) (a := 81) clsX11 dX11_evenings_52 rfl mok_X11_laysAside kM_X11_417 ki_X11_laysAside ke_X11_laysAside (fo_81 F) (ft_81 F) rfl rfl (leB rfl) (leB rfl) (z0 _) (z0 _) (Wp.mono h ?_)
        intro r9 Sq C10 h
        obtain ⟨e9, h⟩ := h
        rw [e9]
        show Wp (d + 1) mc ms M_X11_evenings 55 [cA 81, cI l1, cI l2, cU, cU] [] S C10 Q
        refine wp_iconst (nx := 56) dX11_evenings_55 rfl (i32 (by decide)) ?_
        refine wp_istore_n (nx := 57) dX11_evenings_56 rfl (by decide) ?_
        refine wp_ls (ls2 := [cA 81, cI l1, cI l2, cI 0, cU]) rfl ?_
        refine wp_iconst (nx := 58) dX11_evenings_57 rfl (i32 (by decide)) ?_
        refine wp_istore (nx := 60) dX11_evenings_58 rfl (by decide) ?_
        refine wp_ls (ls2 := [cA 81, cI l1, cI l2, cI 0, cI 0]) rfl ?_
        refine wp_fg [true, false, true, true, true] (ls2 := [cA 81, cU, cI l2, cI 0, cI 0]) rfl ?_
        exact h
      · have h := h.2 hc
        refine wp_aload_n (nx := 34) dX11_evenings_33 rfl rfl ?_
        refine wp_bipush (nx := 36) dX11_evenings_34 rfl ⟨by decide, i32 (by decide)⟩ ?_
        refine wp_invV (nx := 39) (N := M_X11_refuses) (as := [cI (-3)]) (st := []) (mc := 0) (ms := 0) (mc' := mc) (ms' := ms) (a := 81) clsX11 dX11_evenings_36 rfl mok_X11_refuses kM_X11_112 ki_X11_refuses ke_X11_refuses (fo_81 F) (ft_81 F) rfl rfl (leB rfl) (leB rfl) (z0 _) (z0 _) (Wp.mono h ?_)
        intro r11 Sq C12 h
        obtain ⟨e9, h⟩ := h
        rw [e9]
        show Wp (d + 1) mc ms M_X11_evenings 39 [cA 81, cI l1, cI l2, cU, cU] [cI r11] S C12 Q
        exact wp_ireturn dX11_evenings_39 rfl rfl rfl h
    · have h := h.2 hc
      refine wp_aload_n (nx := 21) dX11_evenings_20 rfl rfl ?_
      refine wp_iconst (nx := 22) dX11_evenings_21 rfl (i32 (by decide)) ?_
      refine wp_invV (nx := 25) (N := M_X11_refuses) (as := [cI (-1)]) (st := []) (mc := 0) (ms := 0) (mc' := mc) (ms' := ms) (a := 81) clsX11 dX11_evenings_22 rfl mok_X11_refuses kM_X11_112 ki_X11_refuses ke_X11_refuses (fo_81 F) (ft_81 F) rfl rfl (leB rfl) (leB rfl) (z0 _) (z0 _) (Wp.mono h ?_)
      intro r13 Sq C14 h
      obtain ⟨e9, h⟩ := h
      rw [e9]
      show Wp (d + 1) mc ms M_X11_evenings 25 [cA 81, cI l1, cI l2, cU, cU] [cI r13] S C14 Q
      exact wp_ireturn dX11_evenings_25 rfl rfl rfl h
theorem b_X11_evenings_60 {d mc ms : Nat} {l2 l3 l4 : Int} {S : MS} {C : MC} {Q : Int → MS → MC → Prop} (F : Fix S) (h : ((l2 ≤ l4 → K_X11_evenings_120 (d + 1) mc ms l3 0 S C Q) ∧ (¬ l2 ≤ l4 → ((999 ≤ C 83 24 → K_X11_evenings_120 (d + 1) mc ms l3 0 S C Q) ∧ (¬ 999 ≤ C 83 24 → K_X11_happens_0 d 0 0 S C (fun r1 Sq C2 => Sq = S ∧ K_X11_drill_0 d 0 0 S ((upC C2 83 24 (w32 ((C2 83 24) + 1)))) (fun r3 Sq C4 => Sq = S ∧ ((¬ r3 = 16 → K_X11_evenings_60 (d + 1) mc ms l2 (w32 (l3 + 0)) (w32 (l4 + 1)) S C4 Q) ∧ (r3 = 16 → K_X11_evenings_60 (d + 1) mc ms l2 (w32 (l3 + 1)) (w32 (l4 + 1)) S C4 Q))))))))) : K_X11_evenings_60 (d + 1) mc ms l2 l3 l4 S C Q := by
  show Wp (d + 1) mc ms M_X11_evenings 60 [cA 81, cU, cI l2, cI l3, cI l4] [] S C Q
  refine wp_iload (nx := 62) dX11_evenings_60 rfl rfl ?_
  refine wp_iload_n (nx := 63) dX11_evenings_62 rfl rfl ?_
  refine wp_icmp_ge (nx := 66) (tg := 117) dX11_evenings_63 rfl rfl (fun hc => ?_) (fun hc => ?_)
  · have h := h.1 hc
    refine wp_iconst (nx := 118) dX11_evenings_117 rfl (i32 (by decide)) ?_
    refine wp_istore (nx := 120) dX11_evenings_118 rfl (by decide) ?_
    refine wp_ls (ls2 := [cA 81, cU, cI l2, cI l3, cI 0]) rfl ?_
    refine wp_fg [true, false, false, true, true] (ls2 := [cA 81, cU, cU, cI l3, cI 0]) rfl ?_
    exact h
  · have h := h.2 hc
    refine wp_aload_n (nx := 67) dX11_evenings_66 rfl rfl ?_
    refine wp_getAe (kk := 2) (nx := 70) clsX11 dX11_evenings_67 rfl kF_X11_28 (by decide) (fo_81 F) (ft_81 F) rfl (fp_81_2 F) ?_
    refine wp_bipush (nx := 72) dX11_evenings_70 rfl ⟨by decide, i32 (by decide)⟩ ?_
    refine wp_ialoadE (nx := 73) dX11_evenings_72 rfl (fo_83 F) (fl_83 F) (by decide) (ft_83 F) rfl ?_
    refine wp_sipush (nx := 76) dX11_evenings_73 rfl ⟨by decide, i32 (by decide)⟩ ?_
    refine wp_icmp_ge (nx := 79) (tg := 117) dX11_evenings_76 rfl rfl (fun hc => ?_) (fun hc => ?_)
    · have h := h.1 hc
      refine wp_iconst (nx := 118) dX11_evenings_117 rfl (i32 (by decide)) ?_
      refine wp_istore (nx := 120) dX11_evenings_118 rfl (by decide) ?_
      refine wp_ls (ls2 := [cA 81, cU, cI l2, cI l3, cI 0]) rfl ?_
      refine wp_fg [true, false, false, true, true] (ls2 := [cA 81, cU, cU, cI l3, cI 0]) rfl ?_
      exact h
    · have h := h.2 hc
      refine wp_aload_n (nx := 80) dX11_evenings_79 rfl rfl ?_
      refine wp_invV (nx := 83) (N := M_X11_happens) (as := []) (st := []) (mc := 0) (ms := 0) (mc' := mc) (ms' := ms) (a := 81) clsX11 dX11_evenings_80 rfl mok_X11_happens kM_X11_477 ki_X11_happens ke_X11_happens (fo_81 F) (ft_81 F) rfl rfl (leB rfl) (leB rfl) (z0 _) (z0 _) (Wp.mono h ?_)
      intro r1 Sq C2 h
      obtain ⟨e9, h⟩ := h
      rw [e9]
      show Wp (d + 1) mc ms M_X11_evenings 83 [cA 81, cU, cI l2, cI l3, cI l4] [] S C2 Q
      refine wp_aload_n (nx := 84) dX11_evenings_83 rfl rfl ?_
      refine wp_getAe (kk := 2) (nx := 87) clsX11 dX11_evenings_84 rfl kF_X11_28 (by decide) (fo_81 F) (ft_81 F) rfl (fp_81_2 F) ?_
      refine wp_bipush (nx := 89) dX11_evenings_87 rfl ⟨by decide, i32 (by decide)⟩ ?_
      refine wp_dup2 (nx := 90) dX11_evenings_89 rfl (k1I _) (k1A _) ?_
      refine wp_ialoadE (nx := 91) dX11_evenings_90 rfl (fo_83 F) (fl_83 F) (by decide) (ft_83 F) rfl ?_
      refine wp_iconst (nx := 92) dX11_evenings_91 rfl (i32 (by decide)) ?_
      refine wp_iadd (nx := 93) dX11_evenings_92 rfl ?_
      refine wp_iastoreE (nx := 94) dX11_evenings_93 rfl (fo_83 F) (fl_83 F) (by decide) (ft_83 F) ?_
      refine wp_iload_n (nx := 95) dX11_evenings_94 rfl rfl ?_
      refine wp_aload_n (nx := 96) dX11_evenings_95 rfl rfl ?_
      refine wp_invV (nx := 99) (N := M_X11_drill) (as := []) (st := [cI l3]) (mc := 0) (ms := 0) (mc' := mc) (ms' := ms) (a := 81) clsX11 dX11_evenings_96 rfl mok_X11_drill kM_X11_432 ki_X11_drill ke_X11_drill (fo_81 F) (ft_81 F) rfl rfl (leB rfl) (leB rfl) (z0 _) (z0 _) (Wp.mono h ?_)
      intro r3 Sq C4 h
      obtain ⟨e9, h⟩ := h
      rw [e9]
      show Wp (d + 1) mc ms M_X11_evenings 99 [cA 81, cU, cI l2, cI l3, cI l4] [cI r3, cI l3] S C4 Q
      refine wp_bipush (nx := 101) dX11_evenings_99 rfl ⟨by decide, i32 (by decide)⟩ ?_
      refine wp_icmp_ne (nx := 104) (tg := 108) dX11_evenings_101 rfl rfl (fun hc => ?_) (fun hc => ?_)
      · have h := h.1 hc
        refine wp_iconst (nx := 109) dX11_evenings_108 rfl (i32 (by decide)) ?_
        refine wp_iadd (nx := 110) dX11_evenings_109 rfl ?_
        refine wp_istore_n (nx := 111) dX11_evenings_110 rfl (by decide) ?_
        refine wp_ls (ls2 := [cA 81, cU, cI l2, cI (w32 (l3 + 0)), cI l4]) rfl ?_
        refine wp_iinc (nx := 114) dX11_evenings_111 rfl rfl (by decide) ?_
        refine wp_ls (ls2 := [cA 81, cU, cI l2, cI (w32 (l3 + 0)), cI (w32 (l4 + 1))]) rfl ?_
        refine wp_goto (nx := 60) dX11_evenings_114 rfl ?_
        exact h
      · have h := h.2 hc
        refine wp_iconst (nx := 105) dX11_evenings_104 rfl (i32 (by decide)) ?_
        refine wp_goto (nx := 109) dX11_evenings_105 rfl ?_
        refine wp_iadd (nx := 110) dX11_evenings_109 rfl ?_
        refine wp_istore_n (nx := 111) dX11_evenings_110 rfl (by decide) ?_
        refine wp_ls (ls2 := [cA 81, cU, cI l2, cI (w32 (l3 + 1)), cI l4]) rfl ?_
        refine wp_iinc (nx := 114) dX11_evenings_111 rfl rfl (by decide) ?_
        refine wp_ls (ls2 := [cA 81, cU, cI l2, cI (w32 (l3 + 1)), cI (w32 (l4 + 1))]) rfl ?_
        refine wp_goto (nx := 60) dX11_evenings_114 rfl ?_
        exact h
theorem b_X11_evenings_120 {d mc ms : Nat} {l3 l4 : Int} {S : MS} {C : MC} {Q : Int → MS → MC → Prop} (F : Fix S) (h : ((25 ≤ l4 → K_X11_takesBack_0 d 0 0 0 S C (fun r1 Sq C2 => Sq = S ∧ K_X11_good_0 d 0 0 l3 S C2 (fun r3 Sq C4 => Sq = S ∧ Q r3 S C4))) ∧ (¬ 25 ≤ l4 → ((0 : Int) ≤ l4 ∧ l4 < 5656) ∧ ((0 : Int) ≤ l4 ∧ l4 < 25) ∧ K_X11_evenings_120 (d + 1) mc ms l3 (w32 (l4 + 1)) S (upC C 107 l4 (C 83 l4)) Q))) : K_X11_evenings_120 (d + 1) mc ms l3 l4 S C Q := by
  show Wp (d + 1) mc ms M_X11_evenings 120 [cA 81, cU, cU, cI l3, cI l4] [] S C Q
  refine wp_iload (nx := 122) dX11_evenings_120 rfl rfl ?_
  refine wp_bipush (nx := 124) dX11_evenings_122 rfl ⟨by decide, i32 (by decide)⟩ ?_
  refine wp_icmp_ge (nx := 127) (tg := 147) dX11_evenings_124 rfl rfl (fun hc => ?_) (fun hc => ?_)
  · have h := h.1 hc
    refine wp_aload_n (nx := 148) dX11_evenings_147 rfl rfl ?_
    refine wp_iconst (nx := 149) dX11_evenings_148 rfl (i32 (by decide)) ?_
    refine wp_invV (nx := 152) (N := M_X11_takesBack) (as := [cI 0]) (st := []) (mc := 0) (ms := 0) (mc' := mc) (ms' := ms) (a := 81) clsX11 dX11_evenings_149 rfl mok_X11_takesBack kM_X11_426 ki_X11_takesBack ke_X11_takesBack (fo_81 F) (ft_81 F) rfl rfl (leB rfl) (leB rfl) (z0 _) (z0 _) (Wp.mono h ?_)
    intro r1 Sq C2 h
    obtain ⟨e9, h⟩ := h
    rw [e9]
    show Wp (d + 1) mc ms M_X11_evenings 152 [cA 81, cU, cU, cI l3, cI l4] [] S C2 Q
    refine wp_aload_n (nx := 153) dX11_evenings_152 rfl rfl ?_
    refine wp_iload_n (nx := 154) dX11_evenings_153 rfl rfl ?_
    refine wp_invV (nx := 157) (N := M_X11_good) (as := [cI l3]) (st := []) (mc := 0) (ms := 0) (mc' := mc) (ms' := ms) (a := 81) clsX11 dX11_evenings_154 rfl mok_X11_good kM_X11_14 ki_X11_good ke_X11_good (fo_81 F) (ft_81 F) rfl rfl (leB rfl) (leB rfl) (z0 _) (z0 _) (Wp.mono h ?_)
    intro r3 Sq C4 h
    obtain ⟨e9, h⟩ := h
    rw [e9]
    show Wp (d + 1) mc ms M_X11_evenings 157 [cA 81, cU, cU, cI l3, cI l4] [cI r3] S C4 Q
    exact wp_ireturn dX11_evenings_157 rfl rfl rfl h
  · have h := h.2 hc
    refine wp_aload_n (nx := 128) dX11_evenings_127 rfl rfl ?_
    refine wp_getAe (kk := 50) (nx := 131) clsX11 dX11_evenings_128 rfl kF_X11_109 (by decide) (fo_81 F) (ft_81 F) rfl (fp_81_50 F) ?_
    refine wp_iload (nx := 133) dX11_evenings_131 rfl rfl ?_
    refine wp_aload_n (nx := 134) dX11_evenings_133 rfl rfl ?_
    refine wp_getAe (kk := 2) (nx := 137) clsX11 dX11_evenings_134 rfl kF_X11_28 (by decide) (fo_81 F) (ft_81 F) rfl (fp_81_2 F) ?_
    refine wp_iload (nx := 139) dX11_evenings_137 rfl rfl ?_
    obtain ⟨hi, h⟩ := h
    refine wp_ialoadE (nx := 140) dX11_evenings_139 rfl (fo_83 F) (fl_83 F) hi (ft_83 F) rfl ?_
    obtain ⟨hi, h⟩ := h
    refine wp_iastoreE (nx := 141) dX11_evenings_140 rfl (fo_107 F) (fl_107 F) hi (ft_107 F) ?_
    refine wp_iinc (nx := 144) dX11_evenings_141 rfl rfl (by decide) ?_
    refine wp_ls (ls2 := [cA 81, cU, cU, cI l3, cI (w32 (l4 + 1))]) rfl ?_
    refine wp_goto (nx := 120) dX11_evenings_144 rfl ?_
    exact h
theorem b_X11_drawn_0 {d mc ms : Nat} {l1 l2 : Int} {S : MS} {C : MC} {Q : Int → MS → MC → Prop} (F : Fix S) (h : ((C 81 51 = 0 → Q (-1) S C) ∧ (¬ C 81 51 = 0 → K_X11_lies_0 d 0 0 l2 0 1 S C (fun r1 Sq C2 => Sq = S ∧ ((r1 = 0 → Q (-1) S C2) ∧ (¬ r1 = 0 → ((¬ l2 = 0 → K_X11_lies_0 d 0 0 l1 0 7 S C2 (fun r3 Sq C4 => Sq = S ∧ ((¬ r3 = 0 → ((¬ l2 = 0 → ((0 : Int) ≤ w32 (0 + l1) ∧ w32 (0 + l1) < 25) ∧ Q (C4 107 (w32 (0 + l1))) S C4) ∧ (l2 = 0 → ((0 : Int) ≤ w32 (8 + l1) ∧ w32 (8 + l1) < 25) ∧ Q (C4 107 (w32 (8 + l1))) S C4))) ∧ (r3 = 0 → Q (-1) S C4)))) ∧ (l2 = 0 → K_X11_lies_0 d 0 0 l1 0 15 S C2 (fun r5 Sq C6 => Sq = S ∧ ((¬ r5 = 0 → ((¬ l2 = 0 → ((0 : Int) ≤ w32 (0 + l1) ∧ w32 (0 + l1) < 25) ∧ Q (C6 107 (w32 (0 + l1))) S C6) ∧ (l2 = 0 → ((0 : Int) ≤ w32 (8 + l1) ∧ w32 (8 + l1) < 25) ∧ Q (C6 107 (w32 (8 + l1))) S C6))) ∧ (r5 = 0 → Q (-1) S C6))))))))))) : K_X11_drawn_0 (d + 1) mc ms l1 l2 S C Q := by
  show Wp (d + 1) mc ms M_X11_drawn 0 [cA 81, cI l1, cI l2] [] S C Q
  refine wp_aload_n (nx := 1) dX11_drawn_0 rfl rfl ?_
  refine wp_getIe (kk := 51) 51 (nx := 4) clsX11 dX11_drawn_1 rfl kF_X11_474 (by decide) (fo_81 F) (ft_81 F) rfl rfl rfl ?_
  refine wp_if_eq (nx := 7) (tg := 35) dX11_drawn_4 rfl rfl (fun hc => ?_) (fun hc => ?_)
  · have h := h.1 hc
    refine wp_iconst (nx := 36) dX11_drawn_35 rfl (i32 (by decide)) ?_
    exact wp_ireturn dX11_drawn_36 rfl rfl rfl h
  · have h := h.2 hc
    refine wp_iload_n (nx := 8) dX11_drawn_7 rfl rfl ?_
    refine wp_iconst (nx := 9) dX11_drawn_8 rfl (i32 (by decide)) ?_
    refine wp_iconst (nx := 10) dX11_drawn_9 rfl (i32 (by decide)) ?_
    refine wp_invS (nx := 13) (N := M_X11_lies) (as := [cI l2, cI 0, cI 1]) (st := []) (mc := 0) (ms := 0) (mc' := mc) (ms' := ms) dX11_drawn_10 rfl mok_X11_lies kM_X11_18 ks_X11_lies rfl rfl (leB rfl) (leB rfl) (z0 _) (z0 _) (Wp.mono h ?_)
    intro r1 Sq C2 h
    obtain ⟨e9, h⟩ := h
    rw [e9]
    show Wp (d + 1) mc ms M_X11_drawn 13 [cA 81, cI l1, cI l2] [cI r1] S C2 Q
    refine wp_if_eq (nx := 16) (tg := 35) dX11_drawn_13 rfl rfl (fun hc => ?_) (fun hc => ?_)
    · have h := h.1 hc
      refine wp_iconst (nx := 36) dX11_drawn_35 rfl (i32 (by decide)) ?_
      exact wp_ireturn dX11_drawn_36 rfl rfl rfl h
    · have h := h.2 hc
      refine wp_iload_n (nx := 17) dX11_drawn_16 rfl rfl ?_
      refine wp_iconst (nx := 18) dX11_drawn_17 rfl (i32 (by decide)) ?_
      refine wp_iload_n (nx := 19) dX11_drawn_18 rfl rfl ?_
      refine wp_if_ne (nx := 22) (tg := 27) dX11_drawn_19 rfl rfl (fun hc => ?_) (fun hc => ?_)
      · have h := h.1 hc
        refine wp_bipush (nx := 29) dX11_drawn_27 rfl ⟨by decide, i32 (by decide)⟩ ?_
        refine wp_invS (nx := 32) (N := M_X11_lies) (as := [cI l1, cI 0, cI 7]) (st := []) (mc := 0) (ms := 0) (mc' := mc) (ms' := ms) dX11_drawn_29 rfl mok_X11_lies kM_X11_18 ks_X11_lies rfl rfl (leB rfl) (leB rfl) (z0 _) (z0 _) (Wp.mono h ?_)
        intro r3 Sq C4 h
        obtain ⟨e9, h⟩ := h
        rw [e9]
        show Wp (d + 1) mc ms M_X11_drawn 32 [cA 81, cI l1, cI l2] [cI r3] S C4 Q
        refine wp_if_ne (nx := 35) (tg := 37) dX11_drawn_32 rfl rfl (fun hc => ?_) (fun hc => ?_)
        · have h := h.1 hc
          refine wp_aload_n (nx := 38) dX11_drawn_37 rfl rfl ?_
          refine wp_getAe (kk := 50) (nx := 41) clsX11 dX11_drawn_38 rfl kF_X11_109 (by decide) (fo_81 F) (ft_81 F) rfl (fp_81_50 F) ?_
          refine wp_iload_n (nx := 42) dX11_drawn_41 rfl rfl ?_
          refine wp_if_ne (nx := 45) (tg := 52) dX11_drawn_42 rfl rfl (fun hc => ?_) (fun hc => ?_)
          · have h := h.1 hc
            refine wp_iconst (nx := 53) dX11_drawn_52 rfl (i32 (by decide)) ?_
            refine wp_iload_n (nx := 54) dX11_drawn_53 rfl rfl ?_
            refine wp_iadd (nx := 55) dX11_drawn_54 rfl ?_
            obtain ⟨hi, h⟩ := h
            refine wp_ialoadE (nx := 56) dX11_drawn_55 rfl (fo_107 F) (fl_107 F) hi (ft_107 F) rfl ?_
            exact wp_ireturn dX11_drawn_56 rfl rfl rfl h
          · have h := h.2 hc
            refine wp_bipush (nx := 47) dX11_drawn_45 rfl ⟨by decide, i32 (by decide)⟩ ?_
            refine wp_iload_n (nx := 48) dX11_drawn_47 rfl rfl ?_
            refine wp_iadd (nx := 49) dX11_drawn_48 rfl ?_
            refine wp_goto (nx := 55) dX11_drawn_49 rfl ?_
            obtain ⟨hi, h⟩ := h
            refine wp_ialoadE (nx := 56) dX11_drawn_55 rfl (fo_107 F) (fl_107 F) hi (ft_107 F) rfl ?_
            exact wp_ireturn dX11_drawn_56 rfl rfl rfl h
        · have h := h.2 hc
          refine wp_iconst (nx := 36) dX11_drawn_35 rfl (i32 (by decide)) ?_
          exact wp_ireturn dX11_drawn_36 rfl rfl rfl h
      · have h := h.2 hc
        refine wp_bipush (nx := 24) dX11_drawn_22 rfl ⟨by decide, i32 (by decide)⟩ ?_
        refine wp_goto (nx := 29) dX11_drawn_24 rfl ?_
        refine wp_invS (nx := 32) (N := M_X11_lies) (as := [cI l1, cI 0, cI 15]) (st := []) (mc := 0) (ms := 0) (mc' := mc) (ms' := ms) dX11_drawn_29 rfl mok_X11_lies kM_X11_18 ks_X11_lies rfl rfl (leB rfl) (leB rfl) (z0 _) (z0 _) (Wp.mono h ?_)
        intro r5 Sq C6 h
        obtain ⟨e9, h⟩ := h
        rw [e9]
        show Wp (d + 1) mc ms M_X11_drawn 32 [cA 81, cI l1, cI l2] [cI r5] S C6 Q
        refine wp_if_ne (nx := 35) (tg := 37) dX11_drawn_32 rfl rfl (fun hc => ?_) (fun hc => ?_)
        · have h := h.1 hc
          refine wp_aload_n (nx := 38) dX11_drawn_37 rfl rfl ?_
          refine wp_getAe (kk := 50) (nx := 41) clsX11 dX11_drawn_38 rfl kF_X11_109 (by decide) (fo_81 F) (ft_81 F) rfl (fp_81_50 F) ?_
          refine wp_iload_n (nx := 42) dX11_drawn_41 rfl rfl ?_
          refine wp_if_ne (nx := 45) (tg := 52) dX11_drawn_42 rfl rfl (fun hc => ?_) (fun hc => ?_)
          · have h := h.1 hc
            refine wp_iconst (nx := 53) dX11_drawn_52 rfl (i32 (by decide)) ?_
            refine wp_iload_n (nx := 54) dX11_drawn_53 rfl rfl ?_
            refine wp_iadd (nx := 55) dX11_drawn_54 rfl ?_
            obtain ⟨hi, h⟩ := h
            refine wp_ialoadE (nx := 56) dX11_drawn_55 rfl (fo_107 F) (fl_107 F) hi (ft_107 F) rfl ?_
            exact wp_ireturn dX11_drawn_56 rfl rfl rfl h
          · have h := h.2 hc
            refine wp_bipush (nx := 47) dX11_drawn_45 rfl ⟨by decide, i32 (by decide)⟩ ?_
            refine wp_iload_n (nx := 48) dX11_drawn_47 rfl rfl ?_
            refine wp_iadd (nx := 49) dX11_drawn_48 rfl ?_
            refine wp_goto (nx := 55) dX11_drawn_49 rfl ?_
            obtain ⟨hi, h⟩ := h
            refine wp_ialoadE (nx := 56) dX11_drawn_55 rfl (fo_107 F) (fl_107 F) hi (ft_107 F) rfl ?_
            exact wp_ireturn dX11_drawn_56 rfl rfl rfl h
        · have h := h.2 hc
          refine wp_iconst (nx := 36) dX11_drawn_35 rfl (i32 (by decide)) ?_
          exact wp_ireturn dX11_drawn_36 rfl rfl rfl h
theorem b_X11_count_0 {d mc ms : Nat} {l1 : Int} {S : MS} {C : MC} {Q : Int → MS → MC → Prop} (F : Fix S) (h : ((l1 < 0 ∨ 14 < l1 → Q (-1) S C) ∧ (l1 = 0 → K_X11_many_0 d 0 0 S C (fun r1 Sq C2 => Sq = S ∧ Q r1 S C2)) ∧ (l1 = 1 → K_X11_notes0_0 d 0 0 S C (fun r3 Sq C4 => Sq = S ∧ Q r3 S C4)) ∧ (l1 = 2 → Q (C 83 46) S C) ∧ (l1 = 3 → Q (C 83 47) S C) ∧ (l1 = 4 → Q (C 81 42) S C) ∧ (l1 = 5 → Q (C 81 13) S C) ∧ (l1 = 6 → ((0 : Int) ≤ w32 (l1 - 5) ∧ w32 (l1 - 5) < 7) ∧ Q (C 82 (w32 (l1 - 5))) S C) ∧ (l1 = 7 → ((0 : Int) ≤ w32 (l1 - 5) ∧ w32 (l1 - 5) < 7) ∧ Q (C 82 (w32 (l1 - 5))) S C) ∧ (l1 = 8 → ((0 : Int) ≤ w32 (l1 - 5) ∧ w32 (l1 - 5) < 7) ∧ Q (C 82 (w32 (l1 - 5))) S C) ∧ (l1 = 9 → Q (C 82 5) S C) ∧ (l1 = 10 → Q (C 82 6) S C) ∧ (l1 = 11 → Q (C 83 48) S C) ∧ (l1 = 12 → K_X11_termAt_0 d 0 0 (w32 (l1 - 12)) S C (fun r5 Sq C6 => Sq = S ∧ ((0 : Int) ≤ r5 ∧ r5 < 5656) ∧ Q (C6 83 r5) S C6)) ∧ (l1 = 13 → K_X11_termAt_0 d 0 0 (w32 (l1 - 12)) S C (fun r7 Sq C8 => Sq = S ∧ ((0 : Int) ≤ r7 ∧ r7 < 5656) ∧ Q (C8 83 r7) S C8)) ∧ (l1 = 14 → K_X11_termAt_0 d 0 0 (w32 (l1 - 12)) S C (fun r9 Sq C10 => Sq = S ∧ ((0 : Int) ≤ r9 ∧ r9 < 5656) ∧ Q (C10 83 r9) S C10)))) : K_X11_count_0 (d + 1) mc ms l1 S C Q := by
  show Wp (d + 1) mc ms M_X11_count 0 [cA 81, cI l1] [] S C Q
  refine wp_iload_n (nx := 1) dX11_count_0 rfl rfl ?_
  rcases (show (l1 < 0 ∨ 14 < l1) ∨ l1 = 0 ∨ l1 = 1 ∨ l1 = 2 ∨ l1 = 3 ∨ l1 = 4 ∨ l1 = 5 ∨ l1 = 6 ∨ l1 = 7 ∨ l1 = 8 ∨ l1 = 9 ∨ l1 = 10 ∨ l1 = 11 ∨ l1 = 12 ∨ l1 = 13 ∨ l1 = 14 by omega) with hc | hc | hc | hc | hc | hc | hc | hc | hc | hc | hc | hc | hc | hc | hc | hc
  · have h := h.1 hc
    refine wp_tableOut (tg := 157) dX11_count_1 hc rfl ?_
    refine wp_iconst (nx := 158) dX11_count_157 rfl (i32 (by decide)) ?_
    exact wp_ireturn dX11_count_158 rfl rfl rfl h
  · have h := h.2.1 hc
    refine wp_tableIn (tg := 76) (off := 75) dX11_count_1 (by omega) (by omega) (by rw [show (l1 - 0).toNat = 0 by omega]; rfl) rfl ?_
    refine wp_aload_n (nx := 77) dX11_count_76 rfl rfl ?_
    refine wp_invV (nx := 80) (N := M_X11_many) (as := []) (st := []) (mc := 0) (ms := 0) (mc' := mc) (ms' := ms) (a := 81) clsX11 dX11_count_77 rfl mok_X11_many kM_X11_118 ki_X11_many ke_X11_many (fo_81 F) (ft_81 F) rfl rfl (leB rfl) (leB rfl) (z0 _) (z0 _) (Wp.mono h ?_)
    intro r1 Sq C2 h
    obtain ⟨e9, h⟩ := h
    rw [e9]
    show Wp (d + 1) mc ms M_X11_count 80 [cA 81, cI l1] [cI r1] S C2 Q
    exact wp_ireturn dX11_count_80 rfl rfl rfl h
  · have h := h.2.2.1 hc
    refine wp_tableIn (tg := 81) (off := 80) dX11_count_1 (by omega) (by omega) (by rw [show (l1 - 0).toNat = 1 by omega]; rfl) rfl ?_
    refine wp_aload_n (nx := 82) dX11_count_81 rfl rfl ?_
    refine wp_invV (nx := 85) (N := M_X11_notes0) (as := []) (st := []) (mc := 0) (ms := 0) (mc' := mc) (ms' := ms) (a := 81) clsX11 dX11_count_82 rfl mok_X11_notes0 kM_X11_310 ki_X11_notes0 ke_X11_notes0 (fo_81 F) (ft_81 F) rfl rfl (leB rfl) (leB rfl) (z0 _) (z0 _) (Wp.mono h ?_)
    intro r3 Sq C4 h
    obtain ⟨e9, h⟩ := h
    rw [e9]
    show Wp (d + 1) mc ms M_X11_count 85 [cA 81, cI l1] [cI r3] S C4 Q
    exact wp_ireturn dX11_count_85 rfl rfl rfl h
  · have h := h.2.2.2.1 hc
    refine wp_tableIn (tg := 86) (off := 85) dX11_count_1 (by omega) (by omega) (by rw [show (l1 - 0).toNat = 2 by omega]; rfl) rfl ?_
    refine wp_aload_n (nx := 87) dX11_count_86 rfl rfl ?_
    refine wp_getAe (kk := 2) (nx := 90) clsX11 dX11_count_87 rfl kF_X11_28 (by decide) (fo_81 F) (ft_81 F) rfl (fp_81_2 F) ?_
    refine wp_bipush (nx := 92) dX11_count_90 rfl ⟨by decide, i32 (by decide)⟩ ?_
    refine wp_ialoadE (nx := 93) dX11_count_92 rfl (fo_83 F) (fl_83 F) (by decide) (ft_83 F) rfl ?_
    exact wp_ireturn dX11_count_93 rfl rfl rfl h
  · have h := h.2.2.2.2.1 hc
    refine wp_tableIn (tg := 94) (off := 93) dX11_count_1 (by omega) (by omega) (by rw [show (l1 - 0).toNat = 3 by omega]; rfl) rfl ?_
    refine wp_aload_n (nx := 95) dX11_count_94 rfl rfl ?_
    refine wp_getAe (kk := 2) (nx := 98) clsX11 dX11_count_95 rfl kF_X11_28 (by decide) (fo_81 F) (ft_81 F) rfl (fp_81_2 F) ?_
    refine wp_bipush (nx := 100) dX11_count_98 rfl ⟨by decide, i32 (by decide)⟩ ?_
    refine wp_ialoadE (nx := 101) dX11_count_100 rfl (fo_83 F) (fl_83 F) (by decide) (ft_83 F) rfl ?_
    exact wp_ireturn dX11_count_101 rfl rfl rfl h
  · have h := h.2.2.2.2.2.1 hc
    refine wp_tableIn (tg := 102) (off := 101) dX11_count_1 (by omega) (by omega) (by rw [show (l1 - 0).toNat = 4 by omega]; rfl) rfl ?_
    refine wp_aload_n (nx := 103) dX11_count_102 rfl rfl ?_
    refine wp_getIe (kk := 42) 42 (nx := 106) clsX11 dX11_count_103 rfl kF_X11_11 (by decide) (fo_81 F) (ft_81 F) rfl rfl rfl ?_
    exact wp_ireturn dX11_count_106 rfl rfl rfl h
  · have h := h.2.2.2.2.2.2.1 hc
    refine wp_tableIn (tg := 107) (off := 106) dX11_count_1 (by omega) (by omega) (by rw [show (l1 - 0).toNat = 5 by omega]; rfl) rfl ?_
    refine wp_aload_n (nx := 108) dX11_count_107 rfl rfl ?_
    refine wp_getIe (kk := 13) 13 (nx := 111) clsX11 dX11_count_108 rfl kF_X11_155 (by decide) (fo_81 F) (ft_81 F) rfl rfl rfl ?_
    exact wp_ireturn dX11_count_111 rfl rfl rfl h
  · have h := h.2.2.2.2.2.2.2.1 hc
    refine wp_tableIn (tg := 112) (off := 111) dX11_count_1 (by omega) (by omega) (by rw [show (l1 - 0).toNat = 6 by omega]; rfl) rfl ?_
    refine wp_aload_n (nx := 113) dX11_count_112 rfl rfl ?_
    refine wp_getAe (kk := 1) (nx := 116) clsX11 dX11_count_113 rfl kF_X11_7 (by decide) (fo_81 F) (ft_81 F) rfl (fp_81_1 F) ?_
    refine wp_iload_n (nx := 117) dX11_count_116 rfl rfl ?_
    refine wp_iconst (nx := 118) dX11_count_117 rfl (i32 (by decide)) ?_
    refine wp_isub (nx := 119) dX11_count_118 rfl ?_
    obtain ⟨hi, h⟩ := h
    refine wp_ialoadE (nx := 120) dX11_count_119 rfl (fo_82 F) (fl_82 F) hi (ft_82 F) rfl ?_
    exact wp_ireturn dX11_count_120 rfl rfl rfl h
  · have h := h.2.2.2.2.2.2.2.2.1 hc
    refine wp_tableIn (tg := 112) (off := 111) dX11_count_1 (by omega) (by omega) (by rw [show (l1 - 0).toNat = 7 by omega]; rfl) rfl ?_
    refine wp_aload_n (nx := 113) dX11_count_112 rfl rfl ?_
    refine wp_getAe (kk := 1) (nx := 116) clsX11 dX11_count_113 rfl kF_X11_7 (by decide) (fo_81 F) (ft_81 F) rfl (fp_81_1 F) ?_
    refine wp_iload_n (nx := 117) dX11_count_116 rfl rfl ?_
    refine wp_iconst (nx := 118) dX11_count_117 rfl (i32 (by decide)) ?_
    refine wp_isub (nx := 119) dX11_count_118 rfl ?_
    obtain ⟨hi, h⟩ := h
    refine wp_ialoadE (nx := 120) dX11_count_119 rfl (fo_82 F) (fl_82 F) hi (ft_82 F) rfl ?_
    exact wp_ireturn dX11_count_120 rfl rfl rfl h
  · have h := h.2.2.2.2.2.2.2.2.2.1 hc
    refine wp_tableIn (tg := 112) (off := 111) dX11_count_1 (by omega) (by omega) (by rw [show (l1 - 0).toNat = 8 by omega]; rfl) rfl ?_
    refine wp_aload_n (nx := 113) dX11_count_112 rfl rfl ?_
    refine wp_getAe (kk := 1) (nx := 116) clsX11 dX11_count_113 rfl kF_X11_7 (by decide) (fo_81 F) (ft_81 F) rfl (fp_81_1 F) ?_
    refine wp_iload_n (nx := 117) dX11_count_116 rfl rfl ?_
    refine wp_iconst (nx := 118) dX11_count_117 rfl (i32 (by decide)) ?_
    refine wp_isub (nx := 119) dX11_count_118 rfl ?_
    obtain ⟨hi, h⟩ := h
    refine wp_ialoadE (nx := 120) dX11_count_119 rfl (fo_82 F) (fl_82 F) hi (ft_82 F) rfl ?_
    exact wp_ireturn dX11_count_120 rfl rfl rfl h
  · have h := h.2.2.2.2.2.2.2.2.2.2.1 hc
    refine wp_tableIn (tg := 121) (off := 120) dX11_count_1 (by omega) (by omega) (by rw [show (l1 - 0).toNat = 9 by omega]; rfl) rfl ?_
    refine wp_aload_n (nx := 122) dX11_count_121 rfl rfl ?_
    refine wp_getAe (kk := 1) (nx := 125) clsX11 dX11_count_122 rfl kF_X11_7 (by decide) (fo_81 F) (ft_81 F) rfl (fp_81_1 F) ?_
    refine wp_iconst (nx := 126) dX11_count_125 rfl (i32 (by decide)) ?_
    refine wp_ialoadE (nx := 127) dX11_count_126 rfl (fo_82 F) (fl_82 F) (by decide) (ft_82 F) rfl ?_
    exact wp_ireturn dX11_count_127 rfl rfl rfl h
  · have h := h.2.2.2.2.2.2.2.2.2.2.2.1 hc
    refine wp_tableIn (tg := 128) (off := 127) dX11_count_1 (by omega) (by omega) (by rw [show (l1 - 0).toNat = 10 by omega]; rfl) rfl ?_
    refine wp_aload_n (nx := 129) dX11_count_128 rfl rfl ?_
    refine wp_getAe (kk := 1) (nx := 132) clsX11 dX11_count_129 rfl kF_X11_7 (by decide) (fo_81 F) (ft_81 F) rfl (fp_81_1 F) ?_
    refine wp_bipush (nx := 134) dX11_count_132 rfl ⟨by decide, i32 (by decide)⟩ ?_
    refine wp_ialoadE (nx := 135) dX11_count_134 rfl (fo_82 F) (fl_82 F) (by decide) (ft_82 F) rfl ?_
    exact wp_ireturn dX11_count_135 rfl rfl rfl h
  · have h := h.2.2.2.2.2.2.2.2.2.2.2.2.1 hc
    refine wp_tableIn (tg := 136) (off := 135) dX11_count_1 (by omega) (by omega) (by rw [show (l1 - 0).toNat = 11 by omega]; rfl) rfl ?_
    refine wp_aload_n (nx := 137) dX11_count_136 rfl rfl ?_
    refine wp_getAe (kk := 2) (nx := 140) clsX11 dX11_count_137 rfl kF_X11_28 (by decide) (fo_81 F) (ft_81 F) rfl (fp_81_2 F) ?_
    refine wp_bipush (nx := 142) dX11_count_140 rfl ⟨by decide, i32 (by decide)⟩ ?_
    refine wp_ialoadE (nx := 143) dX11_count_142 rfl (fo_83 F) (fl_83 F) (by decide) (ft_83 F) rfl ?_
    exact wp_ireturn dX11_count_143 rfl rfl rfl h
  · have h := h.2.2.2.2.2.2.2.2.2.2.2.2.2.1 hc
    refine wp_tableIn (tg := 144) (off := 143) dX11_count_1 (by omega) (by omega) (by rw [show (l1 - 0).toNat = 12 by omega]; rfl) rfl ?_
    refine wp_aload_n (nx := 145) dX11_count_144 rfl rfl ?_
    refine wp_getAe (kk := 2) (nx := 148) clsX11 dX11_count_145 rfl kF_X11_28 (by decide) (fo_81 F) (ft_81 F) rfl (fp_81_2 F) ?_
    refine wp_iload_n (nx := 149) dX11_count_148 rfl rfl ?_
    refine wp_bipush (nx := 151) dX11_count_149 rfl ⟨by decide, i32 (by decide)⟩ ?_
    refine wp_isub (nx := 152) dX11_count_151 rfl ?_
    refine wp_invS (nx := 155) (N := M_X11_termAt) (as := [cI (w32 (l1 - 12))]) (st := [cA 83]) (mc := 0) (ms := 0) (mc' := mc) (ms' := ms) dX11_count_152 rfl mok_X11_termAt kM_X11_152 ks_X11_termAt rfl rfl (leB rfl) (leB rfl) (z0 _) (z0 _) (Wp.mono h ?_)
    intro r5 Sq C6 h
    obtain ⟨e9, h⟩ := h
    rw [e9]
    show Wp (d + 1) mc ms M_X11_count 155 [cA 81, cI l1] [cI r5, cA 83] S C6 Q
    obtain ⟨hi, h⟩ := h
    refine wp_ialoadE (nx := 156) dX11_count_155 rfl (fo_83 F) (fl_83 F) hi (ft_83 F) rfl ?_
    exact wp_ireturn dX11_count_156 rfl rfl rfl h
  · have h := h.2.2.2.2.2.2.2.2.2.2.2.2.2.2.1 hc
    refine wp_tableIn (tg := 144) (off := 143) dX11_count_1 (by omega) (by omega) (by rw [show (l1 - 0).toNat = 13 by omega]; rfl) rfl ?_
    refine wp_aload_n (nx := 145) dX11_count_144 rfl rfl ?_
    refine wp_getAe (kk := 2) (nx := 148) clsX11 dX11_count_145 rfl kF_X11_28 (by decide) (fo_81 F) (ft_81 F) rfl (fp_81_2 F) ?_
    refine wp_iload_n (nx := 149) dX11_count_148 rfl rfl ?_
    refine wp_bipush (nx := 151) dX11_count_149 rfl ⟨by decide, i32 (by decide)⟩ ?_
    refine wp_isub (nx := 152) dX11_count_151 rfl ?_
    refine wp_invS (nx := 155) (N := M_X11_termAt) (as := [cI (w32 (l1 - 12))]) (st := [cA 83]) (mc := 0) (ms := 0) (mc' := mc) (ms' := ms) dX11_count_152 rfl mok_X11_termAt kM_X11_152 ks_X11_termAt rfl rfl (leB rfl) (leB rfl) (z0 _) (z0 _) (Wp.mono h ?_)
    intro r7 Sq C8 h
    obtain ⟨e9, h⟩ := h
    rw [e9]
    show Wp (d + 1) mc ms M_X11_count 155 [cA 81, cI l1] [cI r7, cA 83] S C8 Q
    obtain ⟨hi, h⟩ := h
    refine wp_ialoadE (nx := 156) dX11_count_155 rfl (fo_83 F) (fl_83 F) hi (ft_83 F) rfl ?_
    exact wp_ireturn dX11_count_156 rfl rfl rfl h
  · have h := h.2.2.2.2.2.2.2.2.2.2.2.2.2.2.2 hc
    refine wp_tableIn (tg := 144) (off := 143) dX11_count_1 (by omega) (by omega) (by rw [show (l1 - 0).toNat = 14 by omega]; rfl) rfl ?_
    refine wp_aload_n (nx := 145) dX11_count_144 rfl rfl ?_
    refine wp_getAe (kk := 2) (nx := 148) clsX11 dX11_count_145 rfl kF_X11_28 (by decide) (fo_81 F) (ft_81 F) rfl (fp_81_2 F) ?_
    refine wp_iload_n (nx := 149) dX11_count_148 rfl rfl ?_
    refine wp_bipush (nx := 151) dX11_count_149 rfl ⟨by decide, i32 (by decide)⟩ ?_
    refine wp_isub (nx := 152) dX11_count_151 rfl ?_
    refine wp_invS (nx := 155) (N := M_X11_termAt) (as := [cI (w32 (l1 - 12))]) (st := [cA 83]) (mc := 0) (ms := 0) (mc' := mc) (ms' := ms) dX11_count_152 rfl mok_X11_termAt kM_X11_152 ks_X11_termAt rfl rfl (leB rfl) (leB rfl) (z0 _) (z0 _) (Wp.mono h ?_)
    intro r9 Sq C10 h
    obtain ⟨e9, h⟩ := h
    rw [e9]
    show Wp (d + 1) mc ms M_X11_count 155 [cA 81, cI l1] [cI r9, cA 83] S C10 Q
    obtain ⟨hi, h⟩ := h
    refine wp_ialoadE (nx := 156) dX11_count_155 rfl (fo_83 F) (fl_83 F) hi (ft_83 F) rfl ?_
    exact wp_ireturn dX11_count_156 rfl rfl rfl h
theorem b_X11_status_0 {d mc ms : Nat} {S : MS} {C : MC} {Q : Int → MS → MC → Prop} (F : Fix S) (h : Q (C 81 0) S C) : K_X11_status_0 d mc ms S C Q := by
  show Wp d mc ms M_X11_status 0 [cA 81] [] S C Q
  refine wp_aload_n (nx := 1) dX11_status_0 rfl rfl ?_
  refine wp_getIe (kk := 0) 0 (nx := 4) clsX11 dX11_status_1 rfl kF_X11_3 (by decide) (fo_81 F) (ft_81 F) rfl rfl rfl ?_
  exact wp_ireturn dX11_status_4 rfl rfl rfl h
