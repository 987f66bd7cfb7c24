/-! blocks -/
theorem b_X4_read_0 {d mc ms : Nat} {l1 : Int} {S : MS} {C : MC} {Q : Int → MS → MC → Prop} (F : Fix S) (h : K_X4_splitTape_0 d 0 0 S C (fun r1 Sq C2 => Sq = S ∧ K_X9_clear_0 d 0 0 S ((upC C2 27 1 0)) (fun r3 Sq C4 => Sq = S ∧ (l1 = 0 ∨ l1 = 1) ∧ K_X4_read_56 (d + 1) mc ms 0 S (upC (upC (upC (upC (upC (upC C4 29 6 l1) 29 7 0) 29 8 (C4 37 0)) 29 9 0) 29 10 0) 29 11 (-1)) Q))) : K_X4_read_0 (d + 1) mc ms l1 S C Q := by
  show Wp (d + 1) mc ms M_X4_read 0 [cA 29, cI l1, cU, cU] [] S C Q
  refine wp_aload_n (nx := 1) dX4_read_0 rfl rfl ?_
  refine wp_invV (nx := 4) (N := M_X4_splitTape) (as := []) (st := []) (mc := 0) (ms := 0) (mc' := mc) (ms' := ms) (a := 29) clsX4 dX4_read_1 rfl mok_X4_splitTape kM_X4_38 ki_X4_splitTape ke_X4_splitTape (fo_29 F) (ft_29 F) rfl rfl (leB rfl) (leB rfl) (z0 _) (z0 _) (Wp.mono h ?_)
  intro r1 Sq C2 h
  obtain ⟨e9, h⟩ := h
  rw [e9]
  show Wp (d + 1) mc ms M_X4_read 4 [cA 29, cI l1, cU, cU] [] S C2 Q
  refine wp_aload_n (nx := 5) dX4_read_4 rfl rfl ?_
  refine wp_getAe (kk := 1) (nx := 8) clsX4 dX4_read_5 rfl kF_X4_34 (by decide) (fo_29 F) (ft_29 F) rfl (fp_29_1 F) ?_
  refine wp_iconst (nx := 9) dX4_read_8 rfl (i32 (by decide)) ?_
  refine wp_putIe (kk := 1) 1 (nx := 12) clsX8 dX4_read_9 rfl kF_X4_41 (by decide) (fo_27 F) (ft_27 F) rfl rfl ⟨rfl, rfl⟩ rfl ?_
  refine wp_aload_n (nx := 13) dX4_read_12 rfl rfl ?_
  refine wp_getAe (kk := 0) (nx := 16) clsX4 dX4_read_13 rfl kF_X4_14 (by decide) (fo_29 F) (ft_29 F) rfl (fp_29_0 F) ?_
  refine wp_invV (nx := 19) (N := M_X9_clear) (as := []) (st := []) (mc := 0) (ms := 0) (mc' := mc) (ms' := ms) (a := 30) clsX9 dX4_read_16 rfl mok_X9_clear kM_X4_46 ki_X9_clear ke_X9_clear (fo_30 F) (ft_30 F) rfl rfl (leB rfl) (leB rfl) (z0 _) (z0 _) (Wp.mono h ?_)
  intro r3 Sq C4 h
  obtain ⟨e9, h⟩ := h
  rw [e9]
  show Wp (d + 1) mc ms M_X4_read 19 [cA 29, cI l1, cU, cU] [] S C4 Q
  refine wp_aload_n (nx := 20) dX4_read_19 rfl rfl ?_
  refine wp_iload_n (nx := 21) dX4_read_20 rfl rfl ?_
  obtain ⟨hz, h⟩ := h
  refine wp_putIe (kk := 6) 6 (nx := 24) clsX4 dX4_read_21 rfl kF_X4_49 (by decide) (fo_29 F) (ft_29 F) rfl rfl (fz_of hz) rfl ?_
  refine wp_aload_n (nx := 25) dX4_read_24 rfl rfl ?_
  refine wp_iconst (nx := 26) dX4_read_25 rfl (i32 (by decide)) ?_
  refine wp_putIe (kk := 7) 7 (nx := 29) clsX4 dX4_read_26 rfl kF_X4_53 (by decide) (fo_29 F) (ft_29 F) rfl rfl ⟨rfl, rfl⟩ rfl ?_
  refine wp_aload_n (nx := 30) dX4_read_29 rfl rfl ?_
  refine wp_aload_n (nx := 31) dX4_read_30 rfl rfl ?_
  refine wp_getAe (kk := 2) (nx := 34) clsX4 dX4_read_31 rfl kF_X4_20 (by decide) (fo_29 F) (ft_29 F) rfl (fp_29_2 F) ?_
  refine wp_iconst (nx := 35) dX4_read_34 rfl (i32 (by decide)) ?_
  refine wp_ialoadE (nx := 36) dX4_read_35 rfl (fo_37 F) (fl_37 F) (by decide) (ft_37 F) ((upC_sA (by decide)).trans (upC_sA (by decide))) ?_
  refine wp_putIe (kk := 8) 8 (nx := 39) clsX4 dX4_read_36 rfl kF_X4_56 (by decide) (fo_29 F) (ft_29 F) rfl rfl ⟨rfl, rfl⟩ rfl ?_
  refine wp_aload_n (nx := 40) dX4_read_39 rfl rfl ?_
  refine wp_iconst (nx := 41) dX4_read_40 rfl (i32 (by decide)) ?_
  refine wp_putIe (kk := 9) 9 (nx := 44) clsX4 dX4_read_41 rfl kF_X4_59 (by decide) (fo_29 F) (ft_29 F) rfl rfl ⟨rfl, rfl⟩ rfl ?_
  refine wp_aload_n (nx := 45) dX4_read_44 rfl rfl ?_
  refine wp_iconst (nx := 46) dX4_read_45 rfl (i32 (by decide)) ?_
  refine wp_putIe (kk := 10) 10 (nx := 49) clsX4 dX4_read_46 rfl kF_X4_62 (by decide) (fo_29 F) (ft_29 F) rfl rfl ⟨rfl, rfl⟩ rfl ?_
  refine wp_aload_n (nx := 50) dX4_read_49 rfl rfl ?_
  refine wp_iconst (nx := 51) dX4_read_50 rfl (i32 (by decide)) ?_
  refine wp_putIe (kk := 11) 11 (nx := 54) clsX4 dX4_read_51 rfl kF_X4_30 (by decide) (fo_29 F) (ft_29 F) rfl rfl ⟨rfl, rfl⟩ rfl ?_
  refine wp_iconst (nx := 55) dX4_read_54 rfl (i32 (by decide)) ?_
  refine wp_istore_n (nx := 56) dX4_read_55 rfl (by decide) ?_
  refine wp_ls (ls2 := [cA 29, cI l1, cI 0, cU]) rfl ?_
  refine wp_fg [true, false, true, false] (ls2 := [cA 29, cU, cI 0, cU]) rfl ?_
  exact h
theorem b_X4_read_56 {d mc ms : Nat} {l2 : Int} {S : MS} {C : MC} {Q : Int → MS → MC → Prop} (F : Fix S) (h : ((12 ≤ l2 → ((0 : Int) ≤ C 29 7 ∧ C 29 7 < 401) ∧ Q 0 S (upC C 29 11 (C 38 (C 29 7)))) ∧ (¬ 12 ≤ l2 → ((C 29 6 = 0 → K_X4_readRule_0 d 0 0 l2 S C (fun r1 Sq C2 => Sq = S ∧ ((r1 = 0 → K_X4_read_99 (d + 1) mc ms l2 r1 S C2 Q) ∧ (¬ r1 = 0 → ((¬ C2 29 8 = 285 → K_X4_read_99 (d + 1) mc ms l2 r1 S C2 Q) ∧ (C2 29 8 = 285 → Q 1 S C2)))))) ∧ (¬ C 29 6 = 0 → K_X4_readOrder_0 d 0 0 l2 S C (fun r3 Sq C4 => Sq = S ∧ ((r3 = 0 → K_X4_read_99 (d + 1) mc ms l2 r3 S C4 Q) ∧ (¬ r3 = 0 → ((¬ C4 29 8 = 285 → K_X4_read_99 (d + 1) mc ms l2 r3 S C4 Q) ∧ (C4 29 8 = 285 → Q 1 S C4)))))))))) : K_X4_read_56 (d + 1) mc ms l2 S C Q := by
  show Wp (d + 1) mc ms M_X4_read 56 [cA 29, cU, cI l2, cU] [] S C Q
  refine wp_iload_n (nx := 57) dX4_read_56 rfl rfl ?_
  refine wp_bipush (nx := 59) dX4_read_57 rfl ⟨by decide, i32 (by decide)⟩ ?_
  refine wp_icmp_ge (nx := 62) (tg := 125) dX4_read_59 rfl rfl (fun hc => ?_) (fun hc => ?_)
  · have h := h.1 hc
    refine wp_aload_n (nx := 126) dX4_read_125 rfl rfl ?_
    refine wp_aload_n (nx := 127) dX4_read_126 rfl rfl ?_
    refine wp_getAe (kk := 3) (nx := 130) clsX4 dX4_read_127 rfl kF_X4_24 (by decide) (fo_29 F) (ft_29 F) rfl (fp_29_3 F) ?_
    refine wp_aload_n (nx := 131) dX4_read_130 rfl rfl ?_
    refine wp_getIe (kk := 7) 7 (nx := 134) clsX4 dX4_read_131 rfl kF_X4_53 (by decide) (fo_29 F) (ft_29 F) rfl rfl rfl ?_
    obtain ⟨hi, h⟩ := h
    refine wp_ialoadE (nx := 135) dX4_read_134 rfl (fo_38 F) (fl_38 F) hi (ft_38 F) rfl ?_
    refine wp_putIe (kk := 11) 11 (nx := 138) clsX4 dX4_read_135 rfl kF_X4_30 (by decide) (fo_29 F) (ft_29 F) rfl rfl ⟨rfl, rfl⟩ rfl ?_
    refine wp_iconst (nx := 139) dX4_read_138 rfl (i32 (by decide)) ?_
    exact wp_ireturn dX4_read_139 rfl rfl (nz_of (Or.inl rfl)) h
  · have h := h.2 hc
    refine wp_aload_n (nx := 63) dX4_read_62 rfl rfl ?_
    refine wp_getIe (kk := 6) 6 (nx := 66) clsX4 dX4_read_63 rfl kF_X4_49 (by decide) (fo_29 F) (ft_29 F) rfl rfl rfl ?_
    refine wp_if_eq (nx := 69) (tg := 77) dX4_read_66 rfl rfl (fun hc => ?_) (fun hc => ?_)
    · have h := h.1 hc
      refine wp_aload_n (nx := 78) dX4_read_77 rfl rfl ?_
      refine wp_iload_n (nx := 79) dX4_read_78 rfl rfl ?_
      refine wp_invV (nx := 82) (N := M_X4_readRule) (as := [cI l2]) (st := []) (mc := 0) (ms := 0) (mc' := mc) (ms' := ms) (a := 29) clsX4 dX4_read_79 rfl mok_X4_readRule kM_X4_69 ki_X4_readRule ke_X4_readRule (fo_29 F) (ft_29 F) rfl rfl (leB rfl) (leB rfl) (z0 _) (z0 _) (Wp.mono h ?_)
      intro r1 Sq C2 h
      obtain ⟨e9, h⟩ := h
      rw [e9]
      show Wp (d + 1) mc ms M_X4_read 82 [cA 29, cU, cI l2, cU] [cI r1] S C2 Q
      refine wp_istore_n (nx := 83) dX4_read_82 rfl (by decide) ?_
      refine wp_ls (ls2 := [cA 29, cU, cI l2, cI r1]) rfl ?_
      refine wp_iload_n (nx := 84) dX4_read_83 rfl rfl ?_
      refine wp_if_eq (nx := 87) (tg := 99) dX4_read_84 rfl rfl (fun hc => ?_) (fun hc => ?_)
      · have h := h.1 hc
        exact h
      · have h := h.2 hc
        refine wp_aload_n (nx := 88) dX4_read_87 rfl rfl ?_
        refine wp_getIe (kk := 8) 8 (nx := 91) clsX4 dX4_read_88 rfl kF_X4_56 (by decide) (fo_29 F) (ft_29 F) rfl rfl rfl ?_
        refine wp_sipush (nx := 94) dX4_read_91 rfl ⟨by decide, i32 (by decide)⟩ ?_
        refine wp_icmp_ne (nx := 97) (tg := 99) dX4_read_94 rfl rfl (fun hc => ?_) (fun hc => ?_)
        · have h := h.1 hc
          exact h
        · have h := h.2 hc
          refine wp_iconst (nx := 98) dX4_read_97 rfl (i32 (by decide)) ?_
          exact wp_ireturn dX4_read_98 rfl rfl (nz_of (Or.inr rfl)) h
    · have h := h.2 hc
      refine wp_aload_n (nx := 70) dX4_read_69 rfl rfl ?_
      refine wp_iload_n (nx := 71) dX4_read_70 rfl rfl ?_
      refine wp_invV (nx := 74) (N := M_X4_readOrder) (as := [cI l2]) (st := []) (mc := 0) (ms := 0) (mc' := mc) (ms' := ms) (a := 29) clsX4 dX4_read_71 rfl mok_X4_readOrder kM_X4_65 ki_X4_readOrder ke_X4_readOrder (fo_29 F) (ft_29 F) rfl rfl (leB rfl) (leB rfl) (z0 _) (z0 _) (Wp.mono h ?_)
      intro r3 Sq C4 h
      obtain ⟨e9, h⟩ := h
      rw [e9]
      show Wp (d + 1) mc ms M_X4_read 74 [cA 29, cU, cI l2, cU] [cI r3] S C4 Q
      refine wp_goto (nx := 82) dX4_read_74 rfl ?_
      refine wp_istore_n (nx := 83) dX4_read_82 rfl (by decide) ?_
      refine wp_ls (ls2 := [cA 29, cU, cI l2, cI r3]) rfl ?_
      refine wp_iload_n (nx := 84) dX4_read_83 rfl rfl ?_
      refine wp_if_eq (nx := 87) (tg := 99) dX4_read_84 rfl rfl (fun hc => ?_) (fun hc => ?_)
      · have h := h.1 hc
        exact h
      · have h := h.2 hc
        refine wp_aload_n (nx := 88) dX4_read_87 rfl rfl ?_
        refine wp_getIe (kk := 8) 8 (nx := 91) clsX4 dX4_read_88 rfl kF_X4_56 (by decide) (fo_29 F) (ft_29 F) rfl rfl rfl ?_
        refine wp_sipush (nx := 94) dX4_read_91 rfl ⟨by decide, i32 (by decide)⟩ ?_
        refine wp_icmp_ne (nx := 97) (tg := 99) dX4_read_94 rfl rfl (fun hc => ?_) (fun hc => ?_)
        · have h := h.1 hc
          exact h
        · have h := h.2 hc
          refine wp_iconst (nx := 98) dX4_read_97 rfl (i32 (by decide)) ?_
          exact wp_ireturn dX4_read_98 rfl rfl (nz_of (Or.inr rfl)) h
theorem b_X4_read_99 {d mc ms : Nat} {l2 l3 : Int} {S : MS} {C : MC} {Q : Int → MS → MC → Prop} (F : Fix S) (h : ((l3 = 0 → ((0 : Int) ≤ C 29 7 ∧ C 29 7 < 401) ∧ Q 0 S (upC C 29 11 (C 38 (C 29 7)))) ∧ (¬ l3 = 0 → ((C 29 8 = 59 → K_X4_next_0 d 0 0 S C (fun r1 Sq C2 => Sq = S ∧ K_X4_read_56 (d + 1) mc ms (w32 (l2 + 1)) S C2 Q)) ∧ (¬ C 29 8 = 59 → ((0 : Int) ≤ C 29 7 ∧ C 29 7 < 401) ∧ Q 0 S (upC C 29 11 (C 38 (C 29 7)))))))) : K_X4_read_99 (d + 1) mc ms l2 l3 S C Q := by
  show Wp (d + 1) mc ms M_X4_read 99 [cA 29, cU, cI l2, cI l3] [] S C Q
  refine wp_iload_n (nx := 100) dX4_read_99 rfl rfl ?_
  refine wp_if_eq (nx := 103) (tg := 125) dX4_read_100 rfl rfl (fun hc => ?_) (fun hc => ?_)
  · have h := h.1 hc
    refine wp_aload_n (nx := 126) dX4_read_125 rfl rfl ?_
    refine wp_aload_n (nx := 127) dX4_read_126 rfl rfl ?_
    refine wp_getAe (kk := 3) (nx := 130) clsX4 dX4_read_127 rfl kF_X4_24 (by decide) (fo_29 F) (ft_29 F) rfl (fp_29_3 F) ?_
    refine wp_aload_n (nx := 131) dX4_read_130 rfl rfl ?_
    refine wp_getIe (kk := 7) 7 (nx := 134) clsX4 dX4_read_131 rfl kF_X4_53 (by decide) (fo_29 F) (ft_29 F) rfl rfl rfl ?_
    obtain ⟨hi, h⟩ := h
    refine wp_ialoadE (nx := 135) dX4_read_134 rfl (fo_38 F) (fl_38 F) hi (ft_38 F) rfl ?_
    refine wp_putIe (kk := 11) 11 (nx := 138) clsX4 dX4_read_135 rfl kF_X4_30 (by decide) (fo_29 F) (ft_29 F) rfl rfl ⟨rfl, rfl⟩ rfl ?_
    refine wp_iconst (nx := 139) dX4_read_138 rfl (i32 (by decide)) ?_
    exact wp_ireturn dX4_read_139 rfl rfl (nz_of (Or.inl rfl)) h
  · have h := h.2 hc
    refine wp_aload_n (nx := 104) dX4_read_103 rfl rfl ?_
    refine wp_getIe (kk := 8) 8 (nx := 107) clsX4 dX4_read_104 rfl kF_X4_56 (by decide) (fo_29 F) (ft_29 F) rfl rfl rfl ?_
    refine wp_bipush (nx := 109) dX4_read_107 rfl ⟨by decide, i32 (by decide)⟩ ?_
    refine wp_icmp_eq (nx := 112) (tg := 115) dX4_read_109 rfl rfl (fun hc => ?_) (fun hc => ?_)
    · have h := h.1 hc
      refine wp_aload_n (nx := 116) dX4_read_115 rfl rfl ?_
      refine wp_invV (nx := 119) (N := M_X4_next) (as := []) (st := []) (mc := 0) (ms := 0) (mc' := mc) (ms' := ms) (a := 29) clsX4 dX4_read_116 rfl mok_X4_next kM_X4_72 ki_X4_next ke_X4_next (fo_29 F) (ft_29 F) rfl rfl (leB rfl) (leB rfl) (z0 _) (z0 _) (Wp.mono h ?_)
      intro r1 Sq C2 h
      obtain ⟨e9, h⟩ := h
      rw [e9]
      show Wp (d + 1) mc ms M_X4_read 119 [cA 29, cU, cI l2, cI l3] [] S C2 Q
      refine wp_iinc (nx := 122) dX4_read_119 rfl rfl (by decide) ?_
      refine wp_ls (ls2 := [cA 29, cU, cI (w32 (l2 + 1)), cI l3]) rfl ?_
      refine wp_goto (nx := 56) dX4_read_122 rfl ?_
      refine wp_fg [true, false, true, false] (ls2 := [cA 29, cU, cI (w32 (l2 + 1)), cU]) rfl ?_
      exact h
    · have h := h.2 hc
      refine wp_goto (nx := 125) dX4_read_112 rfl ?_
      refine wp_aload_n (nx := 126) dX4_read_125 rfl rfl ?_
      refine wp_aload_n (nx := 127) dX4_read_126 rfl rfl ?_
      refine wp_getAe (kk := 3) (nx := 130) clsX4 dX4_read_127 rfl kF_X4_24 (by decide) (fo_29 F) (ft_29 F) rfl (fp_29_3 F) ?_
      refine wp_aload_n (nx := 131) dX4_read_130 rfl rfl ?_
      refine wp_getIe (kk := 7) 7 (nx := 134) clsX4 dX4_read_131 rfl kF_X4_53 (by decide) (fo_29 F) (ft_29 F) rfl rfl rfl ?_
      obtain ⟨hi, h⟩ := h
      refine wp_ialoadE (nx := 135) dX4_read_134 rfl (fo_38 F) (fl_38 F) hi (ft_38 F) rfl ?_
      refine wp_putIe (kk := 11) 11 (nx := 138) clsX4 dX4_read_135 rfl kF_X4_30 (by decide) (fo_29 F) (ft_29 F) rfl rfl ⟨rfl, rfl⟩ rfl ?_
      refine wp_iconst (nx := 139) dX4_read_138 rfl (i32 (by decide)) ?_
      exact wp_ireturn dX4_read_139 rfl rfl (nz_of (Or.inl rfl)) h
theorem b_X4_splitTape_0 {d mc ms : Nat} {S : MS} {C : MC} {Q : Int → MS → MC → Prop} (F : Fix S) (h : K_X4_splitTape_9 (d + 1) mc ms 0 0 S (upC C 29 5 0) Q) : K_X4_splitTape_0 (d + 1) mc ms S C Q := by
  show Wp (d + 1) mc ms M_X4_splitTape 0 [cA 29, cU, cU, cU] [] S C Q
  refine wp_aload_n (nx := 1) dX4_splitTape_0 rfl rfl ?_
  refine wp_iconst (nx := 2) dX4_splitTape_1 rfl (i32 (by decide)) ?_
  refine wp_putIe (kk := 5) 5 (nx := 5) clsX4 dX4_splitTape_2 rfl kF_X4_75 (by decide) (fo_29 F) (ft_29 F) rfl rfl ⟨rfl, rfl⟩ rfl ?_
  refine wp_iconst (nx := 6) dX4_splitTape_5 rfl (i32 (by decide)) ?_
  refine wp_istore_n (nx := 7) dX4_splitTape_6 rfl (by decide) ?_
  refine wp_ls (ls2 := [cA 29, cI 0, cU, cU]) rfl ?_
  refine wp_iconst (nx := 8) dX4_splitTape_7 rfl (i32 (by decide)) ?_
  refine wp_istore_n (nx := 9) dX4_splitTape_8 rfl (by decide) ?_
  refine wp_ls (ls2 := [cA 29, cI 0, cI 0, cU]) rfl ?_
  exact h
theorem b_X4_splitTape_9 {d mc ms : Nat} {l1 l2 : Int} {S : MS} {C : MC} {Q : Int → MS → MC → Prop} (F : Fix S) (h : ((400 ≤ l2 → ((0 : Int) ≤ C 29 5 ∧ C 29 5 < 401) ∧ ((0 : Int) ≤ C 29 5 ∧ C 29 5 < 401) ∧ Q 0 S (upC (upC C 37 (C 29 5) 285) 38 (C 29 5) (C 27 1))) ∧ (¬ 400 ≤ l2 → ((C 27 1 ≤ l1 → ((0 : Int) ≤ C 29 5 ∧ C 29 5 < 401) ∧ ((0 : Int) ≤ C 29 5 ∧ C 29 5 < 401) ∧ Q 0 S (upC (upC C 37 (C 29 5) 285) 38 (C 29 5) (C 27 1))) ∧ (¬ C 27 1 ≤ l1 → K_X8_tokenEnd_0 d 0 0 l1 S C (fun r1 Sq C2 => Sq = S ∧ K_X8_byteAt_0 d 0 0 l1 S C2 (fun r3 Sq C4 => Sq = S ∧ ((r3 = 32 → K_X4_splitTape_9 (d + 1) mc ms r1 (w32 (l2 + 1)) S C4 Q) ∧ (¬ r3 = 32 → K_X4_addToken_0 d 0 0 l1 r1 S C4 (fun r5 Sq C6 => Sq = S ∧ K_X4_splitTape_9 (d + 1) mc ms r1 (w32 (l2 + 1)) S C6 Q)))))))))) : K_X4_splitTape_9 (d + 1) mc ms l1 l2 S C Q := by
  show Wp (d + 1) mc ms M_X4_splitTape 9 [cA 29, cI l1, cI l2, cU] [] S C Q
  refine wp_iload_n (nx := 10) dX4_splitTape_9 rfl rfl ?_
  refine wp_sipush (nx := 13) dX4_splitTape_10 rfl ⟨by decide, i32 (by decide)⟩ ?_
  refine wp_icmp_ge (nx := 16) (tg := 63) dX4_splitTape_13 rfl rfl (fun hc => ?_) (fun hc => ?_)
  · have h := h.1 hc
    refine wp_aload_n (nx := 64) dX4_splitTape_63 rfl rfl ?_
    refine wp_getAe (kk := 2) (nx := 67) clsX4 dX4_splitTape_64 rfl kF_X4_20 (by decide) (fo_29 F) (ft_29 F) rfl (fp_29_2 F) ?_
    refine wp_aload_n (nx := 68) dX4_splitTape_67 rfl rfl ?_
    refine wp_getIe (kk := 5) 5 (nx := 71) clsX4 dX4_splitTape_68 rfl kF_X4_75 (by decide) (fo_29 F) (ft_29 F) rfl rfl rfl ?_
    refine wp_sipush (nx := 74) dX4_splitTape_71 rfl ⟨by decide, i32 (by decide)⟩ ?_
    obtain ⟨hi, h⟩ := h
    refine wp_iastoreE (nx := 75) dX4_splitTape_74 rfl (fo_37 F) (fl_37 F) hi (ft_37 F) ?_
    refine wp_aload_n (nx := 76) dX4_splitTape_75 rfl rfl ?_
    refine wp_getAe (kk := 3) (nx := 79) clsX4 dX4_splitTape_76 rfl kF_X4_24 (by decide) (fo_29 F) (ft_29 F) rfl (fp_29_3 F) ?_
    refine wp_aload_n (nx := 80) dX4_splitTape_79 rfl rfl ?_
    refine wp_getIe (kk := 5) 5 (nx := 83) clsX4 dX4_splitTape_80 rfl kF_X4_75 (by decide) (fo_29 F) (ft_29 F) rfl rfl (upC_sA (by decide)) ?_
    refine wp_aload_n (nx := 84) dX4_splitTape_83 rfl rfl ?_
    refine wp_getAe (kk := 1) (nx := 87) clsX4 dX4_splitTape_84 rfl kF_X4_34 (by decide) (fo_29 F) (ft_29 F) rfl (fp_29_1 F) ?_
    refine wp_getIe (kk := 1) 1 (nx := 90) clsX8 dX4_splitTape_87 rfl kF_X4_41 (by decide) (fo_27 F) (ft_27 F) rfl rfl (upC_sA (by decide)) ?_
    obtain ⟨hi, h⟩ := h
    refine wp_iastoreE (nx := 91) dX4_splitTape_90 rfl (fo_38 F) (fl_38 F) hi (ft_38 F) ?_
    exact wp_return dX4_splitTape_91 rfl h
  · have h := h.2 hc
    refine wp_iload_n (nx := 17) dX4_splitTape_16 rfl rfl ?_
    refine wp_aload_n (nx := 18) dX4_splitTape_17 rfl rfl ?_
    refine wp_getAe (kk := 1) (nx := 21) clsX4 dX4_splitTape_18 rfl kF_X4_34 (by decide) (fo_29 F) (ft_29 F) rfl (fp_29_1 F) ?_
    refine wp_getIe (kk := 1) 1 (nx := 24) clsX8 dX4_splitTape_21 rfl kF_X4_41 (by decide) (fo_27 F) (ft_27 F) rfl rfl rfl ?_
    refine wp_icmp_ge (nx := 27) (tg := 63) dX4_splitTape_24 rfl rfl (fun hc => ?_) (fun hc => ?_)
    · have h := h.1 hc
      refine wp_aload_n (nx := 64) dX4_splitTape_63 rfl rfl ?_
      refine wp_getAe (kk := 2) (nx := 67) clsX4 dX4_splitTape_64 rfl kF_X4_20 (by decide) (fo_29 F) (ft_29 F) rfl (fp_29_2 F) ?_
      refine wp_aload_n (nx := 68) dX4_splitTape_67 rfl rfl ?_
      refine wp_getIe (kk := 5) 5 (nx := 71) clsX4 dX4_splitTape_68 rfl kF_X4_75 (by decide) (fo_29 F) (ft_29 F) rfl rfl rfl ?_
      refine wp_sipush (nx := 74) dX4_splitTape_71 rfl ⟨by decide, i32 (by decide)⟩ ?_
      obtain ⟨hi, h⟩ := h
      refine wp_iastoreE (nx := 75) dX4_splitTape_74 rfl (fo_37 F) (fl_37 F) hi (ft_37 F) ?_
      refine wp_aload_n (nx := 76) dX4_splitTape_75 rfl rfl ?_
      refine wp_getAe (kk := 3) (nx := 79) clsX4 dX4_splitTape_76 rfl kF_X4_24 (by decide) (fo_29 F) (ft_29 F) rfl (fp_29_3 F) ?_
      refine wp_aload_n (nx := 80) dX4_splitTape_79 rfl rfl ?_
      refine wp_getIe (kk := 5) 5 (nx := 83) clsX4 dX4_splitTape_80 rfl kF_X4_75 (by decide) (fo_29 F) (ft_29 F) rfl rfl (upC_sA (by decide)) ?_
      refine wp_aload_n (nx := 84) dX4_splitTape_83 rfl rfl ?_
      refine wp_getAe (kk := 1) (nx := 87) clsX4 dX4_splitTape_84 rfl kF_X4_34 (by decide) (fo_29 F) (ft_29 F) rfl (fp_29_1 F) ?_
      refine wp_getIe (kk := 1) 1 (nx := 90) clsX8 dX4_splitTape_87 rfl kF_X4_41 (by decide) (fo_27 F) (ft_27 F) rfl rfl (upC_sA (by decide)) ?_
      obtain ⟨hi, h⟩ := h
      refine wp_iastoreE (nx := 91) dX4_splitTape_90 rfl (fo_38 F) (fl_38 F) hi (ft_38 F) ?_
      exact wp_return dX4_splitTape_91 rfl h
    · have h := h.2 hc
      refine wp_aload_n (nx := 28) dX4_splitTape_27 rfl rfl ?_
      refine wp_getAe (kk := 1) (nx := 31) clsX4 dX4_splitTape_28 rfl kF_X4_34 (by decide) (fo_29 F) (ft_29 F) rfl (fp_29_1 F) ?_
      refine wp_iload_n (nx := 32) dX4_splitTape_31 rfl rfl ?_
      refine wp_invV (nx := 35) (N := M_X8_tokenEnd) (as := [cI l1]) (st := []) (mc := 0) (ms := 0) (mc' := mc) (ms' := ms) (a := 27) clsX8 dX4_splitTape_32 rfl mok_X8_tokenEnd kM_X4_78 ki_X8_tokenEnd ke_X8_tokenEnd (fo_27 F) (ft_27 F) rfl rfl (leB rfl) (leB rfl) (z0 _) (z0 _) (Wp.mono h ?_)
      intro r1 Sq C2 h
      obtain ⟨e9, h⟩ := h
      rw [e9]
      show Wp (d + 1) mc ms M_X4_splitTape 35 [cA 29, cI l1, cI l2, cU] [cI r1] S C2 Q
      refine wp_istore_n (nx := 36) dX4_splitTape_35 rfl (by decide) ?_
      refine wp_ls (ls2 := [cA 29, cI l1, cI l2, cI r1]) rfl ?_
      refine wp_aload_n (nx := 37) dX4_splitTape_36 rfl rfl ?_
      refine wp_getAe (kk := 1) (nx := 40) clsX4 dX4_splitTape_37 rfl kF_X4_34 (by decide) (fo_29 F) (ft_29 F) rfl (fp_29_1 F) ?_
      refine wp_iload_n (nx := 41) dX4_splitTape_40 rfl rfl ?_
      refine wp_invV (nx := 44) (N := M_X8_byteAt) (as := [cI l1]) (st := []) (mc := 0) (ms := 0) (mc' := mc) (ms' := ms) (a := 27) clsX8 dX4_splitTape_41 rfl mok_X8_byteAt kM_X4_82 ki_X8_byteAt ke_X8_byteAt (fo_27 F) (ft_27 F) rfl rfl (leB rfl) (leB rfl) (z0 _) (z0 _) (Wp.mono h ?_)
      intro r3 Sq C4 h
      obtain ⟨e9, h⟩ := h
      rw [e9]
      show Wp (d + 1) mc ms M_X4_splitTape 44 [cA 29, cI l1, cI l2, cI r1] [cI r3] S C4 Q
      refine wp_bipush (nx := 46) dX4_splitTape_44 rfl ⟨by decide, i32 (by decide)⟩ ?_
      refine wp_icmp_eq (nx := 49) (tg := 55) dX4_splitTape_46 rfl rfl (fun hc => ?_) (fun hc => ?_)
      · have h := h.1 hc
        refine wp_iload_n (nx := 56) dX4_splitTape_55 rfl rfl ?_
        refine wp_istore_n (nx := 57) dX4_splitTape_56 rfl (by decide) ?_
        refine wp_ls (ls2 := [cA 29, cI r1, cI l2, cI r1]) rfl ?_
        refine wp_iinc (nx := 60) dX4_splitTape_57 rfl rfl (by decide) ?_
        refine wp_ls (ls2 := [cA 29, cI r1, cI (w32 (l2 + 1)), cI r1]) rfl ?_
        refine wp_goto (nx := 9) dX4_splitTape_60 rfl ?_
        refine wp_fg [true, true, true, false] (ls2 := [cA 29, cI r1, cI (w32 (l2 + 1)), cU]) rfl ?_
        exact h
      · have h := h.2 hc
        refine wp_aload_n (nx := 50) dX4_splitTape_49 rfl rfl ?_
        refine wp_iload_n (nx := 51) dX4_splitTape_50 rfl rfl ?_
        refine wp_iload_n (nx := 52) dX4_splitTape_51 rfl rfl ?_
        refine wp_invV (nx := 55) (N := M_X4_addToken) (as := [cI l1, cI r1]) (st := []) (mc := 0) (ms := 0) (mc' := mc) (ms' := ms) (a := 29) clsX4 dX4_splitTape_52 rfl mok_X4_addToken kM_X4_85 ki_X4_addToken ke_X4_addToken (fo_29 F) (ft_29 F) rfl rfl (leB rfl) (leB rfl) (z0 _) (z0 _) (Wp.mono h ?_)
        intro r5 Sq C6 h
        obtain ⟨e9, h⟩ := h
        rw [e9]
        show Wp (d + 1) mc ms M_X4_splitTape 55 [cA 29, cI l1, cI l2, cI r1] [] S C6 Q
        refine wp_iload_n (nx := 56) dX4_splitTape_55 rfl rfl ?_
        refine wp_istore_n (nx := 57) dX4_splitTape_56 rfl (by decide) ?_
        refine wp_ls (ls2 := [cA 29, cI r1, cI l2, cI r1]) rfl ?_
        refine wp_iinc (nx := 60) dX4_splitTape_57 rfl rfl (by decide) ?_
        refine wp_ls (ls2 := [cA 29, cI r1, cI (w32 (l2 + 1)), cI r1]) rfl ?_
        refine wp_goto (nx := 9) dX4_splitTape_60 rfl ?_
        refine wp_fg [true, true, true, false] (ls2 := [cA 29, cI r1, cI (w32 (l2 + 1)), cU]) rfl ?_
        exact h
theorem b_X4_addToken_0 {d mc ms : Nat} {l1 l2 : Int} {S : MS} {C : MC} {Q : Int → MS → MC → Prop} (F : Fix S) (h : K_X8_byteAt_0 d 0 0 l1 S C (fun r1 Sq C2 => Sq = S ∧ ((0 : Int) ≤ C2 29 5 ∧ C2 29 5 < 401) ∧ ((0 : Int) ≤ C2 29 5 ∧ C2 29 5 < 401) ∧ K_X10_isDigit_0 d 0 0 r1 S ((upC (upC C2 39 (C2 29 5) (-1)) 37 (C2 29 5) r1)) (fun r3 Sq C4 => Sq = S ∧ ((r3 = 0 → K_X10_isLetter_0 d 0 0 r1 S C4 (fun r5 Sq C6 => Sq = S ∧ ((r5 = 0 → ((0 : Int) ≤ C6 29 5 ∧ C6 29 5 < 401) ∧ Q 0 S (upC (upC C6 38 (C6 29 5) l1) 29 5 (w32 ((C6 29 5) + 1)))) ∧ (¬ r5 = 0 → K_X8_wordAt_0 d 0 0 l1 l2 S C6 (fun r7 Sq C8 => Sq = S ∧ ((0 : Int) ≤ C6 29 5 ∧ C6 29 5 < 401) ∧ ((0 : Int) ≤ C8 29 5 ∧ C8 29 5 < 401) ∧ Q 0 S (upC (upC (upC C8 37 (C6 29 5) r7) 38 (C8 29 5) l1) 29 5 (w32 ((C8 29 5) + 1)))))))) ∧ (¬ r3 = 0 → ((0 : Int) ≤ C4 29 5 ∧ C4 29 5 < 401) ∧ K_X8_numberAt_0 d 0 0 l1 l2 S ((upC C4 37 (C4 29 5) 284)) (fun r9 Sq C10 => Sq = S ∧ ((0 : Int) ≤ C4 29 5 ∧ C4 29 5 < 401) ∧ ((0 : Int) ≤ C10 29 5 ∧ C10 29 5 < 401) ∧ Q 0 S (upC (upC (upC C10 39 (C4 29 5) r9) 38 (C10 29 5) l1) 29 5 (w32 ((C10 29 5) + 1))))))))) : K_X4_addToken_0 (d + 1) mc ms l1 l2 S C Q := by
  show Wp (d + 1) mc ms M_X4_addToken 0 [cA 29, cI l1, cI l2, cU] [] S C Q
  refine wp_aload_n (nx := 1) dX4_addToken_0 rfl rfl ?_
  refine wp_getAe (kk := 1) (nx := 4) clsX4 dX4_addToken_1 rfl kF_X4_34 (by decide) (fo_29 F) (ft_29 F) rfl (fp_29_1 F) ?_
  refine wp_iload_n (nx := 5) dX4_addToken_4 rfl rfl ?_
  refine wp_invV (nx := 8) (N := M_X8_byteAt) (as := [cI l1]) (st := []) (mc := 0) (ms := 0) (mc' := mc) (ms' := ms) (a := 27) clsX8 dX4_addToken_5 rfl mok_X8_byteAt kM_X4_82 ki_X8_byteAt ke_X8_byteAt (fo_27 F) (ft_27 F) rfl rfl (leB rfl) (leB rfl) (z0 _) (z0 _) (Wp.mono h ?_)
  intro r1 Sq C2 h
  obtain ⟨e9, h⟩ := h
  rw [e9]
  show Wp (d + 1) mc ms M_X4_addToken 8 [cA 29, cI l1, cI l2, cU] [cI r1] S C2 Q
  refine wp_istore_n (nx := 9) dX4_addToken_8 rfl (by decide) ?_
  refine wp_ls (ls2 := [cA 29, cI l1, cI l2, cI r1]) rfl ?_
  refine wp_aload_n (nx := 10) dX4_addToken_9 rfl rfl ?_
  refine wp_getAe (kk := 4) (nx := 13) clsX4 dX4_addToken_10 rfl kF_X4_27 (by decide) (fo_29 F) (ft_29 F) rfl (fp_29_4 F) ?_
  refine wp_aload_n (nx := 14) dX4_addToken_13 rfl rfl ?_
  refine wp_getIe (kk := 5) 5 (nx := 17) clsX4 dX4_addToken_14 rfl kF_X4_75 (by decide) (fo_29 F) (ft_29 F) rfl rfl rfl ?_
  refine wp_iconst (nx := 18) dX4_addToken_17 rfl (i32 (by decide)) ?_
  obtain ⟨hi, h⟩ := h
  refine wp_iastoreE (nx := 19) dX4_addToken_18 rfl (fo_39 F) (fl_39 F) hi (ft_39 F) ?_
  refine wp_aload_n (nx := 20) dX4_addToken_19 rfl rfl ?_
  refine wp_getAe (kk := 2) (nx := 23) clsX4 dX4_addToken_20 rfl kF_X4_20 (by decide) (fo_29 F) (ft_29 F) rfl (fp_29_2 F) ?_
  refine wp_aload_n (nx := 24) dX4_addToken_23 rfl rfl ?_
  refine wp_getIe (kk := 5) 5 (nx := 27) clsX4 dX4_addToken_24 rfl kF_X4_75 (by decide) (fo_29 F) (ft_29 F) rfl rfl (upC_sA (by decide)) ?_
  refine wp_iload_n (nx := 28) dX4_addToken_27 rfl rfl ?_
  obtain ⟨hi, h⟩ := h
  refine wp_iastoreE (nx := 29) dX4_addToken_28 rfl (fo_37 F) (fl_37 F) hi (ft_37 F) ?_
  refine wp_iload_n (nx := 30) dX4_addToken_29 rfl rfl ?_
  refine wp_invN (nx := 33) (N := M_X10_isDigit) (as := [cI r1]) (st := []) (mc := 0) (ms := 0) (mc' := mc) (ms' := ms) dX4_addToken_30 rfl mok_X10_isDigit kN_X4_88 ks_X10_isDigit rfl rfl (leB rfl) (leB rfl) (z0 _) (z0 _) (Wp.mono h ?_)
  intro r3 Sq C4 h
  obtain ⟨e9, h⟩ := h
  rw [e9]
  show Wp (d + 1) mc ms M_X4_addToken 33 [cA 29, cI l1, cI l2, cI r1] [cI r3] S C4 Q
  refine wp_if_eq (nx := 36) (tg := 69) dX4_addToken_33 rfl rfl (fun hc => ?_) (fun hc => ?_)
  · have h := h.1 hc
    refine wp_iload_n (nx := 70) dX4_addToken_69 rfl rfl ?_
    refine wp_invN (nx := 73) (N := M_X10_isLetter) (as := [cI r1]) (st := []) (mc := 0) (ms := 0) (mc' := mc) (ms' := ms) dX4_addToken_70 rfl mok_X10_isLetter kN_X4_95 ks_X10_isLetter rfl rfl (leB rfl) (leB rfl) (z0 _) (z0 _) (Wp.mono h ?_)
    intro r5 Sq C6 h
    obtain ⟨e9, h⟩ := h
    rw [e9]
    show Wp (d + 1) mc ms M_X4_addToken 73 [cA 29, cI l1, cI l2, cI r1] [cI r5] S C6 Q
    refine wp_if_eq (nx := 76) (tg := 94) dX4_addToken_73 rfl rfl (fun hc => ?_) (fun hc => ?_)
    · have h := h.1 hc
      refine wp_aload_n (nx := 95) dX4_addToken_94 rfl rfl ?_
      refine wp_getAe (kk := 3) (nx := 98) clsX4 dX4_addToken_95 rfl kF_X4_24 (by decide) (fo_29 F) (ft_29 F) rfl (fp_29_3 F) ?_
      refine wp_aload_n (nx := 99) dX4_addToken_98 rfl rfl ?_
      refine wp_getIe (kk := 5) 5 (nx := 102) clsX4 dX4_addToken_99 rfl kF_X4_75 (by decide) (fo_29 F) (ft_29 F) rfl rfl rfl ?_
      refine wp_iload_n (nx := 103) dX4_addToken_102 rfl rfl ?_
      obtain ⟨hi, h⟩ := h
      refine wp_iastoreE (nx := 104) dX4_addToken_103 rfl (fo_38 F) (fl_38 F) hi (ft_38 F) ?_
      refine wp_aload_n (nx := 105) dX4_addToken_104 rfl rfl ?_
      refine wp_dup (nx := 106) dX4_addToken_105 rfl (k1A _) ?_
      refine wp_getIe (kk := 5) 5 (nx := 109) clsX4 dX4_addToken_106 rfl kF_X4_75 (by decide) (fo_29 F) (ft_29 F) rfl rfl (upC_sA (by decide)) ?_
      refine wp_iconst (nx := 110) dX4_addToken_109 rfl (i32 (by decide)) ?_
      refine wp_iadd (nx := 111) dX4_addToken_110 rfl ?_
      refine wp_putIe (kk := 5) 5 (nx := 114) clsX4 dX4_addToken_111 rfl kF_X4_75 (by decide) (fo_29 F) (ft_29 F) rfl rfl ⟨rfl, rfl⟩ rfl ?_
      exact wp_return dX4_addToken_114 rfl h
    · have h := h.2 hc
      refine wp_aload_n (nx := 77) dX4_addToken_76 rfl rfl ?_
      refine wp_getAe (kk := 2) (nx := 80) clsX4 dX4_addToken_77 rfl kF_X4_20 (by decide) (fo_29 F) (ft_29 F) rfl (fp_29_2 F) ?_
      refine wp_aload_n (nx := 81) dX4_addToken_80 rfl rfl ?_
      refine wp_getIe (kk := 5) 5 (nx := 84) clsX4 dX4_addToken_81 rfl kF_X4_75 (by decide) (fo_29 F) (ft_29 F) rfl rfl rfl ?_
      refine wp_aload_n (nx := 85) dX4_addToken_84 rfl rfl ?_
      refine wp_getAe (kk := 1) (nx := 88) clsX4 dX4_addToken_85 rfl kF_X4_34 (by decide) (fo_29 F) (ft_29 F) rfl (fp_29_1 F) ?_
      refine wp_iload_n (nx := 89) dX4_addToken_88 rfl rfl ?_
      refine wp_iload_n (nx := 90) dX4_addToken_89 rfl rfl ?_
      refine wp_invV (nx := 93) (N := M_X8_wordAt) (as := [cI l1, cI l2]) (st := [cI (C6 29 5), cA 37]) (mc := 0) (ms := 0) (mc' := mc) (ms' := ms) (a := 27) clsX8 dX4_addToken_90 rfl mok_X8_wordAt kM_X4_98 ki_X8_wordAt ke_X8_wordAt (fo_27 F) (ft_27 F) rfl rfl (leB rfl) (leB rfl) (z0 _) (z0 _) (Wp.mono h ?_)
      intro r7 Sq C8 h
      obtain ⟨e9, h⟩ := h
      rw [e9]
      show Wp (d + 1) mc ms M_X4_addToken 93 [cA 29, cI l1, cI l2, cI r1] [cI r7, cI (C6 29 5), cA 37] S C8 Q
      obtain ⟨hi, h⟩ := h
      refine wp_iastoreE (nx := 94) dX4_addToken_93 rfl (fo_37 F) (fl_37 F) hi (ft_37 F) ?_
      refine wp_aload_n (nx := 95) dX4_addToken_94 rfl rfl ?_
      refine wp_getAe (kk := 3) (nx := 98) clsX4 dX4_addToken_95 rfl kF_X4_24 (by decide) (fo_29 F) (ft_29 F) rfl (fp_29_3 F) ?_
      refine wp_aload_n (nx := 99) dX4_addToken_98 rfl rfl ?_
      refine wp_getIe (kk := 5) 5 (nx := 102) clsX4 dX4_addToken_99 rfl kF_X4_75 (by decide) (fo_29 F) (ft_29 F) rfl rfl (upC_sA (by decide)) ?_
      refine wp_iload_n (nx := 103) dX4_addToken_102 rfl rfl ?_
      obtain ⟨hi, h⟩ := h
      refine wp_iastoreE (nx := 104) dX4_addToken_103 rfl (fo_38 F) (fl_38 F) hi (ft_38 F) ?_
      refine wp_aload_n (nx := 105) dX4_addToken_104 rfl rfl ?_
      refine wp_dup (nx := 106) dX4_addToken_105 rfl (k1A _) ?_
      refine wp_getIe (kk := 5) 5 (nx := 109) clsX4 dX4_addToken_106 rfl kF_X4_75 (by decide) (fo_29 F) (ft_29 F) rfl rfl ((upC_sA (by decide)).trans (upC_sA (by decide))) ?_
      refine wp_iconst (nx := 110) dX4_addToken_109 rfl (i32 (by decide)) ?_
      refine wp_iadd (nx := 111) dX4_addToken_110 rfl ?_
      refine wp_putIe (kk := 5) 5 (nx := 114) clsX4 dX4_addToken_111 rfl kF_X4_75 (by decide) (fo_29 F) (ft_29 F) rfl rfl ⟨rfl, rfl⟩ rfl ?_
      exact wp_return dX4_addToken_114 rfl h
  · have h := h.2 hc
    refine wp_aload_n (nx := 37) dX4_addToken_36 rfl rfl ?_
    refine wp_getAe (kk := 2) (nx := 40) clsX4 dX4_addToken_37 rfl kF_X4_20 (by decide) (fo_29 F) (ft_29 F) rfl (fp_29_2 F) ?_
    refine wp_aload_n (nx := 41) dX4_addToken_40 rfl rfl ?_
    refine wp_getIe (kk := 5) 5 (nx := 44) clsX4 dX4_addToken_41 rfl kF_X4_75 (by decide) (fo_29 F) (ft_29 F) rfl rfl rfl ?_
    refine wp_sipush (nx := 47) dX4_addToken_44 rfl ⟨by decide, i32 (by decide)⟩ ?_
    obtain ⟨hi, h⟩ := h
    refine wp_iastoreE (nx := 48) dX4_addToken_47 rfl (fo_37 F) (fl_37 F) hi (ft_37 F) ?_
    refine wp_aload_n (nx := 49) dX4_addToken_48 rfl rfl ?_
    refine wp_getAe (kk := 4) (nx := 52) clsX4 dX4_addToken_49 rfl kF_X4_27 (by decide) (fo_29 F) (ft_29 F) rfl (fp_29_4 F) ?_
    refine wp_aload_n (nx := 53) dX4_addToken_52 rfl rfl ?_
    refine wp_getIe (kk := 5) 5 (nx := 56) clsX4 dX4_addToken_53 rfl kF_X4_75 (by decide) (fo_29 F) (ft_29 F) rfl rfl (upC_sA (by decide)) ?_
    refine wp_aload_n (nx := 57) dX4_addToken_56 rfl rfl ?_
    refine wp_getAe (kk := 1) (nx := 60) clsX4 dX4_addToken_57 rfl kF_X4_34 (by decide) (fo_29 F) (ft_29 F) rfl (fp_29_1 F) ?_
    refine wp_iload_n (nx := 61) dX4_addToken_60 rfl rfl ?_
    refine wp_iload_n (nx := 62) dX4_addToken_61 rfl rfl ?_
    refine wp_invV (nx := 65) (N := M_X8_numberAt) (as := [cI l1, cI l2]) (st := [cI (C4 29 5), cA 39]) (mc := 0) (ms := 0) (mc' := mc) (ms' := ms) (a := 27) clsX8 dX4_addToken_62 rfl mok_X8_numberAt kM_X4_91 ki_X8_numberAt ke_X8_numberAt (fo_27 F) (ft_27 F) rfl rfl (leB rfl) (leB rfl) (z0 _) (z0 _) (Wp.mono h ?_)
    intro r9 Sq C10 h
    obtain ⟨e9, h⟩ := h
    rw [e9]
    show Wp (d + 1) mc ms M_X4_addToken 65 [cA 29, cI l1, cI l2, cI r1] [cI r9, cI (C4 29 5), cA 39] S C10 Q
    obtain ⟨hi, h⟩ := h
    refine wp_iastoreE (nx := 66) dX4_addToken_65 rfl (fo_39 F) (fl_39 F) hi (ft_39 F) ?_
    refine wp_goto (nx := 94) dX4_addToken_66 rfl ?_
    refine wp_aload_n (nx := 95) dX4_addToken_94 rfl rfl ?_
    refine wp_getAe (kk := 3) (nx := 98) clsX4 dX4_addToken_95 rfl kF_X4_24 (by decide) (fo_29 F) (ft_29 F) rfl (fp_29_3 F) ?_
    refine wp_aload_n (nx := 99) dX4_addToken_98 rfl rfl ?_
    refine wp_getIe (kk := 5) 5 (nx := 102) clsX4 dX4_addToken_99 rfl kF_X4_75 (by decide) (fo_29 F) (ft_29 F) rfl rfl (upC_sA (by decide)) ?_
    refine wp_iload_n (nx := 103) dX4_addToken_102 rfl rfl ?_
    obtain ⟨hi, h⟩ := h
    refine wp_iastoreE (nx := 104) dX4_addToken_103 rfl (fo_38 F) (fl_38 F) hi (ft_38 F) ?_
    refine wp_aload_n (nx := 105) dX4_addToken_104 rfl rfl ?_
    refine wp_dup (nx := 106) dX4_addToken_105 rfl (k1A _) ?_
    refine wp_getIe (kk := 5) 5 (nx := 109) clsX4 dX4_addToken_106 rfl kF_X4_75 (by decide) (fo_29 F) (ft_29 F) rfl rfl ((upC_sA (by decide)).trans (upC_sA (by decide))) ?_
    refine wp_iconst (nx := 110) dX4_addToken_109 rfl (i32 (by decide)) ?_
    refine wp_iadd (nx := 111) dX4_addToken_110 rfl ?_
    refine wp_putIe (kk := 5) 5 (nx := 114) clsX4 dX4_addToken_111 rfl kF_X4_75 (by decide) (fo_29 F) (ft_29 F) rfl rfl ⟨rfl, rfl⟩ rfl ?_
    exact wp_return dX4_addToken_114 rfl h
theorem b_X4_next_0 {d mc ms : Nat} {S : MS} {C : MC} {Q : Int → MS → MC → Prop} (F : Fix S) (h : ((C 29 5 ≤ C 29 7 → ((0 : Int) ≤ C 29 7 ∧ C 29 7 < 401) ∧ Q 0 S (upC C 29 8 (C 37 (C 29 7)))) ∧ (¬ C 29 5 ≤ C 29 7 → ((0 : Int) ≤ w32 ((C 29 7) + 1) ∧ w32 ((C 29 7) + 1) < 401) ∧ Q 0 S (upC (upC C 29 7 (w32 ((C 29 7) + 1))) 29 8 (C 37 (w32 ((C 29 7) + 1))))))) : K_X4_next_0 d mc ms S C Q := by
  show Wp d mc ms M_X4_next 0 [cA 29] [] S C Q
  refine wp_aload_n (nx := 1) dX4_next_0 rfl rfl ?_
  refine wp_getIe (kk := 7) 7 (nx := 4) clsX4 dX4_next_1 rfl kF_X4_53 (by decide) (fo_29 F) (ft_29 F) rfl rfl rfl ?_
  refine wp_aload_n (nx := 5) dX4_next_4 rfl rfl ?_
  refine wp_getIe (kk := 5) 5 (nx := 8) clsX4 dX4_next_5 rfl kF_X4_75 (by decide) (fo_29 F) (ft_29 F) rfl rfl rfl ?_
  refine wp_icmp_ge (nx := 11) (tg := 21) dX4_next_8 rfl rfl (fun hc => ?_) (fun hc => ?_)
  · have h := h.1 hc
    refine wp_aload_n (nx := 22) dX4_next_21 rfl rfl ?_
    refine wp_aload_n (nx := 23) dX4_next_22 rfl rfl ?_
    refine wp_getAe (kk := 2) (nx := 26) clsX4 dX4_next_23 rfl kF_X4_20 (by decide) (fo_29 F) (ft_29 F) rfl (fp_29_2 F) ?_
    refine wp_aload_n (nx := 27) dX4_next_26 rfl rfl ?_
    refine wp_getIe (kk := 7) 7 (nx := 30) clsX4 dX4_next_27 rfl kF_X4_53 (by decide) (fo_29 F) (ft_29 F) rfl rfl rfl ?_
    obtain ⟨hi, h⟩ := h
    refine wp_ialoadE (nx := 31) dX4_next_30 rfl (fo_37 F) (fl_37 F) hi (ft_37 F) rfl ?_
    refine wp_putIe (kk := 8) 8 (nx := 34) clsX4 dX4_next_31 rfl kF_X4_56 (by decide) (fo_29 F) (ft_29 F) rfl rfl ⟨rfl, rfl⟩ rfl ?_
    exact wp_return dX4_next_34 rfl h
  · have h := h.2 hc
    refine wp_aload_n (nx := 12) dX4_next_11 rfl rfl ?_
    refine wp_dup (nx := 13) dX4_next_12 rfl (k1A _) ?_
    refine wp_getIe (kk := 7) 7 (nx := 16) clsX4 dX4_next_13 rfl kF_X4_53 (by decide) (fo_29 F) (ft_29 F) rfl rfl rfl ?_
    refine wp_iconst (nx := 17) dX4_next_16 rfl (i32 (by decide)) ?_
    refine wp_iadd (nx := 18) dX4_next_17 rfl ?_
    refine wp_putIe (kk := 7) 7 (nx := 21) clsX4 dX4_next_18 rfl kF_X4_53 (by decide) (fo_29 F) (ft_29 F) rfl rfl ⟨rfl, rfl⟩ rfl ?_
    refine wp_aload_n (nx := 22) dX4_next_21 rfl rfl ?_
    refine wp_aload_n (nx := 23) dX4_next_22 rfl rfl ?_
    refine wp_getAe (kk := 2) (nx := 26) clsX4 dX4_next_23 rfl kF_X4_20 (by decide) (fo_29 F) (ft_29 F) rfl (fp_29_2 F) ?_
    refine wp_aload_n (nx := 27) dX4_next_26 rfl rfl ?_
    refine wp_getIe (kk := 7) 7 (nx := 30) clsX4 dX4_next_27 rfl kF_X4_53 (by decide) (fo_29 F) (ft_29 F) rfl rfl upC_h ?_
    obtain ⟨hi, h⟩ := h
    refine wp_ialoadE (nx := 31) dX4_next_30 rfl (fo_37 F) (fl_37 F) hi (ft_37 F) (upC_sA (by decide)) ?_
    refine wp_putIe (kk := 8) 8 (nx := 34) clsX4 dX4_next_31 rfl kF_X4_56 (by decide) (fo_29 F) (ft_29 F) rfl rfl ⟨rfl, rfl⟩ rfl ?_
    exact wp_return dX4_next_34 rfl h
theorem b_X4_readRule_0 {d mc ms : Nat} {l1 : Int} {S : MS} {C : MC} {Q : Int → MS → MC → Prop} (F : Fix S) (h : ((C 29 8 < 269 → Q 0 S C) ∧ (¬ C 29 8 < 269 → ((C 29 8 ≤ 271 → K_X9_begin_0 d 0 0 l1 (w32 ((w32 ((C 29 8) - 269)) + 4)) S C (fun r1 Sq C2 => Sq = S ∧ K_X4_next_0 d 0 0 S C2 (fun r3 Sq C4 => Sq = S ∧ ((¬ w32 ((w32 ((C 29 8) - 269)) + 4) = 4 → K_X4_readCondition_0 d 0 0 l1 S C4 (fun r5 Sq C6 => Sq = S ∧ ((r5 = 0 ∨ r5 = 1) ∧ Q r5 S C6))) ∧ (w32 ((w32 ((C 29 8) - 269)) + 4) = 4 → ((0 : Int) ≤ l1 ∧ l1 < 12) ∧ K_X4_sum_0 d 0 0 S ((upC C4 33 l1 (C4 30 1))) (fun r7 Sq C8 => Sq = S ∧ ((¬ r7 = 0 → K_X9_emit_0 d 0 0 0 0 S C8 (fun r9 Sq C10 => Sq = S ∧ K_X4_readCondition_0 d 0 0 l1 S C10 (fun r11 Sq C12 => Sq = S ∧ ((r11 = 0 ∨ r11 = 1) ∧ Q r11 S C12)))) ∧ (r7 = 0 → Q 0 S C8)))))))) ∧ (¬ C 29 8 ≤ 271 → Q 0 S C))))) : K_X4_readRule_0 (d + 1) mc ms l1 S C Q := by
  show Wp (d + 1) mc ms M_X4_readRule 0 [cA 29, cI l1, cU] [] S C Q
  refine wp_aload_n (nx := 1) dX4_readRule_0 rfl rfl ?_
  refine wp_getIe (kk := 8) 8 (nx := 4) clsX4 dX4_readRule_1 rfl kF_X4_56 (by decide) (fo_29 F) (ft_29 F) rfl rfl rfl ?_
  refine wp_sipush (nx := 7) dX4_readRule_4 rfl ⟨by decide, i32 (by decide)⟩ ?_
  refine wp_icmp_lt (nx := 10) (tg := 20) dX4_readRule_7 rfl rfl (fun hc => ?_) (fun hc => ?_)
  · have h := h.1 hc
    refine wp_iconst (nx := 21) dX4_readRule_20 rfl (i32 (by decide)) ?_
    exact wp_ireturn dX4_readRule_21 rfl rfl (nz_of (Or.inl rfl)) h
  · have h := h.2 hc
    refine wp_aload_n (nx := 11) dX4_readRule_10 rfl rfl ?_
    refine wp_getIe (kk := 8) 8 (nx := 14) clsX4 dX4_readRule_11 rfl kF_X4_56 (by decide) (fo_29 F) (ft_29 F) rfl rfl rfl ?_
    refine wp_sipush (nx := 17) dX4_readRule_14 rfl ⟨by decide, i32 (by decide)⟩ ?_
    refine wp_icmp_le (nx := 20) (tg := 22) dX4_readRule_17 rfl rfl (fun hc => ?_) (fun hc => ?_)
    · have h := h.1 hc
      refine wp_aload_n (nx := 23) dX4_readRule_22 rfl rfl ?_
      refine wp_getIe (kk := 8) 8 (nx := 26) clsX4 dX4_readRule_23 rfl kF_X4_56 (by decide) (fo_29 F) (ft_29 F) rfl rfl rfl ?_
      refine wp_sipush (nx := 29) dX4_readRule_26 rfl ⟨by decide, i32 (by decide)⟩ ?_
      refine wp_isub (nx := 30) dX4_readRule_29 rfl ?_
      refine wp_iconst (nx := 31) dX4_readRule_30 rfl (i32 (by decide)) ?_
      refine wp_iadd (nx := 32) dX4_readRule_31 rfl ?_
      refine wp_istore_n (nx := 33) dX4_readRule_32 rfl (by decide) ?_
      refine wp_ls (ls2 := [cA 29, cI l1, cI (w32 ((w32 ((C 29 8) - 269)) + 4))]) rfl ?_
      refine wp_aload_n (nx := 34) dX4_readRule_33 rfl rfl ?_
      refine wp_getAe (kk := 0) (nx := 37) clsX4 dX4_readRule_34 rfl kF_X4_14 (by decide) (fo_29 F) (ft_29 F) rfl (fp_29_0 F) ?_
      refine wp_iload_n (nx := 38) dX4_readRule_37 rfl rfl ?_
      refine wp_iload_n (nx := 39) dX4_readRule_38 rfl rfl ?_
      refine wp_invV (nx := 42) (N := M_X9_begin) (as := [cI l1, cI (w32 ((w32 ((C 29 8) - 269)) + 4))]) (st := []) (mc := 0) (ms := 0) (mc' := mc) (ms' := ms) (a := 30) clsX9 dX4_readRule_39 rfl mok_X9_begin kM_X4_101 ki_X9_begin ke_X9_begin (fo_30 F) (ft_30 F) rfl rfl (leB rfl) (leB rfl) (z0 _) (z0 _) (Wp.mono h ?_)
      intro r1 Sq C2 h
      obtain ⟨e9, h⟩ := h
      rw [e9]
      show Wp (d + 1) mc ms M_X4_readRule 42 [cA 29, cI l1, cI (w32 ((w32 ((C 29 8) - 269)) + 4))] [] S C2 Q
      refine wp_aload_n (nx := 43) dX4_readRule_42 rfl rfl ?_
      refine wp_invV (nx := 46) (N := M_X4_next) (as := []) (st := []) (mc := 0) (ms := 0) (mc' := mc) (ms' := ms) (a := 29) clsX4 dX4_readRule_43 rfl mok_X4_next kM_X4_72 ki_X4_next ke_X4_next (fo_29 F) (ft_29 F) rfl rfl (leB rfl) (leB rfl) (z0 _) (z0 _) (Wp.mono h ?_)
      intro r3 Sq C4 h
      obtain ⟨e9, h⟩ := h
      rw [e9]
      show Wp (d + 1) mc ms M_X4_readRule 46 [cA 29, cI l1, cI (w32 ((w32 ((C 29 8) - 269)) + 4))] [] S C4 Q
      refine wp_iload_n (nx := 47) dX4_readRule_46 rfl rfl ?_
      refine wp_iconst (nx := 48) dX4_readRule_47 rfl (i32 (by decide)) ?_
      refine wp_icmp_ne (nx := 51) (tg := 85) dX4_readRule_48 rfl rfl (fun hc => ?_) (fun hc => ?_)
      · have h := h.1 hc
        refine wp_aload_n (nx := 86) dX4_readRule_85 rfl rfl ?_
        refine wp_iload_n (nx := 87) dX4_readRule_86 rfl rfl ?_
        refine wp_invV (nx := 90) (N := M_X4_readCondition) (as := [cI l1]) (st := []) (mc := 0) (ms := 0) (mc' := mc) (ms' := ms) (a := 29) clsX4 dX4_readRule_87 rfl mok_X4_readCondition kM_X4_115 ki_X4_readCondition ke_X4_readCondition (fo_29 F) (ft_29 F) rfl rfl (leB rfl) (leB rfl) (z0 _) (z0 _) (Wp.mono h ?_)
        intro r5 Sq C6 h
        obtain ⟨e9, h⟩ := h
        rw [e9]
        show Wp (d + 1) mc ms M_X4_readRule 90 [cA 29, cI l1, cI (w32 ((w32 ((C 29 8) - 269)) + 4))] [cI r5] S C6 Q
        obtain ⟨hz, h⟩ := h
        exact wp_ireturn dX4_readRule_90 rfl rfl (nz_of hz) h
      · have h := h.2 hc
        refine wp_aload_n (nx := 52) dX4_readRule_51 rfl rfl ?_
        refine wp_getAe (kk := 0) (nx := 55) clsX4 dX4_readRule_52 rfl kF_X4_14 (by decide) (fo_29 F) (ft_29 F) rfl (fp_29_0 F) ?_
        refine wp_getAe (kk := 5) (nx := 58) clsX9 dX4_readRule_55 rfl kF_X4_104 (by decide) (fo_30 F) (ft_30 F) rfl (fp_30_5 F) ?_
        refine wp_iload_n (nx := 59) dX4_readRule_58 rfl rfl ?_
        refine wp_aload_n (nx := 60) dX4_readRule_59 rfl rfl ?_
        refine wp_getAe (kk := 0) (nx := 63) clsX4 dX4_readRule_60 rfl kF_X4_14 (by decide) (fo_29 F) (ft_29 F) rfl (fp_29_0 F) ?_
        refine wp_getIe (kk := 1) 1 (nx := 66) clsX9 dX4_readRule_63 rfl kF_X4_107 (by decide) (fo_30 F) (ft_30 F) rfl rfl rfl ?_
        obtain ⟨hi, h⟩ := h
        refine wp_iastoreE (nx := 67) dX4_readRule_66 rfl (fo_33 F) (fl_33 F) hi (ft_33 F) ?_
        refine wp_aload_n (nx := 68) dX4_readRule_67 rfl rfl ?_
        refine wp_invV (nx := 71) (N := M_X4_sum) (as := []) (st := []) (mc := 0) (ms := 0) (mc' := mc) (ms' := ms) (a := 29) clsX4 dX4_readRule_68 rfl mok_X4_sum kM_X4_108 ki_X4_sum ke_X4_sum (fo_29 F) (ft_29 F) rfl rfl (leB rfl) (leB rfl) (z0 _) (z0 _) (Wp.mono h ?_)
        intro r7 Sq C8 h
        obtain ⟨e9, h⟩ := h
        rw [e9]
        show Wp (d + 1) mc ms M_X4_readRule 71 [cA 29, cI l1, cI (w32 ((w32 ((C 29 8) - 269)) + 4))] [cI r7] S C8 Q
        refine wp_if_ne (nx := 74) (tg := 76) dX4_readRule_71 rfl rfl (fun hc => ?_) (fun hc => ?_)
        · have h := h.1 hc
          refine wp_aload_n (nx := 77) dX4_readRule_76 rfl rfl ?_
          refine wp_getAe (kk := 0) (nx := 80) clsX4 dX4_readRule_77 rfl kF_X4_14 (by decide) (fo_29 F) (ft_29 F) rfl (fp_29_0 F) ?_
          refine wp_iconst (nx := 81) dX4_readRule_80 rfl (i32 (by decide)) ?_
          refine wp_iconst (nx := 82) dX4_readRule_81 rfl (i32 (by decide)) ?_
          refine wp_invV (nx := 85) (N := M_X9_emit) (as := [cI 0, cI 0]) (st := []) (mc := 0) (ms := 0) (mc' := mc) (ms' := ms) (a := 30) clsX9 dX4_readRule_82 rfl mok_X9_emit kM_X4_112 ki_X9_emit ke_X9_emit (fo_30 F) (ft_30 F) rfl rfl (leB rfl) (leB rfl) (z0 _) (z0 _) (Wp.mono h ?_)
          intro r9 Sq C10 h
          obtain ⟨e9, h⟩ := h
          rw [e9]
          show Wp (d + 1) mc ms M_X4_readRule 85 [cA 29, cI l1, cI (w32 ((w32 ((C 29 8) - 269)) + 4))] [] S C10 Q
          refine wp_aload_n (nx := 86) dX4_readRule_85 rfl rfl ?_
          refine wp_iload_n (nx := 87) dX4_readRule_86 rfl rfl ?_
          refine wp_invV (nx := 90) (N := M_X4_readCondition) (as := [cI l1]) (st := []) (mc := 0) (ms := 0) (mc' := mc) (ms' := ms) (a := 29) clsX4 dX4_readRule_87 rfl mok_X4_readCondition kM_X4_115 ki_X4_readCondition ke_X4_readCondition (fo_29 F) (ft_29 F) rfl rfl (leB rfl) (leB rfl) (z0 _) (z0 _) (Wp.mono h ?_)
          intro r11 Sq C12 h
          obtain ⟨e9, h⟩ := h
          rw [e9]
          show Wp (d + 1) mc ms M_X4_readRule 90 [cA 29, cI l1, cI (w32 ((w32 ((C 29 8) - 269)) + 4))] [cI r11] S C12 Q
          obtain ⟨hz, h⟩ := h
          exact wp_ireturn dX4_readRule_90 rfl rfl (nz_of hz) h
        · have h := h.2 hc
          refine wp_iconst (nx := 75) dX4_readRule_74 rfl (i32 (by decide)) ?_
          exact wp_ireturn dX4_readRule_75 rfl rfl (nz_of (Or.inl rfl)) h
    · have h := h.2 hc
      refine wp_iconst (nx := 21) dX4_readRule_20 rfl (i32 (by decide)) ?_
      exact wp_ireturn dX4_readRule_21 rfl rfl (nz_of (Or.inl rfl)) h
theorem b_X4_readOrder_0 {d mc ms : Nat} {l1 : Int} {S : MS} {C : MC} {Q : Int → MS → MC → Prop} (F : Fix S) (h : ((C 29 8 < 272 → Q 0 S C) ∧ (¬ C 29 8 < 272 → ((C 29 8 ≤ 275 → K_X9_begin_0 d 0 0 l1 (w32 ((w32 ((C 29 8) - 272)) + 0)) S C (fun r1 Sq C2 => Sq = S ∧ K_X4_next_0 d 0 0 S C2 (fun r3 Sq C4 => Sq = S ∧ ((w32 ((w32 ((C 29 8) - 272)) + 0) = 3 → K_X4_readOrder_85 (d + 1) mc ms l1 (w32 ((w32 ((C 29 8) - 272)) + 0)) S C4 Q) ∧ (¬ w32 ((w32 ((C 29 8) - 272)) + 0) = 3 → ((0 : Int) ≤ l1 ∧ l1 < 12) ∧ K_X4_sum_0 d 0 0 S ((upC C4 33 l1 (C4 30 1))) (fun r5 Sq C6 => Sq = S ∧ ((¬ r5 = 0 → K_X9_emit_0 d 0 0 0 0 S C6 (fun r7 Sq C8 => Sq = S ∧ K_X4_readOrder_85 (d + 1) mc ms l1 (w32 ((w32 ((C 29 8) - 272)) + 0)) S C8 Q)) ∧ (r5 = 0 → Q 0 S C6)))))))) ∧ (¬ C 29 8 ≤ 275 → Q 0 S C))))) : K_X4_readOrder_0 (d + 1) mc ms l1 S C Q := by
  show Wp (d + 1) mc ms M_X4_readOrder 0 [cA 29, cI l1, cU] [] S C Q
  refine wp_aload_n (nx := 1) dX4_readOrder_0 rfl rfl ?_
  refine wp_getIe (kk := 8) 8 (nx := 4) clsX4 dX4_readOrder_1 rfl kF_X4_56 (by decide) (fo_29 F) (ft_29 F) rfl rfl rfl ?_
  refine wp_sipush (nx := 7) dX4_readOrder_4 rfl ⟨by decide, i32 (by decide)⟩ ?_
  refine wp_icmp_lt (nx := 10) (tg := 20) dX4_readOrder_7 rfl rfl (fun hc => ?_) (fun hc => ?_)
  · have h := h.1 hc
    refine wp_iconst (nx := 21) dX4_readOrder_20 rfl (i32 (by decide)) ?_
    exact wp_ireturn dX4_readOrder_21 rfl rfl (nz_of (Or.inl rfl)) h
  · have h := h.2 hc
    refine wp_aload_n (nx := 11) dX4_readOrder_10 rfl rfl ?_
    refine wp_getIe (kk := 8) 8 (nx := 14) clsX4 dX4_readOrder_11 rfl kF_X4_56 (by decide) (fo_29 F) (ft_29 F) rfl rfl rfl ?_
    refine wp_sipush (nx := 17) dX4_readOrder_14 rfl ⟨by decide, i32 (by decide)⟩ ?_
    refine wp_icmp_le (nx := 20) (tg := 22) dX4_readOrder_17 rfl rfl (fun hc => ?_) (fun hc => ?_)
    · have h := h.1 hc
      refine wp_aload_n (nx := 23) dX4_readOrder_22 rfl rfl ?_
      refine wp_getIe (kk := 8) 8 (nx := 26) clsX4 dX4_readOrder_23 rfl kF_X4_56 (by decide) (fo_29 F) (ft_29 F) rfl rfl rfl ?_
      refine wp_sipush (nx := 29) dX4_readOrder_26 rfl ⟨by decide, i32 (by decide)⟩ ?_
      refine wp_isub (nx := 30) dX4_readOrder_29 rfl ?_
      refine wp_iconst (nx := 31) dX4_readOrder_30 rfl (i32 (by decide)) ?_
      refine wp_iadd (nx := 32) dX4_readOrder_31 rfl ?_
      refine wp_istore_n (nx := 33) dX4_readOrder_32 rfl (by decide) ?_
      refine wp_ls (ls2 := [cA 29, cI l1, cI (w32 ((w32 ((C 29 8) - 272)) + 0))]) rfl ?_
      refine wp_aload_n (nx := 34) dX4_readOrder_33 rfl rfl ?_
      refine wp_getAe (kk := 0) (nx := 37) clsX4 dX4_readOrder_34 rfl kF_X4_14 (by decide) (fo_29 F) (ft_29 F) rfl (fp_29_0 F) ?_
      refine wp_iload_n (nx := 38) dX4_readOrder_37 rfl rfl ?_
      refine wp_iload_n (nx := 39) dX4_readOrder_38 rfl rfl ?_
      refine wp_invV (nx := 42) (N := M_X9_begin) (as := [cI l1, cI (w32 ((w32 ((C 29 8) - 272)) + 0))]) (st := []) (mc := 0) (ms := 0) (mc' := mc) (ms' := ms) (a := 30) clsX9 dX4_readOrder_39 rfl mok_X9_begin kM_X4_101 ki_X9_begin ke_X9_begin (fo_30 F) (ft_30 F) rfl rfl (leB rfl) (leB rfl) (z0 _) (z0 _) (Wp.mono h ?_)
      intro r1 Sq C2 h
      obtain ⟨e9, h⟩ := h
      rw [e9]
      show Wp (d + 1) mc ms M_X4_readOrder 42 [cA 29, cI l1, cI (w32 ((w32 ((C 29 8) - 272)) + 0))] [] S C2 Q
      refine wp_aload_n (nx := 43) dX4_readOrder_42 rfl rfl ?_
      refine wp_invV (nx := 46) (N := M_X4_next) (as := []) (st := []) (mc := 0) (ms := 0) (mc' := mc) (ms' := ms) (a := 29) clsX4 dX4_readOrder_43 rfl mok_X4_next kM_X4_72 ki_X4_next ke_X4_next (fo_29 F) (ft_29 F) rfl rfl (leB rfl) (leB rfl) (z0 _) (z0 _) (Wp.mono h ?_)
      intro r3 Sq C4 h
      obtain ⟨e9, h⟩ := h
      rw [e9]
      show Wp (d + 1) mc ms M_X4_readOrder 46 [cA 29, cI l1, cI (w32 ((w32 ((C 29 8) - 272)) + 0))] [] S C4 Q
      refine wp_iload_n (nx := 47) dX4_readOrder_46 rfl rfl ?_
      refine wp_iconst (nx := 48) dX4_readOrder_47 rfl (i32 (by decide)) ?_
      refine wp_icmp_eq (nx := 51) (tg := 85) dX4_readOrder_48 rfl rfl (fun hc => ?_) (fun hc => ?_)
      · have h := h.1 hc
        exact h
      · have h := h.2 hc
        refine wp_aload_n (nx := 52) dX4_readOrder_51 rfl rfl ?_
        refine wp_getAe (kk := 0) (nx := 55) clsX4 dX4_readOrder_52 rfl kF_X4_14 (by decide) (fo_29 F) (ft_29 F) rfl (fp_29_0 F) ?_
        refine wp_getAe (kk := 5) (nx := 58) clsX9 dX4_readOrder_55 rfl kF_X4_104 (by decide) (fo_30 F) (ft_30 F) rfl (fp_30_5 F) ?_
        refine wp_iload_n (nx := 59) dX4_readOrder_58 rfl rfl ?_
        refine wp_aload_n (nx := 60) dX4_readOrder_59 rfl rfl ?_
        refine wp_getAe (kk := 0) (nx := 63) clsX4 dX4_readOrder_60 rfl kF_X4_14 (by decide) (fo_29 F) (ft_29 F) rfl (fp_29_0 F) ?_
        refine wp_getIe (kk := 1) 1 (nx := 66) clsX9 dX4_readOrder_63 rfl kF_X4_107 (by decide) (fo_30 F) (ft_30 F) rfl rfl rfl ?_
        obtain ⟨hi, h⟩ := h
        refine wp_iastoreE (nx := 67) dX4_readOrder_66 rfl (fo_33 F) (fl_33 F) hi (ft_33 F) ?_
        refine wp_aload_n (nx := 68) dX4_readOrder_67 rfl rfl ?_
        refine wp_invV (nx := 71) (N := M_X4_sum) (as := []) (st := []) (mc := 0) (ms := 0) (mc' := mc) (ms' := ms) (a := 29) clsX4 dX4_readOrder_68 rfl mok_X4_sum kM_X4_108 ki_X4_sum ke_X4_sum (fo_29 F) (ft_29 F) rfl rfl (leB rfl) (leB rfl) (z0 _) (z0 _) (Wp.mono h ?_)
        intro r5 Sq C6 h
        obtain ⟨e9, h⟩ := h
        rw [e9]
        show Wp (d + 1) mc ms M_X4_readOrder 71 [cA 29, cI l1, cI (w32 ((w32 ((C 29 8) - 272)) + 0))] [cI r5] S C6 Q
        refine wp_if_ne (nx := 74) (tg := 76) dX4_readOrder_71 rfl rfl (fun hc => ?_) (fun hc => ?_)
        · have h := h.1 hc
          refine wp_aload_n (nx := 77) dX4_readOrder_76 rfl rfl ?_
          refine wp_getAe (kk := 0) (nx := 80) clsX4 dX4_readOrder_77 rfl kF_X4_14 (by decide) (fo_29 F) (ft_29 F) rfl (fp_29_0 F) ?_
          refine wp_iconst (nx := 81) dX4_readOrder_80 rfl (i32 (by decide)) ?_
          refine wp_iconst (nx := 82) dX4_readOrder_81 rfl (i32 (by decide)) ?_
          refine wp_invV (nx := 85) (N := M_X9_emit) (as := [cI 0, cI 0]) (st := []) (mc := 0) (ms := 0) (mc' := mc) (ms' := ms) (a := 30) clsX9 dX4_readOrder_82 rfl mok_X9_emit kM_X4_112 ki_X9_emit ke_X9_emit (fo_30 F) (ft_30 F) rfl rfl (leB rfl) (leB rfl) (z0 _) (z0 _) (Wp.mono h ?_)
          intro r7 Sq C8 h
          obtain ⟨e9, h⟩ := h
          rw [e9]
          show Wp (d + 1) mc ms M_X4_readOrder 85 [cA 29, cI l1, cI (w32 ((w32 ((C 29 8) - 272)) + 0))] [] S C8 Q
          exact h
        · have h := h.2 hc
          refine wp_iconst (nx := 75) dX4_readOrder_74 rfl (i32 (by decide)) ?_
          exact wp_ireturn dX4_readOrder_75 rfl rfl (nz_of (Or.inl rfl)) h
    · have h := h.2 hc
      refine wp_iconst (nx := 21) dX4_readOrder_20 rfl (i32 (by decide)) ?_
      exact wp_ireturn dX4_readOrder_21 rfl rfl (nz_of (Or.inl rfl)) h
theorem b_X4_readOrder_85 {d mc ms : Nat} {l1 l2 : Int} {S : MS} {C : MC} {Q : Int → MS → MC → Prop} (F : Fix S) (h : ((l2 = 0 → ((¬ l2 = 0 → K_X4_readOrder_111 (d + 1) mc ms l1 (C 29 8) 277 S C Q) ∧ (l2 = 0 → K_X4_readOrder_111 (d + 1) mc ms l1 (C 29 8) 276 S C Q))) ∧ (¬ l2 = 0 → ((¬ l2 = 1 → K_X4_readTimes_0 d 0 0 l1 S C (fun r1 Sq C2 => Sq = S ∧ ((r1 = 0 → Q 0 S C2) ∧ (¬ r1 = 0 → K_X4_readCondition_0 d 0 0 l1 S C2 (fun r3 Sq C4 => Sq = S ∧ ((r3 = 0 → Q 0 S C4) ∧ (¬ r3 = 0 → Q 1 S C4))))))) ∧ (l2 = 1 → ((¬ l2 = 0 → K_X4_readOrder_111 (d + 1) mc ms l1 (C 29 8) 277 S C Q) ∧ (l2 = 0 → K_X4_readOrder_111 (d + 1) mc ms l1 (C 29 8) 276 S C Q))))))) : K_X4_readOrder_85 (d + 1) mc ms l1 l2 S C Q := by
  show Wp (d + 1) mc ms M_X4_readOrder 85 [cA 29, cI l1, cI l2] [] S C Q
  refine wp_iload_n (nx := 86) dX4_readOrder_85 rfl rfl ?_
  refine wp_if_eq (nx := 89) (tg := 94) dX4_readOrder_86 rfl rfl (fun hc => ?_) (fun hc => ?_)
  · have h := h.1 hc
    refine wp_aload_n (nx := 95) dX4_readOrder_94 rfl rfl ?_
    refine wp_getIe (kk := 8) 8 (nx := 98) clsX4 dX4_readOrder_95 rfl kF_X4_56 (by decide) (fo_29 F) (ft_29 F) rfl rfl rfl ?_
    refine wp_iload_n (nx := 99) dX4_readOrder_98 rfl rfl ?_
    refine wp_if_ne (nx := 102) (tg := 108) dX4_readOrder_99 rfl rfl (fun hc => ?_) (fun hc => ?_)
    · have h := h.1 hc
      refine wp_sipush (nx := 111) dX4_readOrder_108 rfl ⟨by decide, i32 (by decide)⟩ ?_
      refine wp_fg [true, true, false] (ls2 := [cA 29, cI l1, cU]) rfl ?_
      exact h
    · have h := h.2 hc
      refine wp_sipush (nx := 105) dX4_readOrder_102 rfl ⟨by decide, i32 (by decide)⟩ ?_
      refine wp_goto (nx := 111) dX4_readOrder_105 rfl ?_
      refine wp_fg [true, true, false] (ls2 := [cA 29, cI l1, cU]) rfl ?_
      exact h
  · have h := h.2 hc
    refine wp_iload_n (nx := 90) dX4_readOrder_89 rfl rfl ?_
    refine wp_iconst (nx := 91) dX4_readOrder_90 rfl (i32 (by decide)) ?_
    refine wp_icmp_ne (nx := 94) (tg := 154) dX4_readOrder_91 rfl rfl (fun hc => ?_) (fun hc => ?_)
    · have h := h.1 hc
      refine wp_aload_n (nx := 155) dX4_readOrder_154 rfl rfl ?_
      refine wp_iload_n (nx := 156) dX4_readOrder_155 rfl rfl ?_
      refine wp_invV (nx := 159) (N := M_X4_readTimes) (as := [cI l1]) (st := []) (mc := 0) (ms := 0) (mc' := mc) (ms' := ms) (a := 29) clsX4 dX4_readOrder_156 rfl mok_X4_readTimes kM_X4_121 ki_X4_readTimes ke_X4_readTimes (fo_29 F) (ft_29 F) rfl rfl (leB rfl) (leB rfl) (z0 _) (z0 _) (Wp.mono h ?_)
      intro r1 Sq C2 h
      obtain ⟨e9, h⟩ := h
      rw [e9]
      show Wp (d + 1) mc ms M_X4_readOrder 159 [cA 29, cI l1, cI l2] [cI r1] S C2 Q
      refine wp_if_eq (nx := 162) (tg := 174) dX4_readOrder_159 rfl rfl (fun hc => ?_) (fun hc => ?_)
      · have h := h.1 hc
        refine wp_iconst (nx := 175) dX4_readOrder_174 rfl (i32 (by decide)) ?_
        exact wp_ireturn dX4_readOrder_175 rfl rfl (nz_of (Or.inl rfl)) h
      · have h := h.2 hc
        refine wp_aload_n (nx := 163) dX4_readOrder_162 rfl rfl ?_
        refine wp_iload_n (nx := 164) dX4_readOrder_163 rfl rfl ?_
        refine wp_invV (nx := 167) (N := M_X4_readCondition) (as := [cI l1]) (st := []) (mc := 0) (ms := 0) (mc' := mc) (ms' := ms) (a := 29) clsX4 dX4_readOrder_164 rfl mok_X4_readCondition kM_X4_115 ki_X4_readCondition ke_X4_readCondition (fo_29 F) (ft_29 F) rfl rfl (leB rfl) (leB rfl) (z0 _) (z0 _) (Wp.mono h ?_)
        intro r3 Sq C4 h
        obtain ⟨e9, h⟩ := h
        rw [e9]
        show Wp (d + 1) mc ms M_X4_readOrder 167 [cA 29, cI l1, cI l2] [cI r3] S C4 Q
        refine wp_if_eq (nx := 170) (tg := 174) dX4_readOrder_167 rfl rfl (fun hc => ?_) (fun hc => ?_)
        · have h := h.1 hc
          refine wp_iconst (nx := 175) dX4_readOrder_174 rfl (i32 (by decide)) ?_
          exact wp_ireturn dX4_readOrder_175 rfl rfl (nz_of (Or.inl rfl)) h
        · have h := h.2 hc
          refine wp_iconst (nx := 171) dX4_readOrder_170 rfl (i32 (by decide)) ?_
          refine wp_goto (nx := 175) dX4_readOrder_171 rfl ?_
          exact wp_ireturn dX4_readOrder_175 rfl rfl (nz_of (Or.inr rfl)) h
    · have h := h.2 hc
      refine wp_aload_n (nx := 95) dX4_readOrder_94 rfl rfl ?_
      refine wp_getIe (kk := 8) 8 (nx := 98) clsX4 dX4_readOrder_95 rfl kF_X4_56 (by decide) (fo_29 F) (ft_29 F) rfl rfl rfl ?_
      refine wp_iload_n (nx := 99) dX4_readOrder_98 rfl rfl ?_
      refine wp_if_ne (nx := 102) (tg := 108) dX4_readOrder_99 rfl rfl (fun hc => ?_) (fun hc => ?_)
      · have h := h.1 hc
        refine wp_sipush (nx := 111) dX4_readOrder_108 rfl ⟨by decide, i32 (by decide)⟩ ?_
        refine wp_fg [true, true, false] (ls2 := [cA 29, cI l1, cU]) rfl ?_
        exact h
      · have h := h.2 hc
        refine wp_sipush (nx := 105) dX4_readOrder_102 rfl ⟨by decide, i32 (by decide)⟩ ?_
        refine wp_goto (nx := 111) dX4_readOrder_105 rfl ?_
        refine wp_fg [true, true, false] (ls2 := [cA 29, cI l1, cU]) rfl ?_
        exact h
theorem b_X4_readOrder_111 {d mc ms : Nat} {l1 s0 s1 : Int} {S : MS} {C : MC} {Q : Int → MS → MC → Prop} (F : Fix S) (h : ((s0 = s1 → K_X4_next_0 d 0 0 S C (fun r1 Sq C2 => Sq = S ∧ ((0 : Int) ≤ l1 ∧ l1 < 12) ∧ K_X4_sum_0 d 0 0 S ((upC C2 34 l1 (C2 30 1))) (fun r3 Sq C4 => Sq = S ∧ ((¬ r3 = 0 → K_X9_emit_0 d 0 0 0 0 S C4 (fun r5 Sq C6 => Sq = S ∧ K_X4_readTimes_0 d 0 0 l1 S C6 (fun r7 Sq C8 => Sq = S ∧ ((r7 = 0 → Q 0 S C8) ∧ (¬ r7 = 0 → K_X4_readCondition_0 d 0 0 l1 S C8 (fun r9 Sq C10 => Sq = S ∧ ((r9 = 0 → Q 0 S C10) ∧ (¬ r9 = 0 → Q 1 S C10)))))))) ∧ (r3 = 0 → Q 0 S C4))))) ∧ (¬ s0 = s1 → Q 0 S C))) : K_X4_readOrder_111 (d + 1) mc ms l1 s0 s1 S C Q := by
  show Wp (d + 1) mc ms M_X4_readOrder 111 [cA 29, cI l1, cU] [cI s1, cI s0] S C Q
  refine wp_icmp_eq (nx := 114) (tg := 116) dX4_readOrder_111 rfl rfl (fun hc => ?_) (fun hc => ?_)
  · have h := h.1 hc
    refine wp_aload_n (nx := 117) dX4_readOrder_116 rfl rfl ?_
    refine wp_invV (nx := 120) (N := M_X4_next) (as := []) (st := []) (mc := 0) (ms := 0) (mc' := mc) (ms' := ms) (a := 29) clsX4 dX4_readOrder_117 rfl mok_X4_next kM_X4_72 ki_X4_next ke_X4_next (fo_29 F) (ft_29 F) rfl rfl (leB rfl) (leB rfl) (z0 _) (z0 _) (Wp.mono h ?_)
    intro r1 Sq C2 h
    obtain ⟨e9, h⟩ := h
    rw [e9]
    show Wp (d + 1) mc ms M_X4_readOrder 120 [cA 29, cI l1, cU] [] S C2 Q
    refine wp_aload_n (nx := 121) dX4_readOrder_120 rfl rfl ?_
    refine wp_getAe (kk := 0) (nx := 124) clsX4 dX4_readOrder_121 rfl kF_X4_14 (by decide) (fo_29 F) (ft_29 F) rfl (fp_29_0 F) ?_
    refine wp_getAe (kk := 6) (nx := 127) clsX9 dX4_readOrder_124 rfl kF_X4_118 (by decide) (fo_30 F) (ft_30 F) rfl (fp_30_6 F) ?_
    refine wp_iload_n (nx := 128) dX4_readOrder_127 rfl rfl ?_
    refine wp_aload_n (nx := 129) dX4_readOrder_128 rfl rfl ?_
    refine wp_getAe (kk := 0) (nx := 132) clsX4 dX4_readOrder_129 rfl kF_X4_14 (by decide) (fo_29 F) (ft_29 F) rfl (fp_29_0 F) ?_
    refine wp_getIe (kk := 1) 1 (nx := 135) clsX9 dX4_readOrder_132 rfl kF_X4_107 (by decide) (fo_30 F) (ft_30 F) rfl rfl rfl ?_
    obtain ⟨hi, h⟩ := h
    refine wp_iastoreE (nx := 136) dX4_readOrder_135 rfl (fo_34 F) (fl_34 F) hi (ft_34 F) ?_
    refine wp_aload_n (nx := 137) dX4_readOrder_136 rfl rfl ?_
    refine wp_invV (nx := 140) (N := M_X4_sum) (as := []) (st := []) (mc := 0) (ms := 0) (mc' := mc) (ms' := ms) (a := 29) clsX4 dX4_readOrder_137 rfl mok_X4_sum kM_X4_108 ki_X4_sum ke_X4_sum (fo_29 F) (ft_29 F) rfl rfl (leB rfl) (leB rfl) (z0 _) (z0 _) (Wp.mono h ?_)
    intro r3 Sq C4 h
    obtain ⟨e9, h⟩ := h
    rw [e9]
    show Wp (d + 1) mc ms M_X4_readOrder 140 [cA 29, cI l1, cU] [cI r3] S C4 Q
    refine wp_if_ne (nx := 143) (tg := 145) dX4_readOrder_140 rfl rfl (fun hc => ?_) (fun hc => ?_)
    · have h := h.1 hc
      refine wp_aload_n (nx := 146) dX4_readOrder_145 rfl rfl ?_
      refine wp_getAe (kk := 0) (nx := 149) clsX4 dX4_readOrder_146 rfl kF_X4_14 (by decide) (fo_29 F) (ft_29 F) rfl (fp_29_0 F) ?_
      refine wp_iconst (nx := 150) dX4_readOrder_149 rfl (i32 (by decide)) ?_
      refine wp_iconst (nx := 151) dX4_readOrder_150 rfl (i32 (by decide)) ?_
      refine wp_invV (nx := 154) (N := M_X9_emit) (as := [cI 0, cI 0]) (st := []) (mc := 0) (ms := 0) (mc' := mc) (ms' := ms) (a := 30) clsX9 dX4_readOrder_151 rfl mok_X9_emit kM_X4_112 ki_X9_emit ke_X9_emit (fo_30 F) (ft_30 F) rfl rfl (leB rfl) (leB rfl) (z0 _) (z0 _) (Wp.mono h ?_)
      intro r5 Sq C6 h
      obtain ⟨e9, h⟩ := h
      rw [e9]
      show Wp (d + 1) mc ms M_X4_readOrder 154 [cA 29, cI l1, cU] [] S C6 Q
      refine wp_aload_n (nx := 155) dX4_readOrder_154 rfl rfl ?_
      refine wp_iload_n (nx := 156) dX4_readOrder_155 rfl rfl ?_
      refine wp_invV (nx := 159) (N := M_X4_readTimes) (as := [cI l1]) (st := []) (mc := 0) (ms := 0) (mc' := mc) (ms' := ms) (a := 29) clsX4 dX4_readOrder_156 rfl mok_X4_readTimes kM_X4_121 ki_X4_readTimes ke_X4_readTimes (fo_29 F) (ft_29 F) rfl rfl (leB rfl) (leB rfl) (z0 _) (z0 _) (Wp.mono h ?_)
      intro r7 Sq C8 h
      obtain ⟨e9, h⟩ := h
      rw [e9]
      show Wp (d + 1) mc ms M_X4_readOrder 159 [cA 29, cI l1, cU] [cI r7] S C8 Q
      refine wp_if_eq (nx := 162) (tg := 174) dX4_readOrder_159 rfl rfl (fun hc => ?_) (fun hc => ?_)
      · have h := h.1 hc
        refine wp_iconst (nx := 175) dX4_readOrder_174 rfl (i32 (by decide)) ?_
        exact wp_ireturn dX4_readOrder_175 rfl rfl (nz_of (Or.inl rfl)) h
      · have h := h.2 hc
        refine wp_aload_n (nx := 163) dX4_readOrder_162 rfl rfl ?_
        refine wp_iload_n (nx := 164) dX4_readOrder_163 rfl rfl ?_
        refine wp_invV (nx := 167) (N := M_X4_readCondition) (as := [cI l1]) (st := []) (mc := 0) (ms := 0) (mc' := mc) (ms' := ms) (a := 29) clsX4 dX4_readOrder_164 rfl mok_X4_readCondition kM_X4_115 ki_X4_readCondition ke_X4_readCondition (fo_29 F) (ft_29 F) rfl rfl (leB rfl) (leB rfl) (z0 _) (z0 _) (Wp.mono h ?_)
        intro r9 Sq C10 h
        obtain ⟨e9, h⟩ := h
        rw [e9]
        show Wp (d + 1) mc ms M_X4_readOrder 167 [cA 29, cI l1, cU] [cI r9] S C10 Q
        refine wp_if_eq (nx := 170) (tg := 174) dX4_readOrder_167 rfl rfl (fun hc => ?_) (fun hc => ?_)
        · have h := h.1 hc
          refine wp_iconst (nx := 175) dX4_readOrder_174 rfl (i32 (by decide)) ?_
          exact wp_ireturn dX4_readOrder_175 rfl rfl (nz_of (Or.inl rfl)) h
        · have h := h.2 hc
          refine wp_iconst (nx := 171) dX4_readOrder_170 rfl (i32 (by decide)) ?_
          refine wp_goto (nx := 175) dX4_readOrder_171 rfl ?_
          exact wp_ireturn dX4_readOrder_175 rfl rfl (nz_of (Or.inr rfl)) h
    · have h := h.2 hc
      refine wp_iconst (nx := 144) dX4_readOrder_143 rfl (i32 (by decide)) ?_
      exact wp_ireturn dX4_readOrder_144 rfl rfl (nz_of (Or.inl rfl)) h
  · have h := h.2 hc
    refine wp_iconst (nx := 115) dX4_readOrder_114 rfl (i32 (by decide)) ?_
    exact wp_ireturn dX4_readOrder_115 rfl rfl (nz_of (Or.inl rfl)) h
theorem b_X4_readTimes_0 {d mc ms : Nat} {l1 : Int} {S : MS} {C : MC} {Q : Int → MS → MC → Prop} (F : Fix S) (h : ((C 29 8 = 278 → K_X4_next_0 d 0 0 S C (fun r1 Sq C2 => Sq = S ∧ ((¬ C2 29 8 = 284 → Q 0 S C2) ∧ (C2 29 8 = 284 → ((0 : Int) ≤ C2 29 7 ∧ C2 29 7 < 401) ∧ ((C2 39 (C2 29 7) < 1 → Q 0 S C2) ∧ (¬ C2 39 (C2 29 7) < 1 → ((0 : Int) ≤ C2 29 7 ∧ C2 29 7 < 401) ∧ ((C2 39 (C2 29 7) ≤ 20 → ((0 : Int) ≤ C2 29 7 ∧ C2 29 7 < 401) ∧ ((0 : Int) ≤ l1 ∧ l1 < 12) ∧ K_X4_next_0 d 0 0 S ((upC C2 32 l1 (C2 39 (C2 29 7)))) (fun r3 Sq C4 => Sq = S ∧ Q 1 S C4)) ∧ (¬ C2 39 (C2 29 7) ≤ 20 → Q 0 S C2)))))))) ∧ (¬ C 29 8 = 278 → Q 1 S C))) : K_X4_readTimes_0 (d + 1) mc ms l1 S C Q := by
  show Wp (d + 1) mc ms M_X4_readTimes 0 [cA 29, cI l1] [] S C Q
  refine wp_aload_n (nx := 1) dX4_readTimes_0 rfl rfl ?_
  refine wp_getIe (kk := 8) 8 (nx := 4) clsX4 dX4_readTimes_1 rfl kF_X4_56 (by decide) (fo_29 F) (ft_29 F) rfl rfl rfl ?_
  refine wp_sipush (nx := 7) dX4_readTimes_4 rfl ⟨by decide, i32 (by decide)⟩ ?_
  refine wp_icmp_eq (nx := 10) (tg := 12) dX4_readTimes_7 rfl rfl (fun hc => ?_) (fun hc => ?_)
  · have h := h.1 hc
    refine wp_aload_n (nx := 13) dX4_readTimes_12 rfl rfl ?_
    refine wp_invV (nx := 16) (N := M_X4_next) (as := []) (st := []) (mc := 0) (ms := 0) (mc' := mc) (ms' := ms) (a := 29) clsX4 dX4_readTimes_13 rfl mok_X4_next kM_X4_72 ki_X4_next ke_X4_next (fo_29 F) (ft_29 F) rfl rfl (leB rfl) (leB rfl) (z0 _) (z0 _) (Wp.mono h ?_)
    intro r1 Sq C2 h
    obtain ⟨e9, h⟩ := h
    rw [e9]
    show Wp (d + 1) mc ms M_X4_readTimes 16 [cA 29, cI l1] [] S C2 Q
    refine wp_aload_n (nx := 17) dX4_readTimes_16 rfl rfl ?_
    refine wp_getIe (kk := 8) 8 (nx := 20) clsX4 dX4_readTimes_17 rfl kF_X4_56 (by decide) (fo_29 F) (ft_29 F) rfl rfl rfl ?_
    refine wp_sipush (nx := 23) dX4_readTimes_20 rfl ⟨by decide, i32 (by decide)⟩ ?_
    refine wp_icmp_ne (nx := 26) (tg := 53) dX4_readTimes_23 rfl rfl (fun hc => ?_) (fun hc => ?_)
    · have h := h.1 hc
      refine wp_iconst (nx := 54) dX4_readTimes_53 rfl (i32 (by decide)) ?_
      exact wp_ireturn dX4_readTimes_54 rfl rfl (nz_of (Or.inl rfl)) h
    · have h := h.2 hc
      refine wp_aload_n (nx := 27) dX4_readTimes_26 rfl rfl ?_
      refine wp_getAe (kk := 4) (nx := 30) clsX4 dX4_readTimes_27 rfl kF_X4_27 (by decide) (fo_29 F) (ft_29 F) rfl (fp_29_4 F) ?_
      refine wp_aload_n (nx := 31) dX4_readTimes_30 rfl rfl ?_
      refine wp_getIe (kk := 7) 7 (nx := 34) clsX4 dX4_readTimes_31 rfl kF_X4_53 (by decide) (fo_29 F) (ft_29 F) rfl rfl rfl ?_
      obtain ⟨hi, h⟩ := h
      refine wp_ialoadE (nx := 35) dX4_readTimes_34 rfl (fo_39 F) (fl_39 F) hi (ft_39 F) rfl ?_
      refine wp_iconst (nx := 36) dX4_readTimes_35 rfl (i32 (by decide)) ?_
      refine wp_icmp_lt (nx := 39) (tg := 53) dX4_readTimes_36 rfl rfl (fun hc => ?_) (fun hc => ?_)
      · have h := h.1 hc
        refine wp_iconst (nx := 54) dX4_readTimes_53 rfl (i32 (by decide)) ?_
        exact wp_ireturn dX4_readTimes_54 rfl rfl (nz_of (Or.inl rfl)) h
      · have h := h.2 hc
        refine wp_aload_n (nx := 40) dX4_readTimes_39 rfl rfl ?_
        refine wp_getAe (kk := 4) (nx := 43) clsX4 dX4_readTimes_40 rfl kF_X4_27 (by decide) (fo_29 F) (ft_29 F) rfl (fp_29_4 F) ?_
        refine wp_aload_n (nx := 44) dX4_readTimes_43 rfl rfl ?_
        refine wp_getIe (kk := 7) 7 (nx := 47) clsX4 dX4_readTimes_44 rfl kF_X4_53 (by decide) (fo_29 F) (ft_29 F) rfl rfl rfl ?_
        obtain ⟨hi, h⟩ := h
        refine wp_ialoadE (nx := 48) dX4_readTimes_47 rfl (fo_39 F) (fl_39 F) hi (ft_39 F) rfl ?_
        refine wp_bipush (nx := 50) dX4_readTimes_48 rfl ⟨by decide, i32 (by decide)⟩ ?_
        refine wp_icmp_le (nx := 53) (tg := 55) dX4_readTimes_50 rfl rfl (fun hc => ?_) (fun hc => ?_)
        · have h := h.1 hc
          refine wp_aload_n (nx := 56) dX4_readTimes_55 rfl rfl ?_
          refine wp_getAe (kk := 0) (nx := 59) clsX4 dX4_readTimes_56 rfl kF_X4_14 (by decide) (fo_29 F) (ft_29 F) rfl (fp_29_0 F) ?_
          refine wp_getAe (kk := 4) (nx := 62) clsX9 dX4_readTimes_59 rfl kF_X4_124 (by decide) (fo_30 F) (ft_30 F) rfl (fp_30_4 F) ?_
          refine wp_iload_n (nx := 63) dX4_readTimes_62 rfl rfl ?_
          refine wp_aload_n (nx := 64) dX4_readTimes_63 rfl rfl ?_
          refine wp_getAe (kk := 4) (nx := 67) clsX4 dX4_readTimes_64 rfl kF_X4_27 (by decide) (fo_29 F) (ft_29 F) rfl (fp_29_4 F) ?_
          refine wp_aload_n (nx := 68) dX4_readTimes_67 rfl rfl ?_
          refine wp_getIe (kk := 7) 7 (nx := 71) clsX4 dX4_readTimes_68 rfl kF_X4_53 (by decide) (fo_29 F) (ft_29 F) rfl rfl rfl ?_
          obtain ⟨hi, h⟩ := h
          refine wp_ialoadE (nx := 72) dX4_readTimes_71 rfl (fo_39 F) (fl_39 F) hi (ft_39 F) rfl ?_
          obtain ⟨hi, h⟩ := h
          refine wp_iastoreE (nx := 73) dX4_readTimes_72 rfl (fo_32 F) (fl_32 F) hi (ft_32 F) ?_
          refine wp_aload_n (nx := 74) dX4_readTimes_73 rfl rfl ?_
          refine wp_invV (nx := 77) (N := M_X4_next) (as := []) (st := []) (mc := 0) (ms := 0) (mc' := mc) (ms' := ms) (a := 29) clsX4 dX4_readTimes_74 rfl mok_X4_next kM_X4_72 ki_X4_next ke_X4_next (fo_29 F) (ft_29 F) rfl rfl (leB rfl) (leB rfl) (z0 _) (z0 _) (Wp.mono h ?_)
          intro r3 Sq C4 h
          obtain ⟨e9, h⟩ := h
          rw [e9]
          show Wp (d + 1) mc ms M_X4_readTimes 77 [cA 29, cI l1] [] S C4 Q
          refine wp_iconst (nx := 78) dX4_readTimes_77 rfl (i32 (by decide)) ?_
          exact wp_ireturn dX4_readTimes_78 rfl rfl (nz_of (Or.inr rfl)) h
        · have h := h.2 hc
          refine wp_iconst (nx := 54) dX4_readTimes_53 rfl (i32 (by decide)) ?_
          exact wp_ireturn dX4_readTimes_54 rfl rfl (nz_of (Or.inl rfl)) h
  · have h := h.2 hc
    refine wp_iconst (nx := 11) dX4_readTimes_10 rfl (i32 (by decide)) ?_
    exact wp_ireturn dX4_readTimes_11 rfl rfl (nz_of (Or.inr rfl)) h
theorem b_X4_readCondition_0 {d mc ms : Nat} {l1 : Int} {S : MS} {C : MC} {Q : Int → MS → MC → Prop} (F : Fix S) (h : ((C 29 8 = 279 → K_X4_next_0 d 0 0 S C (fun r1 Sq C2 => Sq = S ∧ ((0 : Int) ≤ l1 ∧ l1 < 12) ∧ K_X4_test_0 d 0 0 S ((upC C2 35 l1 (C2 30 1))) (fun r3 Sq C4 => Sq = S ∧ ((¬ r3 = 0 → K_X9_emit_0 d 0 0 0 0 S C4 (fun r5 Sq C6 => Sq = S ∧ Q 1 S C6)) ∧ (r3 = 0 → Q 0 S C4))))) ∧ (¬ C 29 8 = 279 → Q 1 S C))) : K_X4_readCondition_0 (d + 1) mc ms l1 S C Q := by
  show Wp (d + 1) mc ms M_X4_readCondition 0 [cA 29, cI l1] [] S C Q
  refine wp_aload_n (nx := 1) dX4_readCondition_0 rfl rfl ?_
  refine wp_getIe (kk := 8) 8 (nx := 4) clsX4 dX4_readCondition_1 rfl kF_X4_56 (by decide) (fo_29 F) (ft_29 F) rfl rfl rfl ?_
  refine wp_sipush (nx := 7) dX4_readCondition_4 rfl ⟨by decide, i32 (by decide)⟩ ?_
  refine wp_icmp_eq (nx := 10) (tg := 12) dX4_readCondition_7 rfl rfl (fun hc => ?_) (fun hc => ?_)
  · have h := h.1 hc
    refine wp_aload_n (nx := 13) dX4_readCondition_12 rfl rfl ?_
    refine wp_invV (nx := 16) (N := M_X4_next) (as := []) (st := []) (mc := 0) (ms := 0) (mc' := mc) (ms' := ms) (a := 29) clsX4 dX4_readCondition_13 rfl mok_X4_next kM_X4_72 ki_X4_next ke_X4_next (fo_29 F) (ft_29 F) rfl rfl (leB rfl) (leB rfl) (z0 _) (z0 _) (Wp.mono h ?_)
    intro r1 Sq C2 h
    obtain ⟨e9, h⟩ := h
    rw [e9]
    show Wp (d + 1) mc ms M_X4_readCondition 16 [cA 29, cI l1] [] S C2 Q
    refine wp_aload_n (nx := 17) dX4_readCondition_16 rfl rfl ?_
    refine wp_getAe (kk := 0) (nx := 20) clsX4 dX4_readCondition_17 rfl kF_X4_14 (by decide) (fo_29 F) (ft_29 F) rfl (fp_29_0 F) ?_
    refine wp_getAe (kk := 7) (nx := 23) clsX9 dX4_readCondition_20 rfl kF_X4_127 (by decide) (fo_30 F) (ft_30 F) rfl (fp_30_7 F) ?_
    refine wp_iload_n (nx := 24) dX4_readCondition_23 rfl rfl ?_
    refine wp_aload_n (nx := 25) dX4_readCondition_24 rfl rfl ?_
    refine wp_getAe (kk := 0) (nx := 28) clsX4 dX4_readCondition_25 rfl kF_X4_14 (by decide) (fo_29 F) (ft_29 F) rfl (fp_29_0 F) ?_
    refine wp_getIe (kk := 1) 1 (nx := 31) clsX9 dX4_readCondition_28 rfl kF_X4_107 (by decide) (fo_30 F) (ft_30 F) rfl rfl rfl ?_
    obtain ⟨hi, h⟩ := h
    refine wp_iastoreE (nx := 32) dX4_readCondition_31 rfl (fo_35 F) (fl_35 F) hi (ft_35 F) ?_
    refine wp_aload_n (nx := 33) dX4_readCondition_32 rfl rfl ?_
    refine wp_invV (nx := 36) (N := M_X4_test) (as := []) (st := []) (mc := 0) (ms := 0) (mc' := mc) (ms' := ms) (a := 29) clsX4 dX4_readCondition_33 rfl mok_X4_test kM_X4_130 ki_X4_test ke_X4_test (fo_29 F) (ft_29 F) rfl rfl (leB rfl) (leB rfl) (z0 _) (z0 _) (Wp.mono h ?_)
    intro r3 Sq C4 h
    obtain ⟨e9, h⟩ := h
    rw [e9]
    show Wp (d + 1) mc ms M_X4_readCondition 36 [cA 29, cI l1] [cI r3] S C4 Q
    refine wp_if_ne (nx := 39) (tg := 41) dX4_readCondition_36 rfl rfl (fun hc => ?_) (fun hc => ?_)
    · have h := h.1 hc
      refine wp_aload_n (nx := 42) dX4_readCondition_41 rfl rfl ?_
      refine wp_getAe (kk := 0) (nx := 45) clsX4 dX4_readCondition_42 rfl kF_X4_14 (by decide) (fo_29 F) (ft_29 F) rfl (fp_29_0 F) ?_
      refine wp_iconst (nx := 46) dX4_readCondition_45 rfl (i32 (by decide)) ?_
      refine wp_iconst (nx := 47) dX4_readCondition_46 rfl (i32 (by decide)) ?_
      refine wp_invV (nx := 50) (N := M_X9_emit) (as := [cI 0, cI 0]) (st := []) (mc := 0) (ms := 0) (mc' := mc) (ms' := ms) (a := 30) clsX9 dX4_readCondition_47 rfl mok_X9_emit kM_X4_112 ki_X9_emit ke_X9_emit (fo_30 F) (ft_30 F) rfl rfl (leB rfl) (leB rfl) (z0 _) (z0 _) (Wp.mono h ?_)
      intro r5 Sq C6 h
      obtain ⟨e9, h⟩ := h
      rw [e9]
      show Wp (d + 1) mc ms M_X4_readCondition 50 [cA 29, cI l1] [] S C6 Q
      refine wp_iconst (nx := 51) dX4_readCondition_50 rfl (i32 (by decide)) ?_
      exact wp_ireturn dX4_readCondition_51 rfl rfl (nz_of (Or.inr rfl)) h
    · have h := h.2 hc
      refine wp_iconst (nx := 40) dX4_readCondition_39 rfl (i32 (by decide)) ?_
      exact wp_ireturn dX4_readCondition_40 rfl rfl (nz_of (Or.inl rfl)) h
  · have h := h.2 hc
    refine wp_iconst (nx := 11) dX4_readCondition_10 rfl (i32 (by decide)) ?_
    exact wp_ireturn dX4_readCondition_11 rfl rfl (nz_of (Or.inr rfl)) h
theorem b_X4_test_0 {d mc ms : Nat} {S : MS} {C : MC} {Q : Int → MS → MC → Prop} (F : Fix S) (h : K_X4_both_0 d 0 0 S C (fun r1 Sq C2 => Sq = S ∧ ((¬ r1 = 0 → K_X4_test_11 (d + 1) mc ms 0 S C2 Q) ∧ (r1 = 0 → Q 0 S C2)))) : K_X4_test_0 (d + 1) mc ms S C Q := by
  show Wp (d + 1) mc ms M_X4_test 0 [cA 29, cU, cU] [] S C Q
  refine wp_aload_n (nx := 1) dX4_test_0 rfl rfl ?_
  refine wp_invV (nx := 4) (N := M_X4_both) (as := []) (st := []) (mc := 0) (ms := 0) (mc' := mc) (ms' := ms) (a := 29) clsX4 dX4_test_1 rfl mok_X4_both kM_X4_132 ki_X4_both ke_X4_both (fo_29 F) (ft_29 F) rfl rfl (leB rfl) (leB rfl) (z0 _) (z0 _) (Wp.mono h ?_)
  intro r1 Sq C2 h
  obtain ⟨e9, h⟩ := h
  rw [e9]
  show Wp (d + 1) mc ms M_X4_test 4 [cA 29, cU, cU] [cI r1] S C2 Q
  refine wp_if_ne (nx := 7) (tg := 9) dX4_test_4 rfl rfl (fun hc => ?_) (fun hc => ?_)
  · have h := h.1 hc
    refine wp_iconst (nx := 10) dX4_test_9 rfl (i32 (by decide)) ?_
    refine wp_istore_n (nx := 11) dX4_test_10 rfl (by decide) ?_
    refine wp_ls (ls2 := [cA 29, cI 0, cU]) rfl ?_
    exact h
  · have h := h.2 hc
    refine wp_iconst (nx := 8) dX4_test_7 rfl (i32 (by decide)) ?_
    exact wp_ireturn dX4_test_8 rfl rfl (nz_of (Or.inl rfl)) h
theorem b_X4_test_11 {d mc ms : Nat} {l1 : Int} {S : MS} {C : MC} {Q : Int → MS → MC → Prop} (F : Fix S) (h : ((400 ≤ l1 → Q 1 S C) ∧ (¬ 400 ≤ l1 → ((¬ C 29 8 = 281 → Q 1 S C) ∧ (C 29 8 = 281 → K_X9_emit_0 d 0 0 13 0 S C (fun r1 Sq C2 => Sq = S ∧ K_X4_next_0 d 0 0 S C2 (fun r3 Sq C4 => Sq = S ∧ K_X4_both_0 d 0 0 S C4 (fun r5 Sq C6 => Sq = S ∧ ((¬ r5 = 0 → K_X9_landHere_0 d 0 0 (C 30 1) S C6 (fun r7 Sq C8 => Sq = S ∧ K_X4_test_11 (d + 1) mc ms (w32 (l1 + 1)) S C8 Q)) ∧ (r5 = 0 → Q 0 S C6)))))))))) : K_X4_test_11 (d + 1) mc ms l1 S C Q := by
  show Wp (d + 1) mc ms M_X4_test 11 [cA 29, cI l1, cU] [] S C Q
  refine wp_iload_n (nx := 12) dX4_test_11 rfl rfl ?_
  refine wp_sipush (nx := 15) dX4_test_12 rfl ⟨by decide, i32 (by decide)⟩ ?_
  refine wp_icmp_ge (nx := 18) (tg := 73) dX4_test_15 rfl rfl (fun hc => ?_) (fun hc => ?_)
  · have h := h.1 hc
    refine wp_iconst (nx := 74) dX4_test_73 rfl (i32 (by decide)) ?_
    exact wp_ireturn dX4_test_74 rfl rfl (nz_of (Or.inr rfl)) h
  · have h := h.2 hc
    refine wp_aload_n (nx := 19) dX4_test_18 rfl rfl ?_
    refine wp_getIe (kk := 8) 8 (nx := 22) clsX4 dX4_test_19 rfl kF_X4_56 (by decide) (fo_29 F) (ft_29 F) rfl rfl rfl ?_
    refine wp_sipush (nx := 25) dX4_test_22 rfl ⟨by decide, i32 (by decide)⟩ ?_
    refine wp_icmp_ne (nx := 28) (tg := 73) dX4_test_25 rfl rfl (fun hc => ?_) (fun hc => ?_)
    · have h := h.1 hc
      refine wp_iconst (nx := 74) dX4_test_73 rfl (i32 (by decide)) ?_
      exact wp_ireturn dX4_test_74 rfl rfl (nz_of (Or.inr rfl)) h
    · have h := h.2 hc
      refine wp_aload_n (nx := 29) dX4_test_28 rfl rfl ?_
      refine wp_getAe (kk := 0) (nx := 32) clsX4 dX4_test_29 rfl kF_X4_14 (by decide) (fo_29 F) (ft_29 F) rfl (fp_29_0 F) ?_
      refine wp_getIe (kk := 1) 1 (nx := 35) clsX9 dX4_test_32 rfl kF_X4_107 (by decide) (fo_30 F) (ft_30 F) rfl rfl rfl ?_
      refine wp_istore_n (nx := 36) dX4_test_35 rfl (by decide) ?_
      refine wp_ls (ls2 := [cA 29, cI l1, cI (C 30 1)]) rfl ?_
      refine wp_aload_n (nx := 37) dX4_test_36 rfl rfl ?_
      refine wp_getAe (kk := 0) (nx := 40) clsX4 dX4_test_37 rfl kF_X4_14 (by decide) (fo_29 F) (ft_29 F) rfl (fp_29_0 F) ?_
      refine wp_bipush (nx := 42) dX4_test_40 rfl ⟨by decide, i32 (by decide)⟩ ?_
      refine wp_iconst (nx := 43) dX4_test_42 rfl (i32 (by decide)) ?_
      refine wp_invV (nx := 46) (N := M_X9_emit) (as := [cI 13, cI 0]) (st := []) (mc := 0) (ms := 0) (mc' := mc) (ms' := ms) (a := 30) clsX9 dX4_test_43 rfl mok_X9_emit kM_X4_112 ki_X9_emit ke_X9_emit (fo_30 F) (ft_30 F) rfl rfl (leB rfl) (leB rfl) (z0 _) (z0 _) (Wp.mono h ?_)
      intro r1 Sq C2 h
      obtain ⟨e9, h⟩ := h
      rw [e9]
      show Wp (d + 1) mc ms M_X4_test 46 [cA 29, cI l1, cI (C 30 1)] [] S C2 Q
      refine wp_aload_n (nx := 47) dX4_test_46 rfl rfl ?_
      refine wp_invV (nx := 50) (N := M_X4_next) (as := []) (st := []) (mc := 0) (ms := 0) (mc' := mc) (ms' := ms) (a := 29) clsX4 dX4_test_47 rfl mok_X4_next kM_X4_72 ki_X4_next ke_X4_next (fo_29 F) (ft_29 F) rfl rfl (leB rfl) (leB rfl) (z0 _) (z0 _) (Wp.mono h ?_)
      intro r3 Sq C4 h
      obtain ⟨e9, h⟩ := h
      rw [e9]
      show Wp (d + 1) mc ms M_X4_test 50 [cA 29, cI l1, cI (C 30 1)] [] S C4 Q
      refine wp_aload_n (nx := 51) dX4_test_50 rfl rfl ?_
      refine wp_invV (nx := 54) (N := M_X4_both) (as := []) (st := []) (mc := 0) (ms := 0) (mc' := mc) (ms' := ms) (a := 29) clsX4 dX4_test_51 rfl mok_X4_both kM_X4_132 ki_X4_both ke_X4_both (fo_29 F) (ft_29 F) rfl rfl (leB rfl) (leB rfl) (z0 _) (z0 _) (Wp.mono h ?_)
      intro r5 Sq C6 h
      obtain ⟨e9, h⟩ := h
      rw [e9]
      show Wp (d + 1) mc ms M_X4_test 54 [cA 29, cI l1, cI (C 30 1)] [cI r5] S C6 Q
      refine wp_if_ne (nx := 57) (tg := 59) dX4_test_54 rfl rfl (fun hc => ?_) (fun hc => ?_)
      · have h := h.1 hc
        refine wp_aload_n (nx := 60) dX4_test_59 rfl rfl ?_
        refine wp_getAe (kk := 0) (nx := 63) clsX4 dX4_test_60 rfl kF_X4_14 (by decide) (fo_29 F) (ft_29 F) rfl (fp_29_0 F) ?_
        refine wp_iload_n (nx := 64) dX4_test_63 rfl rfl ?_
        refine wp_invV (nx := 67) (N := M_X9_landHere) (as := [cI (C 30 1)]) (st := []) (mc := 0) (ms := 0) (mc' := mc) (ms' := ms) (a := 30) clsX9 dX4_test_64 rfl mok_X9_landHere kM_X4_135 ki_X9_landHere ke_X9_landHere (fo_30 F) (ft_30 F) rfl rfl (leB rfl) (leB rfl) (z0 _) (z0 _) (Wp.mono h ?_)
        intro r7 Sq C8 h
        obtain ⟨e9, h⟩ := h
        rw [e9]
        show Wp (d + 1) mc ms M_X4_test 67 [cA 29, cI l1, cI (C 30 1)] [] S C8 Q
        refine wp_iinc (nx := 70) dX4_test_67 rfl rfl (by decide) ?_
        refine wp_ls (ls2 := [cA 29, cI (w32 (l1 + 1)), cI (C 30 1)]) rfl ?_
        refine wp_goto (nx := 11) dX4_test_70 rfl ?_
        refine wp_fg [true, true, false] (ls2 := [cA 29, cI (w32 (l1 + 1)), cU]) rfl ?_
        exact h
      · have h := h.2 hc
        refine wp_iconst (nx := 58) dX4_test_57 rfl (i32 (by decide)) ?_
        exact wp_ireturn dX4_test_58 rfl rfl (nz_of (Or.inl rfl)) h
theorem b_X4_both_0 {d mc ms : Nat} {S : MS} {C : MC} {Q : Int → MS → MC → Prop} (F : Fix S) (h : K_X4_plain_0 d 0 0 S C (fun r1 Sq C2 => Sq = S ∧ ((¬ r1 = 0 → K_X4_both_11 (d + 1) mc ms 0 S C2 Q) ∧ (r1 = 0 → Q 0 S C2)))) : K_X4_both_0 (d + 1) mc ms S C Q := by
  show Wp (d + 1) mc ms M_X4_both 0 [cA 29, cU, cU] [] S C Q
  refine wp_aload_n (nx := 1) dX4_both_0 rfl rfl ?_
  refine wp_invV (nx := 4) (N := M_X4_plain) (as := []) (st := []) (mc := 0) (ms := 0) (mc' := mc) (ms' := ms) (a := 29) clsX4 dX4_both_1 rfl mok_X4_plain kM_X4_139 ki_X4_plain ke_X4_plain (fo_29 F) (ft_29 F) rfl rfl (leB rfl) (leB rfl) (z0 _) (z0 _) (Wp.mono h ?_)
  intro r1 Sq C2 h
  obtain ⟨e9, h⟩ := h
  rw [e9]
  show Wp (d + 1) mc ms M_X4_both 4 [cA 29, cU, cU] [cI r1] S C2 Q
  refine wp_if_ne (nx := 7) (tg := 9) dX4_both_4 rfl rfl (fun hc => ?_) (fun hc => ?_)
  · have h := h.1 hc
    refine wp_iconst (nx := 10) dX4_both_9 rfl (i32 (by decide)) ?_
    refine wp_istore_n (nx := 11) dX4_both_10 rfl (by decide) ?_
    refine wp_ls (ls2 := [cA 29, cI 0, cU]) rfl ?_
    exact h
  · have h := h.2 hc
    refine wp_iconst (nx := 8) dX4_both_7 rfl (i32 (by decide)) ?_
    exact wp_ireturn dX4_both_8 rfl rfl (nz_of (Or.inl rfl)) h
theorem b_X4_both_11 {d mc ms : Nat} {l1 : Int} {S : MS} {C : MC} {Q : Int → MS → MC → Prop} (F : Fix S) (h : ((400 ≤ l1 → Q 1 S C) ∧ (¬ 400 ≤ l1 → ((¬ C 29 8 = 280 → Q 1 S C) ∧ (C 29 8 = 280 → K_X9_emit_0 d 0 0 12 0 S C (fun r1 Sq C2 => Sq = S ∧ K_X4_next_0 d 0 0 S C2 (fun r3 Sq C4 => Sq = S ∧ K_X4_plain_0 d 0 0 S C4 (fun r5 Sq C6 => Sq = S ∧ ((¬ r5 = 0 → K_X9_landHere_0 d 0 0 (C 30 1) S C6 (fun r7 Sq C8 => Sq = S ∧ K_X4_both_11 (d + 1) mc ms (w32 (l1 + 1)) S C8 Q)) ∧ (r5 = 0 → Q 0 S C6)))))))))) : K_X4_both_11 (d + 1) mc ms l1 S C Q := by
  show Wp (d + 1) mc ms M_X4_both 11 [cA 29, cI l1, cU] [] S C Q
  refine wp_iload_n (nx := 12) dX4_both_11 rfl rfl ?_
  refine wp_sipush (nx := 15) dX4_both_12 rfl ⟨by decide, i32 (by decide)⟩ ?_
  refine wp_icmp_ge (nx := 18) (tg := 73) dX4_both_15 rfl rfl (fun hc => ?_) (fun hc => ?_)
  · have h := h.1 hc
    refine wp_iconst (nx := 74) dX4_both_73 rfl (i32 (by decide)) ?_
    exact wp_ireturn dX4_both_74 rfl rfl (nz_of (Or.inr rfl)) h
  · have h := h.2 hc
    refine wp_aload_n (nx := 19) dX4_both_18 rfl rfl ?_
    refine wp_getIe (kk := 8) 8 (nx := 22) clsX4 dX4_both_19 rfl kF_X4_56 (by decide) (fo_29 F) (ft_29 F) rfl rfl rfl ?_
    refine wp_sipush (nx := 25) dX4_both_22 rfl ⟨by decide, i32 (by decide)⟩ ?_
    refine wp_icmp_ne (nx := 28) (tg := 73) dX4_both_25 rfl rfl (fun hc => ?_) (fun hc => ?_)
    · have h := h.1 hc
      refine wp_iconst (nx := 74) dX4_both_73 rfl (i32 (by decide)) ?_
      exact wp_ireturn dX4_both_74 rfl rfl (nz_of (Or.inr rfl)) h
    · have h := h.2 hc
      refine wp_aload_n (nx := 29) dX4_both_28 rfl rfl ?_
      refine wp_getAe (kk := 0) (nx := 32) clsX4 dX4_both_29 rfl kF_X4_14 (by decide) (fo_29 F) (ft_29 F) rfl (fp_29_0 F) ?_
      refine wp_getIe (kk := 1) 1 (nx := 35) clsX9 dX4_both_32 rfl kF_X4_107 (by decide) (fo_30 F) (ft_30 F) rfl rfl rfl ?_
      refine wp_istore_n (nx := 36) dX4_both_35 rfl (by decide) ?_
      refine wp_ls (ls2 := [cA 29, cI l1, cI (C 30 1)]) rfl ?_
      refine wp_aload_n (nx := 37) dX4_both_36 rfl rfl ?_
      refine wp_getAe (kk := 0) (nx := 40) clsX4 dX4_both_37 rfl kF_X4_14 (by decide) (fo_29 F) (ft_29 F) rfl (fp_29_0 F) ?_
      refine wp_bipush (nx := 42) dX4_both_40 rfl ⟨by decide, i32 (by decide)⟩ ?_
      refine wp_iconst (nx := 43) dX4_both_42 rfl (i32 (by decide)) ?_
      refine wp_invV (nx := 46) (N := M_X9_emit) (as := [cI 12, cI 0]) (st := []) (mc := 0) (ms := 0) (mc' := mc) (ms' := ms) (a := 30) clsX9 dX4_both_43 rfl mok_X9_emit kM_X4_112 ki_X9_emit ke_X9_emit (fo_30 F) (ft_30 F) rfl rfl (leB rfl) (leB rfl) (z0 _) (z0 _) (Wp.mono h ?_)
      intro r1 Sq C2 h
      obtain ⟨e9, h⟩ := h
      rw [e9]
      show Wp (d + 1) mc ms M_X4_both 46 [cA 29, cI l1, cI (C 30 1)] [] S C2 Q
      refine wp_aload_n (nx := 47) dX4_both_46 rfl rfl ?_
      refine wp_invV (nx := 50) (N := M_X4_next) (as := []) (st := []) (mc := 0) (ms := 0) (mc' := mc) (ms' := ms) (a := 29) clsX4 dX4_both_47 rfl mok_X4_next kM_X4_72 ki_X4_next ke_X4_next (fo_29 F) (ft_29 F) rfl rfl (leB rfl) (leB rfl) (z0 _) (z0 _) (Wp.mono h ?_)
      intro r3 Sq C4 h
      obtain ⟨e9, h⟩ := h
      rw [e9]
      show Wp (d + 1) mc ms M_X4_both 50 [cA 29, cI l1, cI (C 30 1)] [] S C4 Q
      refine wp_aload_n (nx := 51) dX4_both_50 rfl rfl ?_
      refine wp_invV (nx := 54) (N := M_X4_plain) (as := []) (st := []) (mc := 0) (ms := 0) (mc' := mc) (ms' := ms) (a := 29) clsX4 dX4_both_51 rfl mok_X4_plain kM_X4_139 ki_X4_plain ke_X4_plain (fo_29 F) (ft_29 F) rfl rfl (leB rfl) (leB rfl) (z0 _) (z0 _) (Wp.mono h ?_)
      intro r5 Sq C6 h
      obtain ⟨e9, h⟩ := h
      rw [e9]
      show Wp (d + 1) mc ms M_X4_both 54 [cA 29, cI l1, cI (C 30 1)] [cI r5] S C6 Q
      refine wp_if_ne (nx := 57) (tg := 59) dX4_both_54 rfl rfl (fun hc => ?_) (fun hc => ?_)
      · have h := h.1 hc
        refine wp_aload_n (nx := 60) dX4_both_59 rfl rfl ?_
        refine wp_getAe (kk := 0) (nx := 63) clsX4 dX4_both_60 rfl kF_X4_14 (by decide) (fo_29 F) (ft_29 F) rfl (fp_29_0 F) ?_
        refine wp_iload_n (nx := 64) dX4_both_63 rfl rfl ?_
        refine wp_invV (nx := 67) (N := M_X9_landHere) (as := [cI (C 30 1)]) (st := []) (mc := 0) (ms := 0) (mc' := mc) (ms' := ms) (a := 30) clsX9 dX4_both_64 rfl mok_X9_landHere kM_X4_135 ki_X9_landHere ke_X9_landHere (fo_30 F) (ft_30 F) rfl rfl (leB rfl) (leB rfl) (z0 _) (z0 _) (Wp.mono h ?_)
        intro r7 Sq C8 h
        obtain ⟨e9, h⟩ := h
        rw [e9]
        show Wp (d + 1) mc ms M_X4_both 67 [cA 29, cI l1, cI (C 30 1)] [] S C8 Q
        refine wp_iinc (nx := 70) dX4_both_67 rfl rfl (by decide) ?_
        refine wp_ls (ls2 := [cA 29, cI (w32 (l1 + 1)), cI (C 30 1)]) rfl ?_
        refine wp_goto (nx := 11) dX4_both_70 rfl ?_
        refine wp_fg [true, true, false] (ls2 := [cA 29, cI (w32 (l1 + 1)), cU]) rfl ?_
        exact h
      · have h := h.2 hc
        refine wp_iconst (nx := 58) dX4_both_57 rfl (i32 (by decide)) ?_
        exact wp_ireturn dX4_both_58 rfl rfl (nz_of (Or.inl rfl)) h
theorem b_X4_plain_0 {d mc ms : Nat} {S : MS} {C : MC} {Q : Int → MS → MC → Prop} (F : Fix S) (h : K_X4_plain_4 (d + 1) mc ms 0 0 S C Q) : K_X4_plain_0 (d + 1) mc ms S C Q := by
  show Wp (d + 1) mc ms M_X4_plain 0 [cA 29, cU, cU] [] S C Q
  refine wp_iconst (nx := 1) dX4_plain_0 rfl (i32 (by decide)) ?_
  refine wp_istore_n (nx := 2) dX4_plain_1 rfl (by decide) ?_
  refine wp_ls (ls2 := [cA 29, cI 0, cU]) rfl ?_
  refine wp_iconst (nx := 3) dX4_plain_2 rfl (i32 (by decide)) ?_
  refine wp_istore_n (nx := 4) dX4_plain_3 rfl (by decide) ?_
  refine wp_ls (ls2 := [cA 29, cI 0, cI 0]) rfl ?_
  exact h
theorem b_X4_plain_4 {d mc ms : Nat} {l1 l2 : Int} {S : MS} {C : MC} {Q : Int → MS → MC → Prop} (F : Fix S) (h : ((400 ≤ l2 → K_X4_plain_41 (d + 1) mc ms l1 S C Q) ∧ (¬ 400 ≤ l2 → ((¬ C 29 8 = 282 → K_X4_plain_41 (d + 1) mc ms l1 S C Q) ∧ (C 29 8 = 282 → ((¬ l1 = 0 → K_X4_next_0 d 0 0 S C (fun r1 Sq C2 => Sq = S ∧ K_X4_plain_4 (d + 1) mc ms 0 (w32 (l2 + 1)) S C2 Q)) ∧ (l1 = 0 → K_X4_next_0 d 0 0 S C (fun r3 Sq C4 => Sq = S ∧ K_X4_plain_4 (d + 1) mc ms 1 (w32 (l2 + 1)) S C4 Q)))))))) : K_X4_plain_4 (d + 1) mc ms l1 l2 S C Q := by
  show Wp (d + 1) mc ms M_X4_plain 4 [cA 29, cI l1, cI l2] [] S C Q
  refine wp_iload_n (nx := 5) dX4_plain_4 rfl rfl ?_
  refine wp_sipush (nx := 8) dX4_plain_5 rfl ⟨by decide, i32 (by decide)⟩ ?_
  refine wp_icmp_ge (nx := 11) (tg := 41) dX4_plain_8 rfl rfl (fun hc => ?_) (fun hc => ?_)
  · have h := h.1 hc
    refine wp_fg [true, true, false] (ls2 := [cA 29, cI l1, cU]) rfl ?_
    exact h
  · have h := h.2 hc
    refine wp_aload_n (nx := 12) dX4_plain_11 rfl rfl ?_
    refine wp_getIe (kk := 8) 8 (nx := 15) clsX4 dX4_plain_12 rfl kF_X4_56 (by decide) (fo_29 F) (ft_29 F) rfl rfl rfl ?_
    refine wp_sipush (nx := 18) dX4_plain_15 rfl ⟨by decide, i32 (by decide)⟩ ?_
    refine wp_icmp_ne (nx := 21) (tg := 41) dX4_plain_18 rfl rfl (fun hc => ?_) (fun hc => ?_)
    · have h := h.1 hc
      refine wp_fg [true, true, false] (ls2 := [cA 29, cI l1, cU]) rfl ?_
      exact h
    · have h := h.2 hc
      refine wp_iload_n (nx := 22) dX4_plain_21 rfl rfl ?_
      refine wp_if_ne (nx := 25) (tg := 29) dX4_plain_22 rfl rfl (fun hc => ?_) (fun hc => ?_)
      · have h := h.1 hc
        refine wp_iconst (nx := 30) dX4_plain_29 rfl (i32 (by decide)) ?_
        refine wp_istore_n (nx := 31) dX4_plain_30 rfl (by decide) ?_
        refine wp_ls (ls2 := [cA 29, cI 0, cI l2]) rfl ?_
        refine wp_aload_n (nx := 32) dX4_plain_31 rfl rfl ?_
        refine wp_invV (nx := 35) (N := M_X4_next) (as := []) (st := []) (mc := 0) (ms := 0) (mc' := mc) (ms' := ms) (a := 29) clsX4 dX4_plain_32 rfl mok_X4_next kM_X4_72 ki_X4_next ke_X4_next (fo_29 F) (ft_29 F) rfl rfl (leB rfl) (leB rfl) (z0 _) (z0 _) (Wp.mono h ?_)
        intro r1 Sq C2 h
        obtain ⟨e9, h⟩ := h
        rw [e9]
        show Wp (d + 1) mc ms M_X4_plain 35 [cA 29, cI 0, cI l2] [] S C2 Q
        refine wp_iinc (nx := 38) dX4_plain_35 rfl rfl (by decide) ?_
        refine wp_ls (ls2 := [cA 29, cI 0, cI (w32 (l2 + 1))]) rfl ?_
        refine wp_goto (nx := 4) dX4_plain_38 rfl ?_
        exact h
      · have h := h.2 hc
        refine wp_iconst (nx := 26) dX4_plain_25 rfl (i32 (by decide)) ?_
        refine wp_goto (nx := 30) dX4_plain_26 rfl ?_
        refine wp_istore_n (nx := 31) dX4_plain_30 rfl (by decide) ?_
        refine wp_ls (ls2 := [cA 29, cI 1, cI l2]) rfl ?_
        refine wp_aload_n (nx := 32) dX4_plain_31 rfl rfl ?_
        refine wp_invV (nx := 35) (N := M_X4_next) (as := []) (st := []) (mc := 0) (ms := 0) (mc' := mc) (ms' := ms) (a := 29) clsX4 dX4_plain_32 rfl mok_X4_next kM_X4_72 ki_X4_next ke_X4_next (fo_29 F) (ft_29 F) rfl rfl (leB rfl) (leB rfl) (z0 _) (z0 _) (Wp.mono h ?_)
        intro r3 Sq C4 h
        obtain ⟨e9, h⟩ := h
        rw [e9]
        show Wp (d + 1) mc ms M_X4_plain 35 [cA 29, cI 1, cI l2] [] S C4 Q
        refine wp_iinc (nx := 38) dX4_plain_35 rfl rfl (by decide) ?_
        refine wp_ls (ls2 := [cA 29, cI 1, cI (w32 (l2 + 1))]) rfl ?_
        refine wp_goto (nx := 4) dX4_plain_38 rfl ?_
        exact h
theorem b_X4_plain_41 {d mc ms : Nat} {l1 : Int} {S : MS} {C : MC} {Q : Int → MS → MC → Prop} (F : Fix S) (h : ((¬ C 29 8 = 40 → K_X4_sum_0 d 0 0 S C (fun r1 Sq C2 => Sq = S ∧ ((r1 = 0 → Q 0 S C2) ∧ (¬ r1 = 0 → ((C2 29 8 = 60 → K_X4_plain_146 (d + 1) mc ms l1 S C2 Q) ∧ (¬ C2 29 8 = 60 → ((C2 29 8 = 62 → K_X4_plain_146 (d + 1) mc ms l1 S C2 Q) ∧ (¬ C2 29 8 = 62 → ((C2 29 8 = 61 → K_X4_plain_146 (d + 1) mc ms l1 S C2 Q) ∧ (¬ C2 29 8 = 61 → Q 0 S C2)))))))))) ∧ (C 29 8 = 40 → ((C 29 10 < 8 → K_X4_next_0 d 0 0 S ((upC C 29 10 (w32 ((C 29 10) + 1)))) (fun r3 Sq C4 => Sq = S ∧ K_X4_test_0 d 0 0 S C4 (fun r5 Sq C6 => Sq = S ∧ ((r5 = 0 → Q 0 S C6) ∧ (¬ r5 = 0 → ((C6 29 8 = 41 → K_X4_next_0 d 0 0 S ((upC C6 29 10 (w32 ((C6 29 10) - 1)))) (fun r7 Sq C8 => Sq = S ∧ ((l1 = 0 → Q 1 S C8) ∧ (¬ l1 = 0 → K_X9_emit_0 d 0 0 11 0 S C8 (fun r9 Sq C10 => Sq = S ∧ Q 1 S C10))))) ∧ (¬ C6 29 8 = 41 → Q 0 S C6))))))) ∧ (¬ C 29 10 < 8 → Q 0 S C))))) : K_X4_plain_41 (d + 1) mc ms l1 S C Q := by
  show Wp (d + 1) mc ms M_X4_plain 41 [cA 29, cI l1, cU] [] S C Q
  refine wp_aload_n (nx := 42) dX4_plain_41 rfl rfl ?_
  refine wp_getIe (kk := 8) 8 (nx := 45) clsX4 dX4_plain_42 rfl kF_X4_56 (by decide) (fo_29 F) (ft_29 F) rfl rfl rfl ?_
  refine wp_bipush (nx := 47) dX4_plain_45 rfl ⟨by decide, i32 (by decide)⟩ ?_
  refine wp_icmp_ne (nx := 50) (tg := 110) dX4_plain_47 rfl rfl (fun hc => ?_) (fun hc => ?_)
  · have h := h.1 hc
    refine wp_aload_n (nx := 111) dX4_plain_110 rfl rfl ?_
    refine wp_invV (nx := 114) (N := M_X4_sum) (as := []) (st := []) (mc := 0) (ms := 0) (mc' := mc) (ms' := ms) (a := 29) clsX4 dX4_plain_111 rfl mok_X4_sum kM_X4_108 ki_X4_sum ke_X4_sum (fo_29 F) (ft_29 F) rfl rfl (leB rfl) (leB rfl) (z0 _) (z0 _) (Wp.mono h ?_)
    intro r1 Sq C2 h
    obtain ⟨e9, h⟩ := h
    rw [e9]
    show Wp (d + 1) mc ms M_X4_plain 114 [cA 29, cI l1, cU] [cI r1] S C2 Q
    refine wp_if_eq (nx := 117) (tg := 144) dX4_plain_114 rfl rfl (fun hc => ?_) (fun hc => ?_)
    · have h := h.1 hc
      refine wp_iconst (nx := 145) dX4_plain_144 rfl (i32 (by decide)) ?_
      exact wp_ireturn dX4_plain_145 rfl rfl (nz_of (Or.inl rfl)) h
    · have h := h.2 hc
      refine wp_aload_n (nx := 118) dX4_plain_117 rfl rfl ?_
      refine wp_getIe (kk := 8) 8 (nx := 121) clsX4 dX4_plain_118 rfl kF_X4_56 (by decide) (fo_29 F) (ft_29 F) rfl rfl rfl ?_
      refine wp_bipush (nx := 123) dX4_plain_121 rfl ⟨by decide, i32 (by decide)⟩ ?_
      refine wp_icmp_eq (nx := 126) (tg := 146) dX4_plain_123 rfl rfl (fun hc => ?_) (fun hc => ?_)
      · have h := h.1 hc
        exact h
      · have h := h.2 hc
        refine wp_aload_n (nx := 127) dX4_plain_126 rfl rfl ?_
        refine wp_getIe (kk := 8) 8 (nx := 130) clsX4 dX4_plain_127 rfl kF_X4_56 (by decide) (fo_29 F) (ft_29 F) rfl rfl rfl ?_
        refine wp_bipush (nx := 132) dX4_plain_130 rfl ⟨by decide, i32 (by decide)⟩ ?_
        refine wp_icmp_eq (nx := 135) (tg := 146) dX4_plain_132 rfl rfl (fun hc => ?_) (fun hc => ?_)
        · have h := h.1 hc
          exact h
        · have h := h.2 hc
          refine wp_aload_n (nx := 136) dX4_plain_135 rfl rfl ?_
          refine wp_getIe (kk := 8) 8 (nx := 139) clsX4 dX4_plain_136 rfl kF_X4_56 (by decide) (fo_29 F) (ft_29 F) rfl rfl rfl ?_
          refine wp_bipush (nx := 141) dX4_plain_139 rfl ⟨by decide, i32 (by decide)⟩ ?_
          refine wp_icmp_eq (nx := 144) (tg := 146) dX4_plain_141 rfl rfl (fun hc => ?_) (fun hc => ?_)
          · have h := h.1 hc
            exact h
          · have h := h.2 hc
            refine wp_iconst (nx := 145) dX4_plain_144 rfl (i32 (by decide)) ?_
            exact wp_ireturn dX4_plain_145 rfl rfl (nz_of (Or.inl rfl)) h
  · have h := h.2 hc
    refine wp_aload_n (nx := 51) dX4_plain_50 rfl rfl ?_
    refine wp_getIe (kk := 10) 10 (nx := 54) clsX4 dX4_plain_51 rfl kF_X4_62 (by decide) (fo_29 F) (ft_29 F) rfl rfl rfl ?_
    refine wp_bipush (nx := 56) dX4_plain_54 rfl ⟨by decide, i32 (by decide)⟩ ?_
    refine wp_icmp_lt (nx := 59) (tg := 61) dX4_plain_56 rfl rfl (fun hc => ?_) (fun hc => ?_)
    · have h := h.1 hc
      refine wp_aload_n (nx := 62) dX4_plain_61 rfl rfl ?_
      refine wp_dup (nx := 63) dX4_plain_62 rfl (k1A _) ?_
      refine wp_getIe (kk := 10) 10 (nx := 66) clsX4 dX4_plain_63 rfl kF_X4_62 (by decide) (fo_29 F) (ft_29 F) rfl rfl rfl ?_
      refine wp_iconst (nx := 67) dX4_plain_66 rfl (i32 (by decide)) ?_
      refine wp_iadd (nx := 68) dX4_plain_67 rfl ?_
      refine wp_putIe (kk := 10) 10 (nx := 71) clsX4 dX4_plain_68 rfl kF_X4_62 (by decide) (fo_29 F) (ft_29 F) rfl rfl ⟨rfl, rfl⟩ rfl ?_
      refine wp_aload_n (nx := 72) dX4_plain_71 rfl rfl ?_
      refine wp_invV (nx := 75) (N := M_X4_next) (as := []) (st := []) (mc := 0) (ms := 0) (mc' := mc) (ms' := ms) (a := 29) clsX4 dX4_plain_72 rfl mok_X4_next kM_X4_72 ki_X4_next ke_X4_next (fo_29 F) (ft_29 F) rfl rfl (leB rfl) (leB rfl) (z0 _) (z0 _) (Wp.mono h ?_)
      intro r3 Sq C4 h
      obtain ⟨e9, h⟩ := h
      rw [e9]
      show Wp (d + 1) mc ms M_X4_plain 75 [cA 29, cI l1, cU] [] S C4 Q
      refine wp_aload_n (nx := 76) dX4_plain_75 rfl rfl ?_
      refine wp_invV (nx := 79) (N := M_X4_test) (as := []) (st := []) (mc := 0) (ms := 0) (mc' := mc) (ms' := ms) (a := 29) clsX4 dX4_plain_76 rfl mok_X4_test kM_X4_130 ki_X4_test ke_X4_test (fo_29 F) (ft_29 F) rfl rfl (leB rfl) (leB rfl) (z0 _) (z0 _) (Wp.mono h ?_)
      intro r5 Sq C6 h
      obtain ⟨e9, h⟩ := h
      rw [e9]
      show Wp (d + 1) mc ms M_X4_plain 79 [cA 29, cI l1, cU] [cI r5] S C6 Q
      refine wp_if_eq (nx := 82) (tg := 91) dX4_plain_79 rfl rfl (fun hc => ?_) (fun hc => ?_)
      · have h := h.1 hc
        refine wp_iconst (nx := 92) dX4_plain_91 rfl (i32 (by decide)) ?_
        exact wp_ireturn dX4_plain_92 rfl rfl (nz_of (Or.inl rfl)) h
      · have h := h.2 hc
        refine wp_aload_n (nx := 83) dX4_plain_82 rfl rfl ?_
        refine wp_getIe (kk := 8) 8 (nx := 86) clsX4 dX4_plain_83 rfl kF_X4_56 (by decide) (fo_29 F) (ft_29 F) rfl rfl rfl ?_
        refine wp_bipush (nx := 88) dX4_plain_86 rfl ⟨by decide, i32 (by decide)⟩ ?_
        refine wp_icmp_eq (nx := 91) (tg := 93) dX4_plain_88 rfl rfl (fun hc => ?_) (fun hc => ?_)
        · have h := h.1 hc
          refine wp_aload_n (nx := 94) dX4_plain_93 rfl rfl ?_
          refine wp_dup (nx := 95) dX4_plain_94 rfl (k1A _) ?_
          refine wp_getIe (kk := 10) 10 (nx := 98) clsX4 dX4_plain_95 rfl kF_X4_62 (by decide) (fo_29 F) (ft_29 F) rfl rfl rfl ?_
          refine wp_iconst (nx := 99) dX4_plain_98 rfl (i32 (by decide)) ?_
          refine wp_isub (nx := 100) dX4_plain_99 rfl ?_
          refine wp_putIe (kk := 10) 10 (nx := 103) clsX4 dX4_plain_100 rfl kF_X4_62 (by decide) (fo_29 F) (ft_29 F) rfl rfl ⟨rfl, rfl⟩ rfl ?_
          refine wp_aload_n (nx := 104) dX4_plain_103 rfl rfl ?_
          refine wp_invV (nx := 107) (N := M_X4_next) (as := []) (st := []) (mc := 0) (ms := 0) (mc' := mc) (ms' := ms) (a := 29) clsX4 dX4_plain_104 rfl mok_X4_next kM_X4_72 ki_X4_next ke_X4_next (fo_29 F) (ft_29 F) rfl rfl (leB rfl) (leB rfl) (z0 _) (z0 _) (Wp.mono h ?_)
          intro r7 Sq C8 h
          obtain ⟨e9, h⟩ := h
          rw [e9]
          show Wp (d + 1) mc ms M_X4_plain 107 [cA 29, cI l1, cU] [] S C8 Q
          refine wp_goto (nx := 176) dX4_plain_107 rfl ?_
          refine wp_iload_n (nx := 177) dX4_plain_176 rfl rfl ?_
          refine wp_if_eq (nx := 180) (tg := 190) dX4_plain_177 rfl rfl (fun hc => ?_) (fun hc => ?_)
          · have h := h.1 hc
            refine wp_iconst (nx := 191) dX4_plain_190 rfl (i32 (by decide)) ?_
            exact wp_ireturn dX4_plain_191 rfl rfl (nz_of (Or.inr rfl)) h
          · have h := h.2 hc
            refine wp_aload_n (nx := 181) dX4_plain_180 rfl rfl ?_
            refine wp_getAe (kk := 0) (nx := 184) clsX4 dX4_plain_181 rfl kF_X4_14 (by decide) (fo_29 F) (ft_29 F) rfl (fp_29_0 F) ?_
            refine wp_bipush (nx := 186) dX4_plain_184 rfl ⟨by decide, i32 (by decide)⟩ ?_
            refine wp_iconst (nx := 187) dX4_plain_186 rfl (i32 (by decide)) ?_
            refine wp_invV (nx := 190) (N := M_X9_emit) (as := [cI 11, cI 0]) (st := []) (mc := 0) (ms := 0) (mc' := mc) (ms' := ms) (a := 30) clsX9 dX4_plain_187 rfl mok_X9_emit kM_X4_112 ki_X9_emit ke_X9_emit (fo_30 F) (ft_30 F) rfl rfl (leB rfl) (leB rfl) (z0 _) (z0 _) (Wp.mono h ?_)
            intro r9 Sq C10 h
            obtain ⟨e9, h⟩ := h
            rw [e9]
            show Wp (d + 1) mc ms M_X4_plain 190 [cA 29, cI l1, cU] [] S C10 Q
            refine wp_iconst (nx := 191) dX4_plain_190 rfl (i32 (by decide)) ?_
            exact wp_ireturn dX4_plain_191 rfl rfl (nz_of (Or.inr rfl)) h
        · have h := h.2 hc
          refine wp_iconst (nx := 92) dX4_plain_91 rfl (i32 (by decide)) ?_
          exact wp_ireturn dX4_plain_92 rfl rfl (nz_of (Or.inl rfl)) h
    · have h := h.2 hc
      refine wp_iconst (nx := 60) dX4_plain_59 rfl (i32 (by decide)) ?_
      exact wp_ireturn dX4_plain_60 rfl rfl (nz_of (Or.inl rfl)) h
theorem b_X4_plain_146 {d mc ms : Nat} {l1 : Int} {S : MS} {C : MC} {Q : Int → MS → MC → Prop} (F : Fix S) (h : K_X4_comparison_0 d 0 0 (C 29 8) S C (fun r1 Sq C2 => Sq = S ∧ K_X4_next_0 d 0 0 S C2 (fun r3 Sq C4 => Sq = S ∧ K_X4_sum_0 d 0 0 S C4 (fun r5 Sq C6 => Sq = S ∧ ((¬ r5 = 0 → K_X9_emit_0 d 0 0 r1 0 S C6 (fun r7 Sq C8 => Sq = S ∧ ((l1 = 0 → Q 1 S C8) ∧ (¬ l1 = 0 → K_X9_emit_0 d 0 0 11 0 S C8 (fun r9 Sq C10 => Sq = S ∧ Q 1 S C10))))) ∧ (r5 = 0 → Q 0 S C6)))))) : K_X4_plain_146 (d + 1) mc ms l1 S C Q := by
  show Wp (d + 1) mc ms M_X4_plain 146 [cA 29, cI l1, cU] [] S C Q
  refine wp_aload_n (nx := 147) dX4_plain_146 rfl rfl ?_
  refine wp_getIe (kk := 8) 8 (nx := 150) clsX4 dX4_plain_147 rfl kF_X4_56 (by decide) (fo_29 F) (ft_29 F) rfl rfl rfl ?_
  refine wp_invS (nx := 153) (N := M_X4_comparison) (as := [cI (C 29 8)]) (st := []) (mc := 0) (ms := 0) (mc' := mc) (ms' := ms) dX4_plain_150 rfl mok_X4_comparison kM_X4_142 ks_X4_comparison rfl rfl (leB rfl) (leB rfl) (z0 _) (z0 _) (Wp.mono h ?_)
  intro r1 Sq C2 h
  obtain ⟨e9, h⟩ := h
  rw [e9]
  show Wp (d + 1) mc ms M_X4_plain 153 [cA 29, cI l1, cU] [cI r1] S C2 Q
  refine wp_istore_n (nx := 154) dX4_plain_153 rfl (by decide) ?_
  refine wp_ls (ls2 := [cA 29, cI l1, cI r1]) rfl ?_
  refine wp_aload_n (nx := 155) dX4_plain_154 rfl rfl ?_
  refine wp_invV (nx := 158) (N := M_X4_next) (as := []) (st := []) (mc := 0) (ms := 0) (mc' := mc) (ms' := ms) (a := 29) clsX4 dX4_plain_155 rfl mok_X4_next kM_X4_72 ki_X4_next ke_X4_next (fo_29 F) (ft_29 F) rfl rfl (leB rfl) (leB rfl) (z0 _) (z0 _) (Wp.mono h ?_)
  intro r3 Sq C4 h
  obtain ⟨e9, h⟩ := h
  rw [e9]
  show Wp (d + 1) mc ms M_X4_plain 158 [cA 29, cI l1, cI r1] [] S C4 Q
  refine wp_aload_n (nx := 159) dX4_plain_158 rfl rfl ?_
  refine wp_invV (nx := 162) (N := M_X4_sum) (as := []) (st := []) (mc := 0) (ms := 0) (mc' := mc) (ms' := ms) (a := 29) clsX4 dX4_plain_159 rfl mok_X4_sum kM_X4_108 ki_X4_sum ke_X4_sum (fo_29 F) (ft_29 F) rfl rfl (leB rfl) (leB rfl) (z0 _) (z0 _) (Wp.mono h ?_)
  intro r5 Sq C6 h
  obtain ⟨e9, h⟩ := h
  rw [e9]
  show Wp (d + 1) mc ms M_X4_plain 162 [cA 29, cI l1, cI r1] [cI r5] S C6 Q
  refine wp_if_ne (nx := 165) (tg := 167) dX4_plain_162 rfl rfl (fun hc => ?_) (fun hc => ?_)
  · have h := h.1 hc
    refine wp_aload_n (nx := 168) dX4_plain_167 rfl rfl ?_
    refine wp_getAe (kk := 0) (nx := 171) clsX4 dX4_plain_168 rfl kF_X4_14 (by decide) (fo_29 F) (ft_29 F) rfl (fp_29_0 F) ?_
    refine wp_iload_n (nx := 172) dX4_plain_171 rfl rfl ?_
    refine wp_iconst (nx := 173) dX4_plain_172 rfl (i32 (by decide)) ?_
    refine wp_invV (nx := 176) (N := M_X9_emit) (as := [cI r1, cI 0]) (st := []) (mc := 0) (ms := 0) (mc' := mc) (ms' := ms) (a := 30) clsX9 dX4_plain_173 rfl mok_X9_emit kM_X4_112 ki_X9_emit ke_X9_emit (fo_30 F) (ft_30 F) rfl rfl (leB rfl) (leB rfl) (z0 _) (z0 _) (Wp.mono h ?_)
    intro r7 Sq C8 h
    obtain ⟨e9, h⟩ := h
    rw [e9]
    show Wp (d + 1) mc ms M_X4_plain 176 [cA 29, cI l1, cI r1] [] S C8 Q
    refine wp_iload_n (nx := 177) dX4_plain_176 rfl rfl ?_
    refine wp_if_eq (nx := 180) (tg := 190) dX4_plain_177 rfl rfl (fun hc => ?_) (fun hc => ?_)
    · have h := h.1 hc
      refine wp_iconst (nx := 191) dX4_plain_190 rfl (i32 (by decide)) ?_
      exact wp_ireturn dX4_plain_191 rfl rfl (nz_of (Or.inr rfl)) h
    · have h := h.2 hc
      refine wp_aload_n (nx := 181) dX4_plain_180 rfl rfl ?_
      refine wp_getAe (kk := 0) (nx := 184) clsX4 dX4_plain_181 rfl kF_X4_14 (by decide) (fo_29 F) (ft_29 F) rfl (fp_29_0 F) ?_
      refine wp_bipush (nx := 186) dX4_plain_184 rfl ⟨by decide, i32 (by decide)⟩ ?_
      refine wp_iconst (nx := 187) dX4_plain_186 rfl (i32 (by decide)) ?_
      refine wp_invV (nx := 190) (N := M_X9_emit) (as := [cI 11, cI 0]) (st := []) (mc := 0) (ms := 0) (mc' := mc) (ms' := ms) (a := 30) clsX9 dX4_plain_187 rfl mok_X9_emit kM_X4_112 ki_X9_emit ke_X9_emit (fo_30 F) (ft_30 F) rfl rfl (leB rfl) (leB rfl) (z0 _) (z0 _) (Wp.mono h ?_)
      intro r9 Sq C10 h
      obtain ⟨e9, h⟩ := h
      rw [e9]
      show Wp (d + 1) mc ms M_X4_plain 190 [cA 29, cI l1, cI r1] [] S C10 Q
      refine wp_iconst (nx := 191) dX4_plain_190 rfl (i32 (by decide)) ?_
      exact wp_ireturn dX4_plain_191 rfl rfl (nz_of (Or.inr rfl)) h
  · have h := h.2 hc
    refine wp_iconst (nx := 166) dX4_plain_165 rfl (i32 (by decide)) ?_
    exact wp_ireturn dX4_plain_166 rfl rfl (nz_of (Or.inl rfl)) h
theorem b_X4_sum_0 {d mc ms : Nat} {S : MS} {C : MC} {Q : Int → MS → MC → Prop} (F : Fix S) (h : K_X4_product_0 d 0 0 S C (fun r1 Sq C2 => Sq = S ∧ ((¬ r1 = 0 → K_X4_sum_11 (d + 1) mc ms 0 S C2 Q) ∧ (r1 = 0 → Q 0 S C2)))) : K_X4_sum_0 (d + 1) mc ms S C Q := by
  show Wp (d + 1) mc ms M_X4_sum 0 [cA 29, cU, cU] [] S C Q
  refine wp_aload_n (nx := 1) dX4_sum_0 rfl rfl ?_
  refine wp_invV (nx := 4) (N := M_X4_product) (as := []) (st := []) (mc := 0) (ms := 0) (mc' := mc) (ms' := ms) (a := 29) clsX4 dX4_sum_1 rfl mok_X4_product kM_X4_145 ki_X4_product ke_X4_product (fo_29 F) (ft_29 F) rfl rfl (leB rfl) (leB rfl) (z0 _) (z0 _) (Wp.mono h ?_)
  intro r1 Sq C2 h
  obtain ⟨e9, h⟩ := h
  rw [e9]
  show Wp (d + 1) mc ms M_X4_sum 4 [cA 29, cU, cU] [cI r1] S C2 Q
  refine wp_if_ne (nx := 7) (tg := 9) dX4_sum_4 rfl rfl (fun hc => ?_) (fun hc => ?_)
  · have h := h.1 hc
    refine wp_iconst (nx := 10) dX4_sum_9 rfl (i32 (by decide)) ?_
    refine wp_istore_n (nx := 11) dX4_sum_10 rfl (by decide) ?_
    refine wp_ls (ls2 := [cA 29, cI 0, cU]) rfl ?_
    exact h
  · have h := h.2 hc
    refine wp_iconst (nx := 8) dX4_sum_7 rfl (i32 (by decide)) ?_
    exact wp_ireturn dX4_sum_8 rfl rfl (nz_of (Or.inl rfl)) h
theorem b_X4_sum_11 {d mc ms : Nat} {l1 : Int} {S : MS} {C : MC} {Q : Int → MS → MC → Prop} (F : Fix S) (h : ((400 ≤ l1 → Q 1 S C) ∧ (¬ 400 ≤ l1 → ((C 29 8 = 43 → K_X4_sum_36 (d + 1) mc ms l1 S C Q) ∧ (¬ C 29 8 = 43 → ((¬ C 29 8 = 45 → Q 1 S C) ∧ (C 29 8 = 45 → K_X4_sum_36 (d + 1) mc ms l1 S C Q))))))) : K_X4_sum_11 (d + 1) mc ms l1 S C Q := by
  show Wp (d + 1) mc ms M_X4_sum 11 [cA 29, cI l1, cU] [] S C Q
  refine wp_iload_n (nx := 12) dX4_sum_11 rfl rfl ?_
  refine wp_sipush (nx := 15) dX4_sum_12 rfl ⟨by decide, i32 (by decide)⟩ ?_
  refine wp_icmp_ge (nx := 18) (tg := 79) dX4_sum_15 rfl rfl (fun hc => ?_) (fun hc => ?_)
  · have h := h.1 hc
    refine wp_iconst (nx := 80) dX4_sum_79 rfl (i32 (by decide)) ?_
    exact wp_ireturn dX4_sum_80 rfl rfl (nz_of (Or.inr rfl)) h
  · have h := h.2 hc
    refine wp_aload_n (nx := 19) dX4_sum_18 rfl rfl ?_
    refine wp_getIe (kk := 8) 8 (nx := 22) clsX4 dX4_sum_19 rfl kF_X4_56 (by decide) (fo_29 F) (ft_29 F) rfl rfl rfl ?_
    refine wp_bipush (nx := 24) dX4_sum_22 rfl ⟨by decide, i32 (by decide)⟩ ?_
    refine wp_icmp_eq (nx := 27) (tg := 36) dX4_sum_24 rfl rfl (fun hc => ?_) (fun hc => ?_)
    · have h := h.1 hc
      exact h
    · have h := h.2 hc
      refine wp_aload_n (nx := 28) dX4_sum_27 rfl rfl ?_
      refine wp_getIe (kk := 8) 8 (nx := 31) clsX4 dX4_sum_28 rfl kF_X4_56 (by decide) (fo_29 F) (ft_29 F) rfl rfl rfl ?_
      refine wp_bipush (nx := 33) dX4_sum_31 rfl ⟨by decide, i32 (by decide)⟩ ?_
      refine wp_icmp_ne (nx := 36) (tg := 79) dX4_sum_33 rfl rfl (fun hc => ?_) (fun hc => ?_)
      · have h := h.1 hc
        refine wp_iconst (nx := 80) dX4_sum_79 rfl (i32 (by decide)) ?_
        exact wp_ireturn dX4_sum_80 rfl rfl (nz_of (Or.inr rfl)) h
      · have h := h.2 hc
        exact h
theorem b_X4_sum_36 {d mc ms : Nat} {l1 : Int} {S : MS} {C : MC} {Q : Int → MS → MC → Prop} (F : Fix S) (h : ((¬ C 29 8 = 43 → K_X4_next_0 d 0 0 S C (fun r1 Sq C2 => Sq = S ∧ K_X4_product_0 d 0 0 S C2 (fun r3 Sq C4 => Sq = S ∧ ((¬ r3 = 0 → K_X9_emit_0 d 0 0 4 0 S C4 (fun r5 Sq C6 => Sq = S ∧ K_X4_sum_11 (d + 1) mc ms (w32 (l1 + 1)) S C6 Q)) ∧ (r3 = 0 → Q 0 S C4))))) ∧ (C 29 8 = 43 → K_X4_next_0 d 0 0 S C (fun r7 Sq C8 => Sq = S ∧ K_X4_product_0 d 0 0 S C8 (fun r9 Sq C10 => Sq = S ∧ ((¬ r9 = 0 → K_X9_emit_0 d 0 0 3 0 S C10 (fun r11 Sq C12 => Sq = S ∧ K_X4_sum_11 (d + 1) mc ms (w32 (l1 + 1)) S C12 Q)) ∧ (r9 = 0 → Q 0 S C10))))))) : K_X4_sum_36 (d + 1) mc ms l1 S C Q := by
  show Wp (d + 1) mc ms M_X4_sum 36 [cA 29, cI l1, cU] [] S C Q
  refine wp_aload_n (nx := 37) dX4_sum_36 rfl rfl ?_
  refine wp_getIe (kk := 8) 8 (nx := 40) clsX4 dX4_sum_37 rfl kF_X4_56 (by decide) (fo_29 F) (ft_29 F) rfl rfl rfl ?_
  refine wp_bipush (nx := 42) dX4_sum_40 rfl ⟨by decide, i32 (by decide)⟩ ?_
  refine wp_icmp_ne (nx := 45) (tg := 49) dX4_sum_42 rfl rfl (fun hc => ?_) (fun hc => ?_)
  · have h := h.1 hc
    refine wp_iconst (nx := 50) dX4_sum_49 rfl (i32 (by decide)) ?_
    refine wp_istore_n (nx := 51) dX4_sum_50 rfl (by decide) ?_
    refine wp_ls (ls2 := [cA 29, cI l1, cI 4]) rfl ?_
    refine wp_aload_n (nx := 52) dX4_sum_51 rfl rfl ?_
    refine wp_invV (nx := 55) (N := M_X4_next) (as := []) (st := []) (mc := 0) (ms := 0) (mc' := mc) (ms' := ms) (a := 29) clsX4 dX4_sum_52 rfl mok_X4_next kM_X4_72 ki_X4_next ke_X4_next (fo_29 F) (ft_29 F) rfl rfl (leB rfl) (leB rfl) (z0 _) (z0 _) (Wp.mono h ?_)
    intro r1 Sq C2 h
    obtain ⟨e9, h⟩ := h
    rw [e9]
    show Wp (d + 1) mc ms M_X4_sum 55 [cA 29, cI l1, cI 4] [] S C2 Q
    refine wp_aload_n (nx := 56) dX4_sum_55 rfl rfl ?_
    refine wp_invV (nx := 59) (N := M_X4_product) (as := []) (st := []) (mc := 0) (ms := 0) (mc' := mc) (ms' := ms) (a := 29) clsX4 dX4_sum_56 rfl mok_X4_product kM_X4_145 ki_X4_product ke_X4_product (fo_29 F) (ft_29 F) rfl rfl (leB rfl) (leB rfl) (z0 _) (z0 _) (Wp.mono h ?_)
    intro r3 Sq C4 h
    obtain ⟨e9, h⟩ := h
    rw [e9]
    show Wp (d + 1) mc ms M_X4_sum 59 [cA 29, cI l1, cI 4] [cI r3] S C4 Q
    refine wp_if_ne (nx := 62) (tg := 64) dX4_sum_59 rfl rfl (fun hc => ?_) (fun hc => ?_)
    · have h := h.1 hc
      refine wp_aload_n (nx := 65) dX4_sum_64 rfl rfl ?_
      refine wp_getAe (kk := 0) (nx := 68) clsX4 dX4_sum_65 rfl kF_X4_14 (by decide) (fo_29 F) (ft_29 F) rfl (fp_29_0 F) ?_
      refine wp_iload_n (nx := 69) dX4_sum_68 rfl rfl ?_
      refine wp_iconst (nx := 70) dX4_sum_69 rfl (i32 (by decide)) ?_
      refine wp_invV (nx := 73) (N := M_X9_emit) (as := [cI 4, cI 0]) (st := []) (mc := 0) (ms := 0) (mc' := mc) (ms' := ms) (a := 30) clsX9 dX4_sum_70 rfl mok_X9_emit kM_X4_112 ki_X9_emit ke_X9_emit (fo_30 F) (ft_30 F) rfl rfl (leB rfl) (leB rfl) (z0 _) (z0 _) (Wp.mono h ?_)
      intro r5 Sq C6 h
      obtain ⟨e9, h⟩ := h
      rw [e9]
      show Wp (d + 1) mc ms M_X4_sum 73 [cA 29, cI l1, cI 4] [] S C6 Q
      refine wp_iinc (nx := 76) dX4_sum_73 rfl rfl (by decide) ?_
      refine wp_ls (ls2 := [cA 29, cI (w32 (l1 + 1)), cI 4]) rfl ?_
      refine wp_goto (nx := 11) dX4_sum_76 rfl ?_
      refine wp_fg [true, true, false] (ls2 := [cA 29, cI (w32 (l1 + 1)), cU]) rfl ?_
      exact h
    · have h := h.2 hc
      refine wp_iconst (nx := 63) dX4_sum_62 rfl (i32 (by decide)) ?_
      exact wp_ireturn dX4_sum_63 rfl rfl (nz_of (Or.inl rfl)) h
  · have h := h.2 hc
    refine wp_iconst (nx := 46) dX4_sum_45 rfl (i32 (by decide)) ?_
    refine wp_goto (nx := 50) dX4_sum_46 rfl ?_
    refine wp_istore_n (nx := 51) dX4_sum_50 rfl (by decide) ?_
    refine wp_ls (ls2 := [cA 29, cI l1, cI 3]) rfl ?_
    refine wp_aload_n (nx := 52) dX4_sum_51 rfl rfl ?_
    refine wp_invV (nx := 55) (N := M_X4_next) (as := []) (st := []) (mc := 0) (ms := 0) (mc' := mc) (ms' := ms) (a := 29) clsX4 dX4_sum_52 rfl mok_X4_next kM_X4_72 ki_X4_next ke_X4_next (fo_29 F) (ft_29 F) rfl rfl (leB rfl) (leB rfl) (z0 _) (z0 _) (Wp.mono h ?_)
    intro r7 Sq C8 h
    obtain ⟨e9, h⟩ := h
    rw [e9]
    show Wp (d + 1) mc ms M_X4_sum 55 [cA 29, cI l1, cI 3] [] S C8 Q
    refine wp_aload_n (nx := 56) dX4_sum_55 rfl rfl ?_
    refine wp_invV (nx := 59) (N := M_X4_product) (as := []) (st := []) (mc := 0) (ms := 0) (mc' := mc) (ms' := ms) (a := 29) clsX4 dX4_sum_56 rfl mok_X4_product kM_X4_145 ki_X4_product ke_X4_product (fo_29 F) (ft_29 F) rfl rfl (leB rfl) (leB rfl) (z0 _) (z0 _) (Wp.mono h ?_)
    intro r9 Sq C10 h
    obtain ⟨e9, h⟩ := h
    rw [e9]
    show Wp (d + 1) mc ms M_X4_sum 59 [cA 29, cI l1, cI 3] [cI r9] S C10 Q
    refine wp_if_ne (nx := 62) (tg := 64) dX4_sum_59 rfl rfl (fun hc => ?_) (fun hc => ?_)
    · have h := h.1 hc
      refine wp_aload_n (nx := 65) dX4_sum_64 rfl rfl ?_
      refine wp_getAe (kk := 0) (nx := 68) clsX4 dX4_sum_65 rfl kF_X4_14 (by decide) (fo_29 F) (ft_29 F) rfl (fp_29_0 F) ?_
      refine wp_iload_n (nx := 69) dX4_sum_68 rfl rfl ?_
      refine wp_iconst (nx := 70) dX4_sum_69 rfl (i32 (by decide)) ?_
      refine wp_invV (nx := 73) (N := M_X9_emit) (as := [cI 3, cI 0]) (st := []) (mc := 0) (ms := 0) (mc' := mc) (ms' := ms) (a := 30) clsX9 dX4_sum_70 rfl mok_X9_emit kM_X4_112 ki_X9_emit ke_X9_emit (fo_30 F) (ft_30 F) rfl rfl (leB rfl) (leB rfl) (z0 _) (z0 _) (Wp.mono h ?_)
      intro r11 Sq C12 h
      obtain ⟨e9, h⟩ := h
      rw [e9]
      show Wp (d + 1) mc ms M_X4_sum 73 [cA 29, cI l1, cI 3] [] S C12 Q
      refine wp_iinc (nx := 76) dX4_sum_73 rfl rfl (by decide) ?_
      refine wp_ls (ls2 := [cA 29, cI (w32 (l1 + 1)), cI 3]) rfl ?_
      refine wp_goto (nx := 11) dX4_sum_76 rfl ?_
      refine wp_fg [true, true, false] (ls2 := [cA 29, cI (w32 (l1 + 1)), cU]) rfl ?_
      exact h
    · have h := h.2 hc
      refine wp_iconst (nx := 63) dX4_sum_62 rfl (i32 (by decide)) ?_
      exact wp_ireturn dX4_sum_63 rfl rfl (nz_of (Or.inl rfl)) h
theorem b_X4_product_0 {d mc ms : Nat} {S : MS} {C : MC} {Q : Int → MS → MC → Prop} (F : Fix S) (h : K_X4_part_0 d 0 0 S C (fun r1 Sq C2 => Sq = S ∧ ((¬ r1 = 0 → K_X4_product_11 (d + 1) mc ms 0 S C2 Q) ∧ (r1 = 0 → Q 0 S C2)))) : K_X4_product_0 (d + 1) mc ms S C Q := by
  show Wp (d + 1) mc ms M_X4_product 0 [cA 29, cU, cU] [] S C Q
  refine wp_aload_n (nx := 1) dX4_product_0 rfl rfl ?_
  refine wp_invV (nx := 4) (N := M_X4_part) (as := []) (st := []) (mc := 0) (ms := 0) (mc' := mc) (ms' := ms) (a := 29) clsX4 dX4_product_1 rfl mok_X4_part kM_X4_148 ki_X4_part ke_X4_part (fo_29 F) (ft_29 F) rfl rfl (leB rfl) (leB rfl) (z0 _) (z0 _) (Wp.mono h ?_)
  intro r1 Sq C2 h
  obtain ⟨e9, h⟩ := h
  rw [e9]
  show Wp (d + 1) mc ms M_X4_product 4 [cA 29, cU, cU] [cI r1] S C2 Q
  refine wp_if_ne (nx := 7) (tg := 9) dX4_product_4 rfl rfl (fun hc => ?_) (fun hc => ?_)
  · have h := h.1 hc
    refine wp_iconst (nx := 10) dX4_product_9 rfl (i32 (by decide)) ?_
    refine wp_istore_n (nx := 11) dX4_product_10 rfl (by decide) ?_
    refine wp_ls (ls2 := [cA 29, cI 0, cU]) rfl ?_
    exact h
  · have h := h.2 hc
    refine wp_iconst (nx := 8) dX4_product_7 rfl (i32 (by decide)) ?_
    exact wp_ireturn dX4_product_8 rfl rfl (nz_of (Or.inl rfl)) h
theorem b_X4_product_11 {d mc ms : Nat} {l1 : Int} {S : MS} {C : MC} {Q : Int → MS → MC → Prop} (F : Fix S) (h : ((400 ≤ l1 → Q 1 S C) ∧ (¬ 400 ≤ l1 → ((C 29 8 = 42 → K_X4_multiplication_0 d 0 0 (C 29 8) S C (fun r1 Sq C2 => Sq = S ∧ K_X4_next_0 d 0 0 S C2 (fun r3 Sq C4 => Sq = S ∧ K_X4_part_0 d 0 0 S C4 (fun r5 Sq C6 => Sq = S ∧ ((¬ r5 = 0 → K_X9_emit_0 d 0 0 r1 0 S C6 (fun r7 Sq C8 => Sq = S ∧ K_X4_product_11 (d + 1) mc ms (w32 (l1 + 1)) S C8 Q)) ∧ (r5 = 0 → Q 0 S C6)))))) ∧ (¬ C 29 8 = 42 → ((C 29 8 = 47 → K_X4_multiplication_0 d 0 0 (C 29 8) S C (fun r9 Sq C10 => Sq = S ∧ K_X4_next_0 d 0 0 S C10 (fun r11 Sq C12 => Sq = S ∧ K_X4_part_0 d 0 0 S C12 (fun r13 Sq C14 => Sq = S ∧ ((¬ r13 = 0 → K_X9_emit_0 d 0 0 r9 0 S C14 (fun r15 Sq C16 => Sq = S ∧ K_X4_product_11 (d + 1) mc ms (w32 (l1 + 1)) S C16 Q)) ∧ (r13 = 0 → Q 0 S C14)))))) ∧ (¬ C 29 8 = 47 → ((¬ C 29 8 = 37 → Q 1 S C) ∧ (C 29 8 = 37 → K_X4_multiplication_0 d 0 0 (C 29 8) S C (fun r17 Sq C18 => Sq = S ∧ K_X4_next_0 d 0 0 S C18 (fun r19 Sq C20 => Sq = S ∧ K_X4_part_0 d 0 0 S C20 (fun r21 Sq C22 => Sq = S ∧ ((¬ r21 = 0 → K_X9_emit_0 d 0 0 r17 0 S C22 (fun r23 Sq C24 => Sq = S ∧ K_X4_product_11 (d + 1) mc ms (w32 (l1 + 1)) S C24 Q)) ∧ (r21 = 0 → Q 0 S C22)))))))))))))) : K_X4_product_11 (d + 1) mc ms l1 S C Q := by
  show Wp (d + 1) mc ms M_X4_product 11 [cA 29, cI l1, cU] [] S C Q
  refine wp_iload_n (nx := 12) dX4_product_11 rfl rfl ?_
  refine wp_sipush (nx := 15) dX4_product_12 rfl ⟨by decide, i32 (by decide)⟩ ?_
  refine wp_icmp_ge (nx := 18) (tg := 81) dX4_product_15 rfl rfl (fun hc => ?_) (fun hc => ?_)
  · have h := h.1 hc
    refine wp_iconst (nx := 82) dX4_product_81 rfl (i32 (by decide)) ?_
    exact wp_ireturn dX4_product_82 rfl rfl (nz_of (Or.inr rfl)) h
  · have h := h.2 hc
    refine wp_aload_n (nx := 19) dX4_product_18 rfl rfl ?_
    refine wp_getIe (kk := 8) 8 (nx := 22) clsX4 dX4_product_19 rfl kF_X4_56 (by decide) (fo_29 F) (ft_29 F) rfl rfl rfl ?_
    refine wp_bipush (nx := 24) dX4_product_22 rfl ⟨by decide, i32 (by decide)⟩ ?_
    refine wp_icmp_eq (nx := 27) (tg := 45) dX4_product_24 rfl rfl (fun hc => ?_) (fun hc => ?_)
    · have h := h.1 hc
      refine wp_aload_n (nx := 46) dX4_product_45 rfl rfl ?_
      refine wp_getIe (kk := 8) 8 (nx := 49) clsX4 dX4_product_46 rfl kF_X4_56 (by decide) (fo_29 F) (ft_29 F) rfl rfl rfl ?_
      refine wp_invS (nx := 52) (N := M_X4_multiplication) (as := [cI (C 29 8)]) (st := []) (mc := 0) (ms := 0) (mc' := mc) (ms' := ms) dX4_product_49 rfl mok_X4_multiplication kM_X4_151 ks_X4_multiplication rfl rfl (leB rfl) (leB rfl) (z0 _) (z0 _) (Wp.mono h ?_)
      intro r1 Sq C2 h
      obtain ⟨e9, h⟩ := h
      rw [e9]
      show Wp (d + 1) mc ms M_X4_product 52 [cA 29, cI l1, cU] [cI r1] S C2 Q
      refine wp_istore_n (nx := 53) dX4_product_52 rfl (by decide) ?_
      refine wp_ls (ls2 := [cA 29, cI l1, cI r1]) rfl ?_
      refine wp_aload_n (nx := 54) dX4_product_53 rfl rfl ?_
      refine wp_invV (nx := 57) (N := M_X4_next) (as := []) (st := []) (mc := 0) (ms := 0) (mc' := mc) (ms' := ms) (a := 29) clsX4 dX4_product_54 rfl mok_X4_next kM_X4_72 ki_X4_next ke_X4_next (fo_29 F) (ft_29 F) rfl rfl (leB rfl) (leB rfl) (z0 _) (z0 _) (Wp.mono h ?_)
      intro r3 Sq C4 h
      obtain ⟨e9, h⟩ := h
      rw [e9]
      show Wp (d + 1) mc ms M_X4_product 57 [cA 29, cI l1, cI r1] [] S C4 Q
      refine wp_aload_n (nx := 58) dX4_product_57 rfl rfl ?_
      refine wp_invV (nx := 61) (N := M_X4_part) (as := []) (st := []) (mc := 0) (ms := 0) (mc' := mc) (ms' := ms) (a := 29) clsX4 dX4_product_58 rfl mok_X4_part kM_X4_148 ki_X4_part ke_X4_part (fo_29 F) (ft_29 F) rfl rfl (leB rfl) (leB rfl) (z0 _) (z0 _) (Wp.mono h ?_)
      intro r5 Sq C6 h
      obtain ⟨e9, h⟩ := h
      rw [e9]
      show Wp (d + 1) mc ms M_X4_product 61 [cA 29, cI l1, cI r1] [cI r5] S C6 Q
      refine wp_if_ne (nx := 64) (tg := 66) dX4_product_61 rfl rfl (fun hc => ?_) (fun hc => ?_)
      · have h := h.1 hc
        refine wp_aload_n (nx := 67) dX4_product_66 rfl rfl ?_
        refine wp_getAe (kk := 0) (nx := 70) clsX4 dX4_product_67 rfl kF_X4_14 (by decide) (fo_29 F) (ft_29 F) rfl (fp_29_0 F) ?_
        refine wp_iload_n (nx := 71) dX4_product_70 rfl rfl ?_
        refine wp_iconst (nx := 72) dX4_product_71 rfl (i32 (by decide)) ?_
        refine wp_invV (nx := 75) (N := M_X9_emit) (as := [cI r1, cI 0]) (st := []) (mc := 0) (ms := 0) (mc' := mc) (ms' := ms) (a := 30) clsX9 dX4_product_72 rfl mok_X9_emit kM_X4_112 ki_X9_emit ke_X9_emit (fo_30 F) (ft_30 F) rfl rfl (leB rfl) (leB rfl) (z0 _) (z0 _) (Wp.mono h ?_)
        intro r7 Sq C8 h
        obtain ⟨e9, h⟩ := h
        rw [e9]
        show Wp (d + 1) mc ms M_X4_product 75 [cA 29, cI l1, cI r1] [] S C8 Q
        refine wp_iinc (nx := 78) dX4_product_75 rfl rfl (by decide) ?_
        refine wp_ls (ls2 := [cA 29, cI (w32 (l1 + 1)), cI r1]) rfl ?_
        refine wp_goto (nx := 11) dX4_product_78 rfl ?_
        refine wp_fg [true, true, false] (ls2 := [cA 29, cI (w32 (l1 + 1)), cU]) rfl ?_
        exact h
      · have h := h.2 hc
        refine wp_iconst (nx := 65) dX4_product_64 rfl (i32 (by decide)) ?_
        exact wp_ireturn dX4_product_65 rfl rfl (nz_of (Or.inl rfl)) h
    · have h := h.2 hc
      refine wp_aload_n (nx := 28) dX4_product_27 rfl rfl ?_
      refine wp_getIe (kk := 8) 8 (nx := 31) clsX4 dX4_product_28 rfl kF_X4_56 (by decide) (fo_29 F) (ft_29 F) rfl rfl rfl ?_
      refine wp_bipush (nx := 33) dX4_product_31 rfl ⟨by decide, i32 (by decide)⟩ ?_
      refine wp_icmp_eq (nx := 36) (tg := 45) dX4_product_33 rfl rfl (fun hc => ?_) (fun hc => ?_)
      · have h := h.1 hc
        refine wp_aload_n (nx := 46) dX4_product_45 rfl rfl ?_
        refine wp_getIe (kk := 8) 8 (nx := 49) clsX4 dX4_product_46 rfl kF_X4_56 (by decide) (fo_29 F) (ft_29 F) rfl rfl rfl ?_
        refine wp_invS (nx := 52) (N := M_X4_multiplication) (as := [cI (C 29 8)]) (st := []) (mc := 0) (ms := 0) (mc' := mc) (ms' := ms) dX4_product_49 rfl mok_X4_multiplication kM_X4_151 ks_X4_multiplication rfl rfl (leB rfl) (leB rfl) (z0 _) (z0 _) (Wp.mono h ?_)
        intro r9 Sq C10 h
        obtain ⟨e9, h⟩ := h
        rw [e9]
        show Wp (d + 1) mc ms M_X4_product 52 [cA 29, cI l1, cU] [cI r9] S C10 Q
        refine wp_istore_n (nx := 53) dX4_product_52 rfl (by decide) ?_
        refine wp_ls (ls2 := [cA 29, cI l1, cI r9]) rfl ?_
        refine wp_aload_n (nx := 54) dX4_product_53 rfl rfl ?_
        refine wp_invV (nx := 57) (N := M_X4_next) (as := []) (st := []) (mc := 0) (ms := 0) (mc' := mc) (ms' := ms) (a := 29) clsX4 dX4_product_54 rfl mok_X4_next kM_X4_72 ki_X4_next ke_X4_next (fo_29 F) (ft_29 F) rfl rfl (leB rfl) (leB rfl) (z0 _) (z0 _) (Wp.mono h ?_)
        intro r11 Sq C12 h
        obtain ⟨e9, h⟩ := h
        rw [e9]
        show Wp (d + 1) mc ms M_X4_product 57 [cA 29, cI l1, cI r9] [] S C12 Q
        refine wp_aload_n (nx := 58) dX4_product_57 rfl rfl ?_
        refine wp_invV (nx := 61) (N := M_X4_part) (as := []) (st := []) (mc := 0) (ms := 0) (mc' := mc) (ms' := ms) (a := 29) clsX4 dX4_product_58 rfl mok_X4_part kM_X4_148 ki_X4_part ke_X4_part (fo_29 F) (ft_29 F) rfl rfl (leB rfl) (leB rfl) (z0 _) (z0 _) (Wp.mono h ?_)
        intro r13 Sq C14 h
        obtain ⟨e9, h⟩ := h
        rw [e9]
        show Wp (d + 1) mc ms M_X4_product 61 [cA 29, cI l1, cI r9] [cI r13] S C14 Q
        refine wp_if_ne (nx := 64) (tg := 66) dX4_product_61 rfl rfl (fun hc => ?_) (fun hc => ?_)
        · have h := h.1 hc
          refine wp_aload_n (nx := 67) dX4_product_66 rfl rfl ?_
          refine wp_getAe (kk := 0) (nx := 70) clsX4 dX4_product_67 rfl kF_X4_14 (by decide) (fo_29 F) (ft_29 F) rfl (fp_29_0 F) ?_
          refine wp_iload_n (nx := 71) dX4_product_70 rfl rfl ?_
          refine wp_iconst (nx := 72) dX4_product_71 rfl (i32 (by decide)) ?_
          refine wp_invV (nx := 75) (N := M_X9_emit) (as := [cI r9, cI 0]) (st := []) (mc := 0) (ms := 0) (mc' := mc) (ms' := ms) (a := 30) clsX9 dX4_product_72 rfl mok_X9_emit kM_X4_112 ki_X9_emit ke_X9_emit (fo_30 F) (ft_30 F) rfl rfl (leB rfl) (leB rfl) (z0 _) (z0 _) (Wp.mono h ?_)
          intro r15 Sq C16 h
          obtain ⟨e9, h⟩ := h
          rw [e9]
          show Wp (d + 1) mc ms M_X4_product 75 [cA 29, cI l1, cI r9] [] S C16 Q
          refine wp_iinc (nx := 78) dX4_product_75 rfl rfl (by decide) ?_
          refine wp_ls (ls2 := [cA 29, cI (w32 (l1 + 1)), cI r9]) rfl ?_
          refine wp_goto (nx := 11) dX4_product_78 rfl ?_
          refine wp_fg [true, true, false] (ls2 := [cA 29, cI (w32 (l1 + 1)), cU]) rfl ?_
          exact h
        · have h := h.2 hc
          refine wp_iconst (nx := 65) dX4_product_64 rfl (i32 (by decide)) ?_
          exact wp_ireturn dX4_product_65 rfl rfl (nz_of (Or.inl rfl)) h
      · have h := h.2 hc
        refine wp_aload_n (nx := 37) dX4_product_36 rfl rfl ?_
        refine wp_getIe (kk := 8) 8 (nx := 40) clsX4 dX4_product_37 rfl kF_X4_56 (by decide) (fo_29 F) (ft_29 F) rfl rfl rfl ?_
        refine wp_bipush (nx := 42) dX4_product_40 rfl ⟨by decide, i32 (by decide)⟩ ?_
        refine wp_icmp_ne (nx := 45) (tg := 81) dX4_product_42 rfl rfl (fun hc => ?_) (fun hc => ?_)
        · have h := h.1 hc
          refine wp_iconst (nx := 82) dX4_product_81 rfl (i32 (by decide)) ?_
          exact wp_ireturn dX4_product_82 rfl rfl (nz_of (Or.inr rfl)) h
        · have h := h.2 hc
          refine wp_aload_n (nx := 46) dX4_product_45 rfl rfl ?_
          refine wp_getIe (kk := 8) 8 (nx := 49) clsX4 dX4_product_46 rfl kF_X4_56 (by decide) (fo_29 F) (ft_29 F) rfl rfl rfl ?_
          refine wp_invS (nx := 52) (N := M_X4_multiplication) (as := [cI (C 29 8)]) (st := []) (mc := 0) (ms := 0) (mc' := mc) (ms' := ms) dX4_product_49 rfl mok_X4_multiplication kM_X4_151 ks_X4_multiplication rfl rfl (leB rfl) (leB rfl) (z0 _) (z0 _) (Wp.mono h ?_)
          intro r17 Sq C18 h
          obtain ⟨e9, h⟩ := h
          rw [e9]
          show Wp (d + 1) mc ms M_X4_product 52 [cA 29, cI l1, cU] [cI r17] S C18 Q
          refine wp_istore_n (nx := 53) dX4_product_52 rfl (by decide) ?_
          refine wp_ls (ls2 := [cA 29, cI l1, cI r17]) rfl ?_
          refine wp_aload_n (nx := 54) dX4_product_53 rfl rfl ?_
          refine wp_invV (nx := 57) (N := M_X4_next) (as := []) (st := []) (mc := 0) (ms := 0) (mc' := mc) (ms' := ms) (a := 29) clsX4 dX4_product_54 rfl mok_X4_next kM_X4_72 ki_X4_next ke_X4_next (fo_29 F) (ft_29 F) rfl rfl (leB rfl) (leB rfl) (z0 _) (z0 _) (Wp.mono h ?_)
          intro r19 Sq C20 h
          obtain ⟨e9, h⟩ := h
          rw [e9]
          show Wp (d + 1) mc ms M_X4_product 57 [cA 29, cI l1, cI r17] [] S C20 Q
          refine wp_aload_n (nx := 58) dX4_product_57 rfl rfl ?_
          refine wp_invV (nx := 61) (N := M_X4_part) (as := []) (st := []) (mc := 0) (ms := 0) (mc' := mc) (ms' := ms) (a := 29) clsX4 dX4_product_58 rfl mok_X4_part kM_X4_148 ki_X4_part ke_X4_part (fo_29 F) (ft_29 F) rfl rfl (leB rfl) (leB rfl) (z0 _) (z0 _) (Wp.mono h ?_)
          intro r21 Sq C22 h
          obtain ⟨e9, h⟩ := h
          rw [e9]
          show Wp (d + 1) mc ms M_X4_product 61 [cA 29, cI l1, cI r17] [cI r21] S C22 Q
          refine wp_if_ne (nx := 64) (tg := 66) dX4_product_61 rfl rfl (fun hc => ?_) (fun hc => ?_)
          · have h := h.1 hc
            refine wp_aload_n (nx := 67) dX4_product_66 rfl rfl ?_
            refine wp_getAe (kk := 0) (nx := 70) clsX4 dX4_product_67 rfl kF_X4_14 (by decide) (fo_29 F) (ft_29 F) rfl (fp_29_0 F) ?_
            refine wp_iload_n (nx := 71) dX4_product_70 rfl rfl ?_
            refine wp_iconst (nx := 72) dX4_product_71 rfl (i32 (by decide)) ?_
            refine wp_invV (nx := 75) (N := M_X9_emit) (as := [cI r17, cI 0]) (st := []) (mc := 0) (ms := 0) (mc' := mc) (ms' := ms) (a := 30) clsX9 dX4_product_72 rfl mok_X9_emit kM_X4_112 ki_X9_emit ke_X9_emit (fo_30 F) (ft_30 F) rfl rfl (leB rfl) (leB rfl) (z0 _) (z0 _) (Wp.mono h ?_)
            intro r23 Sq C24 h
            obtain ⟨e9, h⟩ := h
            rw [e9]
            show Wp (d + 1) mc ms M_X4_product 75 [cA 29, cI l1, cI r17] [] S C24 Q
            refine wp_iinc (nx := 78) dX4_product_75 rfl rfl (by decide) ?_
            refine wp_ls (ls2 := [cA 29, cI (w32 (l1 + 1)), cI r17]) rfl ?_
            refine wp_goto (nx := 11) dX4_product_78 rfl ?_
            refine wp_fg [true, true, false] (ls2 := [cA 29, cI (w32 (l1 + 1)), cU]) rfl ?_
            exact h
          · have h := h.2 hc
            refine wp_iconst (nx := 65) dX4_product_64 rfl (i32 (by decide)) ?_
            exact wp_ireturn dX4_product_65 rfl rfl (nz_of (Or.inl rfl)) h
theorem b_X4_part_0 {d mc ms : Nat} {S : MS} {C : MC} {Q : Int → MS → MC → Prop} (F : Fix S) (h : ((¬ C 29 8 = 91 → ((C 29 9 < 50 → ((¬ C 29 8 = 284 → ((C 29 6 = 0 → K_X4_readRuleWord_0 d 0 0 S ((upC C 29 9 (w32 ((C 29 9) + 1)))) (fun r1 Sq C2 => Sq = S ∧ ((r1 = 0 ∨ r1 = 1) ∧ Q r1 S C2))) ∧ (¬ C 29 6 = 0 → K_X4_readOrderWord_0 d 0 0 S ((upC C 29 9 (w32 ((C 29 9) + 1)))) (fun r3 Sq C4 => Sq = S ∧ ((r3 = 0 ∨ r3 = 1) ∧ Q r3 S C4))))) ∧ (C 29 8 = 284 → ((0 : Int) ≤ C 29 7 ∧ C 29 7 < 401) ∧ ((1000 < C 39 (C 29 7) → ((C 29 6 = 0 → K_X4_readRuleWord_0 d 0 0 S ((upC C 29 9 (w32 ((C 29 9) + 1)))) (fun r5 Sq C6 => Sq = S ∧ ((r5 = 0 ∨ r5 = 1) ∧ Q r5 S C6))) ∧ (¬ C 29 6 = 0 → K_X4_readOrderWord_0 d 0 0 S ((upC C 29 9 (w32 ((C 29 9) + 1)))) (fun r7 Sq C8 => Sq = S ∧ ((r7 = 0 ∨ r7 = 1) ∧ Q r7 S C8))))) ∧ (¬ 1000 < C 39 (C 29 7) → ((0 : Int) ≤ C 29 7 ∧ C 29 7 < 401) ∧ K_X9_emit_0 d 0 0 1 (C 39 (C 29 7)) S ((upC C 29 9 (w32 ((C 29 9) + 1)))) (fun r9 Sq C10 => Sq = S ∧ K_X4_next_0 d 0 0 S C10 (fun r11 Sq C12 => Sq = S ∧ Q 1 S C12))))))) ∧ (¬ C 29 9 < 50 → Q 0 S C))) ∧ (C 29 8 = 91 → ((C 29 10 < 8 → K_X4_next_0 d 0 0 S ((upC C 29 10 (w32 ((C 29 10) + 1)))) (fun r13 Sq C14 => Sq = S ∧ K_X4_sum_0 d 0 0 S C14 (fun r15 Sq C16 => Sq = S ∧ ((r15 = 0 → Q 0 S C16) ∧ (¬ r15 = 0 → ((C16 29 8 = 93 → K_X4_next_0 d 0 0 S ((upC C16 29 10 (w32 ((C16 29 10) - 1)))) (fun r17 Sq C18 => Sq = S ∧ Q 1 S C18)) ∧ (¬ C16 29 8 = 93 → Q 0 S C16))))))) ∧ (¬ C 29 10 < 8 → Q 0 S C))))) : K_X4_part_0 (d + 1) mc ms S C Q := by
  show Wp (d + 1) mc ms M_X4_part 0 [cA 29] [] S C Q
  refine wp_aload_n (nx := 1) dX4_part_0 rfl rfl ?_
  refine wp_getIe (kk := 8) 8 (nx := 4) clsX4 dX4_part_1 rfl kF_X4_56 (by decide) (fo_29 F) (ft_29 F) rfl rfl rfl ?_
  refine wp_bipush (nx := 6) dX4_part_4 rfl ⟨by decide, i32 (by decide)⟩ ?_
  refine wp_icmp_ne (nx := 9) (tg := 68) dX4_part_6 rfl rfl (fun hc => ?_) (fun hc => ?_)
  · have h := h.1 hc
    refine wp_aload_n (nx := 69) dX4_part_68 rfl rfl ?_
    refine wp_getIe (kk := 9) 9 (nx := 72) clsX4 dX4_part_69 rfl kF_X4_59 (by decide) (fo_29 F) (ft_29 F) rfl rfl rfl ?_
    refine wp_bipush (nx := 74) dX4_part_72 rfl ⟨by decide, i32 (by decide)⟩ ?_
    refine wp_icmp_lt (nx := 77) (tg := 79) dX4_part_74 rfl rfl (fun hc => ?_) (fun hc => ?_)
    · have h := h.1 hc
      refine wp_aload_n (nx := 80) dX4_part_79 rfl rfl ?_
      refine wp_dup (nx := 81) dX4_part_80 rfl (k1A _) ?_
      refine wp_getIe (kk := 9) 9 (nx := 84) clsX4 dX4_part_81 rfl kF_X4_59 (by decide) (fo_29 F) (ft_29 F) rfl rfl rfl ?_
      refine wp_iconst (nx := 85) dX4_part_84 rfl (i32 (by decide)) ?_
      refine wp_iadd (nx := 86) dX4_part_85 rfl ?_
      refine wp_putIe (kk := 9) 9 (nx := 89) clsX4 dX4_part_86 rfl kF_X4_59 (by decide) (fo_29 F) (ft_29 F) rfl rfl ⟨rfl, rfl⟩ rfl ?_
      refine wp_aload_n (nx := 90) dX4_part_89 rfl rfl ?_
      refine wp_getIe (kk := 8) 8 (nx := 93) clsX4 dX4_part_90 rfl kF_X4_56 (by decide) (fo_29 F) (ft_29 F) rfl rfl (upC_sK (by decide)) ?_
      refine wp_sipush (nx := 96) dX4_part_93 rfl ⟨by decide, i32 (by decide)⟩ ?_
      refine wp_icmp_ne (nx := 99) (tg := 137) dX4_part_96 rfl rfl (fun hc => ?_) (fun hc => ?_)
      · have h := h.1 hc
        refine wp_aload_n (nx := 138) dX4_part_137 rfl rfl ?_
        refine wp_getIe (kk := 6) 6 (nx := 141) clsX4 dX4_part_138 rfl kF_X4_49 (by decide) (fo_29 F) (ft_29 F) rfl rfl (upC_sK (by decide)) ?_
        refine wp_if_eq (nx := 144) (tg := 151) dX4_part_141 rfl rfl (fun hc => ?_) (fun hc => ?_)
        · have h := h.1 hc
          refine wp_aload_n (nx := 152) dX4_part_151 rfl rfl ?_
          refine wp_invV (nx := 155) (N := M_X4_readRuleWord) (as := []) (st := []) (mc := 0) (ms := 0) (mc' := mc) (ms' := ms) (a := 29) clsX4 dX4_part_152 rfl mok_X4_readRuleWord kM_X4_157 ki_X4_readRuleWord ke_X4_readRuleWord (fo_29 F) (ft_29 F) rfl rfl (leB rfl) (leB rfl) (z0 _) (z0 _) (Wp.mono h ?_)
          intro r1 Sq C2 h
          obtain ⟨e9, h⟩ := h
          rw [e9]
          show Wp (d + 1) mc ms M_X4_part 155 [cA 29] [cI r1] S C2 Q
          obtain ⟨hz, h⟩ := h
          exact wp_ireturn dX4_part_155 rfl rfl (nz_of hz) h
        · have h := h.2 hc
          refine wp_aload_n (nx := 145) dX4_part_144 rfl rfl ?_
          refine wp_invV (nx := 148) (N := M_X4_readOrderWord) (as := []) (st := []) (mc := 0) (ms := 0) (mc' := mc) (ms' := ms) (a := 29) clsX4 dX4_part_145 rfl mok_X4_readOrderWord kM_X4_154 ki_X4_readOrderWord ke_X4_readOrderWord (fo_29 F) (ft_29 F) rfl rfl (leB rfl) (leB rfl) (z0 _) (z0 _) (Wp.mono h ?_)
          intro r3 Sq C4 h
          obtain ⟨e9, h⟩ := h
          rw [e9]
          show Wp (d + 1) mc ms M_X4_part 148 [cA 29] [cI r3] S C4 Q
          refine wp_goto (nx := 155) dX4_part_148 rfl ?_
          obtain ⟨hz, h⟩ := h
          exact wp_ireturn dX4_part_155 rfl rfl (nz_of hz) h
      · have h := h.2 hc
        refine wp_aload_n (nx := 100) dX4_part_99 rfl rfl ?_
        refine wp_getAe (kk := 4) (nx := 103) clsX4 dX4_part_100 rfl kF_X4_27 (by decide) (fo_29 F) (ft_29 F) rfl (fp_29_4 F) ?_
        refine wp_aload_n (nx := 104) dX4_part_103 rfl rfl ?_
        refine wp_getIe (kk := 7) 7 (nx := 107) clsX4 dX4_part_104 rfl kF_X4_53 (by decide) (fo_29 F) (ft_29 F) rfl rfl (upC_sK (by decide)) ?_
        obtain ⟨hi, h⟩ := h
        refine wp_ialoadE (nx := 108) dX4_part_107 rfl (fo_39 F) (fl_39 F) hi (ft_39 F) (upC_sA (by decide)) ?_
        refine wp_sipush (nx := 111) dX4_part_108 rfl ⟨by decide, i32 (by decide)⟩ ?_
        refine wp_icmp_gt (nx := 114) (tg := 137) dX4_part_111 rfl rfl (fun hc => ?_) (fun hc => ?_)
        · have h := h.1 hc
          refine wp_aload_n (nx := 138) dX4_part_137 rfl rfl ?_
          refine wp_getIe (kk := 6) 6 (nx := 141) clsX4 dX4_part_138 rfl kF_X4_49 (by decide) (fo_29 F) (ft_29 F) rfl rfl (upC_sK (by decide)) ?_
          refine wp_if_eq (nx := 144) (tg := 151) dX4_part_141 rfl rfl (fun hc => ?_) (fun hc => ?_)
          · have h := h.1 hc
            refine wp_aload_n (nx := 152) dX4_part_151 rfl rfl ?_
            refine wp_invV (nx := 155) (N := M_X4_readRuleWord) (as := []) (st := []) (mc := 0) (ms := 0) (mc' := mc) (ms' := ms) (a := 29) clsX4 dX4_part_152 rfl mok_X4_readRuleWord kM_X4_157 ki_X4_readRuleWord ke_X4_readRuleWord (fo_29 F) (ft_29 F) rfl rfl (leB rfl) (leB rfl) (z0 _) (z0 _) (Wp.mono h ?_)
            intro r5 Sq C6 h
            obtain ⟨e9, h⟩ := h
            rw [e9]
            show Wp (d + 1) mc ms M_X4_part 155 [cA 29] [cI r5] S C6 Q
            obtain ⟨hz, h⟩ := h
            exact wp_ireturn dX4_part_155 rfl rfl (nz_of hz) h
          · have h := h.2 hc
            refine wp_aload_n (nx := 145) dX4_part_144 rfl rfl ?_
            refine wp_invV (nx := 148) (N := M_X4_readOrderWord) (as := []) (st := []) (mc := 0) (ms := 0) (mc' := mc) (ms' := ms) (a := 29) clsX4 dX4_part_145 rfl mok_X4_readOrderWord kM_X4_154 ki_X4_readOrderWord ke_X4_readOrderWord (fo_29 F) (ft_29 F) rfl rfl (leB rfl) (leB rfl) (z0 _) (z0 _) (Wp.mono h ?_)
            intro r7 Sq C8 h
            obtain ⟨e9, h⟩ := h
            rw [e9]
            show Wp (d + 1) mc ms M_X4_part 148 [cA 29] [cI r7] S C8 Q
            refine wp_goto (nx := 155) dX4_part_148 rfl ?_
            obtain ⟨hz, h⟩ := h
            exact wp_ireturn dX4_part_155 rfl rfl (nz_of hz) h
        · have h := h.2 hc
          refine wp_aload_n (nx := 115) dX4_part_114 rfl rfl ?_
          refine wp_getAe (kk := 0) (nx := 118) clsX4 dX4_part_115 rfl kF_X4_14 (by decide) (fo_29 F) (ft_29 F) rfl (fp_29_0 F) ?_
          refine wp_iconst (nx := 119) dX4_part_118 rfl (i32 (by decide)) ?_
          refine wp_aload_n (nx := 120) dX4_part_119 rfl rfl ?_
          refine wp_getAe (kk := 4) (nx := 123) clsX4 dX4_part_120 rfl kF_X4_27 (by decide) (fo_29 F) (ft_29 F) rfl (fp_29_4 F) ?_
          refine wp_aload_n (nx := 124) dX4_part_123 rfl rfl ?_
          refine wp_getIe (kk := 7) 7 (nx := 127) clsX4 dX4_part_124 rfl kF_X4_53 (by decide) (fo_29 F) (ft_29 F) rfl rfl (upC_sK (by decide)) ?_
          obtain ⟨hi, h⟩ := h
          refine wp_ialoadE (nx := 128) dX4_part_127 rfl (fo_39 F) (fl_39 F) hi (ft_39 F) (upC_sA (by decide)) ?_
          refine wp_invV (nx := 131) (N := M_X9_emit) (as := [cI 1, cI (C 39 (C 29 7))]) (st := []) (mc := 0) (ms := 0) (mc' := mc) (ms' := ms) (a := 30) clsX9 dX4_part_128 rfl mok_X9_emit kM_X4_112 ki_X9_emit ke_X9_emit (fo_30 F) (ft_30 F) rfl rfl (leB rfl) (leB rfl) (z0 _) (z0 _) (Wp.mono h ?_)
          intro r9 Sq C10 h
          obtain ⟨e9, h⟩ := h
          rw [e9]
          show Wp (d + 1) mc ms M_X4_part 131 [cA 29] [] S C10 Q
          refine wp_aload_n (nx := 132) dX4_part_131 rfl rfl ?_
          refine wp_invV (nx := 135) (N := M_X4_next) (as := []) (st := []) (mc := 0) (ms := 0) (mc' := mc) (ms' := ms) (a := 29) clsX4 dX4_part_132 rfl mok_X4_next kM_X4_72 ki_X4_next ke_X4_next (fo_29 F) (ft_29 F) rfl rfl (leB rfl) (leB rfl) (z0 _) (z0 _) (Wp.mono h ?_)
          intro r11 Sq C12 h
          obtain ⟨e9, h⟩ := h
          rw [e9]
          show Wp (d + 1) mc ms M_X4_part 135 [cA 29] [] S C12 Q
          refine wp_iconst (nx := 136) dX4_part_135 rfl (i32 (by decide)) ?_
          exact wp_ireturn dX4_part_136 rfl rfl (nz_of (Or.inr rfl)) h
    · have h := h.2 hc
      refine wp_iconst (nx := 78) dX4_part_77 rfl (i32 (by decide)) ?_
      exact wp_ireturn dX4_part_78 rfl rfl (nz_of (Or.inl rfl)) h
  · have h := h.2 hc
    refine wp_aload_n (nx := 10) dX4_part_9 rfl rfl ?_
    refine wp_getIe (kk := 10) 10 (nx := 13) clsX4 dX4_part_10 rfl kF_X4_62 (by decide) (fo_29 F) (ft_29 F) rfl rfl rfl ?_
    refine wp_bipush (nx := 15) dX4_part_13 rfl ⟨by decide, i32 (by decide)⟩ ?_
    refine wp_icmp_lt (nx := 18) (tg := 20) dX4_part_15 rfl rfl (fun hc => ?_) (fun hc => ?_)
    · have h := h.1 hc
      refine wp_aload_n (nx := 21) dX4_part_20 rfl rfl ?_
      refine wp_dup (nx := 22) dX4_part_21 rfl (k1A _) ?_
      refine wp_getIe (kk := 10) 10 (nx := 25) clsX4 dX4_part_22 rfl kF_X4_62 (by decide) (fo_29 F) (ft_29 F) rfl rfl rfl ?_
      refine wp_iconst (nx := 26) dX4_part_25 rfl (i32 (by decide)) ?_
      refine wp_iadd (nx := 27) dX4_part_26 rfl ?_
      refine wp_putIe (kk := 10) 10 (nx := 30) clsX4 dX4_part_27 rfl kF_X4_62 (by decide) (fo_29 F) (ft_29 F) rfl rfl ⟨rfl, rfl⟩ rfl ?_
      refine wp_aload_n (nx := 31) dX4_part_30 rfl rfl ?_
      refine wp_invV (nx := 34) (N := M_X4_next) (as := []) (st := []) (mc := 0) (ms := 0) (mc' := mc) (ms' := ms) (a := 29) clsX4 dX4_part_31 rfl mok_X4_next kM_X4_72 ki_X4_next ke_X4_next (fo_29 F) (ft_29 F) rfl rfl (leB rfl) (leB rfl) (z0 _) (z0 _) (Wp.mono h ?_)
      intro r13 Sq C14 h
      obtain ⟨e9, h⟩ := h
      rw [e9]
      show Wp (d + 1) mc ms M_X4_part 34 [cA 29] [] S C14 Q
      refine wp_aload_n (nx := 35) dX4_part_34 rfl rfl ?_
      refine wp_invV (nx := 38) (N := M_X4_sum) (as := []) (st := []) (mc := 0) (ms := 0) (mc' := mc) (ms' := ms) (a := 29) clsX4 dX4_part_35 rfl mok_X4_sum kM_X4_108 ki_X4_sum ke_X4_sum (fo_29 F) (ft_29 F) rfl rfl (leB rfl) (leB rfl) (z0 _) (z0 _) (Wp.mono h ?_)
      intro r15 Sq C16 h
      obtain ⟨e9, h⟩ := h
      rw [e9]
      show Wp (d + 1) mc ms M_X4_part 38 [cA 29] [cI r15] S C16 Q
      refine wp_if_eq (nx := 41) (tg := 50) dX4_part_38 rfl rfl (fun hc => ?_) (fun hc => ?_)
      · have h := h.1 hc
        refine wp_iconst (nx := 51) dX4_part_50 rfl (i32 (by decide)) ?_
        exact wp_ireturn dX4_part_51 rfl rfl (nz_of (Or.inl rfl)) h
      · have h := h.2 hc
        refine wp_aload_n (nx := 42) dX4_part_41 rfl rfl ?_
        refine wp_getIe (kk := 8) 8 (nx := 45) clsX4 dX4_part_42 rfl kF_X4_56 (by decide) (fo_29 F) (ft_29 F) rfl rfl rfl ?_
        refine wp_bipush (nx := 47) dX4_part_45 rfl ⟨by decide, i32 (by decide)⟩ ?_
        refine wp_icmp_eq (nx := 50) (tg := 52) dX4_part_47 rfl rfl (fun hc => ?_) (fun hc => ?_)
        · have h := h.1 hc
          refine wp_aload_n (nx := 53) dX4_part_52 rfl rfl ?_
          refine wp_dup (nx := 54) dX4_part_53 rfl (k1A _) ?_
          refine wp_getIe (kk := 10) 10 (nx := 57) clsX4 dX4_part_54 rfl kF_X4_62 (by decide) (fo_29 F) (ft_29 F) rfl rfl rfl ?_
          refine wp_iconst (nx := 58) dX4_part_57 rfl (i32 (by decide)) ?_
          refine wp_isub (nx := 59) dX4_part_58 rfl ?_
          refine wp_putIe (kk := 10) 10 (nx := 62) clsX4 dX4_part_59 rfl kF_X4_62 (by decide) (fo_29 F) (ft_29 F) rfl rfl ⟨rfl, rfl⟩ rfl ?_
          refine wp_aload_n (nx := 63) dX4_part_62 rfl rfl ?_
          refine wp_invV (nx := 66) (N := M_X4_next) (as := []) (st := []) (mc := 0) (ms := 0) (mc' := mc) (ms' := ms) (a := 29) clsX4 dX4_part_63 rfl mok_X4_next kM_X4_72 ki_X4_next ke_X4_next (fo_29 F) (ft_29 F) rfl rfl (leB rfl) (leB rfl) (z0 _) (z0 _) (Wp.mono h ?_)
          intro r17 Sq C18 h
          obtain ⟨e9, h⟩ := h
          rw [e9]
          show Wp (d + 1) mc ms M_X4_part 66 [cA 29] [] S C18 Q
          refine wp_iconst (nx := 67) dX4_part_66 rfl (i32 (by decide)) ?_
          exact wp_ireturn dX4_part_67 rfl rfl (nz_of (Or.inr rfl)) h
        · have h := h.2 hc
          refine wp_iconst (nx := 51) dX4_part_50 rfl (i32 (by decide)) ?_
          exact wp_ireturn dX4_part_51 rfl rfl (nz_of (Or.inl rfl)) h
    · have h := h.2 hc
      refine wp_iconst (nx := 19) dX4_part_18 rfl (i32 (by decide)) ?_
      exact wp_ireturn dX4_part_19 rfl rfl (nz_of (Or.inl rfl)) h
theorem b_X4_readRuleWord_0 {d mc ms : Nat} {S : MS} {C : MC} {Q : Int → MS → MC → Prop} (F : Fix S) (h : ((C 29 8 < 256 → Q 0 S C) ∧ (¬ C 29 8 < 256 → ((C 29 8 < 264 → K_X9_emit_0 d 0 0 2 (w32 ((C 29 8) - 256)) S C (fun r1 Sq C2 => Sq = S ∧ K_X4_next_0 d 0 0 S C2 (fun r3 Sq C4 => Sq = S ∧ Q 1 S C4))) ∧ (¬ C 29 8 < 264 → Q 0 S C))))) : K_X4_readRuleWord_0 (d + 1) mc ms S C Q := by
  show Wp (d + 1) mc ms M_X4_readRuleWord 0 [cA 29] [] S C Q
  refine wp_aload_n (nx := 1) dX4_readRuleWord_0 rfl rfl ?_
  refine wp_getIe (kk := 8) 8 (nx := 4) clsX4 dX4_readRuleWord_1 rfl kF_X4_56 (by decide) (fo_29 F) (ft_29 F) rfl rfl rfl ?_
  refine wp_sipush (nx := 7) dX4_readRuleWord_4 rfl ⟨by decide, i32 (by decide)⟩ ?_
  refine wp_icmp_lt (nx := 10) (tg := 20) dX4_readRuleWord_7 rfl rfl (fun hc => ?_) (fun hc => ?_)
  · have h := h.1 hc
    refine wp_iconst (nx := 21) dX4_readRuleWord_20 rfl (i32 (by decide)) ?_
    exact wp_ireturn dX4_readRuleWord_21 rfl rfl (nz_of (Or.inl rfl)) h
  · have h := h.2 hc
    refine wp_aload_n (nx := 11) dX4_readRuleWord_10 rfl rfl ?_
    refine wp_getIe (kk := 8) 8 (nx := 14) clsX4 dX4_readRuleWord_11 rfl kF_X4_56 (by decide) (fo_29 F) (ft_29 F) rfl rfl rfl ?_
    refine wp_sipush (nx := 17) dX4_readRuleWord_14 rfl ⟨by decide, i32 (by decide)⟩ ?_
    refine wp_icmp_lt (nx := 20) (tg := 22) dX4_readRuleWord_17 rfl rfl (fun hc => ?_) (fun hc => ?_)
    · have h := h.1 hc
      refine wp_aload_n (nx := 23) dX4_readRuleWord_22 rfl rfl ?_
      refine wp_getAe (kk := 0) (nx := 26) clsX4 dX4_readRuleWord_23 rfl kF_X4_14 (by decide) (fo_29 F) (ft_29 F) rfl (fp_29_0 F) ?_
      refine wp_iconst (nx := 27) dX4_readRuleWord_26 rfl (i32 (by decide)) ?_
      refine wp_aload_n (nx := 28) dX4_readRuleWord_27 rfl rfl ?_
      refine wp_getIe (kk := 8) 8 (nx := 31) clsX4 dX4_readRuleWord_28 rfl kF_X4_56 (by decide) (fo_29 F) (ft_29 F) rfl rfl rfl ?_
      refine wp_sipush (nx := 34) dX4_readRuleWord_31 rfl ⟨by decide, i32 (by decide)⟩ ?_
      refine wp_isub (nx := 35) dX4_readRuleWord_34 rfl ?_
      refine wp_invV (nx := 38) (N := M_X9_emit) (as := [cI 2, cI (w32 ((C 29 8) - 256))]) (st := []) (mc := 0) (ms := 0) (mc' := mc) (ms' := ms) (a := 30) clsX9 dX4_readRuleWord_35 rfl mok_X9_emit kM_X4_112 ki_X9_emit ke_X9_emit (fo_30 F) (ft_30 F) rfl rfl (leB rfl) (leB rfl) (z0 _) (z0 _) (Wp.mono h ?_)
      intro r1 Sq C2 h
      obtain ⟨e9, h⟩ := h
      rw [e9]
      show Wp (d + 1) mc ms M_X4_readRuleWord 38 [cA 29] [] S C2 Q
      refine wp_aload_n (nx := 39) dX4_readRuleWord_38 rfl rfl ?_
      refine wp_invV (nx := 42) (N := M_X4_next) (as := []) (st := []) (mc := 0) (ms := 0) (mc' := mc) (ms' := ms) (a := 29) clsX4 dX4_readRuleWord_39 rfl mok_X4_next kM_X4_72 ki_X4_next ke_X4_next (fo_29 F) (ft_29 F) rfl rfl (leB rfl) (leB rfl) (z0 _) (z0 _) (Wp.mono h ?_)
      intro r3 Sq C4 h
      obtain ⟨e9, h⟩ := h
      rw [e9]
      show Wp (d + 1) mc ms M_X4_readRuleWord 42 [cA 29] [] S C4 Q
      refine wp_iconst (nx := 43) dX4_readRuleWord_42 rfl (i32 (by decide)) ?_
      exact wp_ireturn dX4_readRuleWord_43 rfl rfl (nz_of (Or.inr rfl)) h
    · have h := h.2 hc
      refine wp_iconst (nx := 21) dX4_readRuleWord_20 rfl (i32 (by decide)) ?_
      exact wp_ireturn dX4_readRuleWord_21 rfl rfl (nz_of (Or.inl rfl)) h
theorem b_X4_readOrderWord_0 {d mc ms : Nat} {S : MS} {C : MC} {Q : Int → MS → MC → Prop} (F : Fix S) (h : K_X4_orderWord_0 d 0 0 (C 29 8) S C (fun r1 Sq C2 => Sq = S ∧ ((¬ r1 = (-1) → K_X4_next_0 d 0 0 S C2 (fun r3 Sq C4 => Sq = S ∧ ((r1 = 5 → K_X4_readOrderWord_32 (d + 1) mc ms r1 S C4 Q) ∧ (¬ r1 = 5 → ((¬ r1 = 21 → K_X4_readOrderWord_84 (d + 1) mc ms r1 0 S C4 Q) ∧ (r1 = 21 → K_X4_readOrderWord_32 (d + 1) mc ms r1 S C4 Q)))))) ∧ (r1 = (-1) → Q 0 S C2)))) : K_X4_readOrderWord_0 (d + 1) mc ms S C Q := by
  show Wp (d + 1) mc ms M_X4_readOrderWord 0 [cA 29, cU, cU, cU] [] S C Q
  refine wp_aload_n (nx := 1) dX4_readOrderWord_0 rfl rfl ?_
  refine wp_getIe (kk := 8) 8 (nx := 4) clsX4 dX4_readOrderWord_1 rfl kF_X4_56 (by decide) (fo_29 F) (ft_29 F) rfl rfl rfl ?_
  refine wp_invS (nx := 7) (N := M_X4_orderWord) (as := [cI (C 29 8)]) (st := []) (mc := 0) (ms := 0) (mc' := mc) (ms' := ms) dX4_readOrderWord_4 rfl mok_X4_orderWord kM_X4_160 ks_X4_orderWord rfl rfl (leB rfl) (leB rfl) (z0 _) (z0 _) (Wp.mono h ?_)
  intro r1 Sq C2 h
  obtain ⟨e9, h⟩ := h
  rw [e9]
  show Wp (d + 1) mc ms M_X4_readOrderWord 7 [cA 29, cU, cU, cU] [cI r1] S C2 Q
  refine wp_istore_n (nx := 8) dX4_readOrderWord_7 rfl (by decide) ?_
  refine wp_ls (ls2 := [cA 29, cI r1, cU, cU]) rfl ?_
  refine wp_iload_n (nx := 9) dX4_readOrderWord_8 rfl rfl ?_
  refine wp_iconst (nx := 10) dX4_readOrderWord_9 rfl (i32 (by decide)) ?_
  refine wp_icmp_ne (nx := 13) (tg := 15) dX4_readOrderWord_10 rfl rfl (fun hc => ?_) (fun hc => ?_)
  · have h := h.1 hc
    refine wp_aload_n (nx := 16) dX4_readOrderWord_15 rfl rfl ?_
    refine wp_invV (nx := 19) (N := M_X4_next) (as := []) (st := []) (mc := 0) (ms := 0) (mc' := mc) (ms' := ms) (a := 29) clsX4 dX4_readOrderWord_16 rfl mok_X4_next kM_X4_72 ki_X4_next ke_X4_next (fo_29 F) (ft_29 F) rfl rfl (leB rfl) (leB rfl) (z0 _) (z0 _) (Wp.mono h ?_)
    intro r3 Sq C4 h
    obtain ⟨e9, h⟩ := h
    rw [e9]
    show Wp (d + 1) mc ms M_X4_readOrderWord 19 [cA 29, cI r1, cU, cU] [] S C4 Q
    refine wp_iconst (nx := 20) dX4_readOrderWord_19 rfl (i32 (by decide)) ?_
    refine wp_istore_n (nx := 21) dX4_readOrderWord_20 rfl (by decide) ?_
    refine wp_ls (ls2 := [cA 29, cI r1, cI 0, cU]) rfl ?_
    refine wp_iload_n (nx := 22) dX4_readOrderWord_21 rfl rfl ?_
    refine wp_iconst (nx := 23) dX4_readOrderWord_22 rfl (i32 (by decide)) ?_
    refine wp_icmp_eq (nx := 26) (tg := 32) dX4_readOrderWord_23 rfl rfl (fun hc => ?_) (fun hc => ?_)
    · have h := h.1 hc
      refine wp_fg [true, true, false, false] (ls2 := [cA 29, cI r1, cU, cU]) rfl ?_
      exact h
    · have h := h.2 hc
      refine wp_iload_n (nx := 27) dX4_readOrderWord_26 rfl rfl ?_
      refine wp_bipush (nx := 29) dX4_readOrderWord_27 rfl ⟨by decide, i32 (by decide)⟩ ?_
      refine wp_icmp_ne (nx := 32) (tg := 84) dX4_readOrderWord_29 rfl rfl (fun hc => ?_) (fun hc => ?_)
      · have h := h.1 hc
        exact h
      · have h := h.2 hc
        refine wp_fg [true, true, false, false] (ls2 := [cA 29, cI r1, cU, cU]) rfl ?_
        exact h
  · have h := h.2 hc
    refine wp_iconst (nx := 14) dX4_readOrderWord_13 rfl (i32 (by decide)) ?_
    exact wp_ireturn dX4_readOrderWord_14 rfl rfl (nz_of (Or.inl rfl)) h
theorem b_X4_readOrderWord_32 {d mc ms : Nat} {l1 : Int} {S : MS} {C : MC} {Q : Int → MS → MC → Prop} (F : Fix S) (h : ((¬ l1 = 5 → ((¬ C 29 8 = 284 → Q 0 S C) ∧ (C 29 8 = 284 → ((0 : Int) ≤ C 29 7 ∧ C 29 7 < 401) ∧ ((C 39 (C 29 7) < 8 → ((0 : Int) ≤ C 29 7 ∧ C 29 7 < 401) ∧ K_X4_next_0 d 0 0 S C (fun r1 Sq C2 => Sq = S ∧ K_X4_readOrderWord_84 (d + 1) mc ms l1 (C 39 (C 29 7)) S C2 Q)) ∧ (¬ C 39 (C 29 7) < 8 → Q 0 S C))))) ∧ (l1 = 5 → ((¬ C 29 8 = 284 → Q 0 S C) ∧ (C 29 8 = 284 → ((0 : Int) ≤ C 29 7 ∧ C 29 7 < 401) ∧ ((C 39 (C 29 7) < 16 → ((0 : Int) ≤ C 29 7 ∧ C 29 7 < 401) ∧ K_X4_next_0 d 0 0 S C (fun r3 Sq C4 => Sq = S ∧ K_X4_readOrderWord_84 (d + 1) mc ms l1 (C 39 (C 29 7)) S C4 Q)) ∧ (¬ C 39 (C 29 7) < 16 → Q 0 S C))))))) : K_X4_readOrderWord_32 (d + 1) mc ms l1 S C Q := by
  show Wp (d + 1) mc ms M_X4_readOrderWord 32 [cA 29, cI l1, cU, cU] [] S C Q
  refine wp_iload_n (nx := 33) dX4_readOrderWord_32 rfl rfl ?_
  refine wp_iconst (nx := 34) dX4_readOrderWord_33 rfl (i32 (by decide)) ?_
  refine wp_icmp_ne (nx := 37) (tg := 42) dX4_readOrderWord_34 rfl rfl (fun hc => ?_) (fun hc => ?_)
  · have h := h.1 hc
    refine wp_bipush (nx := 44) dX4_readOrderWord_42 rfl ⟨by decide, i32 (by decide)⟩ ?_
    refine wp_istore_n (nx := 45) dX4_readOrderWord_44 rfl (by decide) ?_
    refine wp_ls (ls2 := [cA 29, cI l1, cU, cI 8]) rfl ?_
    refine wp_aload_n (nx := 46) dX4_readOrderWord_45 rfl rfl ?_
    refine wp_getIe (kk := 8) 8 (nx := 49) clsX4 dX4_readOrderWord_46 rfl kF_X4_56 (by decide) (fo_29 F) (ft_29 F) rfl rfl rfl ?_
    refine wp_sipush (nx := 52) dX4_readOrderWord_49 rfl ⟨by decide, i32 (by decide)⟩ ?_
    refine wp_icmp_ne (nx := 55) (tg := 68) dX4_readOrderWord_52 rfl rfl (fun hc => ?_) (fun hc => ?_)
    · have h := h.1 hc
      refine wp_iconst (nx := 69) dX4_readOrderWord_68 rfl (i32 (by decide)) ?_
      exact wp_ireturn dX4_readOrderWord_69 rfl rfl (nz_of (Or.inl rfl)) h
    · have h := h.2 hc
      refine wp_aload_n (nx := 56) dX4_readOrderWord_55 rfl rfl ?_
      refine wp_getAe (kk := 4) (nx := 59) clsX4 dX4_readOrderWord_56 rfl kF_X4_27 (by decide) (fo_29 F) (ft_29 F) rfl (fp_29_4 F) ?_
      refine wp_aload_n (nx := 60) dX4_readOrderWord_59 rfl rfl ?_
      refine wp_getIe (kk := 7) 7 (nx := 63) clsX4 dX4_readOrderWord_60 rfl kF_X4_53 (by decide) (fo_29 F) (ft_29 F) rfl rfl rfl ?_
      obtain ⟨hi, h⟩ := h
      refine wp_ialoadE (nx := 64) dX4_readOrderWord_63 rfl (fo_39 F) (fl_39 F) hi (ft_39 F) rfl ?_
      refine wp_iload_n (nx := 65) dX4_readOrderWord_64 rfl rfl ?_
      refine wp_icmp_lt (nx := 68) (tg := 70) dX4_readOrderWord_65 rfl rfl (fun hc => ?_) (fun hc => ?_)
      · have h := h.1 hc
        refine wp_aload_n (nx := 71) dX4_readOrderWord_70 rfl rfl ?_
        refine wp_getAe (kk := 4) (nx := 74) clsX4 dX4_readOrderWord_71 rfl kF_X4_27 (by decide) (fo_29 F) (ft_29 F) rfl (fp_29_4 F) ?_
        refine wp_aload_n (nx := 75) dX4_readOrderWord_74 rfl rfl ?_
        refine wp_getIe (kk := 7) 7 (nx := 78) clsX4 dX4_readOrderWord_75 rfl kF_X4_53 (by decide) (fo_29 F) (ft_29 F) rfl rfl rfl ?_
        obtain ⟨hi, h⟩ := h
        refine wp_ialoadE (nx := 79) dX4_readOrderWord_78 rfl (fo_39 F) (fl_39 F) hi (ft_39 F) rfl ?_
        refine wp_istore_n (nx := 80) dX4_readOrderWord_79 rfl (by decide) ?_
        refine wp_ls (ls2 := [cA 29, cI l1, cI (C 39 (C 29 7)), cI 8]) rfl ?_
        refine wp_aload_n (nx := 81) dX4_readOrderWord_80 rfl rfl ?_
        refine wp_invV (nx := 84) (N := M_X4_next) (as := []) (st := []) (mc := 0) (ms := 0) (mc' := mc) (ms' := ms) (a := 29) clsX4 dX4_readOrderWord_81 rfl mok_X4_next kM_X4_72 ki_X4_next ke_X4_next (fo_29 F) (ft_29 F) rfl rfl (leB rfl) (leB rfl) (z0 _) (z0 _) (Wp.mono h ?_)
        intro r1 Sq C2 h
        obtain ⟨e9, h⟩ := h
        rw [e9]
        show Wp (d + 1) mc ms M_X4_readOrderWord 84 [cA 29, cI l1, cI (C 39 (C 29 7)), cI 8] [] S C2 Q
        refine wp_fg [true, true, true, false] (ls2 := [cA 29, cI l1, cI (C 39 (C 29 7)), cU]) rfl ?_
        exact h
      · have h := h.2 hc
        refine wp_iconst (nx := 69) dX4_readOrderWord_68 rfl (i32 (by decide)) ?_
        exact wp_ireturn dX4_readOrderWord_69 rfl rfl (nz_of (Or.inl rfl)) h
  · have h := h.2 hc
    refine wp_bipush (nx := 39) dX4_readOrderWord_37 rfl ⟨by decide, i32 (by decide)⟩ ?_
    refine wp_goto (nx := 44) dX4_readOrderWord_39 rfl ?_
    refine wp_istore_n (nx := 45) dX4_readOrderWord_44 rfl (by decide) ?_
    refine wp_ls (ls2 := [cA 29, cI l1, cU, cI 16]) rfl ?_
    refine wp_aload_n (nx := 46) dX4_readOrderWord_45 rfl rfl ?_
    refine wp_getIe (kk := 8) 8 (nx := 49) clsX4 dX4_readOrderWord_46 rfl kF_X4_56 (by decide) (fo_29 F) (ft_29 F) rfl rfl rfl ?_
    refine wp_sipush (nx := 52) dX4_readOrderWord_49 rfl ⟨by decide, i32 (by decide)⟩ ?_
    refine wp_icmp_ne (nx := 55) (tg := 68) dX4_readOrderWord_52 rfl rfl (fun hc => ?_) (fun hc => ?_)
    · have h := h.1 hc
      refine wp_iconst (nx := 69) dX4_readOrderWord_68 rfl (i32 (by decide)) ?_
      exact wp_ireturn dX4_readOrderWord_69 rfl rfl (nz_of (Or.inl rfl)) h
    · have h := h.2 hc
      refine wp_aload_n (nx := 56) dX4_readOrderWord_55 rfl rfl ?_
      refine wp_getAe (kk := 4) (nx := 59) clsX4 dX4_readOrderWord_56 rfl kF_X4_27 (by decide) (fo_29 F) (ft_29 F) rfl (fp_29_4 F) ?_
      refine wp_aload_n (nx := 60) dX4_readOrderWord_59 rfl rfl ?_
      refine wp_getIe (kk := 7) 7 (nx := 63) clsX4 dX4_readOrderWord_60 rfl kF_X4_53 (by decide) (fo_29 F) (ft_29 F) rfl rfl rfl ?_
      obtain ⟨hi, h⟩ := h
      refine wp_ialoadE (nx := 64) dX4_readOrderWord_63 rfl (fo_39 F) (fl_39 F) hi (ft_39 F) rfl ?_
      refine wp_iload_n (nx := 65) dX4_readOrderWord_64 rfl rfl ?_
      refine wp_icmp_lt (nx := 68) (tg := 70) dX4_readOrderWord_65 rfl rfl (fun hc => ?_) (fun hc => ?_)
      · have h := h.1 hc
        refine wp_aload_n (nx := 71) dX4_readOrderWord_70 rfl rfl ?_
        refine wp_getAe (kk := 4) (nx := 74) clsX4 dX4_readOrderWord_71 rfl kF_X4_27 (by decide) (fo_29 F) (ft_29 F) rfl (fp_29_4 F) ?_
        refine wp_aload_n (nx := 75) dX4_readOrderWord_74 rfl rfl ?_
        refine wp_getIe (kk := 7) 7 (nx := 78) clsX4 dX4_readOrderWord_75 rfl kF_X4_53 (by decide) (fo_29 F) (ft_29 F) rfl rfl rfl ?_
        obtain ⟨hi, h⟩ := h
        refine wp_ialoadE (nx := 79) dX4_readOrderWord_78 rfl (fo_39 F) (fl_39 F) hi (ft_39 F) rfl ?_
        refine wp_istore_n (nx := 80) dX4_readOrderWord_79 rfl (by decide) ?_
        refine wp_ls (ls2 := [cA 29, cI l1, cI (C 39 (C 29 7)), cI 16]) rfl ?_
        refine wp_aload_n (nx := 81) dX4_readOrderWord_80 rfl rfl ?_
        refine wp_invV (nx := 84) (N := M_X4_next) (as := []) (st := []) (mc := 0) (ms := 0) (mc' := mc) (ms' := ms) (a := 29) clsX4 dX4_readOrderWord_81 rfl mok_X4_next kM_X4_72 ki_X4_next ke_X4_next (fo_29 F) (ft_29 F) rfl rfl (leB rfl) (leB rfl) (z0 _) (z0 _) (Wp.mono h ?_)
        intro r3 Sq C4 h
        obtain ⟨e9, h⟩ := h
        rw [e9]
        show Wp (d + 1) mc ms M_X4_readOrderWord 84 [cA 29, cI l1, cI (C 39 (C 29 7)), cI 16] [] S C4 Q
        refine wp_fg [true, true, true, false] (ls2 := [cA 29, cI l1, cI (C 39 (C 29 7)), cU]) rfl ?_
        exact h
      · have h := h.2 hc
        refine wp_iconst (nx := 69) dX4_readOrderWord_68 rfl (i32 (by decide)) ?_
        exact wp_ireturn dX4_readOrderWord_69 rfl rfl (nz_of (Or.inl rfl)) h
theorem b_X4_readOrderWord_84 {d mc ms : Nat} {l1 l2 : Int} {S : MS} {C : MC} {Q : Int → MS → MC → Prop} (F : Fix S) (h : ((¬ C 30 2 = 0 → K_X9_emit_0 d 0 0 2 (w32 (l1 + l2)) S ((upC C 30 2 1)) (fun r1 Sq C2 => Sq = S ∧ Q 1 S C2)) ∧ (C 30 2 = 0 → ((¬ l1 = 3 → K_X9_emit_0 d 0 0 2 (w32 (l1 + l2)) S ((upC C 30 2 0)) (fun r3 Sq C4 => Sq = S ∧ Q 1 S C4)) ∧ (l1 = 3 → K_X9_emit_0 d 0 0 2 (w32 (l1 + l2)) S ((upC C 30 2 1)) (fun r5 Sq C6 => Sq = S ∧ Q 1 S C6)))))) : K_X4_readOrderWord_84 (d + 1) mc ms l1 l2 S C Q := by
  show Wp (d + 1) mc ms M_X4_readOrderWord 84 [cA 29, cI l1, cI l2, cU] [] S C Q
  refine wp_aload_n (nx := 85) dX4_readOrderWord_84 rfl rfl ?_
  refine wp_getAe (kk := 0) (nx := 88) clsX4 dX4_readOrderWord_85 rfl kF_X4_14 (by decide) (fo_29 F) (ft_29 F) rfl (fp_29_0 F) ?_
  refine wp_aload_n (nx := 89) dX4_readOrderWord_88 rfl rfl ?_
  refine wp_getAe (kk := 0) (nx := 92) clsX4 dX4_readOrderWord_89 rfl kF_X4_14 (by decide) (fo_29 F) (ft_29 F) rfl (fp_29_0 F) ?_
  refine wp_getIe (kk := 2) 2 (nx := 95) clsX9 dX4_readOrderWord_92 rfl kF_X4_163 (by decide) (fo_30 F) (ft_30 F) rfl rfl rfl ?_
  refine wp_if_ne (nx := 98) (tg := 103) dX4_readOrderWord_95 rfl rfl (fun hc => ?_) (fun hc => ?_)
  · have h := h.1 hc
    refine wp_iconst (nx := 104) dX4_readOrderWord_103 rfl (i32 (by decide)) ?_
    refine wp_goto (nx := 108) dX4_readOrderWord_104 rfl ?_
    refine wp_putIe (kk := 2) 2 (nx := 111) clsX9 dX4_readOrderWord_108 rfl kF_X4_163 (by decide) (fo_30 F) (ft_30 F) rfl rfl (fz_of (Or.inr rfl)) rfl ?_
    refine wp_aload_n (nx := 112) dX4_readOrderWord_111 rfl rfl ?_
    refine wp_getAe (kk := 0) (nx := 115) clsX4 dX4_readOrderWord_112 rfl kF_X4_14 (by decide) (fo_29 F) (ft_29 F) rfl (fp_29_0 F) ?_
    refine wp_iconst (nx := 116) dX4_readOrderWord_115 rfl (i32 (by decide)) ?_
    refine wp_iload_n (nx := 117) dX4_readOrderWord_116 rfl rfl ?_
    refine wp_iload_n (nx := 118) dX4_readOrderWord_117 rfl rfl ?_
    refine wp_iadd (nx := 119) dX4_readOrderWord_118 rfl ?_
    refine wp_invV (nx := 122) (N := M_X9_emit) (as := [cI 2, cI (w32 (l1 + l2))]) (st := []) (mc := 0) (ms := 0) (mc' := mc) (ms' := ms) (a := 30) clsX9 dX4_readOrderWord_119 rfl mok_X9_emit kM_X4_112 ki_X9_emit ke_X9_emit (fo_30 F) (ft_30 F) rfl rfl (leB rfl) (leB rfl) (z0 _) (z0 _) (Wp.mono h ?_)
    intro r1 Sq C2 h
    obtain ⟨e9, h⟩ := h
    rw [e9]
    show Wp (d + 1) mc ms M_X4_readOrderWord 122 [cA 29, cI l1, cI l2, cU] [] S C2 Q
    refine wp_iconst (nx := 123) dX4_readOrderWord_122 rfl (i32 (by decide)) ?_
    exact wp_ireturn dX4_readOrderWord_123 rfl rfl (nz_of (Or.inr rfl)) h
  · have h := h.2 hc
    refine wp_iload_n (nx := 99) dX4_readOrderWord_98 rfl rfl ?_
    refine wp_iconst (nx := 100) dX4_readOrderWord_99 rfl (i32 (by decide)) ?_
    refine wp_icmp_ne (nx := 103) (tg := 107) dX4_readOrderWord_100 rfl rfl (fun hc => ?_) (fun hc => ?_)
    · have h := h.1 hc
      refine wp_iconst (nx := 108) dX4_readOrderWord_107 rfl (i32 (by decide)) ?_
      refine wp_putIe (kk := 2) 2 (nx := 111) clsX9 dX4_readOrderWord_108 rfl kF_X4_163 (by decide) (fo_30 F) (ft_30 F) rfl rfl (fz_of (Or.inl rfl)) rfl ?_
      refine wp_aload_n (nx := 112) dX4_readOrderWord_111 rfl rfl ?_
      refine wp_getAe (kk := 0) (nx := 115) clsX4 dX4_readOrderWord_112 rfl kF_X4_14 (by decide) (fo_29 F) (ft_29 F) rfl (fp_29_0 F) ?_
      refine wp_iconst (nx := 116) dX4_readOrderWord_115 rfl (i32 (by decide)) ?_
      refine wp_iload_n (nx := 117) dX4_readOrderWord_116 rfl rfl ?_
      refine wp_iload_n (nx := 118) dX4_readOrderWord_117 rfl rfl ?_
      refine wp_iadd (nx := 119) dX4_readOrderWord_118 rfl ?_
      refine wp_invV (nx := 122) (N := M_X9_emit) (as := [cI 2, cI (w32 (l1 + l2))]) (st := []) (mc := 0) (ms := 0) (mc' := mc) (ms' := ms) (a := 30) clsX9 dX4_readOrderWord_119 rfl mok_X9_emit kM_X4_112 ki_X9_emit ke_X9_emit (fo_30 F) (ft_30 F) rfl rfl (leB rfl) (leB rfl) (z0 _) (z0 _) (Wp.mono h ?_)
      intro r3 Sq C4 h
      obtain ⟨e9, h⟩ := h
      rw [e9]
      show Wp (d + 1) mc ms M_X4_readOrderWord 122 [cA 29, cI l1, cI l2, cU] [] S C4 Q
      refine wp_iconst (nx := 123) dX4_readOrderWord_122 rfl (i32 (by decide)) ?_
      exact wp_ireturn dX4_readOrderWord_123 rfl rfl (nz_of (Or.inr rfl)) h
    · have h := h.2 hc
      refine wp_iconst (nx := 104) dX4_readOrderWord_103 rfl (i32 (by decide)) ?_
      refine wp_goto (nx := 108) dX4_readOrderWord_104 rfl ?_
      refine wp_putIe (kk := 2) 2 (nx := 111) clsX9 dX4_readOrderWord_108 rfl kF_X4_163 (by decide) (fo_30 F) (ft_30 F) rfl rfl (fz_of (Or.inr rfl)) rfl ?_
      refine wp_aload_n (nx := 112) dX4_readOrderWord_111 rfl rfl ?_
      refine wp_getAe (kk := 0) (nx := 115) clsX4 dX4_readOrderWord_112 rfl kF_X4_14 (by decide) (fo_29 F) (ft_29 F) rfl (fp_29_0 F) ?_
      refine wp_iconst (nx := 116) dX4_readOrderWord_115 rfl (i32 (by decide)) ?_
      refine wp_iload_n (nx := 117) dX4_readOrderWord_116 rfl rfl ?_
      refine wp_iload_n (nx := 118) dX4_readOrderWord_117 rfl rfl ?_
      refine wp_iadd (nx := 119) dX4_readOrderWord_118 rfl ?_
      refine wp_invV (nx := 122) (N := M_X9_emit) (as := [cI 2, cI (w32 (l1 + l2))]) (st := []) (mc := 0) (ms := 0) (mc' := mc) (ms' := ms) (a := 30) clsX9 dX4_readOrderWord_119 rfl mok_X9_emit kM_X4_112 ki_X9_emit ke_X9_emit (fo_30 F) (ft_30 F) rfl rfl (leB rfl) (leB rfl) (z0 _) (z0 _) (Wp.mono h ?_)
      intro r5 Sq C6 h
      obtain ⟨e9, h⟩ := h
      rw [e9]
      show Wp (d + 1) mc ms M_X4_readOrderWord 122 [cA 29, cI l1, cI l2, cU] [] S C6 Q
      refine wp_iconst (nx := 123) dX4_readOrderWord_122 rfl (i32 (by decide)) ?_
      exact wp_ireturn dX4_readOrderWord_123 rfl rfl (nz_of (Or.inr rfl)) h
theorem b_X4_comparison_0 {d mc ms : Nat} {l0 : Int} {S : MS} {C : MC} {Q : Int → MS → MC → Prop} (F : Fix S) (h : ((¬ l0 = 60 → ((¬ l0 = 62 → Q 10 S C) ∧ (l0 = 62 → Q 9 S C))) ∧ (l0 = 60 → Q 8 S C))) : K_X4_comparison_0 d mc ms l0 S C Q := by
  show Wp d mc ms M_X4_comparison 0 [cI l0] [] S C Q
  refine wp_iload_n (nx := 1) dX4_comparison_0 rfl rfl ?_
  refine wp_bipush (nx := 3) dX4_comparison_1 rfl ⟨by decide, i32 (by decide)⟩ ?_
  refine wp_icmp_ne (nx := 6) (tg := 9) dX4_comparison_3 rfl rfl (fun hc => ?_) (fun hc => ?_)
  · have h := h.1 hc
    refine wp_iload_n (nx := 10) dX4_comparison_9 rfl rfl ?_
    refine wp_bipush (nx := 12) dX4_comparison_10 rfl ⟨by decide, i32 (by decide)⟩ ?_
    refine wp_icmp_ne (nx := 15) (tg := 20) dX4_comparison_12 rfl rfl (fun hc => ?_) (fun hc => ?_)
    · have h := h.1 hc
      refine wp_bipush (nx := 22) dX4_comparison_20 rfl ⟨by decide, i32 (by decide)⟩ ?_
      exact wp_ireturn dX4_comparison_22 rfl rfl rfl h
    · have h := h.2 hc
      refine wp_bipush (nx := 17) dX4_comparison_15 rfl ⟨by decide, i32 (by decide)⟩ ?_
      refine wp_goto (nx := 22) dX4_comparison_17 rfl ?_
      exact wp_ireturn dX4_comparison_22 rfl rfl rfl h
  · have h := h.2 hc
    refine wp_bipush (nx := 8) dX4_comparison_6 rfl ⟨by decide, i32 (by decide)⟩ ?_
    exact wp_ireturn dX4_comparison_8 rfl rfl rfl h
theorem b_X4_multiplication_0 {d mc ms : Nat} {l0 : Int} {S : MS} {C : MC} {Q : Int → MS → MC → Prop} (F : Fix S) (h : ((¬ l0 = 42 → ((¬ l0 = 47 → Q 7 S C) ∧ (l0 = 47 → Q 6 S C))) ∧ (l0 = 42 → Q 5 S C))) : K_X4_multiplication_0 d mc ms l0 S C Q := by
  show Wp d mc ms M_X4_multiplication 0 [cI l0] [] S C Q
  refine wp_iload_n (nx := 1) dX4_multiplication_0 rfl rfl ?_
  refine wp_bipush (nx := 3) dX4_multiplication_1 rfl ⟨by decide, i32 (by decide)⟩ ?_
  refine wp_icmp_ne (nx := 6) (tg := 8) dX4_multiplication_3 rfl rfl (fun hc => ?_) (fun hc => ?_)
  · have h := h.1 hc
    refine wp_iload_n (nx := 9) dX4_multiplication_8 rfl rfl ?_
    refine wp_bipush (nx := 11) dX4_multiplication_9 rfl ⟨by decide, i32 (by decide)⟩ ?_
    refine wp_icmp_ne (nx := 14) (tg := 19) dX4_multiplication_11 rfl rfl (fun hc => ?_) (fun hc => ?_)
    · have h := h.1 hc
      refine wp_bipush (nx := 21) dX4_multiplication_19 rfl ⟨by decide, i32 (by decide)⟩ ?_
      exact wp_ireturn dX4_multiplication_21 rfl rfl rfl h
    · have h := h.2 hc
      refine wp_bipush (nx := 16) dX4_multiplication_14 rfl ⟨by decide, i32 (by decide)⟩ ?_
      refine wp_goto (nx := 21) dX4_multiplication_16 rfl ?_
      exact wp_ireturn dX4_multiplication_21 rfl rfl rfl h
  · have h := h.2 hc
    refine wp_iconst (nx := 7) dX4_multiplication_6 rfl (i32 (by decide)) ?_
    exact wp_ireturn dX4_multiplication_7 rfl rfl rfl h
theorem b_X4_orderWord_0 {d mc ms : Nat} {l0 : Int} {S : MS} {C : MC} {Q : Int → MS → MC → Prop} (F : Fix S) (h : ((l0 < 258 ∨ 268 < l0 → Q (-1) S C) ∧ (l0 = 258 → Q 21 S C) ∧ (l0 = 259 → Q (-1) S C) ∧ (l0 = 260 → Q (-1) S C) ∧ (l0 = 261 → Q (-1) S C) ∧ (l0 = 262 → Q 0 S C) ∧ (l0 = 263 → Q (-1) S C) ∧ (l0 = 264 → Q 1 S C) ∧ (l0 = 265 → Q 2 S C) ∧ (l0 = 266 → Q 3 S C) ∧ (l0 = 267 → Q 4 S C) ∧ (l0 = 268 → Q 5 S C))) : K_X4_orderWord_0 d mc ms l0 S C Q := by
  show Wp d mc ms M_X4_orderWord 0 [cI l0] [] S C Q
  refine wp_iload_n (nx := 1) dX4_orderWord_0 rfl rfl ?_
  rcases (show (l0 < 258 ∨ 268 < l0) ∨ l0 = 258 ∨ l0 = 259 ∨ l0 = 260 ∨ l0 = 261 ∨ l0 = 262 ∨ l0 = 263 ∨ l0 = 264 ∨ l0 = 265 ∨ l0 = 266 ∨ l0 = 267 ∨ l0 = 268 by omega) with hc | hc | hc | hc | hc | hc | hc | hc | hc | hc | hc | hc
  · have h := h.1 hc
    refine wp_tableOut (tg := 75) dX4_orderWord_1 hc rfl ?_
    refine wp_iconst (nx := 76) dX4_orderWord_75 rfl (i32 (by decide)) ?_
    exact wp_ireturn dX4_orderWord_76 rfl rfl rfl h
  · have h := h.2.1 hc
    refine wp_tableIn (tg := 72) (off := 71) dX4_orderWord_1 (by omega) (by omega) (by rw [show (l0 - 258).toNat = 0 by omega]; rfl) rfl ?_
    refine wp_bipush (nx := 74) dX4_orderWord_72 rfl ⟨by decide, i32 (by decide)⟩ ?_
    exact wp_ireturn dX4_orderWord_74 rfl rfl rfl h
  · have h := h.2.2.1 hc
    refine wp_tableIn (tg := 75) (off := 74) dX4_orderWord_1 (by omega) (by omega) (by rw [show (l0 - 258).toNat = 1 by omega]; rfl) rfl ?_
    refine wp_iconst (nx := 76) dX4_orderWord_75 rfl (i32 (by decide)) ?_
    exact wp_ireturn dX4_orderWord_76 rfl rfl rfl h
  · have h := h.2.2.2.1 hc
    refine wp_tableIn (tg := 75) (off := 74) dX4_orderWord_1 (by omega) (by omega) (by rw [show (l0 - 258).toNat = 2 by omega]; rfl) rfl ?_
    refine wp_iconst (nx := 76) dX4_orderWord_75 rfl (i32 (by decide)) ?_
    exact wp_ireturn dX4_orderWord_76 rfl rfl rfl h
  · have h := h.2.2.2.2.1 hc
    refine wp_tableIn (tg := 75) (off := 74) dX4_orderWord_1 (by omega) (by omega) (by rw [show (l0 - 258).toNat = 3 by omega]; rfl) rfl ?_
    refine wp_iconst (nx := 76) dX4_orderWord_75 rfl (i32 (by decide)) ?_
    exact wp_ireturn dX4_orderWord_76 rfl rfl rfl h
  · have h := h.2.2.2.2.2.1 hc
    refine wp_tableIn (tg := 60) (off := 59) dX4_orderWord_1 (by omega) (by omega) (by rw [show (l0 - 258).toNat = 4 by omega]; rfl) rfl ?_
    refine wp_iconst (nx := 61) dX4_orderWord_60 rfl (i32 (by decide)) ?_
    exact wp_ireturn dX4_orderWord_61 rfl rfl rfl h
  · have h := h.2.2.2.2.2.2.1 hc
    refine wp_tableIn (tg := 75) (off := 74) dX4_orderWord_1 (by omega) (by omega) (by rw [show (l0 - 258).toNat = 5 by omega]; rfl) rfl ?_
    refine wp_iconst (nx := 76) dX4_orderWord_75 rfl (i32 (by decide)) ?_
    exact wp_ireturn dX4_orderWord_76 rfl rfl rfl h
  · have h := h.2.2.2.2.2.2.2.1 hc
    refine wp_tableIn (tg := 62) (off := 61) dX4_orderWord_1 (by omega) (by omega) (by rw [show (l0 - 258).toNat = 6 by omega]; rfl) rfl ?_
    refine wp_iconst (nx := 63) dX4_orderWord_62 rfl (i32 (by decide)) ?_
    exact wp_ireturn dX4_orderWord_63 rfl rfl rfl h
  · have h := h.2.2.2.2.2.2.2.2.1 hc
    refine wp_tableIn (tg := 64) (off := 63) dX4_orderWord_1 (by omega) (by omega) (by rw [show (l0 - 258).toNat = 7 by omega]; rfl) rfl ?_
    refine wp_iconst (nx := 65) dX4_orderWord_64 rfl (i32 (by decide)) ?_
    exact wp_ireturn dX4_orderWord_65 rfl rfl rfl h
  · have h := h.2.2.2.2.2.2.2.2.2.1 hc
    refine wp_tableIn (tg := 66) (off := 65) dX4_orderWord_1 (by omega) (by omega) (by rw [show (l0 - 258).toNat = 8 by omega]; rfl) rfl ?_
    refine wp_iconst (nx := 67) dX4_orderWord_66 rfl (i32 (by decide)) ?_
    exact wp_ireturn dX4_orderWord_67 rfl rfl rfl h
  · have h := h.2.2.2.2.2.2.2.2.2.2.1 hc
    refine wp_tableIn (tg := 68) (off := 67) dX4_orderWord_1 (by omega) (by omega) (by rw [show (l0 - 258).toNat = 9 by omega]; rfl) rfl ?_
    refine wp_iconst (nx := 69) dX4_orderWord_68 rfl (i32 (by decide)) ?_
    exact wp_ireturn dX4_orderWord_69 rfl rfl rfl h
  · have h := h.2.2.2.2.2.2.2.2.2.2.2 hc
    refine wp_tableIn (tg := 70) (off := 69) dX4_orderWord_1 (by omega) (by omega) (by rw [show (l0 - 258).toNat = 10 by omega]; rfl) rfl ?_
    refine wp_iconst (nx := 71) dX4_orderWord_70 rfl (i32 (by decide)) ?_
    exact wp_ireturn dX4_orderWord_71 rfl rfl rfl h
