/-! blocks -/
theorem b_X10_house_0 {d mc ms : Nat} {l1 l2 : Int} {S : MS} {C : MC} {Q : Int → MS → MC → Prop} (F : Fix S) (h : ((l1 < 1 → K_X10_refuse_0 d 0 0 (-1) S C (fun r1 Sq C2 => Sq = S ∧ Q r1 S C2)) ∧ (¬ l1 < 1 → ((8 < l1 → K_X10_refuse_0 d 0 0 (-1) S C (fun r3 Sq C4 => Sq = S ∧ Q r3 S C4)) ∧ (¬ 8 < l1 → ((l2 < 0 → K_X10_refuse_0 d 0 0 (-1) S C (fun r5 Sq C6 => Sq = S ∧ Q r5 S C6)) ∧ (¬ l2 < 0 → ((l2 ≤ 7 → ((C 1 0 < 6 → ((0 : Int) ≤ C 1 0 ∧ C 1 0 < 6) ∧ ((0 : Int) ≤ C 1 0 ∧ C 1 0 < 6) ∧ K_X0_clear_0 d 0 0 S ((upC (upC (upC C 2 (C 1 0) l1) 3 (C 1 0) l2) 1 0 (w32 ((C 1 0) + 1)))) (fun r7 Sq C8 => Sq = S ∧ K_X10_accept_0 d 0 0 (w32 ((C8 1 0) - 1)) S C8 (fun r9 Sq C10 => Sq = S ∧ Q r9 S C10))) ∧ (¬ C 1 0 < 6 → K_X10_refuse_0 d 0 0 (-5) S C (fun r11 Sq C12 => Sq = S ∧ Q r11 S C12)))) ∧ (¬ l2 ≤ 7 → K_X10_refuse_0 d 0 0 (-1) S C (fun r13 Sq C14 => Sq = S ∧ Q r13 S C14)))))))))) : K_X10_house_0 (d + 1) mc ms l1 l2 S C Q := by
  show Wp (d + 1) mc ms M_X10_house 0 [cA 0, cI l1, cI l2] [] S C Q
  refine wp_iload_n (nx := 1) dX10_house_0 rfl rfl ?_
  refine wp_iconst (nx := 2) dX10_house_1 rfl (i32 (by decide)) ?_
  refine wp_icmp_lt (nx := 5) (tg := 21) dX10_house_2 rfl rfl (fun hc => ?_) (fun hc => ?_)
  · have h := h.1 hc
    refine wp_aload_n (nx := 22) dX10_house_21 rfl rfl ?_
    refine wp_iconst (nx := 23) dX10_house_22 rfl (i32 (by decide)) ?_
    refine wp_invV (nx := 26) (N := M_X10_refuse) (as := [cI (-1)]) (st := []) (mc := 0) (ms := 0) (mc' := mc) (ms' := ms) (a := 0) clsX10 dX10_house_23 rfl mok_X10_refuse kM_X10_91 ki_X10_refuse ke_X10_refuse (fo_0 F) (ft_0 F) rfl rfl (leB rfl) (leB rfl) (z0 _) (z0 _) (Wp.mono h ?_)
    intro r1 Sq C2 h
    obtain ⟨e9, h⟩ := h
    rw [e9]
    show Wp (d + 1) mc ms M_X10_house 26 [cA 0, cI l1, cI l2] [cI r1] S C2 Q
    exact wp_ireturn dX10_house_26 rfl rfl rfl h
  · have h := h.2 hc
    refine wp_iload_n (nx := 6) dX10_house_5 rfl rfl ?_
    refine wp_bipush (nx := 8) dX10_house_6 rfl ⟨by decide, i32 (by decide)⟩ ?_
    refine wp_icmp_gt (nx := 11) (tg := 21) dX10_house_8 rfl rfl (fun hc => ?_) (fun hc => ?_)
    · have h := h.1 hc
      refine wp_aload_n (nx := 22) dX10_house_21 rfl rfl ?_
      refine wp_iconst (nx := 23) dX10_house_22 rfl (i32 (by decide)) ?_
      refine wp_invV (nx := 26) (N := M_X10_refuse) (as := [cI (-1)]) (st := []) (mc := 0) (ms := 0) (mc' := mc) (ms' := ms) (a := 0) clsX10 dX10_house_23 rfl mok_X10_refuse kM_X10_91 ki_X10_refuse ke_X10_refuse (fo_0 F) (ft_0 F) rfl rfl (leB rfl) (leB rfl) (z0 _) (z0 _) (Wp.mono h ?_)
      intro r3 Sq C4 h
      obtain ⟨e9, h⟩ := h
      rw [e9]
      show Wp (d + 1) mc ms M_X10_house 26 [cA 0, cI l1, cI l2] [cI r3] S C4 Q
      exact wp_ireturn dX10_house_26 rfl rfl rfl h
    · have h := h.2 hc
      refine wp_iload_n (nx := 12) dX10_house_11 rfl rfl ?_
      refine wp_if_lt (nx := 15) (tg := 21) dX10_house_12 rfl rfl (fun hc => ?_) (fun hc => ?_)
      · have h := h.1 hc
        refine wp_aload_n (nx := 22) dX10_house_21 rfl rfl ?_
        refine wp_iconst (nx := 23) dX10_house_22 rfl (i32 (by decide)) ?_
        refine wp_invV (nx := 26) (N := M_X10_refuse) (as := [cI (-1)]) (st := []) (mc := 0) (ms := 0) (mc' := mc) (ms' := ms) (a := 0) clsX10 dX10_house_23 rfl mok_X10_refuse kM_X10_91 ki_X10_refuse ke_X10_refuse (fo_0 F) (ft_0 F) rfl rfl (leB rfl) (leB rfl) (z0 _) (z0 _) (Wp.mono h ?_)
        intro r5 Sq C6 h
        obtain ⟨e9, h⟩ := h
        rw [e9]
        show Wp (d + 1) mc ms M_X10_house 26 [cA 0, cI l1, cI l2] [cI r5] S C6 Q
        exact wp_ireturn dX10_house_26 rfl rfl rfl h
      · have h := h.2 hc
        refine wp_iload_n (nx := 16) dX10_house_15 rfl rfl ?_
        refine wp_bipush (nx := 18) dX10_house_16 rfl ⟨by decide, i32 (by decide)⟩ ?_
        refine wp_icmp_le (nx := 21) (tg := 27) dX10_house_18 rfl rfl (fun hc => ?_) (fun hc => ?_)
        · have h := h.1 hc
          refine wp_aload_n (nx := 28) dX10_house_27 rfl rfl ?_
          refine wp_getAe (kk := 0) (nx := 31) clsX10 dX10_house_28 rfl kF_X10_12 (by decide) (fo_0 F) (ft_0 F) rfl (fp_0_0 F) ?_
          refine wp_getIe (kk := 0) 0 (nx := 34) clsX7 dX10_house_31 rfl kF_X10_95 (by decide) (fo_1 F) (ft_1 F) rfl rfl rfl ?_
          refine wp_bipush (nx := 36) dX10_house_34 rfl ⟨by decide, i32 (by decide)⟩ ?_
          refine wp_icmp_lt (nx := 39) (tg := 46) dX10_house_36 rfl rfl (fun hc => ?_) (fun hc => ?_)
          · have h := h.1 hc
            refine wp_aload_n (nx := 47) dX10_house_46 rfl rfl ?_
            refine wp_getAe (kk := 0) (nx := 50) clsX10 dX10_house_47 rfl kF_X10_12 (by decide) (fo_0 F) (ft_0 F) rfl (fp_0_0 F) ?_
            refine wp_getAe (kk := 1) (nx := 53) clsX7 dX10_house_50 rfl kF_X10_99 (by decide) (fo_1 F) (ft_1 F) rfl (fp_1_1 F) ?_
            refine wp_aload_n (nx := 54) dX10_house_53 rfl rfl ?_
            refine wp_getAe (kk := 0) (nx := 57) clsX10 dX10_house_54 rfl kF_X10_12 (by decide) (fo_0 F) (ft_0 F) rfl (fp_0_0 F) ?_
            refine wp_getIe (kk := 0) 0 (nx := 60) clsX7 dX10_house_57 rfl kF_X10_95 (by decide) (fo_1 F) (ft_1 F) rfl rfl rfl ?_
            refine wp_iload_n (nx := 61) dX10_house_60 rfl rfl ?_
            obtain ⟨hi, h⟩ := h
            refine wp_iastoreE (nx := 62) dX10_house_61 rfl (fo_2 F) (fl_2 F) hi (ft_2 F) ?_
            refine wp_aload_n (nx := 63) dX10_house_62 rfl rfl ?_
            refine wp_getAe (kk := 0) (nx := 66) clsX10 dX10_house_63 rfl kF_X10_12 (by decide) (fo_0 F) (ft_0 F) rfl (fp_0_0 F) ?_
            refine wp_getAe (kk := 2) (nx := 69) clsX7 dX10_house_66 rfl kF_X10_102 (by decide) (fo_1 F) (ft_1 F) rfl (fp_1_2 F) ?_
            refine wp_aload_n (nx := 70) dX10_house_69 rfl rfl ?_
            refine wp_getAe (kk := 0) (nx := 73) clsX10 dX10_house_70 rfl kF_X10_12 (by decide) (fo_0 F) (ft_0 F) rfl (fp_0_0 F) ?_
            refine wp_getIe (kk := 0) 0 (nx := 76) clsX7 dX10_house_73 rfl kF_X10_95 (by decide) (fo_1 F) (ft_1 F) rfl rfl (upC_sA (by decide)) ?_
            refine wp_iload_n (nx := 77) dX10_house_76 rfl rfl ?_
            obtain ⟨hi, h⟩ := h
            refine wp_iastoreE (nx := 78) dX10_house_77 rfl (fo_3 F) (fl_3 F) hi (ft_3 F) ?_
            refine wp_aload_n (nx := 79) dX10_house_78 rfl rfl ?_
            refine wp_getAe (kk := 0) (nx := 82) clsX10 dX10_house_79 rfl kF_X10_12 (by decide) (fo_0 F) (ft_0 F) rfl (fp_0_0 F) ?_
            refine wp_dup (nx := 83) dX10_house_82 rfl (k1A _) ?_
            refine wp_getIe (kk := 0) 0 (nx := 86) clsX7 dX10_house_83 rfl kF_X10_95 (by decide) (fo_1 F) (ft_1 F) rfl rfl ((upC_sA (by decide)).trans (upC_sA (by decide))) ?_
            refine wp_iconst (nx := 87) dX10_house_86 rfl (i32 (by decide)) ?_
            refine wp_iadd (nx := 88) dX10_house_87 rfl ?_
            refine wp_putIe (kk := 0) 0 (nx := 91) clsX7 dX10_house_88 rfl kF_X10_95 (by decide) (fo_1 F) (ft_1 F) rfl rfl ⟨rfl, rfl⟩ rfl ?_
            refine wp_aload_n (nx := 92) dX10_house_91 rfl rfl ?_
            refine wp_getAe (kk := 10) (nx := 95) clsX10 dX10_house_92 rfl kF_X10_72 (by decide) (fo_0 F) (ft_0 F) rfl (fp_0_10 F) ?_
            refine wp_invV (nx := 98) (N := M_X0_clear) (as := []) (st := []) (mc := 0) (ms := 0) (mc' := mc) (ms' := ms) (a := 55) clsX0 dX10_house_95 rfl mok_X0_clear kM_X10_105 ki_X0_clear ke_X0_clear (fo_55 F) (ft_55 F) rfl rfl (leB rfl) (leB rfl) (z0 _) (z0 _) (Wp.mono h ?_)
            intro r7 Sq C8 h
            obtain ⟨e9, h⟩ := h
            rw [e9]
            show Wp (d + 1) mc ms M_X10_house 98 [cA 0, cI l1, cI l2] [] S C8 Q
            refine wp_aload_n (nx := 99) dX10_house_98 rfl rfl ?_
            refine wp_aload_n (nx := 100) dX10_house_99 rfl rfl ?_
            refine wp_getAe (kk := 0) (nx := 103) clsX10 dX10_house_100 rfl kF_X10_12 (by decide) (fo_0 F) (ft_0 F) rfl (fp_0_0 F) ?_
            refine wp_getIe (kk := 0) 0 (nx := 106) clsX7 dX10_house_103 rfl kF_X10_95 (by decide) (fo_1 F) (ft_1 F) rfl rfl rfl ?_
            refine wp_iconst (nx := 107) dX10_house_106 rfl (i32 (by decide)) ?_
            refine wp_isub (nx := 108) dX10_house_107 rfl ?_
            refine wp_invV (nx := 111) (N := M_X10_accept) (as := [cI (w32 ((C8 1 0) - 1))]) (st := []) (mc := 0) (ms := 0) (mc' := mc) (ms' := ms) (a := 0) clsX10 dX10_house_108 rfl mok_X10_accept kM_X10_108 ki_X10_accept ke_X10_accept (fo_0 F) (ft_0 F) rfl rfl (leB rfl) (leB rfl) (z0 _) (z0 _) (Wp.mono h ?_)
            intro r9 Sq C10 h
            obtain ⟨e9, h⟩ := h
            rw [e9]
            show Wp (d + 1) mc ms M_X10_house 111 [cA 0, cI l1, cI l2] [cI r9] S C10 Q
            exact wp_ireturn dX10_house_111 rfl rfl rfl h
          · have h := h.2 hc
            refine wp_aload_n (nx := 40) dX10_house_39 rfl rfl ?_
            refine wp_bipush (nx := 42) dX10_house_40 rfl ⟨by decide, i32 (by decide)⟩ ?_
            refine wp_invV (nx := 45) (N := M_X10_refuse) (as := [cI (-5)]) (st := []) (mc := 0) (ms := 0) (mc' := mc) (ms' := ms) (a := 0) clsX10 dX10_house_42 rfl mok_X10_refuse kM_X10_91 ki_X10_refuse ke_X10_refuse (fo_0 F) (ft_0 F) rfl rfl (leB rfl) (leB rfl) (z0 _) (z0 _) (Wp.mono h ?_)
            intro r11 Sq C12 h
            obtain ⟨e9, h⟩ := h
            rw [e9]
            show Wp (d + 1) mc ms M_X10_house 45 [cA 0, cI l1, cI l2] [cI r11] S C12 Q
            exact wp_ireturn dX10_house_45 rfl rfl rfl h
        · have h := h.2 hc
          refine wp_aload_n (nx := 22) dX10_house_21 rfl rfl ?_
          refine wp_iconst (nx := 23) dX10_house_22 rfl (i32 (by decide)) ?_
          refine wp_invV (nx := 26) (N := M_X10_refuse) (as := [cI (-1)]) (st := []) (mc := 0) (ms := 0) (mc' := mc) (ms' := ms) (a := 0) clsX10 dX10_house_23 rfl mok_X10_refuse kM_X10_91 ki_X10_refuse ke_X10_refuse (fo_0 F) (ft_0 F) rfl rfl (leB rfl) (leB rfl) (z0 _) (z0 _) (Wp.mono h ?_)
          intro r13 Sq C14 h
          obtain ⟨e9, h⟩ := h
          rw [e9]
          show Wp (d + 1) mc ms M_X10_house 26 [cA 0, cI l1, cI l2] [cI r13] S C14 Q
          exact wp_ireturn dX10_house_26 rfl rfl rfl h
theorem b_X10_of_0 {d mc ms : Nat} {l1 l2 : Int} {S : MS} {C : MC} {Q : Int → MS → MC → Prop} (F : Fix S) (h : K_X7_hasHouse_0 d 0 0 1 l1 S C (fun r1 Sq C2 => Sq = S ∧ ((¬ r1 = 0 → ((l2 < 0 ∨ 2 < l2 → Q (-1) S C2) ∧ (l2 = 0 → ((0 : Int) ≤ l1 ∧ l1 < 6) ∧ Q (C2 2 l1) S C2) ∧ (l2 = 1 → ((0 : Int) ≤ l1 ∧ l1 < 6) ∧ Q (C2 3 l1) S C2) ∧ (l2 = 2 → K_X7_keysOf_0 d 0 0 1 l1 S C2 (fun r3 Sq C4 => Sq = S ∧ Q r3 S C4)))) ∧ (r1 = 0 → Q (-1) S C2)))) : K_X10_of_0 (d + 1) mc ms l1 l2 S C Q := by
  show Wp (d + 1) mc ms M_X10_of 0 [cA 0, cI l1, cI l2] [] S C Q
  refine wp_aload_n (nx := 1) dX10_of_0 rfl rfl ?_
  refine wp_getAe (kk := 0) (nx := 4) clsX10 dX10_of_1 rfl kF_X10_12 (by decide) (fo_0 F) (ft_0 F) rfl (fp_0_0 F) ?_
  refine wp_iload_n (nx := 5) dX10_of_4 rfl rfl ?_
  refine wp_invV (nx := 8) (N := M_X7_hasHouse) (as := [cI l1]) (st := []) (mc := 0) (ms := 0) (mc' := mc) (ms' := ms) (a := 1) clsX7 dX10_of_5 rfl mok_X7_hasHouse kM_X10_111 ki_X7_hasHouse ke_X7_hasHouse (fo_1 F) (ft_1 F) rfl rfl (leB rfl) (leB rfl) (z0 _) (z0 _) (Wp.mono h ?_)
  intro r1 Sq C2 h
  obtain ⟨e9, h⟩ := h
  rw [e9]
  show Wp (d + 1) mc ms M_X10_of 8 [cA 0, cI l1, cI l2] [cI r1] S C2 Q
  refine wp_if_ne (nx := 11) (tg := 13) dX10_of_8 rfl rfl (fun hc => ?_) (fun hc => ?_)
  · have h := h.1 hc
    refine wp_iload_n (nx := 14) dX10_of_13 rfl rfl ?_
    rcases (show (l2 < 0 ∨ 2 < l2) ∨ l2 = 0 ∨ l2 = 1 ∨ l2 = 2 by omega) with hc | hc | hc | hc
    · have h := h.1 hc
      refine wp_tableOut (tg := 69) dX10_of_14 hc rfl ?_
      refine wp_iconst (nx := 70) dX10_of_69 rfl (i32 (by decide)) ?_
      exact wp_ireturn dX10_of_70 rfl rfl rfl h
    · have h := h.2.1 hc
      refine wp_tableIn (tg := 40) (off := 26) dX10_of_14 (by omega) (by omega) (by rw [show (l2 - 0).toNat = 0 by omega]; rfl) rfl ?_
      refine wp_aload_n (nx := 41) dX10_of_40 rfl rfl ?_
      refine wp_getAe (kk := 0) (nx := 44) clsX10 dX10_of_41 rfl kF_X10_12 (by decide) (fo_0 F) (ft_0 F) rfl (fp_0_0 F) ?_
      refine wp_getAe (kk := 1) (nx := 47) clsX7 dX10_of_44 rfl kF_X10_99 (by decide) (fo_1 F) (ft_1 F) rfl (fp_1_1 F) ?_
      refine wp_iload_n (nx := 48) dX10_of_47 rfl rfl ?_
      obtain ⟨hi, h⟩ := h
      refine wp_ialoadE (nx := 49) dX10_of_48 rfl (fo_2 F) (fl_2 F) hi (ft_2 F) rfl ?_
      exact wp_ireturn dX10_of_49 rfl rfl rfl h
    · have h := h.2.2.1 hc
      refine wp_tableIn (tg := 50) (off := 36) dX10_of_14 (by omega) (by omega) (by rw [show (l2 - 0).toNat = 1 by omega]; rfl) rfl ?_
      refine wp_aload_n (nx := 51) dX10_of_50 rfl rfl ?_
      refine wp_getAe (kk := 0) (nx := 54) clsX10 dX10_of_51 rfl kF_X10_12 (by decide) (fo_0 F) (ft_0 F) rfl (fp_0_0 F) ?_
      refine wp_getAe (kk := 2) (nx := 57) clsX7 dX10_of_54 rfl kF_X10_102 (by decide) (fo_1 F) (ft_1 F) rfl (fp_1_2 F) ?_
      refine wp_iload_n (nx := 58) dX10_of_57 rfl rfl ?_
      obtain ⟨hi, h⟩ := h
      refine wp_ialoadE (nx := 59) dX10_of_58 rfl (fo_3 F) (fl_3 F) hi (ft_3 F) rfl ?_
      exact wp_ireturn dX10_of_59 rfl rfl rfl h
    · have h := h.2.2.2 hc
      refine wp_tableIn (tg := 60) (off := 46) dX10_of_14 (by omega) (by omega) (by rw [show (l2 - 0).toNat = 2 by omega]; rfl) rfl ?_
      refine wp_aload_n (nx := 61) dX10_of_60 rfl rfl ?_
      refine wp_getAe (kk := 0) (nx := 64) clsX10 dX10_of_61 rfl kF_X10_12 (by decide) (fo_0 F) (ft_0 F) rfl (fp_0_0 F) ?_
      refine wp_iload_n (nx := 65) dX10_of_64 rfl rfl ?_
      refine wp_invV (nx := 68) (N := M_X7_keysOf) (as := [cI l1]) (st := []) (mc := 0) (ms := 0) (mc' := mc) (ms' := ms) (a := 1) clsX7 dX10_of_65 rfl mok_X7_keysOf kM_X10_115 ki_X7_keysOf ke_X7_keysOf (fo_1 F) (ft_1 F) rfl rfl (leB rfl) (leB rfl) (z0 _) (z0 _) (Wp.mono h ?_)
      intro r3 Sq C4 h
      obtain ⟨e9, h⟩ := h
      rw [e9]
      show Wp (d + 1) mc ms M_X10_of 68 [cA 0, cI l1, cI l2] [cI r3] S C4 Q
      exact wp_ireturn dX10_of_68 rfl rfl rfl h
  · have h := h.2 hc
    refine wp_iconst (nx := 12) dX10_of_11 rfl (i32 (by decide)) ?_
    exact wp_ireturn dX10_of_12 rfl rfl rfl h
theorem b_X10_owner_0 {d mc ms : Nat} {l1 : Int} {S : MS} {C : MC} {Q : Int → MS → MC → Prop} (F : Fix S) (h : K_X10_isKey_0 d 0 0 l1 S C (fun r1 Sq C2 => Sq = S ∧ ((r1 = 0 → Q (-1) S C2) ∧ (¬ r1 = 0 → ((0 : Int) ≤ l1 ∧ l1 < 8) ∧ Q (C2 4 l1) S C2)))) : K_X10_owner_0 (d + 1) mc ms l1 S C Q := by
  show Wp (d + 1) mc ms M_X10_owner 0 [cA 0, cI l1] [] S C Q
  refine wp_iload_n (nx := 1) dX10_owner_0 rfl rfl ?_
  refine wp_invS (nx := 4) (N := M_X10_isKey) (as := [cI l1]) (st := []) (mc := 0) (ms := 0) (mc' := mc) (ms' := ms) dX10_owner_1 rfl mok_X10_isKey kM_X10_118 ks_X10_isKey rfl rfl (leB rfl) (leB rfl) (z0 _) (z0 _) (Wp.mono h ?_)
  intro r1 Sq C2 h
  obtain ⟨e9, h⟩ := h
  rw [e9]
  show Wp (d + 1) mc ms M_X10_owner 4 [cA 0, cI l1] [cI r1] S C2 Q
  refine wp_if_eq (nx := 7) (tg := 19) dX10_owner_4 rfl rfl (fun hc => ?_) (fun hc => ?_)
  · have h := h.1 hc
    refine wp_iconst (nx := 20) dX10_owner_19 rfl (i32 (by decide)) ?_
    exact wp_ireturn dX10_owner_20 rfl rfl rfl h
  · have h := h.2 hc
    refine wp_aload_n (nx := 8) dX10_owner_7 rfl rfl ?_
    refine wp_getAe (kk := 0) (nx := 11) clsX10 dX10_owner_8 rfl kF_X10_12 (by decide) (fo_0 F) (ft_0 F) rfl (fp_0_0 F) ?_
    refine wp_getAe (kk := 3) (nx := 14) clsX7 dX10_owner_11 rfl kF_X10_121 (by decide) (fo_1 F) (ft_1 F) rfl (fp_1_3 F) ?_
    refine wp_iload_n (nx := 15) dX10_owner_14 rfl rfl ?_
    obtain ⟨hi, h⟩ := h
    refine wp_ialoadE (nx := 16) dX10_owner_15 rfl (fo_4 F) (fl_4 F) hi (ft_4 F) rfl ?_
    refine wp_goto (nx := 20) dX10_owner_16 rfl ?_
    exact wp_ireturn dX10_owner_20 rfl rfl rfl h
theorem b_X10_music_0 {d mc ms : Nat} {l1 : Int} {S : MS} {C : MC} {Q : Int → MS → MC → Prop} (F : Fix S) (h : K_X10_isBeat_0 d 0 0 l1 S C (fun r1 Sq C2 => Sq = S ∧ ((r1 = 0 → Q (-1) S C2) ∧ (¬ r1 = 0 → ((0 : Int) ≤ l1 ∧ l1 < 16) ∧ Q (C2 5 l1) S C2)))) : K_X10_music_0 (d + 1) mc ms l1 S C Q := by
  show Wp (d + 1) mc ms M_X10_music 0 [cA 0, cI l1] [] S C Q
  refine wp_iload_n (nx := 1) dX10_music_0 rfl rfl ?_
  refine wp_invS (nx := 4) (N := M_X10_isBeat) (as := [cI l1]) (st := []) (mc := 0) (ms := 0) (mc' := mc) (ms' := ms) dX10_music_1 rfl mok_X10_isBeat kM_X10_124 ks_X10_isBeat rfl rfl (leB rfl) (leB rfl) (z0 _) (z0 _) (Wp.mono h ?_)
  intro r1 Sq C2 h
  obtain ⟨e9, h⟩ := h
  rw [e9]
  show Wp (d + 1) mc ms M_X10_music 4 [cA 0, cI l1] [cI r1] S C2 Q
  refine wp_if_eq (nx := 7) (tg := 19) dX10_music_4 rfl rfl (fun hc => ?_) (fun hc => ?_)
  · have h := h.1 hc
    refine wp_iconst (nx := 20) dX10_music_19 rfl (i32 (by decide)) ?_
    exact wp_ireturn dX10_music_20 rfl rfl rfl h
  · have h := h.2 hc
    refine wp_aload_n (nx := 8) dX10_music_7 rfl rfl ?_
    refine wp_getAe (kk := 0) (nx := 11) clsX10 dX10_music_8 rfl kF_X10_12 (by decide) (fo_0 F) (ft_0 F) rfl (fp_0_0 F) ?_
    refine wp_getAe (kk := 4) (nx := 14) clsX7 dX10_music_11 rfl kF_X10_127 (by decide) (fo_1 F) (ft_1 F) rfl (fp_1_4 F) ?_
    refine wp_iload_n (nx := 15) dX10_music_14 rfl rfl ?_
    obtain ⟨hi, h⟩ := h
    refine wp_ialoadE (nx := 16) dX10_music_15 rfl (fo_5 F) (fl_5 F) hi (ft_5 F) rfl ?_
    refine wp_goto (nx := 20) dX10_music_16 rfl ?_
    exact wp_ireturn dX10_music_20 rfl rfl rfl h
theorem b_X10_asks_0 {d mc ms : Nat} {l1 l2 l3 l4 : Int} {S : MS} {C : MC} {Q : Int → MS → MC → Prop} (F : Fix S) (h : K_X7_hasHouse_0 d 0 0 1 l1 S C (fun r1 Sq C2 => Sq = S ∧ ((r1 = 0 → Q (-1) S C2) ∧ (¬ r1 = 0 → K_X10_isKey_0 d 0 0 l2 S C2 (fun r3 Sq C4 => Sq = S ∧ ((r3 = 0 → Q (-1) S C4) ∧ (¬ r3 = 0 → K_X10_isBeat_0 d 0 0 l3 S C4 (fun r5 Sq C6 => Sq = S ∧ ((r5 = 0 → Q (-1) S C6) ∧ (¬ r5 = 0 → ((l4 < 0 → Q (-1) S C6) ∧ (¬ l4 < 0 → ((l4 ≤ 1 → K_X2_ask_0 d 0 0 1 l1 l2 l3 1 S C6 (fun r7 Sq C8 => Sq = S ∧ ((¬ l4 = 0 → ((C8 40 3 = 0 → Q 0 S C8) ∧ (¬ C8 40 3 = 0 → Q 1 S C8))) ∧ (l4 = 0 → Q (C8 40 2) S C8)))) ∧ (¬ l4 ≤ 1 → Q (-1) S C6)))))))))))))) : K_X10_asks_0 (d + 1) mc ms l1 l2 l3 l4 S C Q := by
  show Wp (d + 1) mc ms M_X10_asks 0 [cA 0, cI l1, cI l2, cI l3, cI l4] [] S C Q
  refine wp_aload_n (nx := 1) dX10_asks_0 rfl rfl ?_
  refine wp_getAe (kk := 0) (nx := 4) clsX10 dX10_asks_1 rfl kF_X10_12 (by decide) (fo_0 F) (ft_0 F) rfl (fp_0_0 F) ?_
  refine wp_iload_n (nx := 5) dX10_asks_4 rfl rfl ?_
  refine wp_invV (nx := 8) (N := M_X7_hasHouse) (as := [cI l1]) (st := []) (mc := 0) (ms := 0) (mc' := mc) (ms' := ms) (a := 1) clsX7 dX10_asks_5 rfl mok_X7_hasHouse kM_X10_111 ki_X7_hasHouse ke_X7_hasHouse (fo_1 F) (ft_1 F) rfl rfl (leB rfl) (leB rfl) (z0 _) (z0 _) (Wp.mono h ?_)
  intro r1 Sq C2 h
  obtain ⟨e9, h⟩ := h
  rw [e9]
  show Wp (d + 1) mc ms M_X10_asks 8 [cA 0, cI l1, cI l2, cI l3, cI l4] [cI r1] S C2 Q
  refine wp_if_eq (nx := 11) (tg := 36) dX10_asks_8 rfl rfl (fun hc => ?_) (fun hc => ?_)
  · have h := h.1 hc
    refine wp_iconst (nx := 37) dX10_asks_36 rfl (i32 (by decide)) ?_
    exact wp_ireturn dX10_asks_37 rfl rfl rfl h
  · have h := h.2 hc
    refine wp_iload_n (nx := 12) dX10_asks_11 rfl rfl ?_
    refine wp_invS (nx := 15) (N := M_X10_isKey) (as := [cI l2]) (st := []) (mc := 0) (ms := 0) (mc' := mc) (ms' := ms) dX10_asks_12 rfl mok_X10_isKey kM_X10_118 ks_X10_isKey rfl rfl (leB rfl) (leB rfl) (z0 _) (z0 _) (Wp.mono h ?_)
    intro r3 Sq C4 h
    obtain ⟨e9, h⟩ := h
    rw [e9]
    show Wp (d + 1) mc ms M_X10_asks 15 [cA 0, cI l1, cI l2, cI l3, cI l4] [cI r3] S C4 Q
    refine wp_if_eq (nx := 18) (tg := 36) dX10_asks_15 rfl rfl (fun hc => ?_) (fun hc => ?_)
    · have h := h.1 hc
      refine wp_iconst (nx := 37) dX10_asks_36 rfl (i32 (by decide)) ?_
      exact wp_ireturn dX10_asks_37 rfl rfl rfl h
    · have h := h.2 hc
      refine wp_iload_n (nx := 19) dX10_asks_18 rfl rfl ?_
      refine wp_invS (nx := 22) (N := M_X10_isBeat) (as := [cI l3]) (st := []) (mc := 0) (ms := 0) (mc' := mc) (ms' := ms) dX10_asks_19 rfl mok_X10_isBeat kM_X10_124 ks_X10_isBeat rfl rfl (leB rfl) (leB rfl) (z0 _) (z0 _) (Wp.mono h ?_)
      intro r5 Sq C6 h
      obtain ⟨e9, h⟩ := h
      rw [e9]
      show Wp (d + 1) mc ms M_X10_asks 22 [cA 0, cI l1, cI l2, cI l3, cI l4] [cI r5] S C6 Q
      refine wp_if_eq (nx := 25) (tg := 36) dX10_asks_22 rfl rfl (fun hc => ?_) (fun hc => ?_)
      · have h := h.1 hc
        refine wp_iconst (nx := 37) dX10_asks_36 rfl (i32 (by decide)) ?_
        exact wp_ireturn dX10_asks_37 rfl rfl rfl h
      · have h := h.2 hc
        refine wp_iload (nx := 27) dX10_asks_25 rfl rfl ?_
        refine wp_if_lt (nx := 30) (tg := 36) dX10_asks_27 rfl rfl (fun hc => ?_) (fun hc => ?_)
        · have h := h.1 hc
          refine wp_iconst (nx := 37) dX10_asks_36 rfl (i32 (by decide)) ?_
          exact wp_ireturn dX10_asks_37 rfl rfl rfl h
        · have h := h.2 hc
          refine wp_iload (nx := 32) dX10_asks_30 rfl rfl ?_
          refine wp_iconst (nx := 33) dX10_asks_32 rfl (i32 (by decide)) ?_
          refine wp_icmp_le (nx := 36) (tg := 38) dX10_asks_33 rfl rfl (fun hc => ?_) (fun hc => ?_)
          · have h := h.1 hc
            refine wp_aload_n (nx := 39) dX10_asks_38 rfl rfl ?_
            refine wp_getAe (kk := 7) (nx := 42) clsX10 dX10_asks_39 rfl kF_X10_49 (by decide) (fo_0 F) (ft_0 F) rfl (fp_0_7 F) ?_
            refine wp_aload_n (nx := 43) dX10_asks_42 rfl rfl ?_
            refine wp_getAe (kk := 0) (nx := 46) clsX10 dX10_asks_43 rfl kF_X10_12 (by decide) (fo_0 F) (ft_0 F) rfl (fp_0_0 F) ?_
            refine wp_iload_n (nx := 47) dX10_asks_46 rfl rfl ?_
            refine wp_iload_n (nx := 48) dX10_asks_47 rfl rfl ?_
            refine wp_iload_n (nx := 49) dX10_asks_48 rfl rfl ?_
            refine wp_iconst (nx := 50) dX10_asks_49 rfl (i32 (by decide)) ?_
            refine wp_invV (nx := 53) (N := M_X2_ask) (as := [cA 1, cI l1, cI l2, cI l3, cI 1]) (st := []) (mc := 0) (ms := 0) (mc' := mc) (ms' := ms) (a := 40) clsX2 dX10_asks_50 rfl mok_X2_ask kM_X10_130 ki_X2_ask ke_X2_ask (fo_40 F) (ft_40 F) rfl rfl (leB rfl) (leB rfl) (z0 _) (z0 _) (Wp.mono h ?_)
            intro r7 Sq C8 h
            obtain ⟨e9, h⟩ := h
            rw [e9]
            show Wp (d + 1) mc ms M_X10_asks 53 [cA 0, cI l1, cI l2, cI l3, cI l4] [] S C8 Q
            refine wp_iload (nx := 55) dX10_asks_53 rfl rfl ?_
            refine wp_if_ne (nx := 58) (tg := 66) dX10_asks_55 rfl rfl (fun hc => ?_) (fun hc => ?_)
            · have h := h.1 hc
              refine wp_aload_n (nx := 67) dX10_asks_66 rfl rfl ?_
              refine wp_getAe (kk := 7) (nx := 70) clsX10 dX10_asks_67 rfl kF_X10_49 (by decide) (fo_0 F) (ft_0 F) rfl (fp_0_7 F) ?_
              refine wp_getIe (kk := 3) 3 (nx := 73) clsX2 dX10_asks_70 rfl kF_X10_137 (by decide) (fo_40 F) (ft_40 F) rfl rfl rfl ?_
              refine wp_if_eq (nx := 76) (tg := 80) dX10_asks_73 rfl rfl (fun hc => ?_) (fun hc => ?_)
              · have h := h.1 hc
                refine wp_iconst (nx := 81) dX10_asks_80 rfl (i32 (by decide)) ?_
                exact wp_ireturn dX10_asks_81 rfl rfl rfl h
              · have h := h.2 hc
                refine wp_iconst (nx := 77) dX10_asks_76 rfl (i32 (by decide)) ?_
                refine wp_goto (nx := 81) dX10_asks_77 rfl ?_
                exact wp_ireturn dX10_asks_81 rfl rfl rfl h
            · have h := h.2 hc
              refine wp_aload_n (nx := 59) dX10_asks_58 rfl rfl ?_
              refine wp_getAe (kk := 7) (nx := 62) clsX10 dX10_asks_59 rfl kF_X10_49 (by decide) (fo_0 F) (ft_0 F) rfl (fp_0_7 F) ?_
              refine wp_getIe (kk := 2) 2 (nx := 65) clsX2 dX10_asks_62 rfl kF_X10_134 (by decide) (fo_40 F) (ft_40 F) rfl rfl rfl ?_
              exact wp_ireturn dX10_asks_65 rfl rfl rfl h
          · have h := h.2 hc
            refine wp_iconst (nx := 37) dX10_asks_36 rfl (i32 (by decide)) ?_
            exact wp_ireturn dX10_asks_37 rfl rfl rfl h
theorem b_X10_terms_0 {d mc ms : Nat} {l1 l2 : Int} {S : MS} {C : MC} {Q : Int → MS → MC → Prop} (F : Fix S) (h : ((l1 < 0 → K_X10_refuse_0 d 0 0 (-1) S C (fun r1 Sq C2 => Sq = S ∧ Q r1 S C2)) ∧ (¬ l1 < 0 → ((2 < l1 → K_X10_refuse_0 d 0 0 (-1) S C (fun r3 Sq C4 => Sq = S ∧ Q r3 S C4)) ∧ (¬ 2 < l1 → ((l2 < 0 → K_X10_refuse_0 d 0 0 (-1) S C (fun r5 Sq C6 => Sq = S ∧ Q r5 S C6)) ∧ (¬ l2 < 0 → K_X10_mostTerm_0 d 0 0 l1 S C (fun r7 Sq C8 => Sq = S ∧ ((l2 ≤ r7 → ((0 : Int) ≤ l1 ∧ l1 < 3) ∧ ((0 : Int) ≤ l1 ∧ l1 < 3) ∧ K_X0_clear_0 d 0 0 S ((upC C8 8 l1 l2)) (fun r9 Sq C10 => Sq = S ∧ K_X10_accept_0 d 0 0 (C8 8 l1) S C10 (fun r11 Sq C12 => Sq = S ∧ Q r11 S C12))) ∧ (¬ l2 ≤ r7 → K_X10_refuse_0 d 0 0 (-1) S C8 (fun r13 Sq C14 => Sq = S ∧ Q r13 S C14))))))))))) : K_X10_terms_0 (d + 1) mc ms l1 l2 S C Q := by
  show Wp (d + 1) mc ms M_X10_terms 0 [cA 0, cI l1, cI l2, cU] [] S C Q
  refine wp_iload_n (nx := 1) dX10_terms_0 rfl rfl ?_
  refine wp_if_lt (nx := 4) (tg := 21) dX10_terms_1 rfl rfl (fun hc => ?_) (fun hc => ?_)
  · have h := h.1 hc
    refine wp_aload_n (nx := 22) dX10_terms_21 rfl rfl ?_
    refine wp_iconst (nx := 23) dX10_terms_22 rfl (i32 (by decide)) ?_
    refine wp_invV (nx := 26) (N := M_X10_refuse) (as := [cI (-1)]) (st := []) (mc := 0) (ms := 0) (mc' := mc) (ms' := ms) (a := 0) clsX10 dX10_terms_23 rfl mok_X10_refuse kM_X10_91 ki_X10_refuse ke_X10_refuse (fo_0 F) (ft_0 F) rfl rfl (leB rfl) (leB rfl) (z0 _) (z0 _) (Wp.mono h ?_)
    intro r1 Sq C2 h
    obtain ⟨e9, h⟩ := h
    rw [e9]
    show Wp (d + 1) mc ms M_X10_terms 26 [cA 0, cI l1, cI l2, cU] [cI r1] S C2 Q
    exact wp_ireturn dX10_terms_26 rfl rfl rfl h
  · have h := h.2 hc
    refine wp_iload_n (nx := 5) dX10_terms_4 rfl rfl ?_
    refine wp_iconst (nx := 6) dX10_terms_5 rfl (i32 (by decide)) ?_
    refine wp_icmp_gt (nx := 9) (tg := 21) dX10_terms_6 rfl rfl (fun hc => ?_) (fun hc => ?_)
    · have h := h.1 hc
      refine wp_aload_n (nx := 22) dX10_terms_21 rfl rfl ?_
      refine wp_iconst (nx := 23) dX10_terms_22 rfl (i32 (by decide)) ?_
      refine wp_invV (nx := 26) (N := M_X10_refuse) (as := [cI (-1)]) (st := []) (mc := 0) (ms := 0) (mc' := mc) (ms' := ms) (a := 0) clsX10 dX10_terms_23 rfl mok_X10_refuse kM_X10_91 ki_X10_refuse ke_X10_refuse (fo_0 F) (ft_0 F) rfl rfl (leB rfl) (leB rfl) (z0 _) (z0 _) (Wp.mono h ?_)
      intro r3 Sq C4 h
      obtain ⟨e9, h⟩ := h
      rw [e9]
      show Wp (d + 1) mc ms M_X10_terms 26 [cA 0, cI l1, cI l2, cU] [cI r3] S C4 Q
      exact wp_ireturn dX10_terms_26 rfl rfl rfl h
    · have h := h.2 hc
      refine wp_iload_n (nx := 10) dX10_terms_9 rfl rfl ?_
      refine wp_if_lt (nx := 13) (tg := 21) dX10_terms_10 rfl rfl (fun hc => ?_) (fun hc => ?_)
      · have h := h.1 hc
        refine wp_aload_n (nx := 22) dX10_terms_21 rfl rfl ?_
        refine wp_iconst (nx := 23) dX10_terms_22 rfl (i32 (by decide)) ?_
        refine wp_invV (nx := 26) (N := M_X10_refuse) (as := [cI (-1)]) (st := []) (mc := 0) (ms := 0) (mc' := mc) (ms' := ms) (a := 0) clsX10 dX10_terms_23 rfl mok_X10_refuse kM_X10_91 ki_X10_refuse ke_X10_refuse (fo_0 F) (ft_0 F) rfl rfl (leB rfl) (leB rfl) (z0 _) (z0 _) (Wp.mono h ?_)
        intro r5 Sq C6 h
        obtain ⟨e9, h⟩ := h
        rw [e9]
        show Wp (d + 1) mc ms M_X10_terms 26 [cA 0, cI l1, cI l2, cU] [cI r5] S C6 Q
        exact wp_ireturn dX10_terms_26 rfl rfl rfl h
      · have h := h.2 hc
        refine wp_iload_n (nx := 14) dX10_terms_13 rfl rfl ?_
        refine wp_iload_n (nx := 15) dX10_terms_14 rfl rfl ?_
        refine wp_invS (nx := 18) (N := M_X10_mostTerm) (as := [cI l1]) (st := [cI l2]) (mc := 0) (ms := 0) (mc' := mc) (ms' := ms) dX10_terms_15 rfl mok_X10_mostTerm kM_X10_141 ks_X10_mostTerm rfl rfl (leB rfl) (leB rfl) (z0 _) (z0 _) (Wp.mono h ?_)
        intro r7 Sq C8 h
        obtain ⟨e9, h⟩ := h
        rw [e9]
        show Wp (d + 1) mc ms M_X10_terms 18 [cA 0, cI l1, cI l2, cU] [cI r7, cI l2] S C8 Q
        refine wp_icmp_le (nx := 21) (tg := 27) dX10_terms_18 rfl rfl (fun hc => ?_) (fun hc => ?_)
        · have h := h.1 hc
          refine wp_aload_n (nx := 28) dX10_terms_27 rfl rfl ?_
          refine wp_getAe (kk := 0) (nx := 31) clsX10 dX10_terms_28 rfl kF_X10_12 (by decide) (fo_0 F) (ft_0 F) rfl (fp_0_0 F) ?_
          refine wp_getAe (kk := 10) (nx := 34) clsX7 dX10_terms_31 rfl kF_X10_144 (by decide) (fo_1 F) (ft_1 F) rfl (fp_1_10 F) ?_
          refine wp_iload_n (nx := 35) dX10_terms_34 rfl rfl ?_
          obtain ⟨hi, h⟩ := h
          refine wp_ialoadE (nx := 36) dX10_terms_35 rfl (fo_8 F) (fl_8 F) hi (ft_8 F) rfl ?_
          refine wp_istore_n (nx := 37) dX10_terms_36 rfl (by decide) ?_
          refine wp_ls (ls2 := [cA 0, cI l1, cI l2, cI (C8 8 l1)]) rfl ?_
          refine wp_aload_n (nx := 38) dX10_terms_37 rfl rfl ?_
          refine wp_getAe (kk := 0) (nx := 41) clsX10 dX10_terms_38 rfl kF_X10_12 (by decide) (fo_0 F) (ft_0 F) rfl (fp_0_0 F) ?_
          refine wp_getAe (kk := 10) (nx := 44) clsX7 dX10_terms_41 rfl kF_X10_144 (by decide) (fo_1 F) (ft_1 F) rfl (fp_1_10 F) ?_
          refine wp_iload_n (nx := 45) dX10_terms_44 rfl rfl ?_
          refine wp_iload_n (nx := 46) dX10_terms_45 rfl rfl ?_
          obtain ⟨hi, h⟩ := h
          refine wp_iastoreE (nx := 47) dX10_terms_46 rfl (fo_8 F) (fl_8 F) hi (ft_8 F) ?_
          refine wp_aload_n (nx := 48) dX10_terms_47 rfl rfl ?_
          refine wp_getAe (kk := 10) (nx := 51) clsX10 dX10_terms_48 rfl kF_X10_72 (by decide) (fo_0 F) (ft_0 F) rfl (fp_0_10 F) ?_
          refine wp_invV (nx := 54) (N := M_X0_clear) (as := []) (st := []) (mc := 0) (ms := 0) (mc' := mc) (ms' := ms) (a := 55) clsX0 dX10_terms_51 rfl mok_X0_clear kM_X10_105 ki_X0_clear ke_X0_clear (fo_55 F) (ft_55 F) rfl rfl (leB rfl) (leB rfl) (z0 _) (z0 _) (Wp.mono h ?_)
          intro r9 Sq C10 h
          obtain ⟨e9, h⟩ := h
          rw [e9]
          show Wp (d + 1) mc ms M_X10_terms 54 [cA 0, cI l1, cI l2, cI (C8 8 l1)] [] S C10 Q
          refine wp_aload_n (nx := 55) dX10_terms_54 rfl rfl ?_
          refine wp_iload_n (nx := 56) dX10_terms_55 rfl rfl ?_
          refine wp_invV (nx := 59) (N := M_X10_accept) (as := [cI (C8 8 l1)]) (st := []) (mc := 0) (ms := 0) (mc' := mc) (ms' := ms) (a := 0) clsX10 dX10_terms_56 rfl mok_X10_accept kM_X10_108 ki_X10_accept ke_X10_accept (fo_0 F) (ft_0 F) rfl rfl (leB rfl) (leB rfl) (z0 _) (z0 _) (Wp.mono h ?_)
          intro r11 Sq C12 h
          obtain ⟨e9, h⟩ := h
          rw [e9]
          show Wp (d + 1) mc ms M_X10_terms 59 [cA 0, cI l1, cI l2, cI (C8 8 l1)] [cI r11] S C12 Q
          exact wp_ireturn dX10_terms_59 rfl rfl rfl h
        · have h := h.2 hc
          refine wp_aload_n (nx := 22) dX10_terms_21 rfl rfl ?_
          refine wp_iconst (nx := 23) dX10_terms_22 rfl (i32 (by decide)) ?_
          refine wp_invV (nx := 26) (N := M_X10_refuse) (as := [cI (-1)]) (st := []) (mc := 0) (ms := 0) (mc' := mc) (ms' := ms) (a := 0) clsX10 dX10_terms_23 rfl mok_X10_refuse kM_X10_91 ki_X10_refuse ke_X10_refuse (fo_0 F) (ft_0 F) rfl rfl (leB rfl) (leB rfl) (z0 _) (z0 _) (Wp.mono h ?_)
          intro r13 Sq C14 h
          obtain ⟨e9, h⟩ := h
          rw [e9]
          show Wp (d + 1) mc ms M_X10_terms 26 [cA 0, cI l1, cI l2, cU] [cI r13] S C14 Q
          exact wp_ireturn dX10_terms_26 rfl rfl rfl h
theorem b_X10_feed_0 {d mc ms : Nat} {l1 l2 l3 l4 l5 : Int} {S : MS} {C : MC} {Q : Int → MS → MC → Prop} (F : Fix S) (h : ((w32 ((C 27 1) + 20) ≤ 400 → K_X8_add_0 d 0 0 l1 S C (fun r1 Sq C2 => Sq = S ∧ K_X8_add_0 d 0 0 l2 S C2 (fun r3 Sq C4 => Sq = S ∧ K_X8_add_0 d 0 0 l3 S C4 (fun r5 Sq C6 => Sq = S ∧ K_X8_add_0 d 0 0 l4 S C6 (fun r7 Sq C8 => Sq = S ∧ K_X8_add_0 d 0 0 l5 S C8 (fun r9 Sq C10 => Sq = S ∧ Q (C10 27 1) S C10)))))) ∧ (¬ w32 ((C 27 1) + 20) ≤ 400 → Q (-1) S C))) : K_X10_feed_0 (d + 1) mc ms l1 l2 l3 l4 l5 S C Q := by
  show Wp (d + 1) mc ms M_X10_feed 0 [cA 0, cI l1, cI l2, cI l3, cI l4, cI l5] [] S C Q
  refine wp_aload_n (nx := 1) dX10_feed_0 rfl rfl ?_
  refine wp_getAe (kk := 5) (nx := 4) clsX10 dX10_feed_1 rfl kF_X10_33 (by decide) (fo_0 F) (ft_0 F) rfl (fp_0_5 F) ?_
  refine wp_getIe (kk := 1) 1 (nx := 7) clsX8 dX10_feed_4 rfl kF_X10_147 (by decide) (fo_27 F) (ft_27 F) rfl rfl rfl ?_
  refine wp_bipush (nx := 9) dX10_feed_7 rfl ⟨by decide, i32 (by decide)⟩ ?_
  refine wp_iadd (nx := 10) dX10_feed_9 rfl ?_
  refine wp_sipush (nx := 13) dX10_feed_10 rfl ⟨by decide, i32 (by decide)⟩ ?_
  refine wp_icmp_le (nx := 16) (tg := 18) dX10_feed_13 rfl rfl (fun hc => ?_) (fun hc => ?_)
  · have h := h.1 hc
    refine wp_aload_n (nx := 19) dX10_feed_18 rfl rfl ?_
    refine wp_getAe (kk := 5) (nx := 22) clsX10 dX10_feed_19 rfl kF_X10_33 (by decide) (fo_0 F) (ft_0 F) rfl (fp_0_5 F) ?_
    refine wp_iload_n (nx := 23) dX10_feed_22 rfl rfl ?_
    refine wp_invV (nx := 26) (N := M_X8_add) (as := [cI l1]) (st := []) (mc := 0) (ms := 0) (mc' := mc) (ms' := ms) (a := 27) clsX8 dX10_feed_23 rfl mok_X8_add kM_X10_150 ki_X8_add ke_X8_add (fo_27 F) (ft_27 F) rfl rfl (leB rfl) (leB rfl) (z0 _) (z0 _) (Wp.mono h ?_)
    intro r1 Sq C2 h
    obtain ⟨e9, h⟩ := h
    rw [e9]
    show Wp (d + 1) mc ms M_X10_feed 26 [cA 0, cI l1, cI l2, cI l3, cI l4, cI l5] [] S C2 Q
    refine wp_aload_n (nx := 27) dX10_feed_26 rfl rfl ?_
    refine wp_getAe (kk := 5) (nx := 30) clsX10 dX10_feed_27 rfl kF_X10_33 (by decide) (fo_0 F) (ft_0 F) rfl (fp_0_5 F) ?_
    refine wp_iload_n (nx := 31) dX10_feed_30 rfl rfl ?_
    refine wp_invV (nx := 34) (N := M_X8_add) (as := [cI l2]) (st := []) (mc := 0) (ms := 0) (mc' := mc) (ms' := ms) (a := 27) clsX8 dX10_feed_31 rfl mok_X8_add kM_X10_150 ki_X8_add ke_X8_add (fo_27 F) (ft_27 F) rfl rfl (leB rfl) (leB rfl) (z0 _) (z0 _) (Wp.mono h ?_)
    intro r3 Sq C4 h
    obtain ⟨e9, h⟩ := h
    rw [e9]
    show Wp (d + 1) mc ms M_X10_feed 34 [cA 0, cI l1, cI l2, cI l3, cI l4, cI l5] [] S C4 Q
    refine wp_aload_n (nx := 35) dX10_feed_34 rfl rfl ?_
    refine wp_getAe (kk := 5) (nx := 38) clsX10 dX10_feed_35 rfl kF_X10_33 (by decide) (fo_0 F) (ft_0 F) rfl (fp_0_5 F) ?_
    refine wp_iload_n (nx := 39) dX10_feed_38 rfl rfl ?_
    refine wp_invV (nx := 42) (N := M_X8_add) (as := [cI l3]) (st := []) (mc := 0) (ms := 0) (mc' := mc) (ms' := ms) (a := 27) clsX8 dX10_feed_39 rfl mok_X8_add kM_X10_150 ki_X8_add ke_X8_add (fo_27 F) (ft_27 F) rfl rfl (leB rfl) (leB rfl) (z0 _) (z0 _) (Wp.mono h ?_)
    intro r5 Sq C6 h
    obtain ⟨e9, h⟩ := h
    rw [e9]
    show Wp (d + 1) mc ms M_X10_feed 42 [cA 0, cI l1, cI l2, cI l3, cI l4, cI l5] [] S C6 Q
    refine wp_aload_n (nx := 43) dX10_feed_42 rfl rfl ?_
    refine wp_getAe (kk := 5) (nx := 46) clsX10 dX10_feed_43 rfl kF_X10_33 (by decide) (fo_0 F) (ft_0 F) rfl (fp_0_5 F) ?_
    refine wp_iload (nx := 48) dX10_feed_46 rfl rfl ?_
    refine wp_invV (nx := 51) (N := M_X8_add) (as := [cI l4]) (st := []) (mc := 0) (ms := 0) (mc' := mc) (ms' := ms) (a := 27) clsX8 dX10_feed_48 rfl mok_X8_add kM_X10_150 ki_X8_add ke_X8_add (fo_27 F) (ft_27 F) rfl rfl (leB rfl) (leB rfl) (z0 _) (z0 _) (Wp.mono h ?_)
    intro r7 Sq C8 h
    obtain ⟨e9, h⟩ := h
    rw [e9]
    show Wp (d + 1) mc ms M_X10_feed 51 [cA 0, cI l1, cI l2, cI l3, cI l4, cI l5] [] S C8 Q
    refine wp_aload_n (nx := 52) dX10_feed_51 rfl rfl ?_
    refine wp_getAe (kk := 5) (nx := 55) clsX10 dX10_feed_52 rfl kF_X10_33 (by decide) (fo_0 F) (ft_0 F) rfl (fp_0_5 F) ?_
    refine wp_iload (nx := 57) dX10_feed_55 rfl rfl ?_
    refine wp_invV (nx := 60) (N := M_X8_add) (as := [cI l5]) (st := []) (mc := 0) (ms := 0) (mc' := mc) (ms' := ms) (a := 27) clsX8 dX10_feed_57 rfl mok_X8_add kM_X10_150 ki_X8_add ke_X8_add (fo_27 F) (ft_27 F) rfl rfl (leB rfl) (leB rfl) (z0 _) (z0 _) (Wp.mono h ?_)
    intro r9 Sq C10 h
    obtain ⟨e9, h⟩ := h
    rw [e9]
    show Wp (d + 1) mc ms M_X10_feed 60 [cA 0, cI l1, cI l2, cI l3, cI l4, cI l5] [] S C10 Q
    refine wp_aload_n (nx := 61) dX10_feed_60 rfl rfl ?_
    refine wp_getAe (kk := 5) (nx := 64) clsX10 dX10_feed_61 rfl kF_X10_33 (by decide) (fo_0 F) (ft_0 F) rfl (fp_0_5 F) ?_
    refine wp_getIe (kk := 1) 1 (nx := 67) clsX8 dX10_feed_64 rfl kF_X10_147 (by decide) (fo_27 F) (ft_27 F) rfl rfl rfl ?_
    exact wp_ireturn dX10_feed_67 rfl rfl rfl h
  · have h := h.2 hc
    refine wp_iconst (nx := 17) dX10_feed_16 rfl (i32 (by decide)) ?_
    exact wp_ireturn dX10_feed_17 rfl rfl rfl h
theorem b_X10_end_0 {d mc ms : Nat} {l1 : Int} {S : MS} {C : MC} {Q : Int → MS → MC → Prop} (F : Fix S) (h : ((l1 < 0 → Q (-1) S C) ∧ (¬ l1 < 0 → ((l1 ≤ C 27 1 → Q l1 S (upC C 27 1 l1)) ∧ (¬ l1 ≤ C 27 1 → Q (-1) S C))))) : K_X10_end_0 d mc ms l1 S C Q := by
  show Wp d mc ms M_X10_end 0 [cA 0, cI l1] [] S C Q
  refine wp_iload_n (nx := 1) dX10_end_0 rfl rfl ?_
  refine wp_if_lt (nx := 4) (tg := 15) dX10_end_1 rfl rfl (fun hc => ?_) (fun hc => ?_)
  · have h := h.1 hc
    refine wp_iconst (nx := 16) dX10_end_15 rfl (i32 (by decide)) ?_
    exact wp_ireturn dX10_end_16 rfl rfl rfl h
  · have h := h.2 hc
    refine wp_iload_n (nx := 5) dX10_end_4 rfl rfl ?_
    refine wp_aload_n (nx := 6) dX10_end_5 rfl rfl ?_
    refine wp_getAe (kk := 5) (nx := 9) clsX10 dX10_end_6 rfl kF_X10_33 (by decide) (fo_0 F) (ft_0 F) rfl (fp_0_5 F) ?_
    refine wp_getIe (kk := 1) 1 (nx := 12) clsX8 dX10_end_9 rfl kF_X10_147 (by decide) (fo_27 F) (ft_27 F) rfl rfl rfl ?_
    refine wp_icmp_le (nx := 15) (tg := 17) dX10_end_12 rfl rfl (fun hc => ?_) (fun hc => ?_)
    · have h := h.1 hc
      refine wp_aload_n (nx := 18) dX10_end_17 rfl rfl ?_
      refine wp_getAe (kk := 5) (nx := 21) clsX10 dX10_end_18 rfl kF_X10_33 (by decide) (fo_0 F) (ft_0 F) rfl (fp_0_5 F) ?_
      refine wp_iload_n (nx := 22) dX10_end_21 rfl rfl ?_
      refine wp_putIe (kk := 1) 1 (nx := 25) clsX8 dX10_end_22 rfl kF_X10_147 (by decide) (fo_27 F) (ft_27 F) rfl rfl ⟨rfl, rfl⟩ rfl ?_
      refine wp_iload_n (nx := 26) dX10_end_25 rfl rfl ?_
      exact wp_ireturn dX10_end_26 rfl rfl rfl h
    · have h := h.2 hc
      refine wp_iconst (nx := 16) dX10_end_15 rfl (i32 (by decide)) ?_
      exact wp_ireturn dX10_end_16 rfl rfl rfl h
theorem b_X10_row_0 {d mc ms : Nat} {S : MS} {C : MC} {Q : Int → MS → MC → Prop} (F : Fix S) (h : ((¬ C 27 1 = 0 → K_X10_row_26 (d + 1) mc ms 0 0 S (upC C 0 15 0) Q) ∧ (C 27 1 = 0 → K_X10_refuse_0 d 0 0 (-6) S C (fun r1 Sq C2 => Sq = S ∧ Q r1 S C2)))) : K_X10_row_0 (d + 1) mc ms S C Q := by
  show Wp (d + 1) mc ms M_X10_row 0 [cA 0, cU, cU] [] S C Q
  refine wp_aload_n (nx := 1) dX10_row_0 rfl rfl ?_
  refine wp_getAe (kk := 5) (nx := 4) clsX10 dX10_row_1 rfl kF_X10_33 (by decide) (fo_0 F) (ft_0 F) rfl (fp_0_5 F) ?_
  refine wp_getIe (kk := 1) 1 (nx := 7) clsX8 dX10_row_4 rfl kF_X10_147 (by decide) (fo_27 F) (ft_27 F) rfl rfl rfl ?_
  refine wp_if_ne (nx := 10) (tg := 17) dX10_row_7 rfl rfl (fun hc => ?_) (fun hc => ?_)
  · have h := h.1 hc
    refine wp_iconst (nx := 18) dX10_row_17 rfl (i32 (by decide)) ?_
    refine wp_istore_n (nx := 19) dX10_row_18 rfl (by decide) ?_
    refine wp_ls (ls2 := [cA 0, cI 0, cU]) rfl ?_
    refine wp_aload_n (nx := 20) dX10_row_19 rfl rfl ?_
    refine wp_iconst (nx := 21) dX10_row_20 rfl (i32 (by decide)) ?_
    refine wp_putIe (kk := 15) 15 (nx := 24) clsX10 dX10_row_21 rfl kF_X10_154 (by decide) (fo_0 F) (ft_0 F) rfl rfl ⟨rfl, rfl⟩ rfl ?_
    refine wp_iconst (nx := 25) dX10_row_24 rfl (i32 (by decide)) ?_
    refine wp_istore_n (nx := 26) dX10_row_25 rfl (by decide) ?_
    refine wp_ls (ls2 := [cA 0, cI 0, cI 0]) rfl ?_
    exact h
  · have h := h.2 hc
    refine wp_aload_n (nx := 11) dX10_row_10 rfl rfl ?_
    refine wp_bipush (nx := 13) dX10_row_11 rfl ⟨by decide, i32 (by decide)⟩ ?_
    refine wp_invV (nx := 16) (N := M_X10_refuse) (as := [cI (-6)]) (st := []) (mc := 0) (ms := 0) (mc' := mc) (ms' := ms) (a := 0) clsX10 dX10_row_13 rfl mok_X10_refuse kM_X10_91 ki_X10_refuse ke_X10_refuse (fo_0 F) (ft_0 F) rfl rfl (leB rfl) (leB rfl) (z0 _) (z0 _) (Wp.mono h ?_)
    intro r1 Sq C2 h
    obtain ⟨e9, h⟩ := h
    rw [e9]
    show Wp (d + 1) mc ms M_X10_row 16 [cA 0, cU, cU] [cI r1] S C2 Q
    exact wp_ireturn dX10_row_16 rfl rfl rfl h
theorem b_X10_row_26 {d mc ms : Nat} {l1 l2 : Int} {S : MS} {C : MC} {Q : Int → MS → MC → Prop} (F : Fix S) (h : ((C 27 1 ≤ l2 → K_X0_clear_0 d 0 0 S ((upC C 27 1 0)) (fun r1 Sq C2 => Sq = S ∧ K_X10_accept_0 d 0 0 l1 S C2 (fun r3 Sq C4 => Sq = S ∧ Q r3 S C4))) ∧ (¬ C 27 1 ≤ l2 → ((C 27 1 ≤ w32 (l2 + 1) → K_X10_row_26 (d + 1) mc ms l1 (w32 (l2 + 2)) S (upC C 0 15 (w32 ((C 0 15) + 1))) Q) ∧ (¬ C 27 1 ≤ w32 (l2 + 1) → K_X8_byteAt_0 d 0 0 l2 S C (fun r5 Sq C6 => Sq = S ∧ K_X10_isBeat_0 d 0 0 r5 S C6 (fun r7 Sq C8 => Sq = S ∧ ((r7 = 0 → K_X10_row_26 (d + 1) mc ms l1 (w32 (l2 + 2)) S (upC C8 0 15 (w32 ((C8 0 15) + 1))) Q) ∧ (¬ r7 = 0 → K_X8_byteAt_0 d 0 0 l2 S C8 (fun r9 Sq C10 => Sq = S ∧ K_X8_byteAt_0 d 0 0 (w32 (l2 + 1)) S C10 (fun r11 Sq C12 => Sq = S ∧ ((0 : Int) ≤ r9 ∧ r9 < 16) ∧ K_X10_row_26 (d + 1) mc ms (w32 (l1 + 1)) (w32 (l2 + 2)) S (upC C12 5 r9 r11) Q))))))))))) : K_X10_row_26 (d + 1) mc ms l1 l2 S C Q := by
  show Wp (d + 1) mc ms M_X10_row 26 [cA 0, cI l1, cI l2] [] S C Q
  refine wp_iload_n (nx := 27) dX10_row_26 rfl rfl ?_
  refine wp_aload_n (nx := 28) dX10_row_27 rfl rfl ?_
  refine wp_getAe (kk := 5) (nx := 31) clsX10 dX10_row_28 rfl kF_X10_33 (by decide) (fo_0 F) (ft_0 F) rfl (fp_0_5 F) ?_
  refine wp_getIe (kk := 1) 1 (nx := 34) clsX8 dX10_row_31 rfl kF_X10_147 (by decide) (fo_27 F) (ft_27 F) rfl rfl rfl ?_
  refine wp_icmp_ge (nx := 37) (tg := 112) dX10_row_34 rfl rfl (fun hc => ?_) (fun hc => ?_)
  · have h := h.1 hc
    refine wp_aload_n (nx := 113) dX10_row_112 rfl rfl ?_
    refine wp_getAe (kk := 5) (nx := 116) clsX10 dX10_row_113 rfl kF_X10_33 (by decide) (fo_0 F) (ft_0 F) rfl (fp_0_5 F) ?_
    refine wp_iconst (nx := 117) dX10_row_116 rfl (i32 (by decide)) ?_
    refine wp_putIe (kk := 1) 1 (nx := 120) clsX8 dX10_row_117 rfl kF_X10_147 (by decide) (fo_27 F) (ft_27 F) rfl rfl ⟨rfl, rfl⟩ rfl ?_
    refine wp_aload_n (nx := 121) dX10_row_120 rfl rfl ?_
    refine wp_getAe (kk := 10) (nx := 124) clsX10 dX10_row_121 rfl kF_X10_72 (by decide) (fo_0 F) (ft_0 F) rfl (fp_0_10 F) ?_
    refine wp_invV (nx := 127) (N := M_X0_clear) (as := []) (st := []) (mc := 0) (ms := 0) (mc' := mc) (ms' := ms) (a := 55) clsX0 dX10_row_124 rfl mok_X0_clear kM_X10_105 ki_X0_clear ke_X0_clear (fo_55 F) (ft_55 F) rfl rfl (leB rfl) (leB rfl) (z0 _) (z0 _) (Wp.mono h ?_)
    intro r1 Sq C2 h
    obtain ⟨e9, h⟩ := h
    rw [e9]
    show Wp (d + 1) mc ms M_X10_row 127 [cA 0, cI l1, cI l2] [] S C2 Q
    refine wp_aload_n (nx := 128) dX10_row_127 rfl rfl ?_
    refine wp_iload_n (nx := 129) dX10_row_128 rfl rfl ?_
    refine wp_invV (nx := 132) (N := M_X10_accept) (as := [cI l1]) (st := []) (mc := 0) (ms := 0) (mc' := mc) (ms' := ms) (a := 0) clsX10 dX10_row_129 rfl mok_X10_accept kM_X10_108 ki_X10_accept ke_X10_accept (fo_0 F) (ft_0 F) rfl rfl (leB rfl) (leB rfl) (z0 _) (z0 _) (Wp.mono h ?_)
    intro r3 Sq C4 h
    obtain ⟨e9, h⟩ := h
    rw [e9]
    show Wp (d + 1) mc ms M_X10_row 132 [cA 0, cI l1, cI l2] [cI r3] S C4 Q
    exact wp_ireturn dX10_row_132 rfl rfl rfl h
  · have h := h.2 hc
    refine wp_iload_n (nx := 38) dX10_row_37 rfl rfl ?_
    refine wp_iconst (nx := 39) dX10_row_38 rfl (i32 (by decide)) ?_
    refine wp_iadd (nx := 40) dX10_row_39 rfl ?_
    refine wp_aload_n (nx := 41) dX10_row_40 rfl rfl ?_
    refine wp_getAe (kk := 5) (nx := 44) clsX10 dX10_row_41 rfl kF_X10_33 (by decide) (fo_0 F) (ft_0 F) rfl (fp_0_5 F) ?_
    refine wp_getIe (kk := 1) 1 (nx := 47) clsX8 dX10_row_44 rfl kF_X10_147 (by decide) (fo_27 F) (ft_27 F) rfl rfl rfl ?_
    refine wp_icmp_ge (nx := 50) (tg := 96) dX10_row_47 rfl rfl (fun hc => ?_) (fun hc => ?_)
    · have h := h.1 hc
      refine wp_aload_n (nx := 97) dX10_row_96 rfl rfl ?_
      refine wp_dup (nx := 98) dX10_row_97 rfl (k1A _) ?_
      refine wp_getIe (kk := 15) 15 (nx := 101) clsX10 dX10_row_98 rfl kF_X10_154 (by decide) (fo_0 F) (ft_0 F) rfl rfl rfl ?_
      refine wp_iconst (nx := 102) dX10_row_101 rfl (i32 (by decide)) ?_
      refine wp_iadd (nx := 103) dX10_row_102 rfl ?_
      refine wp_putIe (kk := 15) 15 (nx := 106) clsX10 dX10_row_103 rfl kF_X10_154 (by decide) (fo_0 F) (ft_0 F) rfl rfl ⟨rfl, rfl⟩ rfl ?_
      refine wp_iinc (nx := 109) dX10_row_106 rfl rfl (by decide) ?_
      refine wp_ls (ls2 := [cA 0, cI l1, cI (w32 (l2 + 2))]) rfl ?_
      refine wp_goto (nx := 26) dX10_row_109 rfl ?_
      exact h
    · have h := h.2 hc
      refine wp_aload_n (nx := 51) dX10_row_50 rfl rfl ?_
      refine wp_getAe (kk := 5) (nx := 54) clsX10 dX10_row_51 rfl kF_X10_33 (by decide) (fo_0 F) (ft_0 F) rfl (fp_0_5 F) ?_
      refine wp_iload_n (nx := 55) dX10_row_54 rfl rfl ?_
      refine wp_invV (nx := 58) (N := M_X8_byteAt) (as := [cI l2]) (st := []) (mc := 0) (ms := 0) (mc' := mc) (ms' := ms) (a := 27) clsX8 dX10_row_55 rfl mok_X8_byteAt kM_X10_157 ki_X8_byteAt ke_X8_byteAt (fo_27 F) (ft_27 F) rfl rfl (leB rfl) (leB rfl) (z0 _) (z0 _) (Wp.mono h ?_)
      intro r5 Sq C6 h
      obtain ⟨e9, h⟩ := h
      rw [e9]
      show Wp (d + 1) mc ms M_X10_row 58 [cA 0, cI l1, cI l2] [cI r5] S C6 Q
      refine wp_invS (nx := 61) (N := M_X10_isBeat) (as := [cI r5]) (st := []) (mc := 0) (ms := 0) (mc' := mc) (ms' := ms) dX10_row_58 rfl mok_X10_isBeat kM_X10_124 ks_X10_isBeat rfl rfl (leB rfl) (leB rfl) (z0 _) (z0 _) (Wp.mono h ?_)
      intro r7 Sq C8 h
      obtain ⟨e9, h⟩ := h
      rw [e9]
      show Wp (d + 1) mc ms M_X10_row 61 [cA 0, cI l1, cI l2] [cI r7] S C8 Q
      refine wp_if_eq (nx := 64) (tg := 96) dX10_row_61 rfl rfl (fun hc => ?_) (fun hc => ?_)
      · have h := h.1 hc
        refine wp_aload_n (nx := 97) dX10_row_96 rfl rfl ?_
        refine wp_dup (nx := 98) dX10_row_97 rfl (k1A _) ?_
        refine wp_getIe (kk := 15) 15 (nx := 101) clsX10 dX10_row_98 rfl kF_X10_154 (by decide) (fo_0 F) (ft_0 F) rfl rfl rfl ?_
        refine wp_iconst (nx := 102) dX10_row_101 rfl (i32 (by decide)) ?_
        refine wp_iadd (nx := 103) dX10_row_102 rfl ?_
        refine wp_putIe (kk := 15) 15 (nx := 106) clsX10 dX10_row_103 rfl kF_X10_154 (by decide) (fo_0 F) (ft_0 F) rfl rfl ⟨rfl, rfl⟩ rfl ?_
        refine wp_iinc (nx := 109) dX10_row_106 rfl rfl (by decide) ?_
        refine wp_ls (ls2 := [cA 0, cI l1, cI (w32 (l2 + 2))]) rfl ?_
        refine wp_goto (nx := 26) dX10_row_109 rfl ?_
        exact h
      · have h := h.2 hc
        refine wp_aload_n (nx := 65) dX10_row_64 rfl rfl ?_
        refine wp_getAe (kk := 0) (nx := 68) clsX10 dX10_row_65 rfl kF_X10_12 (by decide) (fo_0 F) (ft_0 F) rfl (fp_0_0 F) ?_
        refine wp_getAe (kk := 4) (nx := 71) clsX7 dX10_row_68 rfl kF_X10_127 (by decide) (fo_1 F) (ft_1 F) rfl (fp_1_4 F) ?_
        refine wp_aload_n (nx := 72) dX10_row_71 rfl rfl ?_
        refine wp_getAe (kk := 5) (nx := 75) clsX10 dX10_row_72 rfl kF_X10_33 (by decide) (fo_0 F) (ft_0 F) rfl (fp_0_5 F) ?_
        refine wp_iload_n (nx := 76) dX10_row_75 rfl rfl ?_
        refine wp_invV (nx := 79) (N := M_X8_byteAt) (as := [cI l2]) (st := [cA 5]) (mc := 0) (ms := 0) (mc' := mc) (ms' := ms) (a := 27) clsX8 dX10_row_76 rfl mok_X8_byteAt kM_X10_157 ki_X8_byteAt ke_X8_byteAt (fo_27 F) (ft_27 F) rfl rfl (leB rfl) (leB rfl) (z0 _) (z0 _) (Wp.mono h ?_)
        intro r9 Sq C10 h
        obtain ⟨e9, h⟩ := h
        rw [e9]
        show Wp (d + 1) mc ms M_X10_row 79 [cA 0, cI l1, cI l2] [cI r9, cA 5] S C10 Q
        refine wp_aload_n (nx := 80) dX10_row_79 rfl rfl ?_
        refine wp_getAe (kk := 5) (nx := 83) clsX10 dX10_row_80 rfl kF_X10_33 (by decide) (fo_0 F) (ft_0 F) rfl (fp_0_5 F) ?_
        refine wp_iload_n (nx := 84) dX10_row_83 rfl rfl ?_
        refine wp_iconst (nx := 85) dX10_row_84 rfl (i32 (by decide)) ?_
        refine wp_iadd (nx := 86) dX10_row_85 rfl ?_
        refine wp_invV (nx := 89) (N := M_X8_byteAt) (as := [cI (w32 (l2 + 1))]) (st := [cI r9, cA 5]) (mc := 0) (ms := 0) (mc' := mc) (ms' := ms) (a := 27) clsX8 dX10_row_86 rfl mok_X8_byteAt kM_X10_157 ki_X8_byteAt ke_X8_byteAt (fo_27 F) (ft_27 F) rfl rfl (leB rfl) (leB rfl) (z0 _) (z0 _) (Wp.mono h ?_)
        intro r11 Sq C12 h
        obtain ⟨e9, h⟩ := h
        rw [e9]
        show Wp (d + 1) mc ms M_X10_row 89 [cA 0, cI l1, cI l2] [cI r11, cI r9, cA 5] S C12 Q
        obtain ⟨hi, h⟩ := h
        refine wp_iastoreE (nx := 90) dX10_row_89 rfl (fo_5 F) (fl_5 F) hi (ft_5 F) ?_
        refine wp_iinc (nx := 93) dX10_row_90 rfl rfl (by decide) ?_
        refine wp_ls (ls2 := [cA 0, cI (w32 (l1 + 1)), cI l2]) rfl ?_
        refine wp_goto (nx := 106) dX10_row_93 rfl ?_
        refine wp_iinc (nx := 109) dX10_row_106 rfl rfl (by decide) ?_
        refine wp_ls (ls2 := [cA 0, cI (w32 (l1 + 1)), cI (w32 (l2 + 2))]) rfl ?_
        refine wp_goto (nx := 26) dX10_row_109 rfl ?_
        exact h
theorem b_X10_creaks_0 {d mc ms : Nat} {S : MS} {C : MC} {Q : Int → MS → MC → Prop} (F : Fix S) (h : Q (C 0 15) S C) : K_X10_creaks_0 d mc ms S C Q := by
  show Wp d mc ms M_X10_creaks 0 [cA 0] [] S C Q
  refine wp_aload_n (nx := 1) dX10_creaks_0 rfl rfl ?_
  refine wp_getIe (kk := 15) 15 (nx := 4) clsX10 dX10_creaks_1 rfl kF_X10_154 (by decide) (fo_0 F) (ft_0 F) rfl rfl rfl ?_
  exact wp_ireturn dX10_creaks_4 rfl rfl rfl h
theorem b_X10_orders_0 {d mc ms : Nat} {S : MS} {C : MC} {Q : Int → MS → MC → Prop} (F : Fix S) (h : K_X4_read_0 d 0 0 1 S ((upC C 59 4 (-1))) (fun r1 Sq C2 => Sq = S ∧ ((¬ r1 = 0 → K_X6_runAll_0 d 0 0 S C2 (fun r3 S5 C4 => Fix S5 ∧ ((0 ≤ r3 → K_X10_accept_0 d 0 0 r3 S5 C4 (fun r7 Sq C8 => Sq = S5 ∧ Q r7 S5 C8)) ∧ (¬ 0 ≤ r3 → K_X10_refuse_0 d 0 0 r3 S5 C4 (fun r9 Sq C10 => Sq = S5 ∧ Q r9 S5 C10))))) ∧ (r1 = 0 → K_X10_refuse_0 d 0 0 (-6) S C2 (fun r11 Sq C12 => Sq = S ∧ Q r11 S C12))))) : K_X10_orders_0 (d + 1) mc ms S C Q := by
  show Wp (d + 1) mc ms M_X10_orders 0 [cA 0, cU] [] S C Q
  refine wp_aload_n (nx := 1) dX10_orders_0 rfl rfl ?_
  refine wp_getAe (kk := 11) (nx := 4) clsX10 dX10_orders_1 rfl kF_X10_79 (by decide) (fo_0 F) (ft_0 F) rfl (fp_0_11 F) ?_
  refine wp_iconst (nx := 5) dX10_orders_4 rfl (i32 (by decide)) ?_
  refine wp_putIe (kk := 4) 4 (nx := 8) clsX6 dX10_orders_5 rfl kF_X10_181 (by decide) (fo_59 F) (ft_59 F) rfl rfl ⟨rfl, rfl⟩ rfl ?_
  refine wp_aload_n (nx := 9) dX10_orders_8 rfl rfl ?_
  refine wp_getAe (kk := 6) (nx := 12) clsX10 dX10_orders_9 rfl kF_X10_42 (by decide) (fo_0 F) (ft_0 F) rfl (fp_0_6 F) ?_
  refine wp_iconst (nx := 13) dX10_orders_12 rfl (i32 (by decide)) ?_
  refine wp_invV (nx := 16) (N := M_X4_read) (as := [cI 1]) (st := []) (mc := 0) (ms := 0) (mc' := mc) (ms' := ms) (a := 29) clsX4 dX10_orders_13 rfl mok_X4_read kM_X10_163 ki_X4_read ke_X4_read (fo_29 F) (ft_29 F) rfl rfl (leB rfl) (leB rfl) (z0 _) (z0 _) (Wp.mono h ?_)
  intro r1 Sq C2 h
  obtain ⟨e9, h⟩ := h
  rw [e9]
  show Wp (d + 1) mc ms M_X10_orders 16 [cA 0, cU] [cI r1] S C2 Q
  refine wp_if_ne (nx := 19) (tg := 26) dX10_orders_16 rfl rfl (fun hc => ?_) (fun hc => ?_)
  · have h := h.1 hc
    refine wp_aload_n (nx := 27) dX10_orders_26 rfl rfl ?_
    refine wp_getAe (kk := 11) (nx := 30) clsX10 dX10_orders_27 rfl kF_X10_79 (by decide) (fo_0 F) (ft_0 F) rfl (fp_0_11 F) ?_
    refine wp_aload_n (nx := 31) dX10_orders_30 rfl rfl ?_
    refine wp_getAe (kk := 6) (nx := 34) clsX10 dX10_orders_31 rfl kF_X10_42 (by decide) (fo_0 F) (ft_0 F) rfl (fp_0_6 F) ?_
    refine wp_getAe (kk := 0) (nx := 37) clsX4 dX10_orders_34 rfl kF_X10_171 (by decide) (fo_29 F) (ft_29 F) rfl (fp_29_0 F) ?_
    refine wp_aload_n (nx := 38) dX10_orders_37 rfl rfl ?_
    refine wp_getAe (kk := 0) (nx := 41) clsX10 dX10_orders_38 rfl kF_X10_12 (by decide) (fo_0 F) (ft_0 F) rfl (fp_0_0 F) ?_
    refine wp_aload_n (nx := 42) dX10_orders_41 rfl rfl ?_
    refine wp_getAe (kk := 10) (nx := 45) clsX10 dX10_orders_42 rfl kF_X10_72 (by decide) (fo_0 F) (ft_0 F) rfl (fp_0_10 F) ?_
    refine wp_aload_n (nx := 46) dX10_orders_45 rfl rfl ?_
    refine wp_getAe (kk := 8) (nx := 49) clsX10 dX10_orders_46 rfl kF_X10_58 (by decide) (fo_0 F) (ft_0 F) rfl (fp_0_8 F) ?_
    refine wp_invV (nx := 52) (N := M_X6_runAll) (as := [cA 30, cA 1, cA 55, cA 44]) (st := []) (mc := 0) (ms := 0) (mc' := mc) (ms' := ms) (a := 59) clsX6 dX10_orders_49 rfl mok_X6_runAll kM_X10_184 ki_X6_runAll ke_X6_runAll (fo_59 F) (ft_59 F) rfl rfl (leB rfl) (leB rfl) (z0 _) (z0 _) (Wp.mono h ?_)
    intro r3 S5 C4 h
    obtain ⟨F6, h⟩ := h
    show Wp (d + 1) mc ms M_X10_orders 52 [cA 0, cU] [cI r3] S5 C4 Q
    refine wp_istore_n (nx := 53) dX10_orders_52 rfl (by decide) ?_
    refine wp_ls (ls2 := [cA 0, cI r3]) rfl ?_
    refine wp_iload_n (nx := 54) dX10_orders_53 rfl rfl ?_
    refine wp_if_ge (nx := 57) (tg := 65) dX10_orders_54 rfl rfl (fun hc => ?_) (fun hc => ?_)
    · have h := h.1 hc
      refine wp_aload_n (nx := 66) dX10_orders_65 rfl rfl ?_
      refine wp_iload_n (nx := 67) dX10_orders_66 rfl rfl ?_
      refine wp_invV (nx := 70) (N := M_X10_accept) (as := [cI r3]) (st := []) (mc := 0) (ms := 0) (mc' := mc) (ms' := ms) (a := 0) clsX10 dX10_orders_67 rfl mok_X10_accept kM_X10_108 ki_X10_accept ke_X10_accept (fo_0 F6) (ft_0 F6) rfl rfl (leB rfl) (leB rfl) (z0 _) (z0 _) (Wp.mono h ?_)
      intro r7 Sq C8 h
      obtain ⟨e9, h⟩ := h
      rw [e9]
      show Wp (d + 1) mc ms M_X10_orders 70 [cA 0, cI r3] [cI r7] S5 C8 Q
      exact wp_ireturn dX10_orders_70 rfl rfl rfl h
    · have h := h.2 hc
      refine wp_aload_n (nx := 58) dX10_orders_57 rfl rfl ?_
      refine wp_iload_n (nx := 59) dX10_orders_58 rfl rfl ?_
      refine wp_invV (nx := 62) (N := M_X10_refuse) (as := [cI r3]) (st := []) (mc := 0) (ms := 0) (mc' := mc) (ms' := ms) (a := 0) clsX10 dX10_orders_59 rfl mok_X10_refuse kM_X10_91 ki_X10_refuse ke_X10_refuse (fo_0 F6) (ft_0 F6) rfl rfl (leB rfl) (leB rfl) (z0 _) (z0 _) (Wp.mono h ?_)
      intro r9 Sq C10 h
      obtain ⟨e9, h⟩ := h
      rw [e9]
      show Wp (d + 1) mc ms M_X10_orders 62 [cA 0, cI r3] [cI r9] S5 C10 Q
      refine wp_goto (nx := 70) dX10_orders_62 rfl ?_
      exact wp_ireturn dX10_orders_70 rfl rfl rfl h
  · have h := h.2 hc
    refine wp_aload_n (nx := 20) dX10_orders_19 rfl rfl ?_
    refine wp_bipush (nx := 22) dX10_orders_20 rfl ⟨by decide, i32 (by decide)⟩ ?_
    refine wp_invV (nx := 25) (N := M_X10_refuse) (as := [cI (-6)]) (st := []) (mc := 0) (ms := 0) (mc' := mc) (ms' := ms) (a := 0) clsX10 dX10_orders_22 rfl mok_X10_refuse kM_X10_91 ki_X10_refuse ke_X10_refuse (fo_0 F) (ft_0 F) rfl rfl (leB rfl) (leB rfl) (z0 _) (z0 _) (Wp.mono h ?_)
    intro r11 Sq C12 h
    obtain ⟨e9, h⟩ := h
    rw [e9]
    show Wp (d + 1) mc ms M_X10_orders 25 [cA 0, cU] [cI r11] S C12 Q
    exact wp_ireturn dX10_orders_25 rfl rfl rfl h
theorem b_X10_fault_0 {d mc ms : Nat} {S : MS} {C : MC} {Q : Int → MS → MC → Prop} (F : Fix S) (h : Q (C 29 11) S C) : K_X10_fault_0 d mc ms S C Q := by
  show Wp d mc ms M_X10_fault 0 [cA 0] [] S C Q
  refine wp_aload_n (nx := 1) dX10_fault_0 rfl rfl ?_
  refine wp_getAe (kk := 6) (nx := 4) clsX10 dX10_fault_1 rfl kF_X10_42 (by decide) (fo_0 F) (ft_0 F) rfl (fp_0_6 F) ?_
  refine wp_getIe (kk := 11) 11 (nx := 7) clsX4 dX10_fault_4 rfl kF_X10_188 (by decide) (fo_29 F) (ft_29 F) rfl rfl rfl ?_
  exact wp_ireturn dX10_fault_7 rfl rfl rfl h
theorem b_X10_stopped_0 {d mc ms : Nat} {S : MS} {C : MC} {Q : Int → MS → MC → Prop} (F : Fix S) (h : Q (C 59 4) S C) : K_X10_stopped_0 d mc ms S C Q := by
  show Wp d mc ms M_X10_stopped 0 [cA 0] [] S C Q
  refine wp_aload_n (nx := 1) dX10_stopped_0 rfl rfl ?_
  refine wp_getAe (kk := 11) (nx := 4) clsX10 dX10_stopped_1 rfl kF_X10_79 (by decide) (fo_0 F) (ft_0 F) rfl (fp_0_11 F) ?_
  refine wp_getIe (kk := 4) 4 (nx := 7) clsX6 dX10_stopped_4 rfl kF_X10_181 (by decide) (fo_59 F) (ft_59 F) rfl rfl rfl ?_
  exact wp_ireturn dX10_stopped_7 rfl rfl rfl h
theorem b_X10_force_0 {d mc ms : Nat} {l1 : Int} {S : MS} {C : MC} {Q : Int → MS → MC → Prop} (F : Fix S) (h : ((l1 = (-1) → K_X10_accept_0 d 0 0 (C 1 9) S ((upC C 1 9 l1)) (fun r1 Sq C2 => Sq = S ∧ Q r1 S C2)) ∧ (¬ l1 = (-1) → K_X7_hasLaw_0 d 0 0 1 l1 S C (fun r3 Sq C4 => Sq = S ∧ ((¬ r3 = 0 → K_X10_accept_0 d 0 0 (C4 1 9) S ((upC C4 1 9 l1)) (fun r5 Sq C6 => Sq = S ∧ Q r5 S C6)) ∧ (r3 = 0 → K_X10_refuse_0 d 0 0 (-2) S C4 (fun r7 Sq C8 => Sq = S ∧ Q r7 S C8))))))) : K_X10_force_0 (d + 1) mc ms l1 S C Q := by
  show Wp (d + 1) mc ms M_X10_force 0 [cA 0, cI l1, cU] [] S C Q
  refine wp_iload_n (nx := 1) dX10_force_0 rfl rfl ?_
  refine wp_iconst (nx := 2) dX10_force_1 rfl (i32 (by decide)) ?_
  refine wp_icmp_eq (nx := 5) (tg := 23) dX10_force_2 rfl rfl (fun hc => ?_) (fun hc => ?_)
  · have h := h.1 hc
    refine wp_aload_n (nx := 24) dX10_force_23 rfl rfl ?_
    refine wp_getAe (kk := 0) (nx := 27) clsX10 dX10_force_24 rfl kF_X10_12 (by decide) (fo_0 F) (ft_0 F) rfl (fp_0_0 F) ?_
    refine wp_getIe (kk := 9) 9 (nx := 30) clsX7 dX10_force_27 rfl kF_X10_194 (by decide) (fo_1 F) (ft_1 F) rfl rfl rfl ?_
    refine wp_istore_n (nx := 31) dX10_force_30 rfl (by decide) ?_
    refine wp_ls (ls2 := [cA 0, cI l1, cI (C 1 9)]) rfl ?_
    refine wp_aload_n (nx := 32) dX10_force_31 rfl rfl ?_
    refine wp_getAe (kk := 0) (nx := 35) clsX10 dX10_force_32 rfl kF_X10_12 (by decide) (fo_0 F) (ft_0 F) rfl (fp_0_0 F) ?_
    refine wp_iload_n (nx := 36) dX10_force_35 rfl rfl ?_
    refine wp_putIe (kk := 9) 9 (nx := 39) clsX7 dX10_force_36 rfl kF_X10_194 (by decide) (fo_1 F) (ft_1 F) rfl rfl ⟨rfl, rfl⟩ rfl ?_
    refine wp_aload_n (nx := 40) dX10_force_39 rfl rfl ?_
    refine wp_iload_n (nx := 41) dX10_force_40 rfl rfl ?_
    refine wp_invV (nx := 44) (N := M_X10_accept) (as := [cI (C 1 9)]) (st := []) (mc := 0) (ms := 0) (mc' := mc) (ms' := ms) (a := 0) clsX10 dX10_force_41 rfl mok_X10_accept kM_X10_108 ki_X10_accept ke_X10_accept (fo_0 F) (ft_0 F) rfl rfl (leB rfl) (leB rfl) (z0 _) (z0 _) (Wp.mono h ?_)
    intro r1 Sq C2 h
    obtain ⟨e9, h⟩ := h
    rw [e9]
    show Wp (d + 1) mc ms M_X10_force 44 [cA 0, cI l1, cI (C 1 9)] [cI r1] S C2 Q
    exact wp_ireturn dX10_force_44 rfl rfl rfl h
  · have h := h.2 hc
    refine wp_aload_n (nx := 6) dX10_force_5 rfl rfl ?_
    refine wp_getAe (kk := 0) (nx := 9) clsX10 dX10_force_6 rfl kF_X10_12 (by decide) (fo_0 F) (ft_0 F) rfl (fp_0_0 F) ?_
    refine wp_iload_n (nx := 10) dX10_force_9 rfl rfl ?_
    refine wp_invV (nx := 13) (N := M_X7_hasLaw) (as := [cI l1]) (st := []) (mc := 0) (ms := 0) (mc' := mc) (ms' := ms) (a := 1) clsX7 dX10_force_10 rfl mok_X7_hasLaw kM_X10_191 ki_X7_hasLaw ke_X7_hasLaw (fo_1 F) (ft_1 F) rfl rfl (leB rfl) (leB rfl) (z0 _) (z0 _) (Wp.mono h ?_)
    intro r3 Sq C4 h
    obtain ⟨e9, h⟩ := h
    rw [e9]
    show Wp (d + 1) mc ms M_X10_force 13 [cA 0, cI l1, cU] [cI r3] S C4 Q
    refine wp_if_ne (nx := 16) (tg := 23) dX10_force_13 rfl rfl (fun hc => ?_) (fun hc => ?_)
    · have h := h.1 hc
      refine wp_aload_n (nx := 24) dX10_force_23 rfl rfl ?_
      refine wp_getAe (kk := 0) (nx := 27) clsX10 dX10_force_24 rfl kF_X10_12 (by decide) (fo_0 F) (ft_0 F) rfl (fp_0_0 F) ?_
      refine wp_getIe (kk := 9) 9 (nx := 30) clsX7 dX10_force_27 rfl kF_X10_194 (by decide) (fo_1 F) (ft_1 F) rfl rfl rfl ?_
      refine wp_istore_n (nx := 31) dX10_force_30 rfl (by decide) ?_
      refine wp_ls (ls2 := [cA 0, cI l1, cI (C4 1 9)]) rfl ?_
      refine wp_aload_n (nx := 32) dX10_force_31 rfl rfl ?_
      refine wp_getAe (kk := 0) (nx := 35) clsX10 dX10_force_32 rfl kF_X10_12 (by decide) (fo_0 F) (ft_0 F) rfl (fp_0_0 F) ?_
      refine wp_iload_n (nx := 36) dX10_force_35 rfl rfl ?_
      refine wp_putIe (kk := 9) 9 (nx := 39) clsX7 dX10_force_36 rfl kF_X10_194 (by decide) (fo_1 F) (ft_1 F) rfl rfl ⟨rfl, rfl⟩ rfl ?_
      refine wp_aload_n (nx := 40) dX10_force_39 rfl rfl ?_
      refine wp_iload_n (nx := 41) dX10_force_40 rfl rfl ?_
      refine wp_invV (nx := 44) (N := M_X10_accept) (as := [cI (C4 1 9)]) (st := []) (mc := 0) (ms := 0) (mc' := mc) (ms' := ms) (a := 0) clsX10 dX10_force_41 rfl mok_X10_accept kM_X10_108 ki_X10_accept ke_X10_accept (fo_0 F) (ft_0 F) rfl rfl (leB rfl) (leB rfl) (z0 _) (z0 _) (Wp.mono h ?_)
      intro r5 Sq C6 h
      obtain ⟨e9, h⟩ := h
      rw [e9]
      show Wp (d + 1) mc ms M_X10_force 44 [cA 0, cI l1, cI (C4 1 9)] [cI r5] S C6 Q
      exact wp_ireturn dX10_force_44 rfl rfl rfl h
    · have h := h.2 hc
      refine wp_aload_n (nx := 17) dX10_force_16 rfl rfl ?_
      refine wp_bipush (nx := 19) dX10_force_17 rfl ⟨by decide, i32 (by decide)⟩ ?_
      refine wp_invV (nx := 22) (N := M_X10_refuse) (as := [cI (-2)]) (st := []) (mc := 0) (ms := 0) (mc' := mc) (ms' := ms) (a := 0) clsX10 dX10_force_19 rfl mok_X10_refuse kM_X10_91 ki_X10_refuse ke_X10_refuse (fo_0 F) (ft_0 F) rfl rfl (leB rfl) (leB rfl) (z0 _) (z0 _) (Wp.mono h ?_)
      intro r7 Sq C8 h
      obtain ⟨e9, h⟩ := h
      rw [e9]
      show Wp (d + 1) mc ms M_X10_force 22 [cA 0, cI l1, cU] [cI r7] S C8 Q
      exact wp_ireturn dX10_force_22 rfl rfl rfl h
theorem b_X10_note_0 {d mc ms : Nat} {l1 l2 : Int} {S : MS} {C : MC} {Q : Int → MS → MC → Prop} (F : Fix S) (h : K_X10_change_0 d 0 0 0 l1 l2 S C (fun r1 Sq C2 => Sq = S ∧ Q r1 S C2)) : K_X10_note_0 (d + 1) mc ms l1 l2 S C Q := by
  show Wp (d + 1) mc ms M_X10_note 0 [cA 0, cI l1, cI l2] [] S C Q
  refine wp_aload_n (nx := 1) dX10_note_0 rfl rfl ?_
  refine wp_iconst (nx := 2) dX10_note_1 rfl (i32 (by decide)) ?_
  refine wp_iload_n (nx := 3) dX10_note_2 rfl rfl ?_
  refine wp_iload_n (nx := 4) dX10_note_3 rfl rfl ?_
  refine wp_invV (nx := 7) (N := M_X10_change) (as := [cI 0, cI l1, cI l2]) (st := []) (mc := 0) (ms := 0) (mc' := mc) (ms' := ms) (a := 0) clsX10 dX10_note_4 rfl mok_X10_change kM_X10_197 ki_X10_change ke_X10_change (fo_0 F) (ft_0 F) rfl rfl (leB rfl) (leB rfl) (z0 _) (z0 _) (Wp.mono h ?_)
  intro r1 Sq C2 h
  obtain ⟨e9, h⟩ := h
  rw [e9]
  show Wp (d + 1) mc ms M_X10_note 7 [cA 0, cI l1, cI l2] [cI r1] S C2 Q
  exact wp_ireturn dX10_note_7 rfl rfl rfl h
theorem b_X10_give_0 {d mc ms : Nat} {l1 l2 : Int} {S : MS} {C : MC} {Q : Int → MS → MC → Prop} (F : Fix S) (h : K_X10_change_0 d 0 0 1 l1 l2 S C (fun r1 Sq C2 => Sq = S ∧ Q r1 S C2)) : K_X10_give_0 (d + 1) mc ms l1 l2 S C Q := by
  show Wp (d + 1) mc ms M_X10_give 0 [cA 0, cI l1, cI l2] [] S C Q
  refine wp_aload_n (nx := 1) dX10_give_0 rfl rfl ?_
  refine wp_iconst (nx := 2) dX10_give_1 rfl (i32 (by decide)) ?_
  refine wp_iload_n (nx := 3) dX10_give_2 rfl rfl ?_
  refine wp_iload_n (nx := 4) dX10_give_3 rfl rfl ?_
  refine wp_invV (nx := 7) (N := M_X10_change) (as := [cI 1, cI l1, cI l2]) (st := []) (mc := 0) (ms := 0) (mc' := mc) (ms' := ms) (a := 0) clsX10 dX10_give_4 rfl mok_X10_change kM_X10_197 ki_X10_change ke_X10_change (fo_0 F) (ft_0 F) rfl rfl (leB rfl) (leB rfl) (z0 _) (z0 _) (Wp.mono h ?_)
  intro r1 Sq C2 h
  obtain ⟨e9, h⟩ := h
  rw [e9]
  show Wp (d + 1) mc ms M_X10_give 7 [cA 0, cI l1, cI l2] [cI r1] S C2 Q
  exact wp_ireturn dX10_give_7 rfl rfl rfl h
theorem b_X10_shift_0 {d mc ms : Nat} {l1 : Int} {S : MS} {C : MC} {Q : Int → MS → MC → Prop} (F : Fix S) (h : K_X10_change_0 d 0 0 2 l1 0 S C (fun r1 Sq C2 => Sq = S ∧ Q r1 S C2)) : K_X10_shift_0 (d + 1) mc ms l1 S C Q := by
  show Wp (d + 1) mc ms M_X10_shift 0 [cA 0, cI l1] [] S C Q
  refine wp_aload_n (nx := 1) dX10_shift_0 rfl rfl ?_
  refine wp_iconst (nx := 2) dX10_shift_1 rfl (i32 (by decide)) ?_
  refine wp_iload_n (nx := 3) dX10_shift_2 rfl rfl ?_
  refine wp_iconst (nx := 4) dX10_shift_3 rfl (i32 (by decide)) ?_
  refine wp_invV (nx := 7) (N := M_X10_change) (as := [cI 2, cI l1, cI 0]) (st := []) (mc := 0) (ms := 0) (mc' := mc) (ms' := ms) (a := 0) clsX10 dX10_shift_4 rfl mok_X10_change kM_X10_197 ki_X10_change ke_X10_change (fo_0 F) (ft_0 F) rfl rfl (leB rfl) (leB rfl) (z0 _) (z0 _) (Wp.mono h ?_)
  intro r1 Sq C2 h
  obtain ⟨e9, h⟩ := h
  rw [e9]
  show Wp (d + 1) mc ms M_X10_shift 7 [cA 0, cI l1] [cI r1] S C2 Q
  exact wp_ireturn dX10_shift_7 rfl rfl rfl h
theorem b_X10_pass_0 {d mc ms : Nat} {S : MS} {C : MC} {Q : Int → MS → MC → Prop} (F : Fix S) (h : K_X10_change_0 d 0 0 3 0 0 S C (fun r1 Sq C2 => Sq = S ∧ Q r1 S C2)) : K_X10_pass_0 (d + 1) mc ms S C Q := by
  show Wp (d + 1) mc ms M_X10_pass 0 [cA 0] [] S C Q
  refine wp_aload_n (nx := 1) dX10_pass_0 rfl rfl ?_
  refine wp_iconst (nx := 2) dX10_pass_1 rfl (i32 (by decide)) ?_
  refine wp_iconst (nx := 3) dX10_pass_2 rfl (i32 (by decide)) ?_
  refine wp_iconst (nx := 4) dX10_pass_3 rfl (i32 (by decide)) ?_
  refine wp_invV (nx := 7) (N := M_X10_change) (as := [cI 3, cI 0, cI 0]) (st := []) (mc := 0) (ms := 0) (mc' := mc) (ms' := ms) (a := 0) clsX10 dX10_pass_4 rfl mok_X10_change kM_X10_197 ki_X10_change ke_X10_change (fo_0 F) (ft_0 F) rfl rfl (leB rfl) (leB rfl) (z0 _) (z0 _) (Wp.mono h ?_)
  intro r1 Sq C2 h
  obtain ⟨e9, h⟩ := h
  rw [e9]
  show Wp (d + 1) mc ms M_X10_pass 7 [cA 0] [cI r1] S C2 Q
  exact wp_ireturn dX10_pass_7 rfl rfl rfl h
theorem b_X10_undo_0 {d mc ms : Nat} {S : MS} {C : MC} {Q : Int → MS → MC → Prop} (F : Fix S) (h : K_X0_takeBack_0 d 0 0 S C (fun r1 Sq C2 => Sq = S ∧ ((0 ≤ r1 → K_X10_accept_0 d 0 0 r1 S C2 (fun r3 Sq C4 => Sq = S ∧ Q r3 S C4)) ∧ (¬ 0 ≤ r1 → K_X10_refuse_0 d 0 0 (-3) S C2 (fun r5 Sq C6 => Sq = S ∧ Q r5 S C6))))) : K_X10_undo_0 (d + 1) mc ms S C Q := by
  show Wp (d + 1) mc ms M_X10_undo 0 [cA 0, cU] [] S C Q
  refine wp_aload_n (nx := 1) dX10_undo_0 rfl rfl ?_
  refine wp_getAe (kk := 10) (nx := 4) clsX10 dX10_undo_1 rfl kF_X10_72 (by decide) (fo_0 F) (ft_0 F) rfl (fp_0_10 F) ?_
  refine wp_aload_n (nx := 5) dX10_undo_4 rfl rfl ?_
  refine wp_getAe (kk := 0) (nx := 8) clsX10 dX10_undo_5 rfl kF_X10_12 (by decide) (fo_0 F) (ft_0 F) rfl (fp_0_0 F) ?_
  refine wp_invV (nx := 11) (N := M_X0_takeBack) (as := [cA 1]) (st := []) (mc := 0) (ms := 0) (mc' := mc) (ms' := ms) (a := 55) clsX0 dX10_undo_8 rfl mok_X0_takeBack kM_X10_201 ki_X0_takeBack ke_X0_takeBack (fo_55 F) (ft_55 F) rfl rfl (leB rfl) (leB rfl) (z0 _) (z0 _) (Wp.mono h ?_)
  intro r1 Sq C2 h
  obtain ⟨e9, h⟩ := h
  rw [e9]
  show Wp (d + 1) mc ms M_X10_undo 11 [cA 0, cU] [cI r1] S C2 Q
  refine wp_istore_n (nx := 12) dX10_undo_11 rfl (by decide) ?_
  refine wp_ls (ls2 := [cA 0, cI r1]) rfl ?_
  refine wp_iload_n (nx := 13) dX10_undo_12 rfl rfl ?_
  refine wp_if_ge (nx := 16) (tg := 25) dX10_undo_13 rfl rfl (fun hc => ?_) (fun hc => ?_)
  · have h := h.1 hc
    refine wp_aload_n (nx := 26) dX10_undo_25 rfl rfl ?_
    refine wp_iload_n (nx := 27) dX10_undo_26 rfl rfl ?_
    refine wp_invV (nx := 30) (N := M_X10_accept) (as := [cI r1]) (st := []) (mc := 0) (ms := 0) (mc' := mc) (ms' := ms) (a := 0) clsX10 dX10_undo_27 rfl mok_X10_accept kM_X10_108 ki_X10_accept ke_X10_accept (fo_0 F) (ft_0 F) rfl rfl (leB rfl) (leB rfl) (z0 _) (z0 _) (Wp.mono h ?_)
    intro r3 Sq C4 h
    obtain ⟨e9, h⟩ := h
    rw [e9]
    show Wp (d + 1) mc ms M_X10_undo 30 [cA 0, cI r1] [cI r3] S C4 Q
    exact wp_ireturn dX10_undo_30 rfl rfl rfl h
  · have h := h.2 hc
    refine wp_aload_n (nx := 17) dX10_undo_16 rfl rfl ?_
    refine wp_bipush (nx := 19) dX10_undo_17 rfl ⟨by decide, i32 (by decide)⟩ ?_
    refine wp_invV (nx := 22) (N := M_X10_refuse) (as := [cI (-3)]) (st := []) (mc := 0) (ms := 0) (mc' := mc) (ms' := ms) (a := 0) clsX10 dX10_undo_19 rfl mok_X10_refuse kM_X10_91 ki_X10_refuse ke_X10_refuse (fo_0 F) (ft_0 F) rfl rfl (leB rfl) (leB rfl) (z0 _) (z0 _) (Wp.mono h ?_)
    intro r5 Sq C6 h
    obtain ⟨e9, h⟩ := h
    rw [e9]
    show Wp (d + 1) mc ms M_X10_undo 22 [cA 0, cI r1] [cI r5] S C6 Q
    refine wp_goto (nx := 30) dX10_undo_22 rfl ?_
    exact wp_ireturn dX10_undo_30 rfl rfl rfl h
theorem b_X10_drill_0 {d mc ms : Nat} {S : MS} {C : MC} {Q : Int → MS → MC → Prop} (F : Fix S) (h : K_X3_firstLost_0 d 0 0 1 S C (fun r1 S3 C2 => Fix S3 ∧ Q r1 S3 C2)) : K_X10_drill_0 (d + 1) mc ms S C Q := by
  show Wp (d + 1) mc ms M_X10_drill 0 [cA 0] [] S C Q
  refine wp_aload_n (nx := 1) dX10_drill_0 rfl rfl ?_
  refine wp_getAe (kk := 8) (nx := 4) clsX10 dX10_drill_1 rfl kF_X10_58 (by decide) (fo_0 F) (ft_0 F) rfl (fp_0_8 F) ?_
  refine wp_aload_n (nx := 5) dX10_drill_4 rfl rfl ?_
  refine wp_getAe (kk := 0) (nx := 8) clsX10 dX10_drill_5 rfl kF_X10_12 (by decide) (fo_0 F) (ft_0 F) rfl (fp_0_0 F) ?_
  refine wp_invV (nx := 11) (N := M_X3_firstLost) (as := [cA 1]) (st := []) (mc := 0) (ms := 0) (mc' := mc) (ms' := ms) (a := 44) clsX3 dX10_drill_8 rfl mok_X3_firstLost kM_X10_205 ki_X3_firstLost ke_X3_firstLost (fo_44 F) (ft_44 F) rfl rfl (leB rfl) (leB rfl) (z0 _) (z0 _) (Wp.mono h ?_)
  intro r1 S3 C2 h
  obtain ⟨F4, h⟩ := h
  show Wp (d + 1) mc ms M_X10_drill 11 [cA 0] [cI r1] S3 C2 Q
  exact wp_ireturn dX10_drill_11 rfl rfl rfl h
theorem b_X10_least_0 {d mc ms : Nat} {l1 : Int} {S : MS} {C : MC} {Q : Int → MS → MC → Prop} (F : Fix S) (h : ((¬ l1 = (-1) → K_X10_isBeat_0 d 0 0 l1 S C (fun r1 Sq C2 => Sq = S ∧ ((r1 = 0 → Q (-1) S C2) ∧ (¬ r1 = 0 → K_X3_mindedAt_0 d 0 0 1 l1 S C2 (fun r3 S5 C4 => Fix S5 ∧ Q r3 S5 C4))))) ∧ (l1 = (-1) → K_X3_mindedInAll_0 d 0 0 1 S C (fun r7 S9 C8 => Fix S9 ∧ Q r7 S9 C8)))) : K_X10_least_0 (d + 1) mc ms l1 S C Q := by
  show Wp (d + 1) mc ms M_X10_least 0 [cA 0, cI l1] [] S C Q
  refine wp_iload_n (nx := 1) dX10_least_0 rfl rfl ?_
  refine wp_iconst (nx := 2) dX10_least_1 rfl (i32 (by decide)) ?_
  refine wp_icmp_ne (nx := 5) (tg := 17) dX10_least_2 rfl rfl (fun hc => ?_) (fun hc => ?_)
  · have h := h.1 hc
    refine wp_iload_n (nx := 18) dX10_least_17 rfl rfl ?_
    refine wp_invS (nx := 21) (N := M_X10_isBeat) (as := [cI l1]) (st := []) (mc := 0) (ms := 0) (mc' := mc) (ms' := ms) dX10_least_18 rfl mok_X10_isBeat kM_X10_124 ks_X10_isBeat rfl rfl (leB rfl) (leB rfl) (z0 _) (z0 _) (Wp.mono h ?_)
    intro r1 Sq C2 h
    obtain ⟨e9, h⟩ := h
    rw [e9]
    show Wp (d + 1) mc ms M_X10_least 21 [cA 0, cI l1] [cI r1] S C2 Q
    refine wp_if_eq (nx := 24) (tg := 39) dX10_least_21 rfl rfl (fun hc => ?_) (fun hc => ?_)
    · have h := h.1 hc
      refine wp_iconst (nx := 40) dX10_least_39 rfl (i32 (by decide)) ?_
      exact wp_ireturn dX10_least_40 rfl rfl rfl h
    · have h := h.2 hc
      refine wp_aload_n (nx := 25) dX10_least_24 rfl rfl ?_
      refine wp_getAe (kk := 8) (nx := 28) clsX10 dX10_least_25 rfl kF_X10_58 (by decide) (fo_0 F) (ft_0 F) rfl (fp_0_8 F) ?_
      refine wp_aload_n (nx := 29) dX10_least_28 rfl rfl ?_
      refine wp_getAe (kk := 0) (nx := 32) clsX10 dX10_least_29 rfl kF_X10_12 (by decide) (fo_0 F) (ft_0 F) rfl (fp_0_0 F) ?_
      refine wp_iload_n (nx := 33) dX10_least_32 rfl rfl ?_
      refine wp_invV (nx := 36) (N := M_X3_mindedAt) (as := [cA 1, cI l1]) (st := []) (mc := 0) (ms := 0) (mc' := mc) (ms' := ms) (a := 44) clsX3 dX10_least_33 rfl mok_X3_mindedAt kM_X10_211 ki_X3_mindedAt ke_X3_mindedAt (fo_44 F) (ft_44 F) rfl rfl (leB rfl) (leB rfl) (z0 _) (z0 _) (Wp.mono h ?_)
      intro r3 S5 C4 h
      obtain ⟨F6, h⟩ := h
      show Wp (d + 1) mc ms M_X10_least 36 [cA 0, cI l1] [cI r3] S5 C4 Q
      refine wp_goto (nx := 40) dX10_least_36 rfl ?_
      exact wp_ireturn dX10_least_40 rfl rfl rfl h
  · have h := h.2 hc
    refine wp_aload_n (nx := 6) dX10_least_5 rfl rfl ?_
    refine wp_getAe (kk := 8) (nx := 9) clsX10 dX10_least_6 rfl kF_X10_58 (by decide) (fo_0 F) (ft_0 F) rfl (fp_0_8 F) ?_
    refine wp_aload_n (nx := 10) dX10_least_9 rfl rfl ?_
    refine wp_getAe (kk := 0) (nx := 13) clsX10 dX10_least_10 rfl kF_X10_12 (by decide) (fo_0 F) (ft_0 F) rfl (fp_0_0 F) ?_
    refine wp_invV (nx := 16) (N := M_X3_mindedInAll) (as := [cA 1]) (st := []) (mc := 0) (ms := 0) (mc' := mc) (ms' := ms) (a := 44) clsX3 dX10_least_13 rfl mok_X3_mindedInAll kM_X10_208 ki_X3_mindedInAll ke_X3_mindedInAll (fo_44 F) (ft_44 F) rfl rfl (leB rfl) (leB rfl) (z0 _) (z0 _) (Wp.mono h ?_)
    intro r7 S9 C8 h
    obtain ⟨F10, h⟩ := h
    show Wp (d + 1) mc ms M_X10_least 16 [cA 0, cI l1] [cI r7] S9 C8 Q
    exact wp_ireturn dX10_least_16 rfl rfl rfl h
theorem b_X10_who_0 {d mc ms : Nat} {l1 l2 : Int} {S : MS} {C : MC} {Q : Int → MS → MC → Prop} (F : Fix S) (h : K_X10_isBeat_0 d 0 0 l1 S C (fun r1 Sq C2 => Sq = S ∧ ((r1 = 0 → Q (-1) S C2) ∧ (¬ r1 = 0 → K_X10_isKey_0 d 0 0 l2 S C2 (fun r3 Sq C4 => Sq = S ∧ ((¬ r3 = 0 → K_X3_lightestWay_0 d 0 0 1 l1 S C4 (fun r5 S7 C6 => Fix S7 ∧ ((0 ≤ lCmp r5 1152921504606846976 → Q (-1) S7 C6) ∧ (¬ 0 ≤ lCmp r5 1152921504606846976 → K_X3_player_0 d 0 0 l2 S7 C6 (fun r9 Sq C10 => Sq = S7 ∧ Q r9 S7 C10))))) ∧ (r3 = 0 → Q (-1) S C4))))))) : K_X10_who_0 (d + 1) mc ms l1 l2 S C Q := by
  show Wp (d + 1) mc ms M_X10_who 0 [cA 0, cI l1, cI l2] [] S C Q
  refine wp_iload_n (nx := 1) dX10_who_0 rfl rfl ?_
  refine wp_invS (nx := 4) (N := M_X10_isBeat) (as := [cI l1]) (st := []) (mc := 0) (ms := 0) (mc' := mc) (ms' := ms) dX10_who_1 rfl mok_X10_isBeat kM_X10_124 ks_X10_isBeat rfl rfl (leB rfl) (leB rfl) (z0 _) (z0 _) (Wp.mono h ?_)
  intro r1 Sq C2 h
  obtain ⟨e9, h⟩ := h
  rw [e9]
  show Wp (d + 1) mc ms M_X10_who 4 [cA 0, cI l1, cI l2] [cI r1] S C2 Q
  refine wp_if_eq (nx := 7) (tg := 14) dX10_who_4 rfl rfl (fun hc => ?_) (fun hc => ?_)
  · have h := h.1 hc
    refine wp_iconst (nx := 15) dX10_who_14 rfl (i32 (by decide)) ?_
    exact wp_ireturn dX10_who_15 rfl rfl rfl h
  · have h := h.2 hc
    refine wp_iload_n (nx := 8) dX10_who_7 rfl rfl ?_
    refine wp_invS (nx := 11) (N := M_X10_isKey) (as := [cI l2]) (st := []) (mc := 0) (ms := 0) (mc' := mc) (ms' := ms) dX10_who_8 rfl mok_X10_isKey kM_X10_118 ks_X10_isKey rfl rfl (leB rfl) (leB rfl) (z0 _) (z0 _) (Wp.mono h ?_)
    intro r3 Sq C4 h
    obtain ⟨e9, h⟩ := h
    rw [e9]
    show Wp (d + 1) mc ms M_X10_who 11 [cA 0, cI l1, cI l2] [cI r3] S C4 Q
    refine wp_if_ne (nx := 14) (tg := 16) dX10_who_11 rfl rfl (fun hc => ?_) (fun hc => ?_)
    · have h := h.1 hc
      refine wp_aload_n (nx := 17) dX10_who_16 rfl rfl ?_
      refine wp_getAe (kk := 8) (nx := 20) clsX10 dX10_who_17 rfl kF_X10_58 (by decide) (fo_0 F) (ft_0 F) rfl (fp_0_8 F) ?_
      refine wp_aload_n (nx := 21) dX10_who_20 rfl rfl ?_
      refine wp_getAe (kk := 0) (nx := 24) clsX10 dX10_who_21 rfl kF_X10_12 (by decide) (fo_0 F) (ft_0 F) rfl (fp_0_0 F) ?_
      refine wp_iload_n (nx := 25) dX10_who_24 rfl rfl ?_
      refine wp_invV (nx := 28) (N := M_X3_lightestWay) (as := [cA 1, cI l1]) (st := []) (mc := 0) (ms := 0) (mc' := mc) (ms' := ms) (a := 44) clsX3 dX10_who_25 rfl mok_X3_lightestWay kM_X10_215 ki_X3_lightestWay ke_X3_lightestWay (fo_44 F) (ft_44 F) rfl rfl (leB rfl) (leB rfl) (z0 _) (z0 _) (Wp.mono h ?_)
      intro r5 S7 C6 h
      obtain ⟨F8, h⟩ := h
      show Wp (d + 1) mc ms M_X10_who 28 [cA 0, cI l1, cI l2] [cJ r5] S7 C6 Q
      refine wp_ldc2 (nx := 31) dX10_who_28 rfl kJ_X10_219 (i64 (by decide)) ?_
      refine wp_lcmp (nx := 32) dX10_who_31 rfl ?_
      refine wp_if_ge (nx := 35) (tg := 46) dX10_who_32 rfl rfl (fun hc => ?_) (fun hc => ?_)
      · have h := h.1 hc
        refine wp_iconst (nx := 47) dX10_who_46 rfl (i32 (by decide)) ?_
        exact wp_ireturn dX10_who_47 rfl rfl rfl h
      · have h := h.2 hc
        refine wp_aload_n (nx := 36) dX10_who_35 rfl rfl ?_
        refine wp_getAe (kk := 8) (nx := 39) clsX10 dX10_who_36 rfl kF_X10_58 (by decide) (fo_0 F8) (ft_0 F8) rfl (fp_0_8 F8) ?_
        refine wp_iload_n (nx := 40) dX10_who_39 rfl rfl ?_
        refine wp_invV (nx := 43) (N := M_X3_player) (as := [cI l2]) (st := []) (mc := 0) (ms := 0) (mc' := mc) (ms' := ms) (a := 44) clsX3 dX10_who_40 rfl mok_X3_player kM_X10_221 ki_X3_player ke_X3_player (fo_44 F8) (ft_44 F8) rfl rfl (leB rfl) (leB rfl) (z0 _) (z0 _) (Wp.mono h ?_)
        intro r9 Sq C10 h
        obtain ⟨e9, h⟩ := h
        rw [e9]
        show Wp (d + 1) mc ms M_X10_who 43 [cA 0, cI l1, cI l2] [cI r9] S7 C10 Q
        refine wp_goto (nx := 47) dX10_who_43 rfl ?_
        exact wp_ireturn dX10_who_47 rfl rfl rfl h
    · have h := h.2 hc
      refine wp_iconst (nx := 15) dX10_who_14 rfl (i32 (by decide)) ?_
      exact wp_ireturn dX10_who_15 rfl rfl rfl h
theorem b_X10_ways_0 {d mc ms : Nat} {l1 : Int} {S : MS} {C : MC} {Q : Int → MS → MC → Prop} (F : Fix S) (h : K_X10_isBeat_0 d 0 0 l1 S C (fun r1 Sq C2 => Sq = S ∧ ((r1 = 0 → Q (-1) S C2) ∧ (¬ r1 = 0 → K_X3_howManyWays_0 d 0 0 1 l1 S C2 (fun r3 S5 C4 => Fix S5 ∧ Q r3 S5 C4))))) : K_X10_ways_0 (d + 1) mc ms l1 S C Q := by
  show Wp (d + 1) mc ms M_X10_ways 0 [cA 0, cI l1] [] S C Q
  refine wp_iload_n (nx := 1) dX10_ways_0 rfl rfl ?_
  refine wp_invS (nx := 4) (N := M_X10_isBeat) (as := [cI l1]) (st := []) (mc := 0) (ms := 0) (mc' := mc) (ms' := ms) dX10_ways_1 rfl mok_X10_isBeat kM_X10_124 ks_X10_isBeat rfl rfl (leB rfl) (leB rfl) (z0 _) (z0 _) (Wp.mono h ?_)
  intro r1 Sq C2 h
  obtain ⟨e9, h⟩ := h
  rw [e9]
  show Wp (d + 1) mc ms M_X10_ways 4 [cA 0, cI l1] [cI r1] S C2 Q
  refine wp_if_eq (nx := 7) (tg := 22) dX10_ways_4 rfl rfl (fun hc => ?_) (fun hc => ?_)
  · have h := h.1 hc
    refine wp_iconst (nx := 23) dX10_ways_22 rfl (i32 (by decide)) ?_
    exact wp_ireturn dX10_ways_23 rfl rfl rfl h
  · have h := h.2 hc
    refine wp_aload_n (nx := 8) dX10_ways_7 rfl rfl ?_
    refine wp_getAe (kk := 8) (nx := 11) clsX10 dX10_ways_8 rfl kF_X10_58 (by decide) (fo_0 F) (ft_0 F) rfl (fp_0_8 F) ?_
    refine wp_aload_n (nx := 12) dX10_ways_11 rfl rfl ?_
    refine wp_getAe (kk := 0) (nx := 15) clsX10 dX10_ways_12 rfl kF_X10_12 (by decide) (fo_0 F) (ft_0 F) rfl (fp_0_0 F) ?_
    refine wp_iload_n (nx := 16) dX10_ways_15 rfl rfl ?_
    refine wp_invV (nx := 19) (N := M_X3_howManyWays) (as := [cA 1, cI l1]) (st := []) (mc := 0) (ms := 0) (mc' := mc) (ms' := ms) (a := 44) clsX3 dX10_ways_16 rfl mok_X3_howManyWays kM_X10_224 ki_X3_howManyWays ke_X3_howManyWays (fo_44 F) (ft_44 F) rfl rfl (leB rfl) (leB rfl) (z0 _) (z0 _) (Wp.mono h ?_)
    intro r3 S5 C4 h
    obtain ⟨F6, h⟩ := h
    show Wp (d + 1) mc ms M_X10_ways 19 [cA 0, cI l1] [cI r3] S5 C4 Q
    refine wp_goto (nx := 23) dX10_ways_19 rfl ?_
    exact wp_ireturn dX10_ways_23 rfl rfl rfl h
theorem b_X10_might_0 {d mc ms : Nat} {l1 l2 : Int} {S : MS} {C : MC} {Q : Int → MS → MC → Prop} (F : Fix S) (h : K_X10_isBeat_0 d 0 0 l1 S C (fun r1 Sq C2 => Sq = S ∧ ((r1 = 0 → Q (-1) S C2) ∧ (¬ r1 = 0 → K_X10_isKey_0 d 0 0 l2 S C2 (fun r3 Sq C4 => Sq = S ∧ ((r3 = 0 → Q (-1) S C4) ∧ (¬ r3 = 0 → K_X3_whoCould_0 d 0 0 1 l1 l2 S C4 (fun r5 S7 C6 => Fix S7 ∧ Q r5 S7 C6)))))))) : K_X10_might_0 (d + 1) mc ms l1 l2 S C Q := by
  show Wp (d + 1) mc ms M_X10_might 0 [cA 0, cI l1, cI l2] [] S C Q
  refine wp_iload_n (nx := 1) dX10_might_0 rfl rfl ?_
  refine wp_invS (nx := 4) (N := M_X10_isBeat) (as := [cI l1]) (st := []) (mc := 0) (ms := 0) (mc' := mc) (ms' := ms) dX10_might_1 rfl mok_X10_isBeat kM_X10_124 ks_X10_isBeat rfl rfl (leB rfl) (leB rfl) (z0 _) (z0 _) (Wp.mono h ?_)
  intro r1 Sq C2 h
  obtain ⟨e9, h⟩ := h
  rw [e9]
  show Wp (d + 1) mc ms M_X10_might 4 [cA 0, cI l1, cI l2] [cI r1] S C2 Q
  refine wp_if_eq (nx := 7) (tg := 30) dX10_might_4 rfl rfl (fun hc => ?_) (fun hc => ?_)
  · have h := h.1 hc
    refine wp_iconst (nx := 31) dX10_might_30 rfl (i32 (by decide)) ?_
    exact wp_ireturn dX10_might_31 rfl rfl rfl h
  · have h := h.2 hc
    refine wp_iload_n (nx := 8) dX10_might_7 rfl rfl ?_
    refine wp_invS (nx := 11) (N := M_X10_isKey) (as := [cI l2]) (st := []) (mc := 0) (ms := 0) (mc' := mc) (ms' := ms) dX10_might_8 rfl mok_X10_isKey kM_X10_118 ks_X10_isKey rfl rfl (leB rfl) (leB rfl) (z0 _) (z0 _) (Wp.mono h ?_)
    intro r3 Sq C4 h
    obtain ⟨e9, h⟩ := h
    rw [e9]
    show Wp (d + 1) mc ms M_X10_might 11 [cA 0, cI l1, cI l2] [cI r3] S C4 Q
    refine wp_if_eq (nx := 14) (tg := 30) dX10_might_11 rfl rfl (fun hc => ?_) (fun hc => ?_)
    · have h := h.1 hc
      refine wp_iconst (nx := 31) dX10_might_30 rfl (i32 (by decide)) ?_
      exact wp_ireturn dX10_might_31 rfl rfl rfl h
    · have h := h.2 hc
      refine wp_aload_n (nx := 15) dX10_might_14 rfl rfl ?_
      refine wp_getAe (kk := 8) (nx := 18) clsX10 dX10_might_15 rfl kF_X10_58 (by decide) (fo_0 F) (ft_0 F) rfl (fp_0_8 F) ?_
      refine wp_aload_n (nx := 19) dX10_might_18 rfl rfl ?_
      refine wp_getAe (kk := 0) (nx := 22) clsX10 dX10_might_19 rfl kF_X10_12 (by decide) (fo_0 F) (ft_0 F) rfl (fp_0_0 F) ?_
      refine wp_iload_n (nx := 23) dX10_might_22 rfl rfl ?_
      refine wp_iload_n (nx := 24) dX10_might_23 rfl rfl ?_
      refine wp_invV (nx := 27) (N := M_X3_whoCould) (as := [cA 1, cI l1, cI l2]) (st := []) (mc := 0) (ms := 0) (mc' := mc) (ms' := ms) (a := 44) clsX3 dX10_might_24 rfl mok_X3_whoCould kM_X10_227 ki_X3_whoCould ke_X3_whoCould (fo_44 F) (ft_44 F) rfl rfl (leB rfl) (leB rfl) (z0 _) (z0 _) (Wp.mono h ?_)
      intro r5 S7 C6 h
      obtain ⟨F8, h⟩ := h
      show Wp (d + 1) mc ms M_X10_might 27 [cA 0, cI l1, cI l2] [cI r5] S7 C6 Q
      refine wp_goto (nx := 31) dX10_might_27 rfl ?_
      exact wp_ireturn dX10_might_31 rfl rfl rfl h
theorem b_X10_cover_0 {d mc ms : Nat} {l1 : Int} {S : MS} {C : MC} {Q : Int → MS → MC → Prop} (F : Fix S) (h : ((l1 < 0 → Q (-1) S C) ∧ (¬ l1 < 0 → ((l1 ≤ 1 → K_X3_fewestHouses_0 d 0 0 1 S C (fun r1 S3 C2 => Fix S3 ∧ ((¬ l1 = 0 → Q r1 S3 C2) ∧ (l1 = 0 → ((r1 = (-1) → Q r1 S3 C2) ∧ (¬ r1 = (-1) → K_J6_bitCount_0f7a4_0 d 0 0 r1 S3 C2 (fun r5 Sq C6 => Sq = S3 ∧ Q r5 S3 C6))))))) ∧ (¬ l1 ≤ 1 → Q (-1) S C))))) : K_X10_cover_0 (d + 1) mc ms l1 S C Q := by
  show Wp (d + 1) mc ms M_X10_cover 0 [cA 0, cI l1, cU] [] S C Q
  refine wp_iload_n (nx := 1) dX10_cover_0 rfl rfl ?_
  refine wp_if_lt (nx := 4) (tg := 9) dX10_cover_1 rfl rfl (fun hc => ?_) (fun hc => ?_)
  · have h := h.1 hc
    refine wp_iconst (nx := 10) dX10_cover_9 rfl (i32 (by decide)) ?_
    exact wp_ireturn dX10_cover_10 rfl rfl rfl h
  · have h := h.2 hc
    refine wp_iload_n (nx := 5) dX10_cover_4 rfl rfl ?_
    refine wp_iconst (nx := 6) dX10_cover_5 rfl (i32 (by decide)) ?_
    refine wp_icmp_le (nx := 9) (tg := 11) dX10_cover_6 rfl rfl (fun hc => ?_) (fun hc => ?_)
    · have h := h.1 hc
      refine wp_aload_n (nx := 12) dX10_cover_11 rfl rfl ?_
      refine wp_getAe (kk := 8) (nx := 15) clsX10 dX10_cover_12 rfl kF_X10_58 (by decide) (fo_0 F) (ft_0 F) rfl (fp_0_8 F) ?_
      refine wp_aload_n (nx := 16) dX10_cover_15 rfl rfl ?_
      refine wp_getAe (kk := 0) (nx := 19) clsX10 dX10_cover_16 rfl kF_X10_12 (by decide) (fo_0 F) (ft_0 F) rfl (fp_0_0 F) ?_
      refine wp_invV (nx := 22) (N := M_X3_fewestHouses) (as := [cA 1]) (st := []) (mc := 0) (ms := 0) (mc' := mc) (ms' := ms) (a := 44) clsX3 dX10_cover_19 rfl mok_X3_fewestHouses kM_X10_231 ki_X3_fewestHouses ke_X3_fewestHouses (fo_44 F) (ft_44 F) rfl rfl (leB rfl) (leB rfl) (z0 _) (z0 _) (Wp.mono h ?_)
      intro r1 S3 C2 h
      obtain ⟨F4, h⟩ := h
      show Wp (d + 1) mc ms M_X10_cover 22 [cA 0, cI l1, cU] [cI r1] S3 C2 Q
      refine wp_istore_n (nx := 23) dX10_cover_22 rfl (by decide) ?_
      refine wp_ls (ls2 := [cA 0, cI l1, cI r1]) rfl ?_
      refine wp_iload_n (nx := 24) dX10_cover_23 rfl rfl ?_
      refine wp_if_ne (nx := 27) (tg := 39) dX10_cover_24 rfl rfl (fun hc => ?_) (fun hc => ?_)
      · have h := h.1 hc
        refine wp_iload_n (nx := 40) dX10_cover_39 rfl rfl ?_
        exact wp_ireturn dX10_cover_40 rfl rfl rfl h
      · have h := h.2 hc
        refine wp_iload_n (nx := 28) dX10_cover_27 rfl rfl ?_
        refine wp_iconst (nx := 29) dX10_cover_28 rfl (i32 (by decide)) ?_
        refine wp_icmp_eq (nx := 32) (tg := 39) dX10_cover_29 rfl rfl (fun hc => ?_) (fun hc => ?_)
        · have h := h.1 hc
          refine wp_iload_n (nx := 40) dX10_cover_39 rfl rfl ?_
          exact wp_ireturn dX10_cover_40 rfl rfl rfl h
        · have h := h.2 hc
          refine wp_iload_n (nx := 33) dX10_cover_32 rfl rfl ?_
          refine wp_invS (nx := 36) (N := M_J6_bitCount_0f7a4) (as := [cI r1]) (st := []) (mc := 0) (ms := 0) (mc' := mc) (ms' := ms) dX10_cover_33 rfl mok_J6_bitCount_0f7a4 kM_X10_234 ks_J6_bitCount_0f7a4 rfl rfl (leB rfl) (leB rfl) (z0 _) (z0 _) (Wp.mono h ?_)
          intro r5 Sq C6 h
          obtain ⟨e9, h⟩ := h
          rw [e9]
          show Wp (d + 1) mc ms M_X10_cover 36 [cA 0, cI l1, cI r1] [cI r5] S3 C6 Q
          refine wp_goto (nx := 40) dX10_cover_36 rfl ?_
          exact wp_ireturn dX10_cover_40 rfl rfl rfl h
    · have h := h.2 hc
      refine wp_iconst (nx := 10) dX10_cover_9 rfl (i32 (by decide)) ?_
      exact wp_ireturn dX10_cover_10 rfl rfl rfl h
theorem b_X10_run_0 {d mc ms : Nat} {l1 l2 : Int} {S : MS} {C : MC} {Q : Int → MS → MC → Prop} (F : Fix S) (h : ((l1 < 0 → Q (-1) S C) ∧ (¬ l1 < 0 → ((iShl 1 (C 1 0) ≤ l1 → Q (-1) S C) ∧ (¬ iShl 1 (C 1 0) ≤ l1 → ((l2 < 0 → Q (-1) S C) ∧ (¬ l2 < 0 → ((l2 ≤ 1 → K_X10_run_39 (d + 1) mc ms l1 l2 0 (-1) 0 0 S C Q) ∧ (¬ l2 ≤ 1 → Q (-1) S C))))))))) : K_X10_run_0 (d + 1) mc ms l1 l2 S C Q := by
  show Wp (d + 1) mc ms M_X10_run 0 [cA 0, cI l1, cI l2, cU, cU, cU, cU] [] S C Q
  refine wp_iload_n (nx := 1) dX10_run_0 rfl rfl ?_
  refine wp_if_lt (nx := 4) (tg := 26) dX10_run_1 rfl rfl (fun hc => ?_) (fun hc => ?_)
  · have h := h.1 hc
    refine wp_iconst (nx := 27) dX10_run_26 rfl (i32 (by decide)) ?_
    exact wp_ireturn dX10_run_27 rfl rfl rfl h
  · have h := h.2 hc
    refine wp_iload_n (nx := 5) dX10_run_4 rfl rfl ?_
    refine wp_iconst (nx := 6) dX10_run_5 rfl (i32 (by decide)) ?_
    refine wp_aload_n (nx := 7) dX10_run_6 rfl rfl ?_
    refine wp_getAe (kk := 0) (nx := 10) clsX10 dX10_run_7 rfl kF_X10_12 (by decide) (fo_0 F) (ft_0 F) rfl (fp_0_0 F) ?_
    refine wp_getIe (kk := 0) 0 (nx := 13) clsX7 dX10_run_10 rfl kF_X10_95 (by decide) (fo_1 F) (ft_1 F) rfl rfl rfl ?_
    refine wp_ishl (nx := 14) dX10_run_13 rfl ?_
    refine wp_icmp_ge (nx := 17) (tg := 26) dX10_run_14 rfl rfl (fun hc => ?_) (fun hc => ?_)
    · have h := h.1 hc
      refine wp_iconst (nx := 27) dX10_run_26 rfl (i32 (by decide)) ?_
      exact wp_ireturn dX10_run_27 rfl rfl rfl h
    · have h := h.2 hc
      refine wp_iload_n (nx := 18) dX10_run_17 rfl rfl ?_
      refine wp_if_lt (nx := 21) (tg := 26) dX10_run_18 rfl rfl (fun hc => ?_) (fun hc => ?_)
      · have h := h.1 hc
        refine wp_iconst (nx := 27) dX10_run_26 rfl (i32 (by decide)) ?_
        exact wp_ireturn dX10_run_27 rfl rfl rfl h
      · have h := h.2 hc
        refine wp_iload_n (nx := 22) dX10_run_21 rfl rfl ?_
        refine wp_iconst (nx := 23) dX10_run_22 rfl (i32 (by decide)) ?_
        refine wp_icmp_le (nx := 26) (tg := 28) dX10_run_23 rfl rfl (fun hc => ?_) (fun hc => ?_)
        · have h := h.1 hc
          refine wp_iconst (nx := 29) dX10_run_28 rfl (i32 (by decide)) ?_
          refine wp_istore_n (nx := 30) dX10_run_29 rfl (by decide) ?_
          refine wp_ls (ls2 := [cA 0, cI l1, cI l2, cI 0, cU, cU, cU]) rfl ?_
          refine wp_iconst (nx := 31) dX10_run_30 rfl (i32 (by decide)) ?_
          refine wp_istore (nx := 33) dX10_run_31 rfl (by decide) ?_
          refine wp_ls (ls2 := [cA 0, cI l1, cI l2, cI 0, cI (-1), cU, cU]) rfl ?_
          refine wp_iconst (nx := 34) dX10_run_33 rfl (i32 (by decide)) ?_
          refine wp_istore (nx := 36) dX10_run_34 rfl (by decide) ?_
          refine wp_ls (ls2 := [cA 0, cI l1, cI l2, cI 0, cI (-1), cI 0, cU]) rfl ?_
          refine wp_iconst (nx := 37) dX10_run_36 rfl (i32 (by decide)) ?_
          refine wp_istore (nx := 39) dX10_run_37 rfl (by decide) ?_
          refine wp_ls (ls2 := [cA 0, cI l1, cI l2, cI 0, cI (-1), cI 0, cI 0]) rfl ?_
          exact h
        · have h := h.2 hc
          refine wp_iconst (nx := 27) dX10_run_26 rfl (i32 (by decide)) ?_
          exact wp_ireturn dX10_run_27 rfl rfl rfl h
theorem b_X10_run_39 {d mc ms : Nat} {l1 l2 l3 l4 l5 l6 : Int} {S : MS} {C : MC} {Q : Int → MS → MC → Prop} (F : Fix S) (h : ((16 ≤ l6 → ((¬ l2 = 0 → Q l4 S C) ∧ (l2 = 0 → Q l3 S C))) ∧ (¬ 16 ≤ l6 → K_X3_canHave_0 d 0 0 1 l6 l1 S C (fun r1 S3 C2 => Fix S3 ∧ ((r1 = 0 → (((0 : Int) ≤ l3 → K_X10_run_39 (d + 1) mc ms l1 l2 l3 l4 0 (w32 (l6 + 1)) S3 C2 Q) ∧ (¬ (0 : Int) ≤ l3 → K_X10_run_39 (d + 1) mc ms l1 l2 0 (w32 ((w32 (l6 - 0)) + 1)) 0 (w32 (l6 + 1)) S3 C2 Q))) ∧ (¬ r1 = 0 → ((w32 (l5 + 1) ≤ l3 → K_X10_run_39 (d + 1) mc ms l1 l2 l3 l4 (w32 (l5 + 1)) (w32 (l6 + 1)) S3 C2 Q) ∧ (¬ w32 (l5 + 1) ≤ l3 → K_X10_run_39 (d + 1) mc ms l1 l2 (w32 (l5 + 1)) (w32 ((w32 (l6 - (w32 (l5 + 1)))) + 1)) (w32 (l5 + 1)) (w32 (l6 + 1)) S3 C2 Q)))))))) : K_X10_run_39 (d + 1) mc ms l1 l2 l3 l4 l5 l6 S C Q := by
  show Wp (d + 1) mc ms M_X10_run 39 [cA 0, cI l1, cI l2, cI l3, cI l4, cI l5, cI l6] [] S C Q
  refine wp_iload (nx := 41) dX10_run_39 rfl rfl ?_
  refine wp_bipush (nx := 43) dX10_run_41 rfl ⟨by decide, i32 (by decide)⟩ ?_
  refine wp_icmp_ge (nx := 46) (tg := 97) dX10_run_43 rfl rfl (fun hc => ?_) (fun hc => ?_)
  · have h := h.1 hc
    refine wp_iload_n (nx := 98) dX10_run_97 rfl rfl ?_
    refine wp_if_ne (nx := 101) (tg := 105) dX10_run_98 rfl rfl (fun hc => ?_) (fun hc => ?_)
    · have h := h.1 hc
      refine wp_iload (nx := 107) dX10_run_105 rfl rfl ?_
      exact wp_ireturn dX10_run_107 rfl rfl rfl h
    · have h := h.2 hc
      refine wp_iload_n (nx := 102) dX10_run_101 rfl rfl ?_
      refine wp_goto (nx := 107) dX10_run_102 rfl ?_
      exact wp_ireturn dX10_run_107 rfl rfl rfl h
  · have h := h.2 hc
    refine wp_aload_n (nx := 47) dX10_run_46 rfl rfl ?_
    refine wp_getAe (kk := 8) (nx := 50) clsX10 dX10_run_47 rfl kF_X10_58 (by decide) (fo_0 F) (ft_0 F) rfl (fp_0_8 F) ?_
    refine wp_aload_n (nx := 51) dX10_run_50 rfl rfl ?_
    refine wp_getAe (kk := 0) (nx := 54) clsX10 dX10_run_51 rfl kF_X10_12 (by decide) (fo_0 F) (ft_0 F) rfl (fp_0_0 F) ?_
    refine wp_iload (nx := 56) dX10_run_54 rfl rfl ?_
    refine wp_iload_n (nx := 57) dX10_run_56 rfl rfl ?_
    refine wp_invV (nx := 60) (N := M_X3_canHave) (as := [cA 1, cI l6, cI l1]) (st := []) (mc := 0) (ms := 0) (mc' := mc) (ms' := ms) (a := 44) clsX3 dX10_run_57 rfl mok_X3_canHave kM_X10_239 ki_X3_canHave ke_X3_canHave (fo_44 F) (ft_44 F) rfl rfl (leB rfl) (leB rfl) (z0 _) (z0 _) (Wp.mono h ?_)
    intro r1 S3 C2 h
    obtain ⟨F4, h⟩ := h
    show Wp (d + 1) mc ms M_X10_run 60 [cA 0, cI l1, cI l2, cI l3, cI l4, cI l5, cI l6] [cI r1] S3 C2 Q
    refine wp_if_eq (nx := 63) (tg := 70) dX10_run_60 rfl rfl (fun hc => ?_) (fun hc => ?_)
    · have h := h.1 hc
      refine wp_iconst (nx := 71) dX10_run_70 rfl (i32 (by decide)) ?_
      refine wp_istore (nx := 73) dX10_run_71 rfl (by decide) ?_
      refine wp_ls (ls2 := [cA 0, cI l1, cI l2, cI l3, cI l4, cI 0, cI l6]) rfl ?_
      refine wp_iload (nx := 75) dX10_run_73 rfl rfl ?_
      refine wp_iload_n (nx := 76) dX10_run_75 rfl rfl ?_
      refine wp_icmp_le (nx := 79) (tg := 91) dX10_run_76 rfl rfl (fun hc => ?_) (fun hc => ?_)
      · have h := h.1 hc
        refine wp_iinc (nx := 94) dX10_run_91 rfl rfl (by decide) ?_
        refine wp_ls (ls2 := [cA 0, cI l1, cI l2, cI l3, cI l4, cI 0, cI (w32 (l6 + 1))]) rfl ?_
        refine wp_goto (nx := 39) dX10_run_94 rfl ?_
        exact h
      · have h := h.2 hc
        refine wp_iload (nx := 81) dX10_run_79 rfl rfl ?_
        refine wp_istore_n (nx := 82) dX10_run_81 rfl (by decide) ?_
        refine wp_ls (ls2 := [cA 0, cI l1, cI l2, cI 0, cI l4, cI 0, cI l6]) rfl ?_
        refine wp_iload (nx := 84) dX10_run_82 rfl rfl ?_
        refine wp_iload (nx := 86) dX10_run_84 rfl rfl ?_
        refine wp_isub (nx := 87) dX10_run_86 rfl ?_
        refine wp_iconst (nx := 88) dX10_run_87 rfl (i32 (by decide)) ?_
        refine wp_iadd (nx := 89) dX10_run_88 rfl ?_
        refine wp_istore (nx := 91) dX10_run_89 rfl (by decide) ?_
        refine wp_ls (ls2 := [cA 0, cI l1, cI l2, cI 0, cI (w32 ((w32 (l6 - 0)) + 1)), cI 0, cI l6]) rfl ?_
        refine wp_iinc (nx := 94) dX10_run_91 rfl rfl (by decide) ?_
        refine wp_ls (ls2 := [cA 0, cI l1, cI l2, cI 0, cI (w32 ((w32 (l6 - 0)) + 1)), cI 0, cI (w32 (l6 + 1))]) rfl ?_
        refine wp_goto (nx := 39) dX10_run_94 rfl ?_
        exact h
    · have h := h.2 hc
      refine wp_iload (nx := 65) dX10_run_63 rfl rfl ?_
      refine wp_iconst (nx := 66) dX10_run_65 rfl (i32 (by decide)) ?_
      refine wp_iadd (nx := 67) dX10_run_66 rfl ?_
      refine wp_goto (nx := 71) dX10_run_67 rfl ?_
      refine wp_istore (nx := 73) dX10_run_71 rfl (by decide) ?_
      refine wp_ls (ls2 := [cA 0, cI l1, cI l2, cI l3, cI l4, cI (w32 (l5 + 1)), cI l6]) rfl ?_
      refine wp_iload (nx := 75) dX10_run_73 rfl rfl ?_
      refine wp_iload_n (nx := 76) dX10_run_75 rfl rfl ?_
      refine wp_icmp_le (nx := 79) (tg := 91) dX10_run_76 rfl rfl (fun hc => ?_) (fun hc => ?_)
      · have h := h.1 hc
        refine wp_iinc (nx := 94) dX10_run_91 rfl rfl (by decide) ?_
        refine wp_ls (ls2 := [cA 0, cI l1, cI l2, cI l3, cI l4, cI (w32 (l5 + 1)), cI (w32 (l6 + 1))]) rfl ?_
        refine wp_goto (nx := 39) dX10_run_94 rfl ?_
        exact h
      · have h := h.2 hc
        refine wp_iload (nx := 81) dX10_run_79 rfl rfl ?_
        refine wp_istore_n (nx := 82) dX10_run_81 rfl (by decide) ?_
        refine wp_ls (ls2 := [cA 0, cI l1, cI l2, cI (w32 (l5 + 1)), cI l4, cI (w32 (l5 + 1)), cI l6]) rfl ?_
        refine wp_iload (nx := 84) dX10_run_82 rfl rfl ?_
        refine wp_iload (nx := 86) dX10_run_84 rfl rfl ?_
        refine wp_isub (nx := 87) dX10_run_86 rfl ?_
        refine wp_iconst (nx := 88) dX10_run_87 rfl (i32 (by decide)) ?_
        refine wp_iadd (nx := 89) dX10_run_88 rfl ?_
        refine wp_istore (nx := 91) dX10_run_89 rfl (by decide) ?_
        refine wp_ls (ls2 := [cA 0, cI l1, cI l2, cI (w32 (l5 + 1)), cI (w32 ((w32 (l6 - (w32 (l5 + 1)))) + 1)), cI (w32 (l5 + 1)), cI l6]) rfl ?_
        refine wp_iinc (nx := 94) dX10_run_91 rfl rfl (by decide) ?_
        refine wp_ls (ls2 := [cA 0, cI l1, cI l2, cI (w32 (l5 + 1)), cI (w32 ((w32 (l6 - (w32 (l5 + 1)))) + 1)), cI (w32 (l5 + 1)), cI (w32 (l6 + 1))]) rfl ?_
        refine wp_goto (nx := 39) dX10_run_94 rfl ?_
        exact h
theorem b_X10_best_0 {d mc ms : Nat} {l1 : Int} {S : MS} {C : MC} {Q : Int → MS → MC → Prop} (F : Fix S) (h : ((l1 < 0 → Q (-100) S C) ∧ (¬ l1 < 0 → ((l1 ≤ 1 → K_X10_best_22 (d + 1) mc ms l1 (-100) (-100) (-7) S C Q) ∧ (¬ l1 ≤ 1 → Q (-100) S C))))) : K_X10_best_0 (d + 1) mc ms l1 S C Q := by
  show Wp (d + 1) mc ms M_X10_best 0 [cA 0, cI l1, cU, cU, cU, cU] [] S C Q
  refine wp_iload_n (nx := 1) dX10_best_0 rfl rfl ?_
  refine wp_if_lt (nx := 4) (tg := 9) dX10_best_1 rfl rfl (fun hc => ?_) (fun hc => ?_)
  · have h := h.1 hc
    refine wp_bipush (nx := 11) dX10_best_9 rfl ⟨by decide, i32 (by decide)⟩ ?_
    exact wp_ireturn dX10_best_11 rfl rfl rfl h
  · have h := h.2 hc
    refine wp_iload_n (nx := 5) dX10_best_4 rfl rfl ?_
    refine wp_iconst (nx := 6) dX10_best_5 rfl (i32 (by decide)) ?_
    refine wp_icmp_le (nx := 9) (tg := 12) dX10_best_6 rfl rfl (fun hc => ?_) (fun hc => ?_)
    · have h := h.1 hc
      refine wp_bipush (nx := 14) dX10_best_12 rfl ⟨by decide, i32 (by decide)⟩ ?_
      refine wp_istore_n (nx := 15) dX10_best_14 rfl (by decide) ?_
      refine wp_ls (ls2 := [cA 0, cI l1, cI (-100), cU, cU, cU]) rfl ?_
      refine wp_bipush (nx := 17) dX10_best_15 rfl ⟨by decide, i32 (by decide)⟩ ?_
      refine wp_istore_n (nx := 18) dX10_best_17 rfl (by decide) ?_
      refine wp_ls (ls2 := [cA 0, cI l1, cI (-100), cI (-100), cU, cU]) rfl ?_
      refine wp_bipush (nx := 20) dX10_best_18 rfl ⟨by decide, i32 (by decide)⟩ ?_
      refine wp_istore (nx := 22) dX10_best_20 rfl (by decide) ?_
      refine wp_ls (ls2 := [cA 0, cI l1, cI (-100), cI (-100), cI (-7), cU]) rfl ?_
      exact h
    · have h := h.2 hc
      refine wp_bipush (nx := 11) dX10_best_9 rfl ⟨by decide, i32 (by decide)⟩ ?_
      exact wp_ireturn dX10_best_11 rfl rfl rfl h
theorem b_X10_best_22 {d mc ms : Nat} {l1 l2 l3 l4 : Int} {S : MS} {C : MC} {Q : Int → MS → MC → Prop} (F : Fix S) (h : ((7 < l4 → ((¬ l1 = 0 → Q l3 S C) ∧ (l1 = 0 → Q l2 S C))) ∧ (¬ 7 < l4 → K_X10_mindedIfShifted_0 d 0 0 l4 S C (fun r1 S3 C2 => Fix S3 ∧ ((r1 = (-1) → K_X10_best_22 (d + 1) mc ms l1 l2 l3 (w32 (l4 + 1)) S3 C2 Q) ∧ (¬ r1 = (-1) → ((l3 = (-100) → K_X10_best_22 (d + 1) mc ms l1 l4 r1 (w32 (l4 + 1)) S3 C2 Q) ∧ (¬ l3 = (-100) → ((l3 ≤ r1 → K_X10_best_22 (d + 1) mc ms l1 l2 l3 (w32 (l4 + 1)) S3 C2 Q) ∧ (¬ l3 ≤ r1 → K_X10_best_22 (d + 1) mc ms l1 l4 r1 (w32 (l4 + 1)) S3 C2 Q)))))))))) : K_X10_best_22 (d + 1) mc ms l1 l2 l3 l4 S C Q := by
  show Wp (d + 1) mc ms M_X10_best 22 [cA 0, cI l1, cI l2, cI l3, cI l4, cU] [] S C Q
  refine wp_iload (nx := 24) dX10_best_22 rfl rfl ?_
  refine wp_bipush (nx := 26) dX10_best_24 rfl ⟨by decide, i32 (by decide)⟩ ?_
  refine wp_icmp_gt (nx := 29) (tg := 67) dX10_best_26 rfl rfl (fun hc => ?_) (fun hc => ?_)
  · have h := h.1 hc
    refine wp_iload_n (nx := 68) dX10_best_67 rfl rfl ?_
    refine wp_if_ne (nx := 71) (tg := 75) dX10_best_68 rfl rfl (fun hc => ?_) (fun hc => ?_)
    · have h := h.1 hc
      refine wp_iload_n (nx := 76) dX10_best_75 rfl rfl ?_
      exact wp_ireturn dX10_best_76 rfl rfl rfl h
    · have h := h.2 hc
      refine wp_iload_n (nx := 72) dX10_best_71 rfl rfl ?_
      refine wp_goto (nx := 76) dX10_best_72 rfl ?_
      exact wp_ireturn dX10_best_76 rfl rfl rfl h
  · have h := h.2 hc
    refine wp_aload_n (nx := 30) dX10_best_29 rfl rfl ?_
    refine wp_iload (nx := 32) dX10_best_30 rfl rfl ?_
    refine wp_invV (nx := 35) (N := M_X10_mindedIfShifted) (as := [cI l4]) (st := []) (mc := 0) (ms := 0) (mc' := mc) (ms' := ms) (a := 0) clsX10 dX10_best_32 rfl mok_X10_mindedIfShifted kM_X10_243 ki_X10_mindedIfShifted ke_X10_mindedIfShifted (fo_0 F) (ft_0 F) rfl rfl (leB rfl) (leB rfl) (z0 _) (z0 _) (Wp.mono h ?_)
    intro r1 S3 C2 h
    obtain ⟨F4, h⟩ := h
    show Wp (d + 1) mc ms M_X10_best 35 [cA 0, cI l1, cI l2, cI l3, cI l4, cU] [cI r1] S3 C2 Q
    refine wp_istore (nx := 37) dX10_best_35 rfl (by decide) ?_
    refine wp_ls (ls2 := [cA 0, cI l1, cI l2, cI l3, cI l4, cI r1]) rfl ?_
    refine wp_iload (nx := 39) dX10_best_37 rfl rfl ?_
    refine wp_iconst (nx := 40) dX10_best_39 rfl (i32 (by decide)) ?_
    refine wp_icmp_eq (nx := 43) (tg := 61) dX10_best_40 rfl rfl (fun hc => ?_) (fun hc => ?_)
    · have h := h.1 hc
      refine wp_iinc (nx := 64) dX10_best_61 rfl rfl (by decide) ?_
      refine wp_ls (ls2 := [cA 0, cI l1, cI l2, cI l3, cI (w32 (l4 + 1)), cI r1]) rfl ?_
      refine wp_goto (nx := 22) dX10_best_64 rfl ?_
      refine wp_fg [true, true, true, true, true, false] (ls2 := [cA 0, cI l1, cI l2, cI l3, cI (w32 (l4 + 1)), cU]) rfl ?_
      exact h
    · have h := h.2 hc
      refine wp_iload_n (nx := 44) dX10_best_43 rfl rfl ?_
      refine wp_bipush (nx := 46) dX10_best_44 rfl ⟨by decide, i32 (by decide)⟩ ?_
      refine wp_icmp_eq (nx := 49) (tg := 55) dX10_best_46 rfl rfl (fun hc => ?_) (fun hc => ?_)
      · have h := h.1 hc
        refine wp_iload (nx := 57) dX10_best_55 rfl rfl ?_
        refine wp_istore_n (nx := 58) dX10_best_57 rfl (by decide) ?_
        refine wp_ls (ls2 := [cA 0, cI l1, cI l4, cI l3, cI l4, cI r1]) rfl ?_
        refine wp_iload (nx := 60) dX10_best_58 rfl rfl ?_
        refine wp_istore_n (nx := 61) dX10_best_60 rfl (by decide) ?_
        refine wp_ls (ls2 := [cA 0, cI l1, cI l4, cI r1, cI l4, cI r1]) rfl ?_
        refine wp_iinc (nx := 64) dX10_best_61 rfl rfl (by decide) ?_
        refine wp_ls (ls2 := [cA 0, cI l1, cI l4, cI r1, cI (w32 (l4 + 1)), cI r1]) rfl ?_
        refine wp_goto (nx := 22) dX10_best_64 rfl ?_
        refine wp_fg [true, true, true, true, true, false] (ls2 := [cA 0, cI l1, cI l4, cI r1, cI (w32 (l4 + 1)), cU]) rfl ?_
        exact h
      · have h := h.2 hc
        refine wp_iload (nx := 51) dX10_best_49 rfl rfl ?_
        refine wp_iload_n (nx := 52) dX10_best_51 rfl rfl ?_
        refine wp_icmp_ge (nx := 55) (tg := 61) dX10_best_52 rfl rfl (fun hc => ?_) (fun hc => ?_)
        · have h := h.1 hc
          refine wp_iinc (nx := 64) dX10_best_61 rfl rfl (by decide) ?_
          refine wp_ls (ls2 := [cA 0, cI l1, cI l2, cI l3, cI (w32 (l4 + 1)), cI r1]) rfl ?_
          refine wp_goto (nx := 22) dX10_best_64 rfl ?_
          refine wp_fg [true, true, true, true, true, false] (ls2 := [cA 0, cI l1, cI l2, cI l3, cI (w32 (l4 + 1)), cU]) rfl ?_
          exact h
        · have h := h.2 hc
          refine wp_iload (nx := 57) dX10_best_55 rfl rfl ?_
          refine wp_istore_n (nx := 58) dX10_best_57 rfl (by decide) ?_
          refine wp_ls (ls2 := [cA 0, cI l1, cI l4, cI l3, cI l4, cI r1]) rfl ?_
          refine wp_iload (nx := 60) dX10_best_58 rfl rfl ?_
          refine wp_istore_n (nx := 61) dX10_best_60 rfl (by decide) ?_
          refine wp_ls (ls2 := [cA 0, cI l1, cI l4, cI r1, cI l4, cI r1]) rfl ?_
          refine wp_iinc (nx := 64) dX10_best_61 rfl rfl (by decide) ?_
          refine wp_ls (ls2 := [cA 0, cI l1, cI l4, cI r1, cI (w32 (l4 + 1)), cI r1]) rfl ?_
          refine wp_goto (nx := 22) dX10_best_64 rfl ?_
          refine wp_fg [true, true, true, true, true, false] (ls2 := [cA 0, cI l1, cI l4, cI r1, cI (w32 (l4 + 1)), cU]) rfl ?_
          exact h
theorem b_X10_motif_0 {d mc ms : Nat} {l1 : Int} {S : MS} {C : MC} {Q : Int → MS → MC → Prop} (F : Fix S) (h : ((l1 < 0 → K_X10_refuse_0 d 0 0 (-1) S C (fun r1 Sq C2 => Sq = S ∧ Q r1 S C2)) ∧ (¬ l1 < 0 → ((l1 ≤ 255 → ((C 1 6 < 6 → ((0 : Int) ≤ C 1 6 ∧ C 1 6 < 6) ∧ K_X10_accept_0 d 0 0 (w32 ((C 1 6) + 1)) S ((upC (upC C 6 (C 1 6) l1) 1 6 (w32 ((C 1 6) + 1)))) (fun r3 Sq C4 => Sq = S ∧ Q r3 S C4)) ∧ (¬ C 1 6 < 6 → K_X10_refuse_0 d 0 0 (-5) S C (fun r5 Sq C6 => Sq = S ∧ Q r5 S C6)))) ∧ (¬ l1 ≤ 255 → K_X10_refuse_0 d 0 0 (-1) S C (fun r7 Sq C8 => Sq = S ∧ Q r7 S C8)))))) : K_X10_motif_0 (d + 1) mc ms l1 S C Q := by
  show Wp (d + 1) mc ms M_X10_motif 0 [cA 0, cI l1] [] S C Q
  refine wp_iload_n (nx := 1) dX10_motif_0 rfl rfl ?_
  refine wp_if_lt (nx := 4) (tg := 11) dX10_motif_1 rfl rfl (fun hc => ?_) (fun hc => ?_)
  · have h := h.1 hc
    refine wp_aload_n (nx := 12) dX10_motif_11 rfl rfl ?_
    refine wp_iconst (nx := 13) dX10_motif_12 rfl (i32 (by decide)) ?_
    refine wp_invV (nx := 16) (N := M_X10_refuse) (as := [cI (-1)]) (st := []) (mc := 0) (ms := 0) (mc' := mc) (ms' := ms) (a := 0) clsX10 dX10_motif_13 rfl mok_X10_refuse kM_X10_91 ki_X10_refuse ke_X10_refuse (fo_0 F) (ft_0 F) rfl rfl (leB rfl) (leB rfl) (z0 _) (z0 _) (Wp.mono h ?_)
    intro r1 Sq C2 h
    obtain ⟨e9, h⟩ := h
    rw [e9]
    show Wp (d + 1) mc ms M_X10_motif 16 [cA 0, cI l1] [cI r1] S C2 Q
    exact wp_ireturn dX10_motif_16 rfl rfl rfl h
  · have h := h.2 hc
    refine wp_iload_n (nx := 5) dX10_motif_4 rfl rfl ?_
    refine wp_sipush (nx := 8) dX10_motif_5 rfl ⟨by decide, i32 (by decide)⟩ ?_
    refine wp_icmp_le (nx := 11) (tg := 17) dX10_motif_8 rfl rfl (fun hc => ?_) (fun hc => ?_)
    · have h := h.1 hc
      refine wp_aload_n (nx := 18) dX10_motif_17 rfl rfl ?_
      refine wp_getAe (kk := 0) (nx := 21) clsX10 dX10_motif_18 rfl kF_X10_12 (by decide) (fo_0 F) (ft_0 F) rfl (fp_0_0 F) ?_
      refine wp_getIe (kk := 6) 6 (nx := 24) clsX7 dX10_motif_21 rfl kF_X10_246 (by decide) (fo_1 F) (ft_1 F) rfl rfl rfl ?_
      refine wp_bipush (nx := 26) dX10_motif_24 rfl ⟨by decide, i32 (by decide)⟩ ?_
      refine wp_icmp_lt (nx := 29) (tg := 36) dX10_motif_26 rfl rfl (fun hc => ?_) (fun hc => ?_)
      · have h := h.1 hc
        refine wp_aload_n (nx := 37) dX10_motif_36 rfl rfl ?_
        refine wp_getAe (kk := 0) (nx := 40) clsX10 dX10_motif_37 rfl kF_X10_12 (by decide) (fo_0 F) (ft_0 F) rfl (fp_0_0 F) ?_
        refine wp_getAe (kk := 5) (nx := 43) clsX7 dX10_motif_40 rfl kF_X10_249 (by decide) (fo_1 F) (ft_1 F) rfl (fp_1_5 F) ?_
        refine wp_aload_n (nx := 44) dX10_motif_43 rfl rfl ?_
        refine wp_getAe (kk := 0) (nx := 47) clsX10 dX10_motif_44 rfl kF_X10_12 (by decide) (fo_0 F) (ft_0 F) rfl (fp_0_0 F) ?_
        refine wp_getIe (kk := 6) 6 (nx := 50) clsX7 dX10_motif_47 rfl kF_X10_246 (by decide) (fo_1 F) (ft_1 F) rfl rfl rfl ?_
        refine wp_iload_n (nx := 51) dX10_motif_50 rfl rfl ?_
        obtain ⟨hi, h⟩ := h
        refine wp_iastoreE (nx := 52) dX10_motif_51 rfl (fo_6 F) (fl_6 F) hi (ft_6 F) ?_
        refine wp_aload_n (nx := 53) dX10_motif_52 rfl rfl ?_
        refine wp_getAe (kk := 0) (nx := 56) clsX10 dX10_motif_53 rfl kF_X10_12 (by decide) (fo_0 F) (ft_0 F) rfl (fp_0_0 F) ?_
        refine wp_dup (nx := 57) dX10_motif_56 rfl (k1A _) ?_
        refine wp_getIe (kk := 6) 6 (nx := 60) clsX7 dX10_motif_57 rfl kF_X10_246 (by decide) (fo_1 F) (ft_1 F) rfl rfl (upC_sA (by decide)) ?_
        refine wp_iconst (nx := 61) dX10_motif_60 rfl (i32 (by decide)) ?_
        refine wp_iadd (nx := 62) dX10_motif_61 rfl ?_
        refine wp_putIe (kk := 6) 6 (nx := 65) clsX7 dX10_motif_62 rfl kF_X10_246 (by decide) (fo_1 F) (ft_1 F) rfl rfl ⟨rfl, rfl⟩ rfl ?_
        refine wp_aload_n (nx := 66) dX10_motif_65 rfl rfl ?_
        refine wp_aload_n (nx := 67) dX10_motif_66 rfl rfl ?_
        refine wp_getAe (kk := 0) (nx := 70) clsX10 dX10_motif_67 rfl kF_X10_12 (by decide) (fo_0 F) (ft_0 F) rfl (fp_0_0 F) ?_
        refine wp_getIe (kk := 6) 6 (nx := 73) clsX7 dX10_motif_70 rfl kF_X10_246 (by decide) (fo_1 F) (ft_1 F) rfl rfl upC_h ?_
        refine wp_invV (nx := 76) (N := M_X10_accept) (as := [cI (w32 ((C 1 6) + 1))]) (st := []) (mc := 0) (ms := 0) (mc' := mc) (ms' := ms) (a := 0) clsX10 dX10_motif_73 rfl mok_X10_accept kM_X10_108 ki_X10_accept ke_X10_accept (fo_0 F) (ft_0 F) rfl rfl (leB rfl) (leB rfl) (z0 _) (z0 _) (Wp.mono h ?_)
        intro r3 Sq C4 h
        obtain ⟨e9, h⟩ := h
        rw [e9]
        show Wp (d + 1) mc ms M_X10_motif 76 [cA 0, cI l1] [cI r3] S C4 Q
        exact wp_ireturn dX10_motif_76 rfl rfl rfl h
      · have h := h.2 hc
        refine wp_aload_n (nx := 30) dX10_motif_29 rfl rfl ?_
        refine wp_bipush (nx := 32) dX10_motif_30 rfl ⟨by decide, i32 (by decide)⟩ ?_
        refine wp_invV (nx := 35) (N := M_X10_refuse) (as := [cI (-5)]) (st := []) (mc := 0) (ms := 0) (mc' := mc) (ms' := ms) (a := 0) clsX10 dX10_motif_32 rfl mok_X10_refuse kM_X10_91 ki_X10_refuse ke_X10_refuse (fo_0 F) (ft_0 F) rfl rfl (leB rfl) (leB rfl) (z0 _) (z0 _) (Wp.mono h ?_)
        intro r5 Sq C6 h
        obtain ⟨e9, h⟩ := h
        rw [e9]
        show Wp (d + 1) mc ms M_X10_motif 35 [cA 0, cI l1] [cI r5] S C6 Q
        exact wp_ireturn dX10_motif_35 rfl rfl rfl h
    · have h := h.2 hc
      refine wp_aload_n (nx := 12) dX10_motif_11 rfl rfl ?_
      refine wp_iconst (nx := 13) dX10_motif_12 rfl (i32 (by decide)) ?_
      refine wp_invV (nx := 16) (N := M_X10_refuse) (as := [cI (-1)]) (st := []) (mc := 0) (ms := 0) (mc' := mc) (ms' := ms) (a := 0) clsX10 dX10_motif_13 rfl mok_X10_refuse kM_X10_91 ki_X10_refuse ke_X10_refuse (fo_0 F) (ft_0 F) rfl rfl (leB rfl) (leB rfl) (z0 _) (z0 _) (Wp.mono h ?_)
      intro r7 Sq C8 h
      obtain ⟨e9, h⟩ := h
      rw [e9]
      show Wp (d + 1) mc ms M_X10_motif 16 [cA 0, cI l1] [cI r7] S C8 Q
      exact wp_ireturn dX10_motif_16 rfl rfl rfl h
theorem b_X10_forget_0 {d mc ms : Nat} {S : MS} {C : MC} {Q : Int → MS → MC → Prop} (F : Fix S) (h : Q (C 1 6) S (upC C 1 6 0)) : K_X10_forget_0 d mc ms S C Q := by
  show Wp d mc ms M_X10_forget 0 [cA 0, cU] [] S C Q
  refine wp_aload_n (nx := 1) dX10_forget_0 rfl rfl ?_
  refine wp_getAe (kk := 0) (nx := 4) clsX10 dX10_forget_1 rfl kF_X10_12 (by decide) (fo_0 F) (ft_0 F) rfl (fp_0_0 F) ?_
  refine wp_getIe (kk := 6) 6 (nx := 7) clsX7 dX10_forget_4 rfl kF_X10_246 (by decide) (fo_1 F) (ft_1 F) rfl rfl rfl ?_
  refine wp_istore_n (nx := 8) dX10_forget_7 rfl (by decide) ?_
  refine wp_ls (ls2 := [cA 0, cI (C 1 6)]) rfl ?_
  refine wp_aload_n (nx := 9) dX10_forget_8 rfl rfl ?_
  refine wp_getAe (kk := 0) (nx := 12) clsX10 dX10_forget_9 rfl kF_X10_12 (by decide) (fo_0 F) (ft_0 F) rfl (fp_0_0 F) ?_
  refine wp_iconst (nx := 13) dX10_forget_12 rfl (i32 (by decide)) ?_
  refine wp_putIe (kk := 6) 6 (nx := 16) clsX7 dX10_forget_13 rfl kF_X10_246 (by decide) (fo_1 F) (ft_1 F) rfl rfl ⟨rfl, rfl⟩ rfl ?_
  refine wp_iload_n (nx := 17) dX10_forget_16 rfl rfl ?_
  exact wp_ireturn dX10_forget_17 rfl rfl rfl h
theorem b_X10_find_0 {d mc ms : Nat} {l1 : Int} {S : MS} {C : MC} {Q : Int → MS → MC → Prop} (F : Fix S) (h : ((l1 < (-1) → Q (-1) S C) ∧ (¬ l1 < (-1) → ((¬ C 1 6 = 0 → K_X7_motifHasKeys_0 d 0 0 1 S C (fun r1 Sq C2 => Sq = S ∧ ((r1 = 0 → K_X10_find_39 (d + 1) mc ms l1 0 0 0 S C2 Q) ∧ (¬ r1 = 0 → K_X10_find_39 (d + 1) mc ms l1 7 0 0 S C2 Q)))) ∧ (C 1 6 = 0 → Q (-1) S C))))) : K_X10_find_0 (d + 1) mc ms l1 S C Q := by
  show Wp (d + 1) mc ms M_X10_find 0 [cA 0, cI l1, cU, cU, cU, cU] [] S C Q
  refine wp_iload_n (nx := 1) dX10_find_0 rfl rfl ?_
  refine wp_iconst (nx := 2) dX10_find_1 rfl (i32 (by decide)) ?_
  refine wp_icmp_lt (nx := 5) (tg := 15) dX10_find_2 rfl rfl (fun hc => ?_) (fun hc => ?_)
  · have h := h.1 hc
    refine wp_iconst (nx := 16) dX10_find_15 rfl (i32 (by decide)) ?_
    exact wp_ireturn dX10_find_16 rfl rfl rfl h
  · have h := h.2 hc
    refine wp_aload_n (nx := 6) dX10_find_5 rfl rfl ?_
    refine wp_getAe (kk := 0) (nx := 9) clsX10 dX10_find_6 rfl kF_X10_12 (by decide) (fo_0 F) (ft_0 F) rfl (fp_0_0 F) ?_
    refine wp_getIe (kk := 6) 6 (nx := 12) clsX7 dX10_find_9 rfl kF_X10_246 (by decide) (fo_1 F) (ft_1 F) rfl rfl rfl ?_
    refine wp_if_ne (nx := 15) (tg := 17) dX10_find_12 rfl rfl (fun hc => ?_) (fun hc => ?_)
    · have h := h.1 hc
      refine wp_aload_n (nx := 18) dX10_find_17 rfl rfl ?_
      refine wp_getAe (kk := 0) (nx := 21) clsX10 dX10_find_18 rfl kF_X10_12 (by decide) (fo_0 F) (ft_0 F) rfl (fp_0_0 F) ?_
      refine wp_invV (nx := 24) (N := M_X7_motifHasKeys) (as := []) (st := []) (mc := 0) (ms := 0) (mc' := mc) (ms' := ms) (a := 1) clsX7 dX10_find_21 rfl mok_X7_motifHasKeys kM_X10_252 ki_X7_motifHasKeys ke_X7_motifHasKeys (fo_1 F) (ft_1 F) rfl rfl (leB rfl) (leB rfl) (z0 _) (z0 _) (Wp.mono h ?_)
      intro r1 Sq C2 h
      obtain ⟨e9, h⟩ := h
      rw [e9]
      show Wp (d + 1) mc ms M_X10_find 24 [cA 0, cI l1, cU, cU, cU, cU] [cI r1] S C2 Q
      refine wp_if_eq (nx := 27) (tg := 32) dX10_find_24 rfl rfl (fun hc => ?_) (fun hc => ?_)
      · have h := h.1 hc
        refine wp_iconst (nx := 33) dX10_find_32 rfl (i32 (by decide)) ?_
        refine wp_istore_n (nx := 34) dX10_find_33 rfl (by decide) ?_
        refine wp_ls (ls2 := [cA 0, cI l1, cI 0, cU, cU, cU]) rfl ?_
        refine wp_iconst (nx := 35) dX10_find_34 rfl (i32 (by decide)) ?_
        refine wp_istore_n (nx := 36) dX10_find_35 rfl (by decide) ?_
        refine wp_ls (ls2 := [cA 0, cI l1, cI 0, cI 0, cU, cU]) rfl ?_
        refine wp_iconst (nx := 37) dX10_find_36 rfl (i32 (by decide)) ?_
        refine wp_istore (nx := 39) dX10_find_37 rfl (by decide) ?_
        refine wp_ls (ls2 := [cA 0, cI l1, cI 0, cI 0, cI 0, cU]) rfl ?_
        exact h
      · have h := h.2 hc
        refine wp_bipush (nx := 29) dX10_find_27 rfl ⟨by decide, i32 (by decide)⟩ ?_
        refine wp_goto (nx := 33) dX10_find_29 rfl ?_
        refine wp_istore_n (nx := 34) dX10_find_33 rfl (by decide) ?_
        refine wp_ls (ls2 := [cA 0, cI l1, cI 7, cU, cU, cU]) rfl ?_
        refine wp_iconst (nx := 35) dX10_find_34 rfl (i32 (by decide)) ?_
        refine wp_istore_n (nx := 36) dX10_find_35 rfl (by decide) ?_
        refine wp_ls (ls2 := [cA 0, cI l1, cI 7, cI 0, cU, cU]) rfl ?_
        refine wp_iconst (nx := 37) dX10_find_36 rfl (i32 (by decide)) ?_
        refine wp_istore (nx := 39) dX10_find_37 rfl (by decide) ?_
        refine wp_ls (ls2 := [cA 0, cI l1, cI 7, cI 0, cI 0, cU]) rfl ?_
        exact h
    · have h := h.2 hc
      refine wp_iconst (nx := 16) dX10_find_15 rfl (i32 (by decide)) ?_
      exact wp_ireturn dX10_find_16 rfl rfl rfl h
theorem b_X10_find_39 {d mc ms : Nat} {l1 l2 l3 l4 : Int} {S : MS} {C : MC} {Q : Int → MS → MC → Prop} (F : Fix S) (h : ((16 < w32 (l4 + (C 1 6)) → ((¬ l1 = (-1) → Q (-1) S C) ∧ (l1 = (-1) → Q l3 S C))) ∧ (¬ 16 < w32 (l4 + (C 1 6)) → K_X10_find_58 (d + 1) mc ms l1 l2 l3 l4 (w32 (-l2)) S C Q))) : K_X10_find_39 (d + 1) mc ms l1 l2 l3 l4 S C Q := by
  show Wp (d + 1) mc ms M_X10_find 39 [cA 0, cI l1, cI l2, cI l3, cI l4, cU] [] S C Q
  refine wp_iload (nx := 41) dX10_find_39 rfl rfl ?_
  refine wp_aload_n (nx := 42) dX10_find_41 rfl rfl ?_
  refine wp_getAe (kk := 0) (nx := 45) clsX10 dX10_find_42 rfl kF_X10_12 (by decide) (fo_0 F) (ft_0 F) rfl (fp_0_0 F) ?_
  refine wp_getIe (kk := 6) 6 (nx := 48) clsX7 dX10_find_45 rfl kF_X10_246 (by decide) (fo_1 F) (ft_1 F) rfl rfl rfl ?_
  refine wp_iadd (nx := 49) dX10_find_48 rfl ?_
  refine wp_bipush (nx := 51) dX10_find_49 rfl ⟨by decide, i32 (by decide)⟩ ?_
  refine wp_icmp_gt (nx := 54) (tg := 110) dX10_find_51 rfl rfl (fun hc => ?_) (fun hc => ?_)
  · have h := h.1 hc
    refine wp_iload_n (nx := 111) dX10_find_110 rfl rfl ?_
    refine wp_iconst (nx := 112) dX10_find_111 rfl (i32 (by decide)) ?_
    refine wp_icmp_ne (nx := 115) (tg := 119) dX10_find_112 rfl rfl (fun hc => ?_) (fun hc => ?_)
    · have h := h.1 hc
      refine wp_iconst (nx := 120) dX10_find_119 rfl (i32 (by decide)) ?_
      exact wp_ireturn dX10_find_120 rfl rfl rfl h
    · have h := h.2 hc
      refine wp_iload_n (nx := 116) dX10_find_115 rfl rfl ?_
      refine wp_goto (nx := 120) dX10_find_116 rfl ?_
      exact wp_ireturn dX10_find_120 rfl rfl rfl h
  · have h := h.2 hc
    refine wp_iload_n (nx := 55) dX10_find_54 rfl rfl ?_
    refine wp_ineg (nx := 56) dX10_find_55 rfl ?_
    refine wp_istore (nx := 58) dX10_find_56 rfl (by decide) ?_
    refine wp_ls (ls2 := [cA 0, cI l1, cI l2, cI l3, cI l4, cI (w32 (-l2))]) rfl ?_
    exact h
theorem b_X10_find_58 {d mc ms : Nat} {l1 l2 l3 l4 l5 : Int} {S : MS} {C : MC} {Q : Int → MS → MC → Prop} (F : Fix S) (h : ((l2 < l5 → K_X10_find_39 (d + 1) mc ms l1 l2 l3 (w32 (l4 + 1)) S C Q) ∧ (¬ l2 < l5 → K_X7_motifStands_0 d 0 0 1 l4 l5 S C (fun r1 Sq C2 => Sq = S ∧ ((r1 = 0 → K_X10_find_58 (d + 1) mc ms l1 l2 l3 l4 (w32 (l5 + 1)) S C2 Q) ∧ (¬ r1 = 0 → ((¬ l3 = l1 → K_X10_find_58 (d + 1) mc ms l1 l2 (w32 (l3 + 1)) l4 (w32 (l5 + 1)) S C2 Q) ∧ (l3 = l1 → Q (w32 ((w32 ((w32 (100 * l4)) + l5)) + 7)) S C2)))))))) : K_X10_find_58 (d + 1) mc ms l1 l2 l3 l4 l5 S C Q := by
  show Wp (d + 1) mc ms M_X10_find 58 [cA 0, cI l1, cI l2, cI l3, cI l4, cI l5] [] S C Q
  refine wp_iload (nx := 60) dX10_find_58 rfl rfl ?_
  refine wp_iload_n (nx := 61) dX10_find_60 rfl rfl ?_
  refine wp_icmp_gt (nx := 64) (tg := 104) dX10_find_61 rfl rfl (fun hc => ?_) (fun hc => ?_)
  · have h := h.1 hc
    refine wp_iinc (nx := 107) dX10_find_104 rfl rfl (by decide) ?_
    refine wp_ls (ls2 := [cA 0, cI l1, cI l2, cI l3, cI (w32 (l4 + 1)), cI l5]) rfl ?_
    refine wp_goto (nx := 39) dX10_find_107 rfl ?_
    refine wp_fg [true, true, true, true, true, false] (ls2 := [cA 0, cI l1, cI l2, cI l3, cI (w32 (l4 + 1)), cU]) rfl ?_
    exact h
  · have h := h.2 hc
    refine wp_aload_n (nx := 65) dX10_find_64 rfl rfl ?_
    refine wp_getAe (kk := 0) (nx := 68) clsX10 dX10_find_65 rfl kF_X10_12 (by decide) (fo_0 F) (ft_0 F) rfl (fp_0_0 F) ?_
    refine wp_iload (nx := 70) dX10_find_68 rfl rfl ?_
    refine wp_iload (nx := 72) dX10_find_70 rfl rfl ?_
    refine wp_invV (nx := 75) (N := M_X7_motifStands) (as := [cI l4, cI l5]) (st := []) (mc := 0) (ms := 0) (mc' := mc) (ms' := ms) (a := 1) clsX7 dX10_find_72 rfl mok_X7_motifStands kM_X10_256 ki_X7_motifStands ke_X7_motifStands (fo_1 F) (ft_1 F) rfl rfl (leB rfl) (leB rfl) (z0 _) (z0 _) (Wp.mono h ?_)
    intro r1 Sq C2 h
    obtain ⟨e9, h⟩ := h
    rw [e9]
    show Wp (d + 1) mc ms M_X10_find 75 [cA 0, cI l1, cI l2, cI l3, cI l4, cI l5] [cI r1] S C2 Q
    refine wp_if_eq (nx := 78) (tg := 98) dX10_find_75 rfl rfl (fun hc => ?_) (fun hc => ?_)
    · have h := h.1 hc
      refine wp_iinc (nx := 101) dX10_find_98 rfl rfl (by decide) ?_
      refine wp_ls (ls2 := [cA 0, cI l1, cI l2, cI l3, cI l4, cI (w32 (l5 + 1))]) rfl ?_
      refine wp_goto (nx := 58) dX10_find_101 rfl ?_
      exact h
    · have h := h.2 hc
      refine wp_iload_n (nx := 79) dX10_find_78 rfl rfl ?_
      refine wp_iload_n (nx := 80) dX10_find_79 rfl rfl ?_
      refine wp_icmp_ne (nx := 83) (tg := 95) dX10_find_80 rfl rfl (fun hc => ?_) (fun hc => ?_)
      · have h := h.1 hc
        refine wp_iinc (nx := 98) dX10_find_95 rfl rfl (by decide) ?_
        refine wp_ls (ls2 := [cA 0, cI l1, cI l2, cI (w32 (l3 + 1)), cI l4, cI l5]) rfl ?_
        refine wp_iinc (nx := 101) dX10_find_98 rfl rfl (by decide) ?_
        refine wp_ls (ls2 := [cA 0, cI l1, cI l2, cI (w32 (l3 + 1)), cI l4, cI (w32 (l5 + 1))]) rfl ?_
        refine wp_goto (nx := 58) dX10_find_101 rfl ?_
        exact h
      · have h := h.2 hc
        refine wp_bipush (nx := 85) dX10_find_83 rfl ⟨by decide, i32 (by decide)⟩ ?_
        refine wp_iload (nx := 87) dX10_find_85 rfl rfl ?_
        refine wp_imul (nx := 88) dX10_find_87 rfl ?_
        refine wp_iload (nx := 90) dX10_find_88 rfl rfl ?_
        refine wp_iadd (nx := 91) dX10_find_90 rfl ?_
        refine wp_bipush (nx := 93) dX10_find_91 rfl ⟨by decide, i32 (by decide)⟩ ?_
        refine wp_iadd (nx := 94) dX10_find_93 rfl ?_
        exact wp_ireturn dX10_find_94 rfl rfl rfl h
theorem b_X10_owes_0 {d mc ms : Nat} {l1 l2 : Int} {S : MS} {C : MC} {Q : Int → MS → MC → Prop} (F : Fix S) (h : K_X7_hasHouse_0 d 0 0 1 l1 S C (fun r1 Sq C2 => Sq = S ∧ ((r1 = 0 → Q (-1) S C2) ∧ (¬ r1 = 0 → K_X7_hasHouse_0 d 0 0 1 l2 S C2 (fun r3 Sq C4 => Sq = S ∧ ((r3 = 0 → Q (-1) S C4) ∧ (¬ r3 = 0 → ((l1 = l2 → Q (-1) S C4) ∧ (¬ l1 = l2 → K_X1_tally_0 d 0 0 S C4 (fun r5 S7 C6 => Fix S7 ∧ ((¬ r5 = 0 → ((0 : Int) ≤ w32 ((w32 (l1 * 6)) + l2) ∧ w32 ((w32 (l1 * 6)) + l2) < 36) ∧ Q (C6 53 (w32 ((w32 (l1 * 6)) + l2))) S7 C6) ∧ (r5 = 0 → Q (-1) S7 C6)))))))))))) : K_X10_owes_0 (d + 1) mc ms l1 l2 S C Q := by
  show Wp (d + 1) mc ms M_X10_owes 0 [cA 0, cI l1, cI l2] [] S C Q
  refine wp_aload_n (nx := 1) dX10_owes_0 rfl rfl ?_
  refine wp_getAe (kk := 0) (nx := 4) clsX10 dX10_owes_1 rfl kF_X10_12 (by decide) (fo_0 F) (ft_0 F) rfl (fp_0_0 F) ?_
  refine wp_iload_n (nx := 5) dX10_owes_4 rfl rfl ?_
  refine wp_invV (nx := 8) (N := M_X7_hasHouse) (as := [cI l1]) (st := []) (mc := 0) (ms := 0) (mc' := mc) (ms' := ms) (a := 1) clsX7 dX10_owes_5 rfl mok_X7_hasHouse kM_X10_111 ki_X7_hasHouse ke_X7_hasHouse (fo_1 F) (ft_1 F) rfl rfl (leB rfl) (leB rfl) (z0 _) (z0 _) (Wp.mono h ?_)
  intro r1 Sq C2 h
  obtain ⟨e9, h⟩ := h
  rw [e9]
  show Wp (d + 1) mc ms M_X10_owes 8 [cA 0, cI l1, cI l2] [cI r1] S C2 Q
  refine wp_if_eq (nx := 11) (tg := 45) dX10_owes_8 rfl rfl (fun hc => ?_) (fun hc => ?_)
  · have h := h.1 hc
    refine wp_iconst (nx := 46) dX10_owes_45 rfl (i32 (by decide)) ?_
    exact wp_ireturn dX10_owes_46 rfl rfl rfl h
  · have h := h.2 hc
    refine wp_aload_n (nx := 12) dX10_owes_11 rfl rfl ?_
    refine wp_getAe (kk := 0) (nx := 15) clsX10 dX10_owes_12 rfl kF_X10_12 (by decide) (fo_0 F) (ft_0 F) rfl (fp_0_0 F) ?_
    refine wp_iload_n (nx := 16) dX10_owes_15 rfl rfl ?_
    refine wp_invV (nx := 19) (N := M_X7_hasHouse) (as := [cI l2]) (st := []) (mc := 0) (ms := 0) (mc' := mc) (ms' := ms) (a := 1) clsX7 dX10_owes_16 rfl mok_X7_hasHouse kM_X10_111 ki_X7_hasHouse ke_X7_hasHouse (fo_1 F) (ft_1 F) rfl rfl (leB rfl) (leB rfl) (z0 _) (z0 _) (Wp.mono h ?_)
    intro r3 Sq C4 h
    obtain ⟨e9, h⟩ := h
    rw [e9]
    show Wp (d + 1) mc ms M_X10_owes 19 [cA 0, cI l1, cI l2] [cI r3] S C4 Q
    refine wp_if_eq (nx := 22) (tg := 45) dX10_owes_19 rfl rfl (fun hc => ?_) (fun hc => ?_)
    · have h := h.1 hc
      refine wp_iconst (nx := 46) dX10_owes_45 rfl (i32 (by decide)) ?_
      exact wp_ireturn dX10_owes_46 rfl rfl rfl h
    · have h := h.2 hc
      refine wp_iload_n (nx := 23) dX10_owes_22 rfl rfl ?_
      refine wp_iload_n (nx := 24) dX10_owes_23 rfl rfl ?_
      refine wp_icmp_eq (nx := 27) (tg := 45) dX10_owes_24 rfl rfl (fun hc => ?_) (fun hc => ?_)
      · have h := h.1 hc
        refine wp_iconst (nx := 46) dX10_owes_45 rfl (i32 (by decide)) ?_
        exact wp_ireturn dX10_owes_46 rfl rfl rfl h
      · have h := h.2 hc
        refine wp_aload_n (nx := 28) dX10_owes_27 rfl rfl ?_
        refine wp_getAe (kk := 9) (nx := 31) clsX10 dX10_owes_28 rfl kF_X10_65 (by decide) (fo_0 F) (ft_0 F) rfl (fp_0_9 F) ?_
        refine wp_aload_n (nx := 32) dX10_owes_31 rfl rfl ?_
        refine wp_getAe (kk := 0) (nx := 35) clsX10 dX10_owes_32 rfl kF_X10_12 (by decide) (fo_0 F) (ft_0 F) rfl (fp_0_0 F) ?_
        refine wp_aload_n (nx := 36) dX10_owes_35 rfl rfl ?_
        refine wp_getAe (kk := 8) (nx := 39) clsX10 dX10_owes_36 rfl kF_X10_58 (by decide) (fo_0 F) (ft_0 F) rfl (fp_0_8 F) ?_
        refine wp_invV (nx := 42) (N := M_X1_tally) (as := [cA 1, cA 44]) (st := []) (mc := 0) (ms := 0) (mc' := mc) (ms' := ms) (a := 52) clsX1 dX10_owes_39 rfl mok_X1_tally kM_X10_260 ki_X1_tally ke_X1_tally (fo_52 F) (ft_52 F) rfl rfl (leB rfl) (leB rfl) (z0 _) (z0 _) (Wp.mono h ?_)
        intro r5 S7 C6 h
        obtain ⟨F8, h⟩ := h
        show Wp (d + 1) mc ms M_X10_owes 42 [cA 0, cI l1, cI l2] [cI r5] S7 C6 Q
        refine wp_if_ne (nx := 45) (tg := 47) dX10_owes_42 rfl rfl (fun hc => ?_) (fun hc => ?_)
        · have h := h.1 hc
          refine wp_aload_n (nx := 48) dX10_owes_47 rfl rfl ?_
          refine wp_getAe (kk := 9) (nx := 51) clsX10 dX10_owes_48 rfl kF_X10_65 (by decide) (fo_0 F8) (ft_0 F8) rfl (fp_0_9 F8) ?_
          refine wp_getAe (kk := 0) (nx := 54) clsX1 dX10_owes_51 rfl kF_X10_264 (by decide) (fo_52 F8) (ft_52 F8) rfl (fp_52_0 F8) ?_
          refine wp_iload_n (nx := 55) dX10_owes_54 rfl rfl ?_
          refine wp_bipush (nx := 57) dX10_owes_55 rfl ⟨by decide, i32 (by decide)⟩ ?_
          refine wp_imul (nx := 58) dX10_owes_57 rfl ?_
          refine wp_iload_n (nx := 59) dX10_owes_58 rfl rfl ?_
          refine wp_iadd (nx := 60) dX10_owes_59 rfl ?_
          obtain ⟨hi, h⟩ := h
          refine wp_ialoadE (nx := 61) dX10_owes_60 rfl (fo_53 F8) (fl_53 F8) hi (ft_53 F8) rfl ?_
          exact wp_ireturn dX10_owes_61 rfl rfl rfl h
        · have h := h.2 hc
          refine wp_iconst (nx := 46) dX10_owes_45 rfl (i32 (by decide)) ?_
          exact wp_ireturn dX10_owes_46 rfl rfl rfl h
theorem b_X10_settled_0 {d mc ms : Nat} {S : MS} {C : MC} {Q : Int → MS → MC → Prop} (F : Fix S) (h : K_X1_tally_0 d 0 0 S C (fun r1 S3 C2 => Fix S3 ∧ ((r1 = 0 → Q (-1) S3 C2) ∧ (¬ r1 = 0 → K_X1_payments_0 d 0 0 (C2 1 0) S3 C2 (fun r5 Sq C6 => Sq = S3 ∧ Q r5 S3 C6))))) : K_X10_settled_0 (d + 1) mc ms S C Q := by
  show Wp (d + 1) mc ms M_X10_settled 0 [cA 0] [] S C Q
  refine wp_aload_n (nx := 1) dX10_settled_0 rfl rfl ?_
  refine wp_getAe (kk := 9) (nx := 4) clsX10 dX10_settled_1 rfl kF_X10_65 (by decide) (fo_0 F) (ft_0 F) rfl (fp_0_9 F) ?_
  refine wp_aload_n (nx := 5) dX10_settled_4 rfl rfl ?_
  refine wp_getAe (kk := 0) (nx := 8) clsX10 dX10_settled_5 rfl kF_X10_12 (by decide) (fo_0 F) (ft_0 F) rfl (fp_0_0 F) ?_
  refine wp_aload_n (nx := 9) dX10_settled_8 rfl rfl ?_
  refine wp_getAe (kk := 8) (nx := 12) clsX10 dX10_settled_9 rfl kF_X10_58 (by decide) (fo_0 F) (ft_0 F) rfl (fp_0_8 F) ?_
  refine wp_invV (nx := 15) (N := M_X1_tally) (as := [cA 1, cA 44]) (st := []) (mc := 0) (ms := 0) (mc' := mc) (ms' := ms) (a := 52) clsX1 dX10_settled_12 rfl mok_X1_tally kM_X10_260 ki_X1_tally ke_X1_tally (fo_52 F) (ft_52 F) rfl rfl (leB rfl) (leB rfl) (z0 _) (z0 _) (Wp.mono h ?_)
  intro r1 S3 C2 h
  obtain ⟨F4, h⟩ := h
  show Wp (d + 1) mc ms M_X10_settled 15 [cA 0] [cI r1] S3 C2 Q
  refine wp_if_eq (nx := 18) (tg := 35) dX10_settled_15 rfl rfl (fun hc => ?_) (fun hc => ?_)
  · have h := h.1 hc
    refine wp_iconst (nx := 36) dX10_settled_35 rfl (i32 (by decide)) ?_
    exact wp_ireturn dX10_settled_36 rfl rfl rfl h
  · have h := h.2 hc
    refine wp_aload_n (nx := 19) dX10_settled_18 rfl rfl ?_
    refine wp_getAe (kk := 9) (nx := 22) clsX10 dX10_settled_19 rfl kF_X10_65 (by decide) (fo_0 F4) (ft_0 F4) rfl (fp_0_9 F4) ?_
    refine wp_aload_n (nx := 23) dX10_settled_22 rfl rfl ?_
    refine wp_getAe (kk := 0) (nx := 26) clsX10 dX10_settled_23 rfl kF_X10_12 (by decide) (fo_0 F4) (ft_0 F4) rfl (fp_0_0 F4) ?_
    refine wp_getIe (kk := 0) 0 (nx := 29) clsX7 dX10_settled_26 rfl kF_X10_95 (by decide) (fo_1 F4) (ft_1 F4) rfl rfl rfl ?_
    refine wp_invV (nx := 32) (N := M_X1_payments) (as := [cI (C2 1 0)]) (st := []) (mc := 0) (ms := 0) (mc' := mc) (ms' := ms) (a := 52) clsX1 dX10_settled_29 rfl mok_X1_payments kM_X10_267 ki_X1_payments ke_X1_payments (fo_52 F4) (ft_52 F4) rfl rfl (leB rfl) (leB rfl) (z0 _) (z0 _) (Wp.mono h ?_)
    intro r5 Sq C6 h
    obtain ⟨e9, h⟩ := h
    rw [e9]
    show Wp (d + 1) mc ms M_X10_settled 32 [cA 0] [cI r5] S3 C6 Q
    refine wp_goto (nx := 36) dX10_settled_32 rfl ?_
    exact wp_ireturn dX10_settled_36 rfl rfl rfl h
theorem b_X10_few_0 {d mc ms : Nat} {l1 l2 : Int} {S : MS} {C : MC} {Q : Int → MS → MC → Prop} (F : Fix S) (h : ((l1 < 1 → Q (-1) S C) ∧ (¬ l1 < 1 → ((20 < l1 → Q (-1) S C) ∧ (¬ 20 < l1 → ((l2 < 0 → Q (-1) S C) ∧ (¬ l2 < 0 → ((l2 ≤ 99 → K_J7_fill_d0a16_0 d 0 0 63 0 S C (fun r1 Sq C2 => Sq = S ∧ K_X10_few_55 (d + 1) mc ms l1 l2 (C 8 1) 0 S (upC C2 63 0 1000000000000) Q)) ∧ (¬ l2 ≤ 99 → Q (-1) S C))))))))) : K_X10_few_0 (d + 1) mc ms l1 l2 S C Q := by
  show Wp (d + 1) mc ms M_X10_few 0 [cA 0, cI l1, cI l2, cU, cU, cU, cU] [] S C Q
  refine wp_iload_n (nx := 1) dX10_few_0 rfl rfl ?_
  refine wp_iconst (nx := 2) dX10_few_1 rfl (i32 (by decide)) ?_
  refine wp_icmp_lt (nx := 5) (tg := 21) dX10_few_2 rfl rfl (fun hc => ?_) (fun hc => ?_)
  · have h := h.1 hc
    refine wp_ldc2 (nx := 24) dX10_few_21 rfl kJ_X10_270 (i64 (by decide)) ?_
    exact wp_lreturn dX10_few_24 rfl h
  · have h := h.2 hc
    refine wp_iload_n (nx := 6) dX10_few_5 rfl rfl ?_
    refine wp_bipush (nx := 8) dX10_few_6 rfl ⟨by decide, i32 (by decide)⟩ ?_
    refine wp_icmp_gt (nx := 11) (tg := 21) dX10_few_8 rfl rfl (fun hc => ?_) (fun hc => ?_)
    · have h := h.1 hc
      refine wp_ldc2 (nx := 24) dX10_few_21 rfl kJ_X10_270 (i64 (by decide)) ?_
      exact wp_lreturn dX10_few_24 rfl h
    · have h := h.2 hc
      refine wp_iload_n (nx := 12) dX10_few_11 rfl rfl ?_
      refine wp_if_lt (nx := 15) (tg := 21) dX10_few_12 rfl rfl (fun hc => ?_) (fun hc => ?_)
      · have h := h.1 hc
        refine wp_ldc2 (nx := 24) dX10_few_21 rfl kJ_X10_270 (i64 (by decide)) ?_
        exact wp_lreturn dX10_few_24 rfl h
      · have h := h.2 hc
        refine wp_iload_n (nx := 16) dX10_few_15 rfl rfl ?_
        refine wp_bipush (nx := 18) dX10_few_16 rfl ⟨by decide, i32 (by decide)⟩ ?_
        refine wp_icmp_le (nx := 21) (tg := 25) dX10_few_18 rfl rfl (fun hc => ?_) (fun hc => ?_)
        · have h := h.1 hc
          refine wp_aload_n (nx := 26) dX10_few_25 rfl rfl ?_
          refine wp_getAe (kk := 0) (nx := 29) clsX10 dX10_few_26 rfl kF_X10_12 (by decide) (fo_0 F) (ft_0 F) rfl (fp_0_0 F) ?_
          refine wp_getAe (kk := 10) (nx := 32) clsX7 dX10_few_29 rfl kF_X10_144 (by decide) (fo_1 F) (ft_1 F) rfl (fp_1_10 F) ?_
          refine wp_iconst (nx := 33) dX10_few_32 rfl (i32 (by decide)) ?_
          refine wp_ialoadE (nx := 34) dX10_few_33 rfl (fo_8 F) (fl_8 F) (by decide) (ft_8 F) rfl ?_
          refine wp_istore_n (nx := 35) dX10_few_34 rfl (by decide) ?_
          refine wp_ls (ls2 := [cA 0, cI l1, cI l2, cI (C 8 1), cU, cU, cU]) rfl ?_
          refine wp_aload_n (nx := 36) dX10_few_35 rfl rfl ?_
          refine wp_getAe (kk := 12) (nx := 39) clsX10 dX10_few_36 rfl kF_X10_83 (by decide) (fo_0 F) (ft_0 F) rfl (fp_0_12 F) ?_
          refine wp_lconst (nx := 40) (v := 0) dX10_few_39 rfl ⟨by decide, i64 (by decide)⟩ ?_
          refine wp_invS (nx := 43) (N := M_J7_fill_d0a16) (as := [cA 63, cJ 0]) (st := []) (mc := 0) (ms := 0) (mc' := mc) (ms' := ms) dX10_few_40 rfl mok_J7_fill_d0a16 kM_X10_272 ks_J7_fill_d0a16 rfl rfl (leB rfl) (leB rfl) (z0 _) (z0 _) (Wp.mono h ?_)
          intro r1 Sq C2 h
          obtain ⟨e9, h⟩ := h
          rw [e9]
          show Wp (d + 1) mc ms M_X10_few 43 [cA 0, cI l1, cI l2, cI (C 8 1), cU, cU, cU] [] S C2 Q
          refine wp_aload_n (nx := 44) dX10_few_43 rfl rfl ?_
          refine wp_getAe (kk := 12) (nx := 47) clsX10 dX10_few_44 rfl kF_X10_83 (by decide) (fo_0 F) (ft_0 F) rfl (fp_0_12 F) ?_
          refine wp_iconst (nx := 48) dX10_few_47 rfl (i32 (by decide)) ?_
          refine wp_ldc2 (nx := 51) dX10_few_48 rfl kJ_X10_278 (i64 (by decide)) ?_
          refine wp_lastoreE (nx := 52) dX10_few_51 rfl (fo_63 F) (fl_63 F) (by decide) (ft_63 F) ?_
          refine wp_iconst (nx := 53) dX10_few_52 rfl (i32 (by decide)) ?_
          refine wp_istore (nx := 55) dX10_few_53 rfl (by decide) ?_
          refine wp_ls (ls2 := [cA 0, cI l1, cI l2, cI (C 8 1), cI 0, cU, cU]) rfl ?_
          exact h
        · have h := h.2 hc
          refine wp_ldc2 (nx := 24) dX10_few_21 rfl kJ_X10_270 (i64 (by decide)) ?_
          exact wp_lreturn dX10_few_24 rfl h
theorem b_X10_few_55 {d mc ms : Nat} {l1 l2 l3 l4 : Int} {S : MS} {C : MC} {Q : Int → MS → MC → Prop} (F : Fix S) (h : ((l2 ≤ l4 → K_X10_few_152 (d + 1) mc ms l1 0 0 S C Q) ∧ (¬ l2 ≤ l4 → K_X10_few_66 (d + 1) mc ms l1 l2 l3 l4 (w32 (l1 - 1)) S C Q))) : K_X10_few_55 (d + 1) mc ms l1 l2 l3 l4 S C Q := by
  show Wp (d + 1) mc ms M_X10_few 55 [cA 0, cI l1, cI l2, cI l3, cI l4, cU, cU] [] S C Q
  refine wp_iload (nx := 57) dX10_few_55 rfl rfl ?_
  refine wp_iload_n (nx := 58) dX10_few_57 rfl rfl ?_
  refine wp_icmp_ge (nx := 61) (tg := 146) dX10_few_58 rfl rfl (fun hc => ?_) (fun hc => ?_)
  · have h := h.1 hc
    refine wp_lconst (nx := 147) (v := 0) dX10_few_146 rfl ⟨by decide, i64 (by decide)⟩ ?_
    refine wp_lstore (nx := 149) dX10_few_147 rfl (by decide) ?_
    refine wp_ls (ls2 := [cA 0, cI l1, cI l2, cI l3, cJ 0, cU, cU]) rfl ?_
    refine wp_iconst (nx := 150) dX10_few_149 rfl (i32 (by decide)) ?_
    refine wp_istore (nx := 152) dX10_few_150 rfl (by decide) ?_
    refine wp_ls (ls2 := [cA 0, cI l1, cI l2, cI l3, cJ 0, cU, cI 0]) rfl ?_
    refine wp_fg [true, true, false, false, true, false, true] (ls2 := [cA 0, cI l1, cU, cU, cJ 0, cU, cI 0]) rfl ?_
    exact h
  · have h := h.2 hc
    refine wp_iload_n (nx := 62) dX10_few_61 rfl rfl ?_
    refine wp_iconst (nx := 63) dX10_few_62 rfl (i32 (by decide)) ?_
    refine wp_isub (nx := 64) dX10_few_63 rfl ?_
    refine wp_istore (nx := 66) dX10_few_64 rfl (by decide) ?_
    refine wp_ls (ls2 := [cA 0, cI l1, cI l2, cI l3, cI l4, cI (w32 (l1 - 1)), cU]) rfl ?_
    exact h
theorem b_X10_few_152 {d mc ms : Nat} {l1 l4 l6 : Int} {S : MS} {C : MC} {Q : Int → MS → MC → Prop} (F : Fix S) (h : ((l1 ≤ l6 → Q l4 S C) ∧ (¬ l1 ≤ l6 → ((0 : Int) ≤ l6 ∧ l6 < 20) ∧ K_X10_few_152 (d + 1) mc ms l1 (w64 (l4 + (C 63 l6))) (w32 (l6 + 1)) S C Q))) : K_X10_few_152 (d + 1) mc ms l1 l4 l6 S C Q := by
  show Wp (d + 1) mc ms M_X10_few 152 [cA 0, cI l1, cU, cU, cJ l4, cU, cI l6] [] S C Q
  refine wp_iload (nx := 154) dX10_few_152 rfl rfl ?_
  refine wp_iload_n (nx := 155) dX10_few_154 rfl rfl ?_
  refine wp_icmp_ge (nx := 158) (tg := 176) dX10_few_155 rfl rfl (fun hc => ?_) (fun hc => ?_)
  · have h := h.1 hc
    refine wp_lload (nx := 178) dX10_few_176 rfl rfl ?_
    exact wp_lreturn dX10_few_178 rfl h
  · have h := h.2 hc
    refine wp_lload (nx := 160) dX10_few_158 rfl rfl ?_
    refine wp_aload_n (nx := 161) dX10_few_160 rfl rfl ?_
    refine wp_getAe (kk := 12) (nx := 164) clsX10 dX10_few_161 rfl kF_X10_83 (by decide) (fo_0 F) (ft_0 F) rfl (fp_0_12 F) ?_
    refine wp_iload (nx := 166) dX10_few_164 rfl rfl ?_
    obtain ⟨hi, h⟩ := h
    refine wp_laloadE (nx := 167) dX10_few_166 rfl (fo_63 F) (fl_63 F) hi (ft_63 F) rfl ?_
    refine wp_ladd (nx := 168) dX10_few_167 rfl ?_
    refine wp_lstore (nx := 170) dX10_few_168 rfl (by decide) ?_
    refine wp_ls (ls2 := [cA 0, cI l1, cU, cU, cJ (w64 (l4 + (C 63 l6))), cU, cI l6]) rfl ?_
    refine wp_iinc (nx := 173) dX10_few_170 rfl rfl (by decide) ?_
    refine wp_ls (ls2 := [cA 0, cI l1, cU, cU, cJ (w64 (l4 + (C 63 l6))), cU, cI (w32 (l6 + 1))]) rfl ?_
    refine wp_goto (nx := 152) dX10_few_173 rfl ?_
    exact h
theorem b_X10_few_66 {d mc ms : Nat} {l1 l2 l3 l4 l5 : Int} {S : MS} {C : MC} {Q : Int → MS → MC → Prop} (F : Fix S) (h : ((l5 ≤ 0 → K_X10_few_55 (d + 1) mc ms l1 l2 l3 (w32 (l4 + 1)) S (upC C 63 0 (w64 (Int.tdiv (w64 ((C 63 0) * (w32 (10 - l3)))) 10))) Q) ∧ (¬ l5 ≤ 0 → ((0 : Int) ≤ l5 ∧ l5 < 20) ∧ ((0 : Int) ≤ w32 (l5 - 1) ∧ w32 (l5 - 1) < 20) ∧ ((0 : Int) ≤ l5 ∧ l5 < 20) ∧ K_X10_few_66 (d + 1) mc ms l1 l2 l3 l4 (w32 (l5 + (-1))) S (upC C 63 l5 (w64 ((w64 (Int.tdiv (w64 ((C 63 l5) * (w32 (10 - l3)))) 10)) + (w64 (Int.tdiv (w64 ((C 63 (w32 (l5 - 1))) * l3)) 10))))) Q))) : K_X10_few_66 (d + 1) mc ms l1 l2 l3 l4 l5 S C Q := by
  show Wp (d + 1) mc ms M_X10_few 66 [cA 0, cI l1, cI l2, cI l3, cI l4, cI l5, cU] [] S C Q
  refine wp_iload (nx := 68) dX10_few_66 rfl rfl ?_
  refine wp_if_le (nx := 71) (tg := 118) dX10_few_68 rfl rfl (fun hc => ?_) (fun hc => ?_)
  · have h := h.1 hc
    refine wp_aload_n (nx := 119) dX10_few_118 rfl rfl ?_
    refine wp_getAe (kk := 12) (nx := 122) clsX10 dX10_few_119 rfl kF_X10_83 (by decide) (fo_0 F) (ft_0 F) rfl (fp_0_12 F) ?_
    refine wp_iconst (nx := 123) dX10_few_122 rfl (i32 (by decide)) ?_
    refine wp_aload_n (nx := 124) dX10_few_123 rfl rfl ?_
    refine wp_getAe (kk := 12) (nx := 127) clsX10 dX10_few_124 rfl kF_X10_83 (by decide) (fo_0 F) (ft_0 F) rfl (fp_0_12 F) ?_
    refine wp_iconst (nx := 128) dX10_few_127 rfl (i32 (by decide)) ?_
    refine wp_laloadE (nx := 129) dX10_few_128 rfl (fo_63 F) (fl_63 F) (by decide) (ft_63 F) rfl ?_
    refine wp_bipush (nx := 131) dX10_few_129 rfl ⟨by decide, i32 (by decide)⟩ ?_
    refine wp_iload_n (nx := 132) dX10_few_131 rfl rfl ?_
    refine wp_isub (nx := 133) dX10_few_132 rfl ?_
    refine wp_i2l (nx := 134) dX10_few_133 rfl ?_
    refine wp_lmul (nx := 135) dX10_few_134 rfl ?_
    refine wp_ldc2 (nx := 138) dX10_few_135 rfl kJ_X10_280 (i64 (by decide)) ?_
    refine wp_ldiv (nx := 139) dX10_few_138 rfl (by decide) ?_
    refine wp_lastoreE (nx := 140) dX10_few_139 rfl (fo_63 F) (fl_63 F) (by decide) (ft_63 F) ?_
    refine wp_iinc (nx := 143) dX10_few_140 rfl rfl (by decide) ?_
    refine wp_ls (ls2 := [cA 0, cI l1, cI l2, cI l3, cI (w32 (l4 + 1)), cI l5, cU]) rfl ?_
    refine wp_goto (nx := 55) dX10_few_143 rfl ?_
    refine wp_fg [true, true, true, true, true, false, false] (ls2 := [cA 0, cI l1, cI l2, cI l3, cI (w32 (l4 + 1)), cU, cU]) rfl ?_
    exact h
  · have h := h.2 hc
    refine wp_aload_n (nx := 72) dX10_few_71 rfl rfl ?_
    refine wp_getAe (kk := 12) (nx := 75) clsX10 dX10_few_72 rfl kF_X10_83 (by decide) (fo_0 F) (ft_0 F) rfl (fp_0_12 F) ?_
    refine wp_iload (nx := 77) dX10_few_75 rfl rfl ?_
    refine wp_aload_n (nx := 78) dX10_few_77 rfl rfl ?_
    refine wp_getAe (kk := 12) (nx := 81) clsX10 dX10_few_78 rfl kF_X10_83 (by decide) (fo_0 F) (ft_0 F) rfl (fp_0_12 F) ?_
    refine wp_iload (nx := 83) dX10_few_81 rfl rfl ?_
    obtain ⟨hi, h⟩ := h
    refine wp_laloadE (nx := 84) dX10_few_83 rfl (fo_63 F) (fl_63 F) hi (ft_63 F) rfl ?_
    refine wp_bipush (nx := 86) dX10_few_84 rfl ⟨by decide, i32 (by decide)⟩ ?_
    refine wp_iload_n (nx := 87) dX10_few_86 rfl rfl ?_
    refine wp_isub (nx := 88) dX10_few_87 rfl ?_
    refine wp_i2l (nx := 89) dX10_few_88 rfl ?_
    refine wp_lmul (nx := 90) dX10_few_89 rfl ?_
    refine wp_ldc2 (nx := 93) dX10_few_90 rfl kJ_X10_280 (i64 (by decide)) ?_
    refine wp_ldiv (nx := 94) dX10_few_93 rfl (by decide) ?_
    refine wp_aload_n (nx := 95) dX10_few_94 rfl rfl ?_
    refine wp_getAe (kk := 12) (nx := 98) clsX10 dX10_few_95 rfl kF_X10_83 (by decide) (fo_0 F) (ft_0 F) rfl (fp_0_12 F) ?_
    refine wp_iload (nx := 100) dX10_few_98 rfl rfl ?_
    refine wp_iconst (nx := 101) dX10_few_100 rfl (i32 (by decide)) ?_
    refine wp_isub (nx := 102) dX10_few_101 rfl ?_
    obtain ⟨hi, h⟩ := h
    refine wp_laloadE (nx := 103) dX10_few_102 rfl (fo_63 F) (fl_63 F) hi (ft_63 F) rfl ?_
    refine wp_iload_n (nx := 104) dX10_few_103 rfl rfl ?_
    refine wp_i2l (nx := 105) dX10_few_104 rfl ?_
    refine wp_lmul (nx := 106) dX10_few_105 rfl ?_
    refine wp_ldc2 (nx := 109) dX10_few_106 rfl kJ_X10_280 (i64 (by decide)) ?_
    refine wp_ldiv (nx := 110) dX10_few_109 rfl (by decide) ?_
    refine wp_ladd (nx := 111) dX10_few_110 rfl ?_
    obtain ⟨hi, h⟩ := h
    refine wp_lastoreE (nx := 112) dX10_few_111 rfl (fo_63 F) (fl_63 F) hi (ft_63 F) ?_
    refine wp_iinc (nx := 115) dX10_few_112 rfl rfl (by decide) ?_
    refine wp_ls (ls2 := [cA 0, cI l1, cI l2, cI l3, cI l4, cI (w32 (l5 + (-1))), cU]) rfl ?_
    refine wp_goto (nx := 66) dX10_few_115 rfl ?_
    exact h
theorem b_X10_compare_0 {d mc ms : Nat} {l1 : Int} {S : MS} {C : MC} {Q : Int → MS → MC → Prop} (F : Fix S) (h : ((l1 = (-1) → K_X7_copyFrom_0 d 0 0 9 1 S C (fun r1 S3 C2 => Fix S3 ∧ K_X3_mindedInAll_0 d 0 0 9 S3 ((upC C2 9 9 l1)) (fun r5 S7 C6 => Fix S7 ∧ Q r5 S7 C6))) ∧ (¬ l1 = (-1) → K_X7_hasLaw_0 d 0 0 1 l1 S C (fun r9 Sq C10 => Sq = S ∧ ((¬ r9 = 0 → K_X7_copyFrom_0 d 0 0 9 1 S C10 (fun r11 S13 C12 => Fix S13 ∧ K_X3_mindedInAll_0 d 0 0 9 S13 ((upC C12 9 9 l1)) (fun r15 S17 C16 => Fix S17 ∧ Q r15 S17 C16))) ∧ (r9 = 0 → Q (-1) S C10)))))) : K_X10_compare_0 (d + 1) mc ms l1 S C Q := by
  show Wp (d + 1) mc ms M_X10_compare 0 [cA 0, cI l1] [] S C Q
  refine wp_iload_n (nx := 1) dX10_compare_0 rfl rfl ?_
  refine wp_iconst (nx := 2) dX10_compare_1 rfl (i32 (by decide)) ?_
  refine wp_icmp_eq (nx := 5) (tg := 18) dX10_compare_2 rfl rfl (fun hc => ?_) (fun hc => ?_)
  · have h := h.1 hc
    refine wp_aload_n (nx := 19) dX10_compare_18 rfl rfl ?_
    refine wp_getAe (kk := 1) (nx := 22) clsX10 dX10_compare_19 rfl kF_X10_16 (by decide) (fo_0 F) (ft_0 F) rfl (fp_0_1 F) ?_
    refine wp_aload_n (nx := 23) dX10_compare_22 rfl rfl ?_
    refine wp_getAe (kk := 0) (nx := 26) clsX10 dX10_compare_23 rfl kF_X10_12 (by decide) (fo_0 F) (ft_0 F) rfl (fp_0_0 F) ?_
    refine wp_invV (nx := 29) (N := M_X7_copyFrom) (as := [cA 1]) (st := []) (mc := 0) (ms := 0) (mc' := mc) (ms' := ms) (a := 9) clsX7 dX10_compare_26 rfl mok_X7_copyFrom kM_X10_282 ki_X7_copyFrom ke_X7_copyFrom (fo_9 F) (ft_9 F) rfl rfl (leB rfl) (leB rfl) (z0 _) (z0 _) (Wp.mono h ?_)
    intro r1 S3 C2 h
    obtain ⟨F4, h⟩ := h
    show Wp (d + 1) mc ms M_X10_compare 29 [cA 0, cI l1] [] S3 C2 Q
    refine wp_aload_n (nx := 30) dX10_compare_29 rfl rfl ?_
    refine wp_getAe (kk := 1) (nx := 33) clsX10 dX10_compare_30 rfl kF_X10_16 (by decide) (fo_0 F4) (ft_0 F4) rfl (fp_0_1 F4) ?_
    refine wp_iload_n (nx := 34) dX10_compare_33 rfl rfl ?_
    refine wp_putIe (kk := 9) 9 (nx := 37) clsX7 dX10_compare_34 rfl kF_X10_194 (by decide) (fo_9 F4) (ft_9 F4) rfl rfl ⟨rfl, rfl⟩ rfl ?_
    refine wp_aload_n (nx := 38) dX10_compare_37 rfl rfl ?_
    refine wp_getAe (kk := 8) (nx := 41) clsX10 dX10_compare_38 rfl kF_X10_58 (by decide) (fo_0 F4) (ft_0 F4) rfl (fp_0_8 F4) ?_
    refine wp_aload_n (nx := 42) dX10_compare_41 rfl rfl ?_
    refine wp_getAe (kk := 1) (nx := 45) clsX10 dX10_compare_42 rfl kF_X10_16 (by decide) (fo_0 F4) (ft_0 F4) rfl (fp_0_1 F4) ?_
    refine wp_invV (nx := 48) (N := M_X3_mindedInAll) (as := [cA 9]) (st := []) (mc := 0) (ms := 0) (mc' := mc) (ms' := ms) (a := 44) clsX3 dX10_compare_45 rfl mok_X3_mindedInAll kM_X10_208 ki_X3_mindedInAll ke_X3_mindedInAll (fo_44 F4) (ft_44 F4) rfl rfl (leB rfl) (leB rfl) (z0 _) (z0 _) (Wp.mono h ?_)
    intro r5 S7 C6 h
    obtain ⟨F8, h⟩ := h
    show Wp (d + 1) mc ms M_X10_compare 48 [cA 0, cI l1] [cI r5] S7 C6 Q
    exact wp_ireturn dX10_compare_48 rfl rfl rfl h
  · have h := h.2 hc
    refine wp_aload_n (nx := 6) dX10_compare_5 rfl rfl ?_
    refine wp_getAe (kk := 0) (nx := 9) clsX10 dX10_compare_6 rfl kF_X10_12 (by decide) (fo_0 F) (ft_0 F) rfl (fp_0_0 F) ?_
    refine wp_iload_n (nx := 10) dX10_compare_9 rfl rfl ?_
    refine wp_invV (nx := 13) (N := M_X7_hasLaw) (as := [cI l1]) (st := []) (mc := 0) (ms := 0) (mc' := mc) (ms' := ms) (a := 1) clsX7 dX10_compare_10 rfl mok_X7_hasLaw kM_X10_191 ki_X7_hasLaw ke_X7_hasLaw (fo_1 F) (ft_1 F) rfl rfl (leB rfl) (leB rfl) (z0 _) (z0 _) (Wp.mono h ?_)
    intro r9 Sq C10 h
    obtain ⟨e9, h⟩ := h
    rw [e9]
    show Wp (d + 1) mc ms M_X10_compare 13 [cA 0, cI l1] [cI r9] S C10 Q
    refine wp_if_ne (nx := 16) (tg := 18) dX10_compare_13 rfl rfl (fun hc => ?_) (fun hc => ?_)
    · have h := h.1 hc
      refine wp_aload_n (nx := 19) dX10_compare_18 rfl rfl ?_
      refine wp_getAe (kk := 1) (nx := 22) clsX10 dX10_compare_19 rfl kF_X10_16 (by decide) (fo_0 F) (ft_0 F) rfl (fp_0_1 F) ?_
      refine wp_aload_n (nx := 23) dX10_compare_22 rfl rfl ?_
      refine wp_getAe (kk := 0) (nx := 26) clsX10 dX10_compare_23 rfl kF_X10_12 (by decide) (fo_0 F) (ft_0 F) rfl (fp_0_0 F) ?_
      refine wp_invV (nx := 29) (N := M_X7_copyFrom) (as := [cA 1]) (st := []) (mc := 0) (ms := 0) (mc' := mc) (ms' := ms) (a := 9) clsX7 dX10_compare_26 rfl mok_X7_copyFrom kM_X10_282 ki_X7_copyFrom ke_X7_copyFrom (fo_9 F) (ft_9 F) rfl rfl (leB rfl) (leB rfl) (z0 _) (z0 _) (Wp.mono h ?_)
      intro r11 S13 C12 h
      obtain ⟨F14, h⟩ := h
      show Wp (d + 1) mc ms M_X10_compare 29 [cA 0, cI l1] [] S13 C12 Q
      refine wp_aload_n (nx := 30) dX10_compare_29 rfl rfl ?_
      refine wp_getAe (kk := 1) (nx := 33) clsX10 dX10_compare_30 rfl kF_X10_16 (by decide) (fo_0 F14) (ft_0 F14) rfl (fp_0_1 F14) ?_
      refine wp_iload_n (nx := 34) dX10_compare_33 rfl rfl ?_
      refine wp_putIe (kk := 9) 9 (nx := 37) clsX7 dX10_compare_34 rfl kF_X10_194 (by decide) (fo_9 F14) (ft_9 F14) rfl rfl ⟨rfl, rfl⟩ rfl ?_
      refine wp_aload_n (nx := 38) dX10_compare_37 rfl rfl ?_
      refine wp_getAe (kk := 8) (nx := 41) clsX10 dX10_compare_38 rfl kF_X10_58 (by decide) (fo_0 F14) (ft_0 F14) rfl (fp_0_8 F14) ?_
      refine wp_aload_n (nx := 42) dX10_compare_41 rfl rfl ?_
      refine wp_getAe (kk := 1) (nx := 45) clsX10 dX10_compare_42 rfl kF_X10_16 (by decide) (fo_0 F14) (ft_0 F14) rfl (fp_0_1 F14) ?_
      refine wp_invV (nx := 48) (N := M_X3_mindedInAll) (as := [cA 9]) (st := []) (mc := 0) (ms := 0) (mc' := mc) (ms' := ms) (a := 44) clsX3 dX10_compare_45 rfl mok_X3_mindedInAll kM_X10_208 ki_X3_mindedInAll ke_X3_mindedInAll (fo_44 F14) (ft_44 F14) rfl rfl (leB rfl) (leB rfl) (z0 _) (z0 _) (Wp.mono h ?_)
      intro r15 S17 C16 h
      obtain ⟨F18, h⟩ := h
      show Wp (d + 1) mc ms M_X10_compare 48 [cA 0, cI l1] [cI r15] S17 C16 Q
      exact wp_ireturn dX10_compare_48 rfl rfl rfl h
    · have h := h.2 hc
      refine wp_iconst (nx := 17) dX10_compare_16 rfl (i32 (by decide)) ?_
      exact wp_ireturn dX10_compare_17 rfl rfl rfl h
theorem b_X10_evenings_0 {d mc ms : Nat} {l1 l2 : Int} {S : MS} {C : MC} {Q : Int → MS → MC → Prop} (F : Fix S) (h : ((l1 < 0 → K_X10_refuse_0 d 0 0 (-1) S C (fun r1 Sq C2 => Sq = S ∧ Q r1 S C2)) ∧ (¬ l1 < 0 → ((1000000 < l1 → K_X10_refuse_0 d 0 0 (-1) S C (fun r3 Sq C4 => Sq = S ∧ Q r3 S C4)) ∧ (¬ 1000000 < l1 → ((l2 < 1 → K_X10_refuse_0 d 0 0 (-1) S C (fun r5 Sq C6 => Sq = S ∧ Q r5 S C6)) ∧ (¬ l2 < 1 → ((l2 ≤ 60 → ((¬ C 1 0 = 0 → K_X7_copyFrom_0 d 0 0 17 1 S C (fun r7 S9 C8 => Fix S9 ∧ K_X10_evenings_69 (d + 1) mc ms l2 l1 0 0 S9 (upC C8 0 14 1) Q)) ∧ (C 1 0 = 0 → K_X10_refuse_0 d 0 0 (-3) S C (fun r11 Sq C12 => Sq = S ∧ Q r11 S C12)))) ∧ (¬ l2 ≤ 60 → K_X10_refuse_0 d 0 0 (-1) S C (fun r13 Sq C14 => Sq = S ∧ Q r13 S C14)))))))))) : K_X10_evenings_0 (d + 1) mc ms l1 l2 S C Q := by
  show Wp (d + 1) mc ms M_X10_evenings 0 [cA 0, cI l1, cI l2, cU, cU, cU] [] S C Q
  refine wp_iload_n (nx := 1) dX10_evenings_0 rfl rfl ?_
  refine wp_if_lt (nx := 4) (tg := 22) dX10_evenings_1 rfl rfl (fun hc => ?_) (fun hc => ?_)
  · have h := h.1 hc
    refine wp_aload_n (nx := 23) dX10_evenings_22 rfl rfl ?_
    refine wp_iconst (nx := 24) dX10_evenings_23 rfl (i32 (by decide)) ?_
    refine wp_invV (nx := 27) (N := M_X10_refuse) (as := [cI (-1)]) (st := []) (mc := 0) (ms := 0) (mc' := mc) (ms' := ms) (a := 0) clsX10 dX10_evenings_24 rfl mok_X10_refuse kM_X10_91 ki_X10_refuse ke_X10_refuse (fo_0 F) (ft_0 F) rfl rfl (leB rfl) (leB rfl) (z0 _) (z0 _) (Wp.mono h ?_)
    intro r1 Sq C2 h
    obtain ⟨e9, h⟩ := h
    rw [e9]
    show Wp (d + 1) mc ms M_X10_evenings 27 [cA 0, cI l1, cI l2, cU, cU, cU] [cI r1] S C2 Q
    exact wp_ireturn dX10_evenings_27 rfl rfl rfl h
  · have h := h.2 hc
    refine wp_iload_n (nx := 5) dX10_evenings_4 rfl rfl ?_
    refine wp_ldc_w (nx := 8) dX10_evenings_5 rfl kI_X10_286 (i32 (by decide)) ?_
    refine wp_icmp_gt (nx := 11) (tg := 22) dX10_evenings_8 rfl rfl (fun hc => ?_) (fun hc => ?_)
    · have h := h.1 hc
      refine wp_aload_n (nx := 23) dX10_evenings_22 rfl rfl ?_
      refine wp_iconst (nx := 24) dX10_evenings_23 rfl (i32 (by decide)) ?_
      refine wp_invV (nx := 27) (N := M_X10_refuse) (as := [cI (-1)]) (st := []) (mc := 0) (ms := 0) (mc' := mc) (ms' := ms) (a := 0) clsX10 dX10_evenings_24 rfl mok_X10_refuse kM_X10_91 ki_X10_refuse ke_X10_refuse (fo_0 F) (ft_0 F) rfl rfl (leB rfl) (leB rfl) (z0 _) (z0 _) (Wp.mono h ?_)
      intro r3 Sq C4 h
      obtain ⟨e9, h⟩ := h
      rw [e9]
      show Wp (d + 1) mc ms M_X10_evenings 27 [cA 0, cI l1, cI l2, cU, cU, cU] [cI r3] S C4 Q
      exact wp_ireturn dX10_evenings_27 rfl rfl rfl h
    · have h := h.2 hc
      refine wp_iload_n (nx := 12) dX10_evenings_11 rfl rfl ?_
      refine wp_iconst (nx := 13) dX10_evenings_12 rfl (i32 (by decide)) ?_
      refine wp_icmp_lt (nx := 16) (tg := 22) dX10_evenings_13 rfl rfl (fun hc => ?_) (fun hc => ?_)
      · have h := h.1 hc
        refine wp_aload_n (nx := 23) dX10_evenings_22 rfl rfl ?_
        refine wp_iconst (nx := 24) dX10_evenings_23 rfl (i32 (by decide)) ?_
        refine wp_invV (nx := 27) (N := M_X10_refuse) (as := [cI (-1)]) (st := []) (mc := 0) (ms := 0) (mc' := mc) (ms' := ms) (a := 0) clsX10 dX10_evenings_24 rfl mok_X10_refuse kM_X10_91 ki_X10_refuse ke_X10_refuse (fo_0 F) (ft_0 F) rfl rfl (leB rfl) (leB rfl) (z0 _) (z0 _) (Wp.mono h ?_)
        intro r5 Sq C6 h
        obtain ⟨e9, h⟩ := h
        rw [e9]
        show Wp (d + 1) mc ms M_X10_evenings 27 [cA 0, cI l1, cI l2, cU, cU, cU] [cI r5] S C6 Q
        exact wp_ireturn dX10_evenings_27 rfl rfl rfl h
      · have h := h.2 hc
        refine wp_iload_n (nx := 17) dX10_evenings_16 rfl rfl ?_
        refine wp_bipush (nx := 19) dX10_evenings_17 rfl ⟨by decide, i32 (by decide)⟩ ?_
        refine wp_icmp_le (nx := 22) (tg := 28) dX10_evenings_19 rfl rfl (fun hc => ?_) (fun hc => ?_)
        · have h := h.1 hc
          refine wp_aload_n (nx := 29) dX10_evenings_28 rfl rfl ?_
          refine wp_getAe (kk := 0) (nx := 32) clsX10 dX10_evenings_29 rfl kF_X10_12 (by decide) (fo_0 F) (ft_0 F) rfl (fp_0_0 F) ?_
          refine wp_getIe (kk := 0) 0 (nx := 35) clsX7 dX10_evenings_32 rfl kF_X10_95 (by decide) (fo_1 F) (ft_1 F) rfl rfl rfl ?_
          refine wp_if_ne (nx := 38) (tg := 45) dX10_evenings_35 rfl rfl (fun hc => ?_) (fun hc => ?_)
          · have h := h.1 hc
            refine wp_aload_n (nx := 46) dX10_evenings_45 rfl rfl ?_
            refine wp_getAe (kk := 2) (nx := 49) clsX10 dX10_evenings_46 rfl kF_X10_19 (by decide) (fo_0 F) (ft_0 F) rfl (fp_0_2 F) ?_
            refine wp_aload_n (nx := 50) dX10_evenings_49 rfl rfl ?_
            refine wp_getAe (kk := 0) (nx := 53) clsX10 dX10_evenings_50 rfl kF_X10_12 (by decide) (fo_0 F) (ft_0 F) rfl (fp_0_0 F) ?_
            refine wp_invV (nx := 56) (N := M_X7_copyFrom) (as := [cA 1]) (st := []) (mc := 0) (ms := 0) (mc' := mc) (ms' := ms) (a := 17) clsX7 dX10_evenings_53 rfl mok_X7_copyFrom kM_X10_282 ki_X7_copyFrom ke_X7_copyFrom (fo_17 F) (ft_17 F) rfl rfl (leB rfl) (leB rfl) (z0 _) (z0 _) (Wp.mono h ?_)
            intro r7 S9 C8 h
            obtain ⟨F10, h⟩ := h
            show Wp (d + 1) mc ms M_X10_evenings 56 [cA 0, cI l1, cI l2, cU, cU, cU] [] S9 C8 Q
            refine wp_aload_n (nx := 57) dX10_evenings_56 rfl rfl ?_
            refine wp_iconst (nx := 58) dX10_evenings_57 rfl (i32 (by decide)) ?_
            refine wp_putIe (kk := 14) 14 (nx := 61) clsX10 dX10_evenings_58 rfl kF_X10_287 (by decide) (fo_0 F10) (ft_0 F10) rfl rfl (fz_of (Or.inr rfl)) rfl ?_
            refine wp_iload_n (nx := 62) dX10_evenings_61 rfl rfl ?_
            refine wp_istore_n (nx := 63) dX10_evenings_62 rfl (by decide) ?_
            refine wp_ls (ls2 := [cA 0, cI l1, cI l2, cI l1, cU, cU]) rfl ?_
            refine wp_iconst (nx := 64) dX10_evenings_63 rfl (i32 (by decide)) ?_
            refine wp_istore (nx := 66) dX10_evenings_64 rfl (by decide) ?_
            refine wp_ls (ls2 := [cA 0, cI l1, cI l2, cI l1, cI 0, cU]) rfl ?_
            refine wp_iconst (nx := 67) dX10_evenings_66 rfl (i32 (by decide)) ?_
            refine wp_istore (nx := 69) dX10_evenings_67 rfl (by decide) ?_
            refine wp_ls (ls2 := [cA 0, cI l1, cI l2, cI l1, cI 0, cI 0]) rfl ?_
            refine wp_fg [true, false, true, true, true, true] (ls2 := [cA 0, cU, cI l2, cI l1, cI 0, cI 0]) rfl ?_
            exact h
          · have h := h.2 hc
            refine wp_aload_n (nx := 39) dX10_evenings_38 rfl rfl ?_
            refine wp_bipush (nx := 41) dX10_evenings_39 rfl ⟨by decide, i32 (by decide)⟩ ?_
            refine wp_invV (nx := 44) (N := M_X10_refuse) (as := [cI (-3)]) (st := []) (mc := 0) (ms := 0) (mc' := mc) (ms' := ms) (a := 0) clsX10 dX10_evenings_41 rfl mok_X10_refuse kM_X10_91 ki_X10_refuse ke_X10_refuse (fo_0 F) (ft_0 F) rfl rfl (leB rfl) (leB rfl) (z0 _) (z0 _) (Wp.mono h ?_)
            intro r11 Sq C12 h
            obtain ⟨e9, h⟩ := h
            rw [e9]
            show Wp (d + 1) mc ms M_X10_evenings 44 [cA 0, cI l1, cI l2, cU, cU, cU] [cI r11] S C12 Q
            exact wp_ireturn dX10_evenings_44 rfl rfl rfl h
        · have h := h.2 hc
          refine wp_aload_n (nx := 23) dX10_evenings_22 rfl rfl ?_
          refine wp_iconst (nx := 24) dX10_evenings_23 rfl (i32 (by decide)) ?_
          refine wp_invV (nx := 27) (N := M_X10_refuse) (as := [cI (-1)]) (st := []) (mc := 0) (ms := 0) (mc' := mc) (ms' := ms) (a := 0) clsX10 dX10_evenings_24 rfl mok_X10_refuse kM_X10_91 ki_X10_refuse ke_X10_refuse (fo_0 F) (ft_0 F) rfl rfl (leB rfl) (leB rfl) (z0 _) (z0 _) (Wp.mono h ?_)
          intro r13 Sq C14 h
          obtain ⟨e9, h⟩ := h
          rw [e9]
          show Wp (d + 1) mc ms M_X10_evenings 27 [cA 0, cI l1, cI l2, cU, cU, cU] [cI r13] S C14 Q
          exact wp_ireturn dX10_evenings_27 rfl rfl rfl h
theorem b_X10_evenings_69 {d mc ms : Nat} {l2 l3 l4 l5 : Int} {S : MS} {C : MC} {Q : Int → MS → MC → Prop} (F : Fix S) (h : ((l2 ≤ l5 → K_X10_accept_0 d 0 0 l4 S C (fun r1 Sq C2 => Sq = S ∧ Q r1 S C2)) ∧ (¬ l2 ≤ l5 → ((999 ≤ C 24 0 → K_X10_accept_0 d 0 0 l4 S C (fun r3 Sq C4 => Sq = S ∧ Q r3 S C4)) ∧ (¬ 999 ≤ C 24 0 → K_X10_spendEvening_0 d 0 0 l3 S C (fun r5 Sq C6 => Sq = S ∧ K_X3_firstLost_0 d 0 0 17 S C6 (fun r7 S9 C8 => Fix S9 ∧ ((¬ r7 = 16 → K_X10_evenings_69 (d + 1) mc ms l2 r5 l4 (w32 (l5 + 1)) S9 C8 Q) ∧ (r7 = 16 → K_X10_evenings_69 (d + 1) mc ms l2 r5 (w32 (l4 + 1)) (w32 (l5 + 1)) S9 C8 Q))))))))) : K_X10_evenings_69 (d + 1) mc ms l2 l3 l4 l5 S C Q := by
  show Wp (d + 1) mc ms M_X10_evenings 69 [cA 0, cU, cI l2, cI l3, cI l4, cI l5] [] S C Q
  refine wp_iload (nx := 71) dX10_evenings_69 rfl rfl ?_
  refine wp_iload_n (nx := 72) dX10_evenings_71 rfl rfl ?_
  refine wp_icmp_ge (nx := 75) (tg := 121) dX10_evenings_72 rfl rfl (fun hc => ?_) (fun hc => ?_)
  · have h := h.1 hc
    refine wp_aload_n (nx := 122) dX10_evenings_121 rfl rfl ?_
    refine wp_iload (nx := 124) dX10_evenings_122 rfl rfl ?_
    refine wp_invV (nx := 127) (N := M_X10_accept) (as := [cI l4]) (st := []) (mc := 0) (ms := 0) (mc' := mc) (ms' := ms) (a := 0) clsX10 dX10_evenings_124 rfl mok_X10_accept kM_X10_108 ki_X10_accept ke_X10_accept (fo_0 F) (ft_0 F) rfl rfl (leB rfl) (leB rfl) (z0 _) (z0 _) (Wp.mono h ?_)
    intro r1 Sq C2 h
    obtain ⟨e9, h⟩ := h
    rw [e9]
    show Wp (d + 1) mc ms M_X10_evenings 127 [cA 0, cU, cI l2, cI l3, cI l4, cI l5] [cI r1] S C2 Q
    exact wp_ireturn dX10_evenings_127 rfl rfl rfl h
  · have h := h.2 hc
    refine wp_aload_n (nx := 76) dX10_evenings_75 rfl rfl ?_
    refine wp_getAe (kk := 2) (nx := 79) clsX10 dX10_evenings_76 rfl kF_X10_19 (by decide) (fo_0 F) (ft_0 F) rfl (fp_0_2 F) ?_
    refine wp_getAe (kk := 10) (nx := 82) clsX7 dX10_evenings_79 rfl kF_X10_144 (by decide) (fo_17 F) (ft_17 F) rfl (fp_17_10 F) ?_
    refine wp_iconst (nx := 83) dX10_evenings_82 rfl (i32 (by decide)) ?_
    refine wp_ialoadE (nx := 84) dX10_evenings_83 rfl (fo_24 F) (fl_24 F) (by decide) (ft_24 F) rfl ?_
    refine wp_sipush (nx := 87) dX10_evenings_84 rfl ⟨by decide, i32 (by decide)⟩ ?_
    refine wp_icmp_ge (nx := 90) (tg := 121) dX10_evenings_87 rfl rfl (fun hc => ?_) (fun hc => ?_)
    · have h := h.1 hc
      refine wp_aload_n (nx := 122) dX10_evenings_121 rfl rfl ?_
      refine wp_iload (nx := 124) dX10_evenings_122 rfl rfl ?_
      refine wp_invV (nx := 127) (N := M_X10_accept) (as := [cI l4]) (st := []) (mc := 0) (ms := 0) (mc' := mc) (ms' := ms) (a := 0) clsX10 dX10_evenings_124 rfl mok_X10_accept kM_X10_108 ki_X10_accept ke_X10_accept (fo_0 F) (ft_0 F) rfl rfl (leB rfl) (leB rfl) (z0 _) (z0 _) (Wp.mono h ?_)
      intro r3 Sq C4 h
      obtain ⟨e9, h⟩ := h
      rw [e9]
      show Wp (d + 1) mc ms M_X10_evenings 127 [cA 0, cU, cI l2, cI l3, cI l4, cI l5] [cI r3] S C4 Q
      exact wp_ireturn dX10_evenings_127 rfl rfl rfl h
    · have h := h.2 hc
      refine wp_aload_n (nx := 91) dX10_evenings_90 rfl rfl ?_
      refine wp_iload_n (nx := 92) dX10_evenings_91 rfl rfl ?_
      refine wp_invV (nx := 95) (N := M_X10_spendEvening) (as := [cI l3]) (st := []) (mc := 0) (ms := 0) (mc' := mc) (ms' := ms) (a := 0) clsX10 dX10_evenings_92 rfl mok_X10_spendEvening kM_X10_290 ki_X10_spendEvening ke_X10_spendEvening (fo_0 F) (ft_0 F) rfl rfl (leB rfl) (leB rfl) (z0 _) (z0 _) (Wp.mono h ?_)
      intro r5 Sq C6 h
      obtain ⟨e9, h⟩ := h
      rw [e9]
      show Wp (d + 1) mc ms M_X10_evenings 95 [cA 0, cU, cI l2, cI l3, cI l4, cI l5] [cI r5] S C6 Q
      refine wp_istore_n (nx := 96) dX10_evenings_95 rfl (by decide) ?_
      refine wp_ls (ls2 := [cA 0, cU, cI l2, cI r5, cI l4, cI l5]) rfl ?_
      refine wp_aload_n (nx := 97) dX10_evenings_96 rfl rfl ?_
      refine wp_getAe (kk := 8) (nx := 100) clsX10 dX10_evenings_97 rfl kF_X10_58 (by decide) (fo_0 F) (ft_0 F) rfl (fp_0_8 F) ?_
      refine wp_aload_n (nx := 101) dX10_evenings_100 rfl rfl ?_
      refine wp_getAe (kk := 2) (nx := 104) clsX10 dX10_evenings_101 rfl kF_X10_19 (by decide) (fo_0 F) (ft_0 F) rfl (fp_0_2 F) ?_
      refine wp_invV (nx := 107) (N := M_X3_firstLost) (as := [cA 17]) (st := []) (mc := 0) (ms := 0) (mc' := mc) (ms' := ms) (a := 44) clsX3 dX10_evenings_104 rfl mok_X3_firstLost kM_X10_205 ki_X3_firstLost ke_X3_firstLost (fo_44 F) (ft_44 F) rfl rfl (leB rfl) (leB rfl) (z0 _) (z0 _) (Wp.mono h ?_)
      intro r7 S9 C8 h
      obtain ⟨F10, h⟩ := h
      show Wp (d + 1) mc ms M_X10_evenings 107 [cA 0, cU, cI l2, cI r5, cI l4, cI l5] [cI r7] S9 C8 Q
      refine wp_bipush (nx := 109) dX10_evenings_107 rfl ⟨by decide, i32 (by decide)⟩ ?_
      refine wp_icmp_ne (nx := 112) (tg := 115) dX10_evenings_109 rfl rfl (fun hc => ?_) (fun hc => ?_)
      · have h := h.1 hc
        refine wp_iinc (nx := 118) dX10_evenings_115 rfl rfl (by decide) ?_
        refine wp_ls (ls2 := [cA 0, cU, cI l2, cI r5, cI l4, cI (w32 (l5 + 1))]) rfl ?_
        refine wp_goto (nx := 69) dX10_evenings_118 rfl ?_
        exact h
      · have h := h.2 hc
        refine wp_iinc (nx := 115) dX10_evenings_112 rfl rfl (by decide) ?_
        refine wp_ls (ls2 := [cA 0, cU, cI l2, cI r5, cI (w32 (l4 + 1)), cI l5]) rfl ?_
        refine wp_iinc (nx := 118) dX10_evenings_115 rfl rfl (by decide) ?_
        refine wp_ls (ls2 := [cA 0, cU, cI l2, cI r5, cI (w32 (l4 + 1)), cI (w32 (l5 + 1))]) rfl ?_
        refine wp_goto (nx := 69) dX10_evenings_118 rfl ?_
        exact h
theorem b_X10_drawn_0 {d mc ms : Nat} {l1 l2 : Int} {S : MS} {C : MC} {Q : Int → MS → MC → Prop} (F : Fix S) (h : ((¬ C 0 14 = 0 → ((¬ l2 = 0 → ((¬ l2 = 1 → Q (-1) S C) ∧ (l2 = 1 → K_X10_isKey_0 d 0 0 l1 S C (fun r1 Sq C2 => Sq = S ∧ ((r1 = 0 → Q (-1) S C2) ∧ (¬ r1 = 0 → ((0 : Int) ≤ l1 ∧ l1 < 8) ∧ Q (C2 20 l1) S C2)))))) ∧ (l2 = 0 → K_X10_isBeat_0 d 0 0 l1 S C (fun r3 Sq C4 => Sq = S ∧ ((r3 = 0 → ((¬ l2 = 1 → Q (-1) S C4) ∧ (l2 = 1 → K_X10_isKey_0 d 0 0 l1 S C4 (fun r5 Sq C6 => Sq = S ∧ ((r5 = 0 → Q (-1) S C6) ∧ (¬ r5 = 0 → ((0 : Int) ≤ l1 ∧ l1 < 8) ∧ Q (C6 20 l1) S C6)))))) ∧ (¬ r3 = 0 → ((0 : Int) ≤ l1 ∧ l1 < 16) ∧ Q (C4 21 l1) S C4)))))) ∧ (C 0 14 = 0 → Q (-1) S C))) : K_X10_drawn_0 (d + 1) mc ms l1 l2 S C Q := by
  show Wp (d + 1) mc ms M_X10_drawn 0 [cA 0, cI l1, cI l2] [] S C Q
  refine wp_aload_n (nx := 1) dX10_drawn_0 rfl rfl ?_
  refine wp_getIe (kk := 14) 14 (nx := 4) clsX10 dX10_drawn_1 rfl kF_X10_287 (by decide) (fo_0 F) (ft_0 F) rfl rfl rfl ?_
  refine wp_if_ne (nx := 7) (tg := 9) dX10_drawn_4 rfl rfl (fun hc => ?_) (fun hc => ?_)
  · have h := h.1 hc
    refine wp_iload_n (nx := 10) dX10_drawn_9 rfl rfl ?_
    refine wp_if_ne (nx := 13) (tg := 30) dX10_drawn_10 rfl rfl (fun hc => ?_) (fun hc => ?_)
    · have h := h.1 hc
      refine wp_iload_n (nx := 31) dX10_drawn_30 rfl rfl ?_
      refine wp_iconst (nx := 32) dX10_drawn_31 rfl (i32 (by decide)) ?_
      refine wp_icmp_ne (nx := 35) (tg := 54) dX10_drawn_32 rfl rfl (fun hc => ?_) (fun hc => ?_)
      · have h := h.1 hc
        refine wp_iconst (nx := 55) dX10_drawn_54 rfl (i32 (by decide)) ?_
        exact wp_ireturn dX10_drawn_55 rfl rfl rfl h
      · have h := h.2 hc
        refine wp_iload_n (nx := 36) dX10_drawn_35 rfl rfl ?_
        refine wp_invS (nx := 39) (N := M_X10_isKey) (as := [cI l1]) (st := []) (mc := 0) (ms := 0) (mc' := mc) (ms' := ms) dX10_drawn_36 rfl mok_X10_isKey kM_X10_118 ks_X10_isKey rfl rfl (leB rfl) (leB rfl) (z0 _) (z0 _) (Wp.mono h ?_)
        intro r1 Sq C2 h
        obtain ⟨e9, h⟩ := h
        rw [e9]
        show Wp (d + 1) mc ms M_X10_drawn 39 [cA 0, cI l1, cI l2] [cI r1] S C2 Q
        refine wp_if_eq (nx := 42) (tg := 54) dX10_drawn_39 rfl rfl (fun hc => ?_) (fun hc => ?_)
        · have h := h.1 hc
          refine wp_iconst (nx := 55) dX10_drawn_54 rfl (i32 (by decide)) ?_
          exact wp_ireturn dX10_drawn_55 rfl rfl rfl h
        · have h := h.2 hc
          refine wp_aload_n (nx := 43) dX10_drawn_42 rfl rfl ?_
          refine wp_getAe (kk := 2) (nx := 46) clsX10 dX10_drawn_43 rfl kF_X10_19 (by decide) (fo_0 F) (ft_0 F) rfl (fp_0_2 F) ?_
          refine wp_getAe (kk := 3) (nx := 49) clsX7 dX10_drawn_46 rfl kF_X10_121 (by decide) (fo_17 F) (ft_17 F) rfl (fp_17_3 F) ?_
          refine wp_iload_n (nx := 50) dX10_drawn_49 rfl rfl ?_
          obtain ⟨hi, h⟩ := h
          refine wp_ialoadE (nx := 51) dX10_drawn_50 rfl (fo_20 F) (fl_20 F) hi (ft_20 F) rfl ?_
          refine wp_goto (nx := 55) dX10_drawn_51 rfl ?_
          exact wp_ireturn dX10_drawn_55 rfl rfl rfl h
    · have h := h.2 hc
      refine wp_iload_n (nx := 14) dX10_drawn_13 rfl rfl ?_
      refine wp_invS (nx := 17) (N := M_X10_isBeat) (as := [cI l1]) (st := []) (mc := 0) (ms := 0) (mc' := mc) (ms' := ms) dX10_drawn_14 rfl mok_X10_isBeat kM_X10_124 ks_X10_isBeat rfl rfl (leB rfl) (leB rfl) (z0 _) (z0 _) (Wp.mono h ?_)
      intro r3 Sq C4 h
      obtain ⟨e9, h⟩ := h
      rw [e9]
      show Wp (d + 1) mc ms M_X10_drawn 17 [cA 0, cI l1, cI l2] [cI r3] S C4 Q
      refine wp_if_eq (nx := 20) (tg := 30) dX10_drawn_17 rfl rfl (fun hc => ?_) (fun hc => ?_)
      · have h := h.1 hc
        refine wp_iload_n (nx := 31) dX10_drawn_30 rfl rfl ?_
        refine wp_iconst (nx := 32) dX10_drawn_31 rfl (i32 (by decide)) ?_
        refine wp_icmp_ne (nx := 35) (tg := 54) dX10_drawn_32 rfl rfl (fun hc => ?_) (fun hc => ?_)
        · have h := h.1 hc
          refine wp_iconst (nx := 55) dX10_drawn_54 rfl (i32 (by decide)) ?_
          exact wp_ireturn dX10_drawn_55 rfl rfl rfl h
        · have h := h.2 hc
          refine wp_iload_n (nx := 36) dX10_drawn_35 rfl rfl ?_
          refine wp_invS (nx := 39) (N := M_X10_isKey) (as := [cI l1]) (st := []) (mc := 0) (ms := 0) (mc' := mc) (ms' := ms) dX10_drawn_36 rfl mok_X10_isKey kM_X10_118 ks_X10_isKey rfl rfl (leB rfl) (leB rfl) (z0 _) (z0 _) (Wp.mono h ?_)
          intro r5 Sq C6 h
          obtain ⟨e9, h⟩ := h
          rw [e9]
          show Wp (d + 1) mc ms M_X10_drawn 39 [cA 0, cI l1, cI l2] [cI r5] S C6 Q
          refine wp_if_eq (nx := 42) (tg := 54) dX10_drawn_39 rfl rfl (fun hc => ?_) (fun hc => ?_)
          · have h := h.1 hc
            refine wp_iconst (nx := 55) dX10_drawn_54 rfl (i32 (by decide)) ?_
            exact wp_ireturn dX10_drawn_55 rfl rfl rfl h
          · have h := h.2 hc
            refine wp_aload_n (nx := 43) dX10_drawn_42 rfl rfl ?_
            refine wp_getAe (kk := 2) (nx := 46) clsX10 dX10_drawn_43 rfl kF_X10_19 (by decide) (fo_0 F) (ft_0 F) rfl (fp_0_2 F) ?_
            refine wp_getAe (kk := 3) (nx := 49) clsX7 dX10_drawn_46 rfl kF_X10_121 (by decide) (fo_17 F) (ft_17 F) rfl (fp_17_3 F) ?_
            refine wp_iload_n (nx := 50) dX10_drawn_49 rfl rfl ?_
            obtain ⟨hi, h⟩ := h
            refine wp_ialoadE (nx := 51) dX10_drawn_50 rfl (fo_20 F) (fl_20 F) hi (ft_20 F) rfl ?_
            refine wp_goto (nx := 55) dX10_drawn_51 rfl ?_
            exact wp_ireturn dX10_drawn_55 rfl rfl rfl h
      · have h := h.2 hc
        refine wp_aload_n (nx := 21) dX10_drawn_20 rfl rfl ?_
        refine wp_getAe (kk := 2) (nx := 24) clsX10 dX10_drawn_21 rfl kF_X10_19 (by decide) (fo_0 F) (ft_0 F) rfl (fp_0_2 F) ?_
        refine wp_getAe (kk := 4) (nx := 27) clsX7 dX10_drawn_24 rfl kF_X10_127 (by decide) (fo_17 F) (ft_17 F) rfl (fp_17_4 F) ?_
        refine wp_iload_n (nx := 28) dX10_drawn_27 rfl rfl ?_
        obtain ⟨hi, h⟩ := h
        refine wp_ialoadE (nx := 29) dX10_drawn_28 rfl (fo_21 F) (fl_21 F) hi (ft_21 F) rfl ?_
        exact wp_ireturn dX10_drawn_29 rfl rfl rfl h
  · have h := h.2 hc
    refine wp_iconst (nx := 8) dX10_drawn_7 rfl (i32 (by decide)) ?_
    exact wp_ireturn dX10_drawn_8 rfl rfl rfl h
theorem b_X10_image_0 {d mc ms : Nat} {l1 : Int} {S : MS} {C : MC} {Q : Int → MS → MC → Prop} (F : Fix S) (h : ((l1 < 0 → K_X10_refuse_0 d 0 0 (-1) S C (fun r1 Sq C2 => Sq = S ∧ Q r1 S C2)) ∧ (¬ l1 < 0 → ((l1 < 2 → ((0 : Int) ≤ l1 ∧ l1 < 2) ∧ K_X7_copyFrom_0 d 0 0 (65 + 8 * l1) 1 S C (fun r3 S5 C4 => Fix S5 ∧ ((0 : Int) ≤ l1 ∧ l1 < 2) ∧ K_X10_accept_0 d 0 0 0 S5 ((upC C4 26 l1 (nZ 1))) (fun r7 Sq C8 => Sq = S5 ∧ Q r7 S5 C8))) ∧ (¬ l1 < 2 → K_X10_refuse_0 d 0 0 (-1) S C (fun r9 Sq C10 => Sq = S ∧ Q r9 S C10)))))) : K_X10_image_0 (d + 1) mc ms l1 S C Q := by
  show Wp (d + 1) mc ms M_X10_image 0 [cA 0, cI l1] [] S C Q
  refine wp_iload_n (nx := 1) dX10_image_0 rfl rfl ?_
  refine wp_if_lt (nx := 4) (tg := 9) dX10_image_1 rfl rfl (fun hc => ?_) (fun hc => ?_)
  · have h := h.1 hc
    refine wp_aload_n (nx := 10) dX10_image_9 rfl rfl ?_
    refine wp_iconst (nx := 11) dX10_image_10 rfl (i32 (by decide)) ?_
    refine wp_invV (nx := 14) (N := M_X10_refuse) (as := [cI (-1)]) (st := []) (mc := 0) (ms := 0) (mc' := mc) (ms' := ms) (a := 0) clsX10 dX10_image_11 rfl mok_X10_refuse kM_X10_91 ki_X10_refuse ke_X10_refuse (fo_0 F) (ft_0 F) rfl rfl (leB rfl) (leB rfl) (z0 _) (z0 _) (Wp.mono h ?_)
    intro r1 Sq C2 h
    obtain ⟨e9, h⟩ := h
    rw [e9]
    show Wp (d + 1) mc ms M_X10_image 14 [cA 0, cI l1] [cI r1] S C2 Q
    exact wp_ireturn dX10_image_14 rfl rfl rfl h
  · have h := h.2 hc
    refine wp_iload_n (nx := 5) dX10_image_4 rfl rfl ?_
    refine wp_iconst (nx := 6) dX10_image_5 rfl (i32 (by decide)) ?_
    refine wp_icmp_lt (nx := 9) (tg := 15) dX10_image_6 rfl rfl (fun hc => ?_) (fun hc => ?_)
    · have h := h.1 hc
      refine wp_aload_n (nx := 16) dX10_image_15 rfl rfl ?_
      refine wp_getAe (kk := 3) (nx := 19) clsX10 dX10_image_16 rfl kF_X10_22 (by decide) (fo_0 F) (ft_0 F) rfl (fp_0_3 F) ?_
      refine wp_iload_n (nx := 20) dX10_image_19 rfl rfl ?_
      obtain ⟨hi, h⟩ := h
      have hs_im20 := img_s hi
      refine wp_aaloadE (nx := 21) dX10_image_20 rfl (fo_25 F) (fl_25 F) hi (ft_25 F) (by decide) (img_p F hi) ?_
      refine wp_aload_n (nx := 22) dX10_image_21 rfl rfl ?_
      refine wp_getAe (kk := 0) (nx := 25) clsX10 dX10_image_22 rfl kF_X10_12 (by decide) (fo_0 F) (ft_0 F) rfl (fp_0_0 F) ?_
      refine wp_invV (nx := 28) (N := M_X7_copyFrom) (as := [cA 1]) (st := []) (mc := 0) (ms := 0) (mc' := mc) (ms' := ms) (a := 65 + 8 * l1) clsX7 dX10_image_25 rfl mok_X7_copyFrom kM_X10_282 ki_X7_copyFrom ke_X7_copyFrom (st_b0 F hs_im20) (st_t0 F hs_im20) rfl rfl (leB rfl) (leB rfl) (z0 _) (z0 _) (Wp.mono h ?_)
      intro r3 S5 C4 h
      obtain ⟨F6, h⟩ := h
      show Wp (d + 1) mc ms M_X10_image 28 [cA 0, cI l1] [] S5 C4 Q
      refine wp_aload_n (nx := 29) dX10_image_28 rfl rfl ?_
      refine wp_getAe (kk := 4) (nx := 32) clsX10 dX10_image_29 rfl kF_X10_26 (by decide) (fo_0 F6) (ft_0 F6) rfl (fp_0_4 F6) ?_
      refine wp_iload_n (nx := 33) dX10_image_32 rfl rfl ?_
      refine wp_iconst (nx := 34) dX10_image_33 rfl (i32 (by decide)) ?_
      obtain ⟨hi, h⟩ := h
      refine wp_zastoreE (nx := 35) dX10_image_34 rfl (fo_26 F6) (fl_26 F6) hi (ft_26 F6) ?_
      refine wp_aload_n (nx := 36) dX10_image_35 rfl rfl ?_
      refine wp_iconst (nx := 37) dX10_image_36 rfl (i32 (by decide)) ?_
      refine wp_invV (nx := 40) (N := M_X10_accept) (as := [cI 0]) (st := []) (mc := 0) (ms := 0) (mc' := mc) (ms' := ms) (a := 0) clsX10 dX10_image_37 rfl mok_X10_accept kM_X10_108 ki_X10_accept ke_X10_accept (fo_0 F6) (ft_0 F6) rfl rfl (leB rfl) (leB rfl) (z0 _) (z0 _) (Wp.mono h ?_)
      intro r7 Sq C8 h
      obtain ⟨e9, h⟩ := h
      rw [e9]
      show Wp (d + 1) mc ms M_X10_image 40 [cA 0, cI l1] [cI r7] S5 C8 Q
      exact wp_ireturn dX10_image_40 rfl rfl rfl h
    · have h := h.2 hc
      refine wp_aload_n (nx := 10) dX10_image_9 rfl rfl ?_
      refine wp_iconst (nx := 11) dX10_image_10 rfl (i32 (by decide)) ?_
      refine wp_invV (nx := 14) (N := M_X10_refuse) (as := [cI (-1)]) (st := []) (mc := 0) (ms := 0) (mc' := mc) (ms' := ms) (a := 0) clsX10 dX10_image_11 rfl mok_X10_refuse kM_X10_91 ki_X10_refuse ke_X10_refuse (fo_0 F) (ft_0 F) rfl rfl (leB rfl) (leB rfl) (z0 _) (z0 _) (Wp.mono h ?_)
      intro r9 Sq C10 h
      obtain ⟨e9, h⟩ := h
      rw [e9]
      show Wp (d + 1) mc ms M_X10_image 14 [cA 0, cI l1] [cI r9] S C10 Q
      exact wp_ireturn dX10_image_14 rfl rfl rfl h
theorem b_X10_back_0 {d mc ms : Nat} {l1 : Int} {S : MS} {C : MC} {Q : Int → MS → MC → Prop} (F : Fix S) (h : ((l1 < 0 → K_X10_refuse_0 d 0 0 (-1) S C (fun r1 Sq C2 => Sq = S ∧ Q r1 S C2)) ∧ (¬ l1 < 0 → ((l1 < 2 → ((0 : Int) ≤ l1 ∧ l1 < 2) ∧ ((¬ C 26 l1 = 0 → ((0 : Int) ≤ l1 ∧ l1 < 2) ∧ K_X7_copyFrom_0 d 0 0 1 (65 + 8 * l1) S C (fun r3 S5 C4 => Fix S5 ∧ K_X0_clear_0 d 0 0 S5 C4 (fun r7 Sq C8 => Sq = S5 ∧ K_X10_accept_0 d 0 0 0 S5 C8 (fun r9 Sq C10 => Sq = S5 ∧ Q r9 S5 C10)))) ∧ (C 26 l1 = 0 → K_X10_refuse_0 d 0 0 (-2) S C (fun r11 Sq C12 => Sq = S ∧ Q r11 S C12)))) ∧ (¬ l1 < 2 → K_X10_refuse_0 d 0 0 (-1) S C (fun r13 Sq C14 => Sq = S ∧ Q r13 S C14)))))) : K_X10_back_0 (d + 1) mc ms l1 S C Q := by
  show Wp (d + 1) mc ms M_X10_back 0 [cA 0, cI l1] [] S C Q
  refine wp_iload_n (nx := 1) dX10_back_0 rfl rfl ?_
  refine wp_if_lt (nx := 4) (tg := 9) dX10_back_1 rfl rfl (fun hc => ?_) (fun hc => ?_)
  · have h := h.1 hc
    refine wp_aload_n (nx := 10) dX10_back_9 rfl rfl ?_
    refine wp_iconst (nx := 11) dX10_back_10 rfl (i32 (by decide)) ?_
    refine wp_invV (nx := 14) (N := M_X10_refuse) (as := [cI (-1)]) (st := []) (mc := 0) (ms := 0) (mc' := mc) (ms' := ms) (a := 0) clsX10 dX10_back_11 rfl mok_X10_refuse kM_X10_91 ki_X10_refuse ke_X10_refuse (fo_0 F) (ft_0 F) rfl rfl (leB rfl) (leB rfl) (z0 _) (z0 _) (Wp.mono h ?_)
    intro r1 Sq C2 h
    obtain ⟨e9, h⟩ := h
    rw [e9]
    show Wp (d + 1) mc ms M_X10_back 14 [cA 0, cI l1] [cI r1] S C2 Q
    exact wp_ireturn dX10_back_14 rfl rfl rfl h
  · have h := h.2 hc
    refine wp_iload_n (nx := 5) dX10_back_4 rfl rfl ?_
    refine wp_iconst (nx := 6) dX10_back_5 rfl (i32 (by decide)) ?_
    refine wp_icmp_lt (nx := 9) (tg := 15) dX10_back_6 rfl rfl (fun hc => ?_) (fun hc => ?_)
    · have h := h.1 hc
      refine wp_aload_n (nx := 16) dX10_back_15 rfl rfl ?_
      refine wp_getAe (kk := 4) (nx := 19) clsX10 dX10_back_16 rfl kF_X10_26 (by decide) (fo_0 F) (ft_0 F) rfl (fp_0_4 F) ?_
      refine wp_iload_n (nx := 20) dX10_back_19 rfl rfl ?_
      obtain ⟨hi, h⟩ := h
      refine wp_zaloadE (nx := 21) dX10_back_20 rfl (fo_26 F) (fl_26 F) hi (ft_26 F) rfl ?_
      refine wp_if_ne (nx := 24) (tg := 31) dX10_back_21 rfl rfl (fun hc => ?_) (fun hc => ?_)
      · have h := h.1 hc
        refine wp_aload_n (nx := 32) dX10_back_31 rfl rfl ?_
        refine wp_getAe (kk := 0) (nx := 35) clsX10 dX10_back_32 rfl kF_X10_12 (by decide) (fo_0 F) (ft_0 F) rfl (fp_0_0 F) ?_
        refine wp_aload_n (nx := 36) dX10_back_35 rfl rfl ?_
        refine wp_getAe (kk := 3) (nx := 39) clsX10 dX10_back_36 rfl kF_X10_22 (by decide) (fo_0 F) (ft_0 F) rfl (fp_0_3 F) ?_
        refine wp_iload_n (nx := 40) dX10_back_39 rfl rfl ?_
        obtain ⟨hi, h⟩ := h
        have hs_im40 := img_s hi
        refine wp_aaloadE (nx := 41) dX10_back_40 rfl (fo_25 F) (fl_25 F) hi (ft_25 F) (by decide) (img_p F hi) ?_
        refine wp_invV (nx := 44) (N := M_X7_copyFrom) (as := [cA (65 + 8 * l1)]) (st := []) (mc := 0) (ms := 0) (mc' := mc) (ms' := ms) (a := 1) clsX7 dX10_back_41 rfl mok_X7_copyFrom kM_X10_282 ki_X7_copyFrom ke_X7_copyFrom (fo_1 F) (ft_1 F) rfl rfl (leB rfl) (leB rfl) (z0 _) (z0 _) (Wp.mono h ?_)
        intro r3 S5 C4 h
        obtain ⟨F6, h⟩ := h
        show Wp (d + 1) mc ms M_X10_back 44 [cA 0, cI l1] [] S5 C4 Q
        refine wp_aload_n (nx := 45) dX10_back_44 rfl rfl ?_
        refine wp_getAe (kk := 10) (nx := 48) clsX10 dX10_back_45 rfl kF_X10_72 (by decide) (fo_0 F6) (ft_0 F6) rfl (fp_0_10 F6) ?_
        refine wp_invV (nx := 51) (N := M_X0_clear) (as := []) (st := []) (mc := 0) (ms := 0) (mc' := mc) (ms' := ms) (a := 55) clsX0 dX10_back_48 rfl mok_X0_clear kM_X10_105 ki_X0_clear ke_X0_clear (fo_55 F6) (ft_55 F6) rfl rfl (leB rfl) (leB rfl) (z0 _) (z0 _) (Wp.mono h ?_)
        intro r7 Sq C8 h
        obtain ⟨e9, h⟩ := h
        rw [e9]
        show Wp (d + 1) mc ms M_X10_back 51 [cA 0, cI l1] [] S5 C8 Q
        refine wp_aload_n (nx := 52) dX10_back_51 rfl rfl ?_
        refine wp_iconst (nx := 53) dX10_back_52 rfl (i32 (by decide)) ?_
        refine wp_invV (nx := 56) (N := M_X10_accept) (as := [cI 0]) (st := []) (mc := 0) (ms := 0) (mc' := mc) (ms' := ms) (a := 0) clsX10 dX10_back_53 rfl mok_X10_accept kM_X10_108 ki_X10_accept ke_X10_accept (fo_0 F6) (ft_0 F6) rfl rfl (leB rfl) (leB rfl) (z0 _) (z0 _) (Wp.mono h ?_)
        intro r9 Sq C10 h
        obtain ⟨e9, h⟩ := h
        rw [e9]
        show Wp (d + 1) mc ms M_X10_back 56 [cA 0, cI l1] [cI r9] S5 C10 Q
        exact wp_ireturn dX10_back_56 rfl rfl rfl h
      · have h := h.2 hc
        refine wp_aload_n (nx := 25) dX10_back_24 rfl rfl ?_
        refine wp_bipush (nx := 27) dX10_back_25 rfl ⟨by decide, i32 (by decide)⟩ ?_
        refine wp_invV (nx := 30) (N := M_X10_refuse) (as := [cI (-2)]) (st := []) (mc := 0) (ms := 0) (mc' := mc) (ms' := ms) (a := 0) clsX10 dX10_back_27 rfl mok_X10_refuse kM_X10_91 ki_X10_refuse ke_X10_refuse (fo_0 F) (ft_0 F) rfl rfl (leB rfl) (leB rfl) (z0 _) (z0 _) (Wp.mono h ?_)
        intro r11 Sq C12 h
        obtain ⟨e9, h⟩ := h
        rw [e9]
        show Wp (d + 1) mc ms M_X10_back 30 [cA 0, cI l1] [cI r11] S C12 Q
        exact wp_ireturn dX10_back_30 rfl rfl rfl h
    · have h := h.2 hc
      refine wp_aload_n (nx := 10) dX10_back_9 rfl rfl ?_
      refine wp_iconst (nx := 11) dX10_back_10 rfl (i32 (by decide)) ?_
      refine wp_invV (nx := 14) (N := M_X10_refuse) (as := [cI (-1)]) (st := []) (mc := 0) (ms := 0) (mc' := mc) (ms' := ms) (a := 0) clsX10 dX10_back_11 rfl mok_X10_refuse kM_X10_91 ki_X10_refuse ke_X10_refuse (fo_0 F) (ft_0 F) rfl rfl (leB rfl) (leB rfl) (z0 _) (z0 _) (Wp.mono h ?_)
      intro r13 Sq C14 h
      obtain ⟨e9, h⟩ := h
      rw [e9]
      show Wp (d + 1) mc ms M_X10_back 14 [cA 0, cI l1] [cI r13] S C14 Q
      exact wp_ireturn dX10_back_14 rfl rfl rfl h
theorem b_X10_count_0 {d mc ms : Nat} {l1 : Int} {S : MS} {C : MC} {Q : Int → MS → MC → Prop} (F : Fix S) (h : ((l1 < 6 → ((l1 < 12 → K_X10_count_47 (d + 1) mc ms l1 S C Q) ∧ (¬ l1 < 12 → ((14 < l1 → K_X10_count_47 (d + 1) mc ms l1 S C Q) ∧ (¬ 14 < l1 → ((0 : Int) ≤ w32 (l1 - 12) ∧ w32 (l1 - 12) < 3) ∧ Q (C 8 (w32 (l1 - 12))) S C))))) ∧ (¬ l1 < 6 → ((10 < l1 → ((l1 < 12 → K_X10_count_47 (d + 1) mc ms l1 S C Q) ∧ (¬ l1 < 12 → ((14 < l1 → K_X10_count_47 (d + 1) mc ms l1 S C Q) ∧ (¬ 14 < l1 → ((0 : Int) ≤ w32 (l1 - 12) ∧ w32 (l1 - 12) < 3) ∧ Q (C 8 (w32 (l1 - 12))) S C))))) ∧ (¬ 10 < l1 → ((0 : Int) ≤ w32 (l1 - 6) ∧ w32 (l1 - 6) < 5) ∧ Q (C 64 (w32 (l1 - 6))) S C))))) : K_X10_count_0 (d + 1) mc ms l1 S C Q := by
  show Wp (d + 1) mc ms M_X10_count 0 [cA 0, cI l1] [] S C Q
  refine wp_iload_n (nx := 1) dX10_count_0 rfl rfl ?_
  refine wp_bipush (nx := 3) dX10_count_1 rfl ⟨by decide, i32 (by decide)⟩ ?_
  refine wp_icmp_lt (nx := 6) (tg := 22) dX10_count_3 rfl rfl (fun hc => ?_) (fun hc => ?_)
  · have h := h.1 hc
    refine wp_iload_n (nx := 23) dX10_count_22 rfl rfl ?_
    refine wp_bipush (nx := 25) dX10_count_23 rfl ⟨by decide, i32 (by decide)⟩ ?_
    refine wp_icmp_lt (nx := 28) (tg := 47) dX10_count_25 rfl rfl (fun hc => ?_) (fun hc => ?_)
    · have h := h.1 hc
      exact h
    · have h := h.2 hc
      refine wp_iload_n (nx := 29) dX10_count_28 rfl rfl ?_
      refine wp_bipush (nx := 31) dX10_count_29 rfl ⟨by decide, i32 (by decide)⟩ ?_
      refine wp_icmp_gt (nx := 34) (tg := 47) dX10_count_31 rfl rfl (fun hc => ?_) (fun hc => ?_)
      · have h := h.1 hc
        exact h
      · have h := h.2 hc
        refine wp_aload_n (nx := 35) dX10_count_34 rfl rfl ?_
        refine wp_getAe (kk := 0) (nx := 38) clsX10 dX10_count_35 rfl kF_X10_12 (by decide) (fo_0 F) (ft_0 F) rfl (fp_0_0 F) ?_
        refine wp_getAe (kk := 10) (nx := 41) clsX7 dX10_count_38 rfl kF_X10_144 (by decide) (fo_1 F) (ft_1 F) rfl (fp_1_10 F) ?_
        refine wp_iload_n (nx := 42) dX10_count_41 rfl rfl ?_
        refine wp_bipush (nx := 44) dX10_count_42 rfl ⟨by decide, i32 (by decide)⟩ ?_
        refine wp_isub (nx := 45) dX10_count_44 rfl ?_
        obtain ⟨hi, h⟩ := h
        refine wp_ialoadE (nx := 46) dX10_count_45 rfl (fo_8 F) (fl_8 F) hi (ft_8 F) rfl ?_
        exact wp_ireturn dX10_count_46 rfl rfl rfl h
  · have h := h.2 hc
    refine wp_iload_n (nx := 7) dX10_count_6 rfl rfl ?_
    refine wp_bipush (nx := 9) dX10_count_7 rfl ⟨by decide, i32 (by decide)⟩ ?_
    refine wp_icmp_gt (nx := 12) (tg := 22) dX10_count_9 rfl rfl (fun hc => ?_) (fun hc => ?_)
    · have h := h.1 hc
      refine wp_iload_n (nx := 23) dX10_count_22 rfl rfl ?_
      refine wp_bipush (nx := 25) dX10_count_23 rfl ⟨by decide, i32 (by decide)⟩ ?_
      refine wp_icmp_lt (nx := 28) (tg := 47) dX10_count_25 rfl rfl (fun hc => ?_) (fun hc => ?_)
      · have h := h.1 hc
        exact h
      · have h := h.2 hc
        refine wp_iload_n (nx := 29) dX10_count_28 rfl rfl ?_
        refine wp_bipush (nx := 31) dX10_count_29 rfl ⟨by decide, i32 (by decide)⟩ ?_
        refine wp_icmp_gt (nx := 34) (tg := 47) dX10_count_31 rfl rfl (fun hc => ?_) (fun hc => ?_)
        · have h := h.1 hc
          exact h
        · have h := h.2 hc
          refine wp_aload_n (nx := 35) dX10_count_34 rfl rfl ?_
          refine wp_getAe (kk := 0) (nx := 38) clsX10 dX10_count_35 rfl kF_X10_12 (by decide) (fo_0 F) (ft_0 F) rfl (fp_0_0 F) ?_
          refine wp_getAe (kk := 10) (nx := 41) clsX7 dX10_count_38 rfl kF_X10_144 (by decide) (fo_1 F) (ft_1 F) rfl (fp_1_10 F) ?_
          refine wp_iload_n (nx := 42) dX10_count_41 rfl rfl ?_
          refine wp_bipush (nx := 44) dX10_count_42 rfl ⟨by decide, i32 (by decide)⟩ ?_
          refine wp_isub (nx := 45) dX10_count_44 rfl ?_
          obtain ⟨hi, h⟩ := h
          refine wp_ialoadE (nx := 46) dX10_count_45 rfl (fo_8 F) (fl_8 F) hi (ft_8 F) rfl ?_
          exact wp_ireturn dX10_count_46 rfl rfl rfl h
    · have h := h.2 hc
      refine wp_aload_n (nx := 13) dX10_count_12 rfl rfl ?_
      refine wp_getAe (kk := 13) (nx := 16) clsX10 dX10_count_13 rfl kF_X10_87 (by decide) (fo_0 F) (ft_0 F) rfl (fp_0_13 F) ?_
      refine wp_iload_n (nx := 17) dX10_count_16 rfl rfl ?_
      refine wp_bipush (nx := 19) dX10_count_17 rfl ⟨by decide, i32 (by decide)⟩ ?_
      refine wp_isub (nx := 20) dX10_count_19 rfl ?_
      obtain ⟨hi, h⟩ := h
      refine wp_ialoadE (nx := 21) dX10_count_20 rfl (fo_64 F) (fl_64 F) hi (ft_64 F) rfl ?_
      exact wp_ireturn dX10_count_21 rfl rfl rfl h
theorem b_X10_count_47 {d mc ms : Nat} {l1 : Int} {S : MS} {C : MC} {Q : Int → MS → MC → Prop} (F : Fix S) (h : ((l1 < 0 ∨ 11 < l1 → Q (-1) S C) ∧ (l1 = 0 → Q (C 1 0) S C) ∧ (l1 = 1 → K_X7_countNotes_0 d 0 0 1 S C (fun r1 Sq C2 => Sq = S ∧ Q r1 S C2)) ∧ (l1 = 2 → Q (C 1 6) S C) ∧ (l1 = 3 → Q (C 1 8) S C) ∧ (l1 = 4 → Q (C 55 3) S C) ∧ (l1 = 5 → Q (C 27 1) S C) ∧ (l1 = 6 → Q (-1) S C) ∧ (l1 = 7 → Q (-1) S C) ∧ (l1 = 8 → Q (-1) S C) ∧ (l1 = 9 → Q (-1) S C) ∧ (l1 = 10 → Q (-1) S C) ∧ (l1 = 11 → Q (C 1 9) S C))) : K_X10_count_47 (d + 1) mc ms l1 S C Q := by
  show Wp (d + 1) mc ms M_X10_count 47 [cA 0, cI l1] [] S C Q
  refine wp_iload_n (nx := 48) dX10_count_47 rfl rfl ?_
  rcases (show (l1 < 0 ∨ 11 < l1) ∨ l1 = 0 ∨ l1 = 1 ∨ l1 = 2 ∨ l1 = 3 ∨ l1 = 4 ∨ l1 = 5 ∨ l1 = 6 ∨ l1 = 7 ∨ l1 = 8 ∨ l1 = 9 ∨ l1 = 10 ∨ l1 = 11 by omega) with hc | hc | hc | hc | hc | hc | hc | hc | hc | hc | hc | hc | hc
  · have h := h.1 hc
    refine wp_tableOut (tg := 168) dX10_count_48 hc rfl ?_
    refine wp_iconst (nx := 169) dX10_count_168 rfl (i32 (by decide)) ?_
    exact wp_ireturn dX10_count_169 rfl rfl rfl h
  · have h := h.2.1 hc
    refine wp_tableIn (tg := 112) (off := 64) dX10_count_48 (by omega) (by omega) (by rw [show (l1 - 0).toNat = 0 by omega]; rfl) rfl ?_
    refine wp_aload_n (nx := 113) dX10_count_112 rfl rfl ?_
    refine wp_getAe (kk := 0) (nx := 116) clsX10 dX10_count_113 rfl kF_X10_12 (by decide) (fo_0 F) (ft_0 F) rfl (fp_0_0 F) ?_
    refine wp_getIe (kk := 0) 0 (nx := 119) clsX7 dX10_count_116 rfl kF_X10_95 (by decide) (fo_1 F) (ft_1 F) rfl rfl rfl ?_
    exact wp_ireturn dX10_count_119 rfl rfl rfl h
  · have h := h.2.2.1 hc
    refine wp_tableIn (tg := 120) (off := 72) dX10_count_48 (by omega) (by omega) (by rw [show (l1 - 0).toNat = 1 by omega]; rfl) rfl ?_
    refine wp_aload_n (nx := 121) dX10_count_120 rfl rfl ?_
    refine wp_getAe (kk := 0) (nx := 124) clsX10 dX10_count_121 rfl kF_X10_12 (by decide) (fo_0 F) (ft_0 F) rfl (fp_0_0 F) ?_
    refine wp_invV (nx := 127) (N := M_X7_countNotes) (as := []) (st := []) (mc := 0) (ms := 0) (mc' := mc) (ms' := ms) (a := 1) clsX7 dX10_count_124 rfl mok_X7_countNotes kM_X10_293 ki_X7_countNotes ke_X7_countNotes (fo_1 F) (ft_1 F) rfl rfl (leB rfl) (leB rfl) (z0 _) (z0 _) (Wp.mono h ?_)
    intro r1 Sq C2 h
    obtain ⟨e9, h⟩ := h
    rw [e9]
    show Wp (d + 1) mc ms M_X10_count 127 [cA 0, cI l1] [cI r1] S C2 Q
    exact wp_ireturn dX10_count_127 rfl rfl rfl h
  · have h := h.2.2.2.1 hc
    refine wp_tableIn (tg := 128) (off := 80) dX10_count_48 (by omega) (by omega) (by rw [show (l1 - 0).toNat = 2 by omega]; rfl) rfl ?_
    refine wp_aload_n (nx := 129) dX10_count_128 rfl rfl ?_
    refine wp_getAe (kk := 0) (nx := 132) clsX10 dX10_count_129 rfl kF_X10_12 (by decide) (fo_0 F) (ft_0 F) rfl (fp_0_0 F) ?_
    refine wp_getIe (kk := 6) 6 (nx := 135) clsX7 dX10_count_132 rfl kF_X10_246 (by decide) (fo_1 F) (ft_1 F) rfl rfl rfl ?_
    exact wp_ireturn dX10_count_135 rfl rfl rfl h
  · have h := h.2.2.2.2.1 hc
    refine wp_tableIn (tg := 136) (off := 88) dX10_count_48 (by omega) (by omega) (by rw [show (l1 - 0).toNat = 3 by omega]; rfl) rfl ?_
    refine wp_aload_n (nx := 137) dX10_count_136 rfl rfl ?_
    refine wp_getAe (kk := 0) (nx := 140) clsX10 dX10_count_137 rfl kF_X10_12 (by decide) (fo_0 F) (ft_0 F) rfl (fp_0_0 F) ?_
    refine wp_getIe (kk := 8) 8 (nx := 143) clsX7 dX10_count_140 rfl kF_X10_160 (by decide) (fo_1 F) (ft_1 F) rfl rfl rfl ?_
    exact wp_ireturn dX10_count_143 rfl rfl rfl h
  · have h := h.2.2.2.2.2.1 hc
    refine wp_tableIn (tg := 144) (off := 96) dX10_count_48 (by omega) (by omega) (by rw [show (l1 - 0).toNat = 4 by omega]; rfl) rfl ?_
    refine wp_aload_n (nx := 145) dX10_count_144 rfl rfl ?_
    refine wp_getAe (kk := 10) (nx := 148) clsX10 dX10_count_145 rfl kF_X10_72 (by decide) (fo_0 F) (ft_0 F) rfl (fp_0_10 F) ?_
    refine wp_getIe (kk := 3) 3 (nx := 151) clsX0 dX10_count_148 rfl kF_X10_297 (by decide) (fo_55 F) (ft_55 F) rfl rfl rfl ?_
    exact wp_ireturn dX10_count_151 rfl rfl rfl h
  · have h := h.2.2.2.2.2.2.1 hc
    refine wp_tableIn (tg := 152) (off := 104) dX10_count_48 (by omega) (by omega) (by rw [show (l1 - 0).toNat = 5 by omega]; rfl) rfl ?_
    refine wp_aload_n (nx := 153) dX10_count_152 rfl rfl ?_
    refine wp_getAe (kk := 5) (nx := 156) clsX10 dX10_count_153 rfl kF_X10_33 (by decide) (fo_0 F) (ft_0 F) rfl (fp_0_5 F) ?_
    refine wp_getIe (kk := 1) 1 (nx := 159) clsX8 dX10_count_156 rfl kF_X10_147 (by decide) (fo_27 F) (ft_27 F) rfl rfl rfl ?_
    exact wp_ireturn dX10_count_159 rfl rfl rfl h
  · have h := h.2.2.2.2.2.2.2.1 hc
    refine wp_tableIn (tg := 168) (off := 120) dX10_count_48 (by omega) (by omega) (by rw [show (l1 - 0).toNat = 6 by omega]; rfl) rfl ?_
    refine wp_iconst (nx := 169) dX10_count_168 rfl (i32 (by decide)) ?_
    exact wp_ireturn dX10_count_169 rfl rfl rfl h
  · have h := h.2.2.2.2.2.2.2.2.1 hc
    refine wp_tableIn (tg := 168) (off := 120) dX10_count_48 (by omega) (by omega) (by rw [show (l1 - 0).toNat = 7 by omega]; rfl) rfl ?_
    refine wp_iconst (nx := 169) dX10_count_168 rfl (i32 (by decide)) ?_
    exact wp_ireturn dX10_count_169 rfl rfl rfl h
  · have h := h.2.2.2.2.2.2.2.2.2.1 hc
    refine wp_tableIn (tg := 168) (off := 120) dX10_count_48 (by omega) (by omega) (by rw [show (l1 - 0).toNat = 8 by omega]; rfl) rfl ?_
    refine wp_iconst (nx := 169) dX10_count_168 rfl (i32 (by decide)) ?_
    exact wp_ireturn dX10_count_169 rfl rfl rfl h
  · have h := h.2.2.2.2.2.2.2.2.2.2.1 hc
    refine wp_tableIn (tg := 168) (off := 120) dX10_count_48 (by omega) (by omega) (by rw [show (l1 - 0).toNat = 9 by omega]; rfl) rfl ?_
    refine wp_iconst (nx := 169) dX10_count_168 rfl (i32 (by decide)) ?_
    exact wp_ireturn dX10_count_169 rfl rfl rfl h
  · have h := h.2.2.2.2.2.2.2.2.2.2.2.1 hc
    refine wp_tableIn (tg := 168) (off := 120) dX10_count_48 (by omega) (by omega) (by rw [show (l1 - 0).toNat = 10 by omega]; rfl) rfl ?_
    refine wp_iconst (nx := 169) dX10_count_168 rfl (i32 (by decide)) ?_
    exact wp_ireturn dX10_count_169 rfl rfl rfl h
  · have h := h.2.2.2.2.2.2.2.2.2.2.2.2 hc
    refine wp_tableIn (tg := 160) (off := 112) dX10_count_48 (by omega) (by omega) (by rw [show (l1 - 0).toNat = 11 by omega]; rfl) rfl ?_
    refine wp_aload_n (nx := 161) dX10_count_160 rfl rfl ?_
    refine wp_getAe (kk := 0) (nx := 164) clsX10 dX10_count_161 rfl kF_X10_12 (by decide) (fo_0 F) (ft_0 F) rfl (fp_0_0 F) ?_
    refine wp_getIe (kk := 9) 9 (nx := 167) clsX7 dX10_count_164 rfl kF_X10_194 (by decide) (fo_1 F) (ft_1 F) rfl rfl rfl ?_
    exact wp_ireturn dX10_count_167 rfl rfl rfl h
theorem b_X10_status_0 {d mc ms : Nat} {S : MS} {C : MC} {Q : Int → MS → MC → Prop} (F : Fix S) (h : Q (C 0 16) S C) : K_X10_status_0 d mc ms S C Q := by
  show Wp d mc ms M_X10_status 0 [cA 0] [] S C Q
  refine wp_aload_n (nx := 1) dX10_status_0 rfl rfl ?_
  refine wp_getIe (kk := 16) 16 (nx := 4) clsX10 dX10_status_1 rfl kF_X10_300 (by decide) (fo_0 F) (ft_0 F) rfl rfl rfl ?_
  exact wp_ireturn dX10_status_4 rfl rfl rfl h
theorem b_X10_refuse_0 {d mc ms : Nat} {l1 : Int} {S : MS} {C : MC} {Q : Int → MS → MC → Prop} (F : Fix S) (h : ((l1 < -5 ∨ -1 < l1 → Q l1 S (upC (upC C 0 16 l1) 64 4 (w32 ((C 64 4) + 1)))) ∧ (l1 = -5 → Q l1 S (upC (upC C 0 16 l1) 64 3 (w32 ((C 64 3) + 1)))) ∧ (l1 = -4 → Q l1 S (upC (upC C 0 16 l1) 64 4 (w32 ((C 64 4) + 1)))) ∧ (l1 = -3 → Q l1 S (upC (upC C 0 16 l1) 64 2 (w32 ((C 64 2) + 1)))) ∧ (l1 = -2 → Q l1 S (upC (upC C 0 16 l1) 64 1 (w32 ((C 64 1) + 1)))) ∧ (l1 = -1 → Q l1 S (upC (upC C 0 16 l1) 64 0 (w32 ((C 64 0) + 1)))))) : K_X10_refuse_0 d mc ms l1 S C Q := by
  show Wp d mc ms M_X10_refuse 0 [cA 0, cI l1] [] S C Q
  refine wp_aload_n (nx := 1) dX10_refuse_0 rfl rfl ?_
  refine wp_iload_n (nx := 2) dX10_refuse_1 rfl rfl ?_
  refine wp_putIe (kk := 16) 16 (nx := 5) clsX10 dX10_refuse_2 rfl kF_X10_300 (by decide) (fo_0 F) (ft_0 F) rfl rfl ⟨rfl, rfl⟩ rfl ?_
  refine wp_iload_n (nx := 6) dX10_refuse_5 rfl rfl ?_
  rcases (show (l1 < -5 ∨ -1 < l1) ∨ l1 = -5 ∨ l1 = -4 ∨ l1 = -3 ∨ l1 = -2 ∨ l1 = -1 by omega) with hc | hc | hc | hc | hc | hc
  · have h := h.1 hc
    refine wp_tableOut (tg := 92) dX10_refuse_6 hc rfl ?_
    refine wp_aload_n (nx := 93) dX10_refuse_92 rfl rfl ?_
    refine wp_getAe (kk := 13) (nx := 96) clsX10 dX10_refuse_93 rfl kF_X10_87 (by decide) (fo_0 F) (ft_0 F) rfl (fp_0_13 F) ?_
    refine wp_iconst (nx := 97) dX10_refuse_96 rfl (i32 (by decide)) ?_
    refine wp_dup2 (nx := 98) dX10_refuse_97 rfl (k1I _) (k1A _) ?_
    refine wp_ialoadE (nx := 99) dX10_refuse_98 rfl (fo_64 F) (fl_64 F) (by decide) (ft_64 F) (upC_sA (by decide)) ?_
    refine wp_iconst (nx := 100) dX10_refuse_99 rfl (i32 (by decide)) ?_
    refine wp_iadd (nx := 101) dX10_refuse_100 rfl ?_
    refine wp_iastoreE (nx := 102) dX10_refuse_101 rfl (fo_64 F) (fl_64 F) (by decide) (ft_64 F) ?_
    refine wp_iload_n (nx := 103) dX10_refuse_102 rfl rfl ?_
    exact wp_ireturn dX10_refuse_103 rfl rfl rfl h
  · have h := h.2.1 hc
    refine wp_tableIn (tg := 79) (off := 73) dX10_refuse_6 (by omega) (by omega) (by rw [show (l1 - (-5)).toNat = 0 by omega]; rfl) rfl ?_
    refine wp_aload_n (nx := 80) dX10_refuse_79 rfl rfl ?_
    refine wp_getAe (kk := 13) (nx := 83) clsX10 dX10_refuse_80 rfl kF_X10_87 (by decide) (fo_0 F) (ft_0 F) rfl (fp_0_13 F) ?_
    refine wp_iconst (nx := 84) dX10_refuse_83 rfl (i32 (by decide)) ?_
    refine wp_dup2 (nx := 85) dX10_refuse_84 rfl (k1I _) (k1A _) ?_
    refine wp_ialoadE (nx := 86) dX10_refuse_85 rfl (fo_64 F) (fl_64 F) (by decide) (ft_64 F) (upC_sA (by decide)) ?_
    refine wp_iconst (nx := 87) dX10_refuse_86 rfl (i32 (by decide)) ?_
    refine wp_iadd (nx := 88) dX10_refuse_87 rfl ?_
    refine wp_iastoreE (nx := 89) dX10_refuse_88 rfl (fo_64 F) (fl_64 F) (by decide) (ft_64 F) ?_
    refine wp_goto (nx := 102) dX10_refuse_89 rfl ?_
    refine wp_iload_n (nx := 103) dX10_refuse_102 rfl rfl ?_
    exact wp_ireturn dX10_refuse_103 rfl rfl rfl h
  · have h := h.2.2.1 hc
    refine wp_tableIn (tg := 92) (off := 86) dX10_refuse_6 (by omega) (by omega) (by rw [show (l1 - (-5)).toNat = 1 by omega]; rfl) rfl ?_
    refine wp_aload_n (nx := 93) dX10_refuse_92 rfl rfl ?_
    refine wp_getAe (kk := 13) (nx := 96) clsX10 dX10_refuse_93 rfl kF_X10_87 (by decide) (fo_0 F) (ft_0 F) rfl (fp_0_13 F) ?_
    refine wp_iconst (nx := 97) dX10_refuse_96 rfl (i32 (by decide)) ?_
    refine wp_dup2 (nx := 98) dX10_refuse_97 rfl (k1I _) (k1A _) ?_
    refine wp_ialoadE (nx := 99) dX10_refuse_98 rfl (fo_64 F) (fl_64 F) (by decide) (ft_64 F) (upC_sA (by decide)) ?_
    refine wp_iconst (nx := 100) dX10_refuse_99 rfl (i32 (by decide)) ?_
    refine wp_iadd (nx := 101) dX10_refuse_100 rfl ?_
    refine wp_iastoreE (nx := 102) dX10_refuse_101 rfl (fo_64 F) (fl_64 F) (by decide) (ft_64 F) ?_
    refine wp_iload_n (nx := 103) dX10_refuse_102 rfl rfl ?_
    exact wp_ireturn dX10_refuse_103 rfl rfl rfl h
  · have h := h.2.2.2.1 hc
    refine wp_tableIn (tg := 66) (off := 60) dX10_refuse_6 (by omega) (by omega) (by rw [show (l1 - (-5)).toNat = 2 by omega]; rfl) rfl ?_
    refine wp_aload_n (nx := 67) dX10_refuse_66 rfl rfl ?_
    refine wp_getAe (kk := 13) (nx := 70) clsX10 dX10_refuse_67 rfl kF_X10_87 (by decide) (fo_0 F) (ft_0 F) rfl (fp_0_13 F) ?_
    refine wp_iconst (nx := 71) dX10_refuse_70 rfl (i32 (by decide)) ?_
    refine wp_dup2 (nx := 72) dX10_refuse_71 rfl (k1I _) (k1A _) ?_
    refine wp_ialoadE (nx := 73) dX10_refuse_72 rfl (fo_64 F) (fl_64 F) (by decide) (ft_64 F) (upC_sA (by decide)) ?_
    refine wp_iconst (nx := 74) dX10_refuse_73 rfl (i32 (by decide)) ?_
    refine wp_iadd (nx := 75) dX10_refuse_74 rfl ?_
    refine wp_iastoreE (nx := 76) dX10_refuse_75 rfl (fo_64 F) (fl_64 F) (by decide) (ft_64 F) ?_
    refine wp_goto (nx := 102) dX10_refuse_76 rfl ?_
    refine wp_iload_n (nx := 103) dX10_refuse_102 rfl rfl ?_
    exact wp_ireturn dX10_refuse_103 rfl rfl rfl h
  · have h := h.2.2.2.2.1 hc
    refine wp_tableIn (tg := 53) (off := 47) dX10_refuse_6 (by omega) (by omega) (by rw [show (l1 - (-5)).toNat = 3 by omega]; rfl) rfl ?_
    refine wp_aload_n (nx := 54) dX10_refuse_53 rfl rfl ?_
    refine wp_getAe (kk := 13) (nx := 57) clsX10 dX10_refuse_54 rfl kF_X10_87 (by decide) (fo_0 F) (ft_0 F) rfl (fp_0_13 F) ?_
    refine wp_iconst (nx := 58) dX10_refuse_57 rfl (i32 (by decide)) ?_
    refine wp_dup2 (nx := 59) dX10_refuse_58 rfl (k1I _) (k1A _) ?_
    refine wp_ialoadE (nx := 60) dX10_refuse_59 rfl (fo_64 F) (fl_64 F) (by decide) (ft_64 F) (upC_sA (by decide)) ?_
    refine wp_iconst (nx := 61) dX10_refuse_60 rfl (i32 (by decide)) ?_
    refine wp_iadd (nx := 62) dX10_refuse_61 rfl ?_
    refine wp_iastoreE (nx := 63) dX10_refuse_62 rfl (fo_64 F) (fl_64 F) (by decide) (ft_64 F) ?_
    refine wp_goto (nx := 102) dX10_refuse_63 rfl ?_
    refine wp_iload_n (nx := 103) dX10_refuse_102 rfl rfl ?_
    exact wp_ireturn dX10_refuse_103 rfl rfl rfl h
  · have h := h.2.2.2.2.2 hc
    refine wp_tableIn (tg := 40) (off := 34) dX10_refuse_6 (by omega) (by omega) (by rw [show (l1 - (-5)).toNat = 4 by omega]; rfl) rfl ?_
    refine wp_aload_n (nx := 41) dX10_refuse_40 rfl rfl ?_
    refine wp_getAe (kk := 13) (nx := 44) clsX10 dX10_refuse_41 rfl kF_X10_87 (by decide) (fo_0 F) (ft_0 F) rfl (fp_0_13 F) ?_
    refine wp_iconst (nx := 45) dX10_refuse_44 rfl (i32 (by decide)) ?_
    refine wp_dup2 (nx := 46) dX10_refuse_45 rfl (k1I _) (k1A _) ?_
    refine wp_ialoadE (nx := 47) dX10_refuse_46 rfl (fo_64 F) (fl_64 F) (by decide) (ft_64 F) (upC_sA (by decide)) ?_
    refine wp_iconst (nx := 48) dX10_refuse_47 rfl (i32 (by decide)) ?_
    refine wp_iadd (nx := 49) dX10_refuse_48 rfl ?_
    refine wp_iastoreE (nx := 50) dX10_refuse_49 rfl (fo_64 F) (fl_64 F) (by decide) (ft_64 F) ?_
    refine wp_goto (nx := 102) dX10_refuse_50 rfl ?_
    refine wp_iload_n (nx := 103) dX10_refuse_102 rfl rfl ?_
    exact wp_ireturn dX10_refuse_103 rfl rfl rfl h
theorem b_X10_accept_0 {d mc ms : Nat} {l1 : Int} {S : MS} {C : MC} {Q : Int → MS → MC → Prop} (F : Fix S) (h : Q l1 S (upC C 0 16 0)) : K_X10_accept_0 d mc ms l1 S C Q := by
  show Wp d mc ms M_X10_accept 0 [cA 0, cI l1] [] S C Q
  refine wp_aload_n (nx := 1) dX10_accept_0 rfl rfl ?_
  refine wp_iconst (nx := 2) dX10_accept_1 rfl (i32 (by decide)) ?_
  refine wp_putIe (kk := 16) 16 (nx := 5) clsX10 dX10_accept_2 rfl kF_X10_300 (by decide) (fo_0 F) (ft_0 F) rfl rfl ⟨rfl, rfl⟩ rfl ?_
  refine wp_iload_n (nx := 6) dX10_accept_5 rfl rfl ?_
  exact wp_ireturn dX10_accept_6 rfl rfl rfl h
theorem b_X10_change_0 {d mc ms : Nat} {l1 l2 l3 : Int} {S : MS} {C : MC} {Q : Int → MS → MC → Prop} (F : Fix S) (h : K_X0_make_0 d 0 0 l1 l2 l3 S C (fun r1 Sq C2 => Sq = S ∧ K_X0_keepLatest_0 d 0 0 S C2 (fun r3 Sq C4 => Sq = S ∧ ((0 ≤ r1 → K_X10_accept_0 d 0 0 r1 S C4 (fun r5 Sq C6 => Sq = S ∧ Q r5 S C6)) ∧ (¬ 0 ≤ r1 → K_X10_refuse_0 d 0 0 r1 S C4 (fun r7 Sq C8 => Sq = S ∧ Q r7 S C8)))))) : K_X10_change_0 (d + 1) mc ms l1 l2 l3 S C Q := by
  show Wp (d + 1) mc ms M_X10_change 0 [cA 0, cI l1, cI l2, cI l3, cU] [] S C Q
  refine wp_aload_n (nx := 1) dX10_change_0 rfl rfl ?_
  refine wp_getAe (kk := 10) (nx := 4) clsX10 dX10_change_1 rfl kF_X10_72 (by decide) (fo_0 F) (ft_0 F) rfl (fp_0_10 F) ?_
  refine wp_aload_n (nx := 5) dX10_change_4 rfl rfl ?_
  refine wp_getAe (kk := 0) (nx := 8) clsX10 dX10_change_5 rfl kF_X10_12 (by decide) (fo_0 F) (ft_0 F) rfl (fp_0_0 F) ?_
  refine wp_iload_n (nx := 9) dX10_change_8 rfl rfl ?_
  refine wp_iload_n (nx := 10) dX10_change_9 rfl rfl ?_
  refine wp_iload_n (nx := 11) dX10_change_10 rfl rfl ?_
  refine wp_invV (nx := 14) (N := M_X0_make) (as := [cA 1, cI l1, cI l2, cI l3]) (st := []) (mc := 0) (ms := 0) (mc' := mc) (ms' := ms) (a := 55) clsX0 dX10_change_11 rfl mok_X0_make kM_X10_303 ki_X0_make ke_X0_make (fo_55 F) (ft_55 F) rfl rfl (leB rfl) (leB rfl) (z0 _) (z0 _) (Wp.mono h ?_)
  intro r1 Sq C2 h
  obtain ⟨e9, h⟩ := h
  rw [e9]
  show Wp (d + 1) mc ms M_X10_change 14 [cA 0, cI l1, cI l2, cI l3, cU] [cI r1] S C2 Q
  refine wp_istore (nx := 16) dX10_change_14 rfl (by decide) ?_
  refine wp_ls (ls2 := [cA 0, cI l1, cI l2, cI l3, cI r1]) rfl ?_
  refine wp_aload_n (nx := 17) dX10_change_16 rfl rfl ?_
  refine wp_getAe (kk := 10) (nx := 20) clsX10 dX10_change_17 rfl kF_X10_72 (by decide) (fo_0 F) (ft_0 F) rfl (fp_0_10 F) ?_
  refine wp_invV (nx := 23) (N := M_X0_keepLatest) (as := []) (st := []) (mc := 0) (ms := 0) (mc' := mc) (ms' := ms) (a := 55) clsX0 dX10_change_20 rfl mok_X0_keepLatest kM_X10_307 ki_X0_keepLatest ke_X0_keepLatest (fo_55 F) (ft_55 F) rfl rfl (leB rfl) (leB rfl) (z0 _) (z0 _) (Wp.mono h ?_)
  intro r3 Sq C4 h
  obtain ⟨e9, h⟩ := h
  rw [e9]
  show Wp (d + 1) mc ms M_X10_change 23 [cA 0, cI l1, cI l2, cI l3, cI r1] [] S C4 Q
  refine wp_iload (nx := 25) dX10_change_23 rfl rfl ?_
  refine wp_if_ge (nx := 28) (tg := 37) dX10_change_25 rfl rfl (fun hc => ?_) (fun hc => ?_)
  · have h := h.1 hc
    refine wp_aload_n (nx := 38) dX10_change_37 rfl rfl ?_
    refine wp_iload (nx := 40) dX10_change_38 rfl rfl ?_
    refine wp_invV (nx := 43) (N := M_X10_accept) (as := [cI r1]) (st := []) (mc := 0) (ms := 0) (mc' := mc) (ms' := ms) (a := 0) clsX10 dX10_change_40 rfl mok_X10_accept kM_X10_108 ki_X10_accept ke_X10_accept (fo_0 F) (ft_0 F) rfl rfl (leB rfl) (leB rfl) (z0 _) (z0 _) (Wp.mono h ?_)
    intro r5 Sq C6 h
    obtain ⟨e9, h⟩ := h
    rw [e9]
    show Wp (d + 1) mc ms M_X10_change 43 [cA 0, cI l1, cI l2, cI l3, cI r1] [cI r5] S C6 Q
    exact wp_ireturn dX10_change_43 rfl rfl rfl h
  · have h := h.2 hc
    refine wp_aload_n (nx := 29) dX10_change_28 rfl rfl ?_
    refine wp_iload (nx := 31) dX10_change_29 rfl rfl ?_
    refine wp_invV (nx := 34) (N := M_X10_refuse) (as := [cI r1]) (st := []) (mc := 0) (ms := 0) (mc' := mc) (ms' := ms) (a := 0) clsX10 dX10_change_31 rfl mok_X10_refuse kM_X10_91 ki_X10_refuse ke_X10_refuse (fo_0 F) (ft_0 F) rfl rfl (leB rfl) (leB rfl) (z0 _) (z0 _) (Wp.mono h ?_)
    intro r7 Sq C8 h
    obtain ⟨e9, h⟩ := h
    rw [e9]
    show Wp (d + 1) mc ms M_X10_change 34 [cA 0, cI l1, cI l2, cI l3, cI r1] [cI r7] S C8 Q
    refine wp_goto (nx := 43) dX10_change_34 rfl ?_
    exact wp_ireturn dX10_change_43 rfl rfl rfl h
theorem b_X10_mindedIfShifted_0 {d mc ms : Nat} {l1 : Int} {S : MS} {C : MC} {Q : Int → MS → MC → Prop} (F : Fix S) (h : K_X7_canShift_0 d 0 0 1 l1 S C (fun r1 Sq C2 => Sq = S ∧ ((¬ r1 = 0 → K_X7_copyFrom_0 d 0 0 9 1 S C2 (fun r3 S5 C4 => Fix S5 ∧ K_X7_shiftBy_0 d 0 0 9 l1 S5 C4 (fun r7 Sq C8 => Sq = S5 ∧ K_X3_mindedInAll_0 d 0 0 9 S5 C8 (fun r9 S11 C10 => Fix S11 ∧ Q r9 S11 C10)))) ∧ (r1 = 0 → Q (-1) S C2)))) : K_X10_mindedIfShifted_0 (d + 1) mc ms l1 S C Q := by
  show Wp (d + 1) mc ms M_X10_mindedIfShifted 0 [cA 0, cI l1] [] S C Q
  refine wp_aload_n (nx := 1) dX10_mindedIfShifted_0 rfl rfl ?_
  refine wp_getAe (kk := 0) (nx := 4) clsX10 dX10_mindedIfShifted_1 rfl kF_X10_12 (by decide) (fo_0 F) (ft_0 F) rfl (fp_0_0 F) ?_
  refine wp_iload_n (nx := 5) dX10_mindedIfShifted_4 rfl rfl ?_
  refine wp_invV (nx := 8) (N := M_X7_canShift) (as := [cI l1]) (st := []) (mc := 0) (ms := 0) (mc' := mc) (ms' := ms) (a := 1) clsX7 dX10_mindedIfShifted_5 rfl mok_X7_canShift kM_X10_310 ki_X7_canShift ke_X7_canShift (fo_1 F) (ft_1 F) rfl rfl (leB rfl) (leB rfl) (z0 _) (z0 _) (Wp.mono h ?_)
  intro r1 Sq C2 h
  obtain ⟨e9, h⟩ := h
  rw [e9]
  show Wp (d + 1) mc ms M_X10_mindedIfShifted 8 [cA 0, cI l1] [cI r1] S C2 Q
  refine wp_if_ne (nx := 11) (tg := 13) dX10_mindedIfShifted_8 rfl rfl (fun hc => ?_) (fun hc => ?_)
  · have h := h.1 hc
    refine wp_aload_n (nx := 14) dX10_mindedIfShifted_13 rfl rfl ?_
    refine wp_getAe (kk := 1) (nx := 17) clsX10 dX10_mindedIfShifted_14 rfl kF_X10_16 (by decide) (fo_0 F) (ft_0 F) rfl (fp_0_1 F) ?_
    refine wp_aload_n (nx := 18) dX10_mindedIfShifted_17 rfl rfl ?_
    refine wp_getAe (kk := 0) (nx := 21) clsX10 dX10_mindedIfShifted_18 rfl kF_X10_12 (by decide) (fo_0 F) (ft_0 F) rfl (fp_0_0 F) ?_
    refine wp_invV (nx := 24) (N := M_X7_copyFrom) (as := [cA 1]) (st := []) (mc := 0) (ms := 0) (mc' := mc) (ms' := ms) (a := 9) clsX7 dX10_mindedIfShifted_21 rfl mok_X7_copyFrom kM_X10_282 ki_X7_copyFrom ke_X7_copyFrom (fo_9 F) (ft_9 F) rfl rfl (leB rfl) (leB rfl) (z0 _) (z0 _) (Wp.mono h ?_)
    intro r3 S5 C4 h
    obtain ⟨F6, h⟩ := h
    show Wp (d + 1) mc ms M_X10_mindedIfShifted 24 [cA 0, cI l1] [] S5 C4 Q
    refine wp_aload_n (nx := 25) dX10_mindedIfShifted_24 rfl rfl ?_
    refine wp_getAe (kk := 1) (nx := 28) clsX10 dX10_mindedIfShifted_25 rfl kF_X10_16 (by decide) (fo_0 F6) (ft_0 F6) rfl (fp_0_1 F6) ?_
    refine wp_iload_n (nx := 29) dX10_mindedIfShifted_28 rfl rfl ?_
    refine wp_invV (nx := 32) (N := M_X7_shiftBy) (as := [cI l1]) (st := []) (mc := 0) (ms := 0) (mc' := mc) (ms' := ms) (a := 9) clsX7 dX10_mindedIfShifted_29 rfl mok_X7_shiftBy kM_X10_313 ki_X7_shiftBy ke_X7_shiftBy (fo_9 F6) (ft_9 F6) rfl rfl (leB rfl) (leB rfl) (z0 _) (z0 _) (Wp.mono h ?_)
    intro r7 Sq C8 h
    obtain ⟨e9, h⟩ := h
    rw [e9]
    show Wp (d + 1) mc ms M_X10_mindedIfShifted 32 [cA 0, cI l1] [] S5 C8 Q
    refine wp_aload_n (nx := 33) dX10_mindedIfShifted_32 rfl rfl ?_
    refine wp_getAe (kk := 8) (nx := 36) clsX10 dX10_mindedIfShifted_33 rfl kF_X10_58 (by decide) (fo_0 F6) (ft_0 F6) rfl (fp_0_8 F6) ?_
    refine wp_aload_n (nx := 37) dX10_mindedIfShifted_36 rfl rfl ?_
    refine wp_getAe (kk := 1) (nx := 40) clsX10 dX10_mindedIfShifted_37 rfl kF_X10_16 (by decide) (fo_0 F6) (ft_0 F6) rfl (fp_0_1 F6) ?_
    refine wp_invV (nx := 43) (N := M_X3_mindedInAll) (as := [cA 9]) (st := []) (mc := 0) (ms := 0) (mc' := mc) (ms' := ms) (a := 44) clsX3 dX10_mindedIfShifted_40 rfl mok_X3_mindedInAll kM_X10_208 ki_X3_mindedInAll ke_X3_mindedInAll (fo_44 F6) (ft_44 F6) rfl rfl (leB rfl) (leB rfl) (z0 _) (z0 _) (Wp.mono h ?_)
    intro r9 S11 C10 h
    obtain ⟨F12, h⟩ := h
    show Wp (d + 1) mc ms M_X10_mindedIfShifted 43 [cA 0, cI l1] [cI r9] S11 C10 Q
    exact wp_ireturn dX10_mindedIfShifted_43 rfl rfl rfl h
  · have h := h.2 hc
    refine wp_iconst (nx := 12) dX10_mindedIfShifted_11 rfl (i32 (by decide)) ?_
    exact wp_ireturn dX10_mindedIfShifted_12 rfl rfl rfl h
theorem b_X10_spendEvening_0 {d mc ms : Nat} {l1 : Int} {S : MS} {C : MC} {Q : Int → MS → MC → Prop} (F : Fix S) (h : K_X10_stir_0 d 0 0 l1 S C (fun r1 Sq C2 => Sq = S ∧ K_X10_stir_0 d 0 0 r1 S C2 (fun r3 Sq C4 => Sq = S ∧ K_X10_stir_0 d 0 0 r3 S C4 (fun r5 Sq C6 => Sq = S ∧ ((C6 17 0 ≤ 0 → K_X10_spendEvening_49 (d + 1) mc ms r5 (w32 (Int.tmod r1 16)) (w32 (Int.tmod r3 8)) (-1) S C6 Q) ∧ (¬ C6 17 0 ≤ 0 → (C6 17 0 ≠ 0) ∧ K_X10_spendEvening_49 (d + 1) mc ms r5 (w32 (Int.tmod r1 16)) (w32 (Int.tmod r3 8)) (w32 (Int.tmod r5 (C6 17 0))) S C6 Q)))))) : K_X10_spendEvening_0 (d + 1) mc ms l1 S C Q := by
  show Wp (d + 1) mc ms M_X10_spendEvening 0 [cA 0, cI l1, cU, cU, cU, cU] [] S C Q
  refine wp_iload_n (nx := 1) dX10_spendEvening_0 rfl rfl ?_
  refine wp_invS (nx := 4) (N := M_X10_stir) (as := [cI l1]) (st := []) (mc := 0) (ms := 0) (mc' := mc) (ms' := ms) dX10_spendEvening_1 rfl mok_X10_stir kM_X10_316 ks_X10_stir rfl rfl (leB rfl) (leB rfl) (z0 _) (z0 _) (Wp.mono h ?_)
  intro r1 Sq C2 h
  obtain ⟨e9, h⟩ := h
  rw [e9]
  show Wp (d + 1) mc ms M_X10_spendEvening 4 [cA 0, cI l1, cU, cU, cU, cU] [cI r1] S C2 Q
  refine wp_istore_n (nx := 5) dX10_spendEvening_4 rfl (by decide) ?_
  refine wp_ls (ls2 := [cA 0, cI l1, cI r1, cU, cU, cU]) rfl ?_
  refine wp_iload_n (nx := 6) dX10_spendEvening_5 rfl rfl ?_
  refine wp_bipush (nx := 8) dX10_spendEvening_6 rfl ⟨by decide, i32 (by decide)⟩ ?_
  refine wp_irem (nx := 9) dX10_spendEvening_8 rfl (by decide) ?_
  refine wp_istore_n (nx := 10) dX10_spendEvening_9 rfl (by decide) ?_
  refine wp_ls (ls2 := [cA 0, cI l1, cI r1, cI (w32 (Int.tmod r1 16)), cU, cU]) rfl ?_
  refine wp_iload_n (nx := 11) dX10_spendEvening_10 rfl rfl ?_
  refine wp_invS (nx := 14) (N := M_X10_stir) (as := [cI r1]) (st := []) (mc := 0) (ms := 0) (mc' := mc) (ms' := ms) dX10_spendEvening_11 rfl mok_X10_stir kM_X10_316 ks_X10_stir rfl rfl (leB rfl) (leB rfl) (z0 _) (z0 _) (Wp.mono h ?_)
  intro r3 Sq C4 h
  obtain ⟨e9, h⟩ := h
  rw [e9]
  show Wp (d + 1) mc ms M_X10_spendEvening 14 [cA 0, cI l1, cI r1, cI (w32 (Int.tmod r1 16)), cU, cU] [cI r3] S C4 Q
  refine wp_istore_n (nx := 15) dX10_spendEvening_14 rfl (by decide) ?_
  refine wp_ls (ls2 := [cA 0, cI l1, cI r3, cI (w32 (Int.tmod r1 16)), cU, cU]) rfl ?_
  refine wp_iload_n (nx := 16) dX10_spendEvening_15 rfl rfl ?_
  refine wp_bipush (nx := 18) dX10_spendEvening_16 rfl ⟨by decide, i32 (by decide)⟩ ?_
  refine wp_irem (nx := 19) dX10_spendEvening_18 rfl (by decide) ?_
  refine wp_istore (nx := 21) dX10_spendEvening_19 rfl (by decide) ?_
  refine wp_ls (ls2 := [cA 0, cI l1, cI r3, cI (w32 (Int.tmod r1 16)), cI (w32 (Int.tmod r3 8)), cU]) rfl ?_
  refine wp_iload_n (nx := 22) dX10_spendEvening_21 rfl rfl ?_
  refine wp_invS (nx := 25) (N := M_X10_stir) (as := [cI r3]) (st := []) (mc := 0) (ms := 0) (mc' := mc) (ms' := ms) dX10_spendEvening_22 rfl mok_X10_stir kM_X10_316 ks_X10_stir rfl rfl (leB rfl) (leB rfl) (z0 _) (z0 _) (Wp.mono h ?_)
  intro r5 Sq C6 h
  obtain ⟨e9, h⟩ := h
  rw [e9]
  show Wp (d + 1) mc ms M_X10_spendEvening 25 [cA 0, cI l1, cI r3, cI (w32 (Int.tmod r1 16)), cI (w32 (Int.tmod r3 8)), cU] [cI r5] S C6 Q
  refine wp_istore_n (nx := 26) dX10_spendEvening_25 rfl (by decide) ?_
  refine wp_ls (ls2 := [cA 0, cI l1, cI r5, cI (w32 (Int.tmod r1 16)), cI (w32 (Int.tmod r3 8)), cU]) rfl ?_
  refine wp_aload_n (nx := 27) dX10_spendEvening_26 rfl rfl ?_
  refine wp_getAe (kk := 2) (nx := 30) clsX10 dX10_spendEvening_27 rfl kF_X10_19 (by decide) (fo_0 F) (ft_0 F) rfl (fp_0_2 F) ?_
  refine wp_getIe (kk := 0) 0 (nx := 33) clsX7 dX10_spendEvening_30 rfl kF_X10_95 (by decide) (fo_17 F) (ft_17 F) rfl rfl rfl ?_
  refine wp_if_le (nx := 36) (tg := 48) dX10_spendEvening_33 rfl rfl (fun hc => ?_) (fun hc => ?_)
  · have h := h.1 hc
    refine wp_iconst (nx := 49) dX10_spendEvening_48 rfl (i32 (by decide)) ?_
    refine wp_fg [true, false, true, true, true, false] (ls2 := [cA 0, cU, cI r5, cI (w32 (Int.tmod r1 16)), cI (w32 (Int.tmod r3 8)), cU]) rfl ?_
    exact h
  · have h := h.2 hc
    refine wp_iload_n (nx := 37) dX10_spendEvening_36 rfl rfl ?_
    refine wp_aload_n (nx := 38) dX10_spendEvening_37 rfl rfl ?_
    refine wp_getAe (kk := 2) (nx := 41) clsX10 dX10_spendEvening_38 rfl kF_X10_19 (by decide) (fo_0 F) (ft_0 F) rfl (fp_0_2 F) ?_
    refine wp_getIe (kk := 0) 0 (nx := 44) clsX7 dX10_spendEvening_41 rfl kF_X10_95 (by decide) (fo_17 F) (ft_17 F) rfl rfl rfl ?_
    obtain ⟨h0, h⟩ := h
    refine wp_irem (nx := 45) dX10_spendEvening_44 rfl h0 ?_
    refine wp_goto (nx := 49) dX10_spendEvening_45 rfl ?_
    refine wp_fg [true, false, true, true, true, false] (ls2 := [cA 0, cU, cI r5, cI (w32 (Int.tmod r1 16)), cI (w32 (Int.tmod r3 8)), cU]) rfl ?_
    exact h
theorem b_X10_spendEvening_49 {d mc ms : Nat} {l2 l3 l4 s0 : Int} {S : MS} {C : MC} {Q : Int → MS → MC → Prop} (F : Fix S) (h : K_X10_stir_0 d 0 0 l2 S C (fun r1 Sq C2 => Sq = S ∧ ((¬ w32 (Int.tmod r1 3) = 0 → ((¬ w32 (Int.tmod r1 3) = 1 → Q r1 S (upC C2 24 0 (w32 ((C2 24 0) + 1)))) ∧ (w32 (Int.tmod r1 3) = 1 → ((0 : Int) ≤ l4 ∧ l4 < 8) ∧ Q r1 S (upC (upC C2 20 l4 s0) 24 0 (w32 ((C2 24 0) + 1)))))) ∧ (w32 (Int.tmod r1 3) = 0 → ((0 : Int) ≤ l3 ∧ l3 < 16) ∧ ((0 : Int) ≤ l3 ∧ l3 < 16) ∧ Q r1 S (upC (upC C2 21 l3 (iXor (C2 21 l3) (iShl 1 l4))) 24 0 (w32 ((C2 24 0) + 1))))))) : K_X10_spendEvening_49 (d + 1) mc ms l2 l3 l4 s0 S C Q := by
  show Wp (d + 1) mc ms M_X10_spendEvening 49 [cA 0, cU, cI l2, cI l3, cI l4, cU] [cI s0] S C Q
  refine wp_istore (nx := 51) dX10_spendEvening_49 rfl (by decide) ?_
  refine wp_ls (ls2 := [cA 0, cU, cI l2, cI l3, cI l4, cI s0]) rfl ?_
  refine wp_iload_n (nx := 52) dX10_spendEvening_51 rfl rfl ?_
  refine wp_invS (nx := 55) (N := M_X10_stir) (as := [cI l2]) (st := []) (mc := 0) (ms := 0) (mc' := mc) (ms' := ms) dX10_spendEvening_52 rfl mok_X10_stir kM_X10_316 ks_X10_stir rfl rfl (leB rfl) (leB rfl) (z0 _) (z0 _) (Wp.mono h ?_)
  intro r1 Sq C2 h
  obtain ⟨e9, h⟩ := h
  rw [e9]
  show Wp (d + 1) mc ms M_X10_spendEvening 55 [cA 0, cU, cI l2, cI l3, cI l4, cI s0] [cI r1] S C2 Q
  refine wp_istore_n (nx := 56) dX10_spendEvening_55 rfl (by decide) ?_
  refine wp_ls (ls2 := [cA 0, cU, cI r1, cI l3, cI l4, cI s0]) rfl ?_
  refine wp_iload_n (nx := 57) dX10_spendEvening_56 rfl rfl ?_
  refine wp_iconst (nx := 58) dX10_spendEvening_57 rfl (i32 (by decide)) ?_
  refine wp_irem (nx := 59) dX10_spendEvening_58 rfl (by decide) ?_
  refine wp_if_ne (nx := 62) (tg := 81) dX10_spendEvening_59 rfl rfl (fun hc => ?_) (fun hc => ?_)
  · have h := h.1 hc
    refine wp_iload_n (nx := 82) dX10_spendEvening_81 rfl rfl ?_
    refine wp_iconst (nx := 83) dX10_spendEvening_82 rfl (i32 (by decide)) ?_
    refine wp_irem (nx := 84) dX10_spendEvening_83 rfl (by decide) ?_
    refine wp_iconst (nx := 85) dX10_spendEvening_84 rfl (i32 (by decide)) ?_
    refine wp_icmp_ne (nx := 88) (tg := 100) dX10_spendEvening_85 rfl rfl (fun hc => ?_) (fun hc => ?_)
    · have h := h.1 hc
      refine wp_aload_n (nx := 101) dX10_spendEvening_100 rfl rfl ?_
      refine wp_getAe (kk := 2) (nx := 104) clsX10 dX10_spendEvening_101 rfl kF_X10_19 (by decide) (fo_0 F) (ft_0 F) rfl (fp_0_2 F) ?_
      refine wp_getAe (kk := 10) (nx := 107) clsX7 dX10_spendEvening_104 rfl kF_X10_144 (by decide) (fo_17 F) (ft_17 F) rfl (fp_17_10 F) ?_
      refine wp_iconst (nx := 108) dX10_spendEvening_107 rfl (i32 (by decide)) ?_
      refine wp_dup2 (nx := 109) dX10_spendEvening_108 rfl (k1I _) (k1A _) ?_
      refine wp_ialoadE (nx := 110) dX10_spendEvening_109 rfl (fo_24 F) (fl_24 F) (by decide) (ft_24 F) rfl ?_
      refine wp_iconst (nx := 111) dX10_spendEvening_110 rfl (i32 (by decide)) ?_
      refine wp_iadd (nx := 112) dX10_spendEvening_111 rfl ?_
      refine wp_iastoreE (nx := 113) dX10_spendEvening_112 rfl (fo_24 F) (fl_24 F) (by decide) (ft_24 F) ?_
      refine wp_iload_n (nx := 114) dX10_spendEvening_113 rfl rfl ?_
      exact wp_ireturn dX10_spendEvening_114 rfl rfl rfl h
    · have h := h.2 hc
      refine wp_aload_n (nx := 89) dX10_spendEvening_88 rfl rfl ?_
      refine wp_getAe (kk := 2) (nx := 92) clsX10 dX10_spendEvening_89 rfl kF_X10_19 (by decide) (fo_0 F) (ft_0 F) rfl (fp_0_2 F) ?_
      refine wp_getAe (kk := 3) (nx := 95) clsX7 dX10_spendEvening_92 rfl kF_X10_121 (by decide) (fo_17 F) (ft_17 F) rfl (fp_17_3 F) ?_
      refine wp_iload (nx := 97) dX10_spendEvening_95 rfl rfl ?_
      refine wp_iload (nx := 99) dX10_spendEvening_97 rfl rfl ?_
      obtain ⟨hi, h⟩ := h
      refine wp_iastoreE (nx := 100) dX10_spendEvening_99 rfl (fo_20 F) (fl_20 F) hi (ft_20 F) ?_
      refine wp_aload_n (nx := 101) dX10_spendEvening_100 rfl rfl ?_
      refine wp_getAe (kk := 2) (nx := 104) clsX10 dX10_spendEvening_101 rfl kF_X10_19 (by decide) (fo_0 F) (ft_0 F) rfl (fp_0_2 F) ?_
      refine wp_getAe (kk := 10) (nx := 107) clsX7 dX10_spendEvening_104 rfl kF_X10_144 (by decide) (fo_17 F) (ft_17 F) rfl (fp_17_10 F) ?_
      refine wp_iconst (nx := 108) dX10_spendEvening_107 rfl (i32 (by decide)) ?_
      refine wp_dup2 (nx := 109) dX10_spendEvening_108 rfl (k1I _) (k1A _) ?_
      refine wp_ialoadE (nx := 110) dX10_spendEvening_109 rfl (fo_24 F) (fl_24 F) (by decide) (ft_24 F) (upC_sA (by decide)) ?_
      refine wp_iconst (nx := 111) dX10_spendEvening_110 rfl (i32 (by decide)) ?_
      refine wp_iadd (nx := 112) dX10_spendEvening_111 rfl ?_
      refine wp_iastoreE (nx := 113) dX10_spendEvening_112 rfl (fo_24 F) (fl_24 F) (by decide) (ft_24 F) ?_
      refine wp_iload_n (nx := 114) dX10_spendEvening_113 rfl rfl ?_
      exact wp_ireturn dX10_spendEvening_114 rfl rfl rfl h
  · have h := h.2 hc
    refine wp_aload_n (nx := 63) dX10_spendEvening_62 rfl rfl ?_
    refine wp_getAe (kk := 2) (nx := 66) clsX10 dX10_spendEvening_63 rfl kF_X10_19 (by decide) (fo_0 F) (ft_0 F) rfl (fp_0_2 F) ?_
    refine wp_getAe (kk := 4) (nx := 69) clsX7 dX10_spendEvening_66 rfl kF_X10_127 (by decide) (fo_17 F) (ft_17 F) rfl (fp_17_4 F) ?_
    refine wp_iload_n (nx := 70) dX10_spendEvening_69 rfl rfl ?_
    refine wp_dup2 (nx := 71) dX10_spendEvening_70 rfl (k1I _) (k1A _) ?_
    obtain ⟨hi, h⟩ := h
    refine wp_ialoadE (nx := 72) dX10_spendEvening_71 rfl (fo_21 F) (fl_21 F) hi (ft_21 F) rfl ?_
    refine wp_iconst (nx := 73) dX10_spendEvening_72 rfl (i32 (by decide)) ?_
    refine wp_iload (nx := 75) dX10_spendEvening_73 rfl rfl ?_
    refine wp_ishl (nx := 76) dX10_spendEvening_75 rfl ?_
    refine wp_ixor (nx := 77) dX10_spendEvening_76 rfl ?_
    obtain ⟨hi, h⟩ := h
    refine wp_iastoreE (nx := 78) dX10_spendEvening_77 rfl (fo_21 F) (fl_21 F) hi (ft_21 F) ?_
    refine wp_goto (nx := 100) dX10_spendEvening_78 rfl ?_
    refine wp_aload_n (nx := 101) dX10_spendEvening_100 rfl rfl ?_
    refine wp_getAe (kk := 2) (nx := 104) clsX10 dX10_spendEvening_101 rfl kF_X10_19 (by decide) (fo_0 F) (ft_0 F) rfl (fp_0_2 F) ?_
    refine wp_getAe (kk := 10) (nx := 107) clsX7 dX10_spendEvening_104 rfl kF_X10_144 (by decide) (fo_17 F) (ft_17 F) rfl (fp_17_10 F) ?_
    refine wp_iconst (nx := 108) dX10_spendEvening_107 rfl (i32 (by decide)) ?_
    refine wp_dup2 (nx := 109) dX10_spendEvening_108 rfl (k1I _) (k1A _) ?_
    refine wp_ialoadE (nx := 110) dX10_spendEvening_109 rfl (fo_24 F) (fl_24 F) (by decide) (ft_24 F) (upC_sA (by decide)) ?_
    refine wp_iconst (nx := 111) dX10_spendEvening_110 rfl (i32 (by decide)) ?_
    refine wp_iadd (nx := 112) dX10_spendEvening_111 rfl ?_
    refine wp_iastoreE (nx := 113) dX10_spendEvening_112 rfl (fo_24 F) (fl_24 F) (by decide) (ft_24 F) ?_
    refine wp_iload_n (nx := 114) dX10_spendEvening_113 rfl rfl ?_
    exact wp_ireturn dX10_spendEvening_114 rfl rfl rfl h
theorem b_X10_stir_0 {d mc ms : Nat} {l0 : Int} {S : MS} {C : MC} {Q : Int → MS → MC → Prop} (F : Fix S) (h : Q (w32 (Int.tmod (w32 ((w32 (l0 * 1103)) + 12345)) 1000003)) S C) : K_X10_stir_0 d mc ms l0 S C Q := by
  show Wp d mc ms M_X10_stir 0 [cI l0] [] S C Q
  refine wp_iload_n (nx := 1) dX10_stir_0 rfl rfl ?_
  refine wp_sipush (nx := 4) dX10_stir_1 rfl ⟨by decide, i32 (by decide)⟩ ?_
  refine wp_imul (nx := 5) dX10_stir_4 rfl ?_
  refine wp_sipush (nx := 8) dX10_stir_5 rfl ⟨by decide, i32 (by decide)⟩ ?_
  refine wp_iadd (nx := 9) dX10_stir_8 rfl ?_
  refine wp_ldc_w (nx := 12) dX10_stir_9 rfl kI_X10_319 (i32 (by decide)) ?_
  refine wp_irem (nx := 13) dX10_stir_12 rfl (by decide) ?_
  exact wp_ireturn dX10_stir_13 rfl rfl rfl h
theorem b_X10_mostTerm_0 {d mc ms : Nat} {l0 : Int} {S : MS} {C : MC} {Q : Int → MS → MC → Prop} (F : Fix S) (h : ((¬ l0 = 0 → ((¬ l0 = 1 → Q 9 S C) ∧ (l0 = 1 → Q 10 S C))) ∧ (l0 = 0 → Q 999 S C))) : K_X10_mostTerm_0 d mc ms l0 S C Q := by
  show Wp d mc ms M_X10_mostTerm 0 [cI l0] [] S C Q
  refine wp_iload_n (nx := 1) dX10_mostTerm_0 rfl rfl ?_
  refine wp_if_ne (nx := 4) (tg := 8) dX10_mostTerm_1 rfl rfl (fun hc => ?_) (fun hc => ?_)
  · have h := h.1 hc
    refine wp_iload_n (nx := 9) dX10_mostTerm_8 rfl rfl ?_
    refine wp_iconst (nx := 10) dX10_mostTerm_9 rfl (i32 (by decide)) ?_
    refine wp_icmp_ne (nx := 13) (tg := 18) dX10_mostTerm_10 rfl rfl (fun hc => ?_) (fun hc => ?_)
    · have h := h.1 hc
      refine wp_bipush (nx := 20) dX10_mostTerm_18 rfl ⟨by decide, i32 (by decide)⟩ ?_
      exact wp_ireturn dX10_mostTerm_20 rfl rfl rfl h
    · have h := h.2 hc
      refine wp_bipush (nx := 15) dX10_mostTerm_13 rfl ⟨by decide, i32 (by decide)⟩ ?_
      refine wp_goto (nx := 20) dX10_mostTerm_15 rfl ?_
      exact wp_ireturn dX10_mostTerm_20 rfl rfl rfl h
  · have h := h.2 hc
    refine wp_sipush (nx := 7) dX10_mostTerm_4 rfl ⟨by decide, i32 (by decide)⟩ ?_
    exact wp_ireturn dX10_mostTerm_7 rfl rfl rfl h
theorem b_X10_isKey_0 {d mc ms : Nat} {l0 : Int} {S : MS} {C : MC} {Q : Int → MS → MC → Prop} (F : Fix S) (h : ((l0 < 0 → Q 0 S C) ∧ (¬ l0 < 0 → ((8 ≤ l0 → Q 0 S C) ∧ (¬ 8 ≤ l0 → Q 1 S C))))) : K_X10_isKey_0 d mc ms l0 S C Q := by
  show Wp d mc ms M_X10_isKey 0 [cI l0] [] S C Q
  refine wp_iload_n (nx := 1) dX10_isKey_0 rfl rfl ?_
  refine wp_if_lt (nx := 4) (tg := 14) dX10_isKey_1 rfl rfl (fun hc => ?_) (fun hc => ?_)
  · have h := h.1 hc
    refine wp_iconst (nx := 15) dX10_isKey_14 rfl (i32 (by decide)) ?_
    exact wp_ireturn dX10_isKey_15 rfl rfl (nz_of (Or.inl rfl)) h
  · have h := h.2 hc
    refine wp_iload_n (nx := 5) dX10_isKey_4 rfl rfl ?_
    refine wp_bipush (nx := 7) dX10_isKey_5 rfl ⟨by decide, i32 (by decide)⟩ ?_
    refine wp_icmp_ge (nx := 10) (tg := 14) dX10_isKey_7 rfl rfl (fun hc => ?_) (fun hc => ?_)
    · have h := h.1 hc
      refine wp_iconst (nx := 15) dX10_isKey_14 rfl (i32 (by decide)) ?_
      exact wp_ireturn dX10_isKey_15 rfl rfl (nz_of (Or.inl rfl)) h
    · have h := h.2 hc
      refine wp_iconst (nx := 11) dX10_isKey_10 rfl (i32 (by decide)) ?_
      refine wp_goto (nx := 15) dX10_isKey_11 rfl ?_
      exact wp_ireturn dX10_isKey_15 rfl rfl (nz_of (Or.inr rfl)) h
theorem b_X10_isBeat_0 {d mc ms : Nat} {l0 : Int} {S : MS} {C : MC} {Q : Int → MS → MC → Prop} (F : Fix S) (h : ((l0 < 0 → Q 0 S C) ∧ (¬ l0 < 0 → ((16 ≤ l0 → Q 0 S C) ∧ (¬ 16 ≤ l0 → Q 1 S C))))) : K_X10_isBeat_0 d mc ms l0 S C Q := by
  show Wp d mc ms M_X10_isBeat 0 [cI l0] [] S C Q
  refine wp_iload_n (nx := 1) dX10_isBeat_0 rfl rfl ?_
  refine wp_if_lt (nx := 4) (tg := 14) dX10_isBeat_1 rfl rfl (fun hc => ?_) (fun hc => ?_)
  · have h := h.1 hc
    refine wp_iconst (nx := 15) dX10_isBeat_14 rfl (i32 (by decide)) ?_
    exact wp_ireturn dX10_isBeat_15 rfl rfl (nz_of (Or.inl rfl)) h
  · have h := h.2 hc
    refine wp_iload_n (nx := 5) dX10_isBeat_4 rfl rfl ?_
    refine wp_bipush (nx := 7) dX10_isBeat_5 rfl ⟨by decide, i32 (by decide)⟩ ?_
    refine wp_icmp_ge (nx := 10) (tg := 14) dX10_isBeat_7 rfl rfl (fun hc => ?_) (fun hc => ?_)
    · have h := h.1 hc
      refine wp_iconst (nx := 15) dX10_isBeat_14 rfl (i32 (by decide)) ?_
      exact wp_ireturn dX10_isBeat_15 rfl rfl (nz_of (Or.inl rfl)) h
    · have h := h.2 hc
      refine wp_iconst (nx := 11) dX10_isBeat_10 rfl (i32 (by decide)) ?_
      refine wp_goto (nx := 15) dX10_isBeat_11 rfl ?_
      exact wp_ireturn dX10_isBeat_15 rfl rfl (nz_of (Or.inr rfl)) h
theorem b_X10_isLetter_0 {d mc ms : Nat} {l0 : Int} {S : MS} {C : MC} {Q : Int → MS → MC → Prop} (F : Fix S) (h : ((l0 < 97 → Q 0 S C) ∧ (¬ l0 < 97 → ((122 < l0 → Q 0 S C) ∧ (¬ 122 < l0 → Q 1 S C))))) : K_X10_isLetter_0 d mc ms l0 S C Q := by
  show Wp d mc ms M_X10_isLetter 0 [cI l0] [] S C Q
  refine wp_iload_n (nx := 1) dX10_isLetter_0 rfl rfl ?_
  refine wp_bipush (nx := 3) dX10_isLetter_1 rfl ⟨by decide, i32 (by decide)⟩ ?_
  refine wp_icmp_lt (nx := 6) (tg := 16) dX10_isLetter_3 rfl rfl (fun hc => ?_) (fun hc => ?_)
  · have h := h.1 hc
    refine wp_iconst (nx := 17) dX10_isLetter_16 rfl (i32 (by decide)) ?_
    exact wp_ireturn dX10_isLetter_17 rfl rfl (nz_of (Or.inl rfl)) h
  · have h := h.2 hc
    refine wp_iload_n (nx := 7) dX10_isLetter_6 rfl rfl ?_
    refine wp_bipush (nx := 9) dX10_isLetter_7 rfl ⟨by decide, i32 (by decide)⟩ ?_
    refine wp_icmp_gt (nx := 12) (tg := 16) dX10_isLetter_9 rfl rfl (fun hc => ?_) (fun hc => ?_)
    · have h := h.1 hc
      refine wp_iconst (nx := 17) dX10_isLetter_16 rfl (i32 (by decide)) ?_
      exact wp_ireturn dX10_isLetter_17 rfl rfl (nz_of (Or.inl rfl)) h
    · have h := h.2 hc
      refine wp_iconst (nx := 13) dX10_isLetter_12 rfl (i32 (by decide)) ?_
      refine wp_goto (nx := 17) dX10_isLetter_13 rfl ?_
      exact wp_ireturn dX10_isLetter_17 rfl rfl (nz_of (Or.inr rfl)) h
theorem b_X10_isDigit_0 {d mc ms : Nat} {l0 : Int} {S : MS} {C : MC} {Q : Int → MS → MC → Prop} (F : Fix S) (h : ((l0 < 48 → Q 0 S C) ∧ (¬ l0 < 48 → ((57 < l0 → Q 0 S C) ∧ (¬ 57 < l0 → Q 1 S C))))) : K_X10_isDigit_0 d mc ms l0 S C Q := by
  show Wp d mc ms M_X10_isDigit 0 [cI l0] [] S C Q
  refine wp_iload_n (nx := 1) dX10_isDigit_0 rfl rfl ?_
  refine wp_bipush (nx := 3) dX10_isDigit_1 rfl ⟨by decide, i32 (by decide)⟩ ?_
  refine wp_icmp_lt (nx := 6) (tg := 16) dX10_isDigit_3 rfl rfl (fun hc => ?_) (fun hc => ?_)
  · have h := h.1 hc
    refine wp_iconst (nx := 17) dX10_isDigit_16 rfl (i32 (by decide)) ?_
    exact wp_ireturn dX10_isDigit_17 rfl rfl (nz_of (Or.inl rfl)) h
  · have h := h.2 hc
    refine wp_iload_n (nx := 7) dX10_isDigit_6 rfl rfl ?_
    refine wp_bipush (nx := 9) dX10_isDigit_7 rfl ⟨by decide, i32 (by decide)⟩ ?_
    refine wp_icmp_gt (nx := 12) (tg := 16) dX10_isDigit_9 rfl rfl (fun hc => ?_) (fun hc => ?_)
    · have h := h.1 hc
      refine wp_iconst (nx := 17) dX10_isDigit_16 rfl (i32 (by decide)) ?_
      exact wp_ireturn dX10_isDigit_17 rfl rfl (nz_of (Or.inl rfl)) h
    · have h := h.2 hc
      refine wp_iconst (nx := 13) dX10_isDigit_12 rfl (i32 (by decide)) ?_
      refine wp_goto (nx := 17) dX10_isDigit_13 rfl ?_
      exact wp_ireturn dX10_isDigit_17 rfl rfl (nz_of (Or.inr rfl)) h
