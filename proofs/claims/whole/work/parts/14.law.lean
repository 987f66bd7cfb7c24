/-! 14.law: the law itself -/
theorem dX10_law_0 : decode cX10_law 0 = .ok (.aload_n 0, 1) := by decide +kernel
theorem dX10_law_1 : decode cX10_law 1 = .ok (.getfield 12, 3) := by decide +kernel
theorem dX10_law_4 : decode cX10_law 4 = .ok (.getfield 160, 3) := by decide +kernel
theorem dX10_law_7 : decode cX10_law 7 = .ok (.bipush 6, 2) := by decide +kernel
theorem dX10_law_9 : decode cX10_law 9 = .ok (.if_icmp .lt 18, 3) := by decide +kernel
theorem dX10_law_12 : decode cX10_law 12 = .ok (.aload_n 0, 1) := by decide +kernel
theorem dX10_law_13 : decode cX10_law 13 = .ok (.getfield 33, 3) := by decide +kernel
theorem dX10_law_16 : decode cX10_law 16 = .ok (.iconst 0, 1) := by decide +kernel
theorem dX10_law_17 : decode cX10_law 17 = .ok (.putfield 147, 3) := by decide +kernel
theorem dX10_law_20 : decode cX10_law 20 = .ok (.aload_n 0, 1) := by decide +kernel
theorem dX10_law_21 : decode cX10_law 21 = .ok (.bipush (-5), 2) := by decide +kernel
theorem dX10_law_23 : decode cX10_law 23 = .ok (.invokevirtual 91, 3) := by decide +kernel
theorem dX10_law_26 : decode cX10_law 26 = .ok (.ireturn, 1) := by decide +kernel
theorem dX10_law_27 : decode cX10_law 27 = .ok (.aload_n 0, 1) := by decide +kernel
theorem dX10_law_28 : decode cX10_law 28 = .ok (.getfield 42, 3) := by decide +kernel
theorem dX10_law_31 : decode cX10_law 31 = .ok (.iconst 0, 1) := by decide +kernel
theorem dX10_law_32 : decode cX10_law 32 = .ok (.invokevirtual 163, 3) := by decide +kernel
theorem dX10_law_35 : decode cX10_law 35 = .ok (.ifCond .ne 10, 3) := by decide +kernel
theorem dX10_law_38 : decode cX10_law 38 = .ok (.aload_n 0, 1) := by decide +kernel
theorem dX10_law_39 : decode cX10_law 39 = .ok (.bipush (-6), 2) := by decide +kernel
theorem dX10_law_41 : decode cX10_law 41 = .ok (.invokevirtual 91, 3) := by decide +kernel
theorem dX10_law_44 : decode cX10_law 44 = .ok (.ireturn, 1) := by decide +kernel
theorem dX10_law_45 : decode cX10_law 45 = .ok (.aload_n 0, 1) := by decide +kernel
theorem dX10_law_46 : decode cX10_law 46 = .ok (.getfield 12, 3) := by decide +kernel
theorem dX10_law_49 : decode cX10_law 49 = .ok (.getfield 167, 3) := by decide +kernel
theorem dX10_law_52 : decode cX10_law 52 = .ok (.aload_n 0, 1) := by decide +kernel
theorem dX10_law_53 : decode cX10_law 53 = .ok (.getfield 12, 3) := by decide +kernel
theorem dX10_law_56 : decode cX10_law 56 = .ok (.getfield 160, 3) := by decide +kernel
theorem dX10_law_59 : decode cX10_law 59 = .ok (.aload_n 0, 1) := by decide +kernel
theorem dX10_law_60 : decode cX10_law 60 = .ok (.getfield 42, 3) := by decide +kernel
theorem dX10_law_63 : decode cX10_law 63 = .ok (.getfield 171, 3) := by decide +kernel
theorem dX10_law_66 : decode cX10_law 66 = .ok (.invokevirtual 175, 3) := by decide +kernel
theorem dX10_law_69 : decode cX10_law 69 = .ok (.aastore, 1) := by decide +kernel
theorem dX10_law_70 : decode cX10_law 70 = .ok (.aload_n 0, 1) := by decide +kernel
theorem dX10_law_71 : decode cX10_law 71 = .ok (.getfield 12, 3) := by decide +kernel
theorem dX10_law_74 : decode cX10_law 74 = .ok (.dup, 1) := by decide +kernel
theorem dX10_law_75 : decode cX10_law 75 = .ok (.getfield 160, 3) := by decide +kernel
theorem dX10_law_78 : decode cX10_law 78 = .ok (.iconst 1, 1) := by decide +kernel
theorem dX10_law_79 : decode cX10_law 79 = .ok (.iadd, 1) := by decide +kernel
theorem dX10_law_80 : decode cX10_law 80 = .ok (.putfield 160, 3) := by decide +kernel
theorem dX10_law_83 : decode cX10_law 83 = .ok (.aload_n 0, 1) := by decide +kernel
theorem dX10_law_84 : decode cX10_law 84 = .ok (.aload_n 0, 1) := by decide +kernel
theorem dX10_law_85 : decode cX10_law 85 = .ok (.getfield 12, 3) := by decide +kernel
theorem dX10_law_88 : decode cX10_law 88 = .ok (.getfield 160, 3) := by decide +kernel
theorem dX10_law_91 : decode cX10_law 91 = .ok (.iconst 1, 1) := by decide +kernel
theorem dX10_law_92 : decode cX10_law 92 = .ok (.isub, 1) := by decide +kernel
theorem dX10_law_93 : decode cX10_law 93 = .ok (.invokevirtual 108, 3) := by decide +kernel
theorem dX10_law_96 : decode cX10_law 96 = .ok (.ireturn, 1) := by decide +kernel
theorem dX9_copy_0 : decode cX9_copy 0 = .ok (.new 16, 3) := by decide +kernel
theorem dX9_copy_3 : decode cX9_copy 3 = .ok (.dup, 1) := by decide +kernel
theorem dX9_copy_4 : decode cX9_copy 4 = .ok (.aload_n 0, 1) := by decide +kernel
theorem dX9_copy_5 : decode cX9_copy 5 = .ok (.getfield 36, 3) := by decide +kernel
theorem dX9_copy_8 : decode cX9_copy 8 = .ok (.aload_n 0, 1) := by decide +kernel
theorem dX9_copy_9 : decode cX9_copy 9 = .ok (.getfield 40, 3) := by decide +kernel
theorem dX9_copy_12 : decode cX9_copy 12 = .ok (.invokespecial 43, 3) := by decide +kernel
theorem dX9_copy_15 : decode cX9_copy 15 = .ok (.astore_n 1, 1) := by decide +kernel
theorem dX9_copy_16 : decode cX9_copy 16 = .ok (.aload_n 1, 1) := by decide +kernel
theorem dX9_copy_17 : decode cX9_copy 17 = .ok (.aload_n 0, 1) := by decide +kernel
theorem dX9_copy_18 : decode cX9_copy 18 = .ok (.getfield 36, 3) := by decide +kernel
theorem dX9_copy_21 : decode cX9_copy 21 = .ok (.putfield 36, 3) := by decide +kernel
theorem dX9_copy_24 : decode cX9_copy 24 = .ok (.aload_n 1, 1) := by decide +kernel
theorem dX9_copy_25 : decode cX9_copy 25 = .ok (.aload_n 0, 1) := by decide +kernel
theorem dX9_copy_26 : decode cX9_copy 26 = .ok (.getfield 40, 3) := by decide +kernel
theorem dX9_copy_29 : decode cX9_copy 29 = .ok (.putfield 40, 3) := by decide +kernel
theorem dX9_copy_32 : decode cX9_copy 32 = .ok (.aload_n 1, 1) := by decide +kernel
theorem dX9_copy_33 : decode cX9_copy 33 = .ok (.aload_n 0, 1) := by decide +kernel
theorem dX9_copy_34 : decode cX9_copy 34 = .ok (.getfield 46, 3) := by decide +kernel
theorem dX9_copy_37 : decode cX9_copy 37 = .ok (.putfield 46, 3) := by decide +kernel
theorem dX9_copy_40 : decode cX9_copy 40 = .ok (.aload_n 0, 1) := by decide +kernel
theorem dX9_copy_41 : decode cX9_copy 41 = .ok (.getfield 15, 3) := by decide +kernel
theorem dX9_copy_44 : decode cX9_copy 44 = .ok (.iconst 0, 1) := by decide +kernel
theorem dX9_copy_45 : decode cX9_copy 45 = .ok (.aload_n 1, 1) := by decide +kernel
theorem dX9_copy_46 : decode cX9_copy 46 = .ok (.getfield 15, 3) := by decide +kernel
theorem dX9_copy_49 : decode cX9_copy 49 = .ok (.iconst 0, 1) := by decide +kernel
theorem dX9_copy_50 : decode cX9_copy 50 = .ok (.aload_n 0, 1) := by decide +kernel
theorem dX9_copy_51 : decode cX9_copy 51 = .ok (.getfield 36, 3) := by decide +kernel
theorem dX9_copy_54 : decode cX9_copy 54 = .ok (.invokestatic 50, 3) := by decide +kernel
theorem dX9_copy_57 : decode cX9_copy 57 = .ok (.aload_n 0, 1) := by decide +kernel
theorem dX9_copy_58 : decode cX9_copy 58 = .ok (.getfield 21, 3) := by decide +kernel
theorem dX9_copy_61 : decode cX9_copy 61 = .ok (.iconst 0, 1) := by decide +kernel
theorem dX9_copy_62 : decode cX9_copy 62 = .ok (.aload_n 1, 1) := by decide +kernel
theorem dX9_copy_63 : decode cX9_copy 63 = .ok (.getfield 21, 3) := by decide +kernel
theorem dX9_copy_66 : decode cX9_copy 66 = .ok (.iconst 0, 1) := by decide +kernel
theorem dX9_copy_67 : decode cX9_copy 67 = .ok (.aload_n 0, 1) := by decide +kernel
theorem dX9_copy_68 : decode cX9_copy 68 = .ok (.getfield 36, 3) := by decide +kernel
theorem dX9_copy_71 : decode cX9_copy 71 = .ok (.invokestatic 50, 3) := by decide +kernel
theorem dX9_copy_74 : decode cX9_copy 74 = .ok (.aload_n 0, 1) := by decide +kernel
theorem dX9_copy_75 : decode cX9_copy 75 = .ok (.getfield 24, 3) := by decide +kernel
theorem dX9_copy_78 : decode cX9_copy 78 = .ok (.iconst 0, 1) := by decide +kernel
theorem dX9_copy_79 : decode cX9_copy 79 = .ok (.aload_n 1, 1) := by decide +kernel
theorem dX9_copy_80 : decode cX9_copy 80 = .ok (.getfield 24, 3) := by decide +kernel
theorem dX9_copy_83 : decode cX9_copy 83 = .ok (.iconst 0, 1) := by decide +kernel
theorem dX9_copy_84 : decode cX9_copy 84 = .ok (.aload_n 0, 1) := by decide +kernel
theorem dX9_copy_85 : decode cX9_copy 85 = .ok (.getfield 36, 3) := by decide +kernel
theorem dX9_copy_88 : decode cX9_copy 88 = .ok (.invokestatic 50, 3) := by decide +kernel
theorem dX9_copy_91 : decode cX9_copy 91 = .ok (.aload_n 0, 1) := by decide +kernel
theorem dX9_copy_92 : decode cX9_copy 92 = .ok (.getfield 27, 3) := by decide +kernel
theorem dX9_copy_95 : decode cX9_copy 95 = .ok (.iconst 0, 1) := by decide +kernel
theorem dX9_copy_96 : decode cX9_copy 96 = .ok (.aload_n 1, 1) := by decide +kernel
theorem dX9_copy_97 : decode cX9_copy 97 = .ok (.getfield 27, 3) := by decide +kernel
theorem dX9_copy_100 : decode cX9_copy 100 = .ok (.iconst 0, 1) := by decide +kernel
theorem dX9_copy_101 : decode cX9_copy 101 = .ok (.aload_n 0, 1) := by decide +kernel
theorem dX9_copy_102 : decode cX9_copy 102 = .ok (.getfield 36, 3) := by decide +kernel
theorem dX9_copy_105 : decode cX9_copy 105 = .ok (.invokestatic 50, 3) := by decide +kernel
theorem dX9_copy_108 : decode cX9_copy 108 = .ok (.aload_n 0, 1) := by decide +kernel
theorem dX9_copy_109 : decode cX9_copy 109 = .ok (.getfield 30, 3) := by decide +kernel
theorem dX9_copy_112 : decode cX9_copy 112 = .ok (.iconst 0, 1) := by decide +kernel
theorem dX9_copy_113 : decode cX9_copy 113 = .ok (.aload_n 1, 1) := by decide +kernel
theorem dX9_copy_114 : decode cX9_copy 114 = .ok (.getfield 30, 3) := by decide +kernel
theorem dX9_copy_117 : decode cX9_copy 117 = .ok (.iconst 0, 1) := by decide +kernel
theorem dX9_copy_118 : decode cX9_copy 118 = .ok (.aload_n 0, 1) := by decide +kernel
theorem dX9_copy_119 : decode cX9_copy 119 = .ok (.getfield 36, 3) := by decide +kernel
theorem dX9_copy_122 : decode cX9_copy 122 = .ok (.invokestatic 50, 3) := by decide +kernel
theorem dX9_copy_125 : decode cX9_copy 125 = .ok (.aload_n 0, 1) := by decide +kernel
theorem dX9_copy_126 : decode cX9_copy 126 = .ok (.getfield 33, 3) := by decide +kernel
theorem dX9_copy_129 : decode cX9_copy 129 = .ok (.iconst 0, 1) := by decide +kernel
theorem dX9_copy_130 : decode cX9_copy 130 = .ok (.aload_n 1, 1) := by decide +kernel
theorem dX9_copy_131 : decode cX9_copy 131 = .ok (.getfield 33, 3) := by decide +kernel
theorem dX9_copy_134 : decode cX9_copy 134 = .ok (.iconst 0, 1) := by decide +kernel
theorem dX9_copy_135 : decode cX9_copy 135 = .ok (.aload_n 0, 1) := by decide +kernel
theorem dX9_copy_136 : decode cX9_copy 136 = .ok (.getfield 40, 3) := by decide +kernel
theorem dX9_copy_139 : decode cX9_copy 139 = .ok (.invokestatic 50, 3) := by decide +kernel
theorem dX9_copy_142 : decode cX9_copy 142 = .ok (.aload_n 1, 1) := by decide +kernel
theorem dX9_copy_143 : decode cX9_copy 143 = .ok (.areturn, 1) := by decide +kernel
def K_X9_copy_0 (d mc ms : Nat) (S : MS) (C : MC) (Q : Int → MS → MC → Prop) : Prop := Wp d mc ms M_X9_copy 0 [cA 30, cU] [] S C Q
def K_X10_law_0 (d mc ms : Nat) (S : MS) (C : MC) (Q : Int → MS → MC → Prop) : Prop := Wp d mc ms M_X10_law 0 [cA 0] [] S C Q
theorem b_X10_law_0 {d mc ms : Nat} {S : MS} {C : MC} {Q : Int → MS → MC → Prop} (F : Fix S) (h : ((C 1 8 < 6 → K_X4_read_0 d 0 0 0 S C (fun r1 Sq C2 => Sq = S ∧ ((¬ r1 = 0 → K_X9_copy_0 d 7 469 S C2 (fun r3 S5 C4 => Fix S5 ∧ (((0 : Int) ≤ C2 1 8 ∧ C2 1 8 < 6) ∧ (r3 = -1 ∨ ((0 ≤ r3 ∧ r3 < S5.1) ∧ S5.2.1 r3 = 9))) ∧ K_X10_accept_0 d 0 0 (w32 ((w32 ((C4 1 8) + 1)) - 1)) (upP S5 7 (C2 1 8) r3) ((upC C4 1 8 (w32 ((C4 1 8) + 1)))) (fun r8 Sq C9 => Sq = (upP S5 7 (C2 1 8) r3) ∧ Q r8 (upP S5 7 (C2 1 8) r3) C9))) ∧ (r1 = 0 → K_X10_refuse_0 d 0 0 (-6) S C2 (fun r10 Sq C11 => Sq = S ∧ Q r10 S C11))))) ∧ (¬ C 1 8 < 6 → K_X10_refuse_0 d 0 0 (-5) S ((upC C 27 1 0)) (fun r12 Sq C13 => Sq = S ∧ Q r12 S C13)))) : K_X10_law_0 (d + 1) (mc + 7) (ms + 469) S C Q := by
  show Wp (d + 1) (mc + 7) (ms + 469) M_X10_law 0 [cA 0] [] S C Q
  refine wp_aload_n (nx := 1) dX10_law_0 rfl rfl ?_
  refine wp_getAe (kk := 0) (nx := 4) clsX10 dX10_law_1 rfl kF_X10_12 (by decide) (fo_0 F) (ft_0 F) rfl (fp_0_0 F) ?_
  refine wp_getIe (kk := 8) 8 (nx := 7) clsX7 dX10_law_4 rfl kF_X10_160 (by decide) (fo_1 F) (ft_1 F) rfl rfl rfl ?_
  refine wp_bipush (nx := 9) dX10_law_7 rfl ⟨by decide, i32 (by decide)⟩ ?_
  refine wp_icmp_lt (nx := 12) (tg := 27) dX10_law_9 rfl rfl (fun hc => ?_) (fun hc => ?_)
  · have h := h.1 hc
    refine wp_aload_n (nx := 28) dX10_law_27 rfl rfl ?_
    refine wp_getAe (kk := 6) (nx := 31) clsX10 dX10_law_28 rfl kF_X10_42 (by decide) (fo_0 F) (ft_0 F) rfl (fp_0_6 F) ?_
    refine wp_iconst (nx := 32) dX10_law_31 rfl (i32 (by decide)) ?_
    refine wp_invV (nx := 35) (N := M_X4_read) (as := [cI 0]) (st := []) (mc := 0) (ms := 0) (mc' := (mc + 7)) (ms' := (ms + 469)) (a := 29) clsX4 dX10_law_32 rfl mok_X4_read kM_X10_163 ki_X4_read ke_X4_read (fo_29 F) (ft_29 F) rfl rfl (leB rfl) (leB rfl) (z0 _) (z0 _) (Wp.mono h ?_)
    intro r1 Sq C2 h
    obtain ⟨e9, h⟩ := h
    rw [e9]
    show Wp (d + 1) (mc + 7) (ms + 469) M_X10_law 35 [cA 0] [cI r1] S C2 Q
    refine wp_if_ne (nx := 38) (tg := 45) dX10_law_35 rfl rfl (fun hc => ?_) (fun hc => ?_)
    · have h := h.1 hc
      refine wp_aload_n (nx := 46) dX10_law_45 rfl rfl ?_
      refine wp_getAe (kk := 0) (nx := 49) clsX10 dX10_law_46 rfl kF_X10_12 (by decide) (fo_0 F) (ft_0 F) rfl (fp_0_0 F) ?_
      refine wp_getAe (kk := 7) (nx := 52) clsX7 dX10_law_49 rfl kF_X10_167 (by decide) (fo_1 F) (ft_1 F) rfl (fp_1_7 F) ?_
      refine wp_aload_n (nx := 53) dX10_law_52 rfl rfl ?_
      refine wp_getAe (kk := 0) (nx := 56) clsX10 dX10_law_53 rfl kF_X10_12 (by decide) (fo_0 F) (ft_0 F) rfl (fp_0_0 F) ?_
      refine wp_getIe (kk := 8) 8 (nx := 59) clsX7 dX10_law_56 rfl kF_X10_160 (by decide) (fo_1 F) (ft_1 F) rfl rfl rfl ?_
      refine wp_aload_n (nx := 60) dX10_law_59 rfl rfl ?_
      refine wp_getAe (kk := 6) (nx := 63) clsX10 dX10_law_60 rfl kF_X10_42 (by decide) (fo_0 F) (ft_0 F) rfl (fp_0_6 F) ?_
      refine wp_getAe (kk := 0) (nx := 66) clsX4 dX10_law_63 rfl kF_X10_171 (by decide) (fo_29 F) (ft_29 F) rfl (fp_29_0 F) ?_
      refine wp_invV (nx := 69) (N := M_X9_copy) (as := []) (st := [cI (C2 1 8), cA 7]) (mc := 7) (ms := 469) (mc' := mc) (ms' := ms) (a := 30) clsX9 dX10_law_66 rfl mok_X9_copy kM_X10_175 ki_X9_copy ke_X9_copy (fo_30 F) (ft_30 F) rfl rfl (leB rfl) (leB rfl) (by omega) (by omega) (Wp.mono h ?_)
      intro r3 S5 C4 h
      obtain ⟨F6, h⟩ := h
      show Wp (d + 1) mc ms M_X10_law 69 [cA 0] [cA r3, cI (C2 1 8), cA 7] S5 C4 Q
      obtain ⟨⟨hi, hv⟩, h⟩ := h
      refine wp_aastoreG (nx := 70) clsX9 dX10_law_69 rfl (fo_7 F6) (fl_7 F6) hi (ft_7 F6) rfl rfl hv ?_
      have F7 : Fix (upP S5 7 (C2 1 8) r3) := fix_up F6 (by intros; rfl)
      refine wp_aload_n (nx := 71) dX10_law_70 rfl rfl ?_
      refine wp_getAe (kk := 0) (nx := 74) clsX10 dX10_law_71 rfl kF_X10_12 (by decide) (fo_0 F7) (ft_0 F7) rfl (fp_0_0 F7) ?_
      refine wp_dup (nx := 75) dX10_law_74 rfl (k1A _) ?_
      refine wp_getIe (kk := 8) 8 (nx := 78) clsX7 dX10_law_75 rfl kF_X10_160 (by decide) (fo_1 F7) (ft_1 F7) rfl rfl rfl ?_
      refine wp_iconst (nx := 79) dX10_law_78 rfl (i32 (by decide)) ?_
      refine wp_iadd (nx := 80) dX10_law_79 rfl ?_
      refine wp_putIe (kk := 8) 8 (nx := 83) clsX7 dX10_law_80 rfl kF_X10_160 (by decide) (fo_1 F7) (ft_1 F7) rfl rfl ⟨rfl, rfl⟩ rfl ?_
      refine wp_aload_n (nx := 84) dX10_law_83 rfl rfl ?_
      refine wp_aload_n (nx := 85) dX10_law_84 rfl rfl ?_
      refine wp_getAe (kk := 0) (nx := 88) clsX10 dX10_law_85 rfl kF_X10_12 (by decide) (fo_0 F7) (ft_0 F7) rfl (fp_0_0 F7) ?_
      refine wp_getIe (kk := 8) 8 (nx := 91) clsX7 dX10_law_88 rfl kF_X10_160 (by decide) (fo_1 F7) (ft_1 F7) rfl rfl upC_h ?_
      refine wp_iconst (nx := 92) dX10_law_91 rfl (i32 (by decide)) ?_
      refine wp_isub (nx := 93) dX10_law_92 rfl ?_
      refine wp_invV (nx := 96) (N := M_X10_accept) (as := [cI (w32 ((w32 ((C4 1 8) + 1)) - 1))]) (st := []) (mc := 0) (ms := 0) (mc' := mc) (ms' := ms) (a := 0) clsX10 dX10_law_93 rfl mok_X10_accept kM_X10_108 ki_X10_accept ke_X10_accept (fo_0 F7) (ft_0 F7) rfl rfl (leB rfl) (leB rfl) (z0 _) (z0 _) (Wp.mono h ?_)
      intro r8 Sq C9 h
      obtain ⟨e9, h⟩ := h
      rw [e9]
      show Wp (d + 1) mc ms M_X10_law 96 [cA 0] [cI r8] (upP S5 7 (C2 1 8) r3) C9 Q
      exact wp_ireturn dX10_law_96 rfl rfl rfl h
    · have h := h.2 hc
      refine wp_aload_n (nx := 39) dX10_law_38 rfl rfl ?_
      refine wp_bipush (nx := 41) dX10_law_39 rfl ⟨by decide, i32 (by decide)⟩ ?_
      refine wp_invV (nx := 44) (N := M_X10_refuse) (as := [cI (-6)]) (st := []) (mc := 0) (ms := 0) (mc' := (mc + 7)) (ms' := (ms + 469)) (a := 0) clsX10 dX10_law_41 rfl mok_X10_refuse kM_X10_91 ki_X10_refuse ke_X10_refuse (fo_0 F) (ft_0 F) rfl rfl (leB rfl) (leB rfl) (z0 _) (z0 _) (Wp.mono h ?_)
      intro r10 Sq C11 h
      obtain ⟨e9, h⟩ := h
      rw [e9]
      show Wp (d + 1) (mc + 7) (ms + 469) M_X10_law 44 [cA 0] [cI r10] S C11 Q
      exact wp_ireturn dX10_law_44 rfl rfl rfl h
  · have h := h.2 hc
    refine wp_aload_n (nx := 13) dX10_law_12 rfl rfl ?_
    refine wp_getAe (kk := 5) (nx := 16) clsX10 dX10_law_13 rfl kF_X10_33 (by decide) (fo_0 F) (ft_0 F) rfl (fp_0_5 F) ?_
    refine wp_iconst (nx := 17) dX10_law_16 rfl (i32 (by decide)) ?_
    refine wp_putIe (kk := 1) 1 (nx := 20) clsX8 dX10_law_17 rfl kF_X10_147 (by decide) (fo_27 F) (ft_27 F) rfl rfl ⟨rfl, rfl⟩ rfl ?_
    refine wp_aload_n (nx := 21) dX10_law_20 rfl rfl ?_
    refine wp_bipush (nx := 23) dX10_law_21 rfl ⟨by decide, i32 (by decide)⟩ ?_
    refine wp_invV (nx := 26) (N := M_X10_refuse) (as := [cI (-5)]) (st := []) (mc := 0) (ms := 0) (mc' := (mc + 7)) (ms' := (ms + 469)) (a := 0) clsX10 dX10_law_23 rfl mok_X10_refuse kM_X10_91 ki_X10_refuse ke_X10_refuse (fo_0 F) (ft_0 F) rfl rfl (leB rfl) (leB rfl) (z0 _) (z0 _) (Wp.mono h ?_)
    intro r12 Sq C13 h
    obtain ⟨e9, h⟩ := h
    rw [e9]
    show Wp (d + 1) (mc + 7) (ms + 469) M_X10_law 26 [cA 0] [cI r12] S C13 Q
    exact wp_ireturn dX10_law_26 rfl rfl rfl h
theorem dL_law_0 : decode cL_law 0 = .ok (.new 7, 3) := by decide +kernel
theorem dL_law_3 : decode cL_law 3 = .ok (.dup, 1) := by decide +kernel
theorem dL_law_4 : decode cL_law 4 = .ok (.invokespecial 9, 3) := by decide +kernel
theorem dL_law_7 : decode cL_law 7 = .ok (.astore_n 1, 1) := by decide +kernel
theorem dL_law_8 : decode cL_law 8 = .ok (.new 10, 3) := by decide +kernel
theorem dL_law_11 : decode cL_law 11 = .ok (.dup, 1) := by decide +kernel
theorem dL_law_12 : decode cL_law 12 = .ok (.invokespecial 12, 3) := by decide +kernel
theorem dL_law_15 : decode cL_law 15 = .ok (.astore_n 2, 1) := by decide +kernel
theorem dL_law_16 : decode cL_law 16 = .ok (.iconst 0, 1) := by decide +kernel
theorem dL_law_17 : decode cL_law 17 = .ok (.istore_n 3, 1) := by decide +kernel
theorem dL_law_18 : decode cL_law 18 = .ok (.iload_n 3, 1) := by decide +kernel
theorem dL_law_19 : decode cL_law 19 = .ok (.aload_n 0, 1) := by decide +kernel
theorem dL_law_20 : decode cL_law 20 = .ok (.arraylength, 1) := by decide +kernel
theorem dL_law_21 : decode cL_law 21 = .ok (.bipush 6, 2) := by decide +kernel
theorem dL_law_23 : decode cL_law 23 = .ok (.isub, 1) := by decide +kernel
theorem dL_law_24 : decode cL_law 24 = .ok (.if_icmp .gt 1208, 3) := by decide +kernel
theorem dL_law_27 : decode cL_law 27 = .ok (.aload_n 0, 1) := by decide +kernel
theorem dL_law_28 : decode cL_law 28 = .ok (.iload_n 3, 1) := by decide +kernel
theorem dL_law_29 : decode cL_law 29 = .ok (.iaload, 1) := by decide +kernel
theorem dL_law_30 : decode cL_law 30 = .ok (.bipush 63, 2) := by decide +kernel
theorem dL_law_32 : decode cL_law 32 = .ok (.iand, 1) := by decide +kernel
theorem dL_law_33 : decode cL_law 33 = .ok (.tableswitch 1193 0 40 #[179, 212, 245, 268, 291, 344, 377, 440, 463, 476, 489, 502, 515, 528, 541, 564, 597, 630, 653, 666, 679, 692, 715, 748, 771, 804, 827, 860, 883, 906, 919, 942, 975, 988, 1022, 1045, 1078, 1111, 1134, 1157, 1180], 179) := by decide +kernel
theorem dL_law_212 : decode cL_law 212 = .ok (.aload_n 1, 1) := by decide +kernel
theorem dL_law_213 : decode cL_law 213 = .ok (.aload_n 0, 1) := by decide +kernel
theorem dL_law_214 : decode cL_law 214 = .ok (.iload_n 3, 1) := by decide +kernel
theorem dL_law_215 : decode cL_law 215 = .ok (.iconst 1, 1) := by decide +kernel
theorem dL_law_216 : decode cL_law 216 = .ok (.iadd, 1) := by decide +kernel
theorem dL_law_217 : decode cL_law 217 = .ok (.iaload, 1) := by decide +kernel
theorem dL_law_218 : decode cL_law 218 = .ok (.aload_n 0, 1) := by decide +kernel
theorem dL_law_219 : decode cL_law 219 = .ok (.iload_n 3, 1) := by decide +kernel
theorem dL_law_220 : decode cL_law 220 = .ok (.iconst 2, 1) := by decide +kernel
theorem dL_law_221 : decode cL_law 221 = .ok (.iadd, 1) := by decide +kernel
theorem dL_law_222 : decode cL_law 222 = .ok (.iaload, 1) := by decide +kernel
theorem dL_law_223 : decode cL_law 223 = .ok (.invokevirtual 13, 3) := by decide +kernel
theorem dL_law_226 : decode cL_law 226 = .ok (.aload_n 2, 1) := by decide +kernel
theorem dL_law_227 : decode cL_law 227 = .ok (.aload_n 0, 1) := by decide +kernel
theorem dL_law_228 : decode cL_law 228 = .ok (.iload_n 3, 1) := by decide +kernel
theorem dL_law_229 : decode cL_law 229 = .ok (.iconst 1, 1) := by decide +kernel
theorem dL_law_230 : decode cL_law 230 = .ok (.iadd, 1) := by decide +kernel
theorem dL_law_231 : decode cL_law 231 = .ok (.iaload, 1) := by decide +kernel
theorem dL_law_232 : decode cL_law 232 = .ok (.aload_n 0, 1) := by decide +kernel
theorem dL_law_233 : decode cL_law 233 = .ok (.iload_n 3, 1) := by decide +kernel
theorem dL_law_234 : decode cL_law 234 = .ok (.iconst 2, 1) := by decide +kernel
theorem dL_law_235 : decode cL_law 235 = .ok (.iadd, 1) := by decide +kernel
theorem dL_law_236 : decode cL_law 236 = .ok (.iaload, 1) := by decide +kernel
theorem dL_law_237 : decode cL_law 237 = .ok (.invokevirtual 17, 3) := by decide +kernel
theorem dL_law_240 : decode cL_law 240 = .ok (.if_icmp .eq 986, 3) := by decide +kernel
theorem dL_law_243 : decode cL_law 243 = .ok (.iconst 0, 1) := by decide +kernel
theorem dL_law_244 : decode cL_law 244 = .ok (.ireturn, 1) := by decide +kernel
theorem dL_law_245 : decode cL_law 245 = .ok (.aload_n 1, 1) := by decide +kernel
theorem dL_law_246 : decode cL_law 246 = .ok (.aload_n 0, 1) := by decide +kernel
theorem dL_law_247 : decode cL_law 247 = .ok (.iload_n 3, 1) := by decide +kernel
theorem dL_law_248 : decode cL_law 248 = .ok (.iconst 1, 1) := by decide +kernel
theorem dL_law_249 : decode cL_law 249 = .ok (.iadd, 1) := by decide +kernel
theorem dL_law_250 : decode cL_law 250 = .ok (.iaload, 1) := by decide +kernel
theorem dL_law_251 : decode cL_law 251 = .ok (.aload_n 0, 1) := by decide +kernel
theorem dL_law_252 : decode cL_law 252 = .ok (.iload_n 3, 1) := by decide +kernel
theorem dL_law_253 : decode cL_law 253 = .ok (.iconst 2, 1) := by decide +kernel
theorem dL_law_254 : decode cL_law 254 = .ok (.iadd, 1) := by decide +kernel
theorem dL_law_255 : decode cL_law 255 = .ok (.iaload, 1) := by decide +kernel
theorem dL_law_256 : decode cL_law 256 = .ok (.invokevirtual 18, 3) := by decide +kernel
theorem dL_law_259 : decode cL_law 259 = .ok (.aload_n 2, 1) := by decide +kernel
theorem dL_law_260 : decode cL_law 260 = .ok (.aload_n 0, 1) := by decide +kernel
theorem dL_law_261 : decode cL_law 261 = .ok (.iload_n 3, 1) := by decide +kernel
theorem dL_law_262 : decode cL_law 262 = .ok (.iconst 1, 1) := by decide +kernel
theorem dL_law_263 : decode cL_law 263 = .ok (.iadd, 1) := by decide +kernel
theorem dL_law_264 : decode cL_law 264 = .ok (.iaload, 1) := by decide +kernel
theorem dL_law_265 : decode cL_law 265 = .ok (.aload_n 0, 1) := by decide +kernel
theorem dL_law_266 : decode cL_law 266 = .ok (.iload_n 3, 1) := by decide +kernel
theorem dL_law_267 : decode cL_law 267 = .ok (.iconst 2, 1) := by decide +kernel
theorem dL_law_268 : decode cL_law 268 = .ok (.iadd, 1) := by decide +kernel
theorem dL_law_269 : decode cL_law 269 = .ok (.iaload, 1) := by decide +kernel
theorem dL_law_270 : decode cL_law 270 = .ok (.invokevirtual 21, 3) := by decide +kernel
theorem dL_law_273 : decode cL_law 273 = .ok (.if_icmp .eq 953, 3) := by decide +kernel
theorem dL_law_276 : decode cL_law 276 = .ok (.iconst 0, 1) := by decide +kernel
theorem dL_law_277 : decode cL_law 277 = .ok (.ireturn, 1) := by decide +kernel
theorem dL_law_278 : decode cL_law 278 = .ok (.aload_n 1, 1) := by decide +kernel
theorem dL_law_279 : decode cL_law 279 = .ok (.aload_n 0, 1) := by decide +kernel
theorem dL_law_280 : decode cL_law 280 = .ok (.iload_n 3, 1) := by decide +kernel
theorem dL_law_281 : decode cL_law 281 = .ok (.iconst 1, 1) := by decide +kernel
theorem dL_law_282 : decode cL_law 282 = .ok (.iadd, 1) := by decide +kernel
theorem dL_law_283 : decode cL_law 283 = .ok (.iaload, 1) := by decide +kernel
theorem dL_law_284 : decode cL_law 284 = .ok (.invokevirtual 22, 3) := by decide +kernel
theorem dL_law_287 : decode cL_law 287 = .ok (.aload_n 2, 1) := by decide +kernel
theorem dL_law_288 : decode cL_law 288 = .ok (.aload_n 0, 1) := by decide +kernel
theorem dL_law_289 : decode cL_law 289 = .ok (.iload_n 3, 1) := by decide +kernel
theorem dL_law_290 : decode cL_law 290 = .ok (.iconst 1, 1) := by decide +kernel
theorem dL_law_291 : decode cL_law 291 = .ok (.iadd, 1) := by decide +kernel
theorem dL_law_292 : decode cL_law 292 = .ok (.iaload, 1) := by decide +kernel
theorem dL_law_293 : decode cL_law 293 = .ok (.invokevirtual 26, 3) := by decide +kernel
theorem dL_law_296 : decode cL_law 296 = .ok (.if_icmp .eq 930, 3) := by decide +kernel
theorem dL_law_299 : decode cL_law 299 = .ok (.iconst 0, 1) := by decide +kernel
theorem dL_law_300 : decode cL_law 300 = .ok (.ireturn, 1) := by decide +kernel
theorem dL_law_301 : decode cL_law 301 = .ok (.aload_n 1, 1) := by decide +kernel
theorem dL_law_302 : decode cL_law 302 = .ok (.aload_n 0, 1) := by decide +kernel
theorem dL_law_303 : decode cL_law 303 = .ok (.iload_n 3, 1) := by decide +kernel
theorem dL_law_304 : decode cL_law 304 = .ok (.iconst 1, 1) := by decide +kernel
theorem dL_law_305 : decode cL_law 305 = .ok (.iadd, 1) := by decide +kernel
theorem dL_law_306 : decode cL_law 306 = .ok (.iaload, 1) := by decide +kernel
theorem dL_law_307 : decode cL_law 307 = .ok (.invokevirtual 27, 3) := by decide +kernel
theorem dL_law_310 : decode cL_law 310 = .ok (.aload_n 2, 1) := by decide +kernel
theorem dL_law_311 : decode cL_law 311 = .ok (.aload_n 0, 1) := by decide +kernel
theorem dL_law_312 : decode cL_law 312 = .ok (.iload_n 3, 1) := by decide +kernel
theorem dL_law_313 : decode cL_law 313 = .ok (.iconst 1, 1) := by decide +kernel
theorem dL_law_314 : decode cL_law 314 = .ok (.iadd, 1) := by decide +kernel
theorem dL_law_315 : decode cL_law 315 = .ok (.iaload, 1) := by decide +kernel
theorem dL_law_316 : decode cL_law 316 = .ok (.invokevirtual 30, 3) := by decide +kernel
theorem dL_law_319 : decode cL_law 319 = .ok (.if_icmp .eq 907, 3) := by decide +kernel
theorem dL_law_322 : decode cL_law 322 = .ok (.iconst 0, 1) := by decide +kernel
theorem dL_law_323 : decode cL_law 323 = .ok (.ireturn, 1) := by decide +kernel
theorem dL_law_324 : decode cL_law 324 = .ok (.aload_n 1, 1) := by decide +kernel
theorem dL_law_325 : decode cL_law 325 = .ok (.aload_n 0, 1) := by decide +kernel
theorem dL_law_326 : decode cL_law 326 = .ok (.iload_n 3, 1) := by decide +kernel
theorem dL_law_327 : decode cL_law 327 = .ok (.iconst 1, 1) := by decide +kernel
theorem dL_law_328 : decode cL_law 328 = .ok (.iadd, 1) := by decide +kernel
theorem dL_law_329 : decode cL_law 329 = .ok (.iaload, 1) := by decide +kernel
theorem dL_law_330 : decode cL_law 330 = .ok (.aload_n 0, 1) := by decide +kernel
theorem dL_law_331 : decode cL_law 331 = .ok (.iload_n 3, 1) := by decide +kernel
theorem dL_law_332 : decode cL_law 332 = .ok (.iconst 2, 1) := by decide +kernel
theorem dL_law_333 : decode cL_law 333 = .ok (.iadd, 1) := by decide +kernel
theorem dL_law_334 : decode cL_law 334 = .ok (.iaload, 1) := by decide +kernel
theorem dL_law_335 : decode cL_law 335 = .ok (.aload_n 0, 1) := by decide +kernel
theorem dL_law_336 : decode cL_law 336 = .ok (.iload_n 3, 1) := by decide +kernel
theorem dL_law_337 : decode cL_law 337 = .ok (.iconst 3, 1) := by decide +kernel
theorem dL_law_338 : decode cL_law 338 = .ok (.iadd, 1) := by decide +kernel
theorem dL_law_339 : decode cL_law 339 = .ok (.iaload, 1) := by decide +kernel
theorem dL_law_340 : decode cL_law 340 = .ok (.aload_n 0, 1) := by decide +kernel
theorem dL_law_341 : decode cL_law 341 = .ok (.iload_n 3, 1) := by decide +kernel
theorem dL_law_342 : decode cL_law 342 = .ok (.iconst 4, 1) := by decide +kernel
theorem dL_law_343 : decode cL_law 343 = .ok (.iadd, 1) := by decide +kernel
theorem dL_law_344 : decode cL_law 344 = .ok (.iaload, 1) := by decide +kernel
theorem dL_law_345 : decode cL_law 345 = .ok (.invokevirtual 31, 3) := by decide +kernel
theorem dL_law_348 : decode cL_law 348 = .ok (.aload_n 2, 1) := by decide +kernel
theorem dL_law_349 : decode cL_law 349 = .ok (.aload_n 0, 1) := by decide +kernel
theorem dL_law_350 : decode cL_law 350 = .ok (.iload_n 3, 1) := by decide +kernel
theorem dL_law_351 : decode cL_law 351 = .ok (.iconst 1, 1) := by decide +kernel
theorem dL_law_352 : decode cL_law 352 = .ok (.iadd, 1) := by decide +kernel
theorem dL_law_353 : decode cL_law 353 = .ok (.iaload, 1) := by decide +kernel
theorem dL_law_354 : decode cL_law 354 = .ok (.aload_n 0, 1) := by decide +kernel
theorem dL_law_355 : decode cL_law 355 = .ok (.iload_n 3, 1) := by decide +kernel
theorem dL_law_356 : decode cL_law 356 = .ok (.iconst 2, 1) := by decide +kernel
theorem dL_law_357 : decode cL_law 357 = .ok (.iadd, 1) := by decide +kernel
theorem dL_law_358 : decode cL_law 358 = .ok (.iaload, 1) := by decide +kernel
theorem dL_law_359 : decode cL_law 359 = .ok (.aload_n 0, 1) := by decide +kernel
theorem dL_law_360 : decode cL_law 360 = .ok (.iload_n 3, 1) := by decide +kernel
theorem dL_law_361 : decode cL_law 361 = .ok (.iconst 3, 1) := by decide +kernel
theorem dL_law_362 : decode cL_law 362 = .ok (.iadd, 1) := by decide +kernel
theorem dL_law_363 : decode cL_law 363 = .ok (.iaload, 1) := by decide +kernel
theorem dL_law_364 : decode cL_law 364 = .ok (.aload_n 0, 1) := by decide +kernel
theorem dL_law_365 : decode cL_law 365 = .ok (.iload_n 3, 1) := by decide +kernel
theorem dL_law_366 : decode cL_law 366 = .ok (.iconst 4, 1) := by decide +kernel
theorem dL_law_367 : decode cL_law 367 = .ok (.iadd, 1) := by decide +kernel
theorem dL_law_368 : decode cL_law 368 = .ok (.iaload, 1) := by decide +kernel
theorem dL_law_369 : decode cL_law 369 = .ok (.invokevirtual 35, 3) := by decide +kernel
theorem dL_law_372 : decode cL_law 372 = .ok (.if_icmp .eq 854, 3) := by decide +kernel
theorem dL_law_375 : decode cL_law 375 = .ok (.iconst 0, 1) := by decide +kernel
theorem dL_law_376 : decode cL_law 376 = .ok (.ireturn, 1) := by decide +kernel
theorem dL_law_377 : decode cL_law 377 = .ok (.aload_n 1, 1) := by decide +kernel
theorem dL_law_378 : decode cL_law 378 = .ok (.aload_n 0, 1) := by decide +kernel
theorem dL_law_379 : decode cL_law 379 = .ok (.iload_n 3, 1) := by decide +kernel
theorem dL_law_380 : decode cL_law 380 = .ok (.iconst 1, 1) := by decide +kernel
theorem dL_law_381 : decode cL_law 381 = .ok (.iadd, 1) := by decide +kernel
theorem dL_law_382 : decode cL_law 382 = .ok (.iaload, 1) := by decide +kernel
theorem dL_law_383 : decode cL_law 383 = .ok (.aload_n 0, 1) := by decide +kernel
theorem dL_law_384 : decode cL_law 384 = .ok (.iload_n 3, 1) := by decide +kernel
theorem dL_law_385 : decode cL_law 385 = .ok (.iconst 2, 1) := by decide +kernel
theorem dL_law_386 : decode cL_law 386 = .ok (.iadd, 1) := by decide +kernel
theorem dL_law_387 : decode cL_law 387 = .ok (.iaload, 1) := by decide +kernel
theorem dL_law_388 : decode cL_law 388 = .ok (.invokevirtual 36, 3) := by decide +kernel
theorem dL_law_391 : decode cL_law 391 = .ok (.aload_n 2, 1) := by decide +kernel
theorem dL_law_392 : decode cL_law 392 = .ok (.aload_n 0, 1) := by decide +kernel
theorem dL_law_393 : decode cL_law 393 = .ok (.iload_n 3, 1) := by decide +kernel
theorem dL_law_394 : decode cL_law 394 = .ok (.iconst 1, 1) := by decide +kernel
theorem dL_law_395 : decode cL_law 395 = .ok (.iadd, 1) := by decide +kernel
theorem dL_law_396 : decode cL_law 396 = .ok (.iaload, 1) := by decide +kernel
theorem dL_law_397 : decode cL_law 397 = .ok (.aload_n 0, 1) := by decide +kernel
theorem dL_law_398 : decode cL_law 398 = .ok (.iload_n 3, 1) := by decide +kernel
theorem dL_law_399 : decode cL_law 399 = .ok (.iconst 2, 1) := by decide +kernel
theorem dL_law_400 : decode cL_law 400 = .ok (.iadd, 1) := by decide +kernel
theorem dL_law_401 : decode cL_law 401 = .ok (.iaload, 1) := by decide +kernel
theorem dL_law_402 : decode cL_law 402 = .ok (.invokevirtual 39, 3) := by decide +kernel
theorem dL_law_405 : decode cL_law 405 = .ok (.if_icmp .eq 821, 3) := by decide +kernel
theorem dL_law_408 : decode cL_law 408 = .ok (.iconst 0, 1) := by decide +kernel
theorem dL_law_409 : decode cL_law 409 = .ok (.ireturn, 1) := by decide +kernel
theorem dL_law_410 : decode cL_law 410 = .ok (.aload_n 1, 1) := by decide +kernel
theorem dL_law_411 : decode cL_law 411 = .ok (.aload_n 0, 1) := by decide +kernel
theorem dL_law_412 : decode cL_law 412 = .ok (.iload_n 3, 1) := by decide +kernel
theorem dL_law_413 : decode cL_law 413 = .ok (.iconst 1, 1) := by decide +kernel
theorem dL_law_414 : decode cL_law 414 = .ok (.iadd, 1) := by decide +kernel
theorem dL_law_415 : decode cL_law 415 = .ok (.iaload, 1) := by decide +kernel
theorem dL_law_416 : decode cL_law 416 = .ok (.aload_n 0, 1) := by decide +kernel
theorem dL_law_417 : decode cL_law 417 = .ok (.iload_n 3, 1) := by decide +kernel
theorem dL_law_418 : decode cL_law 418 = .ok (.iconst 2, 1) := by decide +kernel
theorem dL_law_419 : decode cL_law 419 = .ok (.iadd, 1) := by decide +kernel
theorem dL_law_420 : decode cL_law 420 = .ok (.iaload, 1) := by decide +kernel
theorem dL_law_421 : decode cL_law 421 = .ok (.aload_n 0, 1) := by decide +kernel
theorem dL_law_422 : decode cL_law 422 = .ok (.iload_n 3, 1) := by decide +kernel
theorem dL_law_423 : decode cL_law 423 = .ok (.iconst 3, 1) := by decide +kernel
theorem dL_law_424 : decode cL_law 424 = .ok (.iadd, 1) := by decide +kernel
theorem dL_law_425 : decode cL_law 425 = .ok (.iaload, 1) := by decide +kernel
theorem dL_law_426 : decode cL_law 426 = .ok (.aload_n 0, 1) := by decide +kernel
theorem dL_law_427 : decode cL_law 427 = .ok (.iload_n 3, 1) := by decide +kernel
theorem dL_law_428 : decode cL_law 428 = .ok (.iconst 4, 1) := by decide +kernel
theorem dL_law_429 : decode cL_law 429 = .ok (.iadd, 1) := by decide +kernel
theorem dL_law_430 : decode cL_law 430 = .ok (.iaload, 1) := by decide +kernel
theorem dL_law_431 : decode cL_law 431 = .ok (.aload_n 0, 1) := by decide +kernel
theorem dL_law_432 : decode cL_law 432 = .ok (.iload_n 3, 1) := by decide +kernel
theorem dL_law_433 : decode cL_law 433 = .ok (.iconst 5, 1) := by decide +kernel
theorem dL_law_434 : decode cL_law 434 = .ok (.iadd, 1) := by decide +kernel
theorem dL_law_435 : decode cL_law 435 = .ok (.iaload, 1) := by decide +kernel
theorem dL_law_436 : decode cL_law 436 = .ok (.invokevirtual 40, 3) := by decide +kernel
theorem dL_law_439 : decode cL_law 439 = .ok (.aload_n 2, 1) := by decide +kernel
theorem dL_law_440 : decode cL_law 440 = .ok (.aload_n 0, 1) := by decide +kernel
theorem dL_law_441 : decode cL_law 441 = .ok (.iload_n 3, 1) := by decide +kernel
theorem dL_law_442 : decode cL_law 442 = .ok (.iconst 1, 1) := by decide +kernel
theorem dL_law_443 : decode cL_law 443 = .ok (.iadd, 1) := by decide +kernel
theorem dL_law_444 : decode cL_law 444 = .ok (.iaload, 1) := by decide +kernel
theorem dL_law_445 : decode cL_law 445 = .ok (.aload_n 0, 1) := by decide +kernel
theorem dL_law_446 : decode cL_law 446 = .ok (.iload_n 3, 1) := by decide +kernel
theorem dL_law_447 : decode cL_law 447 = .ok (.iconst 2, 1) := by decide +kernel
theorem dL_law_448 : decode cL_law 448 = .ok (.iadd, 1) := by decide +kernel
theorem dL_law_449 : decode cL_law 449 = .ok (.iaload, 1) := by decide +kernel
theorem dL_law_450 : decode cL_law 450 = .ok (.aload_n 0, 1) := by decide +kernel
theorem dL_law_451 : decode cL_law 451 = .ok (.iload_n 3, 1) := by decide +kernel
theorem dL_law_452 : decode cL_law 452 = .ok (.iconst 3, 1) := by decide +kernel
theorem dL_law_453 : decode cL_law 453 = .ok (.iadd, 1) := by decide +kernel
theorem dL_law_454 : decode cL_law 454 = .ok (.iaload, 1) := by decide +kernel
theorem dL_law_455 : decode cL_law 455 = .ok (.aload_n 0, 1) := by decide +kernel
theorem dL_law_456 : decode cL_law 456 = .ok (.iload_n 3, 1) := by decide +kernel
theorem dL_law_457 : decode cL_law 457 = .ok (.iconst 4, 1) := by decide +kernel
theorem dL_law_458 : decode cL_law 458 = .ok (.iadd, 1) := by decide +kernel
theorem dL_law_459 : decode cL_law 459 = .ok (.iaload, 1) := by decide +kernel
theorem dL_law_460 : decode cL_law 460 = .ok (.aload_n 0, 1) := by decide +kernel
theorem dL_law_461 : decode cL_law 461 = .ok (.iload_n 3, 1) := by decide +kernel
theorem dL_law_462 : decode cL_law 462 = .ok (.iconst 5, 1) := by decide +kernel
theorem dL_law_463 : decode cL_law 463 = .ok (.iadd, 1) := by decide +kernel
theorem dL_law_464 : decode cL_law 464 = .ok (.iaload, 1) := by decide +kernel
theorem dL_law_465 : decode cL_law 465 = .ok (.invokevirtual 44, 3) := by decide +kernel
theorem dL_law_468 : decode cL_law 468 = .ok (.if_icmp .eq 758, 3) := by decide +kernel
theorem dL_law_471 : decode cL_law 471 = .ok (.iconst 0, 1) := by decide +kernel
theorem dL_law_472 : decode cL_law 472 = .ok (.ireturn, 1) := by decide +kernel
theorem dL_law_473 : decode cL_law 473 = .ok (.aload_n 1, 1) := by decide +kernel
theorem dL_law_474 : decode cL_law 474 = .ok (.aload_n 0, 1) := by decide +kernel
theorem dL_law_475 : decode cL_law 475 = .ok (.iload_n 3, 1) := by decide +kernel
theorem dL_law_476 : decode cL_law 476 = .ok (.iconst 1, 1) := by decide +kernel
theorem dL_law_477 : decode cL_law 477 = .ok (.iadd, 1) := by decide +kernel
theorem dL_law_478 : decode cL_law 478 = .ok (.iaload, 1) := by decide +kernel
theorem dL_law_479 : decode cL_law 479 = .ok (.invokevirtual 45, 3) := by decide +kernel
theorem dL_law_482 : decode cL_law 482 = .ok (.aload_n 2, 1) := by decide +kernel
theorem dL_law_483 : decode cL_law 483 = .ok (.aload_n 0, 1) := by decide +kernel
theorem dL_law_484 : decode cL_law 484 = .ok (.iload_n 3, 1) := by decide +kernel
theorem dL_law_485 : decode cL_law 485 = .ok (.iconst 1, 1) := by decide +kernel
theorem dL_law_486 : decode cL_law 486 = .ok (.iadd, 1) := by decide +kernel
theorem dL_law_487 : decode cL_law 487 = .ok (.iaload, 1) := by decide +kernel
theorem dL_law_488 : decode cL_law 488 = .ok (.invokevirtual 48, 3) := by decide +kernel
theorem dL_law_491 : decode cL_law 491 = .ok (.if_icmp .eq 735, 3) := by decide +kernel
theorem dL_law_494 : decode cL_law 494 = .ok (.iconst 0, 1) := by decide +kernel
theorem dL_law_495 : decode cL_law 495 = .ok (.ireturn, 1) := by decide +kernel
theorem dL_law_496 : decode cL_law 496 = .ok (.aload_n 1, 1) := by decide +kernel
theorem dL_law_497 : decode cL_law 497 = .ok (.invokevirtual 49, 3) := by decide +kernel
theorem dL_law_500 : decode cL_law 500 = .ok (.aload_n 2, 1) := by decide +kernel
theorem dL_law_501 : decode cL_law 501 = .ok (.invokevirtual 53, 3) := by decide +kernel
theorem dL_law_504 : decode cL_law 504 = .ok (.if_icmp .eq 722, 3) := by decide +kernel
theorem dL_law_507 : decode cL_law 507 = .ok (.iconst 0, 1) := by decide +kernel
theorem dL_law_508 : decode cL_law 508 = .ok (.ireturn, 1) := by decide +kernel
theorem dL_law_509 : decode cL_law 509 = .ok (.aload_n 1, 1) := by decide +kernel
theorem dL_law_510 : decode cL_law 510 = .ok (.invokevirtual 54, 3) := by decide +kernel
theorem dL_law_513 : decode cL_law 513 = .ok (.aload_n 2, 1) := by decide +kernel
theorem dL_law_514 : decode cL_law 514 = .ok (.invokevirtual 57, 3) := by decide +kernel
theorem dL_law_517 : decode cL_law 517 = .ok (.if_icmp .eq 709, 3) := by decide +kernel
theorem dL_law_520 : decode cL_law 520 = .ok (.iconst 0, 1) := by decide +kernel
theorem dL_law_521 : decode cL_law 521 = .ok (.ireturn, 1) := by decide +kernel
theorem dL_law_522 : decode cL_law 522 = .ok (.aload_n 1, 1) := by decide +kernel
theorem dL_law_523 : decode cL_law 523 = .ok (.invokevirtual 58, 3) := by decide +kernel
theorem dL_law_526 : decode cL_law 526 = .ok (.aload_n 2, 1) := by decide +kernel
theorem dL_law_527 : decode cL_law 527 = .ok (.invokevirtual 61, 3) := by decide +kernel
theorem dL_law_530 : decode cL_law 530 = .ok (.if_icmp .eq 696, 3) := by decide +kernel
theorem dL_law_533 : decode cL_law 533 = .ok (.iconst 0, 1) := by decide +kernel
theorem dL_law_534 : decode cL_law 534 = .ok (.ireturn, 1) := by decide +kernel
theorem dL_law_535 : decode cL_law 535 = .ok (.aload_n 1, 1) := by decide +kernel
theorem dL_law_536 : decode cL_law 536 = .ok (.invokevirtual 62, 3) := by decide +kernel
theorem dL_law_539 : decode cL_law 539 = .ok (.aload_n 2, 1) := by decide +kernel
theorem dL_law_540 : decode cL_law 540 = .ok (.invokevirtual 65, 3) := by decide +kernel
theorem dL_law_543 : decode cL_law 543 = .ok (.if_icmp .eq 683, 3) := by decide +kernel
theorem dL_law_546 : decode cL_law 546 = .ok (.iconst 0, 1) := by decide +kernel
theorem dL_law_547 : decode cL_law 547 = .ok (.ireturn, 1) := by decide +kernel
theorem dL_law_548 : decode cL_law 548 = .ok (.aload_n 1, 1) := by decide +kernel
theorem dL_law_549 : decode cL_law 549 = .ok (.invokevirtual 66, 3) := by decide +kernel
theorem dL_law_552 : decode cL_law 552 = .ok (.aload_n 2, 1) := by decide +kernel
theorem dL_law_553 : decode cL_law 553 = .ok (.invokevirtual 69, 3) := by decide +kernel
theorem dL_law_556 : decode cL_law 556 = .ok (.if_icmp .eq 670, 3) := by decide +kernel
theorem dL_law_559 : decode cL_law 559 = .ok (.iconst 0, 1) := by decide +kernel
theorem dL_law_560 : decode cL_law 560 = .ok (.ireturn, 1) := by decide +kernel
theorem dL_law_561 : decode cL_law 561 = .ok (.aload_n 1, 1) := by decide +kernel
theorem dL_law_562 : decode cL_law 562 = .ok (.invokevirtual 70, 3) := by decide +kernel
theorem dL_law_565 : decode cL_law 565 = .ok (.aload_n 2, 1) := by decide +kernel
theorem dL_law_566 : decode cL_law 566 = .ok (.invokevirtual 73, 3) := by decide +kernel
theorem dL_law_569 : decode cL_law 569 = .ok (.if_icmp .eq 657, 3) := by decide +kernel
theorem dL_law_572 : decode cL_law 572 = .ok (.iconst 0, 1) := by decide +kernel
theorem dL_law_573 : decode cL_law 573 = .ok (.ireturn, 1) := by decide +kernel
theorem dL_law_574 : decode cL_law 574 = .ok (.aload_n 1, 1) := by decide +kernel
theorem dL_law_575 : decode cL_law 575 = .ok (.aload_n 0, 1) := by decide +kernel
theorem dL_law_576 : decode cL_law 576 = .ok (.iload_n 3, 1) := by decide +kernel
theorem dL_law_577 : decode cL_law 577 = .ok (.iconst 1, 1) := by decide +kernel
theorem dL_law_578 : decode cL_law 578 = .ok (.iadd, 1) := by decide +kernel
theorem dL_law_579 : decode cL_law 579 = .ok (.iaload, 1) := by decide +kernel
theorem dL_law_580 : decode cL_law 580 = .ok (.invokevirtual 74, 3) := by decide +kernel
theorem dL_law_583 : decode cL_law 583 = .ok (.aload_n 2, 1) := by decide +kernel
theorem dL_law_584 : decode cL_law 584 = .ok (.aload_n 0, 1) := by decide +kernel
theorem dL_law_585 : decode cL_law 585 = .ok (.iload_n 3, 1) := by decide +kernel
theorem dL_law_586 : decode cL_law 586 = .ok (.iconst 1, 1) := by decide +kernel
theorem dL_law_587 : decode cL_law 587 = .ok (.iadd, 1) := by decide +kernel
theorem dL_law_588 : decode cL_law 588 = .ok (.iaload, 1) := by decide +kernel
theorem dL_law_589 : decode cL_law 589 = .ok (.invokevirtual 77, 3) := by decide +kernel
theorem dL_law_592 : decode cL_law 592 = .ok (.if_icmp .eq 634, 3) := by decide +kernel
theorem dL_law_595 : decode cL_law 595 = .ok (.iconst 0, 1) := by decide +kernel
theorem dL_law_596 : decode cL_law 596 = .ok (.ireturn, 1) := by decide +kernel
theorem dL_law_597 : decode cL_law 597 = .ok (.aload_n 1, 1) := by decide +kernel
theorem dL_law_598 : decode cL_law 598 = .ok (.aload_n 0, 1) := by decide +kernel
theorem dL_law_599 : decode cL_law 599 = .ok (.iload_n 3, 1) := by decide +kernel
theorem dL_law_600 : decode cL_law 600 = .ok (.iconst 1, 1) := by decide +kernel
theorem dL_law_601 : decode cL_law 601 = .ok (.iadd, 1) := by decide +kernel
theorem dL_law_602 : decode cL_law 602 = .ok (.iaload, 1) := by decide +kernel
theorem dL_law_603 : decode cL_law 603 = .ok (.aload_n 0, 1) := by decide +kernel
theorem dL_law_604 : decode cL_law 604 = .ok (.iload_n 3, 1) := by decide +kernel
theorem dL_law_605 : decode cL_law 605 = .ok (.iconst 2, 1) := by decide +kernel
theorem dL_law_606 : decode cL_law 606 = .ok (.iadd, 1) := by decide +kernel
theorem dL_law_607 : decode cL_law 607 = .ok (.iaload, 1) := by decide +kernel
theorem dL_law_608 : decode cL_law 608 = .ok (.invokevirtual 78, 3) := by decide +kernel
theorem dL_law_611 : decode cL_law 611 = .ok (.aload_n 2, 1) := by decide +kernel
theorem dL_law_612 : decode cL_law 612 = .ok (.aload_n 0, 1) := by decide +kernel
theorem dL_law_613 : decode cL_law 613 = .ok (.iload_n 3, 1) := by decide +kernel
theorem dL_law_614 : decode cL_law 614 = .ok (.iconst 1, 1) := by decide +kernel
theorem dL_law_615 : decode cL_law 615 = .ok (.iadd, 1) := by decide +kernel
theorem dL_law_616 : decode cL_law 616 = .ok (.iaload, 1) := by decide +kernel
theorem dL_law_617 : decode cL_law 617 = .ok (.aload_n 0, 1) := by decide +kernel
theorem dL_law_618 : decode cL_law 618 = .ok (.iload_n 3, 1) := by decide +kernel
theorem dL_law_619 : decode cL_law 619 = .ok (.iconst 2, 1) := by decide +kernel
theorem dL_law_620 : decode cL_law 620 = .ok (.iadd, 1) := by decide +kernel
theorem dL_law_621 : decode cL_law 621 = .ok (.iaload, 1) := by decide +kernel
theorem dL_law_622 : decode cL_law 622 = .ok (.invokevirtual 81, 3) := by decide +kernel
theorem dL_law_625 : decode cL_law 625 = .ok (.if_icmp .eq 601, 3) := by decide +kernel
theorem dL_law_628 : decode cL_law 628 = .ok (.iconst 0, 1) := by decide +kernel
theorem dL_law_629 : decode cL_law 629 = .ok (.ireturn, 1) := by decide +kernel
theorem dL_law_630 : decode cL_law 630 = .ok (.aload_n 1, 1) := by decide +kernel
theorem dL_law_631 : decode cL_law 631 = .ok (.aload_n 0, 1) := by decide +kernel
theorem dL_law_632 : decode cL_law 632 = .ok (.iload_n 3, 1) := by decide +kernel
theorem dL_law_633 : decode cL_law 633 = .ok (.iconst 1, 1) := by decide +kernel
theorem dL_law_634 : decode cL_law 634 = .ok (.iadd, 1) := by decide +kernel
theorem dL_law_635 : decode cL_law 635 = .ok (.iaload, 1) := by decide +kernel
theorem dL_law_636 : decode cL_law 636 = .ok (.aload_n 0, 1) := by decide +kernel
theorem dL_law_637 : decode cL_law 637 = .ok (.iload_n 3, 1) := by decide +kernel
theorem dL_law_638 : decode cL_law 638 = .ok (.iconst 2, 1) := by decide +kernel
theorem dL_law_639 : decode cL_law 639 = .ok (.iadd, 1) := by decide +kernel
theorem dL_law_640 : decode cL_law 640 = .ok (.iaload, 1) := by decide +kernel
theorem dL_law_641 : decode cL_law 641 = .ok (.invokevirtual 82, 3) := by decide +kernel
theorem dL_law_644 : decode cL_law 644 = .ok (.aload_n 2, 1) := by decide +kernel
theorem dL_law_645 : decode cL_law 645 = .ok (.aload_n 0, 1) := by decide +kernel
theorem dL_law_646 : decode cL_law 646 = .ok (.iload_n 3, 1) := by decide +kernel
theorem dL_law_647 : decode cL_law 647 = .ok (.iconst 1, 1) := by decide +kernel
theorem dL_law_648 : decode cL_law 648 = .ok (.iadd, 1) := by decide +kernel
theorem dL_law_649 : decode cL_law 649 = .ok (.iaload, 1) := by decide +kernel
theorem dL_law_650 : decode cL_law 650 = .ok (.aload_n 0, 1) := by decide +kernel
theorem dL_law_651 : decode cL_law 651 = .ok (.iload_n 3, 1) := by decide +kernel
theorem dL_law_652 : decode cL_law 652 = .ok (.iconst 2, 1) := by decide +kernel
theorem dL_law_653 : decode cL_law 653 = .ok (.iadd, 1) := by decide +kernel
theorem dL_law_654 : decode cL_law 654 = .ok (.iaload, 1) := by decide +kernel
theorem dL_law_655 : decode cL_law 655 = .ok (.invokevirtual 85, 3) := by decide +kernel
theorem dL_law_658 : decode cL_law 658 = .ok (.if_icmp .eq 568, 3) := by decide +kernel
theorem dL_law_661 : decode cL_law 661 = .ok (.iconst 0, 1) := by decide +kernel
theorem dL_law_662 : decode cL_law 662 = .ok (.ireturn, 1) := by decide +kernel
theorem dL_law_663 : decode cL_law 663 = .ok (.aload_n 1, 1) := by decide +kernel
theorem dL_law_664 : decode cL_law 664 = .ok (.aload_n 0, 1) := by decide +kernel
theorem dL_law_665 : decode cL_law 665 = .ok (.iload_n 3, 1) := by decide +kernel
theorem dL_law_666 : decode cL_law 666 = .ok (.iconst 1, 1) := by decide +kernel
theorem dL_law_667 : decode cL_law 667 = .ok (.iadd, 1) := by decide +kernel
theorem dL_law_668 : decode cL_law 668 = .ok (.iaload, 1) := by decide +kernel
theorem dL_law_669 : decode cL_law 669 = .ok (.invokevirtual 86, 3) := by decide +kernel
theorem dL_law_672 : decode cL_law 672 = .ok (.aload_n 2, 1) := by decide +kernel
theorem dL_law_673 : decode cL_law 673 = .ok (.aload_n 0, 1) := by decide +kernel
theorem dL_law_674 : decode cL_law 674 = .ok (.iload_n 3, 1) := by decide +kernel
theorem dL_law_675 : decode cL_law 675 = .ok (.iconst 1, 1) := by decide +kernel
theorem dL_law_676 : decode cL_law 676 = .ok (.iadd, 1) := by decide +kernel
theorem dL_law_677 : decode cL_law 677 = .ok (.iaload, 1) := by decide +kernel
theorem dL_law_678 : decode cL_law 678 = .ok (.invokevirtual 89, 3) := by decide +kernel
theorem dL_law_681 : decode cL_law 681 = .ok (.if_icmp .eq 545, 3) := by decide +kernel
theorem dL_law_684 : decode cL_law 684 = .ok (.iconst 0, 1) := by decide +kernel
theorem dL_law_685 : decode cL_law 685 = .ok (.ireturn, 1) := by decide +kernel
theorem dL_law_686 : decode cL_law 686 = .ok (.aload_n 1, 1) := by decide +kernel
theorem dL_law_687 : decode cL_law 687 = .ok (.invokevirtual 90, 3) := by decide +kernel
theorem dL_law_690 : decode cL_law 690 = .ok (.aload_n 2, 1) := by decide +kernel
theorem dL_law_691 : decode cL_law 691 = .ok (.invokevirtual 93, 3) := by decide +kernel
theorem dL_law_694 : decode cL_law 694 = .ok (.if_icmp .eq 532, 3) := by decide +kernel
theorem dL_law_697 : decode cL_law 697 = .ok (.iconst 0, 1) := by decide +kernel
theorem dL_law_698 : decode cL_law 698 = .ok (.ireturn, 1) := by decide +kernel
theorem dL_law_699 : decode cL_law 699 = .ok (.aload_n 1, 1) := by decide +kernel
theorem dL_law_700 : decode cL_law 700 = .ok (.invokevirtual 94, 3) := by decide +kernel
theorem dL_law_703 : decode cL_law 703 = .ok (.aload_n 2, 1) := by decide +kernel
theorem dL_law_704 : decode cL_law 704 = .ok (.invokevirtual 97, 3) := by decide +kernel
theorem dL_law_707 : decode cL_law 707 = .ok (.if_icmp .eq 519, 3) := by decide +kernel
theorem dL_law_710 : decode cL_law 710 = .ok (.iconst 0, 1) := by decide +kernel
theorem dL_law_711 : decode cL_law 711 = .ok (.ireturn, 1) := by decide +kernel
theorem dL_law_712 : decode cL_law 712 = .ok (.aload_n 1, 1) := by decide +kernel
theorem dL_law_713 : decode cL_law 713 = .ok (.invokevirtual 98, 3) := by decide +kernel
theorem dL_law_716 : decode cL_law 716 = .ok (.aload_n 2, 1) := by decide +kernel
theorem dL_law_717 : decode cL_law 717 = .ok (.invokevirtual 101, 3) := by decide +kernel
theorem dL_law_720 : decode cL_law 720 = .ok (.if_icmp .eq 506, 3) := by decide +kernel
theorem dL_law_723 : decode cL_law 723 = .ok (.iconst 0, 1) := by decide +kernel
theorem dL_law_724 : decode cL_law 724 = .ok (.ireturn, 1) := by decide +kernel
theorem dL_law_725 : decode cL_law 725 = .ok (.aload_n 1, 1) := by decide +kernel
theorem dL_law_726 : decode cL_law 726 = .ok (.aload_n 0, 1) := by decide +kernel
theorem dL_law_727 : decode cL_law 727 = .ok (.iload_n 3, 1) := by decide +kernel
theorem dL_law_728 : decode cL_law 728 = .ok (.iconst 1, 1) := by decide +kernel
theorem dL_law_729 : decode cL_law 729 = .ok (.iadd, 1) := by decide +kernel
theorem dL_law_730 : decode cL_law 730 = .ok (.iaload, 1) := by decide +kernel
theorem dL_law_731 : decode cL_law 731 = .ok (.invokevirtual 102, 3) := by decide +kernel
theorem dL_law_734 : decode cL_law 734 = .ok (.aload_n 2, 1) := by decide +kernel
theorem dL_law_735 : decode cL_law 735 = .ok (.aload_n 0, 1) := by decide +kernel
theorem dL_law_736 : decode cL_law 736 = .ok (.iload_n 3, 1) := by decide +kernel
theorem dL_law_737 : decode cL_law 737 = .ok (.iconst 1, 1) := by decide +kernel
theorem dL_law_738 : decode cL_law 738 = .ok (.iadd, 1) := by decide +kernel
theorem dL_law_739 : decode cL_law 739 = .ok (.iaload, 1) := by decide +kernel
theorem dL_law_740 : decode cL_law 740 = .ok (.invokevirtual 105, 3) := by decide +kernel
theorem dL_law_743 : decode cL_law 743 = .ok (.if_icmp .eq 483, 3) := by decide +kernel
theorem dL_law_746 : decode cL_law 746 = .ok (.iconst 0, 1) := by decide +kernel
theorem dL_law_747 : decode cL_law 747 = .ok (.ireturn, 1) := by decide +kernel
theorem dL_law_748 : decode cL_law 748 = .ok (.aload_n 1, 1) := by decide +kernel
theorem dL_law_749 : decode cL_law 749 = .ok (.aload_n 0, 1) := by decide +kernel
theorem dL_law_750 : decode cL_law 750 = .ok (.iload_n 3, 1) := by decide +kernel
theorem dL_law_751 : decode cL_law 751 = .ok (.iconst 1, 1) := by decide +kernel
theorem dL_law_752 : decode cL_law 752 = .ok (.iadd, 1) := by decide +kernel
theorem dL_law_753 : decode cL_law 753 = .ok (.iaload, 1) := by decide +kernel
theorem dL_law_754 : decode cL_law 754 = .ok (.aload_n 0, 1) := by decide +kernel
theorem dL_law_755 : decode cL_law 755 = .ok (.iload_n 3, 1) := by decide +kernel
theorem dL_law_756 : decode cL_law 756 = .ok (.iconst 2, 1) := by decide +kernel
theorem dL_law_757 : decode cL_law 757 = .ok (.iadd, 1) := by decide +kernel
theorem dL_law_758 : decode cL_law 758 = .ok (.iaload, 1) := by decide +kernel
theorem dL_law_759 : decode cL_law 759 = .ok (.invokevirtual 106, 3) := by decide +kernel
theorem dL_law_762 : decode cL_law 762 = .ok (.aload_n 2, 1) := by decide +kernel
theorem dL_law_763 : decode cL_law 763 = .ok (.aload_n 0, 1) := by decide +kernel
theorem dL_law_764 : decode cL_law 764 = .ok (.iload_n 3, 1) := by decide +kernel
theorem dL_law_765 : decode cL_law 765 = .ok (.iconst 1, 1) := by decide +kernel
theorem dL_law_766 : decode cL_law 766 = .ok (.iadd, 1) := by decide +kernel
theorem dL_law_767 : decode cL_law 767 = .ok (.iaload, 1) := by decide +kernel
theorem dL_law_768 : decode cL_law 768 = .ok (.aload_n 0, 1) := by decide +kernel
theorem dL_law_769 : decode cL_law 769 = .ok (.iload_n 3, 1) := by decide +kernel
theorem dL_law_770 : decode cL_law 770 = .ok (.iconst 2, 1) := by decide +kernel
theorem dL_law_771 : decode cL_law 771 = .ok (.iadd, 1) := by decide +kernel
theorem dL_law_772 : decode cL_law 772 = .ok (.iaload, 1) := by decide +kernel
theorem dL_law_773 : decode cL_law 773 = .ok (.invokevirtual 109, 3) := by decide +kernel
theorem dL_law_776 : decode cL_law 776 = .ok (.if_icmp .eq 450, 3) := by decide +kernel
theorem dL_law_779 : decode cL_law 779 = .ok (.iconst 0, 1) := by decide +kernel
theorem dL_law_780 : decode cL_law 780 = .ok (.ireturn, 1) := by decide +kernel
theorem dL_law_781 : decode cL_law 781 = .ok (.aload_n 1, 1) := by decide +kernel
theorem dL_law_782 : decode cL_law 782 = .ok (.aload_n 0, 1) := by decide +kernel
theorem dL_law_783 : decode cL_law 783 = .ok (.iload_n 3, 1) := by decide +kernel
theorem dL_law_784 : decode cL_law 784 = .ok (.iconst 1, 1) := by decide +kernel
theorem dL_law_785 : decode cL_law 785 = .ok (.iadd, 1) := by decide +kernel
theorem dL_law_786 : decode cL_law 786 = .ok (.iaload, 1) := by decide +kernel
theorem dL_law_787 : decode cL_law 787 = .ok (.invokevirtual 110, 3) := by decide +kernel
theorem dL_law_790 : decode cL_law 790 = .ok (.aload_n 2, 1) := by decide +kernel
theorem dL_law_791 : decode cL_law 791 = .ok (.aload_n 0, 1) := by decide +kernel
theorem dL_law_792 : decode cL_law 792 = .ok (.iload_n 3, 1) := by decide +kernel
theorem dL_law_793 : decode cL_law 793 = .ok (.iconst 1, 1) := by decide +kernel
theorem dL_law_794 : decode cL_law 794 = .ok (.iadd, 1) := by decide +kernel
theorem dL_law_795 : decode cL_law 795 = .ok (.iaload, 1) := by decide +kernel
theorem dL_law_796 : decode cL_law 796 = .ok (.invokevirtual 113, 3) := by decide +kernel
theorem dL_law_799 : decode cL_law 799 = .ok (.if_icmp .eq 427, 3) := by decide +kernel
theorem dL_law_802 : decode cL_law 802 = .ok (.iconst 0, 1) := by decide +kernel
theorem dL_law_803 : decode cL_law 803 = .ok (.ireturn, 1) := by decide +kernel
theorem dL_law_804 : decode cL_law 804 = .ok (.aload_n 1, 1) := by decide +kernel
theorem dL_law_805 : decode cL_law 805 = .ok (.aload_n 0, 1) := by decide +kernel
theorem dL_law_806 : decode cL_law 806 = .ok (.iload_n 3, 1) := by decide +kernel
theorem dL_law_807 : decode cL_law 807 = .ok (.iconst 1, 1) := by decide +kernel
theorem dL_law_808 : decode cL_law 808 = .ok (.iadd, 1) := by decide +kernel
theorem dL_law_809 : decode cL_law 809 = .ok (.iaload, 1) := by decide +kernel
theorem dL_law_810 : decode cL_law 810 = .ok (.aload_n 0, 1) := by decide +kernel
theorem dL_law_811 : decode cL_law 811 = .ok (.iload_n 3, 1) := by decide +kernel
theorem dL_law_812 : decode cL_law 812 = .ok (.iconst 2, 1) := by decide +kernel
theorem dL_law_813 : decode cL_law 813 = .ok (.iadd, 1) := by decide +kernel
theorem dL_law_814 : decode cL_law 814 = .ok (.iaload, 1) := by decide +kernel
theorem dL_law_815 : decode cL_law 815 = .ok (.invokevirtual 114, 3) := by decide +kernel
theorem dL_law_818 : decode cL_law 818 = .ok (.aload_n 2, 1) := by decide +kernel
theorem dL_law_819 : decode cL_law 819 = .ok (.aload_n 0, 1) := by decide +kernel
theorem dL_law_820 : decode cL_law 820 = .ok (.iload_n 3, 1) := by decide +kernel
theorem dL_law_821 : decode cL_law 821 = .ok (.iconst 1, 1) := by decide +kernel
theorem dL_law_822 : decode cL_law 822 = .ok (.iadd, 1) := by decide +kernel
theorem dL_law_823 : decode cL_law 823 = .ok (.iaload, 1) := by decide +kernel
theorem dL_law_824 : decode cL_law 824 = .ok (.aload_n 0, 1) := by decide +kernel
theorem dL_law_825 : decode cL_law 825 = .ok (.iload_n 3, 1) := by decide +kernel
theorem dL_law_826 : decode cL_law 826 = .ok (.iconst 2, 1) := by decide +kernel
theorem dL_law_827 : decode cL_law 827 = .ok (.iadd, 1) := by decide +kernel
theorem dL_law_828 : decode cL_law 828 = .ok (.iaload, 1) := by decide +kernel
theorem dL_law_829 : decode cL_law 829 = .ok (.invokevirtual 117, 3) := by decide +kernel
theorem dL_law_832 : decode cL_law 832 = .ok (.if_icmp .eq 394, 3) := by decide +kernel
theorem dL_law_835 : decode cL_law 835 = .ok (.iconst 0, 1) := by decide +kernel
theorem dL_law_836 : decode cL_law 836 = .ok (.ireturn, 1) := by decide +kernel
theorem dL_law_837 : decode cL_law 837 = .ok (.aload_n 1, 1) := by decide +kernel
theorem dL_law_838 : decode cL_law 838 = .ok (.aload_n 0, 1) := by decide +kernel
theorem dL_law_839 : decode cL_law 839 = .ok (.iload_n 3, 1) := by decide +kernel
theorem dL_law_840 : decode cL_law 840 = .ok (.iconst 1, 1) := by decide +kernel
theorem dL_law_841 : decode cL_law 841 = .ok (.iadd, 1) := by decide +kernel
theorem dL_law_842 : decode cL_law 842 = .ok (.iaload, 1) := by decide +kernel
theorem dL_law_843 : decode cL_law 843 = .ok (.invokevirtual 118, 3) := by decide +kernel
theorem dL_law_846 : decode cL_law 846 = .ok (.aload_n 2, 1) := by decide +kernel
theorem dL_law_847 : decode cL_law 847 = .ok (.aload_n 0, 1) := by decide +kernel
theorem dL_law_848 : decode cL_law 848 = .ok (.iload_n 3, 1) := by decide +kernel
theorem dL_law_849 : decode cL_law 849 = .ok (.iconst 1, 1) := by decide +kernel
theorem dL_law_850 : decode cL_law 850 = .ok (.iadd, 1) := by decide +kernel
theorem dL_law_851 : decode cL_law 851 = .ok (.iaload, 1) := by decide +kernel
theorem dL_law_852 : decode cL_law 852 = .ok (.invokevirtual 121, 3) := by decide +kernel
theorem dL_law_855 : decode cL_law 855 = .ok (.if_icmp .eq 371, 3) := by decide +kernel
theorem dL_law_858 : decode cL_law 858 = .ok (.iconst 0, 1) := by decide +kernel
theorem dL_law_859 : decode cL_law 859 = .ok (.ireturn, 1) := by decide +kernel
theorem dL_law_860 : decode cL_law 860 = .ok (.aload_n 1, 1) := by decide +kernel
theorem dL_law_861 : decode cL_law 861 = .ok (.aload_n 0, 1) := by decide +kernel
theorem dL_law_862 : decode cL_law 862 = .ok (.iload_n 3, 1) := by decide +kernel
theorem dL_law_863 : decode cL_law 863 = .ok (.iconst 1, 1) := by decide +kernel
theorem dL_law_864 : decode cL_law 864 = .ok (.iadd, 1) := by decide +kernel
theorem dL_law_865 : decode cL_law 865 = .ok (.iaload, 1) := by decide +kernel
theorem dL_law_866 : decode cL_law 866 = .ok (.aload_n 0, 1) := by decide +kernel
theorem dL_law_867 : decode cL_law 867 = .ok (.iload_n 3, 1) := by decide +kernel
theorem dL_law_868 : decode cL_law 868 = .ok (.iconst 2, 1) := by decide +kernel
theorem dL_law_869 : decode cL_law 869 = .ok (.iadd, 1) := by decide +kernel
theorem dL_law_870 : decode cL_law 870 = .ok (.iaload, 1) := by decide +kernel
theorem dL_law_871 : decode cL_law 871 = .ok (.invokevirtual 122, 3) := by decide +kernel
theorem dL_law_874 : decode cL_law 874 = .ok (.aload_n 2, 1) := by decide +kernel
theorem dL_law_875 : decode cL_law 875 = .ok (.aload_n 0, 1) := by decide +kernel
theorem dL_law_876 : decode cL_law 876 = .ok (.iload_n 3, 1) := by decide +kernel
theorem dL_law_877 : decode cL_law 877 = .ok (.iconst 1, 1) := by decide +kernel
theorem dL_law_878 : decode cL_law 878 = .ok (.iadd, 1) := by decide +kernel
theorem dL_law_879 : decode cL_law 879 = .ok (.iaload, 1) := by decide +kernel
theorem dL_law_880 : decode cL_law 880 = .ok (.aload_n 0, 1) := by decide +kernel
theorem dL_law_881 : decode cL_law 881 = .ok (.iload_n 3, 1) := by decide +kernel
theorem dL_law_882 : decode cL_law 882 = .ok (.iconst 2, 1) := by decide +kernel
theorem dL_law_883 : decode cL_law 883 = .ok (.iadd, 1) := by decide +kernel
theorem dL_law_884 : decode cL_law 884 = .ok (.iaload, 1) := by decide +kernel
theorem dL_law_885 : decode cL_law 885 = .ok (.invokevirtual 125, 3) := by decide +kernel
theorem dL_law_888 : decode cL_law 888 = .ok (.if_icmp .eq 338, 3) := by decide +kernel
theorem dL_law_891 : decode cL_law 891 = .ok (.iconst 0, 1) := by decide +kernel
theorem dL_law_892 : decode cL_law 892 = .ok (.ireturn, 1) := by decide +kernel
theorem dL_law_893 : decode cL_law 893 = .ok (.aload_n 1, 1) := by decide +kernel
theorem dL_law_894 : decode cL_law 894 = .ok (.aload_n 0, 1) := by decide +kernel
theorem dL_law_895 : decode cL_law 895 = .ok (.iload_n 3, 1) := by decide +kernel
theorem dL_law_896 : decode cL_law 896 = .ok (.iconst 1, 1) := by decide +kernel
theorem dL_law_897 : decode cL_law 897 = .ok (.iadd, 1) := by decide +kernel
theorem dL_law_898 : decode cL_law 898 = .ok (.iaload, 1) := by decide +kernel
theorem dL_law_899 : decode cL_law 899 = .ok (.invokevirtual 126, 3) := by decide +kernel
theorem dL_law_902 : decode cL_law 902 = .ok (.aload_n 2, 1) := by decide +kernel
theorem dL_law_903 : decode cL_law 903 = .ok (.aload_n 0, 1) := by decide +kernel
theorem dL_law_904 : decode cL_law 904 = .ok (.iload_n 3, 1) := by decide +kernel
theorem dL_law_905 : decode cL_law 905 = .ok (.iconst 1, 1) := by decide +kernel
theorem dL_law_906 : decode cL_law 906 = .ok (.iadd, 1) := by decide +kernel
theorem dL_law_907 : decode cL_law 907 = .ok (.iaload, 1) := by decide +kernel
theorem dL_law_908 : decode cL_law 908 = .ok (.invokevirtual 129, 3) := by decide +kernel
theorem dL_law_911 : decode cL_law 911 = .ok (.if_icmp .eq 315, 3) := by decide +kernel
theorem dL_law_914 : decode cL_law 914 = .ok (.iconst 0, 1) := by decide +kernel
theorem dL_law_915 : decode cL_law 915 = .ok (.ireturn, 1) := by decide +kernel
theorem dL_law_916 : decode cL_law 916 = .ok (.aload_n 1, 1) := by decide +kernel
theorem dL_law_917 : decode cL_law 917 = .ok (.aload_n 0, 1) := by decide +kernel
theorem dL_law_918 : decode cL_law 918 = .ok (.iload_n 3, 1) := by decide +kernel
theorem dL_law_919 : decode cL_law 919 = .ok (.iconst 1, 1) := by decide +kernel
theorem dL_law_920 : decode cL_law 920 = .ok (.iadd, 1) := by decide +kernel
theorem dL_law_921 : decode cL_law 921 = .ok (.iaload, 1) := by decide +kernel
theorem dL_law_922 : decode cL_law 922 = .ok (.invokevirtual 130, 3) := by decide +kernel
theorem dL_law_925 : decode cL_law 925 = .ok (.aload_n 2, 1) := by decide +kernel
theorem dL_law_926 : decode cL_law 926 = .ok (.aload_n 0, 1) := by decide +kernel
theorem dL_law_927 : decode cL_law 927 = .ok (.iload_n 3, 1) := by decide +kernel
theorem dL_law_928 : decode cL_law 928 = .ok (.iconst 1, 1) := by decide +kernel
theorem dL_law_929 : decode cL_law 929 = .ok (.iadd, 1) := by decide +kernel
theorem dL_law_930 : decode cL_law 930 = .ok (.iaload, 1) := by decide +kernel
theorem dL_law_931 : decode cL_law 931 = .ok (.invokevirtual 133, 3) := by decide +kernel
theorem dL_law_934 : decode cL_law 934 = .ok (.if_icmp .eq 292, 3) := by decide +kernel
theorem dL_law_937 : decode cL_law 937 = .ok (.iconst 0, 1) := by decide +kernel
theorem dL_law_938 : decode cL_law 938 = .ok (.ireturn, 1) := by decide +kernel
theorem dL_law_939 : decode cL_law 939 = .ok (.aload_n 1, 1) := by decide +kernel
theorem dL_law_940 : decode cL_law 940 = .ok (.invokevirtual 134, 3) := by decide +kernel
theorem dL_law_943 : decode cL_law 943 = .ok (.aload_n 2, 1) := by decide +kernel
theorem dL_law_944 : decode cL_law 944 = .ok (.invokevirtual 137, 3) := by decide +kernel
theorem dL_law_947 : decode cL_law 947 = .ok (.if_icmp .eq 279, 3) := by decide +kernel
theorem dL_law_950 : decode cL_law 950 = .ok (.iconst 0, 1) := by decide +kernel
theorem dL_law_951 : decode cL_law 951 = .ok (.ireturn, 1) := by decide +kernel
theorem dL_law_952 : decode cL_law 952 = .ok (.aload_n 1, 1) := by decide +kernel
theorem dL_law_953 : decode cL_law 953 = .ok (.aload_n 0, 1) := by decide +kernel
theorem dL_law_954 : decode cL_law 954 = .ok (.iload_n 3, 1) := by decide +kernel
theorem dL_law_955 : decode cL_law 955 = .ok (.iconst 1, 1) := by decide +kernel
theorem dL_law_956 : decode cL_law 956 = .ok (.iadd, 1) := by decide +kernel
theorem dL_law_957 : decode cL_law 957 = .ok (.iaload, 1) := by decide +kernel
theorem dL_law_958 : decode cL_law 958 = .ok (.invokevirtual 138, 3) := by decide +kernel
theorem dL_law_961 : decode cL_law 961 = .ok (.aload_n 2, 1) := by decide +kernel
theorem dL_law_962 : decode cL_law 962 = .ok (.aload_n 0, 1) := by decide +kernel
theorem dL_law_963 : decode cL_law 963 = .ok (.iload_n 3, 1) := by decide +kernel
theorem dL_law_964 : decode cL_law 964 = .ok (.iconst 1, 1) := by decide +kernel
theorem dL_law_965 : decode cL_law 965 = .ok (.iadd, 1) := by decide +kernel
theorem dL_law_966 : decode cL_law 966 = .ok (.iaload, 1) := by decide +kernel
theorem dL_law_967 : decode cL_law 967 = .ok (.invokevirtual 141, 3) := by decide +kernel
theorem dL_law_970 : decode cL_law 970 = .ok (.if_icmp .eq 256, 3) := by decide +kernel
theorem dL_law_973 : decode cL_law 973 = .ok (.iconst 0, 1) := by decide +kernel
theorem dL_law_974 : decode cL_law 974 = .ok (.ireturn, 1) := by decide +kernel
theorem dL_law_975 : decode cL_law 975 = .ok (.aload_n 1, 1) := by decide +kernel
theorem dL_law_976 : decode cL_law 976 = .ok (.aload_n 0, 1) := by decide +kernel
theorem dL_law_977 : decode cL_law 977 = .ok (.iload_n 3, 1) := by decide +kernel
theorem dL_law_978 : decode cL_law 978 = .ok (.iconst 1, 1) := by decide +kernel
theorem dL_law_979 : decode cL_law 979 = .ok (.iadd, 1) := by decide +kernel
theorem dL_law_980 : decode cL_law 980 = .ok (.iaload, 1) := by decide +kernel
theorem dL_law_981 : decode cL_law 981 = .ok (.aload_n 0, 1) := by decide +kernel
theorem dL_law_982 : decode cL_law 982 = .ok (.iload_n 3, 1) := by decide +kernel
theorem dL_law_983 : decode cL_law 983 = .ok (.iconst 2, 1) := by decide +kernel
theorem dL_law_984 : decode cL_law 984 = .ok (.iadd, 1) := by decide +kernel
theorem dL_law_985 : decode cL_law 985 = .ok (.iaload, 1) := by decide +kernel
theorem dL_law_986 : decode cL_law 986 = .ok (.invokevirtual 142, 3) := by decide +kernel
theorem dL_law_989 : decode cL_law 989 = .ok (.aload_n 2, 1) := by decide +kernel
theorem dL_law_990 : decode cL_law 990 = .ok (.aload_n 0, 1) := by decide +kernel
theorem dL_law_991 : decode cL_law 991 = .ok (.iload_n 3, 1) := by decide +kernel
theorem dL_law_992 : decode cL_law 992 = .ok (.iconst 1, 1) := by decide +kernel
theorem dL_law_993 : decode cL_law 993 = .ok (.iadd, 1) := by decide +kernel
theorem dL_law_994 : decode cL_law 994 = .ok (.iaload, 1) := by decide +kernel
theorem dL_law_995 : decode cL_law 995 = .ok (.aload_n 0, 1) := by decide +kernel
theorem dL_law_996 : decode cL_law 996 = .ok (.iload_n 3, 1) := by decide +kernel
theorem dL_law_997 : decode cL_law 997 = .ok (.iconst 2, 1) := by decide +kernel
theorem dL_law_998 : decode cL_law 998 = .ok (.iadd, 1) := by decide +kernel
theorem dL_law_999 : decode cL_law 999 = .ok (.iaload, 1) := by decide +kernel
theorem dL_law_1000 : decode cL_law 1000 = .ok (.invokevirtual 145, 3) := by decide +kernel
theorem dL_law_1003 : decode cL_law 1003 = .ok (.if_icmp .eq 223, 3) := by decide +kernel
theorem dL_law_1006 : decode cL_law 1006 = .ok (.iconst 0, 1) := by decide +kernel
theorem dL_law_1007 : decode cL_law 1007 = .ok (.ireturn, 1) := by decide +kernel
theorem dL_law_1008 : decode cL_law 1008 = .ok (.aload_n 1, 1) := by decide +kernel
theorem dL_law_1009 : decode cL_law 1009 = .ok (.invokevirtual 146, 3) := by decide +kernel
theorem dL_law_1012 : decode cL_law 1012 = .ok (.aload_n 2, 1) := by decide +kernel
theorem dL_law_1013 : decode cL_law 1013 = .ok (.invokevirtual 149, 3) := by decide +kernel
theorem dL_law_1016 : decode cL_law 1016 = .ok (.if_icmp .eq 210, 3) := by decide +kernel
theorem dL_law_1019 : decode cL_law 1019 = .ok (.iconst 0, 1) := by decide +kernel
theorem dL_law_1020 : decode cL_law 1020 = .ok (.ireturn, 1) := by decide +kernel
theorem dL_law_1021 : decode cL_law 1021 = .ok (.aload_n 1, 1) := by decide +kernel
theorem dL_law_1022 : decode cL_law 1022 = .ok (.aload_n 0, 1) := by decide +kernel
theorem dL_law_1023 : decode cL_law 1023 = .ok (.iload_n 3, 1) := by decide +kernel
theorem dL_law_1024 : decode cL_law 1024 = .ok (.iconst 1, 1) := by decide +kernel
theorem dL_law_1025 : decode cL_law 1025 = .ok (.iadd, 1) := by decide +kernel
theorem dL_law_1026 : decode cL_law 1026 = .ok (.iaload, 1) := by decide +kernel
theorem dL_law_1027 : decode cL_law 1027 = .ok (.aload_n 0, 1) := by decide +kernel
theorem dL_law_1028 : decode cL_law 1028 = .ok (.iload_n 3, 1) := by decide +kernel
theorem dL_law_1029 : decode cL_law 1029 = .ok (.iconst 2, 1) := by decide +kernel
theorem dL_law_1030 : decode cL_law 1030 = .ok (.iadd, 1) := by decide +kernel
theorem dL_law_1031 : decode cL_law 1031 = .ok (.iaload, 1) := by decide +kernel
theorem dL_law_1032 : decode cL_law 1032 = .ok (.invokevirtual 150, 3) := by decide +kernel
theorem dL_law_1035 : decode cL_law 1035 = .ok (.aload_n 2, 1) := by decide +kernel
theorem dL_law_1036 : decode cL_law 1036 = .ok (.aload_n 0, 1) := by decide +kernel
theorem dL_law_1037 : decode cL_law 1037 = .ok (.iload_n 3, 1) := by decide +kernel
theorem dL_law_1038 : decode cL_law 1038 = .ok (.iconst 1, 1) := by decide +kernel
theorem dL_law_1039 : decode cL_law 1039 = .ok (.iadd, 1) := by decide +kernel
theorem dL_law_1040 : decode cL_law 1040 = .ok (.iaload, 1) := by decide +kernel
theorem dL_law_1041 : decode cL_law 1041 = .ok (.aload_n 0, 1) := by decide +kernel
theorem dL_law_1042 : decode cL_law 1042 = .ok (.iload_n 3, 1) := by decide +kernel
theorem dL_law_1043 : decode cL_law 1043 = .ok (.iconst 2, 1) := by decide +kernel
theorem dL_law_1044 : decode cL_law 1044 = .ok (.iadd, 1) := by decide +kernel
theorem dL_law_1045 : decode cL_law 1045 = .ok (.iaload, 1) := by decide +kernel
theorem dL_law_1046 : decode cL_law 1046 = .ok (.invokevirtual 154, 3) := by decide +kernel
theorem dL_law_1049 : decode cL_law 1049 = .ok (.lcmp, 1) := by decide +kernel
theorem dL_law_1050 : decode cL_law 1050 = .ok (.ifCond .eq 176, 3) := by decide +kernel
theorem dL_law_1053 : decode cL_law 1053 = .ok (.iconst 0, 1) := by decide +kernel
theorem dL_law_1054 : decode cL_law 1054 = .ok (.ireturn, 1) := by decide +kernel
theorem dL_law_1055 : decode cL_law 1055 = .ok (.aload_n 1, 1) := by decide +kernel
theorem dL_law_1056 : decode cL_law 1056 = .ok (.aload_n 0, 1) := by decide +kernel
theorem dL_law_1057 : decode cL_law 1057 = .ok (.iload_n 3, 1) := by decide +kernel
theorem dL_law_1058 : decode cL_law 1058 = .ok (.iconst 1, 1) := by decide +kernel
theorem dL_law_1059 : decode cL_law 1059 = .ok (.iadd, 1) := by decide +kernel
theorem dL_law_1060 : decode cL_law 1060 = .ok (.iaload, 1) := by decide +kernel
theorem dL_law_1061 : decode cL_law 1061 = .ok (.invokevirtual 155, 3) := by decide +kernel
theorem dL_law_1064 : decode cL_law 1064 = .ok (.aload_n 2, 1) := by decide +kernel
theorem dL_law_1065 : decode cL_law 1065 = .ok (.aload_n 0, 1) := by decide +kernel
theorem dL_law_1066 : decode cL_law 1066 = .ok (.iload_n 3, 1) := by decide +kernel
theorem dL_law_1067 : decode cL_law 1067 = .ok (.iconst 1, 1) := by decide +kernel
theorem dL_law_1068 : decode cL_law 1068 = .ok (.iadd, 1) := by decide +kernel
theorem dL_law_1069 : decode cL_law 1069 = .ok (.iaload, 1) := by decide +kernel
theorem dL_law_1070 : decode cL_law 1070 = .ok (.invokevirtual 158, 3) := by decide +kernel
theorem dL_law_1073 : decode cL_law 1073 = .ok (.if_icmp .eq 153, 3) := by decide +kernel
theorem dL_law_1076 : decode cL_law 1076 = .ok (.iconst 0, 1) := by decide +kernel
theorem dL_law_1077 : decode cL_law 1077 = .ok (.ireturn, 1) := by decide +kernel
theorem dL_law_1078 : decode cL_law 1078 = .ok (.aload_n 1, 1) := by decide +kernel
theorem dL_law_1079 : decode cL_law 1079 = .ok (.aload_n 0, 1) := by decide +kernel
theorem dL_law_1080 : decode cL_law 1080 = .ok (.iload_n 3, 1) := by decide +kernel
theorem dL_law_1081 : decode cL_law 1081 = .ok (.iconst 1, 1) := by decide +kernel
theorem dL_law_1082 : decode cL_law 1082 = .ok (.iadd, 1) := by decide +kernel
theorem dL_law_1083 : decode cL_law 1083 = .ok (.iaload, 1) := by decide +kernel
theorem dL_law_1084 : decode cL_law 1084 = .ok (.aload_n 0, 1) := by decide +kernel
theorem dL_law_1085 : decode cL_law 1085 = .ok (.iload_n 3, 1) := by decide +kernel
theorem dL_law_1086 : decode cL_law 1086 = .ok (.iconst 2, 1) := by decide +kernel
theorem dL_law_1087 : decode cL_law 1087 = .ok (.iadd, 1) := by decide +kernel
theorem dL_law_1088 : decode cL_law 1088 = .ok (.iaload, 1) := by decide +kernel
theorem dL_law_1089 : decode cL_law 1089 = .ok (.invokevirtual 159, 3) := by decide +kernel
theorem dL_law_1092 : decode cL_law 1092 = .ok (.aload_n 2, 1) := by decide +kernel
theorem dL_law_1093 : decode cL_law 1093 = .ok (.aload_n 0, 1) := by decide +kernel
theorem dL_law_1094 : decode cL_law 1094 = .ok (.iload_n 3, 1) := by decide +kernel
theorem dL_law_1095 : decode cL_law 1095 = .ok (.iconst 1, 1) := by decide +kernel
theorem dL_law_1096 : decode cL_law 1096 = .ok (.iadd, 1) := by decide +kernel
theorem dL_law_1097 : decode cL_law 1097 = .ok (.iaload, 1) := by decide +kernel
theorem dL_law_1098 : decode cL_law 1098 = .ok (.aload_n 0, 1) := by decide +kernel
theorem dL_law_1099 : decode cL_law 1099 = .ok (.iload_n 3, 1) := by decide +kernel
theorem dL_law_1100 : decode cL_law 1100 = .ok (.iconst 2, 1) := by decide +kernel
theorem dL_law_1101 : decode cL_law 1101 = .ok (.iadd, 1) := by decide +kernel
theorem dL_law_1102 : decode cL_law 1102 = .ok (.iaload, 1) := by decide +kernel
theorem dL_law_1103 : decode cL_law 1103 = .ok (.invokevirtual 162, 3) := by decide +kernel
theorem dL_law_1106 : decode cL_law 1106 = .ok (.if_icmp .eq 120, 3) := by decide +kernel
theorem dL_law_1109 : decode cL_law 1109 = .ok (.iconst 0, 1) := by decide +kernel
theorem dL_law_1110 : decode cL_law 1110 = .ok (.ireturn, 1) := by decide +kernel
theorem dL_law_1111 : decode cL_law 1111 = .ok (.aload_n 1, 1) := by decide +kernel
theorem dL_law_1112 : decode cL_law 1112 = .ok (.aload_n 0, 1) := by decide +kernel
theorem dL_law_1113 : decode cL_law 1113 = .ok (.iload_n 3, 1) := by decide +kernel
theorem dL_law_1114 : decode cL_law 1114 = .ok (.iconst 1, 1) := by decide +kernel
theorem dL_law_1115 : decode cL_law 1115 = .ok (.iadd, 1) := by decide +kernel
theorem dL_law_1116 : decode cL_law 1116 = .ok (.iaload, 1) := by decide +kernel
theorem dL_law_1117 : decode cL_law 1117 = .ok (.aload_n 0, 1) := by decide +kernel
theorem dL_law_1118 : decode cL_law 1118 = .ok (.iload_n 3, 1) := by decide +kernel
theorem dL_law_1119 : decode cL_law 1119 = .ok (.iconst 2, 1) := by decide +kernel
theorem dL_law_1120 : decode cL_law 1120 = .ok (.iadd, 1) := by decide +kernel
theorem dL_law_1121 : decode cL_law 1121 = .ok (.iaload, 1) := by decide +kernel
theorem dL_law_1122 : decode cL_law 1122 = .ok (.invokevirtual 163, 3) := by decide +kernel
theorem dL_law_1125 : decode cL_law 1125 = .ok (.aload_n 2, 1) := by decide +kernel
theorem dL_law_1126 : decode cL_law 1126 = .ok (.aload_n 0, 1) := by decide +kernel
theorem dL_law_1127 : decode cL_law 1127 = .ok (.iload_n 3, 1) := by decide +kernel
theorem dL_law_1128 : decode cL_law 1128 = .ok (.iconst 1, 1) := by decide +kernel
theorem dL_law_1129 : decode cL_law 1129 = .ok (.iadd, 1) := by decide +kernel
theorem dL_law_1130 : decode cL_law 1130 = .ok (.iaload, 1) := by decide +kernel
theorem dL_law_1131 : decode cL_law 1131 = .ok (.aload_n 0, 1) := by decide +kernel
theorem dL_law_1132 : decode cL_law 1132 = .ok (.iload_n 3, 1) := by decide +kernel
theorem dL_law_1133 : decode cL_law 1133 = .ok (.iconst 2, 1) := by decide +kernel
theorem dL_law_1134 : decode cL_law 1134 = .ok (.iadd, 1) := by decide +kernel
theorem dL_law_1135 : decode cL_law 1135 = .ok (.iaload, 1) := by decide +kernel
theorem dL_law_1136 : decode cL_law 1136 = .ok (.invokevirtual 166, 3) := by decide +kernel
theorem dL_law_1139 : decode cL_law 1139 = .ok (.if_icmp .eq 87, 3) := by decide +kernel
theorem dL_law_1142 : decode cL_law 1142 = .ok (.iconst 0, 1) := by decide +kernel
theorem dL_law_1143 : decode cL_law 1143 = .ok (.ireturn, 1) := by decide +kernel
theorem dL_law_1144 : decode cL_law 1144 = .ok (.aload_n 1, 1) := by decide +kernel
theorem dL_law_1145 : decode cL_law 1145 = .ok (.aload_n 0, 1) := by decide +kernel
theorem dL_law_1146 : decode cL_law 1146 = .ok (.iload_n 3, 1) := by decide +kernel
theorem dL_law_1147 : decode cL_law 1147 = .ok (.iconst 1, 1) := by decide +kernel
theorem dL_law_1148 : decode cL_law 1148 = .ok (.iadd, 1) := by decide +kernel
theorem dL_law_1149 : decode cL_law 1149 = .ok (.iaload, 1) := by decide +kernel
theorem dL_law_1150 : decode cL_law 1150 = .ok (.invokevirtual 167, 3) := by decide +kernel
theorem dL_law_1153 : decode cL_law 1153 = .ok (.aload_n 2, 1) := by decide +kernel
theorem dL_law_1154 : decode cL_law 1154 = .ok (.aload_n 0, 1) := by decide +kernel
theorem dL_law_1155 : decode cL_law 1155 = .ok (.iload_n 3, 1) := by decide +kernel
theorem dL_law_1156 : decode cL_law 1156 = .ok (.iconst 1, 1) := by decide +kernel
theorem dL_law_1157 : decode cL_law 1157 = .ok (.iadd, 1) := by decide +kernel
theorem dL_law_1158 : decode cL_law 1158 = .ok (.iaload, 1) := by decide +kernel
theorem dL_law_1159 : decode cL_law 1159 = .ok (.invokevirtual 170, 3) := by decide +kernel
theorem dL_law_1162 : decode cL_law 1162 = .ok (.if_icmp .eq 64, 3) := by decide +kernel
theorem dL_law_1165 : decode cL_law 1165 = .ok (.iconst 0, 1) := by decide +kernel
theorem dL_law_1166 : decode cL_law 1166 = .ok (.ireturn, 1) := by decide +kernel
theorem dL_law_1167 : decode cL_law 1167 = .ok (.aload_n 1, 1) := by decide +kernel
theorem dL_law_1168 : decode cL_law 1168 = .ok (.aload_n 0, 1) := by decide +kernel
theorem dL_law_1169 : decode cL_law 1169 = .ok (.iload_n 3, 1) := by decide +kernel
theorem dL_law_1170 : decode cL_law 1170 = .ok (.iconst 1, 1) := by decide +kernel
theorem dL_law_1171 : decode cL_law 1171 = .ok (.iadd, 1) := by decide +kernel
theorem dL_law_1172 : decode cL_law 1172 = .ok (.iaload, 1) := by decide +kernel
theorem dL_law_1173 : decode cL_law 1173 = .ok (.invokevirtual 171, 3) := by decide +kernel
theorem dL_law_1176 : decode cL_law 1176 = .ok (.aload_n 2, 1) := by decide +kernel
theorem dL_law_1177 : decode cL_law 1177 = .ok (.aload_n 0, 1) := by decide +kernel
theorem dL_law_1178 : decode cL_law 1178 = .ok (.iload_n 3, 1) := by decide +kernel
theorem dL_law_1179 : decode cL_law 1179 = .ok (.iconst 1, 1) := by decide +kernel
theorem dL_law_1180 : decode cL_law 1180 = .ok (.iadd, 1) := by decide +kernel
theorem dL_law_1181 : decode cL_law 1181 = .ok (.iaload, 1) := by decide +kernel
theorem dL_law_1182 : decode cL_law 1182 = .ok (.invokevirtual 174, 3) := by decide +kernel
theorem dL_law_1185 : decode cL_law 1185 = .ok (.if_icmp .eq 41, 3) := by decide +kernel
theorem dL_law_1188 : decode cL_law 1188 = .ok (.iconst 0, 1) := by decide +kernel
theorem dL_law_1189 : decode cL_law 1189 = .ok (.ireturn, 1) := by decide +kernel
theorem dL_law_1190 : decode cL_law 1190 = .ok (.aload_n 1, 1) := by decide +kernel
theorem dL_law_1191 : decode cL_law 1191 = .ok (.aload_n 0, 1) := by decide +kernel
theorem dL_law_1192 : decode cL_law 1192 = .ok (.iload_n 3, 1) := by decide +kernel
theorem dL_law_1193 : decode cL_law 1193 = .ok (.iconst 1, 1) := by decide +kernel
theorem dL_law_1194 : decode cL_law 1194 = .ok (.iadd, 1) := by decide +kernel
theorem dL_law_1195 : decode cL_law 1195 = .ok (.iaload, 1) := by decide +kernel
theorem dL_law_1196 : decode cL_law 1196 = .ok (.invokevirtual 175, 3) := by decide +kernel
theorem dL_law_1199 : decode cL_law 1199 = .ok (.aload_n 2, 1) := by decide +kernel
theorem dL_law_1200 : decode cL_law 1200 = .ok (.aload_n 0, 1) := by decide +kernel
theorem dL_law_1201 : decode cL_law 1201 = .ok (.iload_n 3, 1) := by decide +kernel
theorem dL_law_1202 : decode cL_law 1202 = .ok (.iconst 1, 1) := by decide +kernel
theorem dL_law_1203 : decode cL_law 1203 = .ok (.iadd, 1) := by decide +kernel
theorem dL_law_1204 : decode cL_law 1204 = .ok (.iaload, 1) := by decide +kernel
theorem dL_law_1205 : decode cL_law 1205 = .ok (.invokevirtual 178, 3) := by decide +kernel
theorem dL_law_1208 : decode cL_law 1208 = .ok (.if_icmp .eq 18, 3) := by decide +kernel
theorem dL_law_1211 : decode cL_law 1211 = .ok (.iconst 0, 1) := by decide +kernel
theorem dL_law_1212 : decode cL_law 1212 = .ok (.ireturn, 1) := by decide +kernel
theorem dL_law_1213 : decode cL_law 1213 = .ok (.aload_n 1, 1) := by decide +kernel
theorem dL_law_1214 : decode cL_law 1214 = .ok (.invokevirtual 179, 3) := by decide +kernel
theorem dL_law_1217 : decode cL_law 1217 = .ok (.aload_n 2, 1) := by decide +kernel
theorem dL_law_1218 : decode cL_law 1218 = .ok (.invokevirtual 182, 3) := by decide +kernel
theorem dL_law_1221 : decode cL_law 1221 = .ok (.if_icmp .eq 5, 3) := by decide +kernel
theorem dL_law_1224 : decode cL_law 1224 = .ok (.iconst 0, 1) := by decide +kernel
theorem dL_law_1225 : decode cL_law 1225 = .ok (.ireturn, 1) := by decide +kernel
theorem dL_law_1226 : decode cL_law 1226 = .ok (.iinc 3 6, 3) := by decide +kernel
theorem dL_law_1229 : decode cL_law 1229 = .ok (.goto (-1211), 3) := by decide +kernel
theorem dL_law_1232 : decode cL_law 1232 = .ok (.iconst 1, 1) := by decide +kernel
theorem dL_law_1233 : decode cL_law 1233 = .ok (.ireturn, 1) := by decide +kernel
def K_L_law_18 (d mc ms : Nat) (l3 : Int) (S : MS) (C : MC) (Q : Int → MS → MC → Prop) : Prop := Wp d mc ms M_L_law 18 [cA ((-3)), cA 0, cA 81, cI l3] [] S C Q
theorem b_L_law_18 {d mc ms : Nat} {l3 : Int} {S : MS} {C : MC} {Q : Int → MS → MC → Prop} (F : Fix S) (h : (in32 S.2.2.2.2.1) ∧ ((w32 (S.2.2.2.2.1 - 6) < l3 → Q 1 S C) ∧ (¬ w32 (S.2.2.2.2.1 - 6) < l3 → ((0 : Int) ≤ l3 ∧ l3 < S.2.2.2.2.1) ∧ ((iAnd (S.2.2.2.2.2 l3) 63 < 0 ∨ 40 < iAnd (S.2.2.2.2.2 l3) 63 → K_L_law_18 (d + 1) mc ms (w32 (l3 + 6)) S C Q) ∧ (iAnd (S.2.2.2.2.2 l3) 63 = 0 → ((0 : Int) ≤ w32 (l3 + 1) ∧ w32 (l3 + 1) < S.2.2.2.2.1) ∧ ((0 : Int) ≤ w32 (l3 + 2) ∧ w32 (l3 + 2) < S.2.2.2.2.1) ∧ K_X10_house_0 d 0 0 (S.2.2.2.2.2 (w32 (l3 + 1))) (S.2.2.2.2.2 (w32 (l3 + 2))) S C (fun r1 Sq C2 => Sq = S ∧ ((0 : Int) ≤ w32 (l3 + 1) ∧ w32 (l3 + 1) < S.2.2.2.2.1) ∧ ((0 : Int) ≤ w32 (l3 + 2) ∧ w32 (l3 + 2) < S.2.2.2.2.1) ∧ K_X11_house_0 d 0 0 (S.2.2.2.2.2 (w32 (l3 + 1))) (S.2.2.2.2.2 (w32 (l3 + 2))) S C2 (fun r3 Sq C4 => Sq = S ∧ ((r1 = r3 → K_L_law_18 (d + 1) mc ms (w32 (l3 + 6)) S C4 Q) ∧ (¬ r1 = r3 → Q 0 S C4))))) ∧ (iAnd (S.2.2.2.2.2 l3) 63 = 1 → ((0 : Int) ≤ w32 (l3 + 1) ∧ w32 (l3 + 1) < S.2.2.2.2.1) ∧ ((0 : Int) ≤ w32 (l3 + 2) ∧ w32 (l3 + 2) < S.2.2.2.2.1) ∧ K_X10_of_0 d 0 0 (S.2.2.2.2.2 (w32 (l3 + 1))) (S.2.2.2.2.2 (w32 (l3 + 2))) S C (fun r5 Sq C6 => Sq = S ∧ ((0 : Int) ≤ w32 (l3 + 1) ∧ w32 (l3 + 1) < S.2.2.2.2.1) ∧ ((0 : Int) ≤ w32 (l3 + 2) ∧ w32 (l3 + 2) < S.2.2.2.2.1) ∧ K_X11_of_0 d 0 0 (S.2.2.2.2.2 (w32 (l3 + 1))) (S.2.2.2.2.2 (w32 (l3 + 2))) S C6 (fun r7 Sq C8 => Sq = S ∧ ((r5 = r7 → K_L_law_18 (d + 1) mc ms (w32 (l3 + 6)) S C8 Q) ∧ (¬ r5 = r7 → Q 0 S C8))))) ∧ (iAnd (S.2.2.2.2.2 l3) 63 = 2 → ((0 : Int) ≤ w32 (l3 + 1) ∧ w32 (l3 + 1) < S.2.2.2.2.1) ∧ K_X10_owner_0 d 0 0 (S.2.2.2.2.2 (w32 (l3 + 1))) S C (fun r9 Sq C10 => Sq = S ∧ ((0 : Int) ≤ w32 (l3 + 1) ∧ w32 (l3 + 1) < S.2.2.2.2.1) ∧ K_X11_owner_0 d 0 0 (S.2.2.2.2.2 (w32 (l3 + 1))) S C10 (fun r11 Sq C12 => Sq = S ∧ ((r9 = r11 → K_L_law_18 (d + 1) mc ms (w32 (l3 + 6)) S C12 Q) ∧ (¬ r9 = r11 → Q 0 S C12))))) ∧ (iAnd (S.2.2.2.2.2 l3) 63 = 3 → ((0 : Int) ≤ w32 (l3 + 1) ∧ w32 (l3 + 1) < S.2.2.2.2.1) ∧ K_X10_music_0 d 0 0 (S.2.2.2.2.2 (w32 (l3 + 1))) S C (fun r13 Sq C14 => Sq = S ∧ ((0 : Int) ≤ w32 (l3 + 1) ∧ w32 (l3 + 1) < S.2.2.2.2.1) ∧ K_X11_music_0 d 0 0 (S.2.2.2.2.2 (w32 (l3 + 1))) S C14 (fun r15 Sq C16 => Sq = S ∧ ((r13 = r15 → K_L_law_18 (d + 1) mc ms (w32 (l3 + 6)) S C16 Q) ∧ (¬ r13 = r15 → Q 0 S C16))))) ∧ (iAnd (S.2.2.2.2.2 l3) 63 = 4 → ((0 : Int) ≤ w32 (l3 + 1) ∧ w32 (l3 + 1) < S.2.2.2.2.1) ∧ ((0 : Int) ≤ w32 (l3 + 2) ∧ w32 (l3 + 2) < S.2.2.2.2.1) ∧ ((0 : Int) ≤ w32 (l3 + 3) ∧ w32 (l3 + 3) < S.2.2.2.2.1) ∧ ((0 : Int) ≤ w32 (l3 + 4) ∧ w32 (l3 + 4) < S.2.2.2.2.1) ∧ K_X10_asks_0 d 0 0 (S.2.2.2.2.2 (w32 (l3 + 1))) (S.2.2.2.2.2 (w32 (l3 + 2))) (S.2.2.2.2.2 (w32 (l3 + 3))) (S.2.2.2.2.2 (w32 (l3 + 4))) S C (fun r17 Sq C18 => Sq = S ∧ ((0 : Int) ≤ w32 (l3 + 1) ∧ w32 (l3 + 1) < S.2.2.2.2.1) ∧ ((0 : Int) ≤ w32 (l3 + 2) ∧ w32 (l3 + 2) < S.2.2.2.2.1) ∧ ((0 : Int) ≤ w32 (l3 + 3) ∧ w32 (l3 + 3) < S.2.2.2.2.1) ∧ ((0 : Int) ≤ w32 (l3 + 4) ∧ w32 (l3 + 4) < S.2.2.2.2.1) ∧ K_X11_asks_0 d 0 0 (S.2.2.2.2.2 (w32 (l3 + 1))) (S.2.2.2.2.2 (w32 (l3 + 2))) (S.2.2.2.2.2 (w32 (l3 + 3))) (S.2.2.2.2.2 (w32 (l3 + 4))) S C18 (fun r19 Sq C20 => Sq = S ∧ ((r17 = r19 → K_L_law_18 (d + 1) mc ms (w32 (l3 + 6)) S C20 Q) ∧ (¬ r17 = r19 → Q 0 S C20))))) ∧ (iAnd (S.2.2.2.2.2 l3) 63 = 5 → ((0 : Int) ≤ w32 (l3 + 1) ∧ w32 (l3 + 1) < S.2.2.2.2.1) ∧ ((0 : Int) ≤ w32 (l3 + 2) ∧ w32 (l3 + 2) < S.2.2.2.2.1) ∧ K_X10_terms_0 d 0 0 (S.2.2.2.2.2 (w32 (l3 + 1))) (S.2.2.2.2.2 (w32 (l3 + 2))) S C (fun r21 Sq C22 => Sq = S ∧ ((0 : Int) ≤ w32 (l3 + 1) ∧ w32 (l3 + 1) < S.2.2.2.2.1) ∧ ((0 : Int) ≤ w32 (l3 + 2) ∧ w32 (l3 + 2) < S.2.2.2.2.1) ∧ K_X11_terms_0 d 0 0 (S.2.2.2.2.2 (w32 (l3 + 1))) (S.2.2.2.2.2 (w32 (l3 + 2))) S C22 (fun r23 Sq C24 => Sq = S ∧ ((r21 = r23 → K_L_law_18 (d + 1) mc ms (w32 (l3 + 6)) S C24 Q) ∧ (¬ r21 = r23 → Q 0 S C24))))) ∧ (iAnd (S.2.2.2.2.2 l3) 63 = 6 → ((0 : Int) ≤ w32 (l3 + 1) ∧ w32 (l3 + 1) < S.2.2.2.2.1) ∧ ((0 : Int) ≤ w32 (l3 + 2) ∧ w32 (l3 + 2) < S.2.2.2.2.1) ∧ ((0 : Int) ≤ w32 (l3 + 3) ∧ w32 (l3 + 3) < S.2.2.2.2.1) ∧ ((0 : Int) ≤ w32 (l3 + 4) ∧ w32 (l3 + 4) < S.2.2.2.2.1) ∧ ((0 : Int) ≤ w32 (l3 + 5) ∧ w32 (l3 + 5) < S.2.2.2.2.1) ∧ K_X10_feed_0 d 0 0 (S.2.2.2.2.2 (w32 (l3 + 1))) (S.2.2.2.2.2 (w32 (l3 + 2))) (S.2.2.2.2.2 (w32 (l3 + 3))) (S.2.2.2.2.2 (w32 (l3 + 4))) (S.2.2.2.2.2 (w32 (l3 + 5))) S C (fun r25 Sq C26 => Sq = S ∧ ((0 : Int) ≤ w32 (l3 + 1) ∧ w32 (l3 + 1) < S.2.2.2.2.1) ∧ ((0 : Int) ≤ w32 (l3 + 2) ∧ w32 (l3 + 2) < S.2.2.2.2.1) ∧ ((0 : Int) ≤ w32 (l3 + 3) ∧ w32 (l3 + 3) < S.2.2.2.2.1) ∧ ((0 : Int) ≤ w32 (l3 + 4) ∧ w32 (l3 + 4) < S.2.2.2.2.1) ∧ ((0 : Int) ≤ w32 (l3 + 5) ∧ w32 (l3 + 5) < S.2.2.2.2.1) ∧ K_X11_feed_0 d 0 0 (S.2.2.2.2.2 (w32 (l3 + 1))) (S.2.2.2.2.2 (w32 (l3 + 2))) (S.2.2.2.2.2 (w32 (l3 + 3))) (S.2.2.2.2.2 (w32 (l3 + 4))) (S.2.2.2.2.2 (w32 (l3 + 5))) S C26 (fun r27 Sq C28 => Sq = S ∧ ((r25 = r27 → K_L_law_18 (d + 1) mc ms (w32 (l3 + 6)) S C28 Q) ∧ (¬ r25 = r27 → Q 0 S C28))))) ∧ (iAnd (S.2.2.2.2.2 l3) 63 = 7 → ((0 : Int) ≤ w32 (l3 + 1) ∧ w32 (l3 + 1) < S.2.2.2.2.1) ∧ K_X10_end_0 d 0 0 (S.2.2.2.2.2 (w32 (l3 + 1))) S C (fun r29 Sq C30 => Sq = S ∧ ((0 : Int) ≤ w32 (l3 + 1) ∧ w32 (l3 + 1) < S.2.2.2.2.1) ∧ K_X11_end_0 d 0 0 (S.2.2.2.2.2 (w32 (l3 + 1))) S C30 (fun r31 Sq C32 => Sq = S ∧ ((r29 = r31 → K_L_law_18 (d + 1) mc ms (w32 (l3 + 6)) S C32 Q) ∧ (¬ r29 = r31 → Q 0 S C32))))) ∧ (iAnd (S.2.2.2.2.2 l3) 63 = 8 → K_X10_row_0 d 0 0 S C (fun r33 Sq C34 => Sq = S ∧ K_X11_row_0 d 0 0 S C34 (fun r35 Sq C36 => Sq = S ∧ ((r33 = r35 → K_L_law_18 (d + 1) mc ms (w32 (l3 + 6)) S C36 Q) ∧ (¬ r33 = r35 → Q 0 S C36))))) ∧ (iAnd (S.2.2.2.2.2 l3) 63 = 9 → K_X10_creaks_0 d 0 0 S C (fun r37 Sq C38 => Sq = S ∧ K_X11_creaks_0 d 0 0 S C38 (fun r39 Sq C40 => Sq = S ∧ ((r37 = r39 → K_L_law_18 (d + 1) mc ms (w32 (l3 + 6)) S C40 Q) ∧ (¬ r37 = r39 → Q 0 S C40))))) ∧ (iAnd (S.2.2.2.2.2 l3) 63 = 10 → K_X10_law_0 d 7 469 S C (fun r41 S43 C42 => Fix S43 ∧ K_X11_law_0 d 0 0 S43 C42 (fun r45 Sq C46 => Sq = S43 ∧ ((r41 = r45 → K_L_law_18 (d + 1) mc ms (w32 (l3 + 6)) S43 C46 Q) ∧ (¬ r41 = r45 → Q 0 S43 C46))))) ∧ (iAnd (S.2.2.2.2.2 l3) 63 = 11 → K_X10_orders_0 d 0 0 S C (fun r47 S49 C48 => Fix S49 ∧ K_X11_orders_0 d 0 0 S49 C48 (fun r51 Sq C52 => Sq = S49 ∧ ((r47 = r51 → K_L_law_18 (d + 1) mc ms (w32 (l3 + 6)) S49 C52 Q) ∧ (¬ r47 = r51 → Q 0 S49 C52))))) ∧ (iAnd (S.2.2.2.2.2 l3) 63 = 12 → K_X10_fault_0 d 0 0 S C (fun r53 Sq C54 => Sq = S ∧ K_X11_fault_0 d 0 0 S C54 (fun r55 Sq C56 => Sq = S ∧ ((r53 = r55 → K_L_law_18 (d + 1) mc ms (w32 (l3 + 6)) S C56 Q) ∧ (¬ r53 = r55 → Q 0 S C56))))) ∧ (iAnd (S.2.2.2.2.2 l3) 63 = 13 → K_X10_stopped_0 d 0 0 S C (fun r57 Sq C58 => Sq = S ∧ K_X11_stopped_0 d 0 0 S C58 (fun r59 Sq C60 => Sq = S ∧ ((r57 = r59 → K_L_law_18 (d + 1) mc ms (w32 (l3 + 6)) S C60 Q) ∧ (¬ r57 = r59 → Q 0 S C60))))) ∧ (iAnd (S.2.2.2.2.2 l3) 63 = 14 → ((0 : Int) ≤ w32 (l3 + 1) ∧ w32 (l3 + 1) < S.2.2.2.2.1) ∧ K_X10_force_0 d 0 0 (S.2.2.2.2.2 (w32 (l3 + 1))) S C (fun r61 Sq C62 => Sq = S ∧ ((0 : Int) ≤ w32 (l3 + 1) ∧ w32 (l3 + 1) < S.2.2.2.2.1) ∧ K_X11_force_0 d 0 0 (S.2.2.2.2.2 (w32 (l3 + 1))) S C62 (fun r63 Sq C64 => Sq = S ∧ ((r61 = r63 → K_L_law_18 (d + 1) mc ms (w32 (l3 + 6)) S C64 Q) ∧ (¬ r61 = r63 → Q 0 S C64))))) ∧ (iAnd (S.2.2.2.2.2 l3) 63 = 15 → ((0 : Int) ≤ w32 (l3 + 1) ∧ w32 (l3 + 1) < S.2.2.2.2.1) ∧ ((0 : Int) ≤ w32 (l3 + 2) ∧ w32 (l3 + 2) < S.2.2.2.2.1) ∧ K_X10_note_0 d 0 0 (S.2.2.2.2.2 (w32 (l3 + 1))) (S.2.2.2.2.2 (w32 (l3 + 2))) S C (fun r65 Sq C66 => Sq = S ∧ ((0 : Int) ≤ w32 (l3 + 1) ∧ w32 (l3 + 1) < S.2.2.2.2.1) ∧ ((0 : Int) ≤ w32 (l3 + 2) ∧ w32 (l3 + 2) < S.2.2.2.2.1) ∧ K_X11_note_0 d 0 0 (S.2.2.2.2.2 (w32 (l3 + 1))) (S.2.2.2.2.2 (w32 (l3 + 2))) S C66 (fun r67 Sq C68 => Sq = S ∧ ((r65 = r67 → K_L_law_18 (d + 1) mc ms (w32 (l3 + 6)) S C68 Q) ∧ (¬ r65 = r67 → Q 0 S C68))))) ∧ (iAnd (S.2.2.2.2.2 l3) 63 = 16 → ((0 : Int) ≤ w32 (l3 + 1) ∧ w32 (l3 + 1) < S.2.2.2.2.1) ∧ ((0 : Int) ≤ w32 (l3 + 2) ∧ w32 (l3 + 2) < S.2.2.2.2.1) ∧ K_X10_give_0 d 0 0 (S.2.2.2.2.2 (w32 (l3 + 1))) (S.2.2.2.2.2 (w32 (l3 + 2))) S C (fun r69 Sq C70 => Sq = S ∧ ((0 : Int) ≤ w32 (l3 + 1) ∧ w32 (l3 + 1) < S.2.2.2.2.1) ∧ ((0 : Int) ≤ w32 (l3 + 2) ∧ w32 (l3 + 2) < S.2.2.2.2.1) ∧ K_X11_give_0 d 0 0 (S.2.2.2.2.2 (w32 (l3 + 1))) (S.2.2.2.2.2 (w32 (l3 + 2))) S C70 (fun r71 Sq C72 => Sq = S ∧ ((r69 = r71 → K_L_law_18 (d + 1) mc ms (w32 (l3 + 6)) S C72 Q) ∧ (¬ r69 = r71 → Q 0 S C72))))) ∧ (iAnd (S.2.2.2.2.2 l3) 63 = 17 → ((0 : Int) ≤ w32 (l3 + 1) ∧ w32 (l3 + 1) < S.2.2.2.2.1) ∧ K_X10_shift_0 d 0 0 (S.2.2.2.2.2 (w32 (l3 + 1))) S C (fun r73 Sq C74 => Sq = S ∧ ((0 : Int) ≤ w32 (l3 + 1) ∧ w32 (l3 + 1) < S.2.2.2.2.1) ∧ K_X11_shift_0 d 0 0 (S.2.2.2.2.2 (w32 (l3 + 1))) S C74 (fun r75 Sq C76 => Sq = S ∧ ((r73 = r75 → K_L_law_18 (d + 1) mc ms (w32 (l3 + 6)) S C76 Q) ∧ (¬ r73 = r75 → Q 0 S C76))))) ∧ (iAnd (S.2.2.2.2.2 l3) 63 = 18 → K_X10_pass_0 d 0 0 S C (fun r77 Sq C78 => Sq = S ∧ K_X11_pass_0 d 0 0 S C78 (fun r79 Sq C80 => Sq = S ∧ ((r77 = r79 → K_L_law_18 (d + 1) mc ms (w32 (l3 + 6)) S C80 Q) ∧ (¬ r77 = r79 → Q 0 S C80))))) ∧ (iAnd (S.2.2.2.2.2 l3) 63 = 19 → K_X10_undo_0 d 0 0 S C (fun r81 Sq C82 => Sq = S ∧ K_X11_undo_0 d 0 0 S C82 (fun r83 Sq C84 => Sq = S ∧ ((r81 = r83 → K_L_law_18 (d + 1) mc ms (w32 (l3 + 6)) S C84 Q) ∧ (¬ r81 = r83 → Q 0 S C84))))) ∧ (iAnd (S.2.2.2.2.2 l3) 63 = 20 → K_X10_drill_0 d 0 0 S C (fun r85 S87 C86 => Fix S87 ∧ K_X11_drill_0 d 0 0 S87 C86 (fun r89 Sq C90 => Sq = S87 ∧ ((r85 = r89 → K_L_law_18 (d + 1) mc ms (w32 (l3 + 6)) S87 C90 Q) ∧ (¬ r85 = r89 → Q 0 S87 C90))))) ∧ (iAnd (S.2.2.2.2.2 l3) 63 = 21 → ((0 : Int) ≤ w32 (l3 + 1) ∧ w32 (l3 + 1) < S.2.2.2.2.1) ∧ K_X10_least_0 d 0 0 (S.2.2.2.2.2 (w32 (l3 + 1))) S C (fun r91 S93 C92 => Fix S93 ∧ ((0 : Int) ≤ w32 (l3 + 1) ∧ w32 (l3 + 1) < S93.2.2.2.2.1) ∧ K_X11_least_0 d 0 0 (S93.2.2.2.2.2 (w32 (l3 + 1))) S93 C92 (fun r95 Sq C96 => Sq = S93 ∧ ((r91 = r95 → K_L_law_18 (d + 1) mc ms (w32 (l3 + 6)) S93 C96 Q) ∧ (¬ r91 = r95 → Q 0 S93 C96))))) ∧ (iAnd (S.2.2.2.2.2 l3) 63 = 22 → ((0 : Int) ≤ w32 (l3 + 1) ∧ w32 (l3 + 1) < S.2.2.2.2.1) ∧ ((0 : Int) ≤ w32 (l3 + 2) ∧ w32 (l3 + 2) < S.2.2.2.2.1) ∧ K_X10_who_0 d 0 0 (S.2.2.2.2.2 (w32 (l3 + 1))) (S.2.2.2.2.2 (w32 (l3 + 2))) S C (fun r97 S99 C98 => Fix S99 ∧ ((0 : Int) ≤ w32 (l3 + 1) ∧ w32 (l3 + 1) < S99.2.2.2.2.1) ∧ ((0 : Int) ≤ w32 (l3 + 2) ∧ w32 (l3 + 2) < S99.2.2.2.2.1) ∧ K_X11_who_0 d 0 0 (S99.2.2.2.2.2 (w32 (l3 + 1))) (S99.2.2.2.2.2 (w32 (l3 + 2))) S99 C98 (fun r101 Sq C102 => Sq = S99 ∧ ((r97 = r101 → K_L_law_18 (d + 1) mc ms (w32 (l3 + 6)) S99 C102 Q) ∧ (¬ r97 = r101 → Q 0 S99 C102))))) ∧ (iAnd (S.2.2.2.2.2 l3) 63 = 23 → ((0 : Int) ≤ w32 (l3 + 1) ∧ w32 (l3 + 1) < S.2.2.2.2.1) ∧ K_X10_ways_0 d 0 0 (S.2.2.2.2.2 (w32 (l3 + 1))) S C (fun r103 S105 C104 => Fix S105 ∧ ((0 : Int) ≤ w32 (l3 + 1) ∧ w32 (l3 + 1) < S105.2.2.2.2.1) ∧ K_X11_ways_0 d 0 0 (S105.2.2.2.2.2 (w32 (l3 + 1))) S105 C104 (fun r107 Sq C108 => Sq = S105 ∧ ((r103 = r107 → K_L_law_18 (d + 1) mc ms (w32 (l3 + 6)) S105 C108 Q) ∧ (¬ r103 = r107 → Q 0 S105 C108))))) ∧ (iAnd (S.2.2.2.2.2 l3) 63 = 24 → ((0 : Int) ≤ w32 (l3 + 1) ∧ w32 (l3 + 1) < S.2.2.2.2.1) ∧ ((0 : Int) ≤ w32 (l3 + 2) ∧ w32 (l3 + 2) < S.2.2.2.2.1) ∧ K_X10_might_0 d 0 0 (S.2.2.2.2.2 (w32 (l3 + 1))) (S.2.2.2.2.2 (w32 (l3 + 2))) S C (fun r109 S111 C110 => Fix S111 ∧ ((0 : Int) ≤ w32 (l3 + 1) ∧ w32 (l3 + 1) < S111.2.2.2.2.1) ∧ ((0 : Int) ≤ w32 (l3 + 2) ∧ w32 (l3 + 2) < S111.2.2.2.2.1) ∧ K_X11_might_0 d 0 0 (S111.2.2.2.2.2 (w32 (l3 + 1))) (S111.2.2.2.2.2 (w32 (l3 + 2))) S111 C110 (fun r113 Sq C114 => Sq = S111 ∧ ((r109 = r113 → K_L_law_18 (d + 1) mc ms (w32 (l3 + 6)) S111 C114 Q) ∧ (¬ r109 = r113 → Q 0 S111 C114))))) ∧ (iAnd (S.2.2.2.2.2 l3) 63 = 25 → ((0 : Int) ≤ w32 (l3 + 1) ∧ w32 (l3 + 1) < S.2.2.2.2.1) ∧ K_X10_cover_0 d 0 0 (S.2.2.2.2.2 (w32 (l3 + 1))) S C (fun r115 S117 C116 => Fix S117 ∧ ((0 : Int) ≤ w32 (l3 + 1) ∧ w32 (l3 + 1) < S117.2.2.2.2.1) ∧ K_X11_cover_0 d 0 0 (S117.2.2.2.2.2 (w32 (l3 + 1))) S117 C116 (fun r119 Sq C120 => Sq = S117 ∧ ((r115 = r119 → K_L_law_18 (d + 1) mc ms (w32 (l3 + 6)) S117 C120 Q) ∧ (¬ r115 = r119 → Q 0 S117 C120))))) ∧ (iAnd (S.2.2.2.2.2 l3) 63 = 26 → ((0 : Int) ≤ w32 (l3 + 1) ∧ w32 (l3 + 1) < S.2.2.2.2.1) ∧ ((0 : Int) ≤ w32 (l3 + 2) ∧ w32 (l3 + 2) < S.2.2.2.2.1) ∧ K_X10_run_0 d 0 0 (S.2.2.2.2.2 (w32 (l3 + 1))) (S.2.2.2.2.2 (w32 (l3 + 2))) S C (fun r121 S123 C122 => Fix S123 ∧ ((0 : Int) ≤ w32 (l3 + 1) ∧ w32 (l3 + 1) < S123.2.2.2.2.1) ∧ ((0 : Int) ≤ w32 (l3 + 2) ∧ w32 (l3 + 2) < S123.2.2.2.2.1) ∧ K_X11_run_0 d 0 0 (S123.2.2.2.2.2 (w32 (l3 + 1))) (S123.2.2.2.2.2 (w32 (l3 + 2))) S123 C122 (fun r125 Sq C126 => Sq = S123 ∧ ((r121 = r125 → K_L_law_18 (d + 1) mc ms (w32 (l3 + 6)) S123 C126 Q) ∧ (¬ r121 = r125 → Q 0 S123 C126))))) ∧ (iAnd (S.2.2.2.2.2 l3) 63 = 27 → ((0 : Int) ≤ w32 (l3 + 1) ∧ w32 (l3 + 1) < S.2.2.2.2.1) ∧ K_X10_best_0 d 0 0 (S.2.2.2.2.2 (w32 (l3 + 1))) S C (fun r127 S129 C128 => Fix S129 ∧ ((0 : Int) ≤ w32 (l3 + 1) ∧ w32 (l3 + 1) < S129.2.2.2.2.1) ∧ K_X11_best_0 d 0 0 (S129.2.2.2.2.2 (w32 (l3 + 1))) S129 C128 (fun r131 Sq C132 => Sq = S129 ∧ ((r127 = r131 → K_L_law_18 (d + 1) mc ms (w32 (l3 + 6)) S129 C132 Q) ∧ (¬ r127 = r131 → Q 0 S129 C132))))) ∧ (iAnd (S.2.2.2.2.2 l3) 63 = 28 → ((0 : Int) ≤ w32 (l3 + 1) ∧ w32 (l3 + 1) < S.2.2.2.2.1) ∧ K_X10_motif_0 d 0 0 (S.2.2.2.2.2 (w32 (l3 + 1))) S C (fun r133 Sq C134 => Sq = S ∧ ((0 : Int) ≤ w32 (l3 + 1) ∧ w32 (l3 + 1) < S.2.2.2.2.1) ∧ K_X11_motif_0 d 0 0 (S.2.2.2.2.2 (w32 (l3 + 1))) S C134 (fun r135 Sq C136 => Sq = S ∧ ((r133 = r135 → K_L_law_18 (d + 1) mc ms (w32 (l3 + 6)) S C136 Q) ∧ (¬ r133 = r135 → Q 0 S C136))))) ∧ (iAnd (S.2.2.2.2.2 l3) 63 = 29 → K_X10_forget_0 d 0 0 S C (fun r137 Sq C138 => Sq = S ∧ K_X11_forget_0 d 0 0 S C138 (fun r139 Sq C140 => Sq = S ∧ ((r137 = r139 → K_L_law_18 (d + 1) mc ms (w32 (l3 + 6)) S C140 Q) ∧ (¬ r137 = r139 → Q 0 S C140))))) ∧ (iAnd (S.2.2.2.2.2 l3) 63 = 30 → ((0 : Int) ≤ w32 (l3 + 1) ∧ w32 (l3 + 1) < S.2.2.2.2.1) ∧ K_X10_find_0 d 0 0 (S.2.2.2.2.2 (w32 (l3 + 1))) S C (fun r141 Sq C142 => Sq = S ∧ ((0 : Int) ≤ w32 (l3 + 1) ∧ w32 (l3 + 1) < S.2.2.2.2.1) ∧ K_X11_find_0 d 0 0 (S.2.2.2.2.2 (w32 (l3 + 1))) S C142 (fun r143 Sq C144 => Sq = S ∧ ((r141 = r143 → K_L_law_18 (d + 1) mc ms (w32 (l3 + 6)) S C144 Q) ∧ (¬ r141 = r143 → Q 0 S C144))))) ∧ (iAnd (S.2.2.2.2.2 l3) 63 = 31 → ((0 : Int) ≤ w32 (l3 + 1) ∧ w32 (l3 + 1) < S.2.2.2.2.1) ∧ ((0 : Int) ≤ w32 (l3 + 2) ∧ w32 (l3 + 2) < S.2.2.2.2.1) ∧ K_X10_owes_0 d 0 0 (S.2.2.2.2.2 (w32 (l3 + 1))) (S.2.2.2.2.2 (w32 (l3 + 2))) S C (fun r145 S147 C146 => Fix S147 ∧ ((0 : Int) ≤ w32 (l3 + 1) ∧ w32 (l3 + 1) < S147.2.2.2.2.1) ∧ ((0 : Int) ≤ w32 (l3 + 2) ∧ w32 (l3 + 2) < S147.2.2.2.2.1) ∧ K_X11_owes_0 d 0 0 (S147.2.2.2.2.2 (w32 (l3 + 1))) (S147.2.2.2.2.2 (w32 (l3 + 2))) S147 C146 (fun r149 Sq C150 => Sq = S147 ∧ ((r145 = r149 → K_L_law_18 (d + 1) mc ms (w32 (l3 + 6)) S147 C150 Q) ∧ (¬ r145 = r149 → Q 0 S147 C150))))) ∧ (iAnd (S.2.2.2.2.2 l3) 63 = 32 → K_X10_settled_0 d 0 0 S C (fun r151 S153 C152 => Fix S153 ∧ K_X11_settled_0 d 0 0 S153 C152 (fun r155 Sq C156 => Sq = S153 ∧ ((r151 = r155 → K_L_law_18 (d + 1) mc ms (w32 (l3 + 6)) S153 C156 Q) ∧ (¬ r151 = r155 → Q 0 S153 C156))))) ∧ (iAnd (S.2.2.2.2.2 l3) 63 = 33 → ((0 : Int) ≤ w32 (l3 + 1) ∧ w32 (l3 + 1) < S.2.2.2.2.1) ∧ ((0 : Int) ≤ w32 (l3 + 2) ∧ w32 (l3 + 2) < S.2.2.2.2.1) ∧ K_X10_few_0 d 0 0 (S.2.2.2.2.2 (w32 (l3 + 1))) (S.2.2.2.2.2 (w32 (l3 + 2))) S C (fun r157 Sq C158 => Sq = S ∧ ((0 : Int) ≤ w32 (l3 + 1) ∧ w32 (l3 + 1) < S.2.2.2.2.1) ∧ ((0 : Int) ≤ w32 (l3 + 2) ∧ w32 (l3 + 2) < S.2.2.2.2.1) ∧ K_X11_few_0 d 0 0 (S.2.2.2.2.2 (w32 (l3 + 1))) (S.2.2.2.2.2 (w32 (l3 + 2))) S C158 (fun r159 Sq C160 => Sq = S ∧ ((lCmp r157 r159 = 0 → K_L_law_18 (d + 1) mc ms (w32 (l3 + 6)) S C160 Q) ∧ (¬ lCmp r157 r159 = 0 → Q 0 S C160))))) ∧ (iAnd (S.2.2.2.2.2 l3) 63 = 34 → ((0 : Int) ≤ w32 (l3 + 1) ∧ w32 (l3 + 1) < S.2.2.2.2.1) ∧ K_X10_compare_0 d 0 0 (S.2.2.2.2.2 (w32 (l3 + 1))) S C (fun r161 S163 C162 => Fix S163 ∧ ((0 : Int) ≤ w32 (l3 + 1) ∧ w32 (l3 + 1) < S163.2.2.2.2.1) ∧ K_X11_compare_0 d 0 0 (S163.2.2.2.2.2 (w32 (l3 + 1))) S163 C162 (fun r165 Sq C166 => Sq = S163 ∧ ((r161 = r165 → K_L_law_18 (d + 1) mc ms (w32 (l3 + 6)) S163 C166 Q) ∧ (¬ r161 = r165 → Q 0 S163 C166))))) ∧ (iAnd (S.2.2.2.2.2 l3) 63 = 35 → ((0 : Int) ≤ w32 (l3 + 1) ∧ w32 (l3 + 1) < S.2.2.2.2.1) ∧ ((0 : Int) ≤ w32 (l3 + 2) ∧ w32 (l3 + 2) < S.2.2.2.2.1) ∧ K_X10_evenings_0 d 0 0 (S.2.2.2.2.2 (w32 (l3 + 1))) (S.2.2.2.2.2 (w32 (l3 + 2))) S C (fun r167 S169 C168 => Fix S169 ∧ ((0 : Int) ≤ w32 (l3 + 1) ∧ w32 (l3 + 1) < S169.2.2.2.2.1) ∧ ((0 : Int) ≤ w32 (l3 + 2) ∧ w32 (l3 + 2) < S169.2.2.2.2.1) ∧ K_X11_evenings_0 d 0 0 (S169.2.2.2.2.2 (w32 (l3 + 1))) (S169.2.2.2.2.2 (w32 (l3 + 2))) S169 C168 (fun r171 Sq C172 => Sq = S169 ∧ ((r167 = r171 → K_L_law_18 (d + 1) mc ms (w32 (l3 + 6)) S169 C172 Q) ∧ (¬ r167 = r171 → Q 0 S169 C172))))) ∧ (iAnd (S.2.2.2.2.2 l3) 63 = 36 → ((0 : Int) ≤ w32 (l3 + 1) ∧ w32 (l3 + 1) < S.2.2.2.2.1) ∧ ((0 : Int) ≤ w32 (l3 + 2) ∧ w32 (l3 + 2) < S.2.2.2.2.1) ∧ K_X10_drawn_0 d 0 0 (S.2.2.2.2.2 (w32 (l3 + 1))) (S.2.2.2.2.2 (w32 (l3 + 2))) S C (fun r173 Sq C174 => Sq = S ∧ ((0 : Int) ≤ w32 (l3 + 1) ∧ w32 (l3 + 1) < S.2.2.2.2.1) ∧ ((0 : Int) ≤ w32 (l3 + 2) ∧ w32 (l3 + 2) < S.2.2.2.2.1) ∧ K_X11_drawn_0 d 0 0 (S.2.2.2.2.2 (w32 (l3 + 1))) (S.2.2.2.2.2 (w32 (l3 + 2))) S C174 (fun r175 Sq C176 => Sq = S ∧ ((r173 = r175 → K_L_law_18 (d + 1) mc ms (w32 (l3 + 6)) S C176 Q) ∧ (¬ r173 = r175 → Q 0 S C176))))) ∧ (iAnd (S.2.2.2.2.2 l3) 63 = 37 → ((0 : Int) ≤ w32 (l3 + 1) ∧ w32 (l3 + 1) < S.2.2.2.2.1) ∧ K_X10_image_0 d 0 0 (S.2.2.2.2.2 (w32 (l3 + 1))) S C (fun r177 S179 C178 => Fix S179 ∧ ((0 : Int) ≤ w32 (l3 + 1) ∧ w32 (l3 + 1) < S179.2.2.2.2.1) ∧ K_X11_image_0 d 0 0 (S179.2.2.2.2.2 (w32 (l3 + 1))) S179 C178 (fun r181 Sq C182 => Sq = S179 ∧ ((r177 = r181 → K_L_law_18 (d + 1) mc ms (w32 (l3 + 6)) S179 C182 Q) ∧ (¬ r177 = r181 → Q 0 S179 C182))))) ∧ (iAnd (S.2.2.2.2.2 l3) 63 = 38 → ((0 : Int) ≤ w32 (l3 + 1) ∧ w32 (l3 + 1) < S.2.2.2.2.1) ∧ K_X10_back_0 d 0 0 (S.2.2.2.2.2 (w32 (l3 + 1))) S C (fun r183 S185 C184 => Fix S185 ∧ ((0 : Int) ≤ w32 (l3 + 1) ∧ w32 (l3 + 1) < S185.2.2.2.2.1) ∧ K_X11_back_0 d 0 0 (S185.2.2.2.2.2 (w32 (l3 + 1))) S185 C184 (fun r187 Sq C188 => Sq = S185 ∧ ((r183 = r187 → K_L_law_18 (d + 1) mc ms (w32 (l3 + 6)) S185 C188 Q) ∧ (¬ r183 = r187 → Q 0 S185 C188))))) ∧ (iAnd (S.2.2.2.2.2 l3) 63 = 39 → ((0 : Int) ≤ w32 (l3 + 1) ∧ w32 (l3 + 1) < S.2.2.2.2.1) ∧ K_X10_count_0 d 0 0 (S.2.2.2.2.2 (w32 (l3 + 1))) S C (fun r189 Sq C190 => Sq = S ∧ ((0 : Int) ≤ w32 (l3 + 1) ∧ w32 (l3 + 1) < S.2.2.2.2.1) ∧ K_X11_count_0 d 0 0 (S.2.2.2.2.2 (w32 (l3 + 1))) S C190 (fun r191 Sq C192 => Sq = S ∧ ((r189 = r191 → K_L_law_18 (d + 1) mc ms (w32 (l3 + 6)) S C192 Q) ∧ (¬ r189 = r191 → Q 0 S C192))))) ∧ (iAnd (S.2.2.2.2.2 l3) 63 = 40 → K_X10_status_0 d 0 0 S C (fun r193 Sq C194 => Sq = S ∧ K_X11_status_0 d 0 0 S C194 (fun r195 Sq C196 => Sq = S ∧ ((r193 = r195 → K_L_law_18 (d + 1) mc ms (w32 (l3 + 6)) S C196 Q) ∧ (¬ r193 = r195 → Q 0 S C196))))))))) : K_L_law_18 (d + 1) (mc + 7) (ms + 469) l3 S C Q := by
  show Wp (d + 1) (mc + 7) (ms + 469) M_L_law 18 [cA ((-3)), cA 0, cA 81, cI l3] [] S C Q
  refine wp_iload_n (nx := 19) dL_law_18 rfl rfl ?_
  refine wp_aload_n (nx := 20) dL_law_19 rfl rfl ?_
  obtain ⟨hin, h⟩ := h
  refine wp_slen (nx := 21) dL_law_20 rfl hin ?_
  refine wp_bipush (nx := 23) dL_law_21 rfl ⟨by decide, i32 (by decide)⟩ ?_
  refine wp_isub (nx := 24) dL_law_23 rfl ?_
  refine wp_icmp_gt (nx := 27) (tg := 1232) dL_law_24 rfl rfl (fun hc => ?_) (fun hc => ?_)
  · have h := h.1 hc
    refine wp_iconst (nx := 1233) dL_law_1232 rfl (i32 (by decide)) ?_
    exact wp_ireturn dL_law_1233 rfl rfl (nz_of (Or.inr rfl)) h
  · have h := h.2 hc
    refine wp_aload_n (nx := 28) dL_law_27 rfl rfl ?_
    refine wp_iload_n (nx := 29) dL_law_28 rfl rfl ?_
    obtain ⟨hi, h⟩ := h
    refine wp_sload (nx := 30) dL_law_29 rfl hi ?_
    refine wp_bipush (nx := 32) dL_law_30 rfl ⟨by decide, i32 (by decide)⟩ ?_
    refine wp_iand (nx := 33) dL_law_32 rfl ?_
    rcases (show (iAnd (S.2.2.2.2.2 l3) 63 < 0 ∨ 40 < iAnd (S.2.2.2.2.2 l3) 63) ∨ iAnd (S.2.2.2.2.2 l3) 63 = 0 ∨ iAnd (S.2.2.2.2.2 l3) 63 = 1 ∨ iAnd (S.2.2.2.2.2 l3) 63 = 2 ∨ iAnd (S.2.2.2.2.2 l3) 63 = 3 ∨ iAnd (S.2.2.2.2.2 l3) 63 = 4 ∨ iAnd (S.2.2.2.2.2 l3) 63 = 5 ∨ iAnd (S.2.2.2.2.2 l3) 63 = 6 ∨ iAnd (S.2.2.2.2.2 l3) 63 = 7 ∨ iAnd (S.2.2.2.2.2 l3) 63 = 8 ∨ iAnd (S.2.2.2.2.2 l3) 63 = 9 ∨ iAnd (S.2.2.2.2.2 l3) 63 = 10 ∨ iAnd (S.2.2.2.2.2 l3) 63 = 11 ∨ iAnd (S.2.2.2.2.2 l3) 63 = 12 ∨ iAnd (S.2.2.2.2.2 l3) 63 = 13 ∨ iAnd (S.2.2.2.2.2 l3) 63 = 14 ∨ iAnd (S.2.2.2.2.2 l3) 63 = 15 ∨ iAnd (S.2.2.2.2.2 l3) 63 = 16 ∨ iAnd (S.2.2.2.2.2 l3) 63 = 17 ∨ iAnd (S.2.2.2.2.2 l3) 63 = 18 ∨ iAnd (S.2.2.2.2.2 l3) 63 = 19 ∨ iAnd (S.2.2.2.2.2 l3) 63 = 20 ∨ iAnd (S.2.2.2.2.2 l3) 63 = 21 ∨ iAnd (S.2.2.2.2.2 l3) 63 = 22 ∨ iAnd (S.2.2.2.2.2 l3) 63 = 23 ∨ iAnd (S.2.2.2.2.2 l3) 63 = 24 ∨ iAnd (S.2.2.2.2.2 l3) 63 = 25 ∨ iAnd (S.2.2.2.2.2 l3) 63 = 26 ∨ iAnd (S.2.2.2.2.2 l3) 63 = 27 ∨ iAnd (S.2.2.2.2.2 l3) 63 = 28 ∨ iAnd (S.2.2.2.2.2 l3) 63 = 29 ∨ iAnd (S.2.2.2.2.2 l3) 63 = 30 ∨ iAnd (S.2.2.2.2.2 l3) 63 = 31 ∨ iAnd (S.2.2.2.2.2 l3) 63 = 32 ∨ iAnd (S.2.2.2.2.2 l3) 63 = 33 ∨ iAnd (S.2.2.2.2.2 l3) 63 = 34 ∨ iAnd (S.2.2.2.2.2 l3) 63 = 35 ∨ iAnd (S.2.2.2.2.2 l3) 63 = 36 ∨ iAnd (S.2.2.2.2.2 l3) 63 = 37 ∨ iAnd (S.2.2.2.2.2 l3) 63 = 38 ∨ iAnd (S.2.2.2.2.2 l3) 63 = 39 ∨ iAnd (S.2.2.2.2.2 l3) 63 = 40 by omega) with hc | hc | hc | hc | hc | hc | hc | hc | hc | hc | hc | hc | hc | hc | hc | hc | hc | hc | hc | hc | hc | hc | hc | hc | hc | hc | hc | hc | hc | hc | hc | hc | hc | hc | hc | hc | hc | hc | hc | hc | hc | hc
    · have h := h.1 hc
      refine wp_tableOut (tg := 1226) dL_law_33 hc rfl ?_
      refine Wp.deep (d := d + 1) (mc := mc) (ms := ms) ?_ (Nat.le_refl _) (by omega) (by omega)
      refine wp_iinc (nx := 1229) dL_law_1226 rfl rfl (by decide) ?_
      refine wp_ls (ls2 := [cA ((-3)), cA 0, cA 81, cI (w32 (l3 + 6))]) rfl ?_
      refine wp_goto (nx := 18) dL_law_1229 rfl ?_
      exact h
    · have h := h.2.1 hc
      refine wp_tableIn (tg := 212) (off := 179) dL_law_33 (by omega) (by omega) (by rw [show (iAnd (S.2.2.2.2.2 l3) 63 - 0).toNat = 0 by omega]; rfl) rfl ?_
      refine Wp.deep (d := d + 1) (mc := mc) (ms := ms) ?_ (Nat.le_refl _) (by omega) (by omega)
      refine wp_aload_n (nx := 213) dL_law_212 rfl rfl ?_
      refine wp_aload_n (nx := 214) dL_law_213 rfl rfl ?_
      refine wp_iload_n (nx := 215) dL_law_214 rfl rfl ?_
      refine wp_iconst (nx := 216) dL_law_215 rfl (i32 (by decide)) ?_
      refine wp_iadd (nx := 217) dL_law_216 rfl ?_
      obtain ⟨hi, h⟩ := h
      refine wp_sload (nx := 218) dL_law_217 rfl hi ?_
      refine wp_aload_n (nx := 219) dL_law_218 rfl rfl ?_
      refine wp_iload_n (nx := 220) dL_law_219 rfl rfl ?_
      refine wp_iconst (nx := 221) dL_law_220 rfl (i32 (by decide)) ?_
      refine wp_iadd (nx := 222) dL_law_221 rfl ?_
      obtain ⟨hi, h⟩ := h
      refine wp_sload (nx := 223) dL_law_222 rfl hi ?_
      refine wp_invV (nx := 226) (N := M_X10_house) (as := [cI (S.2.2.2.2.2 (w32 (l3 + 1))), cI (S.2.2.2.2.2 (w32 (l3 + 2)))]) (st := []) (mc := 0) (ms := 0) (mc' := mc) (ms' := ms) (a := 0) clsX10 dL_law_223 rfl mok_X10_house kM_L_13 ki_X10_house ke_X10_house (fo_0 F) (ft_0 F) rfl rfl (leB rfl) (leB rfl) (z0 _) (z0 _) (Wp.mono h ?_)
      intro r1 Sq C2 h
      obtain ⟨e9, h⟩ := h
      rw [e9]
      show Wp (d + 1) mc ms M_L_law 226 [cA ((-3)), cA 0, cA 81, cI l3] [cI r1] S C2 Q
      refine wp_aload_n (nx := 227) dL_law_226 rfl rfl ?_
      refine wp_aload_n (nx := 228) dL_law_227 rfl rfl ?_
      refine wp_iload_n (nx := 229) dL_law_228 rfl rfl ?_
      refine wp_iconst (nx := 230) dL_law_229 rfl (i32 (by decide)) ?_
      refine wp_iadd (nx := 231) dL_law_230 rfl ?_
      obtain ⟨hi, h⟩ := h
      refine wp_sload (nx := 232) dL_law_231 rfl hi ?_
      refine wp_aload_n (nx := 233) dL_law_232 rfl rfl ?_
      refine wp_iload_n (nx := 234) dL_law_233 rfl rfl ?_
      refine wp_iconst (nx := 235) dL_law_234 rfl (i32 (by decide)) ?_
      refine wp_iadd (nx := 236) dL_law_235 rfl ?_
      obtain ⟨hi, h⟩ := h
      refine wp_sload (nx := 237) dL_law_236 rfl hi ?_
      refine wp_invV (nx := 240) (N := M_X11_house) (as := [cI (S.2.2.2.2.2 (w32 (l3 + 1))), cI (S.2.2.2.2.2 (w32 (l3 + 2)))]) (st := [cI r1]) (mc := 0) (ms := 0) (mc' := mc) (ms' := ms) (a := 81) clsX11 dL_law_237 rfl mok_X11_house kM_L_17 ki_X11_house ke_X11_house (fo_81 F) (ft_81 F) rfl rfl (leB rfl) (leB rfl) (z0 _) (z0 _) (Wp.mono h ?_)
      intro r3 Sq C4 h
      obtain ⟨e9, h⟩ := h
      rw [e9]
      show Wp (d + 1) mc ms M_L_law 240 [cA ((-3)), cA 0, cA 81, cI l3] [cI r3, cI r1] S C4 Q
      refine wp_icmp_eq (nx := 243) (tg := 1226) dL_law_240 rfl rfl (fun hc => ?_) (fun hc => ?_)
      · have h := h.1 hc
        refine wp_iinc (nx := 1229) dL_law_1226 rfl rfl (by decide) ?_
        refine wp_ls (ls2 := [cA ((-3)), cA 0, cA 81, cI (w32 (l3 + 6))]) rfl ?_
        refine wp_goto (nx := 18) dL_law_1229 rfl ?_
        exact h
      · have h := h.2 hc
        refine wp_iconst (nx := 244) dL_law_243 rfl (i32 (by decide)) ?_
        exact wp_ireturn dL_law_244 rfl rfl (nz_of (Or.inl rfl)) h
    · have h := h.2.2.1 hc
      refine wp_tableIn (tg := 245) (off := 212) dL_law_33 (by omega) (by omega) (by rw [show (iAnd (S.2.2.2.2.2 l3) 63 - 0).toNat = 1 by omega]; rfl) rfl ?_
      refine Wp.deep (d := d + 1) (mc := mc) (ms := ms) ?_ (Nat.le_refl _) (by omega) (by omega)
      refine wp_aload_n (nx := 246) dL_law_245 rfl rfl ?_
      refine wp_aload_n (nx := 247) dL_law_246 rfl rfl ?_
      refine wp_iload_n (nx := 248) dL_law_247 rfl rfl ?_
      refine wp_iconst (nx := 249) dL_law_248 rfl (i32 (by decide)) ?_
      refine wp_iadd (nx := 250) dL_law_249 rfl ?_
      obtain ⟨hi, h⟩ := h
      refine wp_sload (nx := 251) dL_law_250 rfl hi ?_
      refine wp_aload_n (nx := 252) dL_law_251 rfl rfl ?_
      refine wp_iload_n (nx := 253) dL_law_252 rfl rfl ?_
      refine wp_iconst (nx := 254) dL_law_253 rfl (i32 (by decide)) ?_
      refine wp_iadd (nx := 255) dL_law_254 rfl ?_
      obtain ⟨hi, h⟩ := h
      refine wp_sload (nx := 256) dL_law_255 rfl hi ?_
      refine wp_invV (nx := 259) (N := M_X10_of) (as := [cI (S.2.2.2.2.2 (w32 (l3 + 1))), cI (S.2.2.2.2.2 (w32 (l3 + 2)))]) (st := []) (mc := 0) (ms := 0) (mc' := mc) (ms' := ms) (a := 0) clsX10 dL_law_256 rfl mok_X10_of kM_L_18 ki_X10_of ke_X10_of (fo_0 F) (ft_0 F) rfl rfl (leB rfl) (leB rfl) (z0 _) (z0 _) (Wp.mono h ?_)
      intro r5 Sq C6 h
      obtain ⟨e9, h⟩ := h
      rw [e9]
      show Wp (d + 1) mc ms M_L_law 259 [cA ((-3)), cA 0, cA 81, cI l3] [cI r5] S C6 Q
      refine wp_aload_n (nx := 260) dL_law_259 rfl rfl ?_
      refine wp_aload_n (nx := 261) dL_law_260 rfl rfl ?_
      refine wp_iload_n (nx := 262) dL_law_261 rfl rfl ?_
      refine wp_iconst (nx := 263) dL_law_262 rfl (i32 (by decide)) ?_
      refine wp_iadd (nx := 264) dL_law_263 rfl ?_
      obtain ⟨hi, h⟩ := h
      refine wp_sload (nx := 265) dL_law_264 rfl hi ?_
      refine wp_aload_n (nx := 266) dL_law_265 rfl rfl ?_
      refine wp_iload_n (nx := 267) dL_law_266 rfl rfl ?_
      refine wp_iconst (nx := 268) dL_law_267 rfl (i32 (by decide)) ?_
      refine wp_iadd (nx := 269) dL_law_268 rfl ?_
      obtain ⟨hi, h⟩ := h
      refine wp_sload (nx := 270) dL_law_269 rfl hi ?_
      refine wp_invV (nx := 273) (N := M_X11_of) (as := [cI (S.2.2.2.2.2 (w32 (l3 + 1))), cI (S.2.2.2.2.2 (w32 (l3 + 2)))]) (st := [cI r5]) (mc := 0) (ms := 0) (mc' := mc) (ms' := ms) (a := 81) clsX11 dL_law_270 rfl mok_X11_of kM_L_21 ki_X11_of ke_X11_of (fo_81 F) (ft_81 F) rfl rfl (leB rfl) (leB rfl) (z0 _) (z0 _) (Wp.mono h ?_)
      intro r7 Sq C8 h
      obtain ⟨e9, h⟩ := h
      rw [e9]
      show Wp (d + 1) mc ms M_L_law 273 [cA ((-3)), cA 0, cA 81, cI l3] [cI r7, cI r5] S C8 Q
      refine wp_icmp_eq (nx := 276) (tg := 1226) dL_law_273 rfl rfl (fun hc => ?_) (fun hc => ?_)
      · have h := h.1 hc
        refine wp_iinc (nx := 1229) dL_law_1226 rfl rfl (by decide) ?_
        refine wp_ls (ls2 := [cA ((-3)), cA 0, cA 81, cI (w32 (l3 + 6))]) rfl ?_
        refine wp_goto (nx := 18) dL_law_1229 rfl ?_
        exact h
      · have h := h.2 hc
        refine wp_iconst (nx := 277) dL_law_276 rfl (i32 (by decide)) ?_
        exact wp_ireturn dL_law_277 rfl rfl (nz_of (Or.inl rfl)) h
    · have h := h.2.2.2.1 hc
      refine wp_tableIn (tg := 278) (off := 245) dL_law_33 (by omega) (by omega) (by rw [show (iAnd (S.2.2.2.2.2 l3) 63 - 0).toNat = 2 by omega]; rfl) rfl ?_
      refine Wp.deep (d := d + 1) (mc := mc) (ms := ms) ?_ (Nat.le_refl _) (by omega) (by omega)
      refine wp_aload_n (nx := 279) dL_law_278 rfl rfl ?_
      refine wp_aload_n (nx := 280) dL_law_279 rfl rfl ?_
      refine wp_iload_n (nx := 281) dL_law_280 rfl rfl ?_
      refine wp_iconst (nx := 282) dL_law_281 rfl (i32 (by decide)) ?_
      refine wp_iadd (nx := 283) dL_law_282 rfl ?_
      obtain ⟨hi, h⟩ := h
      refine wp_sload (nx := 284) dL_law_283 rfl hi ?_
      refine wp_invV (nx := 287) (N := M_X10_owner) (as := [cI (S.2.2.2.2.2 (w32 (l3 + 1)))]) (st := []) (mc := 0) (ms := 0) (mc' := mc) (ms' := ms) (a := 0) clsX10 dL_law_284 rfl mok_X10_owner kM_L_22 ki_X10_owner ke_X10_owner (fo_0 F) (ft_0 F) rfl rfl (leB rfl) (leB rfl) (z0 _) (z0 _) (Wp.mono h ?_)
      intro r9 Sq C10 h
      obtain ⟨e9, h⟩ := h
      rw [e9]
      show Wp (d + 1) mc ms M_L_law 287 [cA ((-3)), cA 0, cA 81, cI l3] [cI r9] S C10 Q
      refine wp_aload_n (nx := 288) dL_law_287 rfl rfl ?_
      refine wp_aload_n (nx := 289) dL_law_288 rfl rfl ?_
      refine wp_iload_n (nx := 290) dL_law_289 rfl rfl ?_
      refine wp_iconst (nx := 291) dL_law_290 rfl (i32 (by decide)) ?_
      refine wp_iadd (nx := 292) dL_law_291 rfl ?_
      obtain ⟨hi, h⟩ := h
      refine wp_sload (nx := 293) dL_law_292 rfl hi ?_
      refine wp_invV (nx := 296) (N := M_X11_owner) (as := [cI (S.2.2.2.2.2 (w32 (l3 + 1)))]) (st := [cI r9]) (mc := 0) (ms := 0) (mc' := mc) (ms' := ms) (a := 81) clsX11 dL_law_293 rfl mok_X11_owner kM_L_26 ki_X11_owner ke_X11_owner (fo_81 F) (ft_81 F) rfl rfl (leB rfl) (leB rfl) (z0 _) (z0 _) (Wp.mono h ?_)
      intro r11 Sq C12 h
      obtain ⟨e9, h⟩ := h
      rw [e9]
      show Wp (d + 1) mc ms M_L_law 296 [cA ((-3)), cA 0, cA 81, cI l3] [cI r11, cI r9] S C12 Q
      refine wp_icmp_eq (nx := 299) (tg := 1226) dL_law_296 rfl rfl (fun hc => ?_) (fun hc => ?_)
      · have h := h.1 hc
        refine wp_iinc (nx := 1229) dL_law_1226 rfl rfl (by decide) ?_
        refine wp_ls (ls2 := [cA ((-3)), cA 0, cA 81, cI (w32 (l3 + 6))]) rfl ?_
        refine wp_goto (nx := 18) dL_law_1229 rfl ?_
        exact h
      · have h := h.2 hc
        refine wp_iconst (nx := 300) dL_law_299 rfl (i32 (by decide)) ?_
        exact wp_ireturn dL_law_300 rfl rfl (nz_of (Or.inl rfl)) h
    · have h := h.2.2.2.2.1 hc
      refine wp_tableIn (tg := 301) (off := 268) dL_law_33 (by omega) (by omega) (by rw [show (iAnd (S.2.2.2.2.2 l3) 63 - 0).toNat = 3 by omega]; rfl) rfl ?_
      refine Wp.deep (d := d + 1) (mc := mc) (ms := ms) ?_ (Nat.le_refl _) (by omega) (by omega)
      refine wp_aload_n (nx := 302) dL_law_301 rfl rfl ?_
      refine wp_aload_n (nx := 303) dL_law_302 rfl rfl ?_
      refine wp_iload_n (nx := 304) dL_law_303 rfl rfl ?_
      refine wp_iconst (nx := 305) dL_law_304 rfl (i32 (by decide)) ?_
      refine wp_iadd (nx := 306) dL_law_305 rfl ?_
      obtain ⟨hi, h⟩ := h
      refine wp_sload (nx := 307) dL_law_306 rfl hi ?_
      refine wp_invV (nx := 310) (N := M_X10_music) (as := [cI (S.2.2.2.2.2 (w32 (l3 + 1)))]) (st := []) (mc := 0) (ms := 0) (mc' := mc) (ms' := ms) (a := 0) clsX10 dL_law_307 rfl mok_X10_music kM_L_27 ki_X10_music ke_X10_music (fo_0 F) (ft_0 F) rfl rfl (leB rfl) (leB rfl) (z0 _) (z0 _) (Wp.mono h ?_)
      intro r13 Sq C14 h
      obtain ⟨e9, h⟩ := h
      rw [e9]
      show Wp (d + 1) mc ms M_L_law 310 [cA ((-3)), cA 0, cA 81, cI l3] [cI r13] S C14 Q
      refine wp_aload_n (nx := 311) dL_law_310 rfl rfl ?_
      refine wp_aload_n (nx := 312) dL_law_311 rfl rfl ?_
      refine wp_iload_n (nx := 313) dL_law_312 rfl rfl ?_
      refine wp_iconst (nx := 314) dL_law_313 rfl (i32 (by decide)) ?_
      refine wp_iadd (nx := 315) dL_law_314 rfl ?_
      obtain ⟨hi, h⟩ := h
      refine wp_sload (nx := 316) dL_law_315 rfl hi ?_
      refine wp_invV (nx := 319) (N := M_X11_music) (as := [cI (S.2.2.2.2.2 (w32 (l3 + 1)))]) (st := [cI r13]) (mc := 0) (ms := 0) (mc' := mc) (ms' := ms) (a := 81) clsX11 dL_law_316 rfl mok_X11_music kM_L_30 ki_X11_music ke_X11_music (fo_81 F) (ft_81 F) rfl rfl (leB rfl) (leB rfl) (z0 _) (z0 _) (Wp.mono h ?_)
      intro r15 Sq C16 h
      obtain ⟨e9, h⟩ := h
      rw [e9]
      show Wp (d + 1) mc ms M_L_law 319 [cA ((-3)), cA 0, cA 81, cI l3] [cI r15, cI r13] S C16 Q
      refine wp_icmp_eq (nx := 322) (tg := 1226) dL_law_319 rfl rfl (fun hc => ?_) (fun hc => ?_)
      · have h := h.1 hc
        refine wp_iinc (nx := 1229) dL_law_1226 rfl rfl (by decide) ?_
        refine wp_ls (ls2 := [cA ((-3)), cA 0, cA 81, cI (w32 (l3 + 6))]) rfl ?_
        refine wp_goto (nx := 18) dL_law_1229 rfl ?_
        exact h
      · have h := h.2 hc
        refine wp_iconst (nx := 323) dL_law_322 rfl (i32 (by decide)) ?_
        exact wp_ireturn dL_law_323 rfl rfl (nz_of (Or.inl rfl)) h
    · have h := h.2.2.2.2.2.1 hc
      refine wp_tableIn (tg := 324) (off := 291) dL_law_33 (by omega) (by omega) (by rw [show (iAnd (S.2.2.2.2.2 l3) 63 - 0).toNat = 4 by omega]; rfl) rfl ?_
      refine Wp.deep (d := d + 1) (mc := mc) (ms := ms) ?_ (Nat.le_refl _) (by omega) (by omega)
      refine wp_aload_n (nx := 325) dL_law_324 rfl rfl ?_
      refine wp_aload_n (nx := 326) dL_law_325 rfl rfl ?_
      refine wp_iload_n (nx := 327) dL_law_326 rfl rfl ?_
      refine wp_iconst (nx := 328) dL_law_327 rfl (i32 (by decide)) ?_
      refine wp_iadd (nx := 329) dL_law_328 rfl ?_
      obtain ⟨hi, h⟩ := h
      refine wp_sload (nx := 330) dL_law_329 rfl hi ?_
      refine wp_aload_n (nx := 331) dL_law_330 rfl rfl ?_
      refine wp_iload_n (nx := 332) dL_law_331 rfl rfl ?_
      refine wp_iconst (nx := 333) dL_law_332 rfl (i32 (by decide)) ?_
      refine wp_iadd (nx := 334) dL_law_333 rfl ?_
      obtain ⟨hi, h⟩ := h
      refine wp_sload (nx := 335) dL_law_334 rfl hi ?_
      refine wp_aload_n (nx := 336) dL_law_335 rfl rfl ?_
      refine wp_iload_n (nx := 337) dL_law_336 rfl rfl ?_
      refine wp_iconst (nx := 338) dL_law_337 rfl (i32 (by decide)) ?_
      refine wp_iadd (nx := 339) dL_law_338 rfl ?_
      obtain ⟨hi, h⟩ := h
      refine wp_sload (nx := 340) dL_law_339 rfl hi ?_
      refine wp_aload_n (nx := 341) dL_law_340 rfl rfl ?_
      refine wp_iload_n (nx := 342) dL_law_341 rfl rfl ?_
      refine wp_iconst (nx := 343) dL_law_342 rfl (i32 (by decide)) ?_
      refine wp_iadd (nx := 344) dL_law_343 rfl ?_
      obtain ⟨hi, h⟩ := h
      refine wp_sload (nx := 345) dL_law_344 rfl hi ?_
      refine wp_invV (nx := 348) (N := M_X10_asks) (as := [cI (S.2.2.2.2.2 (w32 (l3 + 1))), cI (S.2.2.2.2.2 (w32 (l3 + 2))), cI (S.2.2.2.2.2 (w32 (l3 + 3))), cI (S.2.2.2.2.2 (w32 (l3 + 4)))]) (st := []) (mc := 0) (ms := 0) (mc' := mc) (ms' := ms) (a := 0) clsX10 dL_law_345 rfl mok_X10_asks kM_L_31 ki_X10_asks ke_X10_asks (fo_0 F) (ft_0 F) rfl rfl (leB rfl) (leB rfl) (z0 _) (z0 _) (Wp.mono h ?_)
      intro r17 Sq C18 h
      obtain ⟨e9, h⟩ := h
      rw [e9]
      show Wp (d + 1) mc ms M_L_law 348 [cA ((-3)), cA 0, cA 81, cI l3] [cI r17] S C18 Q
      refine wp_aload_n (nx := 349) dL_law_348 rfl rfl ?_
      refine wp_aload_n (nx := 350) dL_law_349 rfl rfl ?_
      refine wp_iload_n (nx := 351) dL_law_350 rfl rfl ?_
      refine wp_iconst (nx := 352) dL_law_351 rfl (i32 (by decide)) ?_
      refine wp_iadd (nx := 353) dL_law_352 rfl ?_
      obtain ⟨hi, h⟩ := h
      refine wp_sload (nx := 354) dL_law_353 rfl hi ?_
      refine wp_aload_n (nx := 355) dL_law_354 rfl rfl ?_
      refine wp_iload_n (nx := 356) dL_law_355 rfl rfl ?_
      refine wp_iconst (nx := 357) dL_law_356 rfl (i32 (by decide)) ?_
      refine wp_iadd (nx := 358) dL_law_357 rfl ?_
      obtain ⟨hi, h⟩ := h
      refine wp_sload (nx := 359) dL_law_358 rfl hi ?_
      refine wp_aload_n (nx := 360) dL_law_359 rfl rfl ?_
      refine wp_iload_n (nx := 361) dL_law_360 rfl rfl ?_
      refine wp_iconst (nx := 362) dL_law_361 rfl (i32 (by decide)) ?_
      refine wp_iadd (nx := 363) dL_law_362 rfl ?_
      obtain ⟨hi, h⟩ := h
      refine wp_sload (nx := 364) dL_law_363 rfl hi ?_
      refine wp_aload_n (nx := 365) dL_law_364 rfl rfl ?_
      refine wp_iload_n (nx := 366) dL_law_365 rfl rfl ?_
      refine wp_iconst (nx := 367) dL_law_366 rfl (i32 (by decide)) ?_
      refine wp_iadd (nx := 368) dL_law_367 rfl ?_
      obtain ⟨hi, h⟩ := h
      refine wp_sload (nx := 369) dL_law_368 rfl hi ?_
      refine wp_invV (nx := 372) (N := M_X11_asks) (as := [cI (S.2.2.2.2.2 (w32 (l3 + 1))), cI (S.2.2.2.2.2 (w32 (l3 + 2))), cI (S.2.2.2.2.2 (w32 (l3 + 3))), cI (S.2.2.2.2.2 (w32 (l3 + 4)))]) (st := [cI r17]) (mc := 0) (ms := 0) (mc' := mc) (ms' := ms) (a := 81) clsX11 dL_law_369 rfl mok_X11_asks kM_L_35 ki_X11_asks ke_X11_asks (fo_81 F) (ft_81 F) rfl rfl (leB rfl) (leB rfl) (z0 _) (z0 _) (Wp.mono h ?_)
      intro r19 Sq C20 h
      obtain ⟨e9, h⟩ := h
      rw [e9]
      show Wp (d + 1) mc ms M_L_law 372 [cA ((-3)), cA 0, cA 81, cI l3] [cI r19, cI r17] S C20 Q
      refine wp_icmp_eq (nx := 375) (tg := 1226) dL_law_372 rfl rfl (fun hc => ?_) (fun hc => ?_)
      · have h := h.1 hc
        refine wp_iinc (nx := 1229) dL_law_1226 rfl rfl (by decide) ?_
        refine wp_ls (ls2 := [cA ((-3)), cA 0, cA 81, cI (w32 (l3 + 6))]) rfl ?_
        refine wp_goto (nx := 18) dL_law_1229 rfl ?_
        exact h
      · have h := h.2 hc
        refine wp_iconst (nx := 376) dL_law_375 rfl (i32 (by decide)) ?_
        exact wp_ireturn dL_law_376 rfl rfl (nz_of (Or.inl rfl)) h
    · have h := h.2.2.2.2.2.2.1 hc
      refine wp_tableIn (tg := 377) (off := 344) dL_law_33 (by omega) (by omega) (by rw [show (iAnd (S.2.2.2.2.2 l3) 63 - 0).toNat = 5 by omega]; rfl) rfl ?_
      refine Wp.deep (d := d + 1) (mc := mc) (ms := ms) ?_ (Nat.le_refl _) (by omega) (by omega)
      refine wp_aload_n (nx := 378) dL_law_377 rfl rfl ?_
      refine wp_aload_n (nx := 379) dL_law_378 rfl rfl ?_
      refine wp_iload_n (nx := 380) dL_law_379 rfl rfl ?_
      refine wp_iconst (nx := 381) dL_law_380 rfl (i32 (by decide)) ?_
      refine wp_iadd (nx := 382) dL_law_381 rfl ?_
      obtain ⟨hi, h⟩ := h
      refine wp_sload (nx := 383) dL_law_382 rfl hi ?_
      refine wp_aload_n (nx := 384) dL_law_383 rfl rfl ?_
      refine wp_iload_n (nx := 385) dL_law_384 rfl rfl ?_
      refine wp_iconst (nx := 386) dL_law_385 rfl (i32 (by decide)) ?_
      refine wp_iadd (nx := 387) dL_law_386 rfl ?_
      obtain ⟨hi, h⟩ := h
      refine wp_sload (nx := 388) dL_law_387 rfl hi ?_
      refine wp_invV (nx := 391) (N := M_X10_terms) (as := [cI (S.2.2.2.2.2 (w32 (l3 + 1))), cI (S.2.2.2.2.2 (w32 (l3 + 2)))]) (st := []) (mc := 0) (ms := 0) (mc' := mc) (ms' := ms) (a := 0) clsX10 dL_law_388 rfl mok_X10_terms kM_L_36 ki_X10_terms ke_X10_terms (fo_0 F) (ft_0 F) rfl rfl (leB rfl) (leB rfl) (z0 _) (z0 _) (Wp.mono h ?_)
      intro r21 Sq C22 h
      obtain ⟨e9, h⟩ := h
      rw [e9]
      show Wp (d + 1) mc ms M_L_law 391 [cA ((-3)), cA 0, cA 81, cI l3] [cI r21] S C22 Q
      refine wp_aload_n (nx := 392) dL_law_391 rfl rfl ?_
      refine wp_aload_n (nx := 393) dL_law_392 rfl rfl ?_
      refine wp_iload_n (nx := 394) dL_law_393 rfl rfl ?_
      refine wp_iconst (nx := 395) dL_law_394 rfl (i32 (by decide)) ?_
      refine wp_iadd (nx := 396) dL_law_395 rfl ?_
      obtain ⟨hi, h⟩ := h
      refine wp_sload (nx := 397) dL_law_396 rfl hi ?_
      refine wp_aload_n (nx := 398) dL_law_397 rfl rfl ?_
      refine wp_iload_n (nx := 399) dL_law_398 rfl rfl ?_
      refine wp_iconst (nx := 400) dL_law_399 rfl (i32 (by decide)) ?_
      refine wp_iadd (nx := 401) dL_law_400 rfl ?_
      obtain ⟨hi, h⟩ := h
      refine wp_sload (nx := 402) dL_law_401 rfl hi ?_
      refine wp_invV (nx := 405) (N := M_X11_terms) (as := [cI (S.2.2.2.2.2 (w32 (l3 + 1))), cI (S.2.2.2.2.2 (w32 (l3 + 2)))]) (st := [cI r21]) (mc := 0) (ms := 0) (mc' := mc) (ms' := ms) (a := 81) clsX11 dL_law_402 rfl mok_X11_terms kM_L_39 ki_X11_terms ke_X11_terms (fo_81 F) (ft_81 F) rfl rfl (leB rfl) (leB rfl) (z0 _) (z0 _) (Wp.mono h ?_)
      intro r23 Sq C24 h
      obtain ⟨e9, h⟩ := h
      rw [e9]
      show Wp (d + 1) mc ms M_L_law 405 [cA ((-3)), cA 0, cA 81, cI l3] [cI r23, cI r21] S C24 Q
      refine wp_icmp_eq (nx := 408) (tg := 1226) dL_law_405 rfl rfl (fun hc => ?_) (fun hc => ?_)
      · have h := h.1 hc
        refine wp_iinc (nx := 1229) dL_law_1226 rfl rfl (by decide) ?_
        refine wp_ls (ls2 := [cA ((-3)), cA 0, cA 81, cI (w32 (l3 + 6))]) rfl ?_
        refine wp_goto (nx := 18) dL_law_1229 rfl ?_
        exact h
      · have h := h.2 hc
        refine wp_iconst (nx := 409) dL_law_408 rfl (i32 (by decide)) ?_
        exact wp_ireturn dL_law_409 rfl rfl (nz_of (Or.inl rfl)) h
    · have h := h.2.2.2.2.2.2.2.1 hc
      refine wp_tableIn (tg := 410) (off := 377) dL_law_33 (by omega) (by omega) (by rw [show (iAnd (S.2.2.2.2.2 l3) 63 - 0).toNat = 6 by omega]; rfl) rfl ?_
      refine Wp.deep (d := d + 1) (mc := mc) (ms := ms) ?_ (Nat.le_refl _) (by omega) (by omega)
      refine wp_aload_n (nx := 411) dL_law_410 rfl rfl ?_
      refine wp_aload_n (nx := 412) dL_law_411 rfl rfl ?_
      refine wp_iload_n (nx := 413) dL_law_412 rfl rfl ?_
      refine wp_iconst (nx := 414) dL_law_413 rfl (i32 (by decide)) ?_
      refine wp_iadd (nx := 415) dL_law_414 rfl ?_
      obtain ⟨hi, h⟩ := h
      refine wp_sload (nx := 416) dL_law_415 rfl hi ?_
      refine wp_aload_n (nx := 417) dL_law_416 rfl rfl ?_
      refine wp_iload_n (nx := 418) dL_law_417 rfl rfl ?_
      refine wp_iconst (nx := 419) dL_law_418 rfl (i32 (by decide)) ?_
      refine wp_iadd (nx := 420) dL_law_419 rfl ?_
      obtain ⟨hi, h⟩ := h
      refine wp_sload (nx := 421) dL_law_420 rfl hi ?_
      refine wp_aload_n (nx := 422) dL_law_421 rfl rfl ?_
      refine wp_iload_n (nx := 423) dL_law_422 rfl rfl ?_
      refine wp_iconst (nx := 424) dL_law_423 rfl (i32 (by decide)) ?_
      refine wp_iadd (nx := 425) dL_law_424 rfl ?_
      obtain ⟨hi, h⟩ := h
      refine wp_sload (nx := 426) dL_law_425 rfl hi ?_
      refine wp_aload_n (nx := 427) dL_law_426 rfl rfl ?_
      refine wp_iload_n (nx := 428) dL_law_427 rfl rfl ?_
      refine wp_iconst (nx := 429) dL_law_428 rfl (i32 (by decide)) ?_
      refine wp_iadd (nx := 430) dL_law_429 rfl ?_
      obtain ⟨hi, h⟩ := h
      refine wp_sload (nx := 431) dL_law_430 rfl hi ?_
      refine wp_aload_n (nx := 432) dL_law_431 rfl rfl ?_
      refine wp_iload_n (nx := 433) dL_law_432 rfl rfl ?_
      refine wp_iconst (nx := 434) dL_law_433 rfl (i32 (by decide)) ?_
      refine wp_iadd (nx := 435) dL_law_434 rfl ?_
      obtain ⟨hi, h⟩ := h
      refine wp_sload (nx := 436) dL_law_435 rfl hi ?_
      refine wp_invV (nx := 439) (N := M_X10_feed) (as := [cI (S.2.2.2.2.2 (w32 (l3 + 1))), cI (S.2.2.2.2.2 (w32 (l3 + 2))), cI (S.2.2.2.2.2 (w32 (l3 + 3))), cI (S.2.2.2.2.2 (w32 (l3 + 4))), cI (S.2.2.2.2.2 (w32 (l3 + 5)))]) (st := []) (mc := 0) (ms := 0) (mc' := mc) (ms' := ms) (a := 0) clsX10 dL_law_436 rfl mok_X10_feed kM_L_40 ki_X10_feed ke_X10_feed (fo_0 F) (ft_0 F) rfl rfl (leB rfl) (leB rfl) (z0 _) (z0 _) (Wp.mono h ?_)
      intro r25 Sq C26 h
      obtain ⟨e9, h⟩ := h
      rw [e9]
      show Wp (d + 1) mc ms M_L_law 439 [cA ((-3)), cA 0, cA 81, cI l3] [cI r25] S C26 Q
      refine wp_aload_n (nx := 440) dL_law_439 rfl rfl ?_
      refine wp_aload_n (nx := 441) dL_law_440 rfl rfl ?_
      refine wp_iload_n (nx := 442) dL_law_441 rfl rfl ?_
      refine wp_iconst (nx := 443) dL_law_442 rfl (i32 (by decide)) ?_
      refine wp_iadd (nx := 444) dL_law_443 rfl ?_
      obtain ⟨hi, h⟩ := h
      refine wp_sload (nx := 445) dL_law_444 rfl hi ?_
      refine wp_aload_n (nx := 446) dL_law_445 rfl rfl ?_
      refine wp_iload_n (nx := 447) dL_law_446 rfl rfl ?_
      refine wp_iconst (nx := 448) dL_law_447 rfl (i32 (by decide)) ?_
      refine wp_iadd (nx := 449) dL_law_448 rfl ?_
      obtain ⟨hi, h⟩ := h
      refine wp_sload (nx := 450) dL_law_449 rfl hi ?_
      refine wp_aload_n (nx := 451) dL_law_450 rfl rfl ?_
      refine wp_iload_n (nx := 452) dL_law_451 rfl rfl ?_
      refine wp_iconst (nx := 453) dL_law_452 rfl (i32 (by decide)) ?_
      refine wp_iadd (nx := 454) dL_law_453 rfl ?_
      obtain ⟨hi, h⟩ := h
      refine wp_sload (nx := 455) dL_law_454 rfl hi ?_
      refine wp_aload_n (nx := 456) dL_law_455 rfl rfl ?_
      refine wp_iload_n (nx := 457) dL_law_456 rfl rfl ?_
      refine wp_iconst (nx := 458) dL_law_457 rfl (i32 (by decide)) ?_
      refine wp_iadd (nx := 459) dL_law_458 rfl ?_
      obtain ⟨hi, h⟩ := h
      refine wp_sload (nx := 460) dL_law_459 rfl hi ?_
      refine wp_aload_n (nx := 461) dL_law_460 rfl rfl ?_
      refine wp_iload_n (nx := 462) dL_law_461 rfl rfl ?_
      refine wp_iconst (nx := 463) dL_law_462 rfl (i32 (by decide)) ?_
      refine wp_iadd (nx := 464) dL_law_463 rfl ?_
      obtain ⟨hi, h⟩ := h
      refine wp_sload (nx := 465) dL_law_464 rfl hi ?_
      refine wp_invV (nx := 468) (N := M_X11_feed) (as := [cI (S.2.2.2.2.2 (w32 (l3 + 1))), cI (S.2.2.2.2.2 (w32 (l3 + 2))), cI (S.2.2.2.2.2 (w32 (l3 + 3))), cI (S.2.2.2.2.2 (w32 (l3 + 4))), cI (S.2.2.2.2.2 (w32 (l3 + 5)))]) (st := [cI r25]) (mc := 0) (ms := 0) (mc' := mc) (ms' := ms) (a := 81) clsX11 dL_law_465 rfl mok_X11_feed kM_L_44 ki_X11_feed ke_X11_feed (fo_81 F) (ft_81 F) rfl rfl (leB rfl) (leB rfl) (z0 _) (z0 _) (Wp.mono h ?_)
      intro r27 Sq C28 h
      obtain ⟨e9, h⟩ := h
      rw [e9]
      show Wp (d + 1) mc ms M_L_law 468 [cA ((-3)), cA 0, cA 81, cI l3] [cI r27, cI r25] S C28 Q
      refine wp_icmp_eq (nx := 471) (tg := 1226) dL_law_468 rfl rfl (fun hc => ?_) (fun hc => ?_)
      · have h := h.1 hc
        refine wp_iinc (nx := 1229) dL_law_1226 rfl rfl (by decide) ?_
        refine wp_ls (ls2 := [cA ((-3)), cA 0, cA 81, cI (w32 (l3 + 6))]) rfl ?_
        refine wp_goto (nx := 18) dL_law_1229 rfl ?_
        exact h
      · have h := h.2 hc
        refine wp_iconst (nx := 472) dL_law_471 rfl (i32 (by decide)) ?_
        exact wp_ireturn dL_law_472 rfl rfl (nz_of (Or.inl rfl)) h
    · have h := h.2.2.2.2.2.2.2.2.1 hc
      refine wp_tableIn (tg := 473) (off := 440) dL_law_33 (by omega) (by omega) (by rw [show (iAnd (S.2.2.2.2.2 l3) 63 - 0).toNat = 7 by omega]; rfl) rfl ?_
      refine Wp.deep (d := d + 1) (mc := mc) (ms := ms) ?_ (Nat.le_refl _) (by omega) (by omega)
      refine wp_aload_n (nx := 474) dL_law_473 rfl rfl ?_
      refine wp_aload_n (nx := 475) dL_law_474 rfl rfl ?_
      refine wp_iload_n (nx := 476) dL_law_475 rfl rfl ?_
      refine wp_iconst (nx := 477) dL_law_476 rfl (i32 (by decide)) ?_
      refine wp_iadd (nx := 478) dL_law_477 rfl ?_
      obtain ⟨hi, h⟩ := h
      refine wp_sload (nx := 479) dL_law_478 rfl hi ?_
      refine wp_invV (nx := 482) (N := M_X10_end) (as := [cI (S.2.2.2.2.2 (w32 (l3 + 1)))]) (st := []) (mc := 0) (ms := 0) (mc' := mc) (ms' := ms) (a := 0) clsX10 dL_law_479 rfl mok_X10_end kM_L_45 ki_X10_end ke_X10_end (fo_0 F) (ft_0 F) rfl rfl (leB rfl) (leB rfl) (z0 _) (z0 _) (Wp.mono h ?_)
      intro r29 Sq C30 h
      obtain ⟨e9, h⟩ := h
      rw [e9]
      show Wp (d + 1) mc ms M_L_law 482 [cA ((-3)), cA 0, cA 81, cI l3] [cI r29] S C30 Q
      refine wp_aload_n (nx := 483) dL_law_482 rfl rfl ?_
      refine wp_aload_n (nx := 484) dL_law_483 rfl rfl ?_
      refine wp_iload_n (nx := 485) dL_law_484 rfl rfl ?_
      refine wp_iconst (nx := 486) dL_law_485 rfl (i32 (by decide)) ?_
      refine wp_iadd (nx := 487) dL_law_486 rfl ?_
      obtain ⟨hi, h⟩ := h
      refine wp_sload (nx := 488) dL_law_487 rfl hi ?_
      refine wp_invV (nx := 491) (N := M_X11_end) (as := [cI (S.2.2.2.2.2 (w32 (l3 + 1)))]) (st := [cI r29]) (mc := 0) (ms := 0) (mc' := mc) (ms' := ms) (a := 81) clsX11 dL_law_488 rfl mok_X11_end kM_L_48 ki_X11_end ke_X11_end (fo_81 F) (ft_81 F) rfl rfl (leB rfl) (leB rfl) (z0 _) (z0 _) (Wp.mono h ?_)
      intro r31 Sq C32 h
      obtain ⟨e9, h⟩ := h
      rw [e9]
      show Wp (d + 1) mc ms M_L_law 491 [cA ((-3)), cA 0, cA 81, cI l3] [cI r31, cI r29] S C32 Q
      refine wp_icmp_eq (nx := 494) (tg := 1226) dL_law_491 rfl rfl (fun hc => ?_) (fun hc => ?_)
      · have h := h.1 hc
        refine wp_iinc (nx := 1229) dL_law_1226 rfl rfl (by decide) ?_
        refine wp_ls (ls2 := [cA ((-3)), cA 0, cA 81, cI (w32 (l3 + 6))]) rfl ?_
        refine wp_goto (nx := 18) dL_law_1229 rfl ?_
        exact h
      · have h := h.2 hc
        refine wp_iconst (nx := 495) dL_law_494 rfl (i32 (by decide)) ?_
        exact wp_ireturn dL_law_495 rfl rfl (nz_of (Or.inl rfl)) h
    · have h := h.2.2.2.2.2.2.2.2.2.1 hc
      refine wp_tableIn (tg := 496) (off := 463) dL_law_33 (by omega) (by omega) (by rw [show (iAnd (S.2.2.2.2.2 l3) 63 - 0).toNat = 8 by omega]; rfl) rfl ?_
      refine Wp.deep (d := d + 1) (mc := mc) (ms := ms) ?_ (Nat.le_refl _) (by omega) (by omega)
      refine wp_aload_n (nx := 497) dL_law_496 rfl rfl ?_
      refine wp_invV (nx := 500) (N := M_X10_row) (as := []) (st := []) (mc := 0) (ms := 0) (mc' := mc) (ms' := ms) (a := 0) clsX10 dL_law_497 rfl mok_X10_row kM_L_49 ki_X10_row ke_X10_row (fo_0 F) (ft_0 F) rfl rfl (leB rfl) (leB rfl) (z0 _) (z0 _) (Wp.mono h ?_)
      intro r33 Sq C34 h
      obtain ⟨e9, h⟩ := h
      rw [e9]
      show Wp (d + 1) mc ms M_L_law 500 [cA ((-3)), cA 0, cA 81, cI l3] [cI r33] S C34 Q
      refine wp_aload_n (nx := 501) dL_law_500 rfl rfl ?_
      refine wp_invV (nx := 504) (N := M_X11_row) (as := []) (st := [cI r33]) (mc := 0) (ms := 0) (mc' := mc) (ms' := ms) (a := 81) clsX11 dL_law_501 rfl mok_X11_row kM_L_53 ki_X11_row ke_X11_row (fo_81 F) (ft_81 F) rfl rfl (leB rfl) (leB rfl) (z0 _) (z0 _) (Wp.mono h ?_)
      intro r35 Sq C36 h
      obtain ⟨e9, h⟩ := h
      rw [e9]
      show Wp (d + 1) mc ms M_L_law 504 [cA ((-3)), cA 0, cA 81, cI l3] [cI r35, cI r33] S C36 Q
      refine wp_icmp_eq (nx := 507) (tg := 1226) dL_law_504 rfl rfl (fun hc => ?_) (fun hc => ?_)
      · have h := h.1 hc
        refine wp_iinc (nx := 1229) dL_law_1226 rfl rfl (by decide) ?_
        refine wp_ls (ls2 := [cA ((-3)), cA 0, cA 81, cI (w32 (l3 + 6))]) rfl ?_
        refine wp_goto (nx := 18) dL_law_1229 rfl ?_
        exact h
      · have h := h.2 hc
        refine wp_iconst (nx := 508) dL_law_507 rfl (i32 (by decide)) ?_
        exact wp_ireturn dL_law_508 rfl rfl (nz_of (Or.inl rfl)) h
    · have h := h.2.2.2.2.2.2.2.2.2.2.1 hc
      refine wp_tableIn (tg := 509) (off := 476) dL_law_33 (by omega) (by omega) (by rw [show (iAnd (S.2.2.2.2.2 l3) 63 - 0).toNat = 9 by omega]; rfl) rfl ?_
      refine Wp.deep (d := d + 1) (mc := mc) (ms := ms) ?_ (Nat.le_refl _) (by omega) (by omega)
      refine wp_aload_n (nx := 510) dL_law_509 rfl rfl ?_
      refine wp_invV (nx := 513) (N := M_X10_creaks) (as := []) (st := []) (mc := 0) (ms := 0) (mc' := mc) (ms' := ms) (a := 0) clsX10 dL_law_510 rfl mok_X10_creaks kM_L_54 ki_X10_creaks ke_X10_creaks (fo_0 F) (ft_0 F) rfl rfl (leB rfl) (leB rfl) (z0 _) (z0 _) (Wp.mono h ?_)
      intro r37 Sq C38 h
      obtain ⟨e9, h⟩ := h
      rw [e9]
      show Wp (d + 1) mc ms M_L_law 513 [cA ((-3)), cA 0, cA 81, cI l3] [cI r37] S C38 Q
      refine wp_aload_n (nx := 514) dL_law_513 rfl rfl ?_
      refine wp_invV (nx := 517) (N := M_X11_creaks) (as := []) (st := [cI r37]) (mc := 0) (ms := 0) (mc' := mc) (ms' := ms) (a := 81) clsX11 dL_law_514 rfl mok_X11_creaks kM_L_57 ki_X11_creaks ke_X11_creaks (fo_81 F) (ft_81 F) rfl rfl (leB rfl) (leB rfl) (z0 _) (z0 _) (Wp.mono h ?_)
      intro r39 Sq C40 h
      obtain ⟨e9, h⟩ := h
      rw [e9]
      show Wp (d + 1) mc ms M_L_law 517 [cA ((-3)), cA 0, cA 81, cI l3] [cI r39, cI r37] S C40 Q
      refine wp_icmp_eq (nx := 520) (tg := 1226) dL_law_517 rfl rfl (fun hc => ?_) (fun hc => ?_)
      · have h := h.1 hc
        refine wp_iinc (nx := 1229) dL_law_1226 rfl rfl (by decide) ?_
        refine wp_ls (ls2 := [cA ((-3)), cA 0, cA 81, cI (w32 (l3 + 6))]) rfl ?_
        refine wp_goto (nx := 18) dL_law_1229 rfl ?_
        exact h
      · have h := h.2 hc
        refine wp_iconst (nx := 521) dL_law_520 rfl (i32 (by decide)) ?_
        exact wp_ireturn dL_law_521 rfl rfl (nz_of (Or.inl rfl)) h
    · have h := h.2.2.2.2.2.2.2.2.2.2.2.1 hc
      refine wp_tableIn (tg := 522) (off := 489) dL_law_33 (by omega) (by omega) (by rw [show (iAnd (S.2.2.2.2.2 l3) 63 - 0).toNat = 10 by omega]; rfl) rfl ?_
      refine wp_aload_n (nx := 523) dL_law_522 rfl rfl ?_
      refine wp_invV (nx := 526) (N := M_X10_law) (as := []) (st := []) (mc := 7) (ms := 469) (mc' := mc) (ms' := ms) (a := 0) clsX10 dL_law_523 rfl mok_X10_law kM_L_58 ki_X10_law ke_X10_law (fo_0 F) (ft_0 F) rfl rfl (leB rfl) (leB rfl) (by omega) (by omega) (Wp.mono h ?_)
      intro r41 S43 C42 h
      obtain ⟨F44, h⟩ := h
      show Wp (d + 1) mc ms M_L_law 526 [cA ((-3)), cA 0, cA 81, cI l3] [cI r41] S43 C42 Q
      refine wp_aload_n (nx := 527) dL_law_526 rfl rfl ?_
      refine wp_invV (nx := 530) (N := M_X11_law) (as := []) (st := [cI r41]) (mc := 0) (ms := 0) (mc' := mc) (ms' := ms) (a := 81) clsX11 dL_law_527 rfl mok_X11_law kM_L_61 ki_X11_law ke_X11_law (fo_81 F44) (ft_81 F44) rfl rfl (leB rfl) (leB rfl) (z0 _) (z0 _) (Wp.mono h ?_)
      intro r45 Sq C46 h
      obtain ⟨e9, h⟩ := h
      rw [e9]
      show Wp (d + 1) mc ms M_L_law 530 [cA ((-3)), cA 0, cA 81, cI l3] [cI r45, cI r41] S43 C46 Q
      refine wp_icmp_eq (nx := 533) (tg := 1226) dL_law_530 rfl rfl (fun hc => ?_) (fun hc => ?_)
      · have h := h.1 hc
        refine wp_iinc (nx := 1229) dL_law_1226 rfl rfl (by decide) ?_
        refine wp_ls (ls2 := [cA ((-3)), cA 0, cA 81, cI (w32 (l3 + 6))]) rfl ?_
        refine wp_goto (nx := 18) dL_law_1229 rfl ?_
        exact h
      · have h := h.2 hc
        refine wp_iconst (nx := 534) dL_law_533 rfl (i32 (by decide)) ?_
        exact wp_ireturn dL_law_534 rfl rfl (nz_of (Or.inl rfl)) h
    · have h := h.2.2.2.2.2.2.2.2.2.2.2.2.1 hc
      refine wp_tableIn (tg := 535) (off := 502) dL_law_33 (by omega) (by omega) (by rw [show (iAnd (S.2.2.2.2.2 l3) 63 - 0).toNat = 11 by omega]; rfl) rfl ?_
      refine Wp.deep (d := d + 1) (mc := mc) (ms := ms) ?_ (Nat.le_refl _) (by omega) (by omega)
      refine wp_aload_n (nx := 536) dL_law_535 rfl rfl ?_
      refine wp_invV (nx := 539) (N := M_X10_orders) (as := []) (st := []) (mc := 0) (ms := 0) (mc' := mc) (ms' := ms) (a := 0) clsX10 dL_law_536 rfl mok_X10_orders kM_L_62 ki_X10_orders ke_X10_orders (fo_0 F) (ft_0 F) rfl rfl (leB rfl) (leB rfl) (z0 _) (z0 _) (Wp.mono h ?_)
      intro r47 S49 C48 h
      obtain ⟨F50, h⟩ := h
      show Wp (d + 1) mc ms M_L_law 539 [cA ((-3)), cA 0, cA 81, cI l3] [cI r47] S49 C48 Q
      refine wp_aload_n (nx := 540) dL_law_539 rfl rfl ?_
      refine wp_invV (nx := 543) (N := M_X11_orders) (as := []) (st := [cI r47]) (mc := 0) (ms := 0) (mc' := mc) (ms' := ms) (a := 81) clsX11 dL_law_540 rfl mok_X11_orders kM_L_65 ki_X11_orders ke_X11_orders (fo_81 F50) (ft_81 F50) rfl rfl (leB rfl) (leB rfl) (z0 _) (z0 _) (Wp.mono h ?_)
      intro r51 Sq C52 h
      obtain ⟨e9, h⟩ := h
      rw [e9]
      show Wp (d + 1) mc ms M_L_law 543 [cA ((-3)), cA 0, cA 81, cI l3] [cI r51, cI r47] S49 C52 Q
      refine wp_icmp_eq (nx := 546) (tg := 1226) dL_law_543 rfl rfl (fun hc => ?_) (fun hc => ?_)
      · have h := h.1 hc
        refine wp_iinc (nx := 1229) dL_law_1226 rfl rfl (by decide) ?_
        refine wp_ls (ls2 := [cA ((-3)), cA 0, cA 81, cI (w32 (l3 + 6))]) rfl ?_
        refine wp_goto (nx := 18) dL_law_1229 rfl ?_
        exact h
      · have h := h.2 hc
        refine wp_iconst (nx := 547) dL_law_546 rfl (i32 (by decide)) ?_
        exact wp_ireturn dL_law_547 rfl rfl (nz_of (Or.inl rfl)) h
    · have h := h.2.2.2.2.2.2.2.2.2.2.2.2.2.1 hc
      refine wp_tableIn (tg := 548) (off := 515) dL_law_33 (by omega) (by omega) (by rw [show (iAnd (S.2.2.2.2.2 l3) 63 - 0).toNat = 12 by omega]; rfl) rfl ?_
      refine Wp.deep (d := d + 1) (mc := mc) (ms := ms) ?_ (Nat.le_refl _) (by omega) (by omega)
      refine wp_aload_n (nx := 549) dL_law_548 rfl rfl ?_
      refine wp_invV (nx := 552) (N := M_X10_fault) (as := []) (st := []) (mc := 0) (ms := 0) (mc' := mc) (ms' := ms) (a := 0) clsX10 dL_law_549 rfl mok_X10_fault kM_L_66 ki_X10_fault ke_X10_fault (fo_0 F) (ft_0 F) rfl rfl (leB rfl) (leB rfl) (z0 _) (z0 _) (Wp.mono h ?_)
      intro r53 Sq C54 h
      obtain ⟨e9, h⟩ := h
      rw [e9]
      show Wp (d + 1) mc ms M_L_law 552 [cA ((-3)), cA 0, cA 81, cI l3] [cI r53] S C54 Q
      refine wp_aload_n (nx := 553) dL_law_552 rfl rfl ?_
      refine wp_invV (nx := 556) (N := M_X11_fault) (as := []) (st := [cI r53]) (mc := 0) (ms := 0) (mc' := mc) (ms' := ms) (a := 81) clsX11 dL_law_553 rfl mok_X11_fault kM_L_69 ki_X11_fault ke_X11_fault (fo_81 F) (ft_81 F) rfl rfl (leB rfl) (leB rfl) (z0 _) (z0 _) (Wp.mono h ?_)
      intro r55 Sq C56 h
      obtain ⟨e9, h⟩ := h
      rw [e9]
      show Wp (d + 1) mc ms M_L_law 556 [cA ((-3)), cA 0, cA 81, cI l3] [cI r55, cI r53] S C56 Q
      refine wp_icmp_eq (nx := 559) (tg := 1226) dL_law_556 rfl rfl (fun hc => ?_) (fun hc => ?_)
      · have h := h.1 hc
        refine wp_iinc (nx := 1229) dL_law_1226 rfl rfl (by decide) ?_
        refine wp_ls (ls2 := [cA ((-3)), cA 0, cA 81, cI (w32 (l3 + 6))]) rfl ?_
        refine wp_goto (nx := 18) dL_law_1229 rfl ?_
        exact h
      · have h := h.2 hc
        refine wp_iconst (nx := 560) dL_law_559 rfl (i32 (by decide)) ?_
        exact wp_ireturn dL_law_560 rfl rfl (nz_of (Or.inl rfl)) h
    · have h := h.2.2.2.2.2.2.2.2.2.2.2.2.2.2.1 hc
      refine wp_tableIn (tg := 561) (off := 528) dL_law_33 (by omega) (by omega) (by rw [show (iAnd (S.2.2.2.2.2 l3) 63 - 0).toNat = 13 by omega]; rfl) rfl ?_
      refine Wp.deep (d := d + 1) (mc := mc) (ms := ms) ?_ (Nat.le_refl _) (by omega) (by omega)
      refine wp_aload_n (nx := 562) dL_law_561 rfl rfl ?_
      refine wp_invV (nx := 565) (N := M_X10_stopped) (as := []) (st := []) (mc := 0) (ms := 0) (mc' := mc) (ms' := ms) (a := 0) clsX10 dL_law_562 rfl mok_X10_stopped kM_L_70 ki_X10_stopped ke_X10_stopped (fo_0 F) (ft_0 F) rfl rfl (leB rfl) (leB rfl) (z0 _) (z0 _) (Wp.mono h ?_)
      intro r57 Sq C58 h
      obtain ⟨e9, h⟩ := h
      rw [e9]
      show Wp (d + 1) mc ms M_L_law 565 [cA ((-3)), cA 0, cA 81, cI l3] [cI r57] S C58 Q
      refine wp_aload_n (nx := 566) dL_law_565 rfl rfl ?_
      refine wp_invV (nx := 569) (N := M_X11_stopped) (as := []) (st := [cI r57]) (mc := 0) (ms := 0) (mc' := mc) (ms' := ms) (a := 81) clsX11 dL_law_566 rfl mok_X11_stopped kM_L_73 ki_X11_stopped ke_X11_stopped (fo_81 F) (ft_81 F) rfl rfl (leB rfl) (leB rfl) (z0 _) (z0 _) (Wp.mono h ?_)
      intro r59 Sq C60 h
      obtain ⟨e9, h⟩ := h
      rw [e9]
      show Wp (d + 1) mc ms M_L_law 569 [cA ((-3)), cA 0, cA 81, cI l3] [cI r59, cI r57] S C60 Q
      refine wp_icmp_eq (nx := 572) (tg := 1226) dL_law_569 rfl rfl (fun hc => ?_) (fun hc => ?_)
      · have h := h.1 hc
        refine wp_iinc (nx := 1229) dL_law_1226 rfl rfl (by decide) ?_
        refine wp_ls (ls2 := [cA ((-3)), cA 0, cA 81, cI (w32 (l3 + 6))]) rfl ?_
        refine wp_goto (nx := 18) dL_law_1229 rfl ?_
        exact h
      · have h := h.2 hc
        refine wp_iconst (nx := 573) dL_law_572 rfl (i32 (by decide)) ?_
        exact wp_ireturn dL_law_573 rfl rfl (nz_of (Or.inl rfl)) h
    · have h := h.2.2.2.2.2.2.2.2.2.2.2.2.2.2.2.1 hc
      refine wp_tableIn (tg := 574) (off := 541) dL_law_33 (by omega) (by omega) (by rw [show (iAnd (S.2.2.2.2.2 l3) 63 - 0).toNat = 14 by omega]; rfl) rfl ?_
      refine Wp.deep (d := d + 1) (mc := mc) (ms := ms) ?_ (Nat.le_refl _) (by omega) (by omega)
      refine wp_aload_n (nx := 575) dL_law_574 rfl rfl ?_
      refine wp_aload_n (nx := 576) dL_law_575 rfl rfl ?_
      refine wp_iload_n (nx := 577) dL_law_576 rfl rfl ?_
      refine wp_iconst (nx := 578) dL_law_577 rfl (i32 (by decide)) ?_
      refine wp_iadd (nx := 579) dL_law_578 rfl ?_
      obtain ⟨hi, h⟩ := h
      refine wp_sload (nx := 580) dL_law_579 rfl hi ?_
      refine wp_invV (nx := 583) (N := M_X10_force) (as := [cI (S.2.2.2.2.2 (w32 (l3 + 1)))]) (st := []) (mc := 0) (ms := 0) (mc' := mc) (ms' := ms) (a := 0) clsX10 dL_law_580 rfl mok_X10_force kM_L_74 ki_X10_force ke_X10_force (fo_0 F) (ft_0 F) rfl rfl (leB rfl) (leB rfl) (z0 _) (z0 _) (Wp.mono h ?_)
      intro r61 Sq C62 h
      obtain ⟨e9, h⟩ := h
      rw [e9]
      show Wp (d + 1) mc ms M_L_law 583 [cA ((-3)), cA 0, cA 81, cI l3] [cI r61] S C62 Q
      refine wp_aload_n (nx := 584) dL_law_583 rfl rfl ?_
      refine wp_aload_n (nx := 585) dL_law_584 rfl rfl ?_
      refine wp_iload_n (nx := 586) dL_law_585 rfl rfl ?_
      refine wp_iconst (nx := 587) dL_law_586 rfl (i32 (by decide)) ?_
      refine wp_iadd (nx := 588) dL_law_587 rfl ?_
      obtain ⟨hi, h⟩ := h
      refine wp_sload (nx := 589) dL_law_588 rfl hi ?_
      refine wp_invV (nx := 592) (N := M_X11_force) (as := [cI (S.2.2.2.2.2 (w32 (l3 + 1)))]) (st := [cI r61]) (mc := 0) (ms := 0) (mc' := mc) (ms' := ms) (a := 81) clsX11 dL_law_589 rfl mok_X11_force kM_L_77 ki_X11_force ke_X11_force (fo_81 F) (ft_81 F) rfl rfl (leB rfl) (leB rfl) (z0 _) (z0 _) (Wp.mono h ?_)
      intro r63 Sq C64 h
      obtain ⟨e9, h⟩ := h
      rw [e9]
      show Wp (d + 1) mc ms M_L_law 592 [cA ((-3)), cA 0, cA 81, cI l3] [cI r63, cI r61] S C64 Q
      refine wp_icmp_eq (nx := 595) (tg := 1226) dL_law_592 rfl rfl (fun hc => ?_) (fun hc => ?_)
      · have h := h.1 hc
        refine wp_iinc (nx := 1229) dL_law_1226 rfl rfl (by decide) ?_
        refine wp_ls (ls2 := [cA ((-3)), cA 0, cA 81, cI (w32 (l3 + 6))]) rfl ?_
        refine wp_goto (nx := 18) dL_law_1229 rfl ?_
        exact h
      · have h := h.2 hc
        refine wp_iconst (nx := 596) dL_law_595 rfl (i32 (by decide)) ?_
        exact wp_ireturn dL_law_596 rfl rfl (nz_of (Or.inl rfl)) h
    · have h := h.2.2.2.2.2.2.2.2.2.2.2.2.2.2.2.2.1 hc
      refine wp_tableIn (tg := 597) (off := 564) dL_law_33 (by omega) (by omega) (by rw [show (iAnd (S.2.2.2.2.2 l3) 63 - 0).toNat = 15 by omega]; rfl) rfl ?_
      refine Wp.deep (d := d + 1) (mc := mc) (ms := ms) ?_ (Nat.le_refl _) (by omega) (by omega)
      refine wp_aload_n (nx := 598) dL_law_597 rfl rfl ?_
      refine wp_aload_n (nx := 599) dL_law_598 rfl rfl ?_
      refine wp_iload_n (nx := 600) dL_law_599 rfl rfl ?_
      refine wp_iconst (nx := 601) dL_law_600 rfl (i32 (by decide)) ?_
      refine wp_iadd (nx := 602) dL_law_601 rfl ?_
      obtain ⟨hi, h⟩ := h
      refine wp_sload (nx := 603) dL_law_602 rfl hi ?_
      refine wp_aload_n (nx := 604) dL_law_603 rfl rfl ?_
      refine wp_iload_n (nx := 605) dL_law_604 rfl rfl ?_
      refine wp_iconst (nx := 606) dL_law_605 rfl (i32 (by decide)) ?_
      refine wp_iadd (nx := 607) dL_law_606 rfl ?_
      obtain ⟨hi, h⟩ := h
      refine wp_sload (nx := 608) dL_law_607 rfl hi ?_
      refine wp_invV (nx := 611) (N := M_X10_note) (as := [cI (S.2.2.2.2.2 (w32 (l3 + 1))), cI (S.2.2.2.2.2 (w32 (l3 + 2)))]) (st := []) (mc := 0) (ms := 0) (mc' := mc) (ms' := ms) (a := 0) clsX10 dL_law_608 rfl mok_X10_note kM_L_78 ki_X10_note ke_X10_note (fo_0 F) (ft_0 F) rfl rfl (leB rfl) (leB rfl) (z0 _) (z0 _) (Wp.mono h ?_)
      intro r65 Sq C66 h
      obtain ⟨e9, h⟩ := h
      rw [e9]
      show Wp (d + 1) mc ms M_L_law 611 [cA ((-3)), cA 0, cA 81, cI l3] [cI r65] S C66 Q
      refine wp_aload_n (nx := 612) dL_law_611 rfl rfl ?_
      refine wp_aload_n (nx := 613) dL_law_612 rfl rfl ?_
      refine wp_iload_n (nx := 614) dL_law_613 rfl rfl ?_
      refine wp_iconst (nx := 615) dL_law_614 rfl (i32 (by decide)) ?_
      refine wp_iadd (nx := 616) dL_law_615 rfl ?_
      obtain ⟨hi, h⟩ := h
      refine wp_sload (nx := 617) dL_law_616 rfl hi ?_
      refine wp_aload_n (nx := 618) dL_law_617 rfl rfl ?_
      refine wp_iload_n (nx := 619) dL_law_618 rfl rfl ?_
      refine wp_iconst (nx := 620) dL_law_619 rfl (i32 (by decide)) ?_
      refine wp_iadd (nx := 621) dL_law_620 rfl ?_
      obtain ⟨hi, h⟩ := h
      refine wp_sload (nx := 622) dL_law_621 rfl hi ?_
      refine wp_invV (nx := 625) (N := M_X11_note) (as := [cI (S.2.2.2.2.2 (w32 (l3 + 1))), cI (S.2.2.2.2.2 (w32 (l3 + 2)))]) (st := [cI r65]) (mc := 0) (ms := 0) (mc' := mc) (ms' := ms) (a := 81) clsX11 dL_law_622 rfl mok_X11_note kM_L_81 ki_X11_note ke_X11_note (fo_81 F) (ft_81 F) rfl rfl (leB rfl) (leB rfl) (z0 _) (z0 _) (Wp.mono h ?_)
      intro r67 Sq C68 h
      obtain ⟨e9, h⟩ := h
      rw [e9]
      show Wp (d + 1) mc ms M_L_law 625 [cA ((-3)), cA 0, cA 81, cI l3] [cI r67, cI r65] S C68 Q
      refine wp_icmp_eq (nx := 628) (tg := 1226) dL_law_625 rfl rfl (fun hc => ?_) (fun hc => ?_)
      · have h := h.1 hc
        refine wp_iinc (nx := 1229) dL_law_1226 rfl rfl (by decide) ?_
        refine wp_ls (ls2 := [cA ((-3)), cA 0, cA 81, cI (w32 (l3 + 6))]) rfl ?_
        refine wp_goto (nx := 18) dL_law_1229 rfl ?_
        exact h
      · have h := h.2 hc
        refine wp_iconst (nx := 629) dL_law_628 rfl (i32 (by decide)) ?_
        exact wp_ireturn dL_law_629 rfl rfl (nz_of (Or.inl rfl)) h
    · have h := h.2.2.2.2.2.2.2.2.2.2.2.2.2.2.2.2.2.1 hc
      refine wp_tableIn (tg := 630) (off := 597) dL_law_33 (by omega) (by omega) (by rw [show (iAnd (S.2.2.2.2.2 l3) 63 - 0).toNat = 16 by omega]; rfl) rfl ?_
      refine Wp.deep (d := d + 1) (mc := mc) (ms := ms) ?_ (Nat.le_refl _) (by omega) (by omega)
      refine wp_aload_n (nx := 631) dL_law_630 rfl rfl ?_
      refine wp_aload_n (nx := 632) dL_law_631 rfl rfl ?_
      refine wp_iload_n (nx := 633) dL_law_632 rfl rfl ?_
      refine wp_iconst (nx := 634) dL_law_633 rfl (i32 (by decide)) ?_
      refine wp_iadd (nx := 635) dL_law_634 rfl ?_
      obtain ⟨hi, h⟩ := h
      refine wp_sload (nx := 636) dL_law_635 rfl hi ?_
      refine wp_aload_n (nx := 637) dL_law_636 rfl rfl ?_
      refine wp_iload_n (nx := 638) dL_law_637 rfl rfl ?_
      refine wp_iconst (nx := 639) dL_law_638 rfl (i32 (by decide)) ?_
      refine wp_iadd (nx := 640) dL_law_639 rfl ?_
      obtain ⟨hi, h⟩ := h
      refine wp_sload (nx := 641) dL_law_640 rfl hi ?_
      refine wp_invV (nx := 644) (N := M_X10_give) (as := [cI (S.2.2.2.2.2 (w32 (l3 + 1))), cI (S.2.2.2.2.2 (w32 (l3 + 2)))]) (st := []) (mc := 0) (ms := 0) (mc' := mc) (ms' := ms) (a := 0) clsX10 dL_law_641 rfl mok_X10_give kM_L_82 ki_X10_give ke_X10_give (fo_0 F) (ft_0 F) rfl rfl (leB rfl) (leB rfl) (z0 _) (z0 _) (Wp.mono h ?_)
      intro r69 Sq C70 h
      obtain ⟨e9, h⟩ := h
      rw [e9]
      show Wp (d + 1) mc ms M_L_law 644 [cA ((-3)), cA 0, cA 81, cI l3] [cI r69] S C70 Q
      refine wp_aload_n (nx := 645) dL_law_644 rfl rfl ?_
      refine wp_aload_n (nx := 646) dL_law_645 rfl rfl ?_
      refine wp_iload_n (nx := 647) dL_law_646 rfl rfl ?_
      refine wp_iconst (nx := 648) dL_law_647 rfl (i32 (by decide)) ?_
      refine wp_iadd (nx := 649) dL_law_648 rfl ?_
      obtain ⟨hi, h⟩ := h
      refine wp_sload (nx := 650) dL_law_649 rfl hi ?_
      refine wp_aload_n (nx := 651) dL_law_650 rfl rfl ?_
      refine wp_iload_n (nx := 652) dL_law_651 rfl rfl ?_
      refine wp_iconst (nx := 653) dL_law_652 rfl (i32 (by decide)) ?_
      refine wp_iadd (nx := 654) dL_law_653 rfl ?_
      obtain ⟨hi, h⟩ := h
      refine wp_sload (nx := 655) dL_law_654 rfl hi ?_
      refine wp_invV (nx := 658) (N := M_X11_give) (as := [cI (S.2.2.2.2.2 (w32 (l3 + 1))), cI (S.2.2.2.2.2 (w32 (l3 + 2)))]) (st := [cI r69]) (mc := 0) (ms := 0) (mc' := mc) (ms' := ms) (a := 81) clsX11 dL_law_655 rfl mok_X11_give kM_L_85 ki_X11_give ke_X11_give (fo_81 F) (ft_81 F) rfl rfl (leB rfl) (leB rfl) (z0 _) (z0 _) (Wp.mono h ?_)
      intro r71 Sq C72 h
      obtain ⟨e9, h⟩ := h
      rw [e9]
      show Wp (d + 1) mc ms M_L_law 658 [cA ((-3)), cA 0, cA 81, cI l3] [cI r71, cI r69] S C72 Q
      refine wp_icmp_eq (nx := 661) (tg := 1226) dL_law_658 rfl rfl (fun hc => ?_) (fun hc => ?_)
      · have h := h.1 hc
        refine wp_iinc (nx := 1229) dL_law_1226 rfl rfl (by decide) ?_
        refine wp_ls (ls2 := [cA ((-3)), cA 0, cA 81, cI (w32 (l3 + 6))]) rfl ?_
        refine wp_goto (nx := 18) dL_law_1229 rfl ?_
        exact h
      · have h := h.2 hc
        refine wp_iconst (nx := 662) dL_law_661 rfl (i32 (by decide)) ?_
        exact wp_ireturn dL_law_662 rfl rfl (nz_of (Or.inl rfl)) h
    · have h := h.2.2.2.2.2.2.2.2.2.2.2.2.2.2.2.2.2.2.1 hc
      refine wp_tableIn (tg := 663) (off := 630) dL_law_33 (by omega) (by omega) (by rw [show (iAnd (S.2.2.2.2.2 l3) 63 - 0).toNat = 17 by omega]; rfl) rfl ?_
      refine Wp.deep (d := d + 1) (mc := mc) (ms := ms) ?_ (Nat.le_refl _) (by omega) (by omega)
      refine wp_aload_n (nx := 664) dL_law_663 rfl rfl ?_
      refine wp_aload_n (nx := 665) dL_law_664 rfl rfl ?_
      refine wp_iload_n (nx := 666) dL_law_665 rfl rfl ?_
      refine wp_iconst (nx := 667) dL_law_666 rfl (i32 (by decide)) ?_
      refine wp_iadd (nx := 668) dL_law_667 rfl ?_
      obtain ⟨hi, h⟩ := h
      refine wp_sload (nx := 669) dL_law_668 rfl hi ?_
      refine wp_invV (nx := 672) (N := M_X10_shift) (as := [cI (S.2.2.2.2.2 (w32 (l3 + 1)))]) (st := []) (mc := 0) (ms := 0) (mc' := mc) (ms' := ms) (a := 0) clsX10 dL_law_669 rfl mok_X10_shift kM_L_86 ki_X10_shift ke_X10_shift (fo_0 F) (ft_0 F) rfl rfl (leB rfl) (leB rfl) (z0 _) (z0 _) (Wp.mono h ?_)
      intro r73 Sq C74 h
      obtain ⟨e9, h⟩ := h
      rw [e9]
      show Wp (d + 1) mc ms M_L_law 672 [cA ((-3)), cA 0, cA 81, cI l3] [cI r73] S C74 Q
      refine wp_aload_n (nx := 673) dL_law_672 rfl rfl ?_
      refine wp_aload_n (nx := 674) dL_law_673 rfl rfl ?_
      refine wp_iload_n (nx := 675) dL_law_674 rfl rfl ?_
      refine wp_iconst (nx := 676) dL_law_675 rfl (i32 (by decide)) ?_
      refine wp_iadd (nx := 677) dL_law_676 rfl ?_
      obtain ⟨hi, h⟩ := h
      refine wp_sload (nx := 678) dL_law_677 rfl hi ?_
      refine wp_invV (nx := 681) (N := M_X11_shift) (as := [cI (S.2.2.2.2.2 (w32 (l3 + 1)))]) (st := [cI r73]) (mc := 0) (ms := 0) (mc' := mc) (ms' := ms) (a := 81) clsX11 dL_law_678 rfl mok_X11_shift kM_L_89 ki_X11_shift ke_X11_shift (fo_81 F) (ft_81 F) rfl rfl (leB rfl) (leB rfl) (z0 _) (z0 _) (Wp.mono h ?_)
      intro r75 Sq C76 h
      obtain ⟨e9, h⟩ := h
      rw [e9]
      show Wp (d + 1) mc ms M_L_law 681 [cA ((-3)), cA 0, cA 81, cI l3] [cI r75, cI r73] S C76 Q
      refine wp_icmp_eq (nx := 684) (tg := 1226) dL_law_681 rfl rfl (fun hc => ?_) (fun hc => ?_)
      · have h := h.1 hc
        refine wp_iinc (nx := 1229) dL_law_1226 rfl rfl (by decide) ?_
        refine wp_ls (ls2 := [cA ((-3)), cA 0, cA 81, cI (w32 (l3 + 6))]) rfl ?_
        refine wp_goto (nx := 18) dL_law_1229 rfl ?_
        exact h
      · have h := h.2 hc
        refine wp_iconst (nx := 685) dL_law_684 rfl (i32 (by decide)) ?_
        exact wp_ireturn dL_law_685 rfl rfl (nz_of (Or.inl rfl)) h
    · have h := h.2.2.2.2.2.2.2.2.2.2.2.2.2.2.2.2.2.2.2.1 hc
      refine wp_tableIn (tg := 686) (off := 653) dL_law_33 (by omega) (by omega) (by rw [show (iAnd (S.2.2.2.2.2 l3) 63 - 0).toNat = 18 by omega]; rfl) rfl ?_
      refine Wp.deep (d := d + 1) (mc := mc) (ms := ms) ?_ (Nat.le_refl _) (by omega) (by omega)
      refine wp_aload_n (nx := 687) dL_law_686 rfl rfl ?_
      refine wp_invV (nx := 690) (N := M_X10_pass) (as := []) (st := []) (mc := 0) (ms := 0) (mc' := mc) (ms' := ms) (a := 0) clsX10 dL_law_687 rfl mok_X10_pass kM_L_90 ki_X10_pass ke_X10_pass (fo_0 F) (ft_0 F) rfl rfl (leB rfl) (leB rfl) (z0 _) (z0 _) (Wp.mono h ?_)
      intro r77 Sq C78 h
      obtain ⟨e9, h⟩ := h
      rw [e9]
      show Wp (d + 1) mc ms M_L_law 690 [cA ((-3)), cA 0, cA 81, cI l3] [cI r77] S C78 Q
      refine wp_aload_n (nx := 691) dL_law_690 rfl rfl ?_
      refine wp_invV (nx := 694) (N := M_X11_pass) (as := []) (st := [cI r77]) (mc := 0) (ms := 0) (mc' := mc) (ms' := ms) (a := 81) clsX11 dL_law_691 rfl mok_X11_pass kM_L_93 ki_X11_pass ke_X11_pass (fo_81 F) (ft_81 F) rfl rfl (leB rfl) (leB rfl) (z0 _) (z0 _) (Wp.mono h ?_)
      intro r79 Sq C80 h
      obtain ⟨e9, h⟩ := h
      rw [e9]
      show Wp (d + 1) mc ms M_L_law 694 [cA ((-3)), cA 0, cA 81, cI l3] [cI r79, cI r77] S C80 Q
      refine wp_icmp_eq (nx := 697) (tg := 1226) dL_law_694 rfl rfl (fun hc => ?_) (fun hc => ?_)
      · have h := h.1 hc
        refine wp_iinc (nx := 1229) dL_law_1226 rfl rfl (by decide) ?_
        refine wp_ls (ls2 := [cA ((-3)), cA 0, cA 81, cI (w32 (l3 + 6))]) rfl ?_
        refine wp_goto (nx := 18) dL_law_1229 rfl ?_
        exact h
      · have h := h.2 hc
        refine wp_iconst (nx := 698) dL_law_697 rfl (i32 (by decide)) ?_
        exact wp_ireturn dL_law_698 rfl rfl (nz_of (Or.inl rfl)) h
    · have h := h.2.2.2.2.2.2.2.2.2.2.2.2.2.2.2.2.2.2.2.2.1 hc
      refine wp_tableIn (tg := 699) (off := 666) dL_law_33 (by omega) (by omega) (by rw [show (iAnd (S.2.2.2.2.2 l3) 63 - 0).toNat = 19 by omega]; rfl) rfl ?_
      refine Wp.deep (d := d + 1) (mc := mc) (ms := ms) ?_ (Nat.le_refl _) (by omega) (by omega)
      refine wp_aload_n (nx := 700) dL_law_699 rfl rfl ?_
      refine wp_invV (nx := 703) (N := M_X10_undo) (as := []) (st := []) (mc := 0) (ms := 0) (mc' := mc) (ms' := ms) (a := 0) clsX10 dL_law_700 rfl mok_X10_undo kM_L_94 ki_X10_undo ke_X10_undo (fo_0 F) (ft_0 F) rfl rfl (leB rfl) (leB rfl) (z0 _) (z0 _) (Wp.mono h ?_)
      intro r81 Sq C82 h
      obtain ⟨e9, h⟩ := h
      rw [e9]
      show Wp (d + 1) mc ms M_L_law 703 [cA ((-3)), cA 0, cA 81, cI l3] [cI r81] S C82 Q
      refine wp_aload_n (nx := 704) dL_law_703 rfl rfl ?_
      refine wp_invV (nx := 707) (N := M_X11_undo) (as := []) (st := [cI r81]) (mc := 0) (ms := 0) (mc' := mc) (ms' := ms) (a := 81) clsX11 dL_law_704 rfl mok_X11_undo kM_L_97 ki_X11_undo ke_X11_undo (fo_81 F) (ft_81 F) rfl rfl (leB rfl) (leB rfl) (z0 _) (z0 _) (Wp.mono h ?_)
      intro r83 Sq C84 h
      obtain ⟨e9, h⟩ := h
      rw [e9]
      show Wp (d + 1) mc ms M_L_law 707 [cA ((-3)), cA 0, cA 81, cI l3] [cI r83, cI r81] S C84 Q
      refine wp_icmp_eq (nx := 710) (tg := 1226) dL_law_707 rfl rfl (fun hc => ?_) (fun hc => ?_)
      · have h := h.1 hc
        refine wp_iinc (nx := 1229) dL_law_1226 rfl rfl (by decide) ?_
        refine wp_ls (ls2 := [cA ((-3)), cA 0, cA 81, cI (w32 (l3 + 6))]) rfl ?_
        refine wp_goto (nx := 18) dL_law_1229 rfl ?_
        exact h
      · have h := h.2 hc
        refine wp_iconst (nx := 711) dL_law_710 rfl (i32 (by decide)) ?_
        exact wp_ireturn dL_law_711 rfl rfl (nz_of (Or.inl rfl)) h
    · have h := h.2.2.2.2.2.2.2.2.2.2.2.2.2.2.2.2.2.2.2.2.2.1 hc
      refine wp_tableIn (tg := 712) (off := 679) dL_law_33 (by omega) (by omega) (by rw [show (iAnd (S.2.2.2.2.2 l3) 63 - 0).toNat = 20 by omega]; rfl) rfl ?_
      refine Wp.deep (d := d + 1) (mc := mc) (ms := ms) ?_ (Nat.le_refl _) (by omega) (by omega)
      refine wp_aload_n (nx := 713) dL_law_712 rfl rfl ?_
      refine wp_invV (nx := 716) (N := M_X10_drill) (as := []) (st := []) (mc := 0) (ms := 0) (mc' := mc) (ms' := ms) (a := 0) clsX10 dL_law_713 rfl mok_X10_drill kM_L_98 ki_X10_drill ke_X10_drill (fo_0 F) (ft_0 F) rfl rfl (leB rfl) (leB rfl) (z0 _) (z0 _) (Wp.mono h ?_)
      intro r85 S87 C86 h
      obtain ⟨F88, h⟩ := h
      show Wp (d + 1) mc ms M_L_law 716 [cA ((-3)), cA 0, cA 81, cI l3] [cI r85] S87 C86 Q
      refine wp_aload_n (nx := 717) dL_law_716 rfl rfl ?_
      refine wp_invV (nx := 720) (N := M_X11_drill) (as := []) (st := [cI r85]) (mc := 0) (ms := 0) (mc' := mc) (ms' := ms) (a := 81) clsX11 dL_law_717 rfl mok_X11_drill kM_L_101 ki_X11_drill ke_X11_drill (fo_81 F88) (ft_81 F88) rfl rfl (leB rfl) (leB rfl) (z0 _) (z0 _) (Wp.mono h ?_)
      intro r89 Sq C90 h
      obtain ⟨e9, h⟩ := h
      rw [e9]
      show Wp (d + 1) mc ms M_L_law 720 [cA ((-3)), cA 0, cA 81, cI l3] [cI r89, cI r85] S87 C90 Q
      refine wp_icmp_eq (nx := 723) (tg := 1226) dL_law_720 rfl rfl (fun hc => ?_) (fun hc => ?_)
      · have h := h.1 hc
        refine wp_iinc (nx := 1229) dL_law_1226 rfl rfl (by decide) ?_
        refine wp_ls (ls2 := [cA ((-3)), cA 0, cA 81, cI (w32 (l3 + 6))]) rfl ?_
        refine wp_goto (nx := 18) dL_law_1229 rfl ?_
        exact h
      · have h := h.2 hc
        refine wp_iconst (nx := 724) dL_law_723 rfl (i32 (by decide)) ?_
        exact wp_ireturn dL_law_724 rfl rfl (nz_of (Or.inl rfl)) h
    · have h := h.2.2.2.2.2.2.2.2.2.2.2.2.2.2.2.2.2.2.2.2.2.2.1 hc
      refine wp_tableIn (tg := 725) (off := 692) dL_law_33 (by omega) (by omega) (by rw [show (iAnd (S.2.2.2.2.2 l3) 63 - 0).toNat = 21 by omega]; rfl) rfl ?_
      refine Wp.deep (d := d + 1) (mc := mc) (ms := ms) ?_ (Nat.le_refl _) (by omega) (by omega)
      refine wp_aload_n (nx := 726) dL_law_725 rfl rfl ?_
      refine wp_aload_n (nx := 727) dL_law_726 rfl rfl ?_
      refine wp_iload_n (nx := 728) dL_law_727 rfl rfl ?_
      refine wp_iconst (nx := 729) dL_law_728 rfl (i32 (by decide)) ?_
      refine wp_iadd (nx := 730) dL_law_729 rfl ?_
      obtain ⟨hi, h⟩ := h
      refine wp_sload (nx := 731) dL_law_730 rfl hi ?_
      refine wp_invV (nx := 734) (N := M_X10_least) (as := [cI (S.2.2.2.2.2 (w32 (l3 + 1)))]) (st := []) (mc := 0) (ms := 0) (mc' := mc) (ms' := ms) (a := 0) clsX10 dL_law_731 rfl mok_X10_least kM_L_102 ki_X10_least ke_X10_least (fo_0 F) (ft_0 F) rfl rfl (leB rfl) (leB rfl) (z0 _) (z0 _) (Wp.mono h ?_)
      intro r91 S93 C92 h
      obtain ⟨F94, h⟩ := h
      show Wp (d + 1) mc ms M_L_law 734 [cA ((-3)), cA 0, cA 81, cI l3] [cI r91] S93 C92 Q
      refine wp_aload_n (nx := 735) dL_law_734 rfl rfl ?_
      refine wp_aload_n (nx := 736) dL_law_735 rfl rfl ?_
      refine wp_iload_n (nx := 737) dL_law_736 rfl rfl ?_
      refine wp_iconst (nx := 738) dL_law_737 rfl (i32 (by decide)) ?_
      refine wp_iadd (nx := 739) dL_law_738 rfl ?_
      obtain ⟨hi, h⟩ := h
      refine wp_sload (nx := 740) dL_law_739 rfl hi ?_
      refine wp_invV (nx := 743) (N := M_X11_least) (as := [cI (S93.2.2.2.2.2 (w32 (l3 + 1)))]) (st := [cI r91]) (mc := 0) (ms := 0) (mc' := mc) (ms' := ms) (a := 81) clsX11 dL_law_740 rfl mok_X11_least kM_L_105 ki_X11_least ke_X11_least (fo_81 F94) (ft_81 F94) rfl rfl (leB rfl) (leB rfl) (z0 _) (z0 _) (Wp.mono h ?_)
      intro r95 Sq C96 h
      obtain ⟨e9, h⟩ := h
      rw [e9]
      show Wp (d + 1) mc ms M_L_law 743 [cA ((-3)), cA 0, cA 81, cI l3] [cI r95, cI r91] S93 C96 Q
      refine wp_icmp_eq (nx := 746) (tg := 1226) dL_law_743 rfl rfl (fun hc => ?_) (fun hc => ?_)
      · have h := h.1 hc
        refine wp_iinc (nx := 1229) dL_law_1226 rfl rfl (by decide) ?_
        refine wp_ls (ls2 := [cA ((-3)), cA 0, cA 81, cI (w32 (l3 + 6))]) rfl ?_
        refine wp_goto (nx := 18) dL_law_1229 rfl ?_
        exact h
      · have h := h.2 hc
        refine wp_iconst (nx := 747) dL_law_746 rfl (i32 (by decide)) ?_
        exact wp_ireturn dL_law_747 rfl rfl (nz_of (Or.inl rfl)) h
    · have h := h.2.2.2.2.2.2.2.2.2.2.2.2.2.2.2.2.2.2.2.2.2.2.2.1 hc
      refine wp_tableIn (tg := 748) (off := 715) dL_law_33 (by omega) (by omega) (by rw [show (iAnd (S.2.2.2.2.2 l3) 63 - 0).toNat = 22 by omega]; rfl) rfl ?_
      refine Wp.deep (d := d + 1) (mc := mc) (ms := ms) ?_ (Nat.le_refl _) (by omega) (by omega)
      refine wp_aload_n (nx := 749) dL_law_748 rfl rfl ?_
      refine wp_aload_n (nx := 750) dL_law_749 rfl rfl ?_
      refine wp_iload_n (nx := 751) dL_law_750 rfl rfl ?_
      refine wp_iconst (nx := 752) dL_law_751 rfl (i32 (by decide)) ?_
      refine wp_iadd (nx := 753) dL_law_752 rfl ?_
      obtain ⟨hi, h⟩ := h
      refine wp_sload (nx := 754) dL_law_753 rfl hi ?_
      refine wp_aload_n (nx := 755) dL_law_754 rfl rfl ?_
      refine wp_iload_n (nx := 756) dL_law_755 rfl rfl ?_
      refine wp_iconst (nx := 757) dL_law_756 rfl (i32 (by decide)) ?_
      refine wp_iadd (nx := 758) dL_law_757 rfl ?_
      obtain ⟨hi, h⟩ := h
      refine wp_sload (nx := 759) dL_law_758 rfl hi ?_
      refine wp_invV (nx := 762) (N := M_X10_who) (as := [cI (S.2.2.2.2.2 (w32 (l3 + 1))), cI (S.2.2.2.2.2 (w32 (l3 + 2)))]) (st := []) (mc := 0) (ms := 0) (mc' := mc) (ms' := ms) (a := 0) clsX10 dL_law_759 rfl mok_X10_who kM_L_106 ki_X10_who ke_X10_who (fo_0 F) (ft_0 F) rfl rfl (leB rfl) (leB rfl) (z0 _) (z0 _) (Wp.mono h ?_)
      intro r97 S99 C98 h
      obtain ⟨F100, h⟩ := h
      show Wp (d + 1) mc ms M_L_law 762 [cA ((-3)), cA 0, cA 81, cI l3] [cI r97] S99 C98 Q
      refine wp_aload_n (nx := 763) dL_law_762 rfl rfl ?_
      refine wp_aload_n (nx := 764) dL_law_763 rfl rfl ?_
      refine wp_iload_n (nx := 765) dL_law_764 rfl rfl ?_
      refine wp_iconst (nx := 766) dL_law_765 rfl (i32 (by decide)) ?_
      refine wp_iadd (nx := 767) dL_law_766 rfl ?_
      obtain ⟨hi, h⟩ := h
      refine wp_sload (nx := 768) dL_law_767 rfl hi ?_
      refine wp_aload_n (nx := 769) dL_law_768 rfl rfl ?_
      refine wp_iload_n (nx := 770) dL_law_769 rfl rfl ?_
      refine wp_iconst (nx := 771) dL_law_770 rfl (i32 (by decide)) ?_
      refine wp_iadd (nx := 772) dL_law_771 rfl ?_
      obtain ⟨hi, h⟩ := h
      refine wp_sload (nx := 773) dL_law_772 rfl hi ?_
      refine wp_invV (nx := 776) (N := M_X11_who) (as := [cI (S99.2.2.2.2.2 (w32 (l3 + 1))), cI (S99.2.2.2.2.2 (w32 (l3 + 2)))]) (st := [cI r97]) (mc := 0) (ms := 0) (mc' := mc) (ms' := ms) (a := 81) clsX11 dL_law_773 rfl mok_X11_who kM_L_109 ki_X11_who ke_X11_who (fo_81 F100) (ft_81 F100) rfl rfl (leB rfl) (leB rfl) (z0 _) (z0 _) (Wp.mono h ?_)
      intro r101 Sq C102 h
      obtain ⟨e9, h⟩ := h
      rw [e9]
      show Wp (d + 1) mc ms M_L_law 776 [cA ((-3)), cA 0, cA 81, cI l3] [cI r101, cI r97] S99 C102 Q
      refine wp_icmp_eq (nx := 779) (tg := 1226) dL_law_776 rfl rfl (fun hc => ?_) (fun hc => ?_)
      · have h := h.1 hc
        refine wp_iinc (nx := 1229) dL_law_1226 rfl rfl (by decide) ?_
        refine wp_ls (ls2 := [cA ((-3)), cA 0, cA 81, cI (w32 (l3 + 6))]) rfl ?_
        refine wp_goto (nx := 18) dL_law_1229 rfl ?_
        exact h
      · have h := h.2 hc
        refine wp_iconst (nx := 780) dL_law_779 rfl (i32 (by decide)) ?_
        exact wp_ireturn dL_law_780 rfl rfl (nz_of (Or.inl rfl)) h
    · have h := h.2.2.2.2.2.2.2.2.2.2.2.2.2.2.2.2.2.2.2.2.2.2.2.2.1 hc
      refine wp_tableIn (tg := 781) (off := 748) dL_law_33 (by omega) (by omega) (by rw [show (iAnd (S.2.2.2.2.2 l3) 63 - 0).toNat = 23 by omega]; rfl) rfl ?_
      refine Wp.deep (d := d + 1) (mc := mc) (ms := ms) ?_ (Nat.le_refl _) (by omega) (by omega)
      refine wp_aload_n (nx := 782) dL_law_781 rfl rfl ?_
      refine wp_aload_n (nx := 783) dL_law_782 rfl rfl ?_
      refine wp_iload_n (nx := 784) dL_law_783 rfl rfl ?_
      refine wp_iconst (nx := 785) dL_law_784 rfl (i32 (by decide)) ?_
      refine wp_iadd (nx := 786) dL_law_785 rfl ?_
      obtain ⟨hi, h⟩ := h
      refine wp_sload (nx := 787) dL_law_786 rfl hi ?_
      refine wp_invV (nx := 790) (N := M_X10_ways) (as := [cI (S.2.2.2.2.2 (w32 (l3 + 1)))]) (st := []) (mc := 0) (ms := 0) (mc' := mc) (ms' := ms) (a := 0) clsX10 dL_law_787 rfl mok_X10_ways kM_L_110 ki_X10_ways ke_X10_ways (fo_0 F) (ft_0 F) rfl rfl (leB rfl) (leB rfl) (z0 _) (z0 _) (Wp.mono h ?_)
      intro r103 S105 C104 h
      obtain ⟨F106, h⟩ := h
      show Wp (d + 1) mc ms M_L_law 790 [cA ((-3)), cA 0, cA 81, cI l3] [cI r103] S105 C104 Q
      refine wp_aload_n (nx := 791) dL_law_790 rfl rfl ?_
      refine wp_aload_n (nx := 792) dL_law_791 rfl rfl ?_
      refine wp_iload_n (nx := 793) dL_law_792 rfl rfl ?_
      refine wp_iconst (nx := 794) dL_law_793 rfl (i32 (by decide)) ?_
      refine wp_iadd (nx := 795) dL_law_794 rfl ?_
      obtain ⟨hi, h⟩ := h
      refine wp_sload (nx := 796) dL_law_795 rfl hi ?_
      refine wp_invV (nx := 799) (N := M_X11_ways) (as := [cI (S105.2.2.2.2.2 (w32 (l3 + 1)))]) (st := [cI r103]) (mc := 0) (ms := 0) (mc' := mc) (ms' := ms) (a := 81) clsX11 dL_law_796 rfl mok_X11_ways kM_L_113 ki_X11_ways ke_X11_ways (fo_81 F106) (ft_81 F106) rfl rfl (leB rfl) (leB rfl) (z0 _) (z0 _) (Wp.mono h ?_)
      intro r107 Sq C108 h
      obtain ⟨e9, h⟩ := h
      rw [e9]
      show Wp (d + 1) mc ms M_L_law 799 [cA ((-3)), cA 0, cA 81, cI l3] [cI r107, cI r103] S105 C108 Q
      refine wp_icmp_eq (nx := 802) (tg := 1226) dL_law_799 rfl rfl (fun hc => ?_) (fun hc => ?_)
      · have h := h.1 hc
        refine wp_iinc (nx := 1229) dL_law_1226 rfl rfl (by decide) ?_
        refine wp_ls (ls2 := [cA ((-3)), cA 0, cA 81, cI (w32 (l3 + 6))]) rfl ?_
        refine wp_goto (nx := 18) dL_law_1229 rfl ?_
        exact h
      · have h := h.2 hc
        refine wp_iconst (nx := 803) dL_law_802 rfl (i32 (by decide)) ?_
        exact wp_ireturn dL_law_803 rfl rfl (nz_of (Or.inl rfl)) h
    · have h := h.2.2.2.2.2.2.2.2.2.2.2.2.2.2.2.2.2.2.2.2.2.2.2.2.2.1 hc
      refine wp_tableIn (tg := 804) (off := 771) dL_law_33 (by omega) (by omega) (by rw [show (iAnd (S.2.2.2.2.2 l3) 63 - 0).toNat = 24 by omega]; rfl) rfl ?_
      refine Wp.deep (d := d + 1) (mc := mc) (ms := ms) ?_ (Nat.le_refl _) (by omega) (by omega)
      refine wp_aload_n (nx := 805) dL_law_804 rfl rfl ?_
      refine wp_aload_n (nx := 806) dL_law_805 rfl rfl ?_
      refine wp_iload_n (nx := 807) dL_law_806 rfl rfl ?_
      refine wp_iconst (nx := 808) dL_law_807 rfl (i32 (by decide)) ?_
      refine wp_iadd (nx := 809) dL_law_808 rfl ?_
      obtain ⟨hi, h⟩ := h
      refine wp_sload (nx := 810) dL_law_809 rfl hi ?_
      refine wp_aload_n (nx := 811) dL_law_810 rfl rfl ?_
      refine wp_iload_n (nx := 812) dL_law_811 rfl rfl ?_
      refine wp_iconst (nx := 813) dL_law_812 rfl (i32 (by decide)) ?_
      refine wp_iadd (nx := 814) dL_law_813 rfl ?_
      obtain ⟨hi, h⟩ := h
      refine wp_sload (nx := 815) dL_law_814 rfl hi ?_
      refine wp_invV (nx := 818) (N := M_X10_might) (as := [cI (S.2.2.2.2.2 (w32 (l3 + 1))), cI (S.2.2.2.2.2 (w32 (l3 + 2)))]) (st := []) (mc := 0) (ms := 0) (mc' := mc) (ms' := ms) (a := 0) clsX10 dL_law_815 rfl mok_X10_might kM_L_114 ki_X10_might ke_X10_might (fo_0 F) (ft_0 F) rfl rfl (leB rfl) (leB rfl) (z0 _) (z0 _) (Wp.mono h ?_)
      intro r109 S111 C110 h
      obtain ⟨F112, h⟩ := h
      show Wp (d + 1) mc ms M_L_law 818 [cA ((-3)), cA 0, cA 81, cI l3] [cI r109] S111 C110 Q
      refine wp_aload_n (nx := 819) dL_law_818 rfl rfl ?_
      refine wp_aload_n (nx := 820) dL_law_819 rfl rfl ?_
      refine wp_iload_n (nx := 821) dL_law_820 rfl rfl ?_
      refine wp_iconst (nx := 822) dL_law_821 rfl (i32 (by decide)) ?_
      refine wp_iadd (nx := 823) dL_law_822 rfl ?_
      obtain ⟨hi, h⟩ := h
      refine wp_sload (nx := 824) dL_law_823 rfl hi ?_
      refine wp_aload_n (nx := 825) dL_law_824 rfl rfl ?_
      refine wp_iload_n (nx := 826) dL_law_825 rfl rfl ?_
      refine wp_iconst (nx := 827) dL_law_826 rfl (i32 (by decide)) ?_
      refine wp_iadd (nx := 828) dL_law_827 rfl ?_
      obtain ⟨hi, h⟩ := h
      refine wp_sload (nx := 829) dL_law_828 rfl hi ?_
      refine wp_invV (nx := 832) (N := M_X11_might) (as := [cI (S111.2.2.2.2.2 (w32 (l3 + 1))), cI (S111.2.2.2.2.2 (w32 (l3 + 2)))]) (st := [cI r109]) (mc := 0) (ms := 0) (mc' := mc) (ms' := ms) (a := 81) clsX11 dL_law_829 rfl mok_X11_might kM_L_117 ki_X11_might ke_X11_might (fo_81 F112) (ft_81 F112) rfl rfl (leB rfl) (leB rfl) (z0 _) (z0 _) (Wp.mono h ?_)
      intro r113 Sq C114 h
      obtain ⟨e9, h⟩ := h
      rw [e9]
      show Wp (d + 1) mc ms M_L_law 832 [cA ((-3)), cA 0, cA 81, cI l3] [cI r113, cI r109] S111 C114 Q
      refine wp_icmp_eq (nx := 835) (tg := 1226) dL_law_832 rfl rfl (fun hc => ?_) (fun hc => ?_)
      · have h := h.1 hc
        refine wp_iinc (nx := 1229) dL_law_1226 rfl rfl (by decide) ?_
        refine wp_ls (ls2 := [cA ((-3)), cA 0, cA 81, cI (w32 (l3 + 6))]) rfl ?_
        refine wp_goto (nx := 18) dL_law_1229 rfl ?_
        exact h
      · have h := h.2 hc
        refine wp_iconst (nx := 836) dL_law_835 rfl (i32 (by decide)) ?_
        exact wp_ireturn dL_law_836 rfl rfl (nz_of (Or.inl rfl)) h
    · have h := h.2.2.2.2.2.2.2.2.2.2.2.2.2.2.2.2.2.2.2.2.2.2.2.2.2.2.1 hc
      refine wp_tableIn (tg := 837) (off := 804) dL_law_33 (by omega) (by omega) (by rw [show (iAnd (S.2.2.2.2.2 l3) 63 - 0).toNat = 25 by omega]; rfl) rfl ?_
      refine Wp.deep (d := d + 1) (mc := mc) (ms := ms) ?_ (Nat.le_refl _) (by omega) (by omega)
      refine wp_aload_n (nx := 838) dL_law_837 rfl rfl ?_
      refine wp_aload_n (nx := 839) dL_law_838 rfl rfl ?_
      refine wp_iload_n (nx := 840) dL_law_839 rfl rfl ?_
      refine wp_iconst (nx := 841) dL_law_840 rfl (i32 (by decide)) ?_
      refine wp_iadd (nx := 842) dL_law_841 rfl ?_
      obtain ⟨hi, h⟩ := h
      refine wp_sload (nx := 843) dL_law_842 rfl hi ?_
      refine wp_invV (nx := 846) (N := M_X10_cover) (as := [cI (S.2.2.2.2.2 (w32 (l3 + 1)))]) (st := []) (mc := 0) (ms := 0) (mc' := mc) (ms' := ms) (a := 0) clsX10 dL_law_843 rfl mok_X10_cover kM_L_118 ki_X10_cover ke_X10_cover (fo_0 F) (ft_0 F) rfl rfl (leB rfl) (leB rfl) (z0 _) (z0 _) (Wp.mono h ?_)
      intro r115 S117 C116 h
      obtain ⟨F118, h⟩ := h
      show Wp (d + 1) mc ms M_L_law 846 [cA ((-3)), cA 0, cA 81, cI l3] [cI r115] S117 C116 Q
      refine wp_aload_n (nx := 847) dL_law_846 rfl rfl ?_
      refine wp_aload_n (nx := 848) dL_law_847 rfl rfl ?_
      refine wp_iload_n (nx := 849) dL_law_848 rfl rfl ?_
      refine wp_iconst (nx := 850) dL_law_849 rfl (i32 (by decide)) ?_
      refine wp_iadd (nx := 851) dL_law_850 rfl ?_
      obtain ⟨hi, h⟩ := h
      refine wp_sload (nx := 852) dL_law_851 rfl hi ?_
      refine wp_invV (nx := 855) (N := M_X11_cover) (as := [cI (S117.2.2.2.2.2 (w32 (l3 + 1)))]) (st := [cI r115]) (mc := 0) (ms := 0) (mc' := mc) (ms' := ms) (a := 81) clsX11 dL_law_852 rfl mok_X11_cover kM_L_121 ki_X11_cover ke_X11_cover (fo_81 F118) (ft_81 F118) rfl rfl (leB rfl) (leB rfl) (z0 _) (z0 _) (Wp.mono h ?_)
      intro r119 Sq C120 h
      obtain ⟨e9, h⟩ := h
      rw [e9]
      show Wp (d + 1) mc ms M_L_law 855 [cA ((-3)), cA 0, cA 81, cI l3] [cI r119, cI r115] S117 C120 Q
      refine wp_icmp_eq (nx := 858) (tg := 1226) dL_law_855 rfl rfl (fun hc => ?_) (fun hc => ?_)
      · have h := h.1 hc
        refine wp_iinc (nx := 1229) dL_law_1226 rfl rfl (by decide) ?_
        refine wp_ls (ls2 := [cA ((-3)), cA 0, cA 81, cI (w32 (l3 + 6))]) rfl ?_
        refine wp_goto (nx := 18) dL_law_1229 rfl ?_
        exact h
      · have h := h.2 hc
        refine wp_iconst (nx := 859) dL_law_858 rfl (i32 (by decide)) ?_
        exact wp_ireturn dL_law_859 rfl rfl (nz_of (Or.inl rfl)) h
    · have h := h.2.2.2.2.2.2.2.2.2.2.2.2.2.2.2.2.2.2.2.2.2.2.2.2.2.2.2.1 hc
      refine wp_tableIn (tg := 860) (off := 827) dL_law_33 (by omega) (by omega) (by rw [show (iAnd (S.2.2.2.2.2 l3) 63 - 0).toNat = 26 by omega]; rfl) rfl ?_
      refine Wp.deep (d := d + 1) (mc := mc) (ms := ms) ?_ (Nat.le_refl _) (by omega) (by omega)
      refine wp_aload_n (nx := 861) dL_law_860 rfl rfl ?_
      refine wp_aload_n (nx := 862) dL_law_861 rfl rfl ?_
      refine wp_iload_n (nx := 863) dL_law_862 rfl rfl ?_
      refine wp_iconst (nx := 864) dL_law_863 rfl (i32 (by decide)) ?_
      refine wp_iadd (nx := 865) dL_law_864 rfl ?_
      obtain ⟨hi, h⟩ := h
      refine wp_sload (nx := 866) dL_law_865 rfl hi ?_
      refine wp_aload_n (nx := 867) dL_law_866 rfl rfl ?_
      refine wp_iload_n (nx := 868) dL_law_867 rfl rfl ?_
      refine wp_iconst (nx := 869) dL_law_868 rfl (i32 (by decide)) ?_
      refine wp_iadd (nx := 870) dL_law_869 rfl ?_
      obtain ⟨hi, h⟩ := h
      refine wp_sload (nx := 871) dL_law_870 rfl hi ?_
      refine wp_invV (nx := 874) (N := M_X10_run) (as := [cI (S.2.2.2.2.2 (w32 (l3 + 1))), cI (S.2.2.2.2.2 (w32 (l3 + 2)))]) (st := []) (mc := 0) (ms := 0) (mc' := mc) (ms' := ms) (a := 0) clsX10 dL_law_871 rfl mok_X10_run kM_L_122 ki_X10_run ke_X10_run (fo_0 F) (ft_0 F) rfl rfl (leB rfl) (leB rfl) (z0 _) (z0 _) (Wp.mono h ?_)
      intro r121 S123 C122 h
      obtain ⟨F124, h⟩ := h
      show Wp (d + 1) mc ms M_L_law 874 [cA ((-3)), cA 0, cA 81, cI l3] [cI r121] S123 C122 Q
      refine wp_aload_n (nx := 875) dL_law_874 rfl rfl ?_
      refine wp_aload_n (nx := 876) dL_law_875 rfl rfl ?_
      refine wp_iload_n (nx := 877) dL_law_876 rfl rfl ?_
      refine wp_iconst (nx := 878) dL_law_877 rfl (i32 (by decide)) ?_
      refine wp_iadd (nx := 879) dL_law_878 rfl ?_
      obtain ⟨hi, h⟩ := h
      refine wp_sload (nx := 880) dL_law_879 rfl hi ?_
      refine wp_aload_n (nx := 881) dL_law_880 rfl rfl ?_
      refine wp_iload_n (nx := 882) dL_law_881 rfl rfl ?_
      refine wp_iconst (nx := 883) dL_law_882 rfl (i32 (by decide)) ?_
      refine wp_iadd (nx := 884) dL_law_883 rfl ?_
      obtain ⟨hi, h⟩ := h
      refine wp_sload (nx := 885) dL_law_884 rfl hi ?_
      refine wp_invV (nx := 888) (N := M_X11_run) (as := [cI (S123.2.2.2.2.2 (w32 (l3 + 1))), cI (S123.2.2.2.2.2 (w32 (l3 + 2)))]) (st := [cI r121]) (mc := 0) (ms := 0) (mc' := mc) (ms' := ms) (a := 81) clsX11 dL_law_885 rfl mok_X11_run kM_L_125 ki_X11_run ke_X11_run (fo_81 F124) (ft_81 F124) rfl rfl (leB rfl) (leB rfl) (z0 _) (z0 _) (Wp.mono h ?_)
      intro r125 Sq C126 h
      obtain ⟨e9, h⟩ := h
      rw [e9]
      show Wp (d + 1) mc ms M_L_law 888 [cA ((-3)), cA 0, cA 81, cI l3] [cI r125, cI r121] S123 C126 Q
      refine wp_icmp_eq (nx := 891) (tg := 1226) dL_law_888 rfl rfl (fun hc => ?_) (fun hc => ?_)
      · have h := h.1 hc
        refine wp_iinc (nx := 1229) dL_law_1226 rfl rfl (by decide) ?_
        refine wp_ls (ls2 := [cA ((-3)), cA 0, cA 81, cI (w32 (l3 + 6))]) rfl ?_
        refine wp_goto (nx := 18) dL_law_1229 rfl ?_
        exact h
      · have h := h.2 hc
        refine wp_iconst (nx := 892) dL_law_891 rfl (i32 (by decide)) ?_
        exact wp_ireturn dL_law_892 rfl rfl (nz_of (Or.inl rfl)) h
    · have h := h.2.2.2.2.2.2.2.2.2.2.2.2.2.2.2.2.2.2.2.2.2.2.2.2.2.2.2.2.1 hc
      refine wp_tableIn (tg := 893) (off := 860) dL_law_33 (by omega) (by omega) (by rw [show (iAnd (S.2.2.2.2.2 l3) 63 - 0).toNat = 27 by omega]; rfl) rfl ?_
      refine Wp.deep (d := d + 1) (mc := mc) (ms := ms) ?_ (Nat.le_refl _) (by omega) (by omega)
      refine wp_aload_n (nx := 894) dL_law_893 rfl rfl ?_
      refine wp_aload_n (nx := 895) dL_law_894 rfl rfl ?_
      refine wp_iload_n (nx := 896) dL_law_895 rfl rfl ?_
      refine wp_iconst (nx := 897) dL_law_896 rfl (i32 (by decide)) ?_
      refine wp_iadd (nx := 898) dL_law_897 rfl ?_
      obtain ⟨hi, h⟩ := h
      refine wp_sload (nx := 899) dL_law_898 rfl hi ?_
      refine wp_invV (nx := 902) (N := M_X10_best) (as := [cI (S.2.2.2.2.2 (w32 (l3 + 1)))]) (st := []) (mc := 0) (ms := 0) (mc' := mc) (ms' := ms) (a := 0) clsX10 dL_law_899 rfl mok_X10_best kM_L_126 ki_X10_best ke_X10_best (fo_0 F) (ft_0 F) rfl rfl (leB rfl) (leB rfl) (z0 _) (z0 _) (Wp.mono h ?_)
      intro r127 S129 C128 h
      obtain ⟨F130, h⟩ := h
      show Wp (d + 1) mc ms M_L_law 902 [cA ((-3)), cA 0, cA 81, cI l3] [cI r127] S129 C128 Q
      refine wp_aload_n (nx := 903) dL_law_902 rfl rfl ?_
      refine wp_aload_n (nx := 904) dL_law_903 rfl rfl ?_
      refine wp_iload_n (nx := 905) dL_law_904 rfl rfl ?_
      refine wp_iconst (nx := 906) dL_law_905 rfl (i32 (by decide)) ?_
      refine wp_iadd (nx := 907) dL_law_906 rfl ?_
      obtain ⟨hi, h⟩ := h
      refine wp_sload (nx := 908) dL_law_907 rfl hi ?_
      refine wp_invV (nx := 911) (N := M_X11_best) (as := [cI (S129.2.2.2.2.2 (w32 (l3 + 1)))]) (st := [cI r127]) (mc := 0) (ms := 0) (mc' := mc) (ms' := ms) (a := 81) clsX11 dL_law_908 rfl mok_X11_best kM_L_129 ki_X11_best ke_X11_best (fo_81 F130) (ft_81 F130) rfl rfl (leB rfl) (leB rfl) (z0 _) (z0 _) (Wp.mono h ?_)
      intro r131 Sq C132 h
      obtain ⟨e9, h⟩ := h
      rw [e9]
      show Wp (d + 1) mc ms M_L_law 911 [cA ((-3)), cA 0, cA 81, cI l3] [cI r131, cI r127] S129 C132 Q
      refine wp_icmp_eq (nx := 914) (tg := 1226) dL_law_911 rfl rfl (fun hc => ?_) (fun hc => ?_)
      · have h := h.1 hc
        refine wp_iinc (nx := 1229) dL_law_1226 rfl rfl (by decide) ?_
        refine wp_ls (ls2 := [cA ((-3)), cA 0, cA 81, cI (w32 (l3 + 6))]) rfl ?_
        refine wp_goto (nx := 18) dL_law_1229 rfl ?_
        exact h
      · have h := h.2 hc
        refine wp_iconst (nx := 915) dL_law_914 rfl (i32 (by decide)) ?_
        exact wp_ireturn dL_law_915 rfl rfl (nz_of (Or.inl rfl)) h
    · have h := h.2.2.2.2.2.2.2.2.2.2.2.2.2.2.2.2.2.2.2.2.2.2.2.2.2.2.2.2.2.1 hc
      refine wp_tableIn (tg := 916) (off := 883) dL_law_33 (by omega) (by omega) (by rw [show (iAnd (S.2.2.2.2.2 l3) 63 - 0).toNat = 28 by omega]; rfl) rfl ?_
      refine Wp.deep (d := d + 1) (mc := mc) (ms := ms) ?_ (Nat.le_refl _) (by omega) (by omega)
      refine wp_aload_n (nx := 917) dL_law_916 rfl rfl ?_
      refine wp_aload_n (nx := 918) dL_law_917 rfl rfl ?_
      refine wp_iload_n (nx := 919) dL_law_918 rfl rfl ?_
      refine wp_iconst (nx := 920) dL_law_919 rfl (i32 (by decide)) ?_
      refine wp_iadd (nx := 921) dL_law_920 rfl ?_
      obtain ⟨hi, h⟩ := h
      refine wp_sload (nx := 922) dL_law_921 rfl hi ?_
      refine wp_invV (nx := 925) (N := M_X10_motif) (as := [cI (S.2.2.2.2.2 (w32 (l3 + 1)))]) (st := []) (mc := 0) (ms := 0) (mc' := mc) (ms' := ms) (a := 0) clsX10 dL_law_922 rfl mok_X10_motif kM_L_130 ki_X10_motif ke_X10_motif (fo_0 F) (ft_0 F) rfl rfl (leB rfl) (leB rfl) (z0 _) (z0 _) (Wp.mono h ?_)
      intro r133 Sq C134 h
      obtain ⟨e9, h⟩ := h
      rw [e9]
      show Wp (d + 1) mc ms M_L_law 925 [cA ((-3)), cA 0, cA 81, cI l3] [cI r133] S C134 Q
      refine wp_aload_n (nx := 926) dL_law_925 rfl rfl ?_
      refine wp_aload_n (nx := 927) dL_law_926 rfl rfl ?_
      refine wp_iload_n (nx := 928) dL_law_927 rfl rfl ?_
      refine wp_iconst (nx := 929) dL_law_928 rfl (i32 (by decide)) ?_
      refine wp_iadd (nx := 930) dL_law_929 rfl ?_
      obtain ⟨hi, h⟩ := h
      refine wp_sload (nx := 931) dL_law_930 rfl hi ?_
      refine wp_invV (nx := 934) (N := M_X11_motif) (as := [cI (S.2.2.2.2.2 (w32 (l3 + 1)))]) (st := [cI r133]) (mc := 0) (ms := 0) (mc' := mc) (ms' := ms) (a := 81) clsX11 dL_law_931 rfl mok_X11_motif kM_L_133 ki_X11_motif ke_X11_motif (fo_81 F) (ft_81 F) rfl rfl (leB rfl) (leB rfl) (z0 _) (z0 _) (Wp.mono h ?_)
      intro r135 Sq C136 h
      obtain ⟨e9, h⟩ := h
      rw [e9]
      show Wp (d + 1) mc ms M_L_law 934 [cA ((-3)), cA 0, cA 81, cI l3] [cI r135, cI r133] S C136 Q
      refine wp_icmp_eq (nx := 937) (tg := 1226) dL_law_934 rfl rfl (fun hc => ?_) (fun hc => ?_)
      · have h := h.1 hc
        refine wp_iinc (nx := 1229) dL_law_1226 rfl rfl (by decide) ?_
        refine wp_ls (ls2 := [cA ((-3)), cA 0, cA 81, cI (w32 (l3 + 6))]) rfl ?_
        refine wp_goto (nx := 18) dL_law_1229 rfl ?_
        exact h
      · have h := h.2 hc
        refine wp_iconst (nx := 938) dL_law_937 rfl (i32 (by decide)) ?_
        exact wp_ireturn dL_law_938 rfl rfl (nz_of (Or.inl rfl)) h
    · have h := h.2.2.2.2.2.2.2.2.2.2.2.2.2.2.2.2.2.2.2.2.2.2.2.2.2.2.2.2.2.2.1 hc
      refine wp_tableIn (tg := 939) (off := 906) dL_law_33 (by omega) (by omega) (by rw [show (iAnd (S.2.2.2.2.2 l3) 63 - 0).toNat = 29 by omega]; rfl) rfl ?_
      refine Wp.deep (d := d + 1) (mc := mc) (ms := ms) ?_ (Nat.le_refl _) (by omega) (by omega)
      refine wp_aload_n (nx := 940) dL_law_939 rfl rfl ?_
      refine wp_invV (nx := 943) (N := M_X10_forget) (as := []) (st := []) (mc := 0) (ms := 0) (mc' := mc) (ms' := ms) (a := 0) clsX10 dL_law_940 rfl mok_X10_forget kM_L_134 ki_X10_forget ke_X10_forget (fo_0 F) (ft_0 F) rfl rfl (leB rfl) (leB rfl) (z0 _) (z0 _) (Wp.mono h ?_)
      intro r137 Sq C138 h
      obtain ⟨e9, h⟩ := h
      rw [e9]
      show Wp (d + 1) mc ms M_L_law 943 [cA ((-3)), cA 0, cA 81, cI l3] [cI r137] S C138 Q
      refine wp_aload_n (nx := 944) dL_law_943 rfl rfl ?_
      refine wp_invV (nx := 947) (N := M_X11_forget) (as := []) (st := [cI r137]) (mc := 0) (ms := 0) (mc' := mc) (ms' := ms) (a := 81) clsX11 dL_law_944 rfl mok_X11_forget kM_L_137 ki_X11_forget ke_X11_forget (fo_81 F) (ft_81 F) rfl rfl (leB rfl) (leB rfl) (z0 _) (z0 _) (Wp.mono h ?_)
      intro r139 Sq C140 h
      obtain ⟨e9, h⟩ := h
      rw [e9]
      show Wp (d + 1) mc ms M_L_law 947 [cA ((-3)), cA 0, cA 81, cI l3] [cI r139, cI r137] S C140 Q
      refine wp_icmp_eq (nx := 950) (tg := 1226) dL_law_947 rfl rfl (fun hc => ?_) (fun hc => ?_)
      · have h := h.1 hc
        refine wp_iinc (nx := 1229) dL_law_1226 rfl rfl (by decide) ?_
        refine wp_ls (ls2 := [cA ((-3)), cA 0, cA 81, cI (w32 (l3 + 6))]) rfl ?_
        refine wp_goto (nx := 18) dL_law_1229 rfl ?_
        exact h
      · have h := h.2 hc
        refine wp_iconst (nx := 951) dL_law_950 rfl (i32 (by decide)) ?_
        exact wp_ireturn dL_law_951 rfl rfl (nz_of (Or.inl rfl)) h
    · have h := h.2.2.2.2.2.2.2.2.2.2.2.2.2.2.2.2.2.2.2.2.2.2.2.2.2.2.2.2.2.2.2.1 hc
      refine wp_tableIn (tg := 952) (off := 919) dL_law_33 (by omega) (by omega) (by rw [show (iAnd (S.2.2.2.2.2 l3) 63 - 0).toNat = 30 by omega]; rfl) rfl ?_
      refine Wp.deep (d := d + 1) (mc := mc) (ms := ms) ?_ (Nat.le_refl _) (by omega) (by omega)
      refine wp_aload_n (nx := 953) dL_law_952 rfl rfl ?_
      refine wp_aload_n (nx := 954) dL_law_953 rfl rfl ?_
      refine wp_iload_n (nx := 955) dL_law_954 rfl rfl ?_
      refine wp_iconst (nx := 956) dL_law_955 rfl (i32 (by decide)) ?_
      refine wp_iadd (nx := 957) dL_law_956 rfl ?_
      obtain ⟨hi, h⟩ := h
      refine wp_sload (nx := 958) dL_law_957 rfl hi ?_
      refine wp_invV (nx := 961) (N := M_X10_find) (as := [cI (S.2.2.2.2.2 (w32 (l3 + 1)))]) (st := []) (mc := 0) (ms := 0) (mc' := mc) (ms' := ms) (a := 0) clsX10 dL_law_958 rfl mok_X10_find kM_L_138 ki_X10_find ke_X10_find (fo_0 F) (ft_0 F) rfl rfl (leB rfl) (leB rfl) (z0 _) (z0 _) (Wp.mono h ?_)
      intro r141 Sq C142 h
      obtain ⟨e9, h⟩ := h
      rw [e9]
      show Wp (d + 1) mc ms M_L_law 961 [cA ((-3)), cA 0, cA 81, cI l3] [cI r141] S C142 Q
      refine wp_aload_n (nx := 962) dL_law_961 rfl rfl ?_
      refine wp_aload_n (nx := 963) dL_law_962 rfl rfl ?_
      refine wp_iload_n (nx := 964) dL_law_963 rfl rfl ?_
      refine wp_iconst (nx := 965) dL_law_964 rfl (i32 (by decide)) ?_
      refine wp_iadd (nx := 966) dL_law_965 rfl ?_
      obtain ⟨hi, h⟩ := h
      refine wp_sload (nx := 967) dL_law_966 rfl hi ?_
      refine wp_invV (nx := 970) (N := M_X11_find) (as := [cI (S.2.2.2.2.2 (w32 (l3 + 1)))]) (st := [cI r141]) (mc := 0) (ms := 0) (mc' := mc) (ms' := ms) (a := 81) clsX11 dL_law_967 rfl mok_X11_find kM_L_141 ki_X11_find ke_X11_find (fo_81 F) (ft_81 F) rfl rfl (leB rfl) (leB rfl) (z0 _) (z0 _) (Wp.mono h ?_)
      intro r143 Sq C144 h
      obtain ⟨e9, h⟩ := h
      rw [e9]
      show Wp (d + 1) mc ms M_L_law 970 [cA ((-3)), cA 0, cA 81, cI l3] [cI r143, cI r141] S C144 Q
      refine wp_icmp_eq (nx := 973) (tg := 1226) dL_law_970 rfl rfl (fun hc => ?_) (fun hc => ?_)
      · have h := h.1 hc
        refine wp_iinc (nx := 1229) dL_law_1226 rfl rfl (by decide) ?_
        refine wp_ls (ls2 := [cA ((-3)), cA 0, cA 81, cI (w32 (l3 + 6))]) rfl ?_
        refine wp_goto (nx := 18) dL_law_1229 rfl ?_
        exact h
      · have h := h.2 hc
        refine wp_iconst (nx := 974) dL_law_973 rfl (i32 (by decide)) ?_
        exact wp_ireturn dL_law_974 rfl rfl (nz_of (Or.inl rfl)) h
    · have h := h.2.2.2.2.2.2.2.2.2.2.2.2.2.2.2.2.2.2.2.2.2.2.2.2.2.2.2.2.2.2.2.2.1 hc
      refine wp_tableIn (tg := 975) (off := 942) dL_law_33 (by omega) (by omega) (by rw [show (iAnd (S.2.2.2.2.2 l3) 63 - 0).toNat = 31 by omega]; rfl) rfl ?_
      refine Wp.deep (d := d + 1) (mc := mc) (ms := ms) ?_ (Nat.le_refl _) (by omega) (by omega)
      refine wp_aload_n (nx := 976) dL_law_975 rfl rfl ?_
      refine wp_aload_n (nx := 977) dL_law_976 rfl rfl ?_
      refine wp_iload_n (nx := 978) dL_law_977 rfl rfl ?_
      refine wp_iconst (nx := 979) dL_law_978 rfl (i32 (by decide)) ?_
      refine wp_iadd (nx := 980) dL_law_979 rfl ?_
      obtain ⟨hi, h⟩ := h
      refine wp_sload (nx := 981) dL_law_980 rfl hi ?_
      refine wp_aload_n (nx := 982) dL_law_981 rfl rfl ?_
      refine wp_iload_n (nx := 983) dL_law_982 rfl rfl ?_
      refine wp_iconst (nx := 984) dL_law_983 rfl (i32 (by decide)) ?_
      refine wp_iadd (nx := 985) dL_law_984 rfl ?_
      obtain ⟨hi, h⟩ := h
      refine wp_sload (nx := 986) dL_law_985 rfl hi ?_
      refine wp_invV (nx := 989) (N := M_X10_owes) (as := [cI (S.2.2.2.2.2 (w32 (l3 + 1))), cI (S.2.2.2.2.2 (w32 (l3 + 2)))]) (st := []) (mc := 0) (ms := 0) (mc' := mc) (ms' := ms) (a := 0) clsX10 dL_law_986 rfl mok_X10_owes kM_L_142 ki_X10_owes ke_X10_owes (fo_0 F) (ft_0 F) rfl rfl (leB rfl) (leB rfl) (z0 _) (z0 _) (Wp.mono h ?_)
      intro r145 S147 C146 h
      obtain ⟨F148, h⟩ := h
      show Wp (d + 1) mc ms M_L_law 989 [cA ((-3)), cA 0, cA 81, cI l3] [cI r145] S147 C146 Q
      refine wp_aload_n (nx := 990) dL_law_989 rfl rfl ?_
      refine wp_aload_n (nx := 991) dL_law_990 rfl rfl ?_
      refine wp_iload_n (nx := 992) dL_law_991 rfl rfl ?_
      refine wp_iconst (nx := 993) dL_law_992 rfl (i32 (by decide)) ?_
      refine wp_iadd (nx := 994) dL_law_993 rfl ?_
      obtain ⟨hi, h⟩ := h
      refine wp_sload (nx := 995) dL_law_994 rfl hi ?_
      refine wp_aload_n (nx := 996) dL_law_995 rfl rfl ?_
      refine wp_iload_n (nx := 997) dL_law_996 rfl rfl ?_
      refine wp_iconst (nx := 998) dL_law_997 rfl (i32 (by decide)) ?_
      refine wp_iadd (nx := 999) dL_law_998 rfl ?_
      obtain ⟨hi, h⟩ := h
      refine wp_sload (nx := 1000) dL_law_999 rfl hi ?_
      refine wp_invV (nx := 1003) (N := M_X11_owes) (as := [cI (S147.2.2.2.2.2 (w32 (l3 + 1))), cI (S147.2.2.2.2.2 (w32 (l3 + 2)))]) (st := [cI r145]) (mc := 0) (ms := 0) (mc' := mc) (ms' := ms) (a := 81) clsX11 dL_law_1000 rfl mok_X11_owes kM_L_145 ki_X11_owes ke_X11_owes (fo_81 F148) (ft_81 F148) rfl rfl (leB rfl) (leB rfl) (z0 _) (z0 _) (Wp.mono h ?_)
      intro r149 Sq C150 h
      obtain ⟨e9, h⟩ := h
      rw [e9]
      show Wp (d + 1) mc ms M_L_law 1003 [cA ((-3)), cA 0, cA 81, cI l3] [cI r149, cI r145] S147 C150 Q
      refine wp_icmp_eq (nx := 1006) (tg := 1226) dL_law_1003 rfl rfl (fun hc => ?_) (fun hc => ?_)
      · have h := h.1 hc
        refine wp_iinc (nx := 1229) dL_law_1226 rfl rfl (by decide) ?_
        refine wp_ls (ls2 := [cA ((-3)), cA 0, cA 81, cI (w32 (l3 + 6))]) rfl ?_
        refine wp_goto (nx := 18) dL_law_1229 rfl ?_
        exact h
      · have h := h.2 hc
        refine wp_iconst (nx := 1007) dL_law_1006 rfl (i32 (by decide)) ?_
        exact wp_ireturn dL_law_1007 rfl rfl (nz_of (Or.inl rfl)) h
    · have h := h.2.2.2.2.2.2.2.2.2.2.2.2.2.2.2.2.2.2.2.2.2.2.2.2.2.2.2.2.2.2.2.2.2.1 hc
      refine wp_tableIn (tg := 1008) (off := 975) dL_law_33 (by omega) (by omega) (by rw [show (iAnd (S.2.2.2.2.2 l3) 63 - 0).toNat = 32 by omega]; rfl) rfl ?_
      refine Wp.deep (d := d + 1) (mc := mc) (ms := ms) ?_ (Nat.le_refl _) (by omega) (by omega)
      refine wp_aload_n (nx := 1009) dL_law_1008 rfl rfl ?_
      refine wp_invV (nx := 1012) (N := M_X10_settled) (as := []) (st := []) (mc := 0) (ms := 0) (mc' := mc) (ms' := ms) (a := 0) clsX10 dL_law_1009 rfl mok_X10_settled kM_L_146 ki_X10_settled ke_X10_settled (fo_0 F) (ft_0 F) rfl rfl (leB rfl) (leB rfl) (z0 _) (z0 _) (Wp.mono h ?_)
      intro r151 S153 C152 h
      obtain ⟨F154, h⟩ := h
      show Wp (d + 1) mc ms M_L_law 1012 [cA ((-3)), cA 0, cA 81, cI l3] [cI r151] S153 C152 Q
      refine wp_aload_n (nx := 1013) dL_law_1012 rfl rfl ?_
      refine wp_invV (nx := 1016) (N := M_X11_settled) (as := []) (st := [cI r151]) (mc := 0) (ms := 0) (mc' := mc) (ms' := ms) (a := 81) clsX11 dL_law_1013 rfl mok_X11_settled kM_L_149 ki_X11_settled ke_X11_settled (fo_81 F154) (ft_81 F154) rfl rfl (leB rfl) (leB rfl) (z0 _) (z0 _) (Wp.mono h ?_)
      intro r155 Sq C156 h
      obtain ⟨e9, h⟩ := h
      rw [e9]
      show Wp (d + 1) mc ms M_L_law 1016 [cA ((-3)), cA 0, cA 81, cI l3] [cI r155, cI r151] S153 C156 Q
      refine wp_icmp_eq (nx := 1019) (tg := 1226) dL_law_1016 rfl rfl (fun hc => ?_) (fun hc => ?_)
      · have h := h.1 hc
        refine wp_iinc (nx := 1229) dL_law_1226 rfl rfl (by decide) ?_
        refine wp_ls (ls2 := [cA ((-3)), cA 0, cA 81, cI (w32 (l3 + 6))]) rfl ?_
        refine wp_goto (nx := 18) dL_law_1229 rfl ?_
        exact h
      · have h := h.2 hc
        refine wp_iconst (nx := 1020) dL_law_1019 rfl (i32 (by decide)) ?_
        exact wp_ireturn dL_law_1020 rfl rfl (nz_of (Or.inl rfl)) h
    · have h := h.2.2.2.2.2.2.2.2.2.2.2.2.2.2.2.2.2.2.2.2.2.2.2.2.2.2.2.2.2.2.2.2.2.2.1 hc
      refine wp_tableIn (tg := 1021) (off := 988) dL_law_33 (by omega) (by omega) (by rw [show (iAnd (S.2.2.2.2.2 l3) 63 - 0).toNat = 33 by omega]; rfl) rfl ?_
      refine Wp.deep (d := d + 1) (mc := mc) (ms := ms) ?_ (Nat.le_refl _) (by omega) (by omega)
      refine wp_aload_n (nx := 1022) dL_law_1021 rfl rfl ?_
      refine wp_aload_n (nx := 1023) dL_law_1022 rfl rfl ?_
      refine wp_iload_n (nx := 1024) dL_law_1023 rfl rfl ?_
      refine wp_iconst (nx := 1025) dL_law_1024 rfl (i32 (by decide)) ?_
      refine wp_iadd (nx := 1026) dL_law_1025 rfl ?_
      obtain ⟨hi, h⟩ := h
      refine wp_sload (nx := 1027) dL_law_1026 rfl hi ?_
      refine wp_aload_n (nx := 1028) dL_law_1027 rfl rfl ?_
      refine wp_iload_n (nx := 1029) dL_law_1028 rfl rfl ?_
      refine wp_iconst (nx := 1030) dL_law_1029 rfl (i32 (by decide)) ?_
      refine wp_iadd (nx := 1031) dL_law_1030 rfl ?_
      obtain ⟨hi, h⟩ := h
      refine wp_sload (nx := 1032) dL_law_1031 rfl hi ?_
      refine wp_invV (nx := 1035) (N := M_X10_few) (as := [cI (S.2.2.2.2.2 (w32 (l3 + 1))), cI (S.2.2.2.2.2 (w32 (l3 + 2)))]) (st := []) (mc := 0) (ms := 0) (mc' := mc) (ms' := ms) (a := 0) clsX10 dL_law_1032 rfl mok_X10_few kM_L_150 ki_X10_few ke_X10_few (fo_0 F) (ft_0 F) rfl rfl (leB rfl) (leB rfl) (z0 _) (z0 _) (Wp.mono h ?_)
      intro r157 Sq C158 h
      obtain ⟨e9, h⟩ := h
      rw [e9]
      show Wp (d + 1) mc ms M_L_law 1035 [cA ((-3)), cA 0, cA 81, cI l3] [cJ r157] S C158 Q
      refine wp_aload_n (nx := 1036) dL_law_1035 rfl rfl ?_
      refine wp_aload_n (nx := 1037) dL_law_1036 rfl rfl ?_
      refine wp_iload_n (nx := 1038) dL_law_1037 rfl rfl ?_
      refine wp_iconst (nx := 1039) dL_law_1038 rfl (i32 (by decide)) ?_
      refine wp_iadd (nx := 1040) dL_law_1039 rfl ?_
      obtain ⟨hi, h⟩ := h
      refine wp_sload (nx := 1041) dL_law_1040 rfl hi ?_
      refine wp_aload_n (nx := 1042) dL_law_1041 rfl rfl ?_
      refine wp_iload_n (nx := 1043) dL_law_1042 rfl rfl ?_
      refine wp_iconst (nx := 1044) dL_law_1043 rfl (i32 (by decide)) ?_
      refine wp_iadd (nx := 1045) dL_law_1044 rfl ?_
      obtain ⟨hi, h⟩ := h
      refine wp_sload (nx := 1046) dL_law_1045 rfl hi ?_
      refine wp_invV (nx := 1049) (N := M_X11_few) (as := [cI (S.2.2.2.2.2 (w32 (l3 + 1))), cI (S.2.2.2.2.2 (w32 (l3 + 2)))]) (st := [cJ r157]) (mc := 0) (ms := 0) (mc' := mc) (ms' := ms) (a := 81) clsX11 dL_law_1046 rfl mok_X11_few kM_L_154 ki_X11_few ke_X11_few (fo_81 F) (ft_81 F) rfl rfl (leB rfl) (leB rfl) (z0 _) (z0 _) (Wp.mono h ?_)
      intro r159 Sq C160 h
      obtain ⟨e9, h⟩ := h
      rw [e9]
      show Wp (d + 1) mc ms M_L_law 1049 [cA ((-3)), cA 0, cA 81, cI l3] [cJ r159, cJ r157] S C160 Q
      refine wp_lcmp (nx := 1050) dL_law_1049 rfl ?_
      refine wp_if_eq (nx := 1053) (tg := 1226) dL_law_1050 rfl rfl (fun hc => ?_) (fun hc => ?_)
      · have h := h.1 hc
        refine wp_iinc (nx := 1229) dL_law_1226 rfl rfl (by decide) ?_
        refine wp_ls (ls2 := [cA ((-3)), cA 0, cA 81, cI (w32 (l3 + 6))]) rfl ?_
        refine wp_goto (nx := 18) dL_law_1229 rfl ?_
        exact h
      · have h := h.2 hc
        refine wp_iconst (nx := 1054) dL_law_1053 rfl (i32 (by decide)) ?_
        exact wp_ireturn dL_law_1054 rfl rfl (nz_of (Or.inl rfl)) h
    · have h := h.2.2.2.2.2.2.2.2.2.2.2.2.2.2.2.2.2.2.2.2.2.2.2.2.2.2.2.2.2.2.2.2.2.2.2.1 hc
      refine wp_tableIn (tg := 1055) (off := 1022) dL_law_33 (by omega) (by omega) (by rw [show (iAnd (S.2.2.2.2.2 l3) 63 - 0).toNat = 34 by omega]; rfl) rfl ?_
      refine Wp.deep (d := d + 1) (mc := mc) (ms := ms) ?_ (Nat.le_refl _) (by omega) (by omega)
      refine wp_aload_n (nx := 1056) dL_law_1055 rfl rfl ?_
      refine wp_aload_n (nx := 1057) dL_law_1056 rfl rfl ?_
      refine wp_iload_n (nx := 1058) dL_law_1057 rfl rfl ?_
      refine wp_iconst (nx := 1059) dL_law_1058 rfl (i32 (by decide)) ?_
      refine wp_iadd (nx := 1060) dL_law_1059 rfl ?_
      obtain ⟨hi, h⟩ := h
      refine wp_sload (nx := 1061) dL_law_1060 rfl hi ?_
      refine wp_invV (nx := 1064) (N := M_X10_compare) (as := [cI (S.2.2.2.2.2 (w32 (l3 + 1)))]) (st := []) (mc := 0) (ms := 0) (mc' := mc) (ms' := ms) (a := 0) clsX10 dL_law_1061 rfl mok_X10_compare kM_L_155 ki_X10_compare ke_X10_compare (fo_0 F) (ft_0 F) rfl rfl (leB rfl) (leB rfl) (z0 _) (z0 _) (Wp.mono h ?_)
      intro r161 S163 C162 h
      obtain ⟨F164, h⟩ := h
      show Wp (d + 1) mc ms M_L_law 1064 [cA ((-3)), cA 0, cA 81, cI l3] [cI r161] S163 C162 Q
      refine wp_aload_n (nx := 1065) dL_law_1064 rfl rfl ?_
      refine wp_aload_n (nx := 1066) dL_law_1065 rfl rfl ?_
      refine wp_iload_n (nx := 1067) dL_law_1066 rfl rfl ?_
      refine wp_iconst (nx := 1068) dL_law_1067 rfl (i32 (by decide)) ?_
      refine wp_iadd (nx := 1069) dL_law_1068 rfl ?_
      obtain ⟨hi, h⟩ := h
      refine wp_sload (nx := 1070) dL_law_1069 rfl hi ?_
      refine wp_invV (nx := 1073) (N := M_X11_compare) (as := [cI (S163.2.2.2.2.2 (w32 (l3 + 1)))]) (st := [cI r161]) (mc := 0) (ms := 0) (mc' := mc) (ms' := ms) (a := 81) clsX11 dL_law_1070 rfl mok_X11_compare kM_L_158 ki_X11_compare ke_X11_compare (fo_81 F164) (ft_81 F164) rfl rfl (leB rfl) (leB rfl) (z0 _) (z0 _) (Wp.mono h ?_)
      intro r165 Sq C166 h
      obtain ⟨e9, h⟩ := h
      rw [e9]
      show Wp (d + 1) mc ms M_L_law 1073 [cA ((-3)), cA 0, cA 81, cI l3] [cI r165, cI r161] S163 C166 Q
      refine wp_icmp_eq (nx := 1076) (tg := 1226) dL_law_1073 rfl rfl (fun hc => ?_) (fun hc => ?_)
      · have h := h.1 hc
        refine wp_iinc (nx := 1229) dL_law_1226 rfl rfl (by decide) ?_
        refine wp_ls (ls2 := [cA ((-3)), cA 0, cA 81, cI (w32 (l3 + 6))]) rfl ?_
        refine wp_goto (nx := 18) dL_law_1229 rfl ?_
        exact h
      · have h := h.2 hc
        refine wp_iconst (nx := 1077) dL_law_1076 rfl (i32 (by decide)) ?_
        exact wp_ireturn dL_law_1077 rfl rfl (nz_of (Or.inl rfl)) h
    · have h := h.2.2.2.2.2.2.2.2.2.2.2.2.2.2.2.2.2.2.2.2.2.2.2.2.2.2.2.2.2.2.2.2.2.2.2.2.1 hc
      refine wp_tableIn (tg := 1078) (off := 1045) dL_law_33 (by omega) (by omega) (by rw [show (iAnd (S.2.2.2.2.2 l3) 63 - 0).toNat = 35 by omega]; rfl) rfl ?_
      refine Wp.deep (d := d + 1) (mc := mc) (ms := ms) ?_ (Nat.le_refl _) (by omega) (by omega)
      refine wp_aload_n (nx := 1079) dL_law_1078 rfl rfl ?_
      refine wp_aload_n (nx := 1080) dL_law_1079 rfl rfl ?_
      refine wp_iload_n (nx := 1081) dL_law_1080 rfl rfl ?_
      refine wp_iconst (nx := 1082) dL_law_1081 rfl (i32 (by decide)) ?_
      refine wp_iadd (nx := 1083) dL_law_1082 rfl ?_
      obtain ⟨hi, h⟩ := h
      refine wp_sload (nx := 1084) dL_law_1083 rfl hi ?_
      refine wp_aload_n (nx := 1085) dL_law_1084 rfl rfl ?_
      refine wp_iload_n (nx := 1086) dL_law_1085 rfl rfl ?_
      refine wp_iconst (nx := 1087) dL_law_1086 rfl (i32 (by decide)) ?_
      refine wp_iadd (nx := 1088) dL_law_1087 rfl ?_
      obtain ⟨hi, h⟩ := h
      refine wp_sload (nx := 1089) dL_law_1088 rfl hi ?_
      refine wp_invV (nx := 1092) (N := M_X10_evenings) (as := [cI (S.2.2.2.2.2 (w32 (l3 + 1))), cI (S.2.2.2.2.2 (w32 (l3 + 2)))]) (st := []) (mc := 0) (ms := 0) (mc' := mc) (ms' := ms) (a := 0) clsX10 dL_law_1089 rfl mok_X10_evenings kM_L_159 ki_X10_evenings ke_X10_evenings (fo_0 F) (ft_0 F) rfl rfl (leB rfl) (leB rfl) (z0 _) (z0 _) (Wp.mono h ?_)
      intro r167 S169 C168 h
      obtain ⟨F170, h⟩ := h
      show Wp (d + 1) mc ms M_L_law 1092 [cA ((-3)), cA 0, cA 81, cI l3] [cI r167] S169 C168 Q
      refine wp_aload_n (nx := 1093) dL_law_1092 rfl rfl ?_
      refine wp_aload_n (nx := 1094) dL_law_1093 rfl rfl ?_
      refine wp_iload_n (nx := 1095) dL_law_1094 rfl rfl ?_
      refine wp_iconst (nx := 1096) dL_law_1095 rfl (i32 (by decide)) ?_
      refine wp_iadd (nx := 1097) dL_law_1096 rfl ?_
      obtain ⟨hi, h⟩ := h
      refine wp_sload (nx := 1098) dL_law_1097 rfl hi ?_
      refine wp_aload_n (nx := 1099) dL_law_1098 rfl rfl ?_
      refine wp_iload_n (nx := 1100) dL_law_1099 rfl rfl ?_
      refine wp_iconst (nx := 1101) dL_law_1100 rfl (i32 (by decide)) ?_
      refine wp_iadd (nx := 1102) dL_law_1101 rfl ?_
      obtain ⟨hi, h⟩ := h
      refine wp_sload (nx := 1103) dL_law_1102 rfl hi ?_
      refine wp_invV (nx := 1106) (N := M_X11_evenings) (as := [cI (S169.2.2.2.2.2 (w32 (l3 + 1))), cI (S169.2.2.2.2.2 (w32 (l3 + 2)))]) (st := [cI r167]) (mc := 0) (ms := 0) (mc' := mc) (ms' := ms) (a := 81) clsX11 dL_law_1103 rfl mok_X11_evenings kM_L_162 ki_X11_evenings ke_X11_evenings (fo_81 F170) (ft_81 F170) rfl rfl (leB rfl) (leB rfl) (z0 _) (z0 _) (Wp.mono h ?_)
      intro r171 Sq C172 h
      obtain ⟨e9, h⟩ := h
      rw [e9]
      show Wp (d + 1) mc ms M_L_law 1106 [cA ((-3)), cA 0, cA 81, cI l3] [cI r171, cI r167] S169 C172 Q
      refine wp_icmp_eq (nx := 1109) (tg := 1226) dL_law_1106 rfl rfl (fun hc => ?_) (fun hc => ?_)
      · have h := h.1 hc
        refine wp_iinc (nx := 1229) dL_law_1226 rfl rfl (by decide) ?_
        refine wp_ls (ls2 := [cA ((-3)), cA 0, cA 81, cI (w32 (l3 + 6))]) rfl ?_
        refine wp_goto (nx := 18) dL_law_1229 rfl ?_
        exact h
      · have h := h.2 hc
        refine wp_iconst (nx := 1110) dL_law_1109 rfl (i32 (by decide)) ?_
        exact wp_ireturn dL_law_1110 rfl rfl (nz_of (Or.inl rfl)) h
    · have h := h.2.2.2.2.2.2.2.2.2.2.2.2.2.2.2.2.2.2.2.2.2.2.2.2.2.2.2.2.2.2.2.2.2.2.2.2.2.1 hc
      refine wp_tableIn (tg := 1111) (off := 1078) dL_law_33 (by omega) (by omega) (by rw [show (iAnd (S.2.2.2.2.2 l3) 63 - 0).toNat = 36 by omega]; rfl) rfl ?_
      refine Wp.deep (d := d + 1) (mc := mc) (ms := ms) ?_ (Nat.le_refl _) (by omega) (by omega)
      refine wp_aload_n (nx := 1112) dL_law_1111 rfl rfl ?_
      refine wp_aload_n (nx := 1113) dL_law_1112 rfl rfl ?_
      refine wp_iload_n (nx := 1114) dL_law_1113 rfl rfl ?_
      refine wp_iconst (nx := 1115) dL_law_1114 rfl (i32 (by decide)) ?_
      refine wp_iadd (nx := 1116) dL_law_1115 rfl ?_
      obtain ⟨hi, h⟩ := h
      refine wp_sload (nx := 1117) dL_law_1116 rfl hi ?_
      refine wp_aload_n (nx := 1118) dL_law_1117 rfl rfl ?_
      refine wp_iload_n (nx := 1119) dL_law_1118 rfl rfl ?_
      refine wp_iconst (nx := 1120) dL_law_1119 rfl (i32 (by decide)) ?_
      refine wp_iadd (nx := 1121) dL_law_1120 rfl ?_
      obtain ⟨hi, h⟩ := h
      refine wp_sload (nx := 1122) dL_law_1121 rfl hi ?_
      refine wp_invV (nx := 1125) (N := M_X10_drawn) (as := [cI (S.2.2.2.2.2 (w32 (l3 + 1))), cI (S.2.2.2.2.2 (w32 (l3 + 2)))]) (st := []) (mc := 0) (ms := 0) (mc' := mc) (ms' := ms) (a := 0) clsX10 dL_law_1122 rfl mok_X10_drawn kM_L_163 ki_X10_drawn ke_X10_drawn (fo_0 F) (ft_0 F) rfl rfl (leB rfl) (leB rfl) (z0 _) (z0 _) (Wp.mono h ?_)
      intro r173 Sq C174 h
      obtain ⟨e9, h⟩ := h
      rw [e9]
      show Wp (d + 1) mc ms M_L_law 1125 [cA ((-3)), cA 0, cA 81, cI l3] [cI r173] S C174 Q
      refine wp_aload_n (nx := 1126) dL_law_1125 rfl rfl ?_
      refine wp_aload_n (nx := 1127) dL_law_1126 rfl rfl ?_
      refine wp_iload_n (nx := 1128) dL_law_1127 rfl rfl ?_
      refine wp_iconst (nx := 1129) dL_law_1128 rfl (i32 (by decide)) ?_
      refine wp_iadd (nx := 1130) dL_law_1129 rfl ?_
      obtain ⟨hi, h⟩ := h
      refine wp_sload (nx := 1131) dL_law_1130 rfl hi ?_
      refine wp_aload_n (nx := 1132) dL_law_1131 rfl rfl ?_
      refine wp_iload_n (nx := 1133) dL_law_1132 rfl rfl ?_
      refine wp_iconst (nx := 1134) dL_law_1133 rfl (i32 (by decide)) ?_
      refine wp_iadd (nx := 1135) dL_law_1134 rfl ?_
      obtain ⟨hi, h⟩ := h
      refine wp_sload (nx := 1136) dL_law_1135 rfl hi ?_
      refine wp_invV (nx := 1139) (N := M_X11_drawn) (as := [cI (S.2.2.2.2.2 (w32 (l3 + 1))), cI (S.2.2.2.2.2 (w32 (l3 + 2)))]) (st := [cI r173]) (mc := 0) (ms := 0) (mc' := mc) (ms' := ms) (a := 81) clsX11 dL_law_1136 rfl mok_X11_drawn kM_L_166 ki_X11_drawn ke_X11_drawn (fo_81 F) (ft_81 F) rfl rfl (leB rfl) (leB rfl) (z0 _) (z0 _) (Wp.mono h ?_)
      intro r175 Sq C176 h
      obtain ⟨e9, h⟩ := h
      rw [e9]
      show Wp (d + 1) mc ms M_L_law 1139 [cA ((-3)), cA 0, cA 81, cI l3] [cI r175, cI r173] S C176 Q
      refine wp_icmp_eq (nx := 1142) (tg := 1226) dL_law_1139 rfl rfl (fun hc => ?_) (fun hc => ?_)
      · have h := h.1 hc
        refine wp_iinc (nx := 1229) dL_law_1226 rfl rfl (by decide) ?_
        refine wp_ls (ls2 := [cA ((-3)), cA 0, cA 81, cI (w32 (l3 + 6))]) rfl ?_
        refine wp_goto (nx := 18) dL_law_1229 rfl ?_
        exact h
      · have h := h.2 hc
        refine wp_iconst (nx := 1143) dL_law_1142 rfl (i32 (by decide)) ?_
        exact wp_ireturn dL_law_1143 rfl rfl (nz_of (Or.inl rfl)) h
    · have h := h.2.2.2.2.2.2.2.2.2.2.2.2.2.2.2.2.2.2.2.2.2.2.2.2.2.2.2.2.2.2.2.2.2.2.2.2.2.2.1 hc
      refine wp_tableIn (tg := 1144) (off := 1111) dL_law_33 (by omega) (by omega) (by rw [show (iAnd (S.2.2.2.2.2 l3) 63 - 0).toNat = 37 by omega]; rfl) rfl ?_
      refine Wp.deep (d := d + 1) (mc := mc) (ms := ms) ?_ (Nat.le_refl _) (by omega) (by omega)
      refine wp_aload_n (nx := 1145) dL_law_1144 rfl rfl ?_
      refine wp_aload_n (nx := 1146) dL_law_1145 rfl rfl ?_
      refine wp_iload_n (nx := 1147) dL_law_1146 rfl rfl ?_
      refine wp_iconst (nx := 1148) dL_law_1147 rfl (i32 (by decide)) ?_
      refine wp_iadd (nx := 1149) dL_law_1148 rfl ?_
      obtain ⟨hi, h⟩ := h
      refine wp_sload (nx := 1150) dL_law_1149 rfl hi ?_
      refine wp_invV (nx := 1153) (N := M_X10_image) (as := [cI (S.2.2.2.2.2 (w32 (l3 + 1)))]) (st := []) (mc := 0) (ms := 0) (mc' := mc) (ms' := ms) (a := 0) clsX10 dL_law_1150 rfl mok_X10_image kM_L_167 ki_X10_image ke_X10_image (fo_0 F) (ft_0 F) rfl rfl (leB rfl) (leB rfl) (z0 _) (z0 _) (Wp.mono h ?_)
      intro r177 S179 C178 h
      obtain ⟨F180, h⟩ := h
      show Wp (d + 1) mc ms M_L_law 1153 [cA ((-3)), cA 0, cA 81, cI l3] [cI r177] S179 C178 Q
      refine wp_aload_n (nx := 1154) dL_law_1153 rfl rfl ?_
      refine wp_aload_n (nx := 1155) dL_law_1154 rfl rfl ?_
      refine wp_iload_n (nx := 1156) dL_law_1155 rfl rfl ?_
      refine wp_iconst (nx := 1157) dL_law_1156 rfl (i32 (by decide)) ?_
      refine wp_iadd (nx := 1158) dL_law_1157 rfl ?_
      obtain ⟨hi, h⟩ := h
      refine wp_sload (nx := 1159) dL_law_1158 rfl hi ?_
      refine wp_invV (nx := 1162) (N := M_X11_image) (as := [cI (S179.2.2.2.2.2 (w32 (l3 + 1)))]) (st := [cI r177]) (mc := 0) (ms := 0) (mc' := mc) (ms' := ms) (a := 81) clsX11 dL_law_1159 rfl mok_X11_image kM_L_170 ki_X11_image ke_X11_image (fo_81 F180) (ft_81 F180) rfl rfl (leB rfl) (leB rfl) (z0 _) (z0 _) (Wp.mono h ?_)
      intro r181 Sq C182 h
      obtain ⟨e9, h⟩ := h
      rw [e9]
      show Wp (d + 1) mc ms M_L_law 1162 [cA ((-3)), cA 0, cA 81, cI l3] [cI r181, cI r177] S179 C182 Q
      refine wp_icmp_eq (nx := 1165) (tg := 1226) dL_law_1162 rfl rfl (fun hc => ?_) (fun hc => ?_)
      · have h := h.1 hc
        refine wp_iinc (nx := 1229) dL_law_1226 rfl rfl (by decide) ?_
        refine wp_ls (ls2 := [cA ((-3)), cA 0, cA 81, cI (w32 (l3 + 6))]) rfl ?_
        refine wp_goto (nx := 18) dL_law_1229 rfl ?_
        exact h
      · have h := h.2 hc
        refine wp_iconst (nx := 1166) dL_law_1165 rfl (i32 (by decide)) ?_
        exact wp_ireturn dL_law_1166 rfl rfl (nz_of (Or.inl rfl)) h
    · have h := h.2.2.2.2.2.2.2.2.2.2.2.2.2.2.2.2.2.2.2.2.2.2.2.2.2.2.2.2.2.2.2.2.2.2.2.2.2.2.2.1 hc
      refine wp_tableIn (tg := 1167) (off := 1134) dL_law_33 (by omega) (by omega) (by rw [show (iAnd (S.2.2.2.2.2 l3) 63 - 0).toNat = 38 by omega]; rfl) rfl ?_
      refine Wp.deep (d := d + 1) (mc := mc) (ms := ms) ?_ (Nat.le_refl _) (by omega) (by omega)
      refine wp_aload_n (nx := 1168) dL_law_1167 rfl rfl ?_
      refine wp_aload_n (nx := 1169) dL_law_1168 rfl rfl ?_
      refine wp_iload_n (nx := 1170) dL_law_1169 rfl rfl ?_
      refine wp_iconst (nx := 1171) dL_law_1170 rfl (i32 (by decide)) ?_
      refine wp_iadd (nx := 1172) dL_law_1171 rfl ?_
      obtain ⟨hi, h⟩ := h
      refine wp_sload (nx := 1173) dL_law_1172 rfl hi ?_
      refine wp_invV (nx := 1176) (N := M_X10_back) (as := [cI (S.2.2.2.2.2 (w32 (l3 + 1)))]) (st := []) (mc := 0) (ms := 0) (mc' := mc) (ms' := ms) (a := 0) clsX10 dL_law_1173 rfl mok_X10_back kM_L_171 ki_X10_back ke_X10_back (fo_0 F) (ft_0 F) rfl rfl (leB rfl) (leB rfl) (z0 _) (z0 _) (Wp.mono h ?_)
      intro r183 S185 C184 h
      obtain ⟨F186, h⟩ := h
      show Wp (d + 1) mc ms M_L_law 1176 [cA ((-3)), cA 0, cA 81, cI l3] [cI r183] S185 C184 Q
      refine wp_aload_n (nx := 1177) dL_law_1176 rfl rfl ?_
      refine wp_aload_n (nx := 1178) dL_law_1177 rfl rfl ?_
      refine wp_iload_n (nx := 1179) dL_law_1178 rfl rfl ?_
      refine wp_iconst (nx := 1180) dL_law_1179 rfl (i32 (by decide)) ?_
      refine wp_iadd (nx := 1181) dL_law_1180 rfl ?_
      obtain ⟨hi, h⟩ := h
      refine wp_sload (nx := 1182) dL_law_1181 rfl hi ?_
      refine wp_invV (nx := 1185) (N := M_X11_back) (as := [cI (S185.2.2.2.2.2 (w32 (l3 + 1)))]) (st := [cI r183]) (mc := 0) (ms := 0) (mc' := mc) (ms' := ms) (a := 81) clsX11 dL_law_1182 rfl mok_X11_back kM_L_174 ki_X11_back ke_X11_back (fo_81 F186) (ft_81 F186) rfl rfl (leB rfl) (leB rfl) (z0 _) (z0 _) (Wp.mono h ?_)
      intro r187 Sq C188 h
      obtain ⟨e9, h⟩ := h
      rw [e9]
      show Wp (d + 1) mc ms M_L_law 1185 [cA ((-3)), cA 0, cA 81, cI l3] [cI r187, cI r183] S185 C188 Q
      refine wp_icmp_eq (nx := 1188) (tg := 1226) dL_law_1185 rfl rfl (fun hc => ?_) (fun hc => ?_)
      · have h := h.1 hc
        refine wp_iinc (nx := 1229) dL_law_1226 rfl rfl (by decide) ?_
        refine wp_ls (ls2 := [cA ((-3)), cA 0, cA 81, cI (w32 (l3 + 6))]) rfl ?_
        refine wp_goto (nx := 18) dL_law_1229 rfl ?_
        exact h
      · have h := h.2 hc
        refine wp_iconst (nx := 1189) dL_law_1188 rfl (i32 (by decide)) ?_
        exact wp_ireturn dL_law_1189 rfl rfl (nz_of (Or.inl rfl)) h
    · have h := h.2.2.2.2.2.2.2.2.2.2.2.2.2.2.2.2.2.2.2.2.2.2.2.2.2.2.2.2.2.2.2.2.2.2.2.2.2.2.2.2.1 hc
      refine wp_tableIn (tg := 1190) (off := 1157) dL_law_33 (by omega) (by omega) (by rw [show (iAnd (S.2.2.2.2.2 l3) 63 - 0).toNat = 39 by omega]; rfl) rfl ?_
      refine Wp.deep (d := d + 1) (mc := mc) (ms := ms) ?_ (Nat.le_refl _) (by omega) (by omega)
      refine wp_aload_n (nx := 1191) dL_law_1190 rfl rfl ?_
      refine wp_aload_n (nx := 1192) dL_law_1191 rfl rfl ?_
      refine wp_iload_n (nx := 1193) dL_law_1192 rfl rfl ?_
      refine wp_iconst (nx := 1194) dL_law_1193 rfl (i32 (by decide)) ?_
      refine wp_iadd (nx := 1195) dL_law_1194 rfl ?_
      obtain ⟨hi, h⟩ := h
      refine wp_sload (nx := 1196) dL_law_1195 rfl hi ?_
      refine wp_invV (nx := 1199) (N := M_X10_count) (as := [cI (S.2.2.2.2.2 (w32 (l3 + 1)))]) (st := []) (mc := 0) (ms := 0) (mc' := mc) (ms' := ms) (a := 0) clsX10 dL_law_1196 rfl mok_X10_count kM_L_175 ki_X10_count ke_X10_count (fo_0 F) (ft_0 F) rfl rfl (leB rfl) (leB rfl) (z0 _) (z0 _) (Wp.mono h ?_)
      intro r189 Sq C190 h
      obtain ⟨e9, h⟩ := h
      rw [e9]
      show Wp (d + 1) mc ms M_L_law 1199 [cA ((-3)), cA 0, cA 81, cI l3] [cI r189] S C190 Q
      refine wp_aload_n (nx := 1200) dL_law_1199 rfl rfl ?_
      refine wp_aload_n (nx := 1201) dL_law_1200 rfl rfl ?_
      refine wp_iload_n (nx := 1202) dL_law_1201 rfl rfl ?_
      refine wp_iconst (nx := 1203) dL_law_1202 rfl (i32 (by decide)) ?_
      refine wp_iadd (nx := 1204) dL_law_1203 rfl ?_
      obtain ⟨hi, h⟩ := h
      refine wp_sload (nx := 1205) dL_law_1204 rfl hi ?_
      refine wp_invV (nx := 1208) (N := M_X11_count) (as := [cI (S.2.2.2.2.2 (w32 (l3 + 1)))]) (st := [cI r189]) (mc := 0) (ms := 0) (mc' := mc) (ms' := ms) (a := 81) clsX11 dL_law_1205 rfl mok_X11_count kM_L_178 ki_X11_count ke_X11_count (fo_81 F) (ft_81 F) rfl rfl (leB rfl) (leB rfl) (z0 _) (z0 _) (Wp.mono h ?_)
      intro r191 Sq C192 h
      obtain ⟨e9, h⟩ := h
      rw [e9]
      show Wp (d + 1) mc ms M_L_law 1208 [cA ((-3)), cA 0, cA 81, cI l3] [cI r191, cI r189] S C192 Q
      refine wp_icmp_eq (nx := 1211) (tg := 1226) dL_law_1208 rfl rfl (fun hc => ?_) (fun hc => ?_)
      · have h := h.1 hc
        refine wp_iinc (nx := 1229) dL_law_1226 rfl rfl (by decide) ?_
        refine wp_ls (ls2 := [cA ((-3)), cA 0, cA 81, cI (w32 (l3 + 6))]) rfl ?_
        refine wp_goto (nx := 18) dL_law_1229 rfl ?_
        exact h
      · have h := h.2 hc
        refine wp_iconst (nx := 1212) dL_law_1211 rfl (i32 (by decide)) ?_
        exact wp_ireturn dL_law_1212 rfl rfl (nz_of (Or.inl rfl)) h
    · have h := h.2.2.2.2.2.2.2.2.2.2.2.2.2.2.2.2.2.2.2.2.2.2.2.2.2.2.2.2.2.2.2.2.2.2.2.2.2.2.2.2.2 hc
      refine wp_tableIn (tg := 1213) (off := 1180) dL_law_33 (by omega) (by omega) (by rw [show (iAnd (S.2.2.2.2.2 l3) 63 - 0).toNat = 40 by omega]; rfl) rfl ?_
      refine Wp.deep (d := d + 1) (mc := mc) (ms := ms) ?_ (Nat.le_refl _) (by omega) (by omega)
      refine wp_aload_n (nx := 1214) dL_law_1213 rfl rfl ?_
      refine wp_invV (nx := 1217) (N := M_X10_status) (as := []) (st := []) (mc := 0) (ms := 0) (mc' := mc) (ms' := ms) (a := 0) clsX10 dL_law_1214 rfl mok_X10_status kM_L_179 ki_X10_status ke_X10_status (fo_0 F) (ft_0 F) rfl rfl (leB rfl) (leB rfl) (z0 _) (z0 _) (Wp.mono h ?_)
      intro r193 Sq C194 h
      obtain ⟨e9, h⟩ := h
      rw [e9]
      show Wp (d + 1) mc ms M_L_law 1217 [cA ((-3)), cA 0, cA 81, cI l3] [cI r193] S C194 Q
      refine wp_aload_n (nx := 1218) dL_law_1217 rfl rfl ?_
      refine wp_invV (nx := 1221) (N := M_X11_status) (as := []) (st := [cI r193]) (mc := 0) (ms := 0) (mc' := mc) (ms' := ms) (a := 81) clsX11 dL_law_1218 rfl mok_X11_status kM_L_182 ki_X11_status ke_X11_status (fo_81 F) (ft_81 F) rfl rfl (leB rfl) (leB rfl) (z0 _) (z0 _) (Wp.mono h ?_)
      intro r195 Sq C196 h
      obtain ⟨e9, h⟩ := h
      rw [e9]
      show Wp (d + 1) mc ms M_L_law 1221 [cA ((-3)), cA 0, cA 81, cI l3] [cI r195, cI r193] S C196 Q
      refine wp_icmp_eq (nx := 1224) (tg := 1226) dL_law_1221 rfl rfl (fun hc => ?_) (fun hc => ?_)
      · have h := h.1 hc
        refine wp_iinc (nx := 1229) dL_law_1226 rfl rfl (by decide) ?_
        refine wp_ls (ls2 := [cA ((-3)), cA 0, cA 81, cI (w32 (l3 + 6))]) rfl ?_
        refine wp_goto (nx := 18) dL_law_1229 rfl ?_
        exact h
      · have h := h.2 hc
        refine wp_iconst (nx := 1225) dL_law_1224 rfl (i32 (by decide)) ?_
        exact wp_ireturn dL_law_1225 rfl rfl (nz_of (Or.inl rfl)) h
