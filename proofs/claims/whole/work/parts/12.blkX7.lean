/-! blocks -/
theorem b_X7_copyFrom_0 {d mc ms : Nat} {l0 l1 : Int} {S : MS} {C : MC} {Q : Int → MS → MC → Prop} (F : Fix S) (hs_l0 : isSt l0) (hs_l1 : isSt l1) (h : K_X7_copyFrom_93 (d + 1) mc ms l0 l1 0 S (upC (cpC (cpC (cpC (cpC (cpC (upC C l0 0 (C l1 0)) (l1 + 1) 0 (l0 + 1) 0 6) (l1 + 2) 0 (l0 + 2) 0 6) (l1 + 3) 0 (l0 + 3) 0 8) (l1 + 4) 0 (l0 + 4) 0 16) (l1 + 5) 0 (l0 + 5) 0 6) l0 6 ((cpC (cpC (cpC (cpC (cpC (upC C l0 0 (C l1 0)) (l1 + 1) 0 (l0 + 1) 0 6) (l1 + 2) 0 (l0 + 2) 0 6) (l1 + 3) 0 (l0 + 3) 0 8) (l1 + 4) 0 (l0 + 4) 0 16) (l1 + 5) 0 (l0 + 5) 0 6) l1 6)) Q) : K_X7_copyFrom_0 (d + 1) mc ms l0 l1 S C Q := by
  show Wp (d + 1) mc ms M_X7_copyFrom 0 [cA l0, cA l1, cU] [] S C Q
  refine wp_aload_n (nx := 1) dX7_copyFrom_0 rfl rfl ?_
  refine wp_aload_n (nx := 2) dX7_copyFrom_1 rfl rfl ?_
  refine wp_getIe (kk := 0) 0 (nx := 5) clsX7 dX7_copyFrom_2 rfl kF_X7_46 (by decide) (st_b0 F hs_l1) (st_t0 F hs_l1) rfl rfl rfl ?_
  refine wp_putIe (kk := 0) 0 (nx := 8) clsX7 dX7_copyFrom_5 rfl kF_X7_46 (by decide) (st_b0 F hs_l0) (st_t0 F hs_l0) rfl rfl ⟨rfl, rfl⟩ rfl ?_
  refine wp_aload_n (nx := 9) dX7_copyFrom_8 rfl rfl ?_
  refine wp_getAe (kk := 1) (nx := 12) clsX7 dX7_copyFrom_9 rfl kF_X7_9 (by decide) (st_b0 F hs_l1) (st_t0 F hs_l1) rfl (st_p1 F hs_l1) ?_
  refine wp_iconst (nx := 13) dX7_copyFrom_12 rfl (i32 (by decide)) ?_
  refine wp_aload_n (nx := 14) dX7_copyFrom_13 rfl rfl ?_
  refine wp_getAe (kk := 1) (nx := 17) clsX7 dX7_copyFrom_14 rfl kF_X7_9 (by decide) (st_b0 F hs_l0) (st_t0 F hs_l0) rfl (st_p1 F hs_l0) ?_
  refine wp_iconst (nx := 18) dX7_copyFrom_17 rfl (i32 (by decide)) ?_
  refine wp_bipush (nx := 20) dX7_copyFrom_18 rfl ⟨by decide, i32 (by decide)⟩ ?_
  refine wp_copyE (nx := 23) dX7_copyFrom_20 rfl kM_X7_49 (st_b1 F hs_l1) (st_b1 F hs_l0) (st_t1 F hs_l1) (st_t1 F hs_l0) (st_l1 F hs_l1) (st_l1 F hs_l0) (by decide) ?_
  refine wp_aload_n (nx := 24) dX7_copyFrom_23 rfl rfl ?_
  refine wp_getAe (kk := 2) (nx := 27) clsX7 dX7_copyFrom_24 rfl kF_X7_15 (by decide) (st_b0 F hs_l1) (st_t0 F hs_l1) rfl (st_p2 F hs_l1) ?_
  refine wp_iconst (nx := 28) dX7_copyFrom_27 rfl (i32 (by decide)) ?_
  refine wp_aload_n (nx := 29) dX7_copyFrom_28 rfl rfl ?_
  refine wp_getAe (kk := 2) (nx := 32) clsX7 dX7_copyFrom_29 rfl kF_X7_15 (by decide) (st_b0 F hs_l0) (st_t0 F hs_l0) rfl (st_p2 F hs_l0) ?_
  refine wp_iconst (nx := 33) dX7_copyFrom_32 rfl (i32 (by decide)) ?_
  refine wp_bipush (nx := 35) dX7_copyFrom_33 rfl ⟨by decide, i32 (by decide)⟩ ?_
  refine wp_copyE (nx := 38) dX7_copyFrom_35 rfl kM_X7_49 (st_b2 F hs_l1) (st_b2 F hs_l0) (st_t2 F hs_l1) (st_t2 F hs_l0) (st_l2 F hs_l1) (st_l2 F hs_l0) (by decide) ?_
  refine wp_aload_n (nx := 39) dX7_copyFrom_38 rfl rfl ?_
  refine wp_getAe (kk := 3) (nx := 42) clsX7 dX7_copyFrom_39 rfl kF_X7_18 (by decide) (st_b0 F hs_l1) (st_t0 F hs_l1) rfl (st_p3 F hs_l1) ?_
  refine wp_iconst (nx := 43) dX7_copyFrom_42 rfl (i32 (by decide)) ?_
  refine wp_aload_n (nx := 44) dX7_copyFrom_43 rfl rfl ?_
  refine wp_getAe (kk := 3) (nx := 47) clsX7 dX7_copyFrom_44 rfl kF_X7_18 (by decide) (st_b0 F hs_l0) (st_t0 F hs_l0) rfl (st_p3 F hs_l0) ?_
  refine wp_iconst (nx := 48) dX7_copyFrom_47 rfl (i32 (by decide)) ?_
  refine wp_bipush (nx := 50) dX7_copyFrom_48 rfl ⟨by decide, i32 (by decide)⟩ ?_
  refine wp_copyE (nx := 53) dX7_copyFrom_50 rfl kM_X7_49 (st_b3 F hs_l1) (st_b3 F hs_l0) (st_t3 F hs_l1) (st_t3 F hs_l0) (st_l3 F hs_l1) (st_l3 F hs_l0) (by decide) ?_
  refine wp_aload_n (nx := 54) dX7_copyFrom_53 rfl rfl ?_
  refine wp_getAe (kk := 4) (nx := 57) clsX7 dX7_copyFrom_54 rfl kF_X7_21 (by decide) (st_b0 F hs_l1) (st_t0 F hs_l1) rfl (st_p4 F hs_l1) ?_
  refine wp_iconst (nx := 58) dX7_copyFrom_57 rfl (i32 (by decide)) ?_
  refine wp_aload_n (nx := 59) dX7_copyFrom_58 rfl rfl ?_
  refine wp_getAe (kk := 4) (nx := 62) clsX7 dX7_copyFrom_59 rfl kF_X7_21 (by decide) (st_b0 F hs_l0) (st_t0 F hs_l0) rfl (st_p4 F hs_l0) ?_
  refine wp_iconst (nx := 63) dX7_copyFrom_62 rfl (i32 (by decide)) ?_
  refine wp_bipush (nx := 65) dX7_copyFrom_63 rfl ⟨by decide, i32 (by decide)⟩ ?_
  refine wp_copyE (nx := 68) dX7_copyFrom_65 rfl kM_X7_49 (st_b4 F hs_l1) (st_b4 F hs_l0) (st_t4 F hs_l1) (st_t4 F hs_l0) (st_l4 F hs_l1) (st_l4 F hs_l0) (by decide) ?_
  refine wp_aload_n (nx := 69) dX7_copyFrom_68 rfl rfl ?_
  refine wp_getAe (kk := 5) (nx := 72) clsX7 dX7_copyFrom_69 rfl kF_X7_24 (by decide) (st_b0 F hs_l1) (st_t0 F hs_l1) rfl (st_p5 F hs_l1) ?_
  refine wp_iconst (nx := 73) dX7_copyFrom_72 rfl (i32 (by decide)) ?_
  refine wp_aload_n (nx := 74) dX7_copyFrom_73 rfl rfl ?_
  refine wp_getAe (kk := 5) (nx := 77) clsX7 dX7_copyFrom_74 rfl kF_X7_24 (by decide) (st_b0 F hs_l0) (st_t0 F hs_l0) rfl (st_p5 F hs_l0) ?_
  refine wp_iconst (nx := 78) dX7_copyFrom_77 rfl (i32 (by decide)) ?_
  refine wp_bipush (nx := 80) dX7_copyFrom_78 rfl ⟨by decide, i32 (by decide)⟩ ?_
  refine wp_copyE (nx := 83) dX7_copyFrom_80 rfl kM_X7_49 (st_b5 F hs_l1) (st_b5 F hs_l0) (st_t5 F hs_l1) (st_t5 F hs_l0) (st_l5 F hs_l1) (st_l5 F hs_l0) (by decide) ?_
  refine wp_aload_n (nx := 84) dX7_copyFrom_83 rfl rfl ?_
  refine wp_aload_n (nx := 85) dX7_copyFrom_84 rfl rfl ?_
  refine wp_getIe (kk := 6) 6 (nx := 88) clsX7 dX7_copyFrom_85 rfl kF_X7_55 (by decide) (st_b0 F hs_l1) (st_t0 F hs_l1) rfl rfl rfl ?_
  refine wp_putIe (kk := 6) 6 (nx := 91) clsX7 dX7_copyFrom_88 rfl kF_X7_55 (by decide) (st_b0 F hs_l0) (st_t0 F hs_l0) rfl rfl ⟨rfl, rfl⟩ rfl ?_
  refine wp_iconst (nx := 92) dX7_copyFrom_91 rfl (i32 (by decide)) ?_
  refine wp_istore_n (nx := 93) dX7_copyFrom_92 rfl (by decide) ?_
  refine wp_ls (ls2 := [cA l0, cA l1, cI 0]) rfl ?_
  exact h
theorem b_X7_copyFrom_93 {d mc ms : Nat} {l0 l1 l2 : Int} {S : MS} {C : MC} {Q : Int → MS → MC → Prop} (F : Fix S) (hs_l0 : isSt l0) (hs_l1 : isSt l1) (h : ((6 ≤ l2 → Q 0 S (cpC (upC (upC C l0 8 (C l1 8)) l0 9 ((upC C l0 8 (C l1 8)) l1 9)) (l1 + 7) 0 (l0 + 7) 0 3)) ∧ (¬ 6 ≤ l2 → ((0 : Int) ≤ l2 ∧ l2 < 6) ∧ (((0 : Int) ≤ l2 ∧ l2 < 6) ∧ (S.2.2.2.1 (l1 + 6) l2 = -1 ∨ ((0 ≤ S.2.2.2.1 (l1 + 6) l2 ∧ S.2.2.2.1 (l1 + 6) l2 < S.1) ∧ S.2.1 (S.2.2.2.1 (l1 + 6) l2) = 9))) ∧ K_X7_copyFrom_93 (d + 1) mc ms l0 l1 (w32 (l2 + 1)) (upP S (l0 + 6) l2 (S.2.2.2.1 (l1 + 6) l2)) C Q))) : K_X7_copyFrom_93 (d + 1) mc ms l0 l1 l2 S C Q := by
  show Wp (d + 1) mc ms M_X7_copyFrom 93 [cA l0, cA l1, cI l2] [] S C Q
  refine wp_iload_n (nx := 94) dX7_copyFrom_93 rfl rfl ?_
  refine wp_bipush (nx := 96) dX7_copyFrom_94 rfl ⟨by decide, i32 (by decide)⟩ ?_
  refine wp_icmp_ge (nx := 99) (tg := 117) dX7_copyFrom_96 rfl rfl (fun hc => ?_) (fun hc => ?_)
  · have h := h.1 hc
    refine wp_aload_n (nx := 118) dX7_copyFrom_117 rfl rfl ?_
    refine wp_aload_n (nx := 119) dX7_copyFrom_118 rfl rfl ?_
    refine wp_getIe (kk := 8) 8 (nx := 122) clsX7 dX7_copyFrom_119 rfl kF_X7_58 (by decide) (st_b0 F hs_l1) (st_t0 F hs_l1) rfl rfl rfl ?_
    refine wp_putIe (kk := 8) 8 (nx := 125) clsX7 dX7_copyFrom_122 rfl kF_X7_58 (by decide) (st_b0 F hs_l0) (st_t0 F hs_l0) rfl rfl ⟨rfl, rfl⟩ rfl ?_
    refine wp_aload_n (nx := 126) dX7_copyFrom_125 rfl rfl ?_
    refine wp_aload_n (nx := 127) dX7_copyFrom_126 rfl rfl ?_
    refine wp_getIe (kk := 9) 9 (nx := 130) clsX7 dX7_copyFrom_127 rfl kF_X7_33 (by decide) (st_b0 F hs_l1) (st_t0 F hs_l1) rfl rfl rfl ?_
    refine wp_putIe (kk := 9) 9 (nx := 133) clsX7 dX7_copyFrom_130 rfl kF_X7_33 (by decide) (st_b0 F hs_l0) (st_t0 F hs_l0) rfl rfl ⟨rfl, rfl⟩ rfl ?_
    refine wp_aload_n (nx := 134) dX7_copyFrom_133 rfl rfl ?_
    refine wp_getAe (kk := 10) (nx := 137) clsX7 dX7_copyFrom_134 rfl kF_X7_37 (by decide) (st_b0 F hs_l1) (st_t0 F hs_l1) rfl (st_p10 F hs_l1) ?_
    refine wp_iconst (nx := 138) dX7_copyFrom_137 rfl (i32 (by decide)) ?_
    refine wp_aload_n (nx := 139) dX7_copyFrom_138 rfl rfl ?_
    refine wp_getAe (kk := 10) (nx := 142) clsX7 dX7_copyFrom_139 rfl kF_X7_37 (by decide) (st_b0 F hs_l0) (st_t0 F hs_l0) rfl (st_p10 F hs_l0) ?_
    refine wp_iconst (nx := 143) dX7_copyFrom_142 rfl (i32 (by decide)) ?_
    refine wp_aload_n (nx := 144) dX7_copyFrom_143 rfl rfl ?_
    refine wp_getAe (kk := 10) (nx := 147) clsX7 dX7_copyFrom_144 rfl kF_X7_37 (by decide) (st_b0 F hs_l0) (st_t0 F hs_l0) rfl (st_p10 F hs_l0) ?_
    refine wp_alenE (nx := 148) dX7_copyFrom_147 rfl (st_b7 F hs_l0) (st_l7 F hs_l0) (by rw [(st_t7 F hs_l0)]; decide) ?_
    refine wp_copyE (nx := 151) dX7_copyFrom_148 rfl kM_X7_49 (st_b7 F hs_l1) (st_b7 F hs_l0) (st_t7 F hs_l1) (st_t7 F hs_l0) (st_l7 F hs_l1) (st_l7 F hs_l0) (by decide) ?_
    exact wp_return dX7_copyFrom_151 rfl h
  · have h := h.2 hc
    refine wp_aload_n (nx := 100) dX7_copyFrom_99 rfl rfl ?_
    refine wp_getAe (kk := 7) (nx := 103) clsX7 dX7_copyFrom_100 rfl kF_X7_29 (by decide) (st_b0 F hs_l0) (st_t0 F hs_l0) rfl (st_p7 F hs_l0) ?_
    refine wp_iload_n (nx := 104) dX7_copyFrom_103 rfl rfl ?_
    refine wp_aload_n (nx := 105) dX7_copyFrom_104 rfl rfl ?_
    refine wp_getAe (kk := 7) (nx := 108) clsX7 dX7_copyFrom_105 rfl kF_X7_29 (by decide) (st_b0 F hs_l1) (st_t0 F hs_l1) rfl (st_p7 F hs_l1) ?_
    refine wp_iload_n (nx := 109) dX7_copyFrom_108 rfl rfl ?_
    obtain ⟨hi, h⟩ := h
    refine wp_aaloadE (nx := 110) dX7_copyFrom_109 rfl (st_b6 F hs_l1) (st_l6 F hs_l1) hi (st_t6 F hs_l1) (by decide) rfl ?_
    obtain ⟨⟨hi, hv⟩, h⟩ := h
    refine wp_aastoreG (nx := 111) clsX9 dX7_copyFrom_110 rfl (st_b6 F hs_l0) (st_l6 F hs_l0) hi (st_t6 F hs_l0) rfl rfl hv ?_
    have F1 : Fix (upP S (l0 + 6) l2 (S.2.2.2.1 (l1 + 6) l2)) := fix_laws F hs_l0
    refine wp_iinc (nx := 114) dX7_copyFrom_111 rfl rfl (by decide) ?_
    refine wp_ls (ls2 := [cA l0, cA l1, cI (w32 (l2 + 1))]) rfl ?_
    refine wp_goto (nx := 93) dX7_copyFrom_114 rfl ?_
    exact h
theorem b_X7_hasHouse_0 {d mc ms : Nat} {l0 l1 : Int} {S : MS} {C : MC} {Q : Int → MS → MC → Prop} (F : Fix S) (hs_l0 : isSt l0) (h : ((l1 < 0 → Q 0 S C) ∧ (¬ l1 < 0 → ((C l0 0 ≤ l1 → Q 0 S C) ∧ (¬ C l0 0 ≤ l1 → Q 1 S C))))) : K_X7_hasHouse_0 d mc ms l0 l1 S C Q := by
  show Wp d mc ms M_X7_hasHouse 0 [cA l0, cI l1] [] S C Q
  refine wp_iload_n (nx := 1) dX7_hasHouse_0 rfl rfl ?_
  refine wp_if_lt (nx := 4) (tg := 16) dX7_hasHouse_1 rfl rfl (fun hc => ?_) (fun hc => ?_)
  · have h := h.1 hc
    refine wp_iconst (nx := 17) dX7_hasHouse_16 rfl (i32 (by decide)) ?_
    exact wp_ireturn dX7_hasHouse_17 rfl rfl (nz_of (Or.inl rfl)) h
  · have h := h.2 hc
    refine wp_iload_n (nx := 5) dX7_hasHouse_4 rfl rfl ?_
    refine wp_aload_n (nx := 6) dX7_hasHouse_5 rfl rfl ?_
    refine wp_getIe (kk := 0) 0 (nx := 9) clsX7 dX7_hasHouse_6 rfl kF_X7_46 (by decide) (st_b0 F hs_l0) (st_t0 F hs_l0) rfl rfl rfl ?_
    refine wp_icmp_ge (nx := 12) (tg := 16) dX7_hasHouse_9 rfl rfl (fun hc => ?_) (fun hc => ?_)
    · have h := h.1 hc
      refine wp_iconst (nx := 17) dX7_hasHouse_16 rfl (i32 (by decide)) ?_
      exact wp_ireturn dX7_hasHouse_17 rfl rfl (nz_of (Or.inl rfl)) h
    · have h := h.2 hc
      refine wp_iconst (nx := 13) dX7_hasHouse_12 rfl (i32 (by decide)) ?_
      refine wp_goto (nx := 17) dX7_hasHouse_13 rfl ?_
      exact wp_ireturn dX7_hasHouse_17 rfl rfl (nz_of (Or.inr rfl)) h
theorem b_X7_hasLaw_0 {d mc ms : Nat} {l0 l1 : Int} {S : MS} {C : MC} {Q : Int → MS → MC → Prop} (F : Fix S) (hs_l0 : isSt l0) (h : ((l1 < 0 → Q 0 S C) ∧ (¬ l1 < 0 → ((C l0 8 ≤ l1 → Q 0 S C) ∧ (¬ C l0 8 ≤ l1 → Q 1 S C))))) : K_X7_hasLaw_0 d mc ms l0 l1 S C Q := by
  show Wp d mc ms M_X7_hasLaw 0 [cA l0, cI l1] [] S C Q
  refine wp_iload_n (nx := 1) dX7_hasLaw_0 rfl rfl ?_
  refine wp_if_lt (nx := 4) (tg := 16) dX7_hasLaw_1 rfl rfl (fun hc => ?_) (fun hc => ?_)
  · have h := h.1 hc
    refine wp_iconst (nx := 17) dX7_hasLaw_16 rfl (i32 (by decide)) ?_
    exact wp_ireturn dX7_hasLaw_17 rfl rfl (nz_of (Or.inl rfl)) h
  · have h := h.2 hc
    refine wp_iload_n (nx := 5) dX7_hasLaw_4 rfl rfl ?_
    refine wp_aload_n (nx := 6) dX7_hasLaw_5 rfl rfl ?_
    refine wp_getIe (kk := 8) 8 (nx := 9) clsX7 dX7_hasLaw_6 rfl kF_X7_58 (by decide) (st_b0 F hs_l0) (st_t0 F hs_l0) rfl rfl rfl ?_
    refine wp_icmp_ge (nx := 12) (tg := 16) dX7_hasLaw_9 rfl rfl (fun hc => ?_) (fun hc => ?_)
    · have h := h.1 hc
      refine wp_iconst (nx := 17) dX7_hasLaw_16 rfl (i32 (by decide)) ?_
      exact wp_ireturn dX7_hasLaw_17 rfl rfl (nz_of (Or.inl rfl)) h
    · have h := h.2 hc
      refine wp_iconst (nx := 13) dX7_hasLaw_12 rfl (i32 (by decide)) ?_
      refine wp_goto (nx := 17) dX7_hasLaw_13 rfl ?_
      exact wp_ireturn dX7_hasLaw_17 rfl rfl (nz_of (Or.inr rfl)) h
theorem b_X7_lawInForce_0 {d mc ms : Nat} {l0 : Int} {S : MS} {C : MC} {Q : Int → MS → MC → Prop} (F : Fix S) (hs_l0 : isSt l0) (h : K_X7_hasLaw_0 d 0 0 l0 (C l0 9) S C (fun r1 Sq C2 => Sq = S ∧ ((r1 = 0 → Q ((-1)) S C2) ∧ (¬ r1 = 0 → ((0 : Int) ≤ C2 l0 9 ∧ C2 l0 9 < 6) ∧ Q (S.2.2.2.1 (l0 + 6) (C2 l0 9)) S C2)))) : K_X7_lawInForce_0 (d + 1) mc ms l0 S C Q := by
  show Wp (d + 1) mc ms M_X7_lawInForce 0 [cA l0] [] S C Q
  refine wp_aload_n (nx := 1) dX7_lawInForce_0 rfl rfl ?_
  refine wp_aload_n (nx := 2) dX7_lawInForce_1 rfl rfl ?_
  refine wp_getIe (kk := 9) 9 (nx := 5) clsX7 dX7_lawInForce_2 rfl kF_X7_33 (by decide) (st_b0 F hs_l0) (st_t0 F hs_l0) rfl rfl rfl ?_
  refine wp_invV (nx := 8) (N := M_X7_hasLaw) (as := [cI (C l0 9)]) (st := []) (mc := 0) (ms := 0) (mc' := mc) (ms' := ms) (a := l0) clsX7 dX7_lawInForce_5 rfl mok_X7_hasLaw kM_X7_61 ki_X7_hasLaw ke_X7_hasLaw (st_b0 F hs_l0) (st_t0 F hs_l0) rfl rfl (leB rfl) (leB rfl) (z0 _) (z0 _) (Wp.mono h ?_)
  intro r1 Sq C2 h
  obtain ⟨e9, h⟩ := h
  rw [e9]
  show Wp (d + 1) mc ms M_X7_lawInForce 8 [cA l0] [cI r1] S C2 Q
  refine wp_if_eq (nx := 11) (tg := 23) dX7_lawInForce_8 rfl rfl (fun hc => ?_) (fun hc => ?_)
  · have h := h.1 hc
    refine wp_null (nx := 24) dX7_lawInForce_23 rfl ?_
    exact wp_areturn dX7_lawInForce_24 rfl rfl h
  · have h := h.2 hc
    refine wp_aload_n (nx := 12) dX7_lawInForce_11 rfl rfl ?_
    refine wp_getAe (kk := 7) (nx := 15) clsX7 dX7_lawInForce_12 rfl kF_X7_29 (by decide) (st_b0 F hs_l0) (st_t0 F hs_l0) rfl (st_p7 F hs_l0) ?_
    refine wp_aload_n (nx := 16) dX7_lawInForce_15 rfl rfl ?_
    refine wp_getIe (kk := 9) 9 (nx := 19) clsX7 dX7_lawInForce_16 rfl kF_X7_33 (by decide) (st_b0 F hs_l0) (st_t0 F hs_l0) rfl rfl rfl ?_
    obtain ⟨hi, h⟩ := h
    refine wp_aaloadE (nx := 20) dX7_lawInForce_19 rfl (st_b6 F hs_l0) (st_l6 F hs_l0) hi (st_t6 F hs_l0) (by decide) rfl ?_
    refine wp_goto (nx := 24) dX7_lawInForce_20 rfl ?_
    exact wp_areturn dX7_lawInForce_24 rfl rfl h
theorem b_X7_keysOf_0 {d mc ms : Nat} {l0 l1 : Int} {S : MS} {C : MC} {Q : Int → MS → MC → Prop} (F : Fix S) (hs_l0 : isSt l0) (h : K_X7_keysOf_4 d mc ms l0 l1 0 0 S C Q) : K_X7_keysOf_0 d mc ms l0 l1 S C Q := by
  show Wp d mc ms M_X7_keysOf 0 [cA l0, cI l1, cU, cU] [] S C Q
  refine wp_iconst (nx := 1) dX7_keysOf_0 rfl (i32 (by decide)) ?_
  refine wp_istore_n (nx := 2) dX7_keysOf_1 rfl (by decide) ?_
  refine wp_ls (ls2 := [cA l0, cI l1, cI 0, cU]) rfl ?_
  refine wp_iconst (nx := 3) dX7_keysOf_2 rfl (i32 (by decide)) ?_
  refine wp_istore_n (nx := 4) dX7_keysOf_3 rfl (by decide) ?_
  refine wp_ls (ls2 := [cA l0, cI l1, cI 0, cI 0]) rfl ?_
  exact h
theorem b_X7_keysOf_4 {d mc ms : Nat} {l0 l1 l2 l3 : Int} {S : MS} {C : MC} {Q : Int → MS → MC → Prop} (F : Fix S) (hs_l0 : isSt l0) (h : ((8 ≤ l3 → Q l2 S C) ∧ (¬ 8 ≤ l3 → ((0 : Int) ≤ l3 ∧ l3 < 8) ∧ ((¬ C (l0 + 3) l3 = l1 → K_X7_keysOf_4 d mc ms l0 l1 l2 (w32 (l3 + 1)) S C Q) ∧ (C (l0 + 3) l3 = l1 → K_X7_keysOf_4 d mc ms l0 l1 (iOr l2 (iShl 1 l3)) (w32 (l3 + 1)) S C Q))))) : K_X7_keysOf_4 d mc ms l0 l1 l2 l3 S C Q := by
  show Wp d mc ms M_X7_keysOf 4 [cA l0, cI l1, cI l2, cI l3] [] S C Q
  refine wp_iload_n (nx := 5) dX7_keysOf_4 rfl rfl ?_
  refine wp_bipush (nx := 7) dX7_keysOf_5 rfl ⟨by decide, i32 (by decide)⟩ ?_
  refine wp_icmp_ge (nx := 10) (tg := 32) dX7_keysOf_7 rfl rfl (fun hc => ?_) (fun hc => ?_)
  · have h := h.1 hc
    refine wp_iload_n (nx := 33) dX7_keysOf_32 rfl rfl ?_
    exact wp_ireturn dX7_keysOf_33 rfl rfl rfl h
  · have h := h.2 hc
    refine wp_aload_n (nx := 11) dX7_keysOf_10 rfl rfl ?_
    refine wp_getAe (kk := 3) (nx := 14) clsX7 dX7_keysOf_11 rfl kF_X7_18 (by decide) (st_b0 F hs_l0) (st_t0 F hs_l0) rfl (st_p3 F hs_l0) ?_
    refine wp_iload_n (nx := 15) dX7_keysOf_14 rfl rfl ?_
    obtain ⟨hi, h⟩ := h
    refine wp_ialoadE (nx := 16) dX7_keysOf_15 rfl (st_b3 F hs_l0) (st_l3 F hs_l0) hi (st_t3 F hs_l0) rfl ?_
    refine wp_iload_n (nx := 17) dX7_keysOf_16 rfl rfl ?_
    refine wp_icmp_ne (nx := 20) (tg := 26) dX7_keysOf_17 rfl rfl (fun hc => ?_) (fun hc => ?_)
    · have h := h.1 hc
      refine wp_iinc (nx := 29) dX7_keysOf_26 rfl rfl (by decide) ?_
      refine wp_ls (ls2 := [cA l0, cI l1, cI l2, cI (w32 (l3 + 1))]) rfl ?_
      refine wp_goto (nx := 4) dX7_keysOf_29 rfl ?_
      exact h
    · have h := h.2 hc
      refine wp_iload_n (nx := 21) dX7_keysOf_20 rfl rfl ?_
      refine wp_iconst (nx := 22) dX7_keysOf_21 rfl (i32 (by decide)) ?_
      refine wp_iload_n (nx := 23) dX7_keysOf_22 rfl rfl ?_
      refine wp_ishl (nx := 24) dX7_keysOf_23 rfl ?_
      refine wp_ior (nx := 25) dX7_keysOf_24 rfl ?_
      refine wp_istore_n (nx := 26) dX7_keysOf_25 rfl (by decide) ?_
      refine wp_ls (ls2 := [cA l0, cI l1, cI (iOr l2 (iShl 1 l3)), cI l3]) rfl ?_
      refine wp_iinc (nx := 29) dX7_keysOf_26 rfl rfl (by decide) ?_
      refine wp_ls (ls2 := [cA l0, cI l1, cI (iOr l2 (iShl 1 l3)), cI (w32 (l3 + 1))]) rfl ?_
      refine wp_goto (nx := 4) dX7_keysOf_29 rfl ?_
      exact h
theorem b_X7_countNotes_0 {d mc ms : Nat} {l0 : Int} {S : MS} {C : MC} {Q : Int → MS → MC → Prop} (F : Fix S) (hs_l0 : isSt l0) (h : K_X7_countNotes_4 (d + 1) mc ms l0 0 0 S C Q) : K_X7_countNotes_0 (d + 1) mc ms l0 S C Q := by
  show Wp (d + 1) mc ms M_X7_countNotes 0 [cA l0, cU, cU] [] S C Q
  refine wp_iconst (nx := 1) dX7_countNotes_0 rfl (i32 (by decide)) ?_
  refine wp_istore_n (nx := 2) dX7_countNotes_1 rfl (by decide) ?_
  refine wp_ls (ls2 := [cA l0, cI 0, cU]) rfl ?_
  refine wp_iconst (nx := 3) dX7_countNotes_2 rfl (i32 (by decide)) ?_
  refine wp_istore_n (nx := 4) dX7_countNotes_3 rfl (by decide) ?_
  refine wp_ls (ls2 := [cA l0, cI 0, cI 0]) rfl ?_
  exact h
theorem b_X7_countNotes_4 {d mc ms : Nat} {l0 l1 l2 : Int} {S : MS} {C : MC} {Q : Int → MS → MC → Prop} (F : Fix S) (hs_l0 : isSt l0) (h : ((16 ≤ l2 → Q l1 S C) ∧ (¬ 16 ≤ l2 → ((0 : Int) ≤ l2 ∧ l2 < 16) ∧ K_J6_bitCount_0f7a4_0 d 0 0 (C (l0 + 4) l2) S C (fun r1 Sq C2 => Sq = S ∧ K_X7_countNotes_4 (d + 1) mc ms l0 (w32 (l1 + r1)) (w32 (l2 + 1)) S C2 Q)))) : K_X7_countNotes_4 (d + 1) mc ms l0 l1 l2 S C Q := by
  show Wp (d + 1) mc ms M_X7_countNotes 4 [cA l0, cI l1, cI l2] [] S C Q
  refine wp_iload_n (nx := 5) dX7_countNotes_4 rfl rfl ?_
  refine wp_bipush (nx := 7) dX7_countNotes_5 rfl ⟨by decide, i32 (by decide)⟩ ?_
  refine wp_icmp_ge (nx := 10) (tg := 28) dX7_countNotes_7 rfl rfl (fun hc => ?_) (fun hc => ?_)
  · have h := h.1 hc
    refine wp_iload_n (nx := 29) dX7_countNotes_28 rfl rfl ?_
    exact wp_ireturn dX7_countNotes_29 rfl rfl rfl h
  · have h := h.2 hc
    refine wp_iload_n (nx := 11) dX7_countNotes_10 rfl rfl ?_
    refine wp_aload_n (nx := 12) dX7_countNotes_11 rfl rfl ?_
    refine wp_getAe (kk := 4) (nx := 15) clsX7 dX7_countNotes_12 rfl kF_X7_21 (by decide) (st_b0 F hs_l0) (st_t0 F hs_l0) rfl (st_p4 F hs_l0) ?_
    refine wp_iload_n (nx := 16) dX7_countNotes_15 rfl rfl ?_
    obtain ⟨hi, h⟩ := h
    refine wp_ialoadE (nx := 17) dX7_countNotes_16 rfl (st_b4 F hs_l0) (st_l4 F hs_l0) hi (st_t4 F hs_l0) rfl ?_
    refine wp_invS (nx := 20) (N := M_J6_bitCount_0f7a4) (as := [cI (C (l0 + 4) l2)]) (st := [cI l1]) (mc := 0) (ms := 0) (mc' := mc) (ms' := ms) dX7_countNotes_17 rfl mok_J6_bitCount_0f7a4 kM_X7_65 ks_J6_bitCount_0f7a4 rfl rfl (leB rfl) (leB rfl) (z0 _) (z0 _) (Wp.mono h ?_)
    intro r1 Sq C2 h
    obtain ⟨e9, h⟩ := h
    rw [e9]
    show Wp (d + 1) mc ms M_X7_countNotes 20 [cA l0, cI l1, cI l2] [cI r1, cI l1] S C2 Q
    refine wp_iadd (nx := 21) dX7_countNotes_20 rfl ?_
    refine wp_istore_n (nx := 22) dX7_countNotes_21 rfl (by decide) ?_
    refine wp_ls (ls2 := [cA l0, cI (w32 (l1 + r1)), cI l2]) rfl ?_
    refine wp_iinc (nx := 25) dX7_countNotes_22 rfl rfl (by decide) ?_
    refine wp_ls (ls2 := [cA l0, cI (w32 (l1 + r1)), cI (w32 (l2 + 1))]) rfl ?_
    refine wp_goto (nx := 4) dX7_countNotes_25 rfl ?_
    exact h
theorem b_X7_canShift_0 {d mc ms : Nat} {l0 l1 : Int} {S : MS} {C : MC} {Q : Int → MS → MC → Prop} (F : Fix S) (hs_l0 : isSt l0) (h : K_X7_canShift_2 (d + 1) mc ms l0 l1 0 S C Q) : K_X7_canShift_0 (d + 1) mc ms l0 l1 S C Q := by
  show Wp (d + 1) mc ms M_X7_canShift 0 [cA l0, cI l1, cU] [] S C Q
  refine wp_iconst (nx := 1) dX7_canShift_0 rfl (i32 (by decide)) ?_
  refine wp_istore_n (nx := 2) dX7_canShift_1 rfl (by decide) ?_
  refine wp_ls (ls2 := [cA l0, cI l1, cI 0]) rfl ?_
  exact h
theorem b_X7_canShift_2 {d mc ms : Nat} {l0 l1 l2 : Int} {S : MS} {C : MC} {Q : Int → MS → MC → Prop} (F : Fix S) (hs_l0 : isSt l0) (h : ((16 ≤ l2 → Q 1 S C) ∧ (¬ 16 ≤ l2 → ((0 : Int) ≤ l2 ∧ l2 < 16) ∧ K_X7_shifted_0 d 0 0 (C (l0 + 4) l2) l1 S C (fun r1 Sq C2 => Sq = S ∧ ((¬ r1 = (-1) → K_X7_canShift_2 (d + 1) mc ms l0 l1 (w32 (l2 + 1)) S C2 Q) ∧ (r1 = (-1) → Q 0 S C2)))))) : K_X7_canShift_2 (d + 1) mc ms l0 l1 l2 S C Q := by
  show Wp (d + 1) mc ms M_X7_canShift 2 [cA l0, cI l1, cI l2] [] S C Q
  refine wp_iload_n (nx := 3) dX7_canShift_2 rfl rfl ?_
  refine wp_bipush (nx := 5) dX7_canShift_3 rfl ⟨by decide, i32 (by decide)⟩ ?_
  refine wp_icmp_ge (nx := 8) (tg := 30) dX7_canShift_5 rfl rfl (fun hc => ?_) (fun hc => ?_)
  · have h := h.1 hc
    refine wp_iconst (nx := 31) dX7_canShift_30 rfl (i32 (by decide)) ?_
    exact wp_ireturn dX7_canShift_31 rfl rfl (nz_of (Or.inr rfl)) h
  · have h := h.2 hc
    refine wp_aload_n (nx := 9) dX7_canShift_8 rfl rfl ?_
    refine wp_getAe (kk := 4) (nx := 12) clsX7 dX7_canShift_9 rfl kF_X7_21 (by decide) (st_b0 F hs_l0) (st_t0 F hs_l0) rfl (st_p4 F hs_l0) ?_
    refine wp_iload_n (nx := 13) dX7_canShift_12 rfl rfl ?_
    obtain ⟨hi, h⟩ := h
    refine wp_ialoadE (nx := 14) dX7_canShift_13 rfl (st_b4 F hs_l0) (st_l4 F hs_l0) hi (st_t4 F hs_l0) rfl ?_
    refine wp_iload_n (nx := 15) dX7_canShift_14 rfl rfl ?_
    refine wp_invS (nx := 18) (N := M_X7_shifted) (as := [cI (C (l0 + 4) l2), cI l1]) (st := []) (mc := 0) (ms := 0) (mc' := mc) (ms' := ms) dX7_canShift_15 rfl mok_X7_shifted kM_X7_71 ks_X7_shifted rfl rfl (leB rfl) (leB rfl) (z0 _) (z0 _) (Wp.mono h ?_)
    intro r1 Sq C2 h
    obtain ⟨e9, h⟩ := h
    rw [e9]
    show Wp (d + 1) mc ms M_X7_canShift 18 [cA l0, cI l1, cI l2] [cI r1] S C2 Q
    refine wp_iconst (nx := 19) dX7_canShift_18 rfl (i32 (by decide)) ?_
    refine wp_icmp_ne (nx := 22) (tg := 24) dX7_canShift_19 rfl rfl (fun hc => ?_) (fun hc => ?_)
    · have h := h.1 hc
      refine wp_iinc (nx := 27) dX7_canShift_24 rfl rfl (by decide) ?_
      refine wp_ls (ls2 := [cA l0, cI l1, cI (w32 (l2 + 1))]) rfl ?_
      refine wp_goto (nx := 2) dX7_canShift_27 rfl ?_
      exact h
    · have h := h.2 hc
      refine wp_iconst (nx := 23) dX7_canShift_22 rfl (i32 (by decide)) ?_
      exact wp_ireturn dX7_canShift_23 rfl rfl (nz_of (Or.inl rfl)) h
theorem b_X7_shiftBy_0 {d mc ms : Nat} {l0 l1 : Int} {S : MS} {C : MC} {Q : Int → MS → MC → Prop} (F : Fix S) (hs_l0 : isSt l0) (h : K_X7_shiftBy_2 (d + 1) mc ms l0 l1 0 S C Q) : K_X7_shiftBy_0 (d + 1) mc ms l0 l1 S C Q := by
  show Wp (d + 1) mc ms M_X7_shiftBy 0 [cA l0, cI l1, cU] [] S C Q
  refine wp_iconst (nx := 1) dX7_shiftBy_0 rfl (i32 (by decide)) ?_
  refine wp_istore_n (nx := 2) dX7_shiftBy_1 rfl (by decide) ?_
  refine wp_ls (ls2 := [cA l0, cI l1, cI 0]) rfl ?_
  exact h
theorem b_X7_shiftBy_2 {d mc ms : Nat} {l0 l1 l2 : Int} {S : MS} {C : MC} {Q : Int → MS → MC → Prop} (F : Fix S) (hs_l0 : isSt l0) (h : ((16 ≤ l2 → Q 0 S C) ∧ (¬ 16 ≤ l2 → ((0 : Int) ≤ l2 ∧ l2 < 16) ∧ K_X7_shifted_0 d 0 0 (C (l0 + 4) l2) l1 S C (fun r1 Sq C2 => Sq = S ∧ ((0 : Int) ≤ l2 ∧ l2 < 16) ∧ K_X7_shiftBy_2 (d + 1) mc ms l0 l1 (w32 (l2 + 1)) S (upC C2 (l0 + 4) l2 r1) Q)))) : K_X7_shiftBy_2 (d + 1) mc ms l0 l1 l2 S C Q := by
  show Wp (d + 1) mc ms M_X7_shiftBy 2 [cA l0, cI l1, cI l2] [] S C Q
  refine wp_iload_n (nx := 3) dX7_shiftBy_2 rfl rfl ?_
  refine wp_bipush (nx := 5) dX7_shiftBy_3 rfl ⟨by decide, i32 (by decide)⟩ ?_
  refine wp_icmp_ge (nx := 8) (tg := 30) dX7_shiftBy_5 rfl rfl (fun hc => ?_) (fun hc => ?_)
  · have h := h.1 hc
    exact wp_return dX7_shiftBy_30 rfl h
  · have h := h.2 hc
    refine wp_aload_n (nx := 9) dX7_shiftBy_8 rfl rfl ?_
    refine wp_getAe (kk := 4) (nx := 12) clsX7 dX7_shiftBy_9 rfl kF_X7_21 (by decide) (st_b0 F hs_l0) (st_t0 F hs_l0) rfl (st_p4 F hs_l0) ?_
    refine wp_iload_n (nx := 13) dX7_shiftBy_12 rfl rfl ?_
    refine wp_aload_n (nx := 14) dX7_shiftBy_13 rfl rfl ?_
    refine wp_getAe (kk := 4) (nx := 17) clsX7 dX7_shiftBy_14 rfl kF_X7_21 (by decide) (st_b0 F hs_l0) (st_t0 F hs_l0) rfl (st_p4 F hs_l0) ?_
    refine wp_iload_n (nx := 18) dX7_shiftBy_17 rfl rfl ?_
    obtain ⟨hi, h⟩ := h
    refine wp_ialoadE (nx := 19) dX7_shiftBy_18 rfl (st_b4 F hs_l0) (st_l4 F hs_l0) hi (st_t4 F hs_l0) rfl ?_
    refine wp_iload_n (nx := 20) dX7_shiftBy_19 rfl rfl ?_
    refine wp_invS (nx := 23) (N := M_X7_shifted) (as := [cI (C (l0 + 4) l2), cI l1]) (st := [cI l2, cA (l0 + 4)]) (mc := 0) (ms := 0) (mc' := mc) (ms' := ms) dX7_shiftBy_20 rfl mok_X7_shifted kM_X7_71 ks_X7_shifted rfl rfl (leB rfl) (leB rfl) (z0 _) (z0 _) (Wp.mono h ?_)
    intro r1 Sq C2 h
    obtain ⟨e9, h⟩ := h
    rw [e9]
    show Wp (d + 1) mc ms M_X7_shiftBy 23 [cA l0, cI l1, cI l2] [cI r1, cI l2, cA (l0 + 4)] S C2 Q
    obtain ⟨hi, h⟩ := h
    refine wp_iastoreE (nx := 24) dX7_shiftBy_23 rfl (st_b4 F hs_l0) (st_l4 F hs_l0) hi (st_t4 F hs_l0) ?_
    refine wp_iinc (nx := 27) dX7_shiftBy_24 rfl rfl (by decide) ?_
    refine wp_ls (ls2 := [cA l0, cI l1, cI (w32 (l2 + 1))]) rfl ?_
    refine wp_goto (nx := 2) dX7_shiftBy_27 rfl ?_
    exact h
theorem b_X7_motifHasKeys_0 {d mc ms : Nat} {l0 : Int} {S : MS} {C : MC} {Q : Int → MS → MC → Prop} (F : Fix S) (hs_l0 : isSt l0) (h : K_X7_motifHasKeys_2 d mc ms l0 0 S C Q) : K_X7_motifHasKeys_0 d mc ms l0 S C Q := by
  show Wp d mc ms M_X7_motifHasKeys 0 [cA l0, cU] [] S C Q
  refine wp_iconst (nx := 1) dX7_motifHasKeys_0 rfl (i32 (by decide)) ?_
  refine wp_istore_n (nx := 2) dX7_motifHasKeys_1 rfl (by decide) ?_
  refine wp_ls (ls2 := [cA l0, cI 0]) rfl ?_
  exact h
theorem b_X7_motifHasKeys_2 {d mc ms : Nat} {l0 l1 : Int} {S : MS} {C : MC} {Q : Int → MS → MC → Prop} (F : Fix S) (hs_l0 : isSt l0) (h : ((C l0 6 ≤ l1 → Q 0 S C) ∧ (¬ C l0 6 ≤ l1 → ((0 : Int) ≤ l1 ∧ l1 < 6) ∧ ((C (l0 + 5) l1 = 0 → K_X7_motifHasKeys_2 d mc ms l0 (w32 (l1 + 1)) S C Q) ∧ (¬ C (l0 + 5) l1 = 0 → Q 1 S C))))) : K_X7_motifHasKeys_2 d mc ms l0 l1 S C Q := by
  show Wp d mc ms M_X7_motifHasKeys 2 [cA l0, cI l1] [] S C Q
  refine wp_iload_n (nx := 3) dX7_motifHasKeys_2 rfl rfl ?_
  refine wp_aload_n (nx := 4) dX7_motifHasKeys_3 rfl rfl ?_
  refine wp_getIe (kk := 6) 6 (nx := 7) clsX7 dX7_motifHasKeys_4 rfl kF_X7_55 (by decide) (st_b0 F hs_l0) (st_t0 F hs_l0) rfl rfl rfl ?_
  refine wp_icmp_ge (nx := 10) (tg := 27) dX7_motifHasKeys_7 rfl rfl (fun hc => ?_) (fun hc => ?_)
  · have h := h.1 hc
    refine wp_iconst (nx := 28) dX7_motifHasKeys_27 rfl (i32 (by decide)) ?_
    exact wp_ireturn dX7_motifHasKeys_28 rfl rfl (nz_of (Or.inl rfl)) h
  · have h := h.2 hc
    refine wp_aload_n (nx := 11) dX7_motifHasKeys_10 rfl rfl ?_
    refine wp_getAe (kk := 5) (nx := 14) clsX7 dX7_motifHasKeys_11 rfl kF_X7_24 (by decide) (st_b0 F hs_l0) (st_t0 F hs_l0) rfl (st_p5 F hs_l0) ?_
    refine wp_iload_n (nx := 15) dX7_motifHasKeys_14 rfl rfl ?_
    obtain ⟨hi, h⟩ := h
    refine wp_ialoadE (nx := 16) dX7_motifHasKeys_15 rfl (st_b5 F hs_l0) (st_l5 F hs_l0) hi (st_t5 F hs_l0) rfl ?_
    refine wp_if_eq (nx := 19) (tg := 21) dX7_motifHasKeys_16 rfl rfl (fun hc => ?_) (fun hc => ?_)
    · have h := h.1 hc
      refine wp_iinc (nx := 24) dX7_motifHasKeys_21 rfl rfl (by decide) ?_
      refine wp_ls (ls2 := [cA l0, cI (w32 (l1 + 1))]) rfl ?_
      refine wp_goto (nx := 2) dX7_motifHasKeys_24 rfl ?_
      exact h
    · have h := h.2 hc
      refine wp_iconst (nx := 20) dX7_motifHasKeys_19 rfl (i32 (by decide)) ?_
      exact wp_ireturn dX7_motifHasKeys_20 rfl rfl (nz_of (Or.inr rfl)) h
theorem b_X7_motifStands_0 {d mc ms : Nat} {l0 l1 l2 : Int} {S : MS} {C : MC} {Q : Int → MS → MC → Prop} (F : Fix S) (hs_l0 : isSt l0) (h : K_X7_motifStands_2 (d + 1) mc ms l0 l1 l2 0 S C Q) : K_X7_motifStands_0 (d + 1) mc ms l0 l1 l2 S C Q := by
  show Wp (d + 1) mc ms M_X7_motifStands 0 [cA l0, cI l1, cI l2, cU] [] S C Q
  refine wp_iconst (nx := 1) dX7_motifStands_0 rfl (i32 (by decide)) ?_
  refine wp_istore_n (nx := 2) dX7_motifStands_1 rfl (by decide) ?_
  refine wp_ls (ls2 := [cA l0, cI l1, cI l2, cI 0]) rfl ?_
  exact h
theorem b_X7_motifStands_2 {d mc ms : Nat} {l0 l1 l2 l3 : Int} {S : MS} {C : MC} {Q : Int → MS → MC → Prop} (F : Fix S) (hs_l0 : isSt l0) (h : ((C l0 6 ≤ l3 → Q 1 S C) ∧ (¬ C l0 6 ≤ l3 → K_X10_isBeat_0 d 0 0 (w32 (l1 + l3)) S C (fun r1 Sq C2 => Sq = S ∧ ((r1 = 0 → Q 0 S C2) ∧ (¬ r1 = 0 → ((0 : Int) ≤ l3 ∧ l3 < 6) ∧ K_X7_shifted_0 d 0 0 (C2 (l0 + 5) l3) l2 S C2 (fun r3 Sq C4 => Sq = S ∧ ((0 : Int) ≤ w32 (l1 + l3) ∧ w32 (l1 + l3) < 16) ∧ ((r3 = C4 (l0 + 4) (w32 (l1 + l3)) → K_X7_motifStands_2 (d + 1) mc ms l0 l1 l2 (w32 (l3 + 1)) S C4 Q) ∧ (¬ r3 = C4 (l0 + 4) (w32 (l1 + l3)) → Q 0 S C4))))))))) : K_X7_motifStands_2 (d + 1) mc ms l0 l1 l2 l3 S C Q := by
  show Wp (d + 1) mc ms M_X7_motifStands 2 [cA l0, cI l1, cI l2, cI l3] [] S C Q
  refine wp_iload_n (nx := 3) dX7_motifStands_2 rfl rfl ?_
  refine wp_aload_n (nx := 4) dX7_motifStands_3 rfl rfl ?_
  refine wp_getIe (kk := 6) 6 (nx := 7) clsX7 dX7_motifStands_4 rfl kF_X7_55 (by decide) (st_b0 F hs_l0) (st_t0 F hs_l0) rfl rfl rfl ?_
  refine wp_icmp_ge (nx := 10) (tg := 48) dX7_motifStands_7 rfl rfl (fun hc => ?_) (fun hc => ?_)
  · have h := h.1 hc
    refine wp_iconst (nx := 49) dX7_motifStands_48 rfl (i32 (by decide)) ?_
    exact wp_ireturn dX7_motifStands_49 rfl rfl (nz_of (Or.inr rfl)) h
  · have h := h.2 hc
    refine wp_iload_n (nx := 11) dX7_motifStands_10 rfl rfl ?_
    refine wp_iload_n (nx := 12) dX7_motifStands_11 rfl rfl ?_
    refine wp_iadd (nx := 13) dX7_motifStands_12 rfl ?_
    refine wp_invN (nx := 16) (N := M_X10_isBeat) (as := [cI (w32 (l1 + l3))]) (st := []) (mc := 0) (ms := 0) (mc' := mc) (ms' := ms) dX7_motifStands_13 rfl mok_X10_isBeat kN_X7_75 ks_X10_isBeat rfl rfl (leB rfl) (leB rfl) (z0 _) (z0 _) (Wp.mono h ?_)
    intro r1 Sq C2 h
    obtain ⟨e9, h⟩ := h
    rw [e9]
    show Wp (d + 1) mc ms M_X7_motifStands 16 [cA l0, cI l1, cI l2, cI l3] [cI r1] S C2 Q
    refine wp_if_eq (nx := 19) (tg := 40) dX7_motifStands_16 rfl rfl (fun hc => ?_) (fun hc => ?_)
    · have h := h.1 hc
      refine wp_iconst (nx := 41) dX7_motifStands_40 rfl (i32 (by decide)) ?_
      exact wp_ireturn dX7_motifStands_41 rfl rfl (nz_of (Or.inl rfl)) h
    · have h := h.2 hc
      refine wp_aload_n (nx := 20) dX7_motifStands_19 rfl rfl ?_
      refine wp_getAe (kk := 5) (nx := 23) clsX7 dX7_motifStands_20 rfl kF_X7_24 (by decide) (st_b0 F hs_l0) (st_t0 F hs_l0) rfl (st_p5 F hs_l0) ?_
      refine wp_iload_n (nx := 24) dX7_motifStands_23 rfl rfl ?_
      obtain ⟨hi, h⟩ := h
      refine wp_ialoadE (nx := 25) dX7_motifStands_24 rfl (st_b5 F hs_l0) (st_l5 F hs_l0) hi (st_t5 F hs_l0) rfl ?_
      refine wp_iload_n (nx := 26) dX7_motifStands_25 rfl rfl ?_
      refine wp_invS (nx := 29) (N := M_X7_shifted) (as := [cI (C2 (l0 + 5) l3), cI l2]) (st := []) (mc := 0) (ms := 0) (mc' := mc) (ms' := ms) dX7_motifStands_26 rfl mok_X7_shifted kM_X7_71 ks_X7_shifted rfl rfl (leB rfl) (leB rfl) (z0 _) (z0 _) (Wp.mono h ?_)
      intro r3 Sq C4 h
      obtain ⟨e9, h⟩ := h
      rw [e9]
      show Wp (d + 1) mc ms M_X7_motifStands 29 [cA l0, cI l1, cI l2, cI l3] [cI r3] S C4 Q
      refine wp_aload_n (nx := 30) dX7_motifStands_29 rfl rfl ?_
      refine wp_getAe (kk := 4) (nx := 33) clsX7 dX7_motifStands_30 rfl kF_X7_21 (by decide) (st_b0 F hs_l0) (st_t0 F hs_l0) rfl (st_p4 F hs_l0) ?_
      refine wp_iload_n (nx := 34) dX7_motifStands_33 rfl rfl ?_
      refine wp_iload_n (nx := 35) dX7_motifStands_34 rfl rfl ?_
      refine wp_iadd (nx := 36) dX7_motifStands_35 rfl ?_
      obtain ⟨hi, h⟩ := h
      refine wp_ialoadE (nx := 37) dX7_motifStands_36 rfl (st_b4 F hs_l0) (st_l4 F hs_l0) hi (st_t4 F hs_l0) rfl ?_
      refine wp_icmp_eq (nx := 40) (tg := 42) dX7_motifStands_37 rfl rfl (fun hc => ?_) (fun hc => ?_)
      · have h := h.1 hc
        refine wp_iinc (nx := 45) dX7_motifStands_42 rfl rfl (by decide) ?_
        refine wp_ls (ls2 := [cA l0, cI l1, cI l2, cI (w32 (l3 + 1))]) rfl ?_
        refine wp_goto (nx := 2) dX7_motifStands_45 rfl ?_
        exact h
      · have h := h.2 hc
        refine wp_iconst (nx := 41) dX7_motifStands_40 rfl (i32 (by decide)) ?_
        exact wp_ireturn dX7_motifStands_41 rfl rfl (nz_of (Or.inl rfl)) h
theorem b_X7_shifted_0 {d mc ms : Nat} {l0 l1 : Int} {S : MS} {C : MC} {Q : Int → MS → MC → Prop} (F : Fix S) (h : ((l1 < 0 → ((iShl (iShr l0 (w32 (-l1))) (w32 (-l1)) = l0 → Q (iShr l0 (w32 (-l1))) S C) ∧ (¬ iShl (iShr l0 (w32 (-l1))) (w32 (-l1)) = l0 → Q (-1) S C))) ∧ (¬ l1 < 0 → ((iShl l0 l1 ≤ 255 → Q (iShl l0 l1) S C) ∧ (¬ iShl l0 l1 ≤ 255 → Q (-1) S C))))) : K_X7_shifted_0 d mc ms l0 l1 S C Q := by
  show Wp d mc ms M_X7_shifted 0 [cI l0, cI l1] [] S C Q
  refine wp_iload_n (nx := 1) dX7_shifted_0 rfl rfl ?_
  refine wp_if_lt (nx := 4) (tg := 21) dX7_shifted_1 rfl rfl (fun hc => ?_) (fun hc => ?_)
  · have h := h.1 hc
    refine wp_iload_n (nx := 22) dX7_shifted_21 rfl rfl ?_
    refine wp_iload_n (nx := 23) dX7_shifted_22 rfl rfl ?_
    refine wp_ineg (nx := 24) dX7_shifted_23 rfl ?_
    refine wp_ishr (nx := 25) dX7_shifted_24 rfl ?_
    refine wp_iload_n (nx := 26) dX7_shifted_25 rfl rfl ?_
    refine wp_ineg (nx := 27) dX7_shifted_26 rfl ?_
    refine wp_ishl (nx := 28) dX7_shifted_27 rfl ?_
    refine wp_iload_n (nx := 29) dX7_shifted_28 rfl rfl ?_
    refine wp_icmp_eq (nx := 32) (tg := 36) dX7_shifted_29 rfl rfl (fun hc => ?_) (fun hc => ?_)
    · have h := h.1 hc
      refine wp_iload_n (nx := 37) dX7_shifted_36 rfl rfl ?_
      refine wp_iload_n (nx := 38) dX7_shifted_37 rfl rfl ?_
      refine wp_ineg (nx := 39) dX7_shifted_38 rfl ?_
      refine wp_ishr (nx := 40) dX7_shifted_39 rfl ?_
      exact wp_ireturn dX7_shifted_40 rfl rfl rfl h
    · have h := h.2 hc
      refine wp_iconst (nx := 33) dX7_shifted_32 rfl (i32 (by decide)) ?_
      refine wp_goto (nx := 40) dX7_shifted_33 rfl ?_
      exact wp_ireturn dX7_shifted_40 rfl rfl rfl h
  · have h := h.2 hc
    refine wp_iload_n (nx := 5) dX7_shifted_4 rfl rfl ?_
    refine wp_iload_n (nx := 6) dX7_shifted_5 rfl rfl ?_
    refine wp_ishl (nx := 7) dX7_shifted_6 rfl ?_
    refine wp_sipush (nx := 10) dX7_shifted_7 rfl ⟨by decide, i32 (by decide)⟩ ?_
    refine wp_icmp_le (nx := 13) (tg := 17) dX7_shifted_10 rfl rfl (fun hc => ?_) (fun hc => ?_)
    · have h := h.1 hc
      refine wp_iload_n (nx := 18) dX7_shifted_17 rfl rfl ?_
      refine wp_iload_n (nx := 19) dX7_shifted_18 rfl rfl ?_
      refine wp_ishl (nx := 20) dX7_shifted_19 rfl ?_
      exact wp_ireturn dX7_shifted_20 rfl rfl rfl h
    · have h := h.2 hc
      refine wp_iconst (nx := 14) dX7_shifted_13 rfl (i32 (by decide)) ?_
      refine wp_goto (nx := 20) dX7_shifted_14 rfl ?_
      exact wp_ireturn dX7_shifted_20 rfl rfl rfl h
