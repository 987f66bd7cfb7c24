/-! blocks -/
theorem b_X3_firstLost_0 {d mc ms : Nat} {l1 : Int} {S : MS} {C : MC} {Q : Int → MS → MC → Prop} (F : Fix S) (hs_l1 : isSt l1) (h : K_X3_firstLost_2 (d + 1) mc ms l1 0 S C Q) : K_X3_firstLost_0 (d + 1) mc ms l1 S C Q := by
  show Wp (d + 1) mc ms M_X3_firstLost 0 [cA 44, cA l1, cU] [] S C Q
  refine wp_iconst (nx := 1) dX3_firstLost_0 rfl (i32 (by decide)) ?_
  refine wp_istore_n (nx := 2) dX3_firstLost_1 rfl (by decide) ?_
  refine wp_ls (ls2 := [cA 44, cA l1, cI 0]) rfl ?_
  exact h
theorem b_X3_firstLost_2 {d mc ms : Nat} {l1 l2 : Int} {S : MS} {C : MC} {Q : Int → MS → MC → Prop} (F : Fix S) (hs_l1 : isSt l1) (h : ((16 ≤ l2 → Q 16 S C) ∧ (¬ 16 ≤ l2 → K_X3_canHave_0 d 0 0 l1 l2 (w32 ((iShl 1 (C l1 0)) - 1)) S C (fun r1 S3 C2 => Fix S3 ∧ ((¬ r1 = 0 → K_X3_firstLost_2 (d + 1) mc ms l1 (w32 (l2 + 1)) S3 C2 Q) ∧ (r1 = 0 → Q l2 S3 C2)))))) : K_X3_firstLost_2 (d + 1) mc ms l1 l2 S C Q := by
  show Wp (d + 1) mc ms M_X3_firstLost 2 [cA 44, cA l1, cI l2] [] S C Q
  refine wp_iload_n (nx := 3) dX3_firstLost_2 rfl rfl ?_
  refine wp_bipush (nx := 5) dX3_firstLost_3 rfl ⟨by decide, i32 (by decide)⟩ ?_
  refine wp_icmp_ge (nx := 8) (tg := 33) dX3_firstLost_5 rfl rfl (fun hc => ?_) (fun hc => ?_)
  · have h := h.1 hc
    refine wp_bipush (nx := 35) dX3_firstLost_33 rfl ⟨by decide, i32 (by decide)⟩ ?_
    exact wp_ireturn dX3_firstLost_35 rfl rfl rfl h
  · have h := h.2 hc
    refine wp_aload_n (nx := 9) dX3_firstLost_8 rfl rfl ?_
    refine wp_aload_n (nx := 10) dX3_firstLost_9 rfl rfl ?_
    refine wp_iload_n (nx := 11) dX3_firstLost_10 rfl rfl ?_
    refine wp_iconst (nx := 12) dX3_firstLost_11 rfl (i32 (by decide)) ?_
    refine wp_aload_n (nx := 13) dX3_firstLost_12 rfl rfl ?_
    refine wp_getIe (kk := 0) 0 (nx := 16) clsX7 dX3_firstLost_13 rfl kF_X3_39 (by decide) (st_b0 F hs_l1) (st_t0 F hs_l1) rfl rfl rfl ?_
    refine wp_ishl (nx := 17) dX3_firstLost_16 rfl ?_
    refine wp_iconst (nx := 18) dX3_firstLost_17 rfl (i32 (by decide)) ?_
    refine wp_isub (nx := 19) dX3_firstLost_18 rfl ?_
    refine wp_invV (nx := 22) (N := M_X3_canHave) (as := [cA l1, cI l2, cI (w32 ((iShl 1 (C l1 0)) - 1))]) (st := []) (mc := 0) (ms := 0) (mc' := mc) (ms' := ms) (a := 44) clsX3 dX3_firstLost_19 rfl mok_X3_canHave kM_X3_45 ki_X3_canHave ke_X3_canHave (fo_44 F) (ft_44 F) rfl rfl (leB rfl) (leB rfl) (z0 _) (z0 _) (Wp.mono h ?_)
    intro r1 S3 C2 h
    obtain ⟨F4, h⟩ := h
    show Wp (d + 1) mc ms M_X3_firstLost 22 [cA 44, cA l1, cI l2] [cI r1] S3 C2 Q
    refine wp_if_ne (nx := 25) (tg := 27) dX3_firstLost_22 rfl rfl (fun hc => ?_) (fun hc => ?_)
    · have h := h.1 hc
      refine wp_iinc (nx := 30) dX3_firstLost_27 rfl rfl (by decide) ?_
      refine wp_ls (ls2 := [cA 44, cA l1, cI (w32 (l2 + 1))]) rfl ?_
      refine wp_goto (nx := 2) dX3_firstLost_30 rfl ?_
      exact h
    · have h := h.2 hc
      refine wp_iload_n (nx := 26) dX3_firstLost_25 rfl rfl ?_
      exact wp_ireturn dX3_firstLost_26 rfl rfl rfl h
theorem b_X3_canHave_0 {d mc ms : Nat} {l1 l2 l3 : Int} {S : MS} {C : MC} {Q : Int → MS → MC → Prop} (F : Fix S) (hs_l1 : isSt l1) (h : K_X3_lookAt_0 d 0 0 l1 l2 0 S C (fun r1 S3 C2 => Fix S3 ∧ K_X3_coveredBy_0 d 0 0 l3 S3 C2 (fun r5 Sq C6 => Sq = S3 ∧ ((r5 = 0 ∨ r5 = 1) ∧ Q r5 S3 C6)))) : K_X3_canHave_0 (d + 1) mc ms l1 l2 l3 S C Q := by
  show Wp (d + 1) mc ms M_X3_canHave 0 [cA 44, cA l1, cI l2, cI l3] [] S C Q
  refine wp_aload_n (nx := 1) dX3_canHave_0 rfl rfl ?_
  refine wp_aload_n (nx := 2) dX3_canHave_1 rfl rfl ?_
  refine wp_iload_n (nx := 3) dX3_canHave_2 rfl rfl ?_
  refine wp_iconst (nx := 4) dX3_canHave_3 rfl (i32 (by decide)) ?_
  refine wp_invV (nx := 7) (N := M_X3_lookAt) (as := [cA l1, cI l2, cI 0]) (st := []) (mc := 0) (ms := 0) (mc' := mc) (ms' := ms) (a := 44) clsX3 dX3_canHave_4 rfl mok_X3_lookAt kM_X3_49 ki_X3_lookAt ke_X3_lookAt (fo_44 F) (ft_44 F) rfl rfl (leB rfl) (leB rfl) (z0 _) (z0 _) (Wp.mono h ?_)
  intro r1 S3 C2 h
  obtain ⟨F4, h⟩ := h
  show Wp (d + 1) mc ms M_X3_canHave 7 [cA 44, cA l1, cI l2, cI l3] [] S3 C2 Q
  refine wp_aload_n (nx := 8) dX3_canHave_7 rfl rfl ?_
  refine wp_iload_n (nx := 9) dX3_canHave_8 rfl rfl ?_
  refine wp_invV (nx := 12) (N := M_X3_coveredBy) (as := [cI l3]) (st := []) (mc := 0) (ms := 0) (mc' := mc) (ms' := ms) (a := 44) clsX3 dX3_canHave_9 rfl mok_X3_coveredBy kM_X3_53 ki_X3_coveredBy ke_X3_coveredBy (fo_44 F4) (ft_44 F4) rfl rfl (leB rfl) (leB rfl) (z0 _) (z0 _) (Wp.mono h ?_)
  intro r5 Sq C6 h
  obtain ⟨e9, h⟩ := h
  rw [e9]
  show Wp (d + 1) mc ms M_X3_canHave 12 [cA 44, cA l1, cI l2, cI l3] [cI r5] S3 C6 Q
  obtain ⟨hz, h⟩ := h
  exact wp_ireturn dX3_canHave_12 rfl rfl (nz_of hz) h
theorem b_X3_mindedAt_0 {d mc ms : Nat} {l1 l2 : Int} {S : MS} {C : MC} {Q : Int → MS → MC → Prop} (F : Fix S) (hs_l1 : isSt l1) (h : K_X3_lightestWay_0 d 0 0 l1 l2 S C (fun r1 S3 C2 => Fix S3 ∧ ((0 ≤ lCmp r1 1152921504606846976 → Q (-1) S3 C2) ∧ (¬ 0 ≤ lCmp r1 1152921504606846976 → Q (w32 (lShr r1 24)) S3 C2)))) : K_X3_mindedAt_0 (d + 1) mc ms l1 l2 S C Q := by
  show Wp (d + 1) mc ms M_X3_mindedAt 0 [cA 44, cA l1, cI l2, cU, cU] [] S C Q
  refine wp_aload_n (nx := 1) dX3_mindedAt_0 rfl rfl ?_
  refine wp_aload_n (nx := 2) dX3_mindedAt_1 rfl rfl ?_
  refine wp_iload_n (nx := 3) dX3_mindedAt_2 rfl rfl ?_
  refine wp_invV (nx := 6) (N := M_X3_lightestWay) (as := [cA l1, cI l2]) (st := []) (mc := 0) (ms := 0) (mc' := mc) (ms' := ms) (a := 44) clsX3 dX3_mindedAt_3 rfl mok_X3_lightestWay kM_X3_57 ki_X3_lightestWay ke_X3_lightestWay (fo_44 F) (ft_44 F) rfl rfl (leB rfl) (leB rfl) (z0 _) (z0 _) (Wp.mono h ?_)
  intro r1 S3 C2 h
  obtain ⟨F4, h⟩ := h
  show Wp (d + 1) mc ms M_X3_mindedAt 6 [cA 44, cA l1, cI l2, cU, cU] [cJ r1] S3 C2 Q
  refine wp_lstore_n (nx := 7) dX3_mindedAt_6 rfl (by decide) ?_
  refine wp_ls (ls2 := [cA 44, cA l1, cI l2, cJ r1, cU]) rfl ?_
  refine wp_lload_n (nx := 8) dX3_mindedAt_7 rfl rfl ?_
  refine wp_ldc2 (nx := 11) dX3_mindedAt_8 rfl kJ_X3_61 (i64 (by decide)) ?_
  refine wp_lcmp (nx := 12) dX3_mindedAt_11 rfl ?_
  refine wp_if_ge (nx := 15) (tg := 23) dX3_mindedAt_12 rfl rfl (fun hc => ?_) (fun hc => ?_)
  · have h := h.1 hc
    refine wp_iconst (nx := 24) dX3_mindedAt_23 rfl (i32 (by decide)) ?_
    exact wp_ireturn dX3_mindedAt_24 rfl rfl rfl h
  · have h := h.2 hc
    refine wp_lload_n (nx := 16) dX3_mindedAt_15 rfl rfl ?_
    refine wp_bipush (nx := 18) dX3_mindedAt_16 rfl ⟨by decide, i32 (by decide)⟩ ?_
    refine wp_lshr (nx := 19) dX3_mindedAt_18 rfl ?_
    refine wp_l2i (nx := 20) dX3_mindedAt_19 rfl ?_
    refine wp_goto (nx := 24) dX3_mindedAt_20 rfl ?_
    exact wp_ireturn dX3_mindedAt_24 rfl rfl rfl h
theorem b_X3_mindedInAll_0 {d mc ms : Nat} {l1 : Int} {S : MS} {C : MC} {Q : Int → MS → MC → Prop} (F : Fix S) (hs_l1 : isSt l1) (h : K_X3_mindedInAll_4 (d + 1) mc ms l1 0 0 S C Q) : K_X3_mindedInAll_0 (d + 1) mc ms l1 S C Q := by
  show Wp (d + 1) mc ms M_X3_mindedInAll 0 [cA 44, cA l1, cU, cU, cU, cU] [] S C Q
  refine wp_iconst (nx := 1) dX3_mindedInAll_0 rfl (i32 (by decide)) ?_
  refine wp_istore_n (nx := 2) dX3_mindedInAll_1 rfl (by decide) ?_
  refine wp_ls (ls2 := [cA 44, cA l1, cI 0, cU, cU, cU]) rfl ?_
  refine wp_iconst (nx := 3) dX3_mindedInAll_2 rfl (i32 (by decide)) ?_
  refine wp_istore_n (nx := 4) dX3_mindedInAll_3 rfl (by decide) ?_
  refine wp_ls (ls2 := [cA 44, cA l1, cI 0, cI 0, cU, cU]) rfl ?_
  exact h
theorem b_X3_mindedInAll_4 {d mc ms : Nat} {l1 l2 l3 : Int} {S : MS} {C : MC} {Q : Int → MS → MC → Prop} (F : Fix S) (hs_l1 : isSt l1) (h : ((16 ≤ l3 → Q l2 S C) ∧ (¬ 16 ≤ l3 → K_X3_lightestWay_0 d 0 0 l1 l3 S C (fun r1 S3 C2 => Fix S3 ∧ ((lCmp r1 1152921504606846976 < 0 → K_X3_mindedInAll_4 (d + 1) mc ms l1 (w32 (l2 + (w32 (lShr r1 24)))) (w32 (l3 + 1)) S3 C2 Q) ∧ (¬ lCmp r1 1152921504606846976 < 0 → Q (-1) S3 C2)))))) : K_X3_mindedInAll_4 (d + 1) mc ms l1 l2 l3 S C Q := by
  show Wp (d + 1) mc ms M_X3_mindedInAll 4 [cA 44, cA l1, cI l2, cI l3, cU, cU] [] S C Q
  refine wp_iload_n (nx := 5) dX3_mindedInAll_4 rfl rfl ?_
  refine wp_bipush (nx := 7) dX3_mindedInAll_5 rfl ⟨by decide, i32 (by decide)⟩ ?_
  refine wp_icmp_ge (nx := 10) (tg := 44) dX3_mindedInAll_7 rfl rfl (fun hc => ?_) (fun hc => ?_)
  · have h := h.1 hc
    refine wp_iload_n (nx := 45) dX3_mindedInAll_44 rfl rfl ?_
    exact wp_ireturn dX3_mindedInAll_45 rfl rfl rfl h
  · have h := h.2 hc
    refine wp_aload_n (nx := 11) dX3_mindedInAll_10 rfl rfl ?_
    refine wp_aload_n (nx := 12) dX3_mindedInAll_11 rfl rfl ?_
    refine wp_iload_n (nx := 13) dX3_mindedInAll_12 rfl rfl ?_
    refine wp_invV (nx := 16) (N := M_X3_lightestWay) (as := [cA l1, cI l3]) (st := []) (mc := 0) (ms := 0) (mc' := mc) (ms' := ms) (a := 44) clsX3 dX3_mindedInAll_13 rfl mok_X3_lightestWay kM_X3_57 ki_X3_lightestWay ke_X3_lightestWay (fo_44 F) (ft_44 F) rfl rfl (leB rfl) (leB rfl) (z0 _) (z0 _) (Wp.mono h ?_)
    intro r1 S3 C2 h
    obtain ⟨F4, h⟩ := h
    show Wp (d + 1) mc ms M_X3_mindedInAll 16 [cA 44, cA l1, cI l2, cI l3, cU, cU] [cJ r1] S3 C2 Q
    refine wp_lstore (nx := 18) dX3_mindedInAll_16 rfl (by decide) ?_
    refine wp_ls (ls2 := [cA 44, cA l1, cI l2, cI l3, cJ r1, cU]) rfl ?_
    refine wp_lload (nx := 20) dX3_mindedInAll_18 rfl rfl ?_
    refine wp_ldc2 (nx := 23) dX3_mindedInAll_20 rfl kJ_X3_61 (i64 (by decide)) ?_
    refine wp_lcmp (nx := 24) dX3_mindedInAll_23 rfl ?_
    refine wp_if_lt (nx := 27) (tg := 29) dX3_mindedInAll_24 rfl rfl (fun hc => ?_) (fun hc => ?_)
    · have h := h.1 hc
      refine wp_iload_n (nx := 30) dX3_mindedInAll_29 rfl rfl ?_
      refine wp_lload (nx := 32) dX3_mindedInAll_30 rfl rfl ?_
      refine wp_bipush (nx := 34) dX3_mindedInAll_32 rfl ⟨by decide, i32 (by decide)⟩ ?_
      refine wp_lshr (nx := 35) dX3_mindedInAll_34 rfl ?_
      refine wp_l2i (nx := 36) dX3_mindedInAll_35 rfl ?_
      refine wp_iadd (nx := 37) dX3_mindedInAll_36 rfl ?_
      refine wp_istore_n (nx := 38) dX3_mindedInAll_37 rfl (by decide) ?_
      refine wp_ls (ls2 := [cA 44, cA l1, cI (w32 (l2 + (w32 (lShr r1 24)))), cI l3, cJ r1, cU]) rfl ?_
      refine wp_iinc (nx := 41) dX3_mindedInAll_38 rfl rfl (by decide) ?_
      refine wp_ls (ls2 := [cA 44, cA l1, cI (w32 (l2 + (w32 (lShr r1 24)))), cI (w32 (l3 + 1)), cJ r1, cU]) rfl ?_
      refine wp_goto (nx := 4) dX3_mindedInAll_41 rfl ?_
      refine wp_fg [true, true, true, true, false, false] (ls2 := [cA 44, cA l1, cI (w32 (l2 + (w32 (lShr r1 24)))), cI (w32 (l3 + 1)), cU, cU]) rfl ?_
      exact h
    · have h := h.2 hc
      refine wp_iconst (nx := 28) dX3_mindedInAll_27 rfl (i32 (by decide)) ?_
      exact wp_ireturn dX3_mindedInAll_28 rfl rfl rfl h
theorem b_X3_lightestWay_0 {d mc ms : Nat} {l1 l2 : Int} {S : MS} {C : MC} {Q : Int → MS → MC → Prop} (F : Fix S) (hs_l1 : isSt l1) (h : K_X3_lookAt_0 d 0 0 l1 l2 1 S C (fun r1 S3 C2 => Fix S3 ∧ K_J7_fill_d0a16_0 d 0 0 49 1152921504606846976 S3 C2 (fun r5 Sq C6 => Sq = S3 ∧ K_X3_lightestWay_26 (d + 1) mc ms 0 S3 (upC C6 49 0 0) Q))) : K_X3_lightestWay_0 (d + 1) mc ms l1 l2 S C Q := by
  show Wp (d + 1) mc ms M_X3_lightestWay 0 [cA 44, cA l1, cI l2, cU, cU, cU, cU] [] S C Q
  refine wp_aload_n (nx := 1) dX3_lightestWay_0 rfl rfl ?_
  refine wp_aload_n (nx := 2) dX3_lightestWay_1 rfl rfl ?_
  refine wp_iload_n (nx := 3) dX3_lightestWay_2 rfl rfl ?_
  refine wp_iconst (nx := 4) dX3_lightestWay_3 rfl (i32 (by decide)) ?_
  refine wp_invV (nx := 7) (N := M_X3_lookAt) (as := [cA l1, cI l2, cI 1]) (st := []) (mc := 0) (ms := 0) (mc' := mc) (ms' := ms) (a := 44) clsX3 dX3_lightestWay_4 rfl mok_X3_lookAt kM_X3_49 ki_X3_lookAt ke_X3_lookAt (fo_44 F) (ft_44 F) rfl rfl (leB rfl) (leB rfl) (z0 _) (z0 _) (Wp.mono h ?_)
  intro r1 S3 C2 h
  obtain ⟨F4, h⟩ := h
  show Wp (d + 1) mc ms M_X3_lightestWay 7 [cA 44, cA l1, cI l2, cU, cU, cU, cU] [] S3 C2 Q
  refine wp_aload_n (nx := 8) dX3_lightestWay_7 rfl rfl ?_
  refine wp_getAe (kk := 5) (nx := 11) clsX3 dX3_lightestWay_8 rfl kF_X3_25 (by decide) (fo_44 F4) (ft_44 F4) rfl (fp_44_5 F4) ?_
  refine wp_ldc2 (nx := 14) dX3_lightestWay_11 rfl kJ_X3_61 (i64 (by decide)) ?_
  refine wp_invS (nx := 17) (N := M_J7_fill_d0a16) (as := [cA 49, cJ 1152921504606846976]) (st := []) (mc := 0) (ms := 0) (mc' := mc) (ms' := ms) dX3_lightestWay_14 rfl mok_J7_fill_d0a16 kM_X3_63 ks_J7_fill_d0a16 rfl rfl (leB rfl) (leB rfl) (z0 _) (z0 _) (Wp.mono h ?_)
  intro r5 Sq C6 h
  obtain ⟨e9, h⟩ := h
  rw [e9]
  show Wp (d + 1) mc ms M_X3_lightestWay 17 [cA 44, cA l1, cI l2, cU, cU, cU, cU] [] S3 C6 Q
  refine wp_aload_n (nx := 18) dX3_lightestWay_17 rfl rfl ?_
  refine wp_getAe (kk := 5) (nx := 21) clsX3 dX3_lightestWay_18 rfl kF_X3_25 (by decide) (fo_44 F4) (ft_44 F4) rfl (fp_44_5 F4) ?_
  refine wp_iconst (nx := 22) dX3_lightestWay_21 rfl (i32 (by decide)) ?_
  refine wp_lconst (nx := 23) (v := 0) dX3_lightestWay_22 rfl ⟨by decide, i64 (by decide)⟩ ?_
  refine wp_lastoreE (nx := 24) dX3_lightestWay_23 rfl (fo_49 F4) (fl_49 F4) (by decide) (ft_49 F4) ?_
  refine wp_iconst (nx := 25) dX3_lightestWay_24 rfl (i32 (by decide)) ?_
  refine wp_istore_n (nx := 26) dX3_lightestWay_25 rfl (by decide) ?_
  refine wp_ls (ls2 := [cA 44, cA l1, cI l2, cI 0, cU, cU, cU]) rfl ?_
  refine wp_fg [true, false, false, true, false, false, false] (ls2 := [cA 44, cU, cU, cI 0, cU, cU, cU]) rfl ?_
  exact h
theorem b_X3_lightestWay_26 {d mc ms : Nat} {l3 : Int} {S : MS} {C : MC} {Q : Int → MS → MC → Prop} (F : Fix S) (h : (∀ st1, S.2.2.2.1 44 8 = st1 → isSt st1 ∧ ((C st1 0 ≤ l3 → ((0 : Int) ≤ C 44 9 ∧ C 44 9 < 256) ∧ Q (C 49 (C 44 9)) S C) ∧ (¬ C st1 0 ≤ l3 → K_X3_weighParts_0 d 0 0 l3 S C (fun r2 Sq C3 => Sq = S ∧ K_X3_lightestWay_48 (d + 1) mc ms l3 (C3 44 9) S C3 Q))))) : K_X3_lightestWay_26 (d + 1) mc ms l3 S C Q := by
  show Wp (d + 1) mc ms M_X3_lightestWay 26 [cA 44, cU, cU, cI l3, cU, cU, cU] [] S C Q
  refine wp_iload_n (nx := 27) dX3_lightestWay_26 rfl rfl ?_
  refine wp_aload_n (nx := 28) dX3_lightestWay_27 rfl rfl ?_
  obtain ⟨hs_st1, h⟩ := h _ rfl
  generalize e_st1 : S.2.2.2.1 44 8 = st1 at hs_st1 h
  refine wp_getAe (kk := 8) (nx := 31) clsX3 dX3_lightestWay_28 rfl kF_X3_69 (by decide) (fo_44 F) (ft_44 F) rfl e_st1 ?_
  refine wp_getIe (kk := 0) 0 (nx := 34) clsX7 dX3_lightestWay_31 rfl kF_X3_39 (by decide) (st_b0 F hs_st1) (st_t0 F hs_st1) rfl rfl rfl ?_
  refine wp_icmp_ge (nx := 37) (tg := 140) dX3_lightestWay_34 rfl rfl (fun hc => ?_) (fun hc => ?_)
  · have h := h.1 hc
    refine wp_aload_n (nx := 141) dX3_lightestWay_140 rfl rfl ?_
    refine wp_getAe (kk := 5) (nx := 144) clsX3 dX3_lightestWay_141 rfl kF_X3_25 (by decide) (fo_44 F) (ft_44 F) rfl (fp_44_5 F) ?_
    refine wp_aload_n (nx := 145) dX3_lightestWay_144 rfl rfl ?_
    refine wp_getIe (kk := 9) 9 (nx := 148) clsX3 dX3_lightestWay_145 rfl kF_X3_77 (by decide) (fo_44 F) (ft_44 F) rfl rfl rfl ?_
    obtain ⟨hi, h⟩ := h
    refine wp_laloadE (nx := 149) dX3_lightestWay_148 rfl (fo_49 F) (fl_49 F) hi (ft_49 F) rfl ?_
    exact wp_lreturn dX3_lightestWay_149 rfl h
  · have h := h.2 hc
    refine wp_aload_n (nx := 38) dX3_lightestWay_37 rfl rfl ?_
    refine wp_iload_n (nx := 39) dX3_lightestWay_38 rfl rfl ?_
    refine wp_invV (nx := 42) (N := M_X3_weighParts) (as := [cI l3]) (st := []) (mc := 0) (ms := 0) (mc' := mc) (ms' := ms) (a := 44) clsX3 dX3_lightestWay_39 rfl mok_X3_weighParts kM_X3_73 ki_X3_weighParts ke_X3_weighParts (fo_44 F) (ft_44 F) rfl rfl (leB rfl) (leB rfl) (z0 _) (z0 _) (Wp.mono h ?_)
    intro r2 Sq C3 h
    obtain ⟨e9, h⟩ := h
    rw [e9]
    show Wp (d + 1) mc ms M_X3_lightestWay 42 [cA 44, cU, cU, cI l3, cU, cU, cU] [] S C3 Q
    refine wp_aload_n (nx := 43) dX3_lightestWay_42 rfl rfl ?_
    refine wp_getIe (kk := 9) 9 (nx := 46) clsX3 dX3_lightestWay_43 rfl kF_X3_77 (by decide) (fo_44 F) (ft_44 F) rfl rfl rfl ?_
    refine wp_istore (nx := 48) dX3_lightestWay_46 rfl (by decide) ?_
    refine wp_ls (ls2 := [cA 44, cU, cU, cI l3, cI (C3 44 9), cU, cU]) rfl ?_
    exact h
theorem b_X3_lightestWay_48 {d mc ms : Nat} {l3 l4 : Int} {S : MS} {C : MC} {Q : Int → MS → MC → Prop} (F : Fix S) (h : ((l4 ≤ 0 → K_X3_lightestWay_26 (d + 1) mc ms (w32 (l3 + 1)) S C Q) ∧ (¬ l4 ≤ 0 → ((0 : Int) ≤ l3 ∧ l3 < 6) ∧ K_X3_lightestWay_68 (d + 1) mc ms l3 l4 (iAnd l4 (C 45 l3)) (iAnd l4 (C 45 l3)) S C Q))) : K_X3_lightestWay_48 (d + 1) mc ms l3 l4 S C Q := by
  show Wp (d + 1) mc ms M_X3_lightestWay 48 [cA 44, cU, cU, cI l3, cI l4, cU, cU] [] S C Q
  refine wp_iload (nx := 50) dX3_lightestWay_48 rfl rfl ?_
  refine wp_if_le (nx := 53) (tg := 134) dX3_lightestWay_50 rfl rfl (fun hc => ?_) (fun hc => ?_)
  · have h := h.1 hc
    refine wp_iinc (nx := 137) dX3_lightestWay_134 rfl rfl (by decide) ?_
    refine wp_ls (ls2 := [cA 44, cU, cU, cI (w32 (l3 + 1)), cI l4, cU, cU]) rfl ?_
    refine wp_goto (nx := 26) dX3_lightestWay_137 rfl ?_
    refine wp_fg [true, false, false, true, false, false, false] (ls2 := [cA 44, cU, cU, cI (w32 (l3 + 1)), cU, cU, cU]) rfl ?_
    exact h
  · have h := h.2 hc
    refine wp_iload (nx := 55) dX3_lightestWay_53 rfl rfl ?_
    refine wp_aload_n (nx := 56) dX3_lightestWay_55 rfl rfl ?_
    refine wp_getAe (kk := 1) (nx := 59) clsX3 dX3_lightestWay_56 rfl kF_X3_9 (by decide) (fo_44 F) (ft_44 F) rfl (fp_44_1 F) ?_
    refine wp_iload_n (nx := 60) dX3_lightestWay_59 rfl rfl ?_
    obtain ⟨hi, h⟩ := h
    refine wp_ialoadE (nx := 61) dX3_lightestWay_60 rfl (fo_45 F) (fl_45 F) hi (ft_45 F) rfl ?_
    refine wp_iand (nx := 62) dX3_lightestWay_61 rfl ?_
    refine wp_istore (nx := 64) dX3_lightestWay_62 rfl (by decide) ?_
    refine wp_ls (ls2 := [cA 44, cU, cU, cI l3, cI l4, cI (iAnd l4 (C 45 l3)), cU]) rfl ?_
    refine wp_iload (nx := 66) dX3_lightestWay_64 rfl rfl ?_
    refine wp_istore (nx := 68) dX3_lightestWay_66 rfl (by decide) ?_
    refine wp_ls (ls2 := [cA 44, cU, cU, cI l3, cI l4, cI (iAnd l4 (C 45 l3)), cI (iAnd l4 (C 45 l3))]) rfl ?_
    exact h
theorem b_X3_lightestWay_68 {d mc ms : Nat} {l3 l4 l5 l6 : Int} {S : MS} {C : MC} {Q : Int → MS → MC → Prop} (F : Fix S) (h : ((l6 ≤ 0 → K_X3_lightestWay_48 (d + 1) mc ms l3 (iAnd (w32 (l4 - 1)) (C 44 9)) S C Q) ∧ (¬ l6 ≤ 0 → ((0 : Int) ≤ l4 ∧ l4 < 256) ∧ ((0 : Int) ≤ iXor l4 l6 ∧ iXor l4 l6 < 256) ∧ ((0 : Int) ≤ l6 ∧ l6 < 256) ∧ ((0 : Int) ≤ l4 ∧ l4 < 256) ∧ K_X3_lightestWay_68 (d + 1) mc ms l3 l4 l5 (iAnd (w32 (l6 - 1)) l5) S (upC C 49 l4 (min (C 49 l4) (w64 ((C 49 (iXor l4 l6)) + (C 48 l6))))) Q))) : K_X3_lightestWay_68 (d + 1) mc ms l3 l4 l5 l6 S C Q := by
  show Wp (d + 1) mc ms M_X3_lightestWay 68 [cA 44, cU, cU, cI l3, cI l4, cI l5, cI l6] [] S C Q
  refine wp_iload (nx := 70) dX3_lightestWay_68 rfl rfl ?_
  refine wp_if_le (nx := 73) (tg := 120) dX3_lightestWay_70 rfl rfl (fun hc => ?_) (fun hc => ?_)
  · have h := h.1 hc
    refine wp_iload (nx := 122) dX3_lightestWay_120 rfl rfl ?_
    refine wp_iconst (nx := 123) dX3_lightestWay_122 rfl (i32 (by decide)) ?_
    refine wp_isub (nx := 124) dX3_lightestWay_123 rfl ?_
    refine wp_aload_n (nx := 125) dX3_lightestWay_124 rfl rfl ?_
    refine wp_getIe (kk := 9) 9 (nx := 128) clsX3 dX3_lightestWay_125 rfl kF_X3_77 (by decide) (fo_44 F) (ft_44 F) rfl rfl rfl ?_
    refine wp_iand (nx := 129) dX3_lightestWay_128 rfl ?_
    refine wp_istore (nx := 131) dX3_lightestWay_129 rfl (by decide) ?_
    refine wp_ls (ls2 := [cA 44, cU, cU, cI l3, cI (iAnd (w32 (l4 - 1)) (C 44 9)), cI l5, cI l6]) rfl ?_
    refine wp_goto (nx := 48) dX3_lightestWay_131 rfl ?_
    refine wp_fg [true, false, false, true, true, false, false] (ls2 := [cA 44, cU, cU, cI l3, cI (iAnd (w32 (l4 - 1)) (C 44 9)), cU, cU]) rfl ?_
    exact h
  · have h := h.2 hc
    refine wp_aload_n (nx := 74) dX3_lightestWay_73 rfl rfl ?_
    refine wp_getAe (kk := 5) (nx := 77) clsX3 dX3_lightestWay_74 rfl kF_X3_25 (by decide) (fo_44 F) (ft_44 F) rfl (fp_44_5 F) ?_
    refine wp_iload (nx := 79) dX3_lightestWay_77 rfl rfl ?_
    refine wp_aload_n (nx := 80) dX3_lightestWay_79 rfl rfl ?_
    refine wp_getAe (kk := 5) (nx := 83) clsX3 dX3_lightestWay_80 rfl kF_X3_25 (by decide) (fo_44 F) (ft_44 F) rfl (fp_44_5 F) ?_
    refine wp_iload (nx := 85) dX3_lightestWay_83 rfl rfl ?_
    obtain ⟨hi, h⟩ := h
    refine wp_laloadE (nx := 86) dX3_lightestWay_85 rfl (fo_49 F) (fl_49 F) hi (ft_49 F) rfl ?_
    refine wp_aload_n (nx := 87) dX3_lightestWay_86 rfl rfl ?_
    refine wp_getAe (kk := 5) (nx := 90) clsX3 dX3_lightestWay_87 rfl kF_X3_25 (by decide) (fo_44 F) (ft_44 F) rfl (fp_44_5 F) ?_
    refine wp_iload (nx := 92) dX3_lightestWay_90 rfl rfl ?_
    refine wp_iload (nx := 94) dX3_lightestWay_92 rfl rfl ?_
    refine wp_ixor (nx := 95) dX3_lightestWay_94 rfl ?_
    obtain ⟨hi, h⟩ := h
    refine wp_laloadE (nx := 96) dX3_lightestWay_95 rfl (fo_49 F) (fl_49 F) hi (ft_49 F) rfl ?_
    refine wp_aload_n (nx := 97) dX3_lightestWay_96 rfl rfl ?_
    refine wp_getAe (kk := 4) (nx := 100) clsX3 dX3_lightestWay_97 rfl kF_X3_22 (by decide) (fo_44 F) (ft_44 F) rfl (fp_44_4 F) ?_
    refine wp_iload (nx := 102) dX3_lightestWay_100 rfl rfl ?_
    obtain ⟨hi, h⟩ := h
    refine wp_laloadE (nx := 103) dX3_lightestWay_102 rfl (fo_48 F) (fl_48 F) hi (ft_48 F) rfl ?_
    refine wp_ladd (nx := 104) dX3_lightestWay_103 rfl ?_
    refine wp_mminJ (nx := 107) dX3_lightestWay_104 rfl kM_X3_80 (leB rfl) ?_
    obtain ⟨hi, h⟩ := h
    refine wp_lastoreE (nx := 108) dX3_lightestWay_107 rfl (fo_49 F) (fl_49 F) hi (ft_49 F) ?_
    refine wp_iload (nx := 110) dX3_lightestWay_108 rfl rfl ?_
    refine wp_iconst (nx := 111) dX3_lightestWay_110 rfl (i32 (by decide)) ?_
    refine wp_isub (nx := 112) dX3_lightestWay_111 rfl ?_
    refine wp_iload (nx := 114) dX3_lightestWay_112 rfl rfl ?_
    refine wp_iand (nx := 115) dX3_lightestWay_114 rfl ?_
    refine wp_istore (nx := 117) dX3_lightestWay_115 rfl (by decide) ?_
    refine wp_ls (ls2 := [cA 44, cU, cU, cI l3, cI l4, cI l5, cI (iAnd (w32 (l6 - 1)) l5)]) rfl ?_
    refine wp_goto (nx := 68) dX3_lightestWay_117 rfl ?_
    exact h
theorem b_X3_player_0 {d mc ms : Nat} {l1 : Int} {S : MS} {C : MC} {Q : Int → MS → MC → Prop} (F : Fix S) (h : ((¬ iAnd (iShr (C 44 9) l1) 1 = 0 → ((0 : Int) ≤ C 44 9 ∧ C 44 9 < 256) ∧ K_X3_rowPlace_0 d 0 0 l1 S C (fun r1 Sq C2 => Sq = S ∧ Q (iAnd (w32 (lShr (C 49 (C 44 9)) r1)) 7) S C2)) ∧ (iAnd (iShr (C 44 9) l1) 1 = 0 → Q (-1) S C))) : K_X3_player_0 (d + 1) mc ms l1 S C Q := by
  show Wp (d + 1) mc ms M_X3_player 0 [cA 44, cI l1] [] S C Q
  refine wp_aload_n (nx := 1) dX3_player_0 rfl rfl ?_
  refine wp_getIe (kk := 9) 9 (nx := 4) clsX3 dX3_player_1 rfl kF_X3_77 (by decide) (fo_44 F) (ft_44 F) rfl rfl rfl ?_
  refine wp_iload_n (nx := 5) dX3_player_4 rfl rfl ?_
  refine wp_ishr (nx := 6) dX3_player_5 rfl ?_
  refine wp_iconst (nx := 7) dX3_player_6 rfl (i32 (by decide)) ?_
  refine wp_iand (nx := 8) dX3_player_7 rfl ?_
  refine wp_if_ne (nx := 11) (tg := 13) dX3_player_8 rfl rfl (fun hc => ?_) (fun hc => ?_)
  · have h := h.1 hc
    refine wp_aload_n (nx := 14) dX3_player_13 rfl rfl ?_
    refine wp_getAe (kk := 5) (nx := 17) clsX3 dX3_player_14 rfl kF_X3_25 (by decide) (fo_44 F) (ft_44 F) rfl (fp_44_5 F) ?_
    refine wp_aload_n (nx := 18) dX3_player_17 rfl rfl ?_
    refine wp_getIe (kk := 9) 9 (nx := 21) clsX3 dX3_player_18 rfl kF_X3_77 (by decide) (fo_44 F) (ft_44 F) rfl rfl rfl ?_
    obtain ⟨hi, h⟩ := h
    refine wp_laloadE (nx := 22) dX3_player_21 rfl (fo_49 F) (fl_49 F) hi (ft_49 F) rfl ?_
    refine wp_iload_n (nx := 23) dX3_player_22 rfl rfl ?_
    refine wp_invS (nx := 26) (N := M_X3_rowPlace) (as := [cI l1]) (st := [cJ (C 49 (C 44 9))]) (mc := 0) (ms := 0) (mc' := mc) (ms' := ms) dX3_player_23 rfl mok_X3_rowPlace kM_X3_86 ks_X3_rowPlace rfl rfl (leB rfl) (leB rfl) (z0 _) (z0 _) (Wp.mono h ?_)
    intro r1 Sq C2 h
    obtain ⟨e9, h⟩ := h
    rw [e9]
    show Wp (d + 1) mc ms M_X3_player 26 [cA 44, cI l1] [cI r1, cJ (C 49 (C 44 9))] S C2 Q
    refine wp_lshr (nx := 27) dX3_player_26 rfl ?_
    refine wp_l2i (nx := 28) dX3_player_27 rfl ?_
    refine wp_bipush (nx := 30) dX3_player_28 rfl ⟨by decide, i32 (by decide)⟩ ?_
    refine wp_iand (nx := 31) dX3_player_30 rfl ?_
    exact wp_ireturn dX3_player_31 rfl rfl rfl h
  · have h := h.2 hc
    refine wp_iconst (nx := 12) dX3_player_11 rfl (i32 (by decide)) ?_
    exact wp_ireturn dX3_player_12 rfl rfl rfl h
theorem b_X3_howManyWays_0 {d mc ms : Nat} {l1 l2 : Int} {S : MS} {C : MC} {Q : Int → MS → MC → Prop} (F : Fix S) (hs_l1 : isSt l1) (h : K_X3_lookAt_0 d 0 0 l1 l2 0 S C (fun r1 S3 C2 => Fix S3 ∧ K_J7_fill_53178_0 d 0 0 50 0 S3 C2 (fun r5 Sq C6 => Sq = S3 ∧ K_X3_howManyWays_24 (d + 1) mc ms 0 S3 (upC C6 50 0 1) Q))) : K_X3_howManyWays_0 (d + 1) mc ms l1 l2 S C Q := by
  show Wp (d + 1) mc ms M_X3_howManyWays 0 [cA 44, cA l1, cI l2, cU, cU, cU, cU] [] S C Q
  refine wp_aload_n (nx := 1) dX3_howManyWays_0 rfl rfl ?_
  refine wp_aload_n (nx := 2) dX3_howManyWays_1 rfl rfl ?_
  refine wp_iload_n (nx := 3) dX3_howManyWays_2 rfl rfl ?_
  refine wp_iconst (nx := 4) dX3_howManyWays_3 rfl (i32 (by decide)) ?_
  refine wp_invV (nx := 7) (N := M_X3_lookAt) (as := [cA l1, cI l2, cI 0]) (st := []) (mc := 0) (ms := 0) (mc' := mc) (ms' := ms) (a := 44) clsX3 dX3_howManyWays_4 rfl mok_X3_lookAt kM_X3_49 ki_X3_lookAt ke_X3_lookAt (fo_44 F) (ft_44 F) rfl rfl (leB rfl) (leB rfl) (z0 _) (z0 _) (Wp.mono h ?_)
  intro r1 S3 C2 h
  obtain ⟨F4, h⟩ := h
  show Wp (d + 1) mc ms M_X3_howManyWays 7 [cA 44, cA l1, cI l2, cU, cU, cU, cU] [] S3 C2 Q
  refine wp_aload_n (nx := 8) dX3_howManyWays_7 rfl rfl ?_
  refine wp_getAe (kk := 6) (nx := 11) clsX3 dX3_howManyWays_8 rfl kF_X3_28 (by decide) (fo_44 F4) (ft_44 F4) rfl (fp_44_6 F4) ?_
  refine wp_iconst (nx := 12) dX3_howManyWays_11 rfl (i32 (by decide)) ?_
  refine wp_invS (nx := 15) (N := M_J7_fill_53178) (as := [cA 50, cI 0]) (st := []) (mc := 0) (ms := 0) (mc' := mc) (ms' := ms) dX3_howManyWays_12 rfl mok_J7_fill_53178 kM_X3_90 ks_J7_fill_53178 rfl rfl (leB rfl) (leB rfl) (z0 _) (z0 _) (Wp.mono h ?_)
  intro r5 Sq C6 h
  obtain ⟨e9, h⟩ := h
  rw [e9]
  show Wp (d + 1) mc ms M_X3_howManyWays 15 [cA 44, cA l1, cI l2, cU, cU, cU, cU] [] S3 C6 Q
  refine wp_aload_n (nx := 16) dX3_howManyWays_15 rfl rfl ?_
  refine wp_getAe (kk := 6) (nx := 19) clsX3 dX3_howManyWays_16 rfl kF_X3_28 (by decide) (fo_44 F4) (ft_44 F4) rfl (fp_44_6 F4) ?_
  refine wp_iconst (nx := 20) dX3_howManyWays_19 rfl (i32 (by decide)) ?_
  refine wp_iconst (nx := 21) dX3_howManyWays_20 rfl (i32 (by decide)) ?_
  refine wp_iastoreE (nx := 22) dX3_howManyWays_21 rfl (fo_50 F4) (fl_50 F4) (by decide) (ft_50 F4) ?_
  refine wp_iconst (nx := 23) dX3_howManyWays_22 rfl (i32 (by decide)) ?_
  refine wp_istore_n (nx := 24) dX3_howManyWays_23 rfl (by decide) ?_
  refine wp_ls (ls2 := [cA 44, cA l1, cI l2, cI 0, cU, cU, cU]) rfl ?_
  refine wp_fg [true, false, false, true, false, false, false] (ls2 := [cA 44, cU, cU, cI 0, cU, cU, cU]) rfl ?_
  exact h
theorem b_X3_howManyWays_24 {d mc ms : Nat} {l3 : Int} {S : MS} {C : MC} {Q : Int → MS → MC → Prop} (F : Fix S) (h : (∀ st1, S.2.2.2.1 44 8 = st1 → isSt st1 ∧ ((C st1 0 ≤ l3 → ((0 : Int) ≤ C 44 9 ∧ C 44 9 < 256) ∧ Q (C 50 (C 44 9)) S C) ∧ (¬ C st1 0 ≤ l3 → K_X3_weighParts_0 d 0 0 l3 S C (fun r2 Sq C3 => Sq = S ∧ K_X3_howManyWays_46 (d + 1) mc ms l3 (C3 44 9) S C3 Q))))) : K_X3_howManyWays_24 (d + 1) mc ms l3 S C Q := by
  show Wp (d + 1) mc ms M_X3_howManyWays 24 [cA 44, cU, cU, cI l3, cU, cU, cU] [] S C Q
  refine wp_iload_n (nx := 25) dX3_howManyWays_24 rfl rfl ?_
  refine wp_aload_n (nx := 26) dX3_howManyWays_25 rfl rfl ?_
  obtain ⟨hs_st1, h⟩ := h _ rfl
  generalize e_st1 : S.2.2.2.1 44 8 = st1 at hs_st1 h
  refine wp_getAe (kk := 8) (nx := 29) clsX3 dX3_howManyWays_26 rfl kF_X3_69 (by decide) (fo_44 F) (ft_44 F) rfl e_st1 ?_
  refine wp_getIe (kk := 0) 0 (nx := 32) clsX7 dX3_howManyWays_29 rfl kF_X3_39 (by decide) (st_b0 F hs_st1) (st_t0 F hs_st1) rfl rfl rfl ?_
  refine wp_icmp_ge (nx := 35) (tg := 141) dX3_howManyWays_32 rfl rfl (fun hc => ?_) (fun hc => ?_)
  · have h := h.1 hc
    refine wp_aload_n (nx := 142) dX3_howManyWays_141 rfl rfl ?_
    refine wp_getAe (kk := 6) (nx := 145) clsX3 dX3_howManyWays_142 rfl kF_X3_28 (by decide) (fo_44 F) (ft_44 F) rfl (fp_44_6 F) ?_
    refine wp_aload_n (nx := 146) dX3_howManyWays_145 rfl rfl ?_
    refine wp_getIe (kk := 9) 9 (nx := 149) clsX3 dX3_howManyWays_146 rfl kF_X3_77 (by decide) (fo_44 F) (ft_44 F) rfl rfl rfl ?_
    obtain ⟨hi, h⟩ := h
    refine wp_ialoadE (nx := 150) dX3_howManyWays_149 rfl (fo_50 F) (fl_50 F) hi (ft_50 F) rfl ?_
    exact wp_ireturn dX3_howManyWays_150 rfl rfl rfl h
  · have h := h.2 hc
    refine wp_aload_n (nx := 36) dX3_howManyWays_35 rfl rfl ?_
    refine wp_iload_n (nx := 37) dX3_howManyWays_36 rfl rfl ?_
    refine wp_invV (nx := 40) (N := M_X3_weighParts) (as := [cI l3]) (st := []) (mc := 0) (ms := 0) (mc' := mc) (ms' := ms) (a := 44) clsX3 dX3_howManyWays_37 rfl mok_X3_weighParts kM_X3_73 ki_X3_weighParts ke_X3_weighParts (fo_44 F) (ft_44 F) rfl rfl (leB rfl) (leB rfl) (z0 _) (z0 _) (Wp.mono h ?_)
    intro r2 Sq C3 h
    obtain ⟨e9, h⟩ := h
    rw [e9]
    show Wp (d + 1) mc ms M_X3_howManyWays 40 [cA 44, cU, cU, cI l3, cU, cU, cU] [] S C3 Q
    refine wp_aload_n (nx := 41) dX3_howManyWays_40 rfl rfl ?_
    refine wp_getIe (kk := 9) 9 (nx := 44) clsX3 dX3_howManyWays_41 rfl kF_X3_77 (by decide) (fo_44 F) (ft_44 F) rfl rfl rfl ?_
    refine wp_istore (nx := 46) dX3_howManyWays_44 rfl (by decide) ?_
    refine wp_ls (ls2 := [cA 44, cU, cU, cI l3, cI (C3 44 9), cU, cU]) rfl ?_
    exact h
theorem b_X3_howManyWays_46 {d mc ms : Nat} {l3 l4 : Int} {S : MS} {C : MC} {Q : Int → MS → MC → Prop} (F : Fix S) (h : ((l4 ≤ 0 → K_X3_howManyWays_24 (d + 1) mc ms (w32 (l3 + 1)) S C Q) ∧ (¬ l4 ≤ 0 → ((0 : Int) ≤ l3 ∧ l3 < 6) ∧ K_X3_howManyWays_66 (d + 1) mc ms l3 l4 (iAnd l4 (C 45 l3)) (iAnd l4 (C 45 l3)) S C Q))) : K_X3_howManyWays_46 (d + 1) mc ms l3 l4 S C Q := by
  show Wp (d + 1) mc ms M_X3_howManyWays 46 [cA 44, cU, cU, cI l3, cI l4, cU, cU] [] S C Q
  refine wp_iload (nx := 48) dX3_howManyWays_46 rfl rfl ?_
  refine wp_if_le (nx := 51) (tg := 135) dX3_howManyWays_48 rfl rfl (fun hc => ?_) (fun hc => ?_)
  · have h := h.1 hc
    refine wp_iinc (nx := 138) dX3_howManyWays_135 rfl rfl (by decide) ?_
    refine wp_ls (ls2 := [cA 44, cU, cU, cI (w32 (l3 + 1)), cI l4, cU, cU]) rfl ?_
    refine wp_goto (nx := 24) dX3_howManyWays_138 rfl ?_
    refine wp_fg [true, false, false, true, false, false, false] (ls2 := [cA 44, cU, cU, cI (w32 (l3 + 1)), cU, cU, cU]) rfl ?_
    exact h
  · have h := h.2 hc
    refine wp_iload (nx := 53) dX3_howManyWays_51 rfl rfl ?_
    refine wp_aload_n (nx := 54) dX3_howManyWays_53 rfl rfl ?_
    refine wp_getAe (kk := 1) (nx := 57) clsX3 dX3_howManyWays_54 rfl kF_X3_9 (by decide) (fo_44 F) (ft_44 F) rfl (fp_44_1 F) ?_
    refine wp_iload_n (nx := 58) dX3_howManyWays_57 rfl rfl ?_
    obtain ⟨hi, h⟩ := h
    refine wp_ialoadE (nx := 59) dX3_howManyWays_58 rfl (fo_45 F) (fl_45 F) hi (ft_45 F) rfl ?_
    refine wp_iand (nx := 60) dX3_howManyWays_59 rfl ?_
    refine wp_istore (nx := 62) dX3_howManyWays_60 rfl (by decide) ?_
    refine wp_ls (ls2 := [cA 44, cU, cU, cI l3, cI l4, cI (iAnd l4 (C 45 l3)), cU]) rfl ?_
    refine wp_iload (nx := 64) dX3_howManyWays_62 rfl rfl ?_
    refine wp_istore (nx := 66) dX3_howManyWays_64 rfl (by decide) ?_
    refine wp_ls (ls2 := [cA 44, cU, cU, cI l3, cI l4, cI (iAnd l4 (C 45 l3)), cI (iAnd l4 (C 45 l3))]) rfl ?_
    exact h
theorem b_X3_howManyWays_66 {d mc ms : Nat} {l3 l4 l5 l6 : Int} {S : MS} {C : MC} {Q : Int → MS → MC → Prop} (F : Fix S) (h : ((l6 ≤ 0 → K_X3_howManyWays_46 (d + 1) mc ms l3 (iAnd (w32 (l4 - 1)) (C 44 9)) S C Q) ∧ (¬ l6 ≤ 0 → ((0 : Int) ≤ l4 ∧ l4 < 256) ∧ ((0 : Int) ≤ l6 ∧ l6 < 256) ∧ ((0 ≤ lCmp (C 48 l6) 1152921504606846976 → ((0 : Int) ≤ l4 ∧ l4 < 256) ∧ K_X3_howManyWays_66 (d + 1) mc ms l3 l4 l5 (iAnd (w32 (l6 - 1)) l5) S (upC C 50 l4 (w32 ((C 50 l4) + 0))) Q) ∧ (¬ 0 ≤ lCmp (C 48 l6) 1152921504606846976 → ((0 : Int) ≤ iXor l4 l6 ∧ iXor l4 l6 < 256) ∧ ((0 : Int) ≤ l4 ∧ l4 < 256) ∧ K_X3_howManyWays_66 (d + 1) mc ms l3 l4 l5 (iAnd (w32 (l6 - 1)) l5) S (upC C 50 l4 (w32 ((C 50 l4) + (C 50 (iXor l4 l6))))) Q))))) : K_X3_howManyWays_66 (d + 1) mc ms l3 l4 l5 l6 S C Q := by
  show Wp (d + 1) mc ms M_X3_howManyWays 66 [cA 44, cU, cU, cI l3, cI l4, cI l5, cI l6] [] S C Q
  refine wp_iload (nx := 68) dX3_howManyWays_66 rfl rfl ?_
  refine wp_if_le (nx := 71) (tg := 121) dX3_howManyWays_68 rfl rfl (fun hc => ?_) (fun hc => ?_)
  · have h := h.1 hc
    refine wp_iload (nx := 123) dX3_howManyWays_121 rfl rfl ?_
    refine wp_iconst (nx := 124) dX3_howManyWays_123 rfl (i32 (by decide)) ?_
    refine wp_isub (nx := 125) dX3_howManyWays_124 rfl ?_
    refine wp_aload_n (nx := 126) dX3_howManyWays_125 rfl rfl ?_
    refine wp_getIe (kk := 9) 9 (nx := 129) clsX3 dX3_howManyWays_126 rfl kF_X3_77 (by decide) (fo_44 F) (ft_44 F) rfl rfl rfl ?_
    refine wp_iand (nx := 130) dX3_howManyWays_129 rfl ?_
    refine wp_istore (nx := 132) dX3_howManyWays_130 rfl (by decide) ?_
    refine wp_ls (ls2 := [cA 44, cU, cU, cI l3, cI (iAnd (w32 (l4 - 1)) (C 44 9)), cI l5, cI l6]) rfl ?_
    refine wp_goto (nx := 46) dX3_howManyWays_132 rfl ?_
    refine wp_fg [true, false, false, true, true, false, false] (ls2 := [cA 44, cU, cU, cI l3, cI (iAnd (w32 (l4 - 1)) (C 44 9)), cU, cU]) rfl ?_
    exact h
  · have h := h.2 hc
    refine wp_aload_n (nx := 72) dX3_howManyWays_71 rfl rfl ?_
    refine wp_getAe (kk := 6) (nx := 75) clsX3 dX3_howManyWays_72 rfl kF_X3_28 (by decide) (fo_44 F) (ft_44 F) rfl (fp_44_6 F) ?_
    refine wp_iload (nx := 77) dX3_howManyWays_75 rfl rfl ?_
    refine wp_dup2 (nx := 78) dX3_howManyWays_77 rfl (k1I _) (k1A _) ?_
    obtain ⟨hi, h⟩ := h
    refine wp_ialoadE (nx := 79) dX3_howManyWays_78 rfl (fo_50 F) (fl_50 F) hi (ft_50 F) rfl ?_
    refine wp_aload_n (nx := 80) dX3_howManyWays_79 rfl rfl ?_
    refine wp_getAe (kk := 4) (nx := 83) clsX3 dX3_howManyWays_80 rfl kF_X3_22 (by decide) (fo_44 F) (ft_44 F) rfl (fp_44_4 F) ?_
    refine wp_iload (nx := 85) dX3_howManyWays_83 rfl rfl ?_
    obtain ⟨hi, h⟩ := h
    refine wp_laloadE (nx := 86) dX3_howManyWays_85 rfl (fo_48 F) (fl_48 F) hi (ft_48 F) rfl ?_
    refine wp_ldc2 (nx := 89) dX3_howManyWays_86 rfl kJ_X3_61 (i64 (by decide)) ?_
    refine wp_lcmp (nx := 90) dX3_howManyWays_89 rfl ?_
    refine wp_if_ge (nx := 93) (tg := 106) dX3_howManyWays_90 rfl rfl (fun hc => ?_) (fun hc => ?_)
    · have h := h.1 hc
      refine wp_iconst (nx := 107) dX3_howManyWays_106 rfl (i32 (by decide)) ?_
      refine wp_iadd (nx := 108) dX3_howManyWays_107 rfl ?_
      obtain ⟨hi, h⟩ := h
      refine wp_iastoreE (nx := 109) dX3_howManyWays_108 rfl (fo_50 F) (fl_50 F) hi (ft_50 F) ?_
      refine wp_iload (nx := 111) dX3_howManyWays_109 rfl rfl ?_
      refine wp_iconst (nx := 112) dX3_howManyWays_111 rfl (i32 (by decide)) ?_
      refine wp_isub (nx := 113) dX3_howManyWays_112 rfl ?_
      refine wp_iload (nx := 115) dX3_howManyWays_113 rfl rfl ?_
      refine wp_iand (nx := 116) dX3_howManyWays_115 rfl ?_
      refine wp_istore (nx := 118) dX3_howManyWays_116 rfl (by decide) ?_
      refine wp_ls (ls2 := [cA 44, cU, cU, cI l3, cI l4, cI l5, cI (iAnd (w32 (l6 - 1)) l5)]) rfl ?_
      refine wp_goto (nx := 66) dX3_howManyWays_118 rfl ?_
      exact h
    · have h := h.2 hc
      refine wp_aload_n (nx := 94) dX3_howManyWays_93 rfl rfl ?_
      refine wp_getAe (kk := 6) (nx := 97) clsX3 dX3_howManyWays_94 rfl kF_X3_28 (by decide) (fo_44 F) (ft_44 F) rfl (fp_44_6 F) ?_
      refine wp_iload (nx := 99) dX3_howManyWays_97 rfl rfl ?_
      refine wp_iload (nx := 101) dX3_howManyWays_99 rfl rfl ?_
      refine wp_ixor (nx := 102) dX3_howManyWays_101 rfl ?_
      obtain ⟨hi, h⟩ := h
      refine wp_ialoadE (nx := 103) dX3_howManyWays_102 rfl (fo_50 F) (fl_50 F) hi (ft_50 F) rfl ?_
      refine wp_goto (nx := 107) dX3_howManyWays_103 rfl ?_
      refine wp_iadd (nx := 108) dX3_howManyWays_107 rfl ?_
      obtain ⟨hi, h⟩ := h
      refine wp_iastoreE (nx := 109) dX3_howManyWays_108 rfl (fo_50 F) (fl_50 F) hi (ft_50 F) ?_
      refine wp_iload (nx := 111) dX3_howManyWays_109 rfl rfl ?_
      refine wp_iconst (nx := 112) dX3_howManyWays_111 rfl (i32 (by decide)) ?_
      refine wp_isub (nx := 113) dX3_howManyWays_112 rfl ?_
      refine wp_iload (nx := 115) dX3_howManyWays_113 rfl rfl ?_
      refine wp_iand (nx := 116) dX3_howManyWays_115 rfl ?_
      refine wp_istore (nx := 118) dX3_howManyWays_116 rfl (by decide) ?_
      refine wp_ls (ls2 := [cA 44, cU, cU, cI l3, cI l4, cI l5, cI (iAnd (w32 (l6 - 1)) l5)]) rfl ?_
      refine wp_goto (nx := 66) dX3_howManyWays_118 rfl ?_
      exact h
theorem b_X3_whoCould_0 {d mc ms : Nat} {l1 l2 l3 : Int} {S : MS} {C : MC} {Q : Int → MS → MC → Prop} (F : Fix S) (hs_l1 : isSt l1) (h : K_X3_lookAt_0 d 0 0 l1 l2 0 S C (fun r1 S3 C2 => Fix S3 ∧ K_X3_whoCould_38 (d + 1) mc ms l1 l3 (w32 ((iShl 1 ((cpC C2 45 0 46 0 6) l1 0)) - 1)) 0 0 S3 (cpC C2 45 0 46 0 6) Q)) : K_X3_whoCould_0 (d + 1) mc ms l1 l2 l3 S C Q := by
  show Wp (d + 1) mc ms M_X3_whoCould 0 [cA 44, cA l1, cI l2, cI l3, cU, cU, cU] [] S C Q
  refine wp_aload_n (nx := 1) dX3_whoCould_0 rfl rfl ?_
  refine wp_aload_n (nx := 2) dX3_whoCould_1 rfl rfl ?_
  refine wp_iload_n (nx := 3) dX3_whoCould_2 rfl rfl ?_
  refine wp_iconst (nx := 4) dX3_whoCould_3 rfl (i32 (by decide)) ?_
  refine wp_invV (nx := 7) (N := M_X3_lookAt) (as := [cA l1, cI l2, cI 0]) (st := []) (mc := 0) (ms := 0) (mc' := mc) (ms' := ms) (a := 44) clsX3 dX3_whoCould_4 rfl mok_X3_lookAt kM_X3_49 ki_X3_lookAt ke_X3_lookAt (fo_44 F) (ft_44 F) rfl rfl (leB rfl) (leB rfl) (z0 _) (z0 _) (Wp.mono h ?_)
  intro r1 S3 C2 h
  obtain ⟨F4, h⟩ := h
  show Wp (d + 1) mc ms M_X3_whoCould 7 [cA 44, cA l1, cI l2, cI l3, cU, cU, cU] [] S3 C2 Q
  refine wp_aload_n (nx := 8) dX3_whoCould_7 rfl rfl ?_
  refine wp_getAe (kk := 1) (nx := 11) clsX3 dX3_whoCould_8 rfl kF_X3_9 (by decide) (fo_44 F4) (ft_44 F4) rfl (fp_44_1 F4) ?_
  refine wp_iconst (nx := 12) dX3_whoCould_11 rfl (i32 (by decide)) ?_
  refine wp_aload_n (nx := 13) dX3_whoCould_12 rfl rfl ?_
  refine wp_getAe (kk := 2) (nx := 16) clsX3 dX3_whoCould_13 rfl kF_X3_15 (by decide) (fo_44 F4) (ft_44 F4) rfl (fp_44_2 F4) ?_
  refine wp_iconst (nx := 17) dX3_whoCould_16 rfl (i32 (by decide)) ?_
  refine wp_bipush (nx := 19) dX3_whoCould_17 rfl ⟨by decide, i32 (by decide)⟩ ?_
  refine wp_copyE (nx := 22) dX3_whoCould_19 rfl kM_X3_93 (fo_45 F4) (fo_46 F4) (ft_45 F4) (ft_46 F4) (fl_45 F4) (fl_46 F4) (by decide) ?_
  refine wp_iconst (nx := 23) dX3_whoCould_22 rfl (i32 (by decide)) ?_
  refine wp_aload_n (nx := 24) dX3_whoCould_23 rfl rfl ?_
  refine wp_getIe (kk := 0) 0 (nx := 27) clsX7 dX3_whoCould_24 rfl kF_X3_39 (by decide) (st_b0 F4 hs_l1) (st_t0 F4 hs_l1) rfl rfl rfl ?_
  refine wp_ishl (nx := 28) dX3_whoCould_27 rfl ?_
  refine wp_iconst (nx := 29) dX3_whoCould_28 rfl (i32 (by decide)) ?_
  refine wp_isub (nx := 30) dX3_whoCould_29 rfl ?_
  refine wp_istore (nx := 32) dX3_whoCould_30 rfl (by decide) ?_
  refine wp_ls (ls2 := [cA 44, cA l1, cI l2, cI l3, cI (w32 ((iShl 1 ((cpC C2 45 0 46 0 6) l1 0)) - 1)), cU, cU]) rfl ?_
  refine wp_iconst (nx := 33) dX3_whoCould_32 rfl (i32 (by decide)) ?_
  refine wp_istore (nx := 35) dX3_whoCould_33 rfl (by decide) ?_
  refine wp_ls (ls2 := [cA 44, cA l1, cI l2, cI l3, cI (w32 ((iShl 1 ((cpC C2 45 0 46 0 6) l1 0)) - 1)), cI 0, cU]) rfl ?_
  refine wp_iconst (nx := 36) dX3_whoCould_35 rfl (i32 (by decide)) ?_
  refine wp_istore (nx := 38) dX3_whoCould_36 rfl (by decide) ?_
  refine wp_ls (ls2 := [cA 44, cA l1, cI l2, cI l3, cI (w32 ((iShl 1 ((cpC C2 45 0 46 0 6) l1 0)) - 1)), cI 0, cI 0]) rfl ?_
  refine wp_fg [true, true, false, true, true, true, true] (ls2 := [cA 44, cA l1, cU, cI l3, cI (w32 ((iShl 1 ((cpC C2 45 0 46 0 6) l1 0)) - 1)), cI 0, cI 0]) rfl ?_
  exact h
theorem b_X3_whoCould_38 {d mc ms : Nat} {l1 l3 l4 l5 l6 : Int} {S : MS} {C : MC} {Q : Int → MS → MC → Prop} (F : Fix S) (hs_l1 : isSt l1) (h : ((C l1 0 ≤ l6 → Q l5 S C) ∧ (¬ C l1 0 ≤ l6 → ((0 : Int) ≤ l6 ∧ l6 < 6) ∧ ((¬ iAnd (iShr (C 46 l6) l3) 1 = 1 → K_X3_whoCould_38 (d + 1) mc ms l1 l3 l4 l5 (w32 (l6 + 1)) S C Q) ∧ (iAnd (iShr (C 46 l6) l3) 1 = 1 → K_X3_leaveKeyTo_0 d 0 0 l6 l3 S C (fun r1 Sq C2 => Sq = S ∧ K_X3_coveredBy_0 d 0 0 l4 S C2 (fun r3 Sq C4 => Sq = S ∧ ((r3 = 0 → K_X3_whoCould_38 (d + 1) mc ms l1 l3 l4 (iOr l5 0) (w32 (l6 + 1)) S C4 Q) ∧ (¬ r3 = 0 → K_X3_whoCould_38 (d + 1) mc ms l1 l3 l4 (iOr l5 (iShl 1 l6)) (w32 (l6 + 1)) S C4 Q))))))))) : K_X3_whoCould_38 (d + 1) mc ms l1 l3 l4 l5 l6 S C Q := by
  show Wp (d + 1) mc ms M_X3_whoCould 38 [cA 44, cA l1, cU, cI l3, cI l4, cI l5, cI l6] [] S C Q
  refine wp_iload (nx := 40) dX3_whoCould_38 rfl rfl ?_
  refine wp_aload_n (nx := 41) dX3_whoCould_40 rfl rfl ?_
  refine wp_getIe (kk := 0) 0 (nx := 44) clsX7 dX3_whoCould_41 rfl kF_X3_39 (by decide) (st_b0 F hs_l1) (st_t0 F hs_l1) rfl rfl rfl ?_
  refine wp_icmp_ge (nx := 47) (tg := 97) dX3_whoCould_44 rfl rfl (fun hc => ?_) (fun hc => ?_)
  · have h := h.1 hc
    refine wp_iload (nx := 99) dX3_whoCould_97 rfl rfl ?_
    exact wp_ireturn dX3_whoCould_99 rfl rfl rfl h
  · have h := h.2 hc
    refine wp_aload_n (nx := 48) dX3_whoCould_47 rfl rfl ?_
    refine wp_getAe (kk := 2) (nx := 51) clsX3 dX3_whoCould_48 rfl kF_X3_15 (by decide) (fo_44 F) (ft_44 F) rfl (fp_44_2 F) ?_
    refine wp_iload (nx := 53) dX3_whoCould_51 rfl rfl ?_
    obtain ⟨hi, h⟩ := h
    refine wp_ialoadE (nx := 54) dX3_whoCould_53 rfl (fo_46 F) (fl_46 F) hi (ft_46 F) rfl ?_
    refine wp_iload_n (nx := 55) dX3_whoCould_54 rfl rfl ?_
    refine wp_ishr (nx := 56) dX3_whoCould_55 rfl ?_
    refine wp_iconst (nx := 57) dX3_whoCould_56 rfl (i32 (by decide)) ?_
    refine wp_iand (nx := 58) dX3_whoCould_57 rfl ?_
    refine wp_iconst (nx := 59) dX3_whoCould_58 rfl (i32 (by decide)) ?_
    refine wp_icmp_ne (nx := 62) (tg := 91) dX3_whoCould_59 rfl rfl (fun hc => ?_) (fun hc => ?_)
    · have h := h.1 hc
      refine wp_iinc (nx := 94) dX3_whoCould_91 rfl rfl (by decide) ?_
      refine wp_ls (ls2 := [cA 44, cA l1, cU, cI l3, cI l4, cI l5, cI (w32 (l6 + 1))]) rfl ?_
      refine wp_goto (nx := 38) dX3_whoCould_94 rfl ?_
      exact h
    · have h := h.2 hc
      refine wp_aload_n (nx := 63) dX3_whoCould_62 rfl rfl ?_
      refine wp_iload (nx := 65) dX3_whoCould_63 rfl rfl ?_
      refine wp_iload_n (nx := 66) dX3_whoCould_65 rfl rfl ?_
      refine wp_invV (nx := 69) (N := M_X3_leaveKeyTo) (as := [cI l6, cI l3]) (st := []) (mc := 0) (ms := 0) (mc' := mc) (ms' := ms) (a := 44) clsX3 dX3_whoCould_66 rfl mok_X3_leaveKeyTo kM_X3_99 ki_X3_leaveKeyTo ke_X3_leaveKeyTo (fo_44 F) (ft_44 F) rfl rfl (leB rfl) (leB rfl) (z0 _) (z0 _) (Wp.mono h ?_)
      intro r1 Sq C2 h
      obtain ⟨e9, h⟩ := h
      rw [e9]
      show Wp (d + 1) mc ms M_X3_whoCould 69 [cA 44, cA l1, cU, cI l3, cI l4, cI l5, cI l6] [] S C2 Q
      refine wp_iload (nx := 71) dX3_whoCould_69 rfl rfl ?_
      refine wp_aload_n (nx := 72) dX3_whoCould_71 rfl rfl ?_
      refine wp_iload (nx := 74) dX3_whoCould_72 rfl rfl ?_
      refine wp_invV (nx := 77) (N := M_X3_coveredBy) (as := [cI l4]) (st := [cI l5]) (mc := 0) (ms := 0) (mc' := mc) (ms' := ms) (a := 44) clsX3 dX3_whoCould_74 rfl mok_X3_coveredBy kM_X3_53 ki_X3_coveredBy ke_X3_coveredBy (fo_44 F) (ft_44 F) rfl rfl (leB rfl) (leB rfl) (z0 _) (z0 _) (Wp.mono h ?_)
      intro r3 Sq C4 h
      obtain ⟨e9, h⟩ := h
      rw [e9]
      show Wp (d + 1) mc ms M_X3_whoCould 77 [cA 44, cA l1, cU, cI l3, cI l4, cI l5, cI l6] [cI r3, cI l5] S C4 Q
      refine wp_if_eq (nx := 80) (tg := 87) dX3_whoCould_77 rfl rfl (fun hc => ?_) (fun hc => ?_)
      · have h := h.1 hc
        refine wp_iconst (nx := 88) dX3_whoCould_87 rfl (i32 (by decide)) ?_
        refine wp_ior (nx := 89) dX3_whoCould_88 rfl ?_
        refine wp_istore (nx := 91) dX3_whoCould_89 rfl (by decide) ?_
        refine wp_ls (ls2 := [cA 44, cA l1, cU, cI l3, cI l4, cI (iOr l5 0), cI l6]) rfl ?_
        refine wp_iinc (nx := 94) dX3_whoCould_91 rfl rfl (by decide) ?_
        refine wp_ls (ls2 := [cA 44, cA l1, cU, cI l3, cI l4, cI (iOr l5 0), cI (w32 (l6 + 1))]) rfl ?_
        refine wp_goto (nx := 38) dX3_whoCould_94 rfl ?_
        exact h
      · have h := h.2 hc
        refine wp_iconst (nx := 81) dX3_whoCould_80 rfl (i32 (by decide)) ?_
        refine wp_iload (nx := 83) dX3_whoCould_81 rfl rfl ?_
        refine wp_ishl (nx := 84) dX3_whoCould_83 rfl ?_
        refine wp_goto (nx := 88) dX3_whoCould_84 rfl ?_
        refine wp_ior (nx := 89) dX3_whoCould_88 rfl ?_
        refine wp_istore (nx := 91) dX3_whoCould_89 rfl (by decide) ?_
        refine wp_ls (ls2 := [cA 44, cA l1, cU, cI l3, cI l4, cI (iOr l5 (iShl 1 l6)), cI l6]) rfl ?_
        refine wp_iinc (nx := 94) dX3_whoCould_91 rfl rfl (by decide) ?_
        refine wp_ls (ls2 := [cA 44, cA l1, cU, cI l3, cI l4, cI (iOr l5 (iShl 1 l6)), cI (w32 (l6 + 1))]) rfl ?_
        refine wp_goto (nx := 38) dX3_whoCould_94 rfl ?_
        exact h
theorem b_X3_fewestHouses_0 {d mc ms : Nat} {l1 : Int} {S : MS} {C : MC} {Q : Int → MS → MC → Prop} (F : Fix S) (hs_l1 : isSt l1) (h : K_X3_fewestHouses_11 (d + 1) mc ms l1 (w32 ((iShl 1 (C l1 0)) - 1)) 0 S C Q) : K_X3_fewestHouses_0 (d + 1) mc ms l1 S C Q := by
  show Wp (d + 1) mc ms M_X3_fewestHouses 0 [cA 44, cA l1, cU, cU, cU] [] S C Q
  refine wp_iconst (nx := 1) dX3_fewestHouses_0 rfl (i32 (by decide)) ?_
  refine wp_aload_n (nx := 2) dX3_fewestHouses_1 rfl rfl ?_
  refine wp_getIe (kk := 0) 0 (nx := 5) clsX7 dX3_fewestHouses_2 rfl kF_X3_39 (by decide) (st_b0 F hs_l1) (st_t0 F hs_l1) rfl rfl rfl ?_
  refine wp_ishl (nx := 6) dX3_fewestHouses_5 rfl ?_
  refine wp_iconst (nx := 7) dX3_fewestHouses_6 rfl (i32 (by decide)) ?_
  refine wp_isub (nx := 8) dX3_fewestHouses_7 rfl ?_
  refine wp_istore_n (nx := 9) dX3_fewestHouses_8 rfl (by decide) ?_
  refine wp_ls (ls2 := [cA 44, cA l1, cI (w32 ((iShl 1 (C l1 0)) - 1)), cU, cU]) rfl ?_
  refine wp_iconst (nx := 10) dX3_fewestHouses_9 rfl (i32 (by decide)) ?_
  refine wp_istore_n (nx := 11) dX3_fewestHouses_10 rfl (by decide) ?_
  refine wp_ls (ls2 := [cA 44, cA l1, cI (w32 ((iShl 1 (C l1 0)) - 1)), cI 0, cU]) rfl ?_
  exact h
theorem b_X3_fewestHouses_11 {d mc ms : Nat} {l1 l2 l3 : Int} {S : MS} {C : MC} {Q : Int → MS → MC → Prop} (F : Fix S) (hs_l1 : isSt l1) (h : ((l2 < l3 → K_X3_fewestHouses_31 (d + 1) mc ms l1 l2 0 S C Q) ∧ (¬ l2 < l3 → ((0 : Int) ≤ l3 ∧ l3 < 64) ∧ K_X3_fewestHouses_11 (d + 1) mc ms l1 l2 (w32 (l3 + 1)) S (upC C 51 l3 (nZ 1)) Q))) : K_X3_fewestHouses_11 (d + 1) mc ms l1 l2 l3 S C Q := by
  show Wp (d + 1) mc ms M_X3_fewestHouses 11 [cA 44, cA l1, cI l2, cI l3, cU] [] S C Q
  refine wp_iload_n (nx := 12) dX3_fewestHouses_11 rfl rfl ?_
  refine wp_iload_n (nx := 13) dX3_fewestHouses_12 rfl rfl ?_
  refine wp_icmp_gt (nx := 16) (tg := 29) dX3_fewestHouses_13 rfl rfl (fun hc => ?_) (fun hc => ?_)
  · have h := h.1 hc
    refine wp_iconst (nx := 30) dX3_fewestHouses_29 rfl (i32 (by decide)) ?_
    refine wp_istore_n (nx := 31) dX3_fewestHouses_30 rfl (by decide) ?_
    refine wp_ls (ls2 := [cA 44, cA l1, cI l2, cI 0, cU]) rfl ?_
    exact h
  · have h := h.2 hc
    refine wp_aload_n (nx := 17) dX3_fewestHouses_16 rfl rfl ?_
    refine wp_getAe (kk := 7) (nx := 20) clsX3 dX3_fewestHouses_17 rfl kF_X3_31 (by decide) (fo_44 F) (ft_44 F) rfl (fp_44_7 F) ?_
    refine wp_iload_n (nx := 21) dX3_fewestHouses_20 rfl rfl ?_
    refine wp_iconst (nx := 22) dX3_fewestHouses_21 rfl (i32 (by decide)) ?_
    obtain ⟨hi, h⟩ := h
    refine wp_zastoreE (nx := 23) dX3_fewestHouses_22 rfl (fo_51 F) (fl_51 F) hi (ft_51 F) ?_
    refine wp_iinc (nx := 26) dX3_fewestHouses_23 rfl rfl (by decide) ?_
    refine wp_ls (ls2 := [cA 44, cA l1, cI l2, cI (w32 (l3 + 1)), cU]) rfl ?_
    refine wp_goto (nx := 11) dX3_fewestHouses_26 rfl ?_
    exact h
theorem b_X3_fewestHouses_31 {d mc ms : Nat} {l1 l2 l3 : Int} {S : MS} {C : MC} {Q : Int → MS → MC → Prop} (F : Fix S) (hs_l1 : isSt l1) (h : ((16 ≤ l3 → K_X3_fewestHouses_101 (d + 1) mc ms l2 (-1) 0 S C Q) ∧ (¬ 16 ≤ l3 → K_X3_lookAt_0 d 0 0 l1 l3 0 S C (fun r1 S3 C2 => Fix S3 ∧ K_X3_fewestHouses_47 (d + 1) mc ms l1 l2 l3 0 S3 C2 Q)))) : K_X3_fewestHouses_31 (d + 1) mc ms l1 l2 l3 S C Q := by
  show Wp (d + 1) mc ms M_X3_fewestHouses 31 [cA 44, cA l1, cI l2, cI l3, cU] [] S C Q
  refine wp_iload_n (nx := 32) dX3_fewestHouses_31 rfl rfl ?_
  refine wp_bipush (nx := 34) dX3_fewestHouses_32 rfl ⟨by decide, i32 (by decide)⟩ ?_
  refine wp_icmp_ge (nx := 37) (tg := 96) dX3_fewestHouses_34 rfl rfl (fun hc => ?_) (fun hc => ?_)
  · have h := h.1 hc
    refine wp_iconst (nx := 97) dX3_fewestHouses_96 rfl (i32 (by decide)) ?_
    refine wp_istore_n (nx := 98) dX3_fewestHouses_97 rfl (by decide) ?_
    refine wp_ls (ls2 := [cA 44, cA l1, cI l2, cI (-1), cU]) rfl ?_
    refine wp_iconst (nx := 99) dX3_fewestHouses_98 rfl (i32 (by decide)) ?_
    refine wp_istore (nx := 101) dX3_fewestHouses_99 rfl (by decide) ?_
    refine wp_ls (ls2 := [cA 44, cA l1, cI l2, cI (-1), cI 0]) rfl ?_
    refine wp_fg [true, false, true, true, true] (ls2 := [cA 44, cU, cI l2, cI (-1), cI 0]) rfl ?_
    exact h
  · have h := h.2 hc
    refine wp_aload_n (nx := 38) dX3_fewestHouses_37 rfl rfl ?_
    refine wp_aload_n (nx := 39) dX3_fewestHouses_38 rfl rfl ?_
    refine wp_iload_n (nx := 40) dX3_fewestHouses_39 rfl rfl ?_
    refine wp_iconst (nx := 41) dX3_fewestHouses_40 rfl (i32 (by decide)) ?_
    refine wp_invV (nx := 44) (N := M_X3_lookAt) (as := [cA l1, cI l3, cI 0]) (st := []) (mc := 0) (ms := 0) (mc' := mc) (ms' := ms) (a := 44) clsX3 dX3_fewestHouses_41 rfl mok_X3_lookAt kM_X3_49 ki_X3_lookAt ke_X3_lookAt (fo_44 F) (ft_44 F) rfl rfl (leB rfl) (leB rfl) (z0 _) (z0 _) (Wp.mono h ?_)
    intro r1 S3 C2 h
    obtain ⟨F4, h⟩ := h
    show Wp (d + 1) mc ms M_X3_fewestHouses 44 [cA 44, cA l1, cI l2, cI l3, cU] [] S3 C2 Q
    refine wp_iconst (nx := 45) dX3_fewestHouses_44 rfl (i32 (by decide)) ?_
    refine wp_istore (nx := 47) dX3_fewestHouses_45 rfl (by decide) ?_
    refine wp_ls (ls2 := [cA 44, cA l1, cI l2, cI l3, cI 0]) rfl ?_
    exact h
theorem b_X3_fewestHouses_101 {d mc ms : Nat} {l2 l3 l4 : Int} {S : MS} {C : MC} {Q : Int → MS → MC → Prop} (F : Fix S) (h : ((l2 < l4 → Q l3 S C) ∧ (¬ l2 < l4 → ((0 : Int) ≤ l4 ∧ l4 < 64) ∧ ((C 51 l4 = 0 → K_X3_fewestHouses_101 (d + 1) mc ms l2 l3 (w32 (l4 + 1)) S C Q) ∧ (¬ C 51 l4 = 0 → ((l3 = (-1) → K_X3_fewestHouses_101 (d + 1) mc ms l2 l4 (w32 (l4 + 1)) S C Q) ∧ (¬ l3 = (-1) → K_J6_bitCount_0f7a4_0 d 0 0 l4 S C (fun r1 Sq C2 => Sq = S ∧ K_J6_bitCount_0f7a4_0 d 0 0 l3 S C2 (fun r3 Sq C4 => Sq = S ∧ ((r3 ≤ r1 → K_X3_fewestHouses_101 (d + 1) mc ms l2 l3 (w32 (l4 + 1)) S C4 Q) ∧ (¬ r3 ≤ r1 → K_X3_fewestHouses_101 (d + 1) mc ms l2 l4 (w32 (l4 + 1)) S C4 Q))))))))))) : K_X3_fewestHouses_101 (d + 1) mc ms l2 l3 l4 S C Q := by
  show Wp (d + 1) mc ms M_X3_fewestHouses 101 [cA 44, cU, cI l2, cI l3, cI l4] [] S C Q
  refine wp_iload (nx := 103) dX3_fewestHouses_101 rfl rfl ?_
  refine wp_iload_n (nx := 104) dX3_fewestHouses_103 rfl rfl ?_
  refine wp_icmp_gt (nx := 107) (tg := 143) dX3_fewestHouses_104 rfl rfl (fun hc => ?_) (fun hc => ?_)
  · have h := h.1 hc
    refine wp_iload_n (nx := 144) dX3_fewestHouses_143 rfl rfl ?_
    exact wp_ireturn dX3_fewestHouses_144 rfl rfl rfl h
  · have h := h.2 hc
    refine wp_aload_n (nx := 108) dX3_fewestHouses_107 rfl rfl ?_
    refine wp_getAe (kk := 7) (nx := 111) clsX3 dX3_fewestHouses_108 rfl kF_X3_31 (by decide) (fo_44 F) (ft_44 F) rfl (fp_44_7 F) ?_
    refine wp_iload (nx := 113) dX3_fewestHouses_111 rfl rfl ?_
    obtain ⟨hi, h⟩ := h
    refine wp_zaloadE (nx := 114) dX3_fewestHouses_113 rfl (fo_51 F) (fl_51 F) hi (ft_51 F) rfl ?_
    refine wp_if_eq (nx := 117) (tg := 137) dX3_fewestHouses_114 rfl rfl (fun hc => ?_) (fun hc => ?_)
    · have h := h.1 hc
      refine wp_iinc (nx := 140) dX3_fewestHouses_137 rfl rfl (by decide) ?_
      refine wp_ls (ls2 := [cA 44, cU, cI l2, cI l3, cI (w32 (l4 + 1))]) rfl ?_
      refine wp_goto (nx := 101) dX3_fewestHouses_140 rfl ?_
      exact h
    · have h := h.2 hc
      refine wp_iload_n (nx := 118) dX3_fewestHouses_117 rfl rfl ?_
      refine wp_iconst (nx := 119) dX3_fewestHouses_118 rfl (i32 (by decide)) ?_
      refine wp_icmp_eq (nx := 122) (tg := 134) dX3_fewestHouses_119 rfl rfl (fun hc => ?_) (fun hc => ?_)
      · have h := h.1 hc
        refine wp_iload (nx := 136) dX3_fewestHouses_134 rfl rfl ?_
        refine wp_istore_n (nx := 137) dX3_fewestHouses_136 rfl (by decide) ?_
        refine wp_ls (ls2 := [cA 44, cU, cI l2, cI l4, cI l4]) rfl ?_
        refine wp_iinc (nx := 140) dX3_fewestHouses_137 rfl rfl (by decide) ?_
        refine wp_ls (ls2 := [cA 44, cU, cI l2, cI l4, cI (w32 (l4 + 1))]) rfl ?_
        refine wp_goto (nx := 101) dX3_fewestHouses_140 rfl ?_
        exact h
      · have h := h.2 hc
        refine wp_iload (nx := 124) dX3_fewestHouses_122 rfl rfl ?_
        refine wp_invS (nx := 127) (N := M_J6_bitCount_0f7a4) (as := [cI l4]) (st := []) (mc := 0) (ms := 0) (mc' := mc) (ms' := ms) dX3_fewestHouses_124 rfl mok_J6_bitCount_0f7a4 kM_X3_103 ks_J6_bitCount_0f7a4 rfl rfl (leB rfl) (leB rfl) (z0 _) (z0 _) (Wp.mono h ?_)
        intro r1 Sq C2 h
        obtain ⟨e9, h⟩ := h
        rw [e9]
        show Wp (d + 1) mc ms M_X3_fewestHouses 127 [cA 44, cU, cI l2, cI l3, cI l4] [cI r1] S C2 Q
        refine wp_iload_n (nx := 128) dX3_fewestHouses_127 rfl rfl ?_
        refine wp_invS (nx := 131) (N := M_J6_bitCount_0f7a4) (as := [cI l3]) (st := [cI r1]) (mc := 0) (ms := 0) (mc' := mc) (ms' := ms) dX3_fewestHouses_128 rfl mok_J6_bitCount_0f7a4 kM_X3_103 ks_J6_bitCount_0f7a4 rfl rfl (leB rfl) (leB rfl) (z0 _) (z0 _) (Wp.mono h ?_)
        intro r3 Sq C4 h
        obtain ⟨e9, h⟩ := h
        rw [e9]
        show Wp (d + 1) mc ms M_X3_fewestHouses 131 [cA 44, cU, cI l2, cI l3, cI l4] [cI r3, cI r1] S C4 Q
        refine wp_icmp_ge (nx := 134) (tg := 137) dX3_fewestHouses_131 rfl rfl (fun hc => ?_) (fun hc => ?_)
        · have h := h.1 hc
          refine wp_iinc (nx := 140) dX3_fewestHouses_137 rfl rfl (by decide) ?_
          refine wp_ls (ls2 := [cA 44, cU, cI l2, cI l3, cI (w32 (l4 + 1))]) rfl ?_
          refine wp_goto (nx := 101) dX3_fewestHouses_140 rfl ?_
          exact h
        · have h := h.2 hc
          refine wp_iload (nx := 136) dX3_fewestHouses_134 rfl rfl ?_
          refine wp_istore_n (nx := 137) dX3_fewestHouses_136 rfl (by decide) ?_
          refine wp_ls (ls2 := [cA 44, cU, cI l2, cI l4, cI l4]) rfl ?_
          refine wp_iinc (nx := 140) dX3_fewestHouses_137 rfl rfl (by decide) ?_
          refine wp_ls (ls2 := [cA 44, cU, cI l2, cI l4, cI (w32 (l4 + 1))]) rfl ?_
          refine wp_goto (nx := 101) dX3_fewestHouses_140 rfl ?_
          exact h
theorem b_X3_fewestHouses_47 {d mc ms : Nat} {l1 l2 l3 l4 : Int} {S : MS} {C : MC} {Q : Int → MS → MC → Prop} (F : Fix S) (hs_l1 : isSt l1) (h : ((l2 < l4 → K_X3_fewestHouses_31 (d + 1) mc ms l1 l2 (w32 (l3 + 1)) S C Q) ∧ (¬ l2 < l4 → ((0 : Int) ≤ l4 ∧ l4 < 64) ∧ ((C 51 l4 = 0 → ((0 : Int) ≤ l4 ∧ l4 < 64) ∧ K_X3_fewestHouses_47 (d + 1) mc ms l1 l2 l3 (w32 (l4 + 1)) S (upC C 51 l4 (nZ 0)) Q) ∧ (¬ C 51 l4 = 0 → K_X3_coveredBy_0 d 0 0 l4 S C (fun r1 Sq C2 => Sq = S ∧ ((r1 = 0 → ((0 : Int) ≤ l4 ∧ l4 < 64) ∧ K_X3_fewestHouses_47 (d + 1) mc ms l1 l2 l3 (w32 (l4 + 1)) S (upC C2 51 l4 (nZ 0)) Q) ∧ (¬ r1 = 0 → ((0 : Int) ≤ l4 ∧ l4 < 64) ∧ K_X3_fewestHouses_47 (d + 1) mc ms l1 l2 l3 (w32 (l4 + 1)) S (upC C2 51 l4 (nZ 1)) Q)))))))) : K_X3_fewestHouses_47 (d + 1) mc ms l1 l2 l3 l4 S C Q := by
  show Wp (d + 1) mc ms M_X3_fewestHouses 47 [cA 44, cA l1, cI l2, cI l3, cI l4] [] S C Q
  refine wp_iload (nx := 49) dX3_fewestHouses_47 rfl rfl ?_
  refine wp_iload_n (nx := 50) dX3_fewestHouses_49 rfl rfl ?_
  refine wp_icmp_gt (nx := 53) (tg := 90) dX3_fewestHouses_50 rfl rfl (fun hc => ?_) (fun hc => ?_)
  · have h := h.1 hc
    refine wp_iinc (nx := 93) dX3_fewestHouses_90 rfl rfl (by decide) ?_
    refine wp_ls (ls2 := [cA 44, cA l1, cI l2, cI (w32 (l3 + 1)), cI l4]) rfl ?_
    refine wp_goto (nx := 31) dX3_fewestHouses_93 rfl ?_
    refine wp_fg [true, true, true, true, false] (ls2 := [cA 44, cA l1, cI l2, cI (w32 (l3 + 1)), cU]) rfl ?_
    exact h
  · have h := h.2 hc
    refine wp_aload_n (nx := 54) dX3_fewestHouses_53 rfl rfl ?_
    refine wp_getAe (kk := 7) (nx := 57) clsX3 dX3_fewestHouses_54 rfl kF_X3_31 (by decide) (fo_44 F) (ft_44 F) rfl (fp_44_7 F) ?_
    refine wp_iload (nx := 59) dX3_fewestHouses_57 rfl rfl ?_
    refine wp_aload_n (nx := 60) dX3_fewestHouses_59 rfl rfl ?_
    refine wp_getAe (kk := 7) (nx := 63) clsX3 dX3_fewestHouses_60 rfl kF_X3_31 (by decide) (fo_44 F) (ft_44 F) rfl (fp_44_7 F) ?_
    refine wp_iload (nx := 65) dX3_fewestHouses_63 rfl rfl ?_
    obtain ⟨hi, h⟩ := h
    refine wp_zaloadE (nx := 66) dX3_fewestHouses_65 rfl (fo_51 F) (fl_51 F) hi (ft_51 F) rfl ?_
    refine wp_if_eq (nx := 69) (tg := 82) dX3_fewestHouses_66 rfl rfl (fun hc => ?_) (fun hc => ?_)
    · have h := h.1 hc
      refine wp_iconst (nx := 83) dX3_fewestHouses_82 rfl (i32 (by decide)) ?_
      obtain ⟨hi, h⟩ := h
      refine wp_zastoreE (nx := 84) dX3_fewestHouses_83 rfl (fo_51 F) (fl_51 F) hi (ft_51 F) ?_
      refine wp_iinc (nx := 87) dX3_fewestHouses_84 rfl rfl (by decide) ?_
      refine wp_ls (ls2 := [cA 44, cA l1, cI l2, cI l3, cI (w32 (l4 + 1))]) rfl ?_
      refine wp_goto (nx := 47) dX3_fewestHouses_87 rfl ?_
      exact h
    · have h := h.2 hc
      refine wp_aload_n (nx := 70) dX3_fewestHouses_69 rfl rfl ?_
      refine wp_iload (nx := 72) dX3_fewestHouses_70 rfl rfl ?_
      refine wp_invV (nx := 75) (N := M_X3_coveredBy) (as := [cI l4]) (st := [cI l4, cA 51]) (mc := 0) (ms := 0) (mc' := mc) (ms' := ms) (a := 44) clsX3 dX3_fewestHouses_72 rfl mok_X3_coveredBy kM_X3_53 ki_X3_coveredBy ke_X3_coveredBy (fo_44 F) (ft_44 F) rfl rfl (leB rfl) (leB rfl) (z0 _) (z0 _) (Wp.mono h ?_)
      intro r1 Sq C2 h
      obtain ⟨e9, h⟩ := h
      rw [e9]
      show Wp (d + 1) mc ms M_X3_fewestHouses 75 [cA 44, cA l1, cI l2, cI l3, cI l4] [cI r1, cI l4, cA 51] S C2 Q
      refine wp_if_eq (nx := 78) (tg := 82) dX3_fewestHouses_75 rfl rfl (fun hc => ?_) (fun hc => ?_)
      · have h := h.1 hc
        refine wp_iconst (nx := 83) dX3_fewestHouses_82 rfl (i32 (by decide)) ?_
        obtain ⟨hi, h⟩ := h
        refine wp_zastoreE (nx := 84) dX3_fewestHouses_83 rfl (fo_51 F) (fl_51 F) hi (ft_51 F) ?_
        refine wp_iinc (nx := 87) dX3_fewestHouses_84 rfl rfl (by decide) ?_
        refine wp_ls (ls2 := [cA 44, cA l1, cI l2, cI l3, cI (w32 (l4 + 1))]) rfl ?_
        refine wp_goto (nx := 47) dX3_fewestHouses_87 rfl ?_
        exact h
      · have h := h.2 hc
        refine wp_iconst (nx := 79) dX3_fewestHouses_78 rfl (i32 (by decide)) ?_
        refine wp_goto (nx := 83) dX3_fewestHouses_79 rfl ?_
        obtain ⟨hi, h⟩ := h
        refine wp_zastoreE (nx := 84) dX3_fewestHouses_83 rfl (fo_51 F) (fl_51 F) hi (ft_51 F) ?_
        refine wp_iinc (nx := 87) dX3_fewestHouses_84 rfl rfl (by decide) ?_
        refine wp_ls (ls2 := [cA 44, cA l1, cI l2, cI l3, cI (w32 (l4 + 1))]) rfl ?_
        refine wp_goto (nx := 47) dX3_fewestHouses_87 rfl ?_
        exact h
theorem b_X3_lookAt_0 {d mc ms : Nat} {l1 l2 l3 : Int} {S : MS} {C : MC} {Q : Int → MS → MC → Prop} (F : Fix S) (hs_l1 : isSt l1) (h : ((0 : Int) ≤ l2 ∧ l2 < 16) ∧ K_X3_lookAt_18 (d + 1) mc ms l1 l2 l3 0 (upP S 44 8 l1) (upC C 44 9 (C (l1 + 4) l2)) Q) : K_X3_lookAt_0 (d + 1) mc ms l1 l2 l3 S C Q := by
  show Wp (d + 1) mc ms M_X3_lookAt 0 [cA 44, cA l1, cI l2, cI l3, cU, cU] [] S C Q
  refine wp_aload_n (nx := 1) dX3_lookAt_0 rfl rfl ?_
  refine wp_aload_n (nx := 2) dX3_lookAt_1 rfl rfl ?_
  refine wp_putA (kk := 8) (nx := 5) clsX3 dX3_lookAt_2 rfl kF_X3_69 (by decide) (fo_44 F) (ft_44 F) rfl rfl (by have := (st_b0 F hs_l1).1; omega) ?_
  have F1 := fix_street F (v := l1)
  refine wp_aload_n (nx := 6) dX3_lookAt_5 rfl rfl ?_
  refine wp_aload_n (nx := 7) dX3_lookAt_6 rfl rfl ?_
  refine wp_getAe (kk := 4) (nx := 10) clsX7 dX3_lookAt_7 rfl kF_X3_108 (by decide) (st_b0 F1 hs_l1) (st_t0 F1 hs_l1) rfl (st_p4 F1 hs_l1) ?_
  refine wp_iload_n (nx := 11) dX3_lookAt_10 rfl rfl ?_
  obtain ⟨hi, h⟩ := h
  refine wp_ialoadE (nx := 12) dX3_lookAt_11 rfl (st_b4 F1 hs_l1) (st_l4 F1 hs_l1) hi (st_t4 F1 hs_l1) rfl ?_
  refine wp_putIe (kk := 9) 9 (nx := 15) clsX3 dX3_lookAt_12 rfl kF_X3_77 (by decide) (fo_44 F1) (ft_44 F1) rfl rfl ⟨rfl, rfl⟩ rfl ?_
  refine wp_iconst (nx := 16) dX3_lookAt_15 rfl (i32 (by decide)) ?_
  refine wp_istore (nx := 18) dX3_lookAt_16 rfl (by decide) ?_
  refine wp_ls (ls2 := [cA 44, cA l1, cI l2, cI l3, cI 0, cU]) rfl ?_
  exact h
theorem b_X3_lookAt_18 {d mc ms : Nat} {l1 l2 l3 l4 : Int} {S : MS} {C : MC} {Q : Int → MS → MC → Prop} (F : Fix S) (hs_l1 : isSt l1) (h : ((C l1 0 ≤ l4 → Q 0 S C) ∧ (¬ C l1 0 ≤ l4 → ((0 : Int) ≤ l4 ∧ l4 < 6) ∧ K_X3_lookAt_38 (d + 1) mc ms l1 l2 l3 l4 0 S (upC C 45 l4 0) Q))) : K_X3_lookAt_18 (d + 1) mc ms l1 l2 l3 l4 S C Q := by
  show Wp (d + 1) mc ms M_X3_lookAt 18 [cA 44, cA l1, cI l2, cI l3, cI l4, cU] [] S C Q
  refine wp_iload (nx := 20) dX3_lookAt_18 rfl rfl ?_
  refine wp_aload_n (nx := 21) dX3_lookAt_20 rfl rfl ?_
  refine wp_getIe (kk := 0) 0 (nx := 24) clsX7 dX3_lookAt_21 rfl kF_X3_39 (by decide) (st_b0 F hs_l1) (st_t0 F hs_l1) rfl rfl rfl ?_
  refine wp_icmp_ge (nx := 27) (tg := 146) dX3_lookAt_24 rfl rfl (fun hc => ?_) (fun hc => ?_)
  · have h := h.1 hc
    exact wp_return dX3_lookAt_146 rfl h
  · have h := h.2 hc
    refine wp_aload_n (nx := 28) dX3_lookAt_27 rfl rfl ?_
    refine wp_getAe (kk := 1) (nx := 31) clsX3 dX3_lookAt_28 rfl kF_X3_9 (by decide) (fo_44 F) (ft_44 F) rfl (fp_44_1 F) ?_
    refine wp_iload (nx := 33) dX3_lookAt_31 rfl rfl ?_
    refine wp_iconst (nx := 34) dX3_lookAt_33 rfl (i32 (by decide)) ?_
    obtain ⟨hi, h⟩ := h
    refine wp_iastoreE (nx := 35) dX3_lookAt_34 rfl (fo_45 F) (fl_45 F) hi (ft_45 F) ?_
    refine wp_iconst (nx := 36) dX3_lookAt_35 rfl (i32 (by decide)) ?_
    refine wp_istore (nx := 38) dX3_lookAt_36 rfl (by decide) ?_
    refine wp_ls (ls2 := [cA 44, cA l1, cI l2, cI l3, cI l4, cI 0]) rfl ?_
    exact h
theorem b_X3_lookAt_38 {d mc ms : Nat} {l1 l2 l3 l4 l5 : Int} {S : MS} {C : MC} {Q : Int → MS → MC → Prop} (F : Fix S) (hs_l1 : isSt l1) (h : ((8 ≤ l5 → K_X3_lookAt_18 (d + 1) mc ms l1 l2 l3 (w32 (l4 + 1)) S C Q) ∧ (¬ 8 ≤ l5 → ((¬ iAnd (iShr (C 44 9) l5) 1 = 1 → K_X3_lookAt_38 (d + 1) mc ms l1 l2 l3 l4 (w32 (l5 + 1)) S C Q) ∧ (iAnd (iShr (C 44 9) l5) 1 = 1 → K_X2_ask_0 d 0 0 l1 l4 l5 l2 l3 S C (fun r1 Sq C2 => Sq = S ∧ ((0 : Int) ≤ l4 ∧ l4 < 6) ∧ ((C2 40 3 = 0 → ((0 : Int) ≤ l4 ∧ l4 < 6) ∧ K_X3_rowPlace_0 d 0 0 l5 S ((upC C2 45 l4 (iOr (C2 45 l4) 0))) (fun r3 Sq C4 => Sq = S ∧ ((0 : Int) ≤ w32 ((w32 (l4 * 8)) + l5) ∧ w32 ((w32 (l4 * 8)) + l5) < 48) ∧ K_X3_lookAt_38 (d + 1) mc ms l1 l2 l3 l4 (w32 (l5 + 1)) S (upC C4 47 (w32 ((w32 (l4 * 8)) + l5)) (w64 ((lShl (C2 40 2) 24) + (lShl l4 r3)))) Q)) ∧ (¬ C2 40 3 = 0 → ((0 : Int) ≤ l4 ∧ l4 < 6) ∧ K_X3_rowPlace_0 d 0 0 l5 S ((upC C2 45 l4 (iOr (C2 45 l4) (iShl 1 l5)))) (fun r5 Sq C6 => Sq = S ∧ ((0 : Int) ≤ w32 ((w32 (l4 * 8)) + l5) ∧ w32 ((w32 (l4 * 8)) + l5) < 48) ∧ K_X3_lookAt_38 (d + 1) mc ms l1 l2 l3 l4 (w32 (l5 + 1)) S (upC C6 47 (w32 ((w32 (l4 * 8)) + l5)) (w64 ((lShl (C2 40 2) 24) + (lShl l4 r5)))) Q))))))))) : K_X3_lookAt_38 (d + 1) mc ms l1 l2 l3 l4 l5 S C Q := by
  show Wp (d + 1) mc ms M_X3_lookAt 38 [cA 44, cA l1, cI l2, cI l3, cI l4, cI l5] [] S C Q
  refine wp_iload (nx := 40) dX3_lookAt_38 rfl rfl ?_
  refine wp_bipush (nx := 42) dX3_lookAt_40 rfl ⟨by decide, i32 (by decide)⟩ ?_
  refine wp_icmp_ge (nx := 45) (tg := 140) dX3_lookAt_42 rfl rfl (fun hc => ?_) (fun hc => ?_)
  · have h := h.1 hc
    refine wp_iinc (nx := 143) dX3_lookAt_140 rfl rfl (by decide) ?_
    refine wp_ls (ls2 := [cA 44, cA l1, cI l2, cI l3, cI (w32 (l4 + 1)), cI l5]) rfl ?_
    refine wp_goto (nx := 18) dX3_lookAt_143 rfl ?_
    refine wp_fg [true, true, true, true, true, false] (ls2 := [cA 44, cA l1, cI l2, cI l3, cI (w32 (l4 + 1)), cU]) rfl ?_
    exact h
  · have h := h.2 hc
    refine wp_aload_n (nx := 46) dX3_lookAt_45 rfl rfl ?_
    refine wp_getIe (kk := 9) 9 (nx := 49) clsX3 dX3_lookAt_46 rfl kF_X3_77 (by decide) (fo_44 F) (ft_44 F) rfl rfl rfl ?_
    refine wp_iload (nx := 51) dX3_lookAt_49 rfl rfl ?_
    refine wp_ishr (nx := 52) dX3_lookAt_51 rfl ?_
    refine wp_iconst (nx := 53) dX3_lookAt_52 rfl (i32 (by decide)) ?_
    refine wp_iand (nx := 54) dX3_lookAt_53 rfl ?_
    refine wp_iconst (nx := 55) dX3_lookAt_54 rfl (i32 (by decide)) ?_
    refine wp_icmp_ne (nx := 58) (tg := 134) dX3_lookAt_55 rfl rfl (fun hc => ?_) (fun hc => ?_)
    · have h := h.1 hc
      refine wp_iinc (nx := 137) dX3_lookAt_134 rfl rfl (by decide) ?_
      refine wp_ls (ls2 := [cA 44, cA l1, cI l2, cI l3, cI l4, cI (w32 (l5 + 1))]) rfl ?_
      refine wp_goto (nx := 38) dX3_lookAt_137 rfl ?_
      exact h
    · have h := h.2 hc
      refine wp_aload_n (nx := 59) dX3_lookAt_58 rfl rfl ?_
      refine wp_getAe (kk := 0) (nx := 62) clsX3 dX3_lookAt_59 rfl kF_X3_35 (by decide) (fo_44 F) (ft_44 F) rfl (fp_44_0 F) ?_
      refine wp_aload_n (nx := 63) dX3_lookAt_62 rfl rfl ?_
      refine wp_iload (nx := 65) dX3_lookAt_63 rfl rfl ?_
      refine wp_iload (nx := 67) dX3_lookAt_65 rfl rfl ?_
      refine wp_iload_n (nx := 68) dX3_lookAt_67 rfl rfl ?_
      refine wp_iload_n (nx := 69) dX3_lookAt_68 rfl rfl ?_
      refine wp_invV (nx := 72) (N := M_X2_ask) (as := [cA l1, cI l4, cI l5, cI l2, cI l3]) (st := []) (mc := 0) (ms := 0) (mc' := mc) (ms' := ms) (a := 40) clsX2 dX3_lookAt_69 rfl mok_X2_ask kM_X3_111 ki_X2_ask ke_X2_ask (fo_40 F) (ft_40 F) rfl rfl (leB rfl) (leB rfl) (z0 _) (z0 _) (Wp.mono h ?_)
      intro r1 Sq C2 h
      obtain ⟨e9, h⟩ := h
      rw [e9]
      show Wp (d + 1) mc ms M_X3_lookAt 72 [cA 44, cA l1, cI l2, cI l3, cI l4, cI l5] [] S C2 Q
      refine wp_aload_n (nx := 73) dX3_lookAt_72 rfl rfl ?_
      refine wp_getAe (kk := 1) (nx := 76) clsX3 dX3_lookAt_73 rfl kF_X3_9 (by decide) (fo_44 F) (ft_44 F) rfl (fp_44_1 F) ?_
      refine wp_iload (nx := 78) dX3_lookAt_76 rfl rfl ?_
      refine wp_dup2 (nx := 79) dX3_lookAt_78 rfl (k1I _) (k1A _) ?_
      obtain ⟨hi, h⟩ := h
      refine wp_ialoadE (nx := 80) dX3_lookAt_79 rfl (fo_45 F) (fl_45 F) hi (ft_45 F) rfl ?_
      refine wp_aload_n (nx := 81) dX3_lookAt_80 rfl rfl ?_
      refine wp_getAe (kk := 0) (nx := 84) clsX3 dX3_lookAt_81 rfl kF_X3_35 (by decide) (fo_44 F) (ft_44 F) rfl (fp_44_0 F) ?_
      refine wp_getIe (kk := 3) 3 (nx := 87) clsX2 dX3_lookAt_84 rfl kF_X3_117 (by decide) (fo_40 F) (ft_40 F) rfl rfl rfl ?_
      refine wp_if_eq (nx := 90) (tg := 97) dX3_lookAt_87 rfl rfl (fun hc => ?_) (fun hc => ?_)
      · have h := h.1 hc
        refine wp_iconst (nx := 98) dX3_lookAt_97 rfl (i32 (by decide)) ?_
        refine wp_ior (nx := 99) dX3_lookAt_98 rfl ?_
        obtain ⟨hi, h⟩ := h
        refine wp_iastoreE (nx := 100) dX3_lookAt_99 rfl (fo_45 F) (fl_45 F) hi (ft_45 F) ?_
        refine wp_aload_n (nx := 101) dX3_lookAt_100 rfl rfl ?_
        refine wp_getAe (kk := 3) (nx := 104) clsX3 dX3_lookAt_101 rfl kF_X3_18 (by decide) (fo_44 F) (ft_44 F) rfl (fp_44_3 F) ?_
        refine wp_iload (nx := 106) dX3_lookAt_104 rfl rfl ?_
        refine wp_bipush (nx := 108) dX3_lookAt_106 rfl ⟨by decide, i32 (by decide)⟩ ?_
        refine wp_imul (nx := 109) dX3_lookAt_108 rfl ?_
        refine wp_iload (nx := 111) dX3_lookAt_109 rfl rfl ?_
        refine wp_iadd (nx := 112) dX3_lookAt_111 rfl ?_
        refine wp_aload_n (nx := 113) dX3_lookAt_112 rfl rfl ?_
        refine wp_getAe (kk := 0) (nx := 116) clsX3 dX3_lookAt_113 rfl kF_X3_35 (by decide) (fo_44 F) (ft_44 F) rfl (fp_44_0 F) ?_
        refine wp_getIe (kk := 2) 2 (nx := 119) clsX2 dX3_lookAt_116 rfl kF_X3_120 (by decide) (fo_40 F) (ft_40 F) rfl rfl (upC_sA (by decide)) ?_
        refine wp_i2l (nx := 120) dX3_lookAt_119 rfl ?_
        refine wp_bipush (nx := 122) dX3_lookAt_120 rfl ⟨by decide, i32 (by decide)⟩ ?_
        refine wp_lshl (nx := 123) dX3_lookAt_122 rfl ?_
        refine wp_iload (nx := 125) dX3_lookAt_123 rfl rfl ?_
        refine wp_i2l (nx := 126) dX3_lookAt_125 rfl ?_
        refine wp_iload (nx := 128) dX3_lookAt_126 rfl rfl ?_
        refine wp_invS (nx := 131) (N := M_X3_rowPlace) (as := [cI l5]) (st := [cJ l4, cJ (lShl (C2 40 2) 24), cI (w32 ((w32 (l4 * 8)) + l5)), cA 47]) (mc := 0) (ms := 0) (mc' := mc) (ms' := ms) dX3_lookAt_128 rfl mok_X3_rowPlace kM_X3_86 ks_X3_rowPlace rfl rfl (leB rfl) (leB rfl) (z0 _) (z0 _) (Wp.mono h ?_)
        intro r3 Sq C4 h
        obtain ⟨e9, h⟩ := h
        rw [e9]
        show Wp (d + 1) mc ms M_X3_lookAt 131 [cA 44, cA l1, cI l2, cI l3, cI l4, cI l5] [cI r3, cJ l4, cJ (lShl (C2 40 2) 24), cI (w32 ((w32 (l4 * 8)) + l5)), cA 47] S C4 Q
        refine wp_lshl (nx := 132) dX3_lookAt_131 rfl ?_
        refine wp_ladd (nx := 133) dX3_lookAt_132 rfl ?_
        obtain ⟨hi, h⟩ := h
        refine wp_lastoreE (nx := 134) dX3_lookAt_133 rfl (fo_47 F) (fl_47 F) hi (ft_47 F) ?_
        refine wp_iinc (nx := 137) dX3_lookAt_134 rfl rfl (by decide) ?_
        refine wp_ls (ls2 := [cA 44, cA l1, cI l2, cI l3, cI l4, cI (w32 (l5 + 1))]) rfl ?_
        refine wp_goto (nx := 38) dX3_lookAt_137 rfl ?_
        exact h
      · have h := h.2 hc
        refine wp_iconst (nx := 91) dX3_lookAt_90 rfl (i32 (by decide)) ?_
        refine wp_iload (nx := 93) dX3_lookAt_91 rfl rfl ?_
        refine wp_ishl (nx := 94) dX3_lookAt_93 rfl ?_
        refine wp_goto (nx := 98) dX3_lookAt_94 rfl ?_
        refine wp_ior (nx := 99) dX3_lookAt_98 rfl ?_
        obtain ⟨hi, h⟩ := h
        refine wp_iastoreE (nx := 100) dX3_lookAt_99 rfl (fo_45 F) (fl_45 F) hi (ft_45 F) ?_
        refine wp_aload_n (nx := 101) dX3_lookAt_100 rfl rfl ?_
        refine wp_getAe (kk := 3) (nx := 104) clsX3 dX3_lookAt_101 rfl kF_X3_18 (by decide) (fo_44 F) (ft_44 F) rfl (fp_44_3 F) ?_
        refine wp_iload (nx := 106) dX3_lookAt_104 rfl rfl ?_
        refine wp_bipush (nx := 108) dX3_lookAt_106 rfl ⟨by decide, i32 (by decide)⟩ ?_
        refine wp_imul (nx := 109) dX3_lookAt_108 rfl ?_
        refine wp_iload (nx := 111) dX3_lookAt_109 rfl rfl ?_
        refine wp_iadd (nx := 112) dX3_lookAt_111 rfl ?_
        refine wp_aload_n (nx := 113) dX3_lookAt_112 rfl rfl ?_
        refine wp_getAe (kk := 0) (nx := 116) clsX3 dX3_lookAt_113 rfl kF_X3_35 (by decide) (fo_44 F) (ft_44 F) rfl (fp_44_0 F) ?_
        refine wp_getIe (kk := 2) 2 (nx := 119) clsX2 dX3_lookAt_116 rfl kF_X3_120 (by decide) (fo_40 F) (ft_40 F) rfl rfl (upC_sA (by decide)) ?_
        refine wp_i2l (nx := 120) dX3_lookAt_119 rfl ?_
        refine wp_bipush (nx := 122) dX3_lookAt_120 rfl ⟨by decide, i32 (by decide)⟩ ?_
        refine wp_lshl (nx := 123) dX3_lookAt_122 rfl ?_
        refine wp_iload (nx := 125) dX3_lookAt_123 rfl rfl ?_
        refine wp_i2l (nx := 126) dX3_lookAt_125 rfl ?_
        refine wp_iload (nx := 128) dX3_lookAt_126 rfl rfl ?_
        refine wp_invS (nx := 131) (N := M_X3_rowPlace) (as := [cI l5]) (st := [cJ l4, cJ (lShl (C2 40 2) 24), cI (w32 ((w32 (l4 * 8)) + l5)), cA 47]) (mc := 0) (ms := 0) (mc' := mc) (ms' := ms) dX3_lookAt_128 rfl mok_X3_rowPlace kM_X3_86 ks_X3_rowPlace rfl rfl (leB rfl) (leB rfl) (z0 _) (z0 _) (Wp.mono h ?_)
        intro r5 Sq C6 h
        obtain ⟨e9, h⟩ := h
        rw [e9]
        show Wp (d + 1) mc ms M_X3_lookAt 131 [cA 44, cA l1, cI l2, cI l3, cI l4, cI l5] [cI r5, cJ l4, cJ (lShl (C2 40 2) 24), cI (w32 ((w32 (l4 * 8)) + l5)), cA 47] S C6 Q
        refine wp_lshl (nx := 132) dX3_lookAt_131 rfl ?_
        refine wp_ladd (nx := 133) dX3_lookAt_132 rfl ?_
        obtain ⟨hi, h⟩ := h
        refine wp_lastoreE (nx := 134) dX3_lookAt_133 rfl (fo_47 F) (fl_47 F) hi (ft_47 F) ?_
        refine wp_iinc (nx := 137) dX3_lookAt_134 rfl rfl (by decide) ?_
        refine wp_ls (ls2 := [cA 44, cA l1, cI l2, cI l3, cI l4, cI (w32 (l5 + 1))]) rfl ?_
        refine wp_goto (nx := 38) dX3_lookAt_137 rfl ?_
        exact h
theorem b_X3_leaveKeyTo_0 {d mc ms : Nat} {l1 l2 : Int} {S : MS} {C : MC} {Q : Int → MS → MC → Prop} (F : Fix S) (h : K_X3_leaveKeyTo_2 d mc ms l1 l2 0 S C Q) : K_X3_leaveKeyTo_0 d mc ms l1 l2 S C Q := by
  show Wp d mc ms M_X3_leaveKeyTo 0 [cA 44, cI l1, cI l2, cU] [] S C Q
  refine wp_iconst (nx := 1) dX3_leaveKeyTo_0 rfl (i32 (by decide)) ?_
  refine wp_istore_n (nx := 2) dX3_leaveKeyTo_1 rfl (by decide) ?_
  refine wp_ls (ls2 := [cA 44, cI l1, cI l2, cI 0]) rfl ?_
  exact h
theorem b_X3_leaveKeyTo_2 {d mc ms : Nat} {l1 l2 l3 : Int} {S : MS} {C : MC} {Q : Int → MS → MC → Prop} (F : Fix S) (h : (∀ st1, S.2.2.2.1 44 8 = st1 → isSt st1 ∧ ((C st1 0 ≤ l3 → Q 0 S C) ∧ (¬ C st1 0 ≤ l3 → ((¬ l3 = l1 → ((0 : Int) ≤ l3 ∧ l3 < 6) ∧ ((0 : Int) ≤ l3 ∧ l3 < 6) ∧ K_X3_leaveKeyTo_2 d mc ms l1 l2 (w32 (l3 + 1)) S (upC C 45 l3 (iAnd (C 46 l3) (iXor (iShl 1 l2) (-1)))) Q) ∧ (l3 = l1 → ((0 : Int) ≤ l3 ∧ l3 < 6) ∧ ((0 : Int) ≤ l3 ∧ l3 < 6) ∧ K_X3_leaveKeyTo_2 d mc ms l1 l2 (w32 (l3 + 1)) S (upC C 45 l3 (C 46 l3)) Q)))))) : K_X3_leaveKeyTo_2 d mc ms l1 l2 l3 S C Q := by
  show Wp d mc ms M_X3_leaveKeyTo 2 [cA 44, cI l1, cI l2, cI l3] [] S C Q
  refine wp_iload_n (nx := 3) dX3_leaveKeyTo_2 rfl rfl ?_
  refine wp_aload_n (nx := 4) dX3_leaveKeyTo_3 rfl rfl ?_
  obtain ⟨hs_st1, h⟩ := h _ rfl
  generalize e_st1 : S.2.2.2.1 44 8 = st1 at hs_st1 h
  refine wp_getAe (kk := 8) (nx := 7) clsX3 dX3_leaveKeyTo_4 rfl kF_X3_69 (by decide) (fo_44 F) (ft_44 F) rfl e_st1 ?_
  refine wp_getIe (kk := 0) 0 (nx := 10) clsX7 dX3_leaveKeyTo_7 rfl kF_X3_39 (by decide) (st_b0 F hs_st1) (st_t0 F hs_st1) rfl rfl rfl ?_
  refine wp_icmp_ge (nx := 13) (tg := 51) dX3_leaveKeyTo_10 rfl rfl (fun hc => ?_) (fun hc => ?_)
  · have h := h.1 hc
    exact wp_return dX3_leaveKeyTo_51 rfl h
  · have h := h.2 hc
    refine wp_aload_n (nx := 14) dX3_leaveKeyTo_13 rfl rfl ?_
    refine wp_getAe (kk := 1) (nx := 17) clsX3 dX3_leaveKeyTo_14 rfl kF_X3_9 (by decide) (fo_44 F) (ft_44 F) rfl (fp_44_1 F) ?_
    refine wp_iload_n (nx := 18) dX3_leaveKeyTo_17 rfl rfl ?_
    refine wp_iload_n (nx := 19) dX3_leaveKeyTo_18 rfl rfl ?_
    refine wp_iload_n (nx := 20) dX3_leaveKeyTo_19 rfl rfl ?_
    refine wp_icmp_ne (nx := 23) (tg := 32) dX3_leaveKeyTo_20 rfl rfl (fun hc => ?_) (fun hc => ?_)
    · have h := h.1 hc
      refine wp_aload_n (nx := 33) dX3_leaveKeyTo_32 rfl rfl ?_
      refine wp_getAe (kk := 2) (nx := 36) clsX3 dX3_leaveKeyTo_33 rfl kF_X3_15 (by decide) (fo_44 F) (ft_44 F) rfl (fp_44_2 F) ?_
      refine wp_iload_n (nx := 37) dX3_leaveKeyTo_36 rfl rfl ?_
      obtain ⟨hi, h⟩ := h
      refine wp_ialoadE (nx := 38) dX3_leaveKeyTo_37 rfl (fo_46 F) (fl_46 F) hi (ft_46 F) rfl ?_
      refine wp_iconst (nx := 39) dX3_leaveKeyTo_38 rfl (i32 (by decide)) ?_
      refine wp_iload_n (nx := 40) dX3_leaveKeyTo_39 rfl rfl ?_
      refine wp_ishl (nx := 41) dX3_leaveKeyTo_40 rfl ?_
      refine wp_iconst (nx := 42) dX3_leaveKeyTo_41 rfl (i32 (by decide)) ?_
      refine wp_ixor (nx := 43) dX3_leaveKeyTo_42 rfl ?_
      refine wp_iand (nx := 44) dX3_leaveKeyTo_43 rfl ?_
      obtain ⟨hi, h⟩ := h
      refine wp_iastoreE (nx := 45) dX3_leaveKeyTo_44 rfl (fo_45 F) (fl_45 F) hi (ft_45 F) ?_
      refine wp_iinc (nx := 48) dX3_leaveKeyTo_45 rfl rfl (by decide) ?_
      refine wp_ls (ls2 := [cA 44, cI l1, cI l2, cI (w32 (l3 + 1))]) rfl ?_
      refine wp_goto (nx := 2) dX3_leaveKeyTo_48 rfl ?_
      exact h
    · have h := h.2 hc
      refine wp_aload_n (nx := 24) dX3_leaveKeyTo_23 rfl rfl ?_
      refine wp_getAe (kk := 2) (nx := 27) clsX3 dX3_leaveKeyTo_24 rfl kF_X3_15 (by decide) (fo_44 F) (ft_44 F) rfl (fp_44_2 F) ?_
      refine wp_iload_n (nx := 28) dX3_leaveKeyTo_27 rfl rfl ?_
      obtain ⟨hi, h⟩ := h
      refine wp_ialoadE (nx := 29) dX3_leaveKeyTo_28 rfl (fo_46 F) (fl_46 F) hi (ft_46 F) rfl ?_
      refine wp_goto (nx := 44) dX3_leaveKeyTo_29 rfl ?_
      obtain ⟨hi, h⟩ := h
      refine wp_iastoreE (nx := 45) dX3_leaveKeyTo_44 rfl (fo_45 F) (fl_45 F) hi (ft_45 F) ?_
      refine wp_iinc (nx := 48) dX3_leaveKeyTo_45 rfl rfl (by decide) ?_
      refine wp_ls (ls2 := [cA 44, cI l1, cI l2, cI (w32 (l3 + 1))]) rfl ?_
      refine wp_goto (nx := 2) dX3_leaveKeyTo_48 rfl ?_
      exact h
theorem b_X3_coveredBy_0 {d mc ms : Nat} {l1 : Int} {S : MS} {C : MC} {Q : Int → MS → MC → Prop} (F : Fix S) (h : K_X3_coveredBy_4 (d + 1) mc ms l1 0 0 S C Q) : K_X3_coveredBy_0 (d + 1) mc ms l1 S C Q := by
  show Wp (d + 1) mc ms M_X3_coveredBy 0 [cA 44, cI l1, cU, cU] [] S C Q
  refine wp_iconst (nx := 1) dX3_coveredBy_0 rfl (i32 (by decide)) ?_
  refine wp_istore_n (nx := 2) dX3_coveredBy_1 rfl (by decide) ?_
  refine wp_ls (ls2 := [cA 44, cI l1, cI 0, cU]) rfl ?_
  refine wp_iconst (nx := 3) dX3_coveredBy_2 rfl (i32 (by decide)) ?_
  refine wp_istore_n (nx := 4) dX3_coveredBy_3 rfl (by decide) ?_
  refine wp_ls (ls2 := [cA 44, cI l1, cI 0, cI 0]) rfl ?_
  exact h
theorem b_X3_coveredBy_4 {d mc ms : Nat} {l1 l2 l3 : Int} {S : MS} {C : MC} {Q : Int → MS → MC → Prop} (F : Fix S) (h : (∀ st1, S.2.2.2.1 44 8 = st1 → isSt st1 ∧ ((C st1 0 ≤ l3 → ((¬ iAnd (C 44 9) (iXor l2 (-1)) = 0 → Q 0 S C) ∧ (iAnd (C 44 9) (iXor l2 (-1)) = 0 → K_X3_covered_0 d 0 0 (C 44 9) l1 S C (fun r2 Sq C3 => Sq = S ∧ ((r2 = 0 → Q 0 S C3) ∧ (¬ r2 = 0 → Q 1 S C3)))))) ∧ (¬ C st1 0 ≤ l3 → ((¬ iAnd (iShr l1 l3) 1 = 1 → K_X3_coveredBy_4 (d + 1) mc ms l1 (iOr l2 0) (w32 (l3 + 1)) S C Q) ∧ (iAnd (iShr l1 l3) 1 = 1 → ((0 : Int) ≤ l3 ∧ l3 < 6) ∧ K_X3_coveredBy_4 (d + 1) mc ms l1 (iOr l2 (C 45 l3)) (w32 (l3 + 1)) S C Q)))))) : K_X3_coveredBy_4 (d + 1) mc ms l1 l2 l3 S C Q := by
  show Wp (d + 1) mc ms M_X3_coveredBy 4 [cA 44, cI l1, cI l2, cI l3] [] S C Q
  refine wp_iload_n (nx := 5) dX3_coveredBy_4 rfl rfl ?_
  refine wp_aload_n (nx := 6) dX3_coveredBy_5 rfl rfl ?_
  obtain ⟨hs_st1, h⟩ := h _ rfl
  generalize e_st1 : S.2.2.2.1 44 8 = st1 at hs_st1 h
  refine wp_getAe (kk := 8) (nx := 9) clsX3 dX3_coveredBy_6 rfl kF_X3_69 (by decide) (fo_44 F) (ft_44 F) rfl e_st1 ?_
  refine wp_getIe (kk := 0) 0 (nx := 12) clsX7 dX3_coveredBy_9 rfl kF_X3_39 (by decide) (st_b0 F hs_st1) (st_t0 F hs_st1) rfl rfl rfl ?_
  refine wp_icmp_ge (nx := 15) (tg := 43) dX3_coveredBy_12 rfl rfl (fun hc => ?_) (fun hc => ?_)
  · have h := h.1 hc
    refine wp_aload_n (nx := 44) dX3_coveredBy_43 rfl rfl ?_
    refine wp_getIe (kk := 9) 9 (nx := 47) clsX3 dX3_coveredBy_44 rfl kF_X3_77 (by decide) (fo_44 F) (ft_44 F) rfl rfl rfl ?_
    refine wp_iload_n (nx := 48) dX3_coveredBy_47 rfl rfl ?_
    refine wp_iconst (nx := 49) dX3_coveredBy_48 rfl (i32 (by decide)) ?_
    refine wp_ixor (nx := 50) dX3_coveredBy_49 rfl ?_
    refine wp_iand (nx := 51) dX3_coveredBy_50 rfl ?_
    refine wp_if_ne (nx := 54) (tg := 70) dX3_coveredBy_51 rfl rfl (fun hc => ?_) (fun hc => ?_)
    · have h := h.1 hc
      refine wp_iconst (nx := 71) dX3_coveredBy_70 rfl (i32 (by decide)) ?_
      exact wp_ireturn dX3_coveredBy_71 rfl rfl (nz_of (Or.inl rfl)) h
    · have h := h.2 hc
      refine wp_aload_n (nx := 55) dX3_coveredBy_54 rfl rfl ?_
      refine wp_aload_n (nx := 56) dX3_coveredBy_55 rfl rfl ?_
      refine wp_getIe (kk := 9) 9 (nx := 59) clsX3 dX3_coveredBy_56 rfl kF_X3_77 (by decide) (fo_44 F) (ft_44 F) rfl rfl rfl ?_
      refine wp_iload_n (nx := 60) dX3_coveredBy_59 rfl rfl ?_
      refine wp_invV (nx := 63) (N := M_X3_covered) (as := [cI (C 44 9), cI l1]) (st := []) (mc := 0) (ms := 0) (mc' := mc) (ms' := ms) (a := 44) clsX3 dX3_coveredBy_60 rfl mok_X3_covered kM_X3_123 ki_X3_covered ke_X3_covered (fo_44 F) (ft_44 F) rfl rfl (leB rfl) (leB rfl) (z0 _) (z0 _) (Wp.mono h ?_)
      intro r2 Sq C3 h
      obtain ⟨e9, h⟩ := h
      rw [e9]
      show Wp (d + 1) mc ms M_X3_coveredBy 63 [cA 44, cI l1, cI l2, cI l3] [cI r2] S C3 Q
      refine wp_if_eq (nx := 66) (tg := 70) dX3_coveredBy_63 rfl rfl (fun hc => ?_) (fun hc => ?_)
      · have h := h.1 hc
        refine wp_iconst (nx := 71) dX3_coveredBy_70 rfl (i32 (by decide)) ?_
        exact wp_ireturn dX3_coveredBy_71 rfl rfl (nz_of (Or.inl rfl)) h
      · have h := h.2 hc
        refine wp_iconst (nx := 67) dX3_coveredBy_66 rfl (i32 (by decide)) ?_
        refine wp_goto (nx := 71) dX3_coveredBy_67 rfl ?_
        exact wp_ireturn dX3_coveredBy_71 rfl rfl (nz_of (Or.inr rfl)) h
  · have h := h.2 hc
    refine wp_iload_n (nx := 16) dX3_coveredBy_15 rfl rfl ?_
    refine wp_iload_n (nx := 17) dX3_coveredBy_16 rfl rfl ?_
    refine wp_iload_n (nx := 18) dX3_coveredBy_17 rfl rfl ?_
    refine wp_ishr (nx := 19) dX3_coveredBy_18 rfl ?_
    refine wp_iconst (nx := 20) dX3_coveredBy_19 rfl (i32 (by decide)) ?_
    refine wp_iand (nx := 21) dX3_coveredBy_20 rfl ?_
    refine wp_iconst (nx := 22) dX3_coveredBy_21 rfl (i32 (by decide)) ?_
    refine wp_icmp_ne (nx := 25) (tg := 34) dX3_coveredBy_22 rfl rfl (fun hc => ?_) (fun hc => ?_)
    · have h := h.1 hc
      refine wp_iconst (nx := 35) dX3_coveredBy_34 rfl (i32 (by decide)) ?_
      refine wp_ior (nx := 36) dX3_coveredBy_35 rfl ?_
      refine wp_istore_n (nx := 37) dX3_coveredBy_36 rfl (by decide) ?_
      refine wp_ls (ls2 := [cA 44, cI l1, cI (iOr l2 0), cI l3]) rfl ?_
      refine wp_iinc (nx := 40) dX3_coveredBy_37 rfl rfl (by decide) ?_
      refine wp_ls (ls2 := [cA 44, cI l1, cI (iOr l2 0), cI (w32 (l3 + 1))]) rfl ?_
      refine wp_goto (nx := 4) dX3_coveredBy_40 rfl ?_
      exact h
    · have h := h.2 hc
      refine wp_aload_n (nx := 26) dX3_coveredBy_25 rfl rfl ?_
      refine wp_getAe (kk := 1) (nx := 29) clsX3 dX3_coveredBy_26 rfl kF_X3_9 (by decide) (fo_44 F) (ft_44 F) rfl (fp_44_1 F) ?_
      refine wp_iload_n (nx := 30) dX3_coveredBy_29 rfl rfl ?_
      obtain ⟨hi, h⟩ := h
      refine wp_ialoadE (nx := 31) dX3_coveredBy_30 rfl (fo_45 F) (fl_45 F) hi (ft_45 F) rfl ?_
      refine wp_goto (nx := 35) dX3_coveredBy_31 rfl ?_
      refine wp_ior (nx := 36) dX3_coveredBy_35 rfl ?_
      refine wp_istore_n (nx := 37) dX3_coveredBy_36 rfl (by decide) ?_
      refine wp_ls (ls2 := [cA 44, cI l1, cI (iOr l2 (C 45 l3)), cI l3]) rfl ?_
      refine wp_iinc (nx := 40) dX3_coveredBy_37 rfl rfl (by decide) ?_
      refine wp_ls (ls2 := [cA 44, cI l1, cI (iOr l2 (C 45 l3)), cI (w32 (l3 + 1))]) rfl ?_
      refine wp_goto (nx := 4) dX3_coveredBy_40 rfl ?_
      exact h
theorem b_X3_covered_0 {d mc ms : Nat} {l1 l2 : Int} {S : MS} {C : MC} {Q : Int → MS → MC → Prop} (F : Fix S) (h : ((¬ l1 = 0 → K_X3_lowestKey_0 d 0 0 l1 S C (fun r1 Sq C2 => Sq = S ∧ K_X3_covered_14 (d + 1) mc ms l1 l2 r1 0 S C2 Q)) ∧ (l1 = 0 → Q 1 S C))) : K_X3_covered_0 (d + 1) mc ms l1 l2 S C Q := by
  show Wp (d + 1) mc ms M_X3_covered 0 [cA 44, cI l1, cI l2, cU, cU, cU] [] S C Q
  refine wp_iload_n (nx := 1) dX3_covered_0 rfl rfl ?_
  refine wp_if_ne (nx := 4) (tg := 6) dX3_covered_1 rfl rfl (fun hc => ?_) (fun hc => ?_)
  · have h := h.1 hc
    refine wp_iload_n (nx := 7) dX3_covered_6 rfl rfl ?_
    refine wp_invS (nx := 10) (N := M_X3_lowestKey) (as := [cI l1]) (st := []) (mc := 0) (ms := 0) (mc' := mc) (ms' := ms) dX3_covered_7 rfl mok_X3_lowestKey kM_X3_127 ks_X3_lowestKey rfl rfl (leB rfl) (leB rfl) (z0 _) (z0 _) (Wp.mono h ?_)
    intro r1 Sq C2 h
    obtain ⟨e9, h⟩ := h
    rw [e9]
    show Wp (d + 1) mc ms M_X3_covered 10 [cA 44, cI l1, cI l2, cU, cU, cU] [cI r1] S C2 Q
    refine wp_istore_n (nx := 11) dX3_covered_10 rfl (by decide) ?_
    refine wp_ls (ls2 := [cA 44, cI l1, cI l2, cI r1, cU, cU]) rfl ?_
    refine wp_iconst (nx := 12) dX3_covered_11 rfl (i32 (by decide)) ?_
    refine wp_istore (nx := 14) dX3_covered_12 rfl (by decide) ?_
    refine wp_ls (ls2 := [cA 44, cI l1, cI l2, cI r1, cI 0, cU]) rfl ?_
    exact h
  · have h := h.2 hc
    refine wp_iconst (nx := 5) dX3_covered_4 rfl (i32 (by decide)) ?_
    exact wp_ireturn dX3_covered_5 rfl rfl (nz_of (Or.inr rfl)) h
theorem b_X3_covered_14 {d mc ms : Nat} {l1 l2 l3 l4 : Int} {S : MS} {C : MC} {Q : Int → MS → MC → Prop} (F : Fix S) (h : (∀ st1, S.2.2.2.1 44 8 = st1 → isSt st1 ∧ ((C st1 0 ≤ l4 → Q 0 S C) ∧ (¬ C st1 0 ≤ l4 → ((¬ iAnd (iShr l2 l4) 1 = 1 → K_X3_covered_14 (d + 1) mc ms l1 l2 l3 (w32 (l4 + 1)) S C Q) ∧ (iAnd (iShr l2 l4) 1 = 1 → ((0 : Int) ≤ l4 ∧ l4 < 6) ∧ ((¬ iAnd (iShr (C 45 l4) l3) 1 = 1 → K_X3_covered_14 (d + 1) mc ms l1 l2 l3 (w32 (l4 + 1)) S C Q) ∧ (iAnd (iShr (C 45 l4) l3) 1 = 1 → ((0 : Int) ≤ l4 ∧ l4 < 6) ∧ ((0 : Int) ≤ l4 ∧ l4 < 6) ∧ K_X3_coveredFrom_0 d 0 0 l4 (iAnd (iAnd (C 45 l4) l1) (w32 ((iShl 2 (w32 (l3 + (C (st1 + 2) l4)))) - 1))) l1 (iAnd l2 (iXor (iShl 1 l4) (-1))) S C (fun r2 Sq C3 => Sq = S ∧ ((r2 = 0 → K_X3_covered_14 (d + 1) mc ms l1 l2 l3 (w32 (l4 + 1)) S C3 Q) ∧ (¬ r2 = 0 → Q 1 S C3))))))))))) : K_X3_covered_14 (d + 1) mc ms l1 l2 l3 l4 S C Q := by
  show Wp (d + 1) mc ms M_X3_covered 14 [cA 44, cI l1, cI l2, cI l3, cI l4, cU] [] S C Q
  refine wp_iload (nx := 16) dX3_covered_14 rfl rfl ?_
  refine wp_aload_n (nx := 17) dX3_covered_16 rfl rfl ?_
  obtain ⟨hs_st1, h⟩ := h _ rfl
  generalize e_st1 : S.2.2.2.1 44 8 = st1 at hs_st1 h
  refine wp_getAe (kk := 8) (nx := 20) clsX3 dX3_covered_17 rfl kF_X3_69 (by decide) (fo_44 F) (ft_44 F) rfl e_st1 ?_
  refine wp_getIe (kk := 0) 0 (nx := 23) clsX7 dX3_covered_20 rfl kF_X3_39 (by decide) (st_b0 F hs_st1) (st_t0 F hs_st1) rfl rfl rfl ?_
  refine wp_icmp_ge (nx := 26) (tg := 107) dX3_covered_23 rfl rfl (fun hc => ?_) (fun hc => ?_)
  · have h := h.1 hc
    refine wp_iconst (nx := 108) dX3_covered_107 rfl (i32 (by decide)) ?_
    exact wp_ireturn dX3_covered_108 rfl rfl (nz_of (Or.inl rfl)) h
  · have h := h.2 hc
    refine wp_iload_n (nx := 27) dX3_covered_26 rfl rfl ?_
    refine wp_iload (nx := 29) dX3_covered_27 rfl rfl ?_
    refine wp_ishr (nx := 30) dX3_covered_29 rfl ?_
    refine wp_iconst (nx := 31) dX3_covered_30 rfl (i32 (by decide)) ?_
    refine wp_iand (nx := 32) dX3_covered_31 rfl ?_
    refine wp_iconst (nx := 33) dX3_covered_32 rfl (i32 (by decide)) ?_
    refine wp_icmp_ne (nx := 36) (tg := 101) dX3_covered_33 rfl rfl (fun hc => ?_) (fun hc => ?_)
    · have h := h.1 hc
      refine wp_iinc (nx := 104) dX3_covered_101 rfl rfl (by decide) ?_
      refine wp_ls (ls2 := [cA 44, cI l1, cI l2, cI l3, cI (w32 (l4 + 1)), cU]) rfl ?_
      refine wp_goto (nx := 14) dX3_covered_104 rfl ?_
      exact h
    · have h := h.2 hc
      refine wp_aload_n (nx := 37) dX3_covered_36 rfl rfl ?_
      refine wp_getAe (kk := 1) (nx := 40) clsX3 dX3_covered_37 rfl kF_X3_9 (by decide) (fo_44 F) (ft_44 F) rfl (fp_44_1 F) ?_
      refine wp_iload (nx := 42) dX3_covered_40 rfl rfl ?_
      obtain ⟨hi, h⟩ := h
      refine wp_ialoadE (nx := 43) dX3_covered_42 rfl (fo_45 F) (fl_45 F) hi (ft_45 F) rfl ?_
      refine wp_iload_n (nx := 44) dX3_covered_43 rfl rfl ?_
      refine wp_ishr (nx := 45) dX3_covered_44 rfl ?_
      refine wp_iconst (nx := 46) dX3_covered_45 rfl (i32 (by decide)) ?_
      refine wp_iand (nx := 47) dX3_covered_46 rfl ?_
      refine wp_iconst (nx := 48) dX3_covered_47 rfl (i32 (by decide)) ?_
      refine wp_icmp_ne (nx := 51) (tg := 101) dX3_covered_48 rfl rfl (fun hc => ?_) (fun hc => ?_)
      · have h := h.1 hc
        refine wp_iinc (nx := 104) dX3_covered_101 rfl rfl (by decide) ?_
        refine wp_ls (ls2 := [cA 44, cI l1, cI l2, cI l3, cI (w32 (l4 + 1)), cU]) rfl ?_
        refine wp_goto (nx := 14) dX3_covered_104 rfl ?_
        exact h
      · have h := h.2 hc
        refine wp_aload_n (nx := 52) dX3_covered_51 rfl rfl ?_
        refine wp_getAe (kk := 1) (nx := 55) clsX3 dX3_covered_52 rfl kF_X3_9 (by decide) (fo_44 F) (ft_44 F) rfl (fp_44_1 F) ?_
        refine wp_iload (nx := 57) dX3_covered_55 rfl rfl ?_
        obtain ⟨hi, h⟩ := h
        refine wp_ialoadE (nx := 58) dX3_covered_57 rfl (fo_45 F) (fl_45 F) hi (ft_45 F) rfl ?_
        refine wp_iload_n (nx := 59) dX3_covered_58 rfl rfl ?_
        refine wp_iand (nx := 60) dX3_covered_59 rfl ?_
        refine wp_iconst (nx := 61) dX3_covered_60 rfl (i32 (by decide)) ?_
        refine wp_iload_n (nx := 62) dX3_covered_61 rfl rfl ?_
        refine wp_aload_n (nx := 63) dX3_covered_62 rfl rfl ?_
        refine wp_getAe (kk := 8) (nx := 66) clsX3 dX3_covered_63 rfl kF_X3_69 (by decide) (fo_44 F) (ft_44 F) rfl e_st1 ?_
        refine wp_getAe (kk := 2) (nx := 69) clsX7 dX3_covered_66 rfl kF_X3_130 (by decide) (st_b0 F hs_st1) (st_t0 F hs_st1) rfl (st_p2 F hs_st1) ?_
        refine wp_iload (nx := 71) dX3_covered_69 rfl rfl ?_
        obtain ⟨hi, h⟩ := h
        refine wp_ialoadE (nx := 72) dX3_covered_71 rfl (st_b2 F hs_st1) (st_l2 F hs_st1) hi (st_t2 F hs_st1) rfl ?_
        refine wp_iadd (nx := 73) dX3_covered_72 rfl ?_
        refine wp_ishl (nx := 74) dX3_covered_73 rfl ?_
        refine wp_iconst (nx := 75) dX3_covered_74 rfl (i32 (by decide)) ?_
        refine wp_isub (nx := 76) dX3_covered_75 rfl ?_
        refine wp_iand (nx := 77) dX3_covered_76 rfl ?_
        refine wp_istore (nx := 79) dX3_covered_77 rfl (by decide) ?_
        refine wp_ls (ls2 := [cA 44, cI l1, cI l2, cI l3, cI l4, cI (iAnd (iAnd (C 45 l4) l1) (w32 ((iShl 2 (w32 (l3 + (C (st1 + 2) l4)))) - 1)))]) rfl ?_
        refine wp_aload_n (nx := 80) dX3_covered_79 rfl rfl ?_
        refine wp_iload (nx := 82) dX3_covered_80 rfl rfl ?_
        refine wp_iload (nx := 84) dX3_covered_82 rfl rfl ?_
        refine wp_iload_n (nx := 85) dX3_covered_84 rfl rfl ?_
        refine wp_iload_n (nx := 86) dX3_covered_85 rfl rfl ?_
        refine wp_iconst (nx := 87) dX3_covered_86 rfl (i32 (by decide)) ?_
        refine wp_iload (nx := 89) dX3_covered_87 rfl rfl ?_
        refine wp_ishl (nx := 90) dX3_covered_89 rfl ?_
        refine wp_iconst (nx := 91) dX3_covered_90 rfl (i32 (by decide)) ?_
        refine wp_ixor (nx := 92) dX3_covered_91 rfl ?_
        refine wp_iand (nx := 93) dX3_covered_92 rfl ?_
        refine wp_invV (nx := 96) (N := M_X3_coveredFrom) (as := [cI l4, cI (iAnd (iAnd (C 45 l4) l1) (w32 ((iShl 2 (w32 (l3 + (C (st1 + 2) l4)))) - 1))), cI l1, cI (iAnd l2 (iXor (iShl 1 l4) (-1)))]) (st := []) (mc := 0) (ms := 0) (mc' := mc) (ms' := ms) (a := 44) clsX3 dX3_covered_93 rfl mok_X3_coveredFrom kM_X3_133 ki_X3_coveredFrom ke_X3_coveredFrom (fo_44 F) (ft_44 F) rfl rfl (leB rfl) (leB rfl) (z0 _) (z0 _) (Wp.mono h ?_)
        intro r2 Sq C3 h
        obtain ⟨e9, h⟩ := h
        rw [e9]
        show Wp (d + 1) mc ms M_X3_covered 96 [cA 44, cI l1, cI l2, cI l3, cI l4, cI (iAnd (iAnd (C 45 l4) l1) (w32 ((iShl 2 (w32 (l3 + (C (st1 + 2) l4)))) - 1)))] [cI r2] S C3 Q
        refine wp_if_eq (nx := 99) (tg := 101) dX3_covered_96 rfl rfl (fun hc => ?_) (fun hc => ?_)
        · have h := h.1 hc
          refine wp_iinc (nx := 104) dX3_covered_101 rfl rfl (by decide) ?_
          refine wp_ls (ls2 := [cA 44, cI l1, cI l2, cI l3, cI (w32 (l4 + 1)), cI (iAnd (iAnd (C 45 l4) l1) (w32 ((iShl 2 (w32 (l3 + (C (st1 + 2) l4)))) - 1)))]) rfl ?_
          refine wp_goto (nx := 14) dX3_covered_104 rfl ?_
          refine wp_fg [true, true, true, true, true, false] (ls2 := [cA 44, cI l1, cI l2, cI l3, cI (w32 (l4 + 1)), cU]) rfl ?_
          exact h
        · have h := h.2 hc
          refine wp_iconst (nx := 100) dX3_covered_99 rfl (i32 (by decide)) ?_
          exact wp_ireturn dX3_covered_100 rfl rfl (nz_of (Or.inr rfl)) h
theorem b_X3_coveredFrom_0 {d mc ms : Nat} {l1 l2 l3 l4 : Int} {S : MS} {C : MC} {Q : Int → MS → MC → Prop} (F : Fix S) (h : (∀ st1, S.2.2.2.1 44 8 = st1 → isSt st1 ∧ ((0 : Int) ≤ l1 ∧ l1 < 6) ∧ K_J6_bitCount_0f7a4_0 d 0 0 l2 S C (fun r2 Sq C3 => Sq = S ∧ ((C (st1 + 1) l1 < r2 → K_X3_coveredFrom_41 (d + 1) mc ms l2 l3 l4 (C (st1 + 1) l1) (iAnd l2 (w32 (-l2))) l2 S C3 Q) ∧ (¬ C (st1 + 1) l1 < r2 → K_X3_covered_0 d 0 0 (iAnd l3 (iXor l2 (-1))) l4 S C3 (fun r4 Sq C5 => Sq = S ∧ ((r4 = 0 ∨ r4 = 1) ∧ Q r4 S C5))))))) : K_X3_coveredFrom_0 (d + 1) mc ms l1 l2 l3 l4 S C Q := by
  show Wp (d + 1) mc ms M_X3_coveredFrom 0 [cA 44, cI l1, cI l2, cI l3, cI l4, cU, cU, cU] [] S C Q
  refine wp_aload_n (nx := 1) dX3_coveredFrom_0 rfl rfl ?_
  obtain ⟨hs_st1, h⟩ := h _ rfl
  generalize e_st1 : S.2.2.2.1 44 8 = st1 at hs_st1 h
  refine wp_getAe (kk := 8) (nx := 4) clsX3 dX3_coveredFrom_1 rfl kF_X3_69 (by decide) (fo_44 F) (ft_44 F) rfl e_st1 ?_
  refine wp_getAe (kk := 1) (nx := 7) clsX7 dX3_coveredFrom_4 rfl kF_X3_137 (by decide) (st_b0 F hs_st1) (st_t0 F hs_st1) rfl (st_p1 F hs_st1) ?_
  refine wp_iload_n (nx := 8) dX3_coveredFrom_7 rfl rfl ?_
  obtain ⟨hi, h⟩ := h
  refine wp_ialoadE (nx := 9) dX3_coveredFrom_8 rfl (st_b1 F hs_st1) (st_l1 F hs_st1) hi (st_t1 F hs_st1) rfl ?_
  refine wp_istore (nx := 11) dX3_coveredFrom_9 rfl (by decide) ?_
  refine wp_ls (ls2 := [cA 44, cI l1, cI l2, cI l3, cI l4, cI (C (st1 + 1) l1), cU, cU]) rfl ?_
  refine wp_iload_n (nx := 12) dX3_coveredFrom_11 rfl rfl ?_
  refine wp_invS (nx := 15) (N := M_J6_bitCount_0f7a4) (as := [cI l2]) (st := []) (mc := 0) (ms := 0) (mc' := mc) (ms' := ms) dX3_coveredFrom_12 rfl mok_J6_bitCount_0f7a4 kM_X3_103 ks_J6_bitCount_0f7a4 rfl rfl (leB rfl) (leB rfl) (z0 _) (z0 _) (Wp.mono h ?_)
  intro r2 Sq C3 h
  obtain ⟨e9, h⟩ := h
  rw [e9]
  show Wp (d + 1) mc ms M_X3_coveredFrom 15 [cA 44, cI l1, cI l2, cI l3, cI l4, cI (C (st1 + 1) l1), cU, cU] [cI r2] S C3 Q
  refine wp_iload (nx := 17) dX3_coveredFrom_15 rfl rfl ?_
  refine wp_icmp_gt (nx := 20) (tg := 32) dX3_coveredFrom_17 rfl rfl (fun hc => ?_) (fun hc => ?_)
  · have h := h.1 hc
    refine wp_iload_n (nx := 33) dX3_coveredFrom_32 rfl rfl ?_
    refine wp_iload_n (nx := 34) dX3_coveredFrom_33 rfl rfl ?_
    refine wp_ineg (nx := 35) dX3_coveredFrom_34 rfl ?_
    refine wp_iand (nx := 36) dX3_coveredFrom_35 rfl ?_
    refine wp_istore (nx := 38) dX3_coveredFrom_36 rfl (by decide) ?_
    refine wp_ls (ls2 := [cA 44, cI l1, cI l2, cI l3, cI l4, cI (C (st1 + 1) l1), cI (iAnd l2 (w32 (-l2))), cU]) rfl ?_
    refine wp_iload_n (nx := 39) dX3_coveredFrom_38 rfl rfl ?_
    refine wp_istore (nx := 41) dX3_coveredFrom_39 rfl (by decide) ?_
    refine wp_ls (ls2 := [cA 44, cI l1, cI l2, cI l3, cI l4, cI (C (st1 + 1) l1), cI (iAnd l2 (w32 (-l2))), cI l2]) rfl ?_
    refine wp_fg [true, false, true, true, true, true, true, true] (ls2 := [cA 44, cU, cI l2, cI l3, cI l4, cI (C (st1 + 1) l1), cI (iAnd l2 (w32 (-l2))), cI l2]) rfl ?_
    exact h
  · have h := h.2 hc
    refine wp_aload_n (nx := 21) dX3_coveredFrom_20 rfl rfl ?_
    refine wp_iload_n (nx := 22) dX3_coveredFrom_21 rfl rfl ?_
    refine wp_iload_n (nx := 23) dX3_coveredFrom_22 rfl rfl ?_
    refine wp_iconst (nx := 24) dX3_coveredFrom_23 rfl (i32 (by decide)) ?_
    refine wp_ixor (nx := 25) dX3_coveredFrom_24 rfl ?_
    refine wp_iand (nx := 26) dX3_coveredFrom_25 rfl ?_
    refine wp_iload (nx := 28) dX3_coveredFrom_26 rfl rfl ?_
    refine wp_invV (nx := 31) (N := M_X3_covered) (as := [cI (iAnd l3 (iXor l2 (-1))), cI l4]) (st := []) (mc := 0) (ms := 0) (mc' := mc) (ms' := ms) (a := 44) clsX3 dX3_coveredFrom_28 rfl mok_X3_covered kM_X3_123 ki_X3_covered ke_X3_covered (fo_44 F) (ft_44 F) rfl rfl (leB rfl) (leB rfl) (z0 _) (z0 _) (Wp.mono h ?_)
    intro r4 Sq C5 h
    obtain ⟨e9, h⟩ := h
    rw [e9]
    show Wp (d + 1) mc ms M_X3_coveredFrom 31 [cA 44, cI l1, cI l2, cI l3, cI l4, cI (C (st1 + 1) l1), cU, cU] [cI r4] S C5 Q
    obtain ⟨hz, h⟩ := h
    exact wp_ireturn dX3_coveredFrom_31 rfl rfl (nz_of hz) h
theorem b_X3_coveredFrom_41 {d mc ms : Nat} {l2 l3 l4 l5 l6 l7 : Int} {S : MS} {C : MC} {Q : Int → MS → MC → Prop} (F : Fix S) (h : ((l7 ≤ 0 → Q 0 S C) ∧ (¬ l7 ≤ 0 → ((iAnd l7 l6 = 0 → K_X3_coveredFrom_41 (d + 1) mc ms l2 l3 l4 l5 l6 (iAnd (w32 (l7 - 1)) l2) S C Q) ∧ (¬ iAnd l7 l6 = 0 → K_J6_bitCount_0f7a4_0 d 0 0 l7 S C (fun r1 Sq C2 => Sq = S ∧ ((¬ r1 = l5 → K_X3_coveredFrom_41 (d + 1) mc ms l2 l3 l4 l5 l6 (iAnd (w32 (l7 - 1)) l2) S C2 Q) ∧ (r1 = l5 → K_X3_covered_0 d 0 0 (iAnd l3 (iXor l7 (-1))) l4 S C2 (fun r3 Sq C4 => Sq = S ∧ ((r3 = 0 → K_X3_coveredFrom_41 (d + 1) mc ms l2 l3 l4 l5 l6 (iAnd (w32 (l7 - 1)) l2) S C4 Q) ∧ (¬ r3 = 0 → Q 1 S C4))))))))))) : K_X3_coveredFrom_41 (d + 1) mc ms l2 l3 l4 l5 l6 l7 S C Q := by
  show Wp (d + 1) mc ms M_X3_coveredFrom 41 [cA 44, cU, cI l2, cI l3, cI l4, cI l5, cI l6, cI l7] [] S C Q
  refine wp_iload (nx := 43) dX3_coveredFrom_41 rfl rfl ?_
  refine wp_if_le (nx := 46) (tg := 92) dX3_coveredFrom_43 rfl rfl (fun hc => ?_) (fun hc => ?_)
  · have h := h.1 hc
    refine wp_iconst (nx := 93) dX3_coveredFrom_92 rfl (i32 (by decide)) ?_
    exact wp_ireturn dX3_coveredFrom_93 rfl rfl (nz_of (Or.inl rfl)) h
  · have h := h.2 hc
    refine wp_iload (nx := 48) dX3_coveredFrom_46 rfl rfl ?_
    refine wp_iload (nx := 50) dX3_coveredFrom_48 rfl rfl ?_
    refine wp_iand (nx := 51) dX3_coveredFrom_50 rfl ?_
    refine wp_if_eq (nx := 54) (tg := 81) dX3_coveredFrom_51 rfl rfl (fun hc => ?_) (fun hc => ?_)
    · have h := h.1 hc
      refine wp_iload (nx := 83) dX3_coveredFrom_81 rfl rfl ?_
      refine wp_iconst (nx := 84) dX3_coveredFrom_83 rfl (i32 (by decide)) ?_
      refine wp_isub (nx := 85) dX3_coveredFrom_84 rfl ?_
      refine wp_iload_n (nx := 86) dX3_coveredFrom_85 rfl rfl ?_
      refine wp_iand (nx := 87) dX3_coveredFrom_86 rfl ?_
      refine wp_istore (nx := 89) dX3_coveredFrom_87 rfl (by decide) ?_
      refine wp_ls (ls2 := [cA 44, cU, cI l2, cI l3, cI l4, cI l5, cI l6, cI (iAnd (w32 (l7 - 1)) l2)]) rfl ?_
      refine wp_goto (nx := 41) dX3_coveredFrom_89 rfl ?_
      exact h
    · have h := h.2 hc
      refine wp_iload (nx := 56) dX3_coveredFrom_54 rfl rfl ?_
      refine wp_invS (nx := 59) (N := M_J6_bitCount_0f7a4) (as := [cI l7]) (st := []) (mc := 0) (ms := 0) (mc' := mc) (ms' := ms) dX3_coveredFrom_56 rfl mok_J6_bitCount_0f7a4 kM_X3_103 ks_J6_bitCount_0f7a4 rfl rfl (leB rfl) (leB rfl) (z0 _) (z0 _) (Wp.mono h ?_)
      intro r1 Sq C2 h
      obtain ⟨e9, h⟩ := h
      rw [e9]
      show Wp (d + 1) mc ms M_X3_coveredFrom 59 [cA 44, cU, cI l2, cI l3, cI l4, cI l5, cI l6, cI l7] [cI r1] S C2 Q
      refine wp_iload (nx := 61) dX3_coveredFrom_59 rfl rfl ?_
      refine wp_icmp_ne (nx := 64) (tg := 81) dX3_coveredFrom_61 rfl rfl (fun hc => ?_) (fun hc => ?_)
      · have h := h.1 hc
        refine wp_iload (nx := 83) dX3_coveredFrom_81 rfl rfl ?_
        refine wp_iconst (nx := 84) dX3_coveredFrom_83 rfl (i32 (by decide)) ?_
        refine wp_isub (nx := 85) dX3_coveredFrom_84 rfl ?_
        refine wp_iload_n (nx := 86) dX3_coveredFrom_85 rfl rfl ?_
        refine wp_iand (nx := 87) dX3_coveredFrom_86 rfl ?_
        refine wp_istore (nx := 89) dX3_coveredFrom_87 rfl (by decide) ?_
        refine wp_ls (ls2 := [cA 44, cU, cI l2, cI l3, cI l4, cI l5, cI l6, cI (iAnd (w32 (l7 - 1)) l2)]) rfl ?_
        refine wp_goto (nx := 41) dX3_coveredFrom_89 rfl ?_
        exact h
      · have h := h.2 hc
        refine wp_aload_n (nx := 65) dX3_coveredFrom_64 rfl rfl ?_
        refine wp_iload_n (nx := 66) dX3_coveredFrom_65 rfl rfl ?_
        refine wp_iload (nx := 68) dX3_coveredFrom_66 rfl rfl ?_
        refine wp_iconst (nx := 69) dX3_coveredFrom_68 rfl (i32 (by decide)) ?_
        refine wp_ixor (nx := 70) dX3_coveredFrom_69 rfl ?_
        refine wp_iand (nx := 71) dX3_coveredFrom_70 rfl ?_
        refine wp_iload (nx := 73) dX3_coveredFrom_71 rfl rfl ?_
        refine wp_invV (nx := 76) (N := M_X3_covered) (as := [cI (iAnd l3 (iXor l7 (-1))), cI l4]) (st := []) (mc := 0) (ms := 0) (mc' := mc) (ms' := ms) (a := 44) clsX3 dX3_coveredFrom_73 rfl mok_X3_covered kM_X3_123 ki_X3_covered ke_X3_covered (fo_44 F) (ft_44 F) rfl rfl (leB rfl) (leB rfl) (z0 _) (z0 _) (Wp.mono h ?_)
        intro r3 Sq C4 h
        obtain ⟨e9, h⟩ := h
        rw [e9]
        show Wp (d + 1) mc ms M_X3_coveredFrom 76 [cA 44, cU, cI l2, cI l3, cI l4, cI l5, cI l6, cI l7] [cI r3] S C4 Q
        refine wp_if_eq (nx := 79) (tg := 81) dX3_coveredFrom_76 rfl rfl (fun hc => ?_) (fun hc => ?_)
        · have h := h.1 hc
          refine wp_iload (nx := 83) dX3_coveredFrom_81 rfl rfl ?_
          refine wp_iconst (nx := 84) dX3_coveredFrom_83 rfl (i32 (by decide)) ?_
          refine wp_isub (nx := 85) dX3_coveredFrom_84 rfl ?_
          refine wp_iload_n (nx := 86) dX3_coveredFrom_85 rfl rfl ?_
          refine wp_iand (nx := 87) dX3_coveredFrom_86 rfl ?_
          refine wp_istore (nx := 89) dX3_coveredFrom_87 rfl (by decide) ?_
          refine wp_ls (ls2 := [cA 44, cU, cI l2, cI l3, cI l4, cI l5, cI l6, cI (iAnd (w32 (l7 - 1)) l2)]) rfl ?_
          refine wp_goto (nx := 41) dX3_coveredFrom_89 rfl ?_
          exact h
        · have h := h.2 hc
          refine wp_iconst (nx := 80) dX3_coveredFrom_79 rfl (i32 (by decide)) ?_
          exact wp_ireturn dX3_coveredFrom_80 rfl rfl (nz_of (Or.inr rfl)) h
theorem b_X3_weighParts_0 {d mc ms : Nat} {l1 : Int} {S : MS} {C : MC} {Q : Int → MS → MC → Prop} (F : Fix S) (h : ((0 : Int) ≤ l1 ∧ l1 < 6) ∧ K_X3_weighParts_19 (d + 1) mc ms l1 (C 45 l1) 0 0 S (upC C 48 0 0) Q) : K_X3_weighParts_0 (d + 1) mc ms l1 S C Q := by
  show Wp (d + 1) mc ms M_X3_weighParts 0 [cA 44, cI l1, cU, cU, cU, cU, cU] [] S C Q
  refine wp_aload_n (nx := 1) dX3_weighParts_0 rfl rfl ?_
  refine wp_getAe (kk := 1) (nx := 4) clsX3 dX3_weighParts_1 rfl kF_X3_9 (by decide) (fo_44 F) (ft_44 F) rfl (fp_44_1 F) ?_
  refine wp_iload_n (nx := 5) dX3_weighParts_4 rfl rfl ?_
  obtain ⟨hi, h⟩ := h
  refine wp_ialoadE (nx := 6) dX3_weighParts_5 rfl (fo_45 F) (fl_45 F) hi (ft_45 F) rfl ?_
  refine wp_istore_n (nx := 7) dX3_weighParts_6 rfl (by decide) ?_
  refine wp_ls (ls2 := [cA 44, cI l1, cI (C 45 l1), cU, cU, cU, cU]) rfl ?_
  refine wp_aload_n (nx := 8) dX3_weighParts_7 rfl rfl ?_
  refine wp_getAe (kk := 4) (nx := 11) clsX3 dX3_weighParts_8 rfl kF_X3_22 (by decide) (fo_44 F) (ft_44 F) rfl (fp_44_4 F) ?_
  refine wp_iconst (nx := 12) dX3_weighParts_11 rfl (i32 (by decide)) ?_
  refine wp_lconst (nx := 13) (v := 0) dX3_weighParts_12 rfl ⟨by decide, i64 (by decide)⟩ ?_
  refine wp_lastoreE (nx := 14) dX3_weighParts_13 rfl (fo_48 F) (fl_48 F) (by decide) (ft_48 F) ?_
  refine wp_iconst (nx := 15) dX3_weighParts_14 rfl (i32 (by decide)) ?_
  refine wp_istore_n (nx := 16) dX3_weighParts_15 rfl (by decide) ?_
  refine wp_ls (ls2 := [cA 44, cI l1, cI (C 45 l1), cI 0, cU, cU, cU]) rfl ?_
  refine wp_iconst (nx := 17) dX3_weighParts_16 rfl (i32 (by decide)) ?_
  refine wp_istore (nx := 19) dX3_weighParts_17 rfl (by decide) ?_
  refine wp_ls (ls2 := [cA 44, cI l1, cI (C 45 l1), cI 0, cI 0, cU, cU]) rfl ?_
  exact h
theorem b_X3_weighParts_19 {d mc ms : Nat} {l1 l2 l3 l4 : Int} {S : MS} {C : MC} {Q : Int → MS → MC → Prop} (F : Fix S) (h : ((255 ≤ l4 → Q 0 S C) ∧ (¬ 255 ≤ l4 → ((l3 = l2 → Q 0 S C) ∧ (¬ l3 = l2 → K_X3_lowestKey_0 d 0 0 (iAnd (w32 (l3 - l2)) l2) S C (fun r1 Sq C2 => Sq = S ∧ K_J6_bitCount_0f7a4_0 d 0 0 (iAnd (w32 (l3 - l2)) l2) S C2 (fun r3 Sq C4 => Sq = S ∧ (∀ st5, S.2.2.2.1 44 8 = st5 → isSt st5 ∧ ((0 : Int) ≤ l1 ∧ l1 < 6) ∧ ((C4 (st5 + 1) l1 < r3 → K_X3_weighParts_83 (d + 1) mc ms l1 l2 (iAnd (w32 (l3 - l2)) l2) l4 r1 0 S C4 Q) ∧ (¬ C4 (st5 + 1) l1 < r3 → ((0 : Int) ≤ l1 ∧ l1 < 6) ∧ ((iShl 2 (C4 (st5 + 2) l1) ≤ iShr (iAnd (w32 (l3 - l2)) l2) r1 → K_X3_weighParts_83 (d + 1) mc ms l1 l2 (iAnd (w32 (l3 - l2)) l2) l4 r1 0 S C4 Q) ∧ (¬ iShl 2 (C4 (st5 + 2) l1) ≤ iShr (iAnd (w32 (l3 - l2)) l2) r1 → K_X3_weighParts_83 (d + 1) mc ms l1 l2 (iAnd (w32 (l3 - l2)) l2) l4 r1 1 S C4 Q)))))))))))) : K_X3_weighParts_19 (d + 1) mc ms l1 l2 l3 l4 S C Q := by
  show Wp (d + 1) mc ms M_X3_weighParts 19 [cA 44, cI l1, cI l2, cI l3, cI l4, cU, cU] [] S C Q
  refine wp_iload (nx := 21) dX3_weighParts_19 rfl rfl ?_
  refine wp_sipush (nx := 24) dX3_weighParts_21 rfl ⟨by decide, i32 (by decide)⟩ ?_
  refine wp_icmp_ge (nx := 27) (tg := 131) dX3_weighParts_24 rfl rfl (fun hc => ?_) (fun hc => ?_)
  · have h := h.1 hc
    exact wp_return dX3_weighParts_131 rfl h
  · have h := h.2 hc
    refine wp_iload_n (nx := 28) dX3_weighParts_27 rfl rfl ?_
    refine wp_iload_n (nx := 29) dX3_weighParts_28 rfl rfl ?_
    refine wp_icmp_eq (nx := 32) (tg := 131) dX3_weighParts_29 rfl rfl (fun hc => ?_) (fun hc => ?_)
    · have h := h.1 hc
      exact wp_return dX3_weighParts_131 rfl h
    · have h := h.2 hc
      refine wp_iload_n (nx := 33) dX3_weighParts_32 rfl rfl ?_
      refine wp_iload_n (nx := 34) dX3_weighParts_33 rfl rfl ?_
      refine wp_isub (nx := 35) dX3_weighParts_34 rfl ?_
      refine wp_iload_n (nx := 36) dX3_weighParts_35 rfl rfl ?_
      refine wp_iand (nx := 37) dX3_weighParts_36 rfl ?_
      refine wp_istore_n (nx := 38) dX3_weighParts_37 rfl (by decide) ?_
      refine wp_ls (ls2 := [cA 44, cI l1, cI l2, cI (iAnd (w32 (l3 - l2)) l2), cI l4, cU, cU]) rfl ?_
      refine wp_iload_n (nx := 39) dX3_weighParts_38 rfl rfl ?_
      refine wp_invS (nx := 42) (N := M_X3_lowestKey) (as := [cI (iAnd (w32 (l3 - l2)) l2)]) (st := []) (mc := 0) (ms := 0) (mc' := mc) (ms' := ms) dX3_weighParts_39 rfl mok_X3_lowestKey kM_X3_127 ks_X3_lowestKey rfl rfl (leB rfl) (leB rfl) (z0 _) (z0 _) (Wp.mono h ?_)
      intro r1 Sq C2 h
      obtain ⟨e9, h⟩ := h
      rw [e9]
      show Wp (d + 1) mc ms M_X3_weighParts 42 [cA 44, cI l1, cI l2, cI (iAnd (w32 (l3 - l2)) l2), cI l4, cU, cU] [cI r1] S C2 Q
      refine wp_istore (nx := 44) dX3_weighParts_42 rfl (by decide) ?_
      refine wp_ls (ls2 := [cA 44, cI l1, cI l2, cI (iAnd (w32 (l3 - l2)) l2), cI l4, cI r1, cU]) rfl ?_
      refine wp_iload_n (nx := 45) dX3_weighParts_44 rfl rfl ?_
      refine wp_invS (nx := 48) (N := M_J6_bitCount_0f7a4) (as := [cI (iAnd (w32 (l3 - l2)) l2)]) (st := []) (mc := 0) (ms := 0) (mc' := mc) (ms' := ms) dX3_weighParts_45 rfl mok_J6_bitCount_0f7a4 kM_X3_103 ks_J6_bitCount_0f7a4 rfl rfl (leB rfl) (leB rfl) (z0 _) (z0 _) (Wp.mono h ?_)
      intro r3 Sq C4 h
      obtain ⟨e9, h⟩ := h
      rw [e9]
      show Wp (d + 1) mc ms M_X3_weighParts 48 [cA 44, cI l1, cI l2, cI (iAnd (w32 (l3 - l2)) l2), cI l4, cI r1, cU] [cI r3] S C4 Q
      refine wp_aload_n (nx := 49) dX3_weighParts_48 rfl rfl ?_
      obtain ⟨hs_st5, h⟩ := h _ rfl
      generalize e_st5 : S.2.2.2.1 44 8 = st5 at hs_st5 h
      refine wp_getAe (kk := 8) (nx := 52) clsX3 dX3_weighParts_49 rfl kF_X3_69 (by decide) (fo_44 F) (ft_44 F) rfl e_st5 ?_
      refine wp_getAe (kk := 1) (nx := 55) clsX7 dX3_weighParts_52 rfl kF_X3_137 (by decide) (st_b0 F hs_st5) (st_t0 F hs_st5) rfl (st_p1 F hs_st5) ?_
      refine wp_iload_n (nx := 56) dX3_weighParts_55 rfl rfl ?_
      obtain ⟨hi, h⟩ := h
      refine wp_ialoadE (nx := 57) dX3_weighParts_56 rfl (st_b1 F hs_st5) (st_l1 F hs_st5) hi (st_t1 F hs_st5) rfl ?_
      refine wp_icmp_gt (nx := 60) (tg := 82) dX3_weighParts_57 rfl rfl (fun hc => ?_) (fun hc => ?_)
      · have h := h.1 hc
        refine wp_iconst (nx := 83) dX3_weighParts_82 rfl (i32 (by decide)) ?_
        exact h
      · have h := h.2 hc
        refine wp_iload_n (nx := 61) dX3_weighParts_60 rfl rfl ?_
        refine wp_iload (nx := 63) dX3_weighParts_61 rfl rfl ?_
        refine wp_ishr (nx := 64) dX3_weighParts_63 rfl ?_
        refine wp_iconst (nx := 65) dX3_weighParts_64 rfl (i32 (by decide)) ?_
        refine wp_aload_n (nx := 66) dX3_weighParts_65 rfl rfl ?_
        refine wp_getAe (kk := 8) (nx := 69) clsX3 dX3_weighParts_66 rfl kF_X3_69 (by decide) (fo_44 F) (ft_44 F) rfl e_st5 ?_
        refine wp_getAe (kk := 2) (nx := 72) clsX7 dX3_weighParts_69 rfl kF_X3_130 (by decide) (st_b0 F hs_st5) (st_t0 F hs_st5) rfl (st_p2 F hs_st5) ?_
        refine wp_iload_n (nx := 73) dX3_weighParts_72 rfl rfl ?_
        obtain ⟨hi, h⟩ := h
        refine wp_ialoadE (nx := 74) dX3_weighParts_73 rfl (st_b2 F hs_st5) (st_l2 F hs_st5) hi (st_t2 F hs_st5) rfl ?_
        refine wp_ishl (nx := 75) dX3_weighParts_74 rfl ?_
        refine wp_icmp_ge (nx := 78) (tg := 82) dX3_weighParts_75 rfl rfl (fun hc => ?_) (fun hc => ?_)
        · have h := h.1 hc
          refine wp_iconst (nx := 83) dX3_weighParts_82 rfl (i32 (by decide)) ?_
          exact h
        · have h := h.2 hc
          refine wp_iconst (nx := 79) dX3_weighParts_78 rfl (i32 (by decide)) ?_
          refine wp_goto (nx := 83) dX3_weighParts_79 rfl ?_
          exact h
theorem b_X3_weighParts_83 {d mc ms : Nat} {l1 l2 l3 l4 l5 s0 : Int} {S : MS} {C : MC} {Q : Int → MS → MC → Prop} (F : Fix S) (h : ((s0 = 0 → ((0 : Int) ≤ l3 ∧ l3 < 256) ∧ K_X3_weighParts_19 (d + 1) mc ms l1 l2 l3 (w32 (l4 + 1)) S (upC C 48 l3 1152921504606846976) Q) ∧ (¬ s0 = 0 → ((0 : Int) ≤ iAnd l3 (w32 (l3 - 1)) ∧ iAnd l3 (w32 (l3 - 1)) < 256) ∧ ((0 : Int) ≤ w32 ((w32 (l1 * 8)) + l5) ∧ w32 ((w32 (l1 * 8)) + l5) < 48) ∧ ((0 : Int) ≤ l3 ∧ l3 < 256) ∧ K_X3_weighParts_19 (d + 1) mc ms l1 l2 l3 (w32 (l4 + 1)) S (upC C 48 l3 (w64 ((C 48 (iAnd l3 (w32 (l3 - 1)))) + (C 47 (w32 ((w32 (l1 * 8)) + l5)))))) Q))) : K_X3_weighParts_83 (d + 1) mc ms l1 l2 l3 l4 l5 s0 S C Q := by
  show Wp (d + 1) mc ms M_X3_weighParts 83 [cA 44, cI l1, cI l2, cI l3, cI l4, cI l5, cU] [cI s0] S C Q
  refine wp_istore (nx := 85) dX3_weighParts_83 rfl (by decide) ?_
  refine wp_ls (ls2 := [cA 44, cI l1, cI l2, cI l3, cI l4, cI l5, cI s0]) rfl ?_
  refine wp_aload_n (nx := 86) dX3_weighParts_85 rfl rfl ?_
  refine wp_getAe (kk := 4) (nx := 89) clsX3 dX3_weighParts_86 rfl kF_X3_22 (by decide) (fo_44 F) (ft_44 F) rfl (fp_44_4 F) ?_
  refine wp_iload_n (nx := 90) dX3_weighParts_89 rfl rfl ?_
  refine wp_iload (nx := 92) dX3_weighParts_90 rfl rfl ?_
  refine wp_if_eq (nx := 95) (tg := 121) dX3_weighParts_92 rfl rfl (fun hc => ?_) (fun hc => ?_)
  · have h := h.1 hc
    refine wp_ldc2 (nx := 124) dX3_weighParts_121 rfl kJ_X3_61 (i64 (by decide)) ?_
    obtain ⟨hi, h⟩ := h
    refine wp_lastoreE (nx := 125) dX3_weighParts_124 rfl (fo_48 F) (fl_48 F) hi (ft_48 F) ?_
    refine wp_iinc (nx := 128) dX3_weighParts_125 rfl rfl (by decide) ?_
    refine wp_ls (ls2 := [cA 44, cI l1, cI l2, cI l3, cI (w32 (l4 + 1)), cI l5, cI s0]) rfl ?_
    refine wp_goto (nx := 19) dX3_weighParts_128 rfl ?_
    refine wp_fg [true, true, true, true, true, false, false] (ls2 := [cA 44, cI l1, cI l2, cI l3, cI (w32 (l4 + 1)), cU, cU]) rfl ?_
    exact h
  · have h := h.2 hc
    refine wp_aload_n (nx := 96) dX3_weighParts_95 rfl rfl ?_
    refine wp_getAe (kk := 4) (nx := 99) clsX3 dX3_weighParts_96 rfl kF_X3_22 (by decide) (fo_44 F) (ft_44 F) rfl (fp_44_4 F) ?_
    refine wp_iload_n (nx := 100) dX3_weighParts_99 rfl rfl ?_
    refine wp_iload_n (nx := 101) dX3_weighParts_100 rfl rfl ?_
    refine wp_iconst (nx := 102) dX3_weighParts_101 rfl (i32 (by decide)) ?_
    refine wp_isub (nx := 103) dX3_weighParts_102 rfl ?_
    refine wp_iand (nx := 104) dX3_weighParts_103 rfl ?_
    obtain ⟨hi, h⟩ := h
    refine wp_laloadE (nx := 105) dX3_weighParts_104 rfl (fo_48 F) (fl_48 F) hi (ft_48 F) rfl ?_
    refine wp_aload_n (nx := 106) dX3_weighParts_105 rfl rfl ?_
    refine wp_getAe (kk := 3) (nx := 109) clsX3 dX3_weighParts_106 rfl kF_X3_18 (by decide) (fo_44 F) (ft_44 F) rfl (fp_44_3 F) ?_
    refine wp_iload_n (nx := 110) dX3_weighParts_109 rfl rfl ?_
    refine wp_bipush (nx := 112) dX3_weighParts_110 rfl ⟨by decide, i32 (by decide)⟩ ?_
    refine wp_imul (nx := 113) dX3_weighParts_112 rfl ?_
    refine wp_iload (nx := 115) dX3_weighParts_113 rfl rfl ?_
    refine wp_iadd (nx := 116) dX3_weighParts_115 rfl ?_
    obtain ⟨hi, h⟩ := h
    refine wp_laloadE (nx := 117) dX3_weighParts_116 rfl (fo_47 F) (fl_47 F) hi (ft_47 F) rfl ?_
    refine wp_ladd (nx := 118) dX3_weighParts_117 rfl ?_
    refine wp_goto (nx := 124) dX3_weighParts_118 rfl ?_
    obtain ⟨hi, h⟩ := h
    refine wp_lastoreE (nx := 125) dX3_weighParts_124 rfl (fo_48 F) (fl_48 F) hi (ft_48 F) ?_
    refine wp_iinc (nx := 128) dX3_weighParts_125 rfl rfl (by decide) ?_
    refine wp_ls (ls2 := [cA 44, cI l1, cI l2, cI l3, cI (w32 (l4 + 1)), cI l5, cI s0]) rfl ?_
    refine wp_goto (nx := 19) dX3_weighParts_128 rfl ?_
    refine wp_fg [true, true, true, true, true, false, false] (ls2 := [cA 44, cI l1, cI l2, cI l3, cI (w32 (l4 + 1)), cU, cU]) rfl ?_
    exact h
theorem b_X3_rowPlace_0 {d mc ms : Nat} {l0 : Int} {S : MS} {C : MC} {Q : Int → MS → MC → Prop} (F : Fix S) (h : Q (w32 (3 * (w32 (7 - l0)))) S C) : K_X3_rowPlace_0 d mc ms l0 S C Q := by
  show Wp d mc ms M_X3_rowPlace 0 [cI l0] [] S C Q
  refine wp_iconst (nx := 1) dX3_rowPlace_0 rfl (i32 (by decide)) ?_
  refine wp_bipush (nx := 3) dX3_rowPlace_1 rfl ⟨by decide, i32 (by decide)⟩ ?_
  refine wp_iload_n (nx := 4) dX3_rowPlace_3 rfl rfl ?_
  refine wp_isub (nx := 5) dX3_rowPlace_4 rfl ?_
  refine wp_imul (nx := 6) dX3_rowPlace_5 rfl ?_
  exact wp_ireturn dX3_rowPlace_6 rfl rfl rfl h
theorem b_X3_lowestKey_0 {d mc ms : Nat} {l0 : Int} {S : MS} {C : MC} {Q : Int → MS → MC → Prop} (F : Fix S) (h : K_X3_lowestKey_2 d mc ms l0 0 S C Q) : K_X3_lowestKey_0 d mc ms l0 S C Q := by
  show Wp d mc ms M_X3_lowestKey 0 [cI l0, cU] [] S C Q
  refine wp_iconst (nx := 1) dX3_lowestKey_0 rfl (i32 (by decide)) ?_
  refine wp_istore_n (nx := 2) dX3_lowestKey_1 rfl (by decide) ?_
  refine wp_ls (ls2 := [cI l0, cI 0]) rfl ?_
  exact h
theorem b_X3_lowestKey_2 {d mc ms : Nat} {l0 l1 : Int} {S : MS} {C : MC} {Q : Int → MS → MC → Prop} (F : Fix S) (h : ((7 ≤ l1 → Q 7 S C) ∧ (¬ 7 ≤ l1 → ((¬ iAnd (iShr l0 l1) 1 = 1 → K_X3_lowestKey_2 d mc ms l0 (w32 (l1 + 1)) S C Q) ∧ (iAnd (iShr l0 l1) 1 = 1 → Q l1 S C))))) : K_X3_lowestKey_2 d mc ms l0 l1 S C Q := by
  show Wp d mc ms M_X3_lowestKey 2 [cI l0, cI l1] [] S C Q
  refine wp_iload_n (nx := 3) dX3_lowestKey_2 rfl rfl ?_
  refine wp_bipush (nx := 5) dX3_lowestKey_3 rfl ⟨by decide, i32 (by decide)⟩ ?_
  refine wp_icmp_ge (nx := 8) (tg := 25) dX3_lowestKey_5 rfl rfl (fun hc => ?_) (fun hc => ?_)
  · have h := h.1 hc
    refine wp_bipush (nx := 27) dX3_lowestKey_25 rfl ⟨by decide, i32 (by decide)⟩ ?_
    exact wp_ireturn dX3_lowestKey_27 rfl rfl rfl h
  · have h := h.2 hc
    refine wp_iload_n (nx := 9) dX3_lowestKey_8 rfl rfl ?_
    refine wp_iload_n (nx := 10) dX3_lowestKey_9 rfl rfl ?_
    refine wp_ishr (nx := 11) dX3_lowestKey_10 rfl ?_
    refine wp_iconst (nx := 12) dX3_lowestKey_11 rfl (i32 (by decide)) ?_
    refine wp_iand (nx := 13) dX3_lowestKey_12 rfl ?_
    refine wp_iconst (nx := 14) dX3_lowestKey_13 rfl (i32 (by decide)) ?_
    refine wp_icmp_ne (nx := 17) (tg := 19) dX3_lowestKey_14 rfl rfl (fun hc => ?_) (fun hc => ?_)
    · have h := h.1 hc
      refine wp_iinc (nx := 22) dX3_lowestKey_19 rfl rfl (by decide) ?_
      refine wp_ls (ls2 := [cI l0, cI (w32 (l1 + 1))]) rfl ?_
      refine wp_goto (nx := 2) dX3_lowestKey_22 rfl ?_
      exact h
    · have h := h.2 hc
      refine wp_iload_n (nx := 18) dX3_lowestKey_17 rfl rfl ?_
      exact wp_ireturn dX3_lowestKey_18 rfl rfl rfl h
theorem b_X1_tally_0 {d mc ms : Nat} {S : MS} {C : MC} {Q : Int → MS → MC → Prop} (F : Fix S) (h : K_J7_fill_53178_0 d 0 0 53 0 S C (fun r1 Sq C2 => Sq = S ∧ K_X1_tally_10 (d + 1) mc ms 0 S C2 Q)) : K_X1_tally_0 (d + 1) mc ms S C Q := by
  show Wp (d + 1) mc ms M_X1_tally 0 [cA 52, cA 1, cA 44, cU, cU, cU, cU] [] S C Q
  refine wp_aload_n (nx := 1) dX1_tally_0 rfl rfl ?_
  refine wp_getAe (kk := 0) (nx := 4) clsX1 dX1_tally_1 rfl kF_X1_9 (by decide) (fo_52 F) (ft_52 F) rfl (fp_52_0 F) ?_
  refine wp_iconst (nx := 5) dX1_tally_4 rfl (i32 (by decide)) ?_
  refine wp_invS (nx := 8) (N := M_J7_fill_53178) (as := [cA 53, cI 0]) (st := []) (mc := 0) (ms := 0) (mc' := mc) (ms' := ms) dX1_tally_5 rfl mok_J7_fill_53178 kM_X1_18 ks_J7_fill_53178 rfl rfl (leB rfl) (leB rfl) (z0 _) (z0 _) (Wp.mono h ?_)
  intro r1 Sq C2 h
  obtain ⟨e9, h⟩ := h
  rw [e9]
  show Wp (d + 1) mc ms M_X1_tally 8 [cA 52, cA 1, cA 44, cU, cU, cU, cU] [] S C2 Q
  refine wp_iconst (nx := 9) dX1_tally_8 rfl (i32 (by decide)) ?_
  refine wp_istore_n (nx := 10) dX1_tally_9 rfl (by decide) ?_
  refine wp_ls (ls2 := [cA 52, cA 1, cA 44, cI 0, cU, cU, cU]) rfl ?_
  exact h
theorem b_X1_tally_10 {d mc ms : Nat} {l3 : Int} {S : MS} {C : MC} {Q : Int → MS → MC → Prop} (F : Fix S) (h : ((16 ≤ l3 → Q 1 S C) ∧ (¬ 16 ≤ l3 → K_X3_lightestWay_0 d 0 0 1 l3 S C (fun r1 S3 C2 => Fix S3 ∧ ((lCmp r1 1152921504606846976 < 0 → K_X1_tally_34 (d + 1) mc ms l3 0 S3 C2 Q) ∧ (¬ lCmp r1 1152921504606846976 < 0 → Q 0 S3 C2)))))) : K_X1_tally_10 (d + 1) mc ms l3 S C Q := by
  show Wp (d + 1) mc ms M_X1_tally 10 [cA 52, cA 1, cA 44, cI l3, cU, cU, cU] [] S C Q
  refine wp_iload_n (nx := 11) dX1_tally_10 rfl rfl ?_
  refine wp_bipush (nx := 13) dX1_tally_11 rfl ⟨by decide, i32 (by decide)⟩ ?_
  refine wp_icmp_ge (nx := 16) (tg := 112) dX1_tally_13 rfl rfl (fun hc => ?_) (fun hc => ?_)
  · have h := h.1 hc
    refine wp_iconst (nx := 113) dX1_tally_112 rfl (i32 (by decide)) ?_
    exact wp_ireturn dX1_tally_113 rfl rfl (nz_of (Or.inr rfl)) h
  · have h := h.2 hc
    refine wp_aload_n (nx := 17) dX1_tally_16 rfl rfl ?_
    refine wp_aload_n (nx := 18) dX1_tally_17 rfl rfl ?_
    refine wp_iload_n (nx := 19) dX1_tally_18 rfl rfl ?_
    refine wp_invV (nx := 22) (N := M_X3_lightestWay) (as := [cA 1, cI l3]) (st := []) (mc := 0) (ms := 0) (mc' := mc) (ms' := ms) (a := 44) clsX3 dX1_tally_19 rfl mok_X3_lightestWay kM_X1_24 ki_X3_lightestWay ke_X3_lightestWay (fo_44 F) (ft_44 F) rfl rfl (leB rfl) (leB rfl) (z0 _) (z0 _) (Wp.mono h ?_)
    intro r1 S3 C2 h
    obtain ⟨F4, h⟩ := h
    show Wp (d + 1) mc ms M_X1_tally 22 [cA 52, cA 1, cA 44, cI l3, cU, cU, cU] [cJ r1] S3 C2 Q
    refine wp_ldc2 (nx := 25) dX1_tally_22 rfl kJ_X1_30 (i64 (by decide)) ?_
    refine wp_lcmp (nx := 26) dX1_tally_25 rfl ?_
    refine wp_if_lt (nx := 29) (tg := 31) dX1_tally_26 rfl rfl (fun hc => ?_) (fun hc => ?_)
    · have h := h.1 hc
      refine wp_iconst (nx := 32) dX1_tally_31 rfl (i32 (by decide)) ?_
      refine wp_istore (nx := 34) dX1_tally_32 rfl (by decide) ?_
      refine wp_ls (ls2 := [cA 52, cA 1, cA 44, cI l3, cI 0, cU, cU]) rfl ?_
      exact h
    · have h := h.2 hc
      refine wp_iconst (nx := 30) dX1_tally_29 rfl (i32 (by decide)) ?_
      exact wp_ireturn dX1_tally_30 rfl rfl (nz_of (Or.inl rfl)) h
theorem b_X1_tally_34 {d mc ms : Nat} {l3 l4 : Int} {S : MS} {C : MC} {Q : Int → MS → MC → Prop} (F : Fix S) (h : ((8 ≤ l4 → K_X1_tally_10 (d + 1) mc ms (w32 (l3 + 1)) S C Q) ∧ (¬ 8 ≤ l4 → K_X3_player_0 d 0 0 l4 S C (fun r1 Sq C2 => Sq = S ∧ ((0 : Int) ≤ l4 ∧ l4 < 8) ∧ K_X7_hasHouse_0 d 0 0 1 r1 S C2 (fun r3 Sq C4 => Sq = S ∧ ((r3 = 0 → K_X1_tally_34 (d + 1) mc ms l3 (w32 (l4 + 1)) S C4 Q) ∧ (¬ r3 = 0 → K_X7_hasHouse_0 d 0 0 1 (C2 4 l4) S C4 (fun r5 Sq C6 => Sq = S ∧ ((r5 = 0 → K_X1_tally_34 (d + 1) mc ms l3 (w32 (l4 + 1)) S C6 Q) ∧ (¬ r5 = 0 → ((C2 4 l4 = r1 → K_X1_tally_34 (d + 1) mc ms l3 (w32 (l4 + 1)) S C6 Q) ∧ (¬ C2 4 l4 = r1 → ((0 : Int) ≤ w32 ((w32 (r1 * 6)) + (C2 4 l4)) ∧ w32 ((w32 (r1 * 6)) + (C2 4 l4)) < 36) ∧ ((0 : Int) ≤ w32 ((w32 (r1 * 6)) + (C2 4 l4)) ∧ w32 ((w32 (r1 * 6)) + (C2 4 l4)) < 36) ∧ K_X1_tally_34 (d + 1) mc ms l3 (w32 (l4 + 1)) S (upC C6 53 (w32 ((w32 (r1 * 6)) + (C2 4 l4))) (w32 ((C6 53 (w32 ((w32 (r1 * 6)) + (C2 4 l4)))) + 1))) Q)))))))))))) : K_X1_tally_34 (d + 1) mc ms l3 l4 S C Q := by
  show Wp (d + 1) mc ms M_X1_tally 34 [cA 52, cA 1, cA 44, cI l3, cI l4, cU, cU] [] S C Q
  refine wp_iload (nx := 36) dX1_tally_34 rfl rfl ?_
  refine wp_bipush (nx := 38) dX1_tally_36 rfl ⟨by decide, i32 (by decide)⟩ ?_
  refine wp_icmp_ge (nx := 41) (tg := 106) dX1_tally_38 rfl rfl (fun hc => ?_) (fun hc => ?_)
  · have h := h.1 hc
    refine wp_iinc (nx := 109) dX1_tally_106 rfl rfl (by decide) ?_
    refine wp_ls (ls2 := [cA 52, cA 1, cA 44, cI (w32 (l3 + 1)), cI l4, cU, cU]) rfl ?_
    refine wp_goto (nx := 10) dX1_tally_109 rfl ?_
    refine wp_fg [true, true, true, true, false, false, false] (ls2 := [cA 52, cA 1, cA 44, cI (w32 (l3 + 1)), cU, cU, cU]) rfl ?_
    exact h
  · have h := h.2 hc
    refine wp_aload_n (nx := 42) dX1_tally_41 rfl rfl ?_
    refine wp_iload (nx := 44) dX1_tally_42 rfl rfl ?_
    refine wp_invV (nx := 47) (N := M_X3_player) (as := [cI l4]) (st := []) (mc := 0) (ms := 0) (mc' := mc) (ms' := ms) (a := 44) clsX3 dX1_tally_44 rfl mok_X3_player kM_X1_32 ki_X3_player ke_X3_player (fo_44 F) (ft_44 F) rfl rfl (leB rfl) (leB rfl) (z0 _) (z0 _) (Wp.mono h ?_)
    intro r1 Sq C2 h
    obtain ⟨e9, h⟩ := h
    rw [e9]
    show Wp (d + 1) mc ms M_X1_tally 47 [cA 52, cA 1, cA 44, cI l3, cI l4, cU, cU] [cI r1] S C2 Q
    refine wp_istore (nx := 49) dX1_tally_47 rfl (by decide) ?_
    refine wp_ls (ls2 := [cA 52, cA 1, cA 44, cI l3, cI l4, cI r1, cU]) rfl ?_
    refine wp_aload_n (nx := 50) dX1_tally_49 rfl rfl ?_
    refine wp_getAe (kk := 3) (nx := 53) clsX7 dX1_tally_50 rfl kF_X1_36 (by decide) (fo_1 F) (ft_1 F) rfl (fp_1_3 F) ?_
    refine wp_iload (nx := 55) dX1_tally_53 rfl rfl ?_
    obtain ⟨hi, h⟩ := h
    refine wp_ialoadE (nx := 56) dX1_tally_55 rfl (fo_4 F) (fl_4 F) hi (ft_4 F) rfl ?_
    refine wp_istore (nx := 58) dX1_tally_56 rfl (by decide) ?_
    refine wp_ls (ls2 := [cA 52, cA 1, cA 44, cI l3, cI l4, cI r1, cI (C2 4 l4)]) rfl ?_
    refine wp_aload_n (nx := 59) dX1_tally_58 rfl rfl ?_
    refine wp_iload (nx := 61) dX1_tally_59 rfl rfl ?_
    refine wp_invV (nx := 64) (N := M_X7_hasHouse) (as := [cI r1]) (st := []) (mc := 0) (ms := 0) (mc' := mc) (ms' := ms) (a := 1) clsX7 dX1_tally_61 rfl mok_X7_hasHouse kM_X1_41 ki_X7_hasHouse ke_X7_hasHouse (fo_1 F) (ft_1 F) rfl rfl (leB rfl) (leB rfl) (z0 _) (z0 _) (Wp.mono h ?_)
    intro r3 Sq C4 h
    obtain ⟨e9, h⟩ := h
    rw [e9]
    show Wp (d + 1) mc ms M_X1_tally 64 [cA 52, cA 1, cA 44, cI l3, cI l4, cI r1, cI (C2 4 l4)] [cI r3] S C4 Q
    refine wp_if_eq (nx := 67) (tg := 100) dX1_tally_64 rfl rfl (fun hc => ?_) (fun hc => ?_)
    · have h := h.1 hc
      refine wp_iinc (nx := 103) dX1_tally_100 rfl rfl (by decide) ?_
      refine wp_ls (ls2 := [cA 52, cA 1, cA 44, cI l3, cI (w32 (l4 + 1)), cI r1, cI (C2 4 l4)]) rfl ?_
      refine wp_goto (nx := 34) dX1_tally_103 rfl ?_
      refine wp_fg [true, true, true, true, true, false, false] (ls2 := [cA 52, cA 1, cA 44, cI l3, cI (w32 (l4 + 1)), cU, cU]) rfl ?_
      exact h
    · have h := h.2 hc
      refine wp_aload_n (nx := 68) dX1_tally_67 rfl rfl ?_
      refine wp_iload (nx := 70) dX1_tally_68 rfl rfl ?_
      refine wp_invV (nx := 73) (N := M_X7_hasHouse) (as := [cI (C2 4 l4)]) (st := []) (mc := 0) (ms := 0) (mc' := mc) (ms' := ms) (a := 1) clsX7 dX1_tally_70 rfl mok_X7_hasHouse kM_X1_41 ki_X7_hasHouse ke_X7_hasHouse (fo_1 F) (ft_1 F) rfl rfl (leB rfl) (leB rfl) (z0 _) (z0 _) (Wp.mono h ?_)
      intro r5 Sq C6 h
      obtain ⟨e9, h⟩ := h
      rw [e9]
      show Wp (d + 1) mc ms M_X1_tally 73 [cA 52, cA 1, cA 44, cI l3, cI l4, cI r1, cI (C2 4 l4)] [cI r5] S C6 Q
      refine wp_if_eq (nx := 76) (tg := 100) dX1_tally_73 rfl rfl (fun hc => ?_) (fun hc => ?_)
      · have h := h.1 hc
        refine wp_iinc (nx := 103) dX1_tally_100 rfl rfl (by decide) ?_
        refine wp_ls (ls2 := [cA 52, cA 1, cA 44, cI l3, cI (w32 (l4 + 1)), cI r1, cI (C2 4 l4)]) rfl ?_
        refine wp_goto (nx := 34) dX1_tally_103 rfl ?_
        refine wp_fg [true, true, true, true, true, false, false] (ls2 := [cA 52, cA 1, cA 44, cI l3, cI (w32 (l4 + 1)), cU, cU]) rfl ?_
        exact h
      · have h := h.2 hc
        refine wp_iload (nx := 78) dX1_tally_76 rfl rfl ?_
        refine wp_iload (nx := 80) dX1_tally_78 rfl rfl ?_
        refine wp_icmp_eq (nx := 83) (tg := 100) dX1_tally_80 rfl rfl (fun hc => ?_) (fun hc => ?_)
        · have h := h.1 hc
          refine wp_iinc (nx := 103) dX1_tally_100 rfl rfl (by decide) ?_
          refine wp_ls (ls2 := [cA 52, cA 1, cA 44, cI l3, cI (w32 (l4 + 1)), cI r1, cI (C2 4 l4)]) rfl ?_
          refine wp_goto (nx := 34) dX1_tally_103 rfl ?_
          refine wp_fg [true, true, true, true, true, false, false] (ls2 := [cA 52, cA 1, cA 44, cI l3, cI (w32 (l4 + 1)), cU, cU]) rfl ?_
          exact h
        · have h := h.2 hc
          refine wp_aload_n (nx := 84) dX1_tally_83 rfl rfl ?_
          refine wp_getAe (kk := 0) (nx := 87) clsX1 dX1_tally_84 rfl kF_X1_9 (by decide) (fo_52 F) (ft_52 F) rfl (fp_52_0 F) ?_
          refine wp_iload (nx := 89) dX1_tally_87 rfl rfl ?_
          refine wp_bipush (nx := 91) dX1_tally_89 rfl ⟨by decide, i32 (by decide)⟩ ?_
          refine wp_imul (nx := 92) dX1_tally_91 rfl ?_
          refine wp_iload (nx := 94) dX1_tally_92 rfl rfl ?_
          refine wp_iadd (nx := 95) dX1_tally_94 rfl ?_
          refine wp_dup2 (nx := 96) dX1_tally_95 rfl (k1I _) (k1A _) ?_
          obtain ⟨hi, h⟩ := h
          refine wp_ialoadE (nx := 97) dX1_tally_96 rfl (fo_53 F) (fl_53 F) hi (ft_53 F) rfl ?_
          refine wp_iconst (nx := 98) dX1_tally_97 rfl (i32 (by decide)) ?_
          refine wp_iadd (nx := 99) dX1_tally_98 rfl ?_
          obtain ⟨hi, h⟩ := h
          refine wp_iastoreE (nx := 100) dX1_tally_99 rfl (fo_53 F) (fl_53 F) hi (ft_53 F) ?_
          refine wp_iinc (nx := 103) dX1_tally_100 rfl rfl (by decide) ?_
          refine wp_ls (ls2 := [cA 52, cA 1, cA 44, cI l3, cI (w32 (l4 + 1)), cI r1, cI (C2 4 l4)]) rfl ?_
          refine wp_goto (nx := 34) dX1_tally_103 rfl ?_
          refine wp_fg [true, true, true, true, true, false, false] (ls2 := [cA 52, cA 1, cA 44, cI l3, cI (w32 (l4 + 1)), cU, cU]) rfl ?_
          exact h
theorem b_X1_payments_0 {d mc ms : Nat} {l1 : Int} {S : MS} {C : MC} {Q : Int → MS → MC → Prop} (F : Fix S) (h : K_X1_payments_9 (d + 1) mc ms l1 1 S (upC C 54 0 0) Q) : K_X1_payments_0 (d + 1) mc ms l1 S C Q := by
  show Wp (d + 1) mc ms M_X1_payments 0 [cA 52, cI l1, cU, cU, cU, cU] [] S C Q
  refine wp_aload_n (nx := 1) dX1_payments_0 rfl rfl ?_
  refine wp_getAe (kk := 1) (nx := 4) clsX1 dX1_payments_1 rfl kF_X1_15 (by decide) (fo_52 F) (ft_52 F) rfl (fp_52_1 F) ?_
  refine wp_iconst (nx := 5) dX1_payments_4 rfl (i32 (by decide)) ?_
  refine wp_iconst (nx := 6) dX1_payments_5 rfl (i32 (by decide)) ?_
  refine wp_iastoreE (nx := 7) dX1_payments_6 rfl (fo_54 F) (fl_54 F) (by decide) (ft_54 F) ?_
  refine wp_iconst (nx := 8) dX1_payments_7 rfl (i32 (by decide)) ?_
  refine wp_istore_n (nx := 9) dX1_payments_8 rfl (by decide) ?_
  refine wp_ls (ls2 := [cA 52, cI l1, cI 1, cU, cU, cU]) rfl ?_
  exact h
theorem b_X1_payments_9 {d mc ms : Nat} {l1 l2 : Int} {S : MS} {C : MC} {Q : Int → MS → MC → Prop} (F : Fix S) (h : ((iShl 1 l1 ≤ l2 → ((0 : Int) ≤ w32 ((iShl 1 l1) - 1) ∧ w32 ((iShl 1 l1) - 1) < 64) ∧ Q (w32 (l1 - (C 54 (w32 ((iShl 1 l1) - 1))))) S C) ∧ (¬ iShl 1 l1 ≤ l2 → K_X1_payments_24 (d + 1) mc ms l1 l2 0 0 0 S C Q))) : K_X1_payments_9 (d + 1) mc ms l1 l2 S C Q := by
  show Wp (d + 1) mc ms M_X1_payments 9 [cA 52, cI l1, cI l2, cU, cU, cU] [] S C Q
  refine wp_iload_n (nx := 10) dX1_payments_9 rfl rfl ?_
  refine wp_iconst (nx := 11) dX1_payments_10 rfl (i32 (by decide)) ?_
  refine wp_iload_n (nx := 12) dX1_payments_11 rfl rfl ?_
  refine wp_ishl (nx := 13) dX1_payments_12 rfl ?_
  refine wp_icmp_ge (nx := 16) (tg := 100) dX1_payments_13 rfl rfl (fun hc => ?_) (fun hc => ?_)
  · have h := h.1 hc
    refine wp_iload_n (nx := 101) dX1_payments_100 rfl rfl ?_
    refine wp_aload_n (nx := 102) dX1_payments_101 rfl rfl ?_
    refine wp_getAe (kk := 1) (nx := 105) clsX1 dX1_payments_102 rfl kF_X1_15 (by decide) (fo_52 F) (ft_52 F) rfl (fp_52_1 F) ?_
    refine wp_iconst (nx := 106) dX1_payments_105 rfl (i32 (by decide)) ?_
    refine wp_iload_n (nx := 107) dX1_payments_106 rfl rfl ?_
    refine wp_ishl (nx := 108) dX1_payments_107 rfl ?_
    refine wp_iconst (nx := 109) dX1_payments_108 rfl (i32 (by decide)) ?_
    refine wp_isub (nx := 110) dX1_payments_109 rfl ?_
    obtain ⟨hi, h⟩ := h
    refine wp_ialoadE (nx := 111) dX1_payments_110 rfl (fo_54 F) (fl_54 F) hi (ft_54 F) rfl ?_
    refine wp_isub (nx := 112) dX1_payments_111 rfl ?_
    exact wp_ireturn dX1_payments_112 rfl rfl rfl h
  · have h := h.2 hc
    refine wp_iconst (nx := 17) dX1_payments_16 rfl (i32 (by decide)) ?_
    refine wp_istore_n (nx := 18) dX1_payments_17 rfl (by decide) ?_
    refine wp_ls (ls2 := [cA 52, cI l1, cI l2, cI 0, cU, cU]) rfl ?_
    refine wp_iconst (nx := 19) dX1_payments_18 rfl (i32 (by decide)) ?_
    refine wp_istore (nx := 21) dX1_payments_19 rfl (by decide) ?_
    refine wp_ls (ls2 := [cA 52, cI l1, cI l2, cI 0, cI 0, cU]) rfl ?_
    refine wp_iconst (nx := 22) dX1_payments_21 rfl (i32 (by decide)) ?_
    refine wp_istore (nx := 24) dX1_payments_22 rfl (by decide) ?_
    refine wp_ls (ls2 := [cA 52, cI l1, cI l2, cI 0, cI 0, cI 0]) rfl ?_
    exact h
theorem b_X1_payments_24 {d mc ms : Nat} {l1 l2 l3 l4 l5 : Int} {S : MS} {C : MC} {Q : Int → MS → MC → Prop} (F : Fix S) (h : ((l1 ≤ l5 → ((¬ l4 = 0 → ((0 : Int) ≤ l2 ∧ l2 < 64) ∧ K_X1_payments_9 (d + 1) mc ms l1 (w32 (l2 + 1)) S (upC C 54 l2 l3) Q) ∧ (l4 = 0 → ((0 : Int) ≤ l2 ∧ l2 < 64) ∧ K_X1_payments_9 (d + 1) mc ms l1 (w32 (l2 + 1)) S (upC C 54 l2 (w32 (l3 + 1))) Q))) ∧ (¬ l1 ≤ l5 → ((¬ iAnd (iShr l2 l5) 1 = 1 → K_X1_payments_24 (d + 1) mc ms l1 l2 l3 l4 (w32 (l5 + 1)) S C Q) ∧ (iAnd (iShr l2 l5) 1 = 1 → ((0 : Int) ≤ iAnd l2 (iXor (iShl 1 l5) (-1)) ∧ iAnd l2 (iXor (iShl 1 l5) (-1)) < 64) ∧ K_X1_balanceOf_0 d 0 0 l5 l1 S C (fun r1 Sq C2 => Sq = S ∧ K_X1_payments_24 (d + 1) mc ms l1 l2 (max l3 (C 54 (iAnd l2 (iXor (iShl 1 l5) (-1))))) (w32 (l4 + r1)) (w32 (l5 + 1)) S C2 Q)))))) : K_X1_payments_24 (d + 1) mc ms l1 l2 l3 l4 l5 S C Q := by
  show Wp (d + 1) mc ms M_X1_payments 24 [cA 52, cI l1, cI l2, cI l3, cI l4, cI l5] [] S C Q
  refine wp_iload (nx := 26) dX1_payments_24 rfl rfl ?_
  refine wp_iload_n (nx := 27) dX1_payments_26 rfl rfl ?_
  refine wp_icmp_ge (nx := 30) (tg := 76) dX1_payments_27 rfl rfl (fun hc => ?_) (fun hc => ?_)
  · have h := h.1 hc
    refine wp_aload_n (nx := 77) dX1_payments_76 rfl rfl ?_
    refine wp_getAe (kk := 1) (nx := 80) clsX1 dX1_payments_77 rfl kF_X1_15 (by decide) (fo_52 F) (ft_52 F) rfl (fp_52_1 F) ?_
    refine wp_iload_n (nx := 81) dX1_payments_80 rfl rfl ?_
    refine wp_iload (nx := 83) dX1_payments_81 rfl rfl ?_
    refine wp_if_ne (nx := 86) (tg := 92) dX1_payments_83 rfl rfl (fun hc => ?_) (fun hc => ?_)
    · have h := h.1 hc
      refine wp_iload_n (nx := 93) dX1_payments_92 rfl rfl ?_
      obtain ⟨hi, h⟩ := h
      refine wp_iastoreE (nx := 94) dX1_payments_93 rfl (fo_54 F) (fl_54 F) hi (ft_54 F) ?_
      refine wp_iinc (nx := 97) dX1_payments_94 rfl rfl (by decide) ?_
      refine wp_ls (ls2 := [cA 52, cI l1, cI (w32 (l2 + 1)), cI l3, cI l4, cI l5]) rfl ?_
      refine wp_goto (nx := 9) dX1_payments_97 rfl ?_
      refine wp_fg [true, true, true, false, false, false] (ls2 := [cA 52, cI l1, cI (w32 (l2 + 1)), cU, cU, cU]) rfl ?_
      exact h
    · have h := h.2 hc
      refine wp_iload_n (nx := 87) dX1_payments_86 rfl rfl ?_
      refine wp_iconst (nx := 88) dX1_payments_87 rfl (i32 (by decide)) ?_
      refine wp_iadd (nx := 89) dX1_payments_88 rfl ?_
      refine wp_goto (nx := 93) dX1_payments_89 rfl ?_
      obtain ⟨hi, h⟩ := h
      refine wp_iastoreE (nx := 94) dX1_payments_93 rfl (fo_54 F) (fl_54 F) hi (ft_54 F) ?_
      refine wp_iinc (nx := 97) dX1_payments_94 rfl rfl (by decide) ?_
      refine wp_ls (ls2 := [cA 52, cI l1, cI (w32 (l2 + 1)), cI l3, cI l4, cI l5]) rfl ?_
      refine wp_goto (nx := 9) dX1_payments_97 rfl ?_
      refine wp_fg [true, true, true, false, false, false] (ls2 := [cA 52, cI l1, cI (w32 (l2 + 1)), cU, cU, cU]) rfl ?_
      exact h
  · have h := h.2 hc
    refine wp_iload_n (nx := 31) dX1_payments_30 rfl rfl ?_
    refine wp_iload (nx := 33) dX1_payments_31 rfl rfl ?_
    refine wp_ishr (nx := 34) dX1_payments_33 rfl ?_
    refine wp_iconst (nx := 35) dX1_payments_34 rfl (i32 (by decide)) ?_
    refine wp_iand (nx := 36) dX1_payments_35 rfl ?_
    refine wp_iconst (nx := 37) dX1_payments_36 rfl (i32 (by decide)) ?_
    refine wp_icmp_ne (nx := 40) (tg := 70) dX1_payments_37 rfl rfl (fun hc => ?_) (fun hc => ?_)
    · have h := h.1 hc
      refine wp_iinc (nx := 73) dX1_payments_70 rfl rfl (by decide) ?_
      refine wp_ls (ls2 := [cA 52, cI l1, cI l2, cI l3, cI l4, cI (w32 (l5 + 1))]) rfl ?_
      refine wp_goto (nx := 24) dX1_payments_73 rfl ?_
      exact h
    · have h := h.2 hc
      refine wp_iload_n (nx := 41) dX1_payments_40 rfl rfl ?_
      refine wp_aload_n (nx := 42) dX1_payments_41 rfl rfl ?_
      refine wp_getAe (kk := 1) (nx := 45) clsX1 dX1_payments_42 rfl kF_X1_15 (by decide) (fo_52 F) (ft_52 F) rfl (fp_52_1 F) ?_
      refine wp_iload_n (nx := 46) dX1_payments_45 rfl rfl ?_
      refine wp_iconst (nx := 47) dX1_payments_46 rfl (i32 (by decide)) ?_
      refine wp_iload (nx := 49) dX1_payments_47 rfl rfl ?_
      refine wp_ishl (nx := 50) dX1_payments_49 rfl ?_
      refine wp_iconst (nx := 51) dX1_payments_50 rfl (i32 (by decide)) ?_
      refine wp_ixor (nx := 52) dX1_payments_51 rfl ?_
      refine wp_iand (nx := 53) dX1_payments_52 rfl ?_
      obtain ⟨hi, h⟩ := h
      refine wp_ialoadE (nx := 54) dX1_payments_53 rfl (fo_54 F) (fl_54 F) hi (ft_54 F) rfl ?_
      refine wp_mmaxI (nx := 57) dX1_payments_54 rfl kM_X1_45 (leB rfl) ?_
      refine wp_istore_n (nx := 58) dX1_payments_57 rfl (by decide) ?_
      refine wp_ls (ls2 := [cA 52, cI l1, cI l2, cI (max l3 (C 54 (iAnd l2 (iXor (iShl 1 l5) (-1))))), cI l4, cI l5]) rfl ?_
      refine wp_iload (nx := 60) dX1_payments_58 rfl rfl ?_
      refine wp_aload_n (nx := 61) dX1_payments_60 rfl rfl ?_
      refine wp_iload (nx := 63) dX1_payments_61 rfl rfl ?_
      refine wp_iload_n (nx := 64) dX1_payments_63 rfl rfl ?_
      refine wp_invV (nx := 67) (N := M_X1_balanceOf) (as := [cI l5, cI l1]) (st := [cI l4]) (mc := 0) (ms := 0) (mc' := mc) (ms' := ms) (a := 52) clsX1 dX1_payments_64 rfl mok_X1_balanceOf kM_X1_51 ki_X1_balanceOf ke_X1_balanceOf (fo_52 F) (ft_52 F) rfl rfl (leB rfl) (leB rfl) (z0 _) (z0 _) (Wp.mono h ?_)
      intro r1 Sq C2 h
      obtain ⟨e9, h⟩ := h
      rw [e9]
      show Wp (d + 1) mc ms M_X1_payments 67 [cA 52, cI l1, cI l2, cI (max l3 (C 54 (iAnd l2 (iXor (iShl 1 l5) (-1))))), cI l4, cI l5] [cI r1, cI l4] S C2 Q
      refine wp_iadd (nx := 68) dX1_payments_67 rfl ?_
      refine wp_istore (nx := 70) dX1_payments_68 rfl (by decide) ?_
      refine wp_ls (ls2 := [cA 52, cI l1, cI l2, cI (max l3 (C 54 (iAnd l2 (iXor (iShl 1 l5) (-1))))), cI (w32 (l4 + r1)), cI l5]) rfl ?_
      refine wp_iinc (nx := 73) dX1_payments_70 rfl rfl (by decide) ?_
      refine wp_ls (ls2 := [cA 52, cI l1, cI l2, cI (max l3 (C 54 (iAnd l2 (iXor (iShl 1 l5) (-1))))), cI (w32 (l4 + r1)), cI (w32 (l5 + 1))]) rfl ?_
      refine wp_goto (nx := 24) dX1_payments_73 rfl ?_
      exact h
theorem b_X1_balanceOf_0 {d mc ms : Nat} {l1 l2 : Int} {S : MS} {C : MC} {Q : Int → MS → MC → Prop} (F : Fix S) (h : K_X1_balanceOf_5 d mc ms l1 l2 0 0 S C Q) : K_X1_balanceOf_0 d mc ms l1 l2 S C Q := by
  show Wp d mc ms M_X1_balanceOf 0 [cA 52, cI l1, cI l2, cU, cU] [] S C Q
  refine wp_iconst (nx := 1) dX1_balanceOf_0 rfl (i32 (by decide)) ?_
  refine wp_istore_n (nx := 2) dX1_balanceOf_1 rfl (by decide) ?_
  refine wp_ls (ls2 := [cA 52, cI l1, cI l2, cI 0, cU]) rfl ?_
  refine wp_iconst (nx := 3) dX1_balanceOf_2 rfl (i32 (by decide)) ?_
  refine wp_istore (nx := 5) dX1_balanceOf_3 rfl (by decide) ?_
  refine wp_ls (ls2 := [cA 52, cI l1, cI l2, cI 0, cI 0]) rfl ?_
  exact h
theorem b_X1_balanceOf_5 {d mc ms : Nat} {l1 l2 l3 l4 : Int} {S : MS} {C : MC} {Q : Int → MS → MC → Prop} (F : Fix S) (h : ((l2 ≤ l4 → Q l3 S C) ∧ (¬ l2 ≤ l4 → ((0 : Int) ≤ w32 ((w32 (l4 * 6)) + l1) ∧ w32 ((w32 (l4 * 6)) + l1) < 36) ∧ ((0 : Int) ≤ w32 ((w32 (l1 * 6)) + l4) ∧ w32 ((w32 (l1 * 6)) + l4) < 36) ∧ K_X1_balanceOf_5 d mc ms l1 l2 (w32 (l3 + (w32 ((C 53 (w32 ((w32 (l4 * 6)) + l1))) - (C 53 (w32 ((w32 (l1 * 6)) + l4))))))) (w32 (l4 + 1)) S C Q))) : K_X1_balanceOf_5 d mc ms l1 l2 l3 l4 S C Q := by
  show Wp d mc ms M_X1_balanceOf 5 [cA 52, cI l1, cI l2, cI l3, cI l4] [] S C Q
  refine wp_iload (nx := 7) dX1_balanceOf_5 rfl rfl ?_
  refine wp_iload_n (nx := 8) dX1_balanceOf_7 rfl rfl ?_
  refine wp_icmp_ge (nx := 11) (tg := 45) dX1_balanceOf_8 rfl rfl (fun hc => ?_) (fun hc => ?_)
  · have h := h.1 hc
    refine wp_iload_n (nx := 46) dX1_balanceOf_45 rfl rfl ?_
    exact wp_ireturn dX1_balanceOf_46 rfl rfl rfl h
  · have h := h.2 hc
    refine wp_iload_n (nx := 12) dX1_balanceOf_11 rfl rfl ?_
    refine wp_aload_n (nx := 13) dX1_balanceOf_12 rfl rfl ?_
    refine wp_getAe (kk := 0) (nx := 16) clsX1 dX1_balanceOf_13 rfl kF_X1_9 (by decide) (fo_52 F) (ft_52 F) rfl (fp_52_0 F) ?_
    refine wp_iload (nx := 18) dX1_balanceOf_16 rfl rfl ?_
    refine wp_bipush (nx := 20) dX1_balanceOf_18 rfl ⟨by decide, i32 (by decide)⟩ ?_
    refine wp_imul (nx := 21) dX1_balanceOf_20 rfl ?_
    refine wp_iload_n (nx := 22) dX1_balanceOf_21 rfl rfl ?_
    refine wp_iadd (nx := 23) dX1_balanceOf_22 rfl ?_
    obtain ⟨hi, h⟩ := h
    refine wp_ialoadE (nx := 24) dX1_balanceOf_23 rfl (fo_53 F) (fl_53 F) hi (ft_53 F) rfl ?_
    refine wp_aload_n (nx := 25) dX1_balanceOf_24 rfl rfl ?_
    refine wp_getAe (kk := 0) (nx := 28) clsX1 dX1_balanceOf_25 rfl kF_X1_9 (by decide) (fo_52 F) (ft_52 F) rfl (fp_52_0 F) ?_
    refine wp_iload_n (nx := 29) dX1_balanceOf_28 rfl rfl ?_
    refine wp_bipush (nx := 31) dX1_balanceOf_29 rfl ⟨by decide, i32 (by decide)⟩ ?_
    refine wp_imul (nx := 32) dX1_balanceOf_31 rfl ?_
    refine wp_iload (nx := 34) dX1_balanceOf_32 rfl rfl ?_
    refine wp_iadd (nx := 35) dX1_balanceOf_34 rfl ?_
    obtain ⟨hi, h⟩ := h
    refine wp_ialoadE (nx := 36) dX1_balanceOf_35 rfl (fo_53 F) (fl_53 F) hi (ft_53 F) rfl ?_
    refine wp_isub (nx := 37) dX1_balanceOf_36 rfl ?_
    refine wp_iadd (nx := 38) dX1_balanceOf_37 rfl ?_
    refine wp_istore_n (nx := 39) dX1_balanceOf_38 rfl (by decide) ?_
    refine wp_ls (ls2 := [cA 52, cI l1, cI l2, cI (w32 (l3 + (w32 ((C 53 (w32 ((w32 (l4 * 6)) + l1))) - (C 53 (w32 ((w32 (l1 * 6)) + l4))))))), cI l4]) rfl ?_
    refine wp_iinc (nx := 42) dX1_balanceOf_39 rfl rfl (by decide) ?_
    refine wp_ls (ls2 := [cA 52, cI l1, cI l2, cI (w32 (l3 + (w32 ((C 53 (w32 ((w32 (l4 * 6)) + l1))) - (C 53 (w32 ((w32 (l1 * 6)) + l4))))))), cI (w32 (l4 + 1))]) rfl ?_
    refine wp_goto (nx := 5) dX1_balanceOf_42 rfl ?_
    exact h
