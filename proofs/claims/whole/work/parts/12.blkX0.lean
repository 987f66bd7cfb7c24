/-! blocks -/
theorem b_X0_clear_0 {d mc ms : Nat} {S : MS} {C : MC} {Q : Int → MS → MC → Prop} (F : Fix S) (h : Q 0 S (upC C 55 3 0)) : K_X0_clear_0 d mc ms S C Q := by
  show Wp d mc ms M_X0_clear 0 [cA 55] [] S C Q
  refine wp_aload_n (nx := 1) dX0_clear_0 rfl rfl ?_
  refine wp_iconst (nx := 2) dX0_clear_1 rfl (i32 (by decide)) ?_
  refine wp_putIe (kk := 3) 3 (nx := 5) clsX0 dX0_clear_2 rfl kF_X0_21 (by decide) (fo_55 F) (ft_55 F) rfl rfl ⟨rfl, rfl⟩ rfl ?_
  exact wp_return dX0_clear_5 rfl h
theorem b_X0_make_0 {d mc ms : Nat} {l2 l3 l4 : Int} {S : MS} {C : MC} {Q : Int → MS → MC → Prop} (F : Fix S) (h : ((l2 < 0 ∨ 2 < l2 → K_X0_passDay_0 d 0 0 S C (fun r1 Sq C2 => Sq = S ∧ Q r1 S C2)) ∧ (l2 = 0 → K_X0_changeNote_0 d 0 0 l3 l4 S C (fun r3 Sq C4 => Sq = S ∧ Q r3 S C4)) ∧ (l2 = 1 → K_X0_giveKey_0 d 0 0 l3 l4 S C (fun r5 Sq C6 => Sq = S ∧ Q r5 S C6)) ∧ (l2 = 2 → K_X0_shiftMusic_0 d 0 0 l3 S C (fun r7 Sq C8 => Sq = S ∧ Q r7 S C8)))) : K_X0_make_0 (d + 1) mc ms l2 l3 l4 S C Q := by
  show Wp (d + 1) mc ms M_X0_make 0 [cA 55, cA 1, cI l2, cI l3, cI l4] [] S C Q
  refine wp_iload_n (nx := 1) dX0_make_0 rfl rfl ?_
  rcases (show (l2 < 0 ∨ 2 < l2) ∨ l2 = 0 ∨ l2 = 1 ∨ l2 = 2 by omega) with hc | hc | hc | hc
  · have h := h.1 hc
    refine wp_tableOut (tg := 53) dX0_make_1 hc rfl ?_
    refine wp_aload_n (nx := 54) dX0_make_53 rfl rfl ?_
    refine wp_aload_n (nx := 55) dX0_make_54 rfl rfl ?_
    refine wp_invV (nx := 58) (N := M_X0_passDay) (as := [cA 1]) (st := []) (mc := 0) (ms := 0) (mc' := mc) (ms' := ms) (a := 55) clsX0 dX0_make_55 rfl mok_X0_passDay kM_X0_36 ki_X0_passDay ke_X0_passDay (fo_55 F) (ft_55 F) rfl rfl (leB rfl) (leB rfl) (z0 _) (z0 _) (Wp.mono h ?_)
    intro r1 Sq C2 h
    obtain ⟨e9, h⟩ := h
    rw [e9]
    show Wp (d + 1) mc ms M_X0_make 58 [cA 55, cA 1, cI l2, cI l3, cI l4] [cI r1] S C2 Q
    exact wp_ireturn dX0_make_58 rfl rfl rfl h
  · have h := h.2.1 hc
    refine wp_tableIn (tg := 28) (off := 27) dX0_make_1 (by omega) (by omega) (by rw [show (l2 - 0).toNat = 0 by omega]; rfl) rfl ?_
    refine wp_aload_n (nx := 29) dX0_make_28 rfl rfl ?_
    refine wp_aload_n (nx := 30) dX0_make_29 rfl rfl ?_
    refine wp_iload_n (nx := 31) dX0_make_30 rfl rfl ?_
    refine wp_iload (nx := 33) dX0_make_31 rfl rfl ?_
    refine wp_invV (nx := 36) (N := M_X0_changeNote) (as := [cA 1, cI l3, cI l4]) (st := []) (mc := 0) (ms := 0) (mc' := mc) (ms' := ms) (a := 55) clsX0 dX0_make_33 rfl mok_X0_changeNote kM_X0_25 ki_X0_changeNote ke_X0_changeNote (fo_55 F) (ft_55 F) rfl rfl (leB rfl) (leB rfl) (z0 _) (z0 _) (Wp.mono h ?_)
    intro r3 Sq C4 h
    obtain ⟨e9, h⟩ := h
    rw [e9]
    show Wp (d + 1) mc ms M_X0_make 36 [cA 55, cA 1, cI l2, cI l3, cI l4] [cI r3] S C4 Q
    exact wp_ireturn dX0_make_36 rfl rfl rfl h
  · have h := h.2.2.1 hc
    refine wp_tableIn (tg := 37) (off := 36) dX0_make_1 (by omega) (by omega) (by rw [show (l2 - 0).toNat = 1 by omega]; rfl) rfl ?_
    refine wp_aload_n (nx := 38) dX0_make_37 rfl rfl ?_
    refine wp_aload_n (nx := 39) dX0_make_38 rfl rfl ?_
    refine wp_iload_n (nx := 40) dX0_make_39 rfl rfl ?_
    refine wp_iload (nx := 42) dX0_make_40 rfl rfl ?_
    refine wp_invV (nx := 45) (N := M_X0_giveKey) (as := [cA 1, cI l3, cI l4]) (st := []) (mc := 0) (ms := 0) (mc' := mc) (ms' := ms) (a := 55) clsX0 dX0_make_42 rfl mok_X0_giveKey kM_X0_29 ki_X0_giveKey ke_X0_giveKey (fo_55 F) (ft_55 F) rfl rfl (leB rfl) (leB rfl) (z0 _) (z0 _) (Wp.mono h ?_)
    intro r5 Sq C6 h
    obtain ⟨e9, h⟩ := h
    rw [e9]
    show Wp (d + 1) mc ms M_X0_make 45 [cA 55, cA 1, cI l2, cI l3, cI l4] [cI r5] S C6 Q
    exact wp_ireturn dX0_make_45 rfl rfl rfl h
  · have h := h.2.2.2 hc
    refine wp_tableIn (tg := 46) (off := 45) dX0_make_1 (by omega) (by omega) (by rw [show (l2 - 0).toNat = 2 by omega]; rfl) rfl ?_
    refine wp_aload_n (nx := 47) dX0_make_46 rfl rfl ?_
    refine wp_aload_n (nx := 48) dX0_make_47 rfl rfl ?_
    refine wp_iload_n (nx := 49) dX0_make_48 rfl rfl ?_
    refine wp_invV (nx := 52) (N := M_X0_shiftMusic) (as := [cA 1, cI l3]) (st := []) (mc := 0) (ms := 0) (mc' := mc) (ms' := ms) (a := 55) clsX0 dX0_make_49 rfl mok_X0_shiftMusic kM_X0_32 ki_X0_shiftMusic ke_X0_shiftMusic (fo_55 F) (ft_55 F) rfl rfl (leB rfl) (leB rfl) (z0 _) (z0 _) (Wp.mono h ?_)
    intro r7 Sq C8 h
    obtain ⟨e9, h⟩ := h
    rw [e9]
    show Wp (d + 1) mc ms M_X0_make 52 [cA 55, cA 1, cI l2, cI l3, cI l4] [cI r7] S C8 Q
    exact wp_ireturn dX0_make_52 rfl rfl rfl h
theorem b_X0_changeNote_0 {d mc ms : Nat} {l2 l3 : Int} {S : MS} {C : MC} {Q : Int → MS → MC → Prop} (F : Fix S) (h : K_X10_isKey_0 d 0 0 l2 S C (fun r1 Sq C2 => Sq = S ∧ ((r1 = 0 → Q (-1) S C2) ∧ (¬ r1 = 0 → K_X10_isBeat_0 d 0 0 l3 S C2 (fun r3 Sq C4 => Sq = S ∧ ((¬ r3 = 0 → ((0 : Int) ≤ l3 ∧ l3 < 16) ∧ ((0 : Int) ≤ l3 ∧ l3 < 16) ∧ K_X0_keep_0 d 0 0 0 l2 l3 S ((upC C4 5 l3 (iXor (C4 5 l3) (iShl 1 l2)))) (fun r5 Sq C6 => Sq = S ∧ ((0 : Int) ≤ l3 ∧ l3 < 16) ∧ Q (C6 5 l3) S C6)) ∧ (r3 = 0 → Q (-1) S C4))))))) : K_X0_changeNote_0 (d + 1) mc ms l2 l3 S C Q := by
  show Wp (d + 1) mc ms M_X0_changeNote 0 [cA 55, cA 1, cI l2, cI l3] [] S C Q
  refine wp_iload_n (nx := 1) dX0_changeNote_0 rfl rfl ?_
  refine wp_invN (nx := 4) (N := M_X10_isKey) (as := [cI l2]) (st := []) (mc := 0) (ms := 0) (mc' := mc) (ms' := ms) dX0_changeNote_1 rfl mok_X10_isKey kN_X0_40 ks_X10_isKey rfl rfl (leB rfl) (leB rfl) (z0 _) (z0 _) (Wp.mono h ?_)
  intro r1 Sq C2 h
  obtain ⟨e9, h⟩ := h
  rw [e9]
  show Wp (d + 1) mc ms M_X0_changeNote 4 [cA 55, cA 1, cI l2, cI l3] [cI r1] S C2 Q
  refine wp_if_eq (nx := 7) (tg := 14) dX0_changeNote_4 rfl rfl (fun hc => ?_) (fun hc => ?_)
  · have h := h.1 hc
    refine wp_iconst (nx := 15) dX0_changeNote_14 rfl (i32 (by decide)) ?_
    exact wp_ireturn dX0_changeNote_15 rfl rfl rfl h
  · have h := h.2 hc
    refine wp_iload_n (nx := 8) dX0_changeNote_7 rfl rfl ?_
    refine wp_invN (nx := 11) (N := M_X10_isBeat) (as := [cI l3]) (st := []) (mc := 0) (ms := 0) (mc' := mc) (ms' := ms) dX0_changeNote_8 rfl mok_X10_isBeat kN_X0_44 ks_X10_isBeat rfl rfl (leB rfl) (leB rfl) (z0 _) (z0 _) (Wp.mono h ?_)
    intro r3 Sq C4 h
    obtain ⟨e9, h⟩ := h
    rw [e9]
    show Wp (d + 1) mc ms M_X0_changeNote 11 [cA 55, cA 1, cI l2, cI l3] [cI r3] S C4 Q
    refine wp_if_ne (nx := 14) (tg := 16) dX0_changeNote_11 rfl rfl (fun hc => ?_) (fun hc => ?_)
    · have h := h.1 hc
      refine wp_aload_n (nx := 17) dX0_changeNote_16 rfl rfl ?_
      refine wp_getAe (kk := 4) (nx := 20) clsX7 dX0_changeNote_17 rfl kF_X0_47 (by decide) (fo_1 F) (ft_1 F) rfl (fp_1_4 F) ?_
      refine wp_iload_n (nx := 21) dX0_changeNote_20 rfl rfl ?_
      refine wp_dup2 (nx := 22) dX0_changeNote_21 rfl (k1I _) (k1A _) ?_
      obtain ⟨hi, h⟩ := h
      refine wp_ialoadE (nx := 23) dX0_changeNote_22 rfl (fo_5 F) (fl_5 F) hi (ft_5 F) rfl ?_
      refine wp_iconst (nx := 24) dX0_changeNote_23 rfl (i32 (by decide)) ?_
      refine wp_iload_n (nx := 25) dX0_changeNote_24 rfl rfl ?_
      refine wp_ishl (nx := 26) dX0_changeNote_25 rfl ?_
      refine wp_ixor (nx := 27) dX0_changeNote_26 rfl ?_
      obtain ⟨hi, h⟩ := h
      refine wp_iastoreE (nx := 28) dX0_changeNote_27 rfl (fo_5 F) (fl_5 F) hi (ft_5 F) ?_
      refine wp_aload_n (nx := 29) dX0_changeNote_28 rfl rfl ?_
      refine wp_iconst (nx := 30) dX0_changeNote_29 rfl (i32 (by decide)) ?_
      refine wp_iload_n (nx := 31) dX0_changeNote_30 rfl rfl ?_
      refine wp_iload_n (nx := 32) dX0_changeNote_31 rfl rfl ?_
      refine wp_invV (nx := 35) (N := M_X0_keep) (as := [cI 0, cI l2, cI l3]) (st := []) (mc := 0) (ms := 0) (mc' := mc) (ms' := ms) (a := 55) clsX0 dX0_changeNote_32 rfl mok_X0_keep kM_X0_52 ki_X0_keep ke_X0_keep (fo_55 F) (ft_55 F) rfl rfl (leB rfl) (leB rfl) (z0 _) (z0 _) (Wp.mono h ?_)
      intro r5 Sq C6 h
      obtain ⟨e9, h⟩ := h
      rw [e9]
      show Wp (d + 1) mc ms M_X0_changeNote 35 [cA 55, cA 1, cI l2, cI l3] [] S C6 Q
      refine wp_aload_n (nx := 36) dX0_changeNote_35 rfl rfl ?_
      refine wp_getAe (kk := 4) (nx := 39) clsX7 dX0_changeNote_36 rfl kF_X0_47 (by decide) (fo_1 F) (ft_1 F) rfl (fp_1_4 F) ?_
      refine wp_iload_n (nx := 40) dX0_changeNote_39 rfl rfl ?_
      obtain ⟨hi, h⟩ := h
      refine wp_ialoadE (nx := 41) dX0_changeNote_40 rfl (fo_5 F) (fl_5 F) hi (ft_5 F) rfl ?_
      exact wp_ireturn dX0_changeNote_41 rfl rfl rfl h
    · have h := h.2 hc
      refine wp_iconst (nx := 15) dX0_changeNote_14 rfl (i32 (by decide)) ?_
      exact wp_ireturn dX0_changeNote_15 rfl rfl rfl h
theorem b_X0_giveKey_0 {d mc ms : Nat} {l2 l3 : Int} {S : MS} {C : MC} {Q : Int → MS → MC → Prop} (F : Fix S) (h : K_X10_isKey_0 d 0 0 l2 S C (fun r1 Sq C2 => Sq = S ∧ ((¬ r1 = 0 → ((l3 = (-1) → K_X0_giveKey_25 (d + 1) mc ms l2 l3 S C2 Q) ∧ (¬ l3 = (-1) → K_X7_hasHouse_0 d 0 0 1 l3 S C2 (fun r3 Sq C4 => Sq = S ∧ ((¬ r3 = 0 → K_X0_giveKey_25 (d + 1) mc ms l2 l3 S C4 Q) ∧ (r3 = 0 → Q (-2) S C4)))))) ∧ (r1 = 0 → Q (-1) S C2)))) : K_X0_giveKey_0 (d + 1) mc ms l2 l3 S C Q := by
  show Wp (d + 1) mc ms M_X0_giveKey 0 [cA 55, cA 1, cI l2, cI l3, cU] [] S C Q
  refine wp_iload_n (nx := 1) dX0_giveKey_0 rfl rfl ?_
  refine wp_invN (nx := 4) (N := M_X10_isKey) (as := [cI l2]) (st := []) (mc := 0) (ms := 0) (mc' := mc) (ms' := ms) dX0_giveKey_1 rfl mok_X10_isKey kN_X0_40 ks_X10_isKey rfl rfl (leB rfl) (leB rfl) (z0 _) (z0 _) (Wp.mono h ?_)
  intro r1 Sq C2 h
  obtain ⟨e9, h⟩ := h
  rw [e9]
  show Wp (d + 1) mc ms M_X0_giveKey 4 [cA 55, cA 1, cI l2, cI l3, cU] [cI r1] S C2 Q
  refine wp_if_ne (nx := 7) (tg := 9) dX0_giveKey_4 rfl rfl (fun hc => ?_) (fun hc => ?_)
  · have h := h.1 hc
    refine wp_iload_n (nx := 10) dX0_giveKey_9 rfl rfl ?_
    refine wp_iconst (nx := 11) dX0_giveKey_10 rfl (i32 (by decide)) ?_
    refine wp_icmp_eq (nx := 14) (tg := 25) dX0_giveKey_11 rfl rfl (fun hc => ?_) (fun hc => ?_)
    · have h := h.1 hc
      exact h
    · have h := h.2 hc
      refine wp_aload_n (nx := 15) dX0_giveKey_14 rfl rfl ?_
      refine wp_iload_n (nx := 16) dX0_giveKey_15 rfl rfl ?_
      refine wp_invV (nx := 19) (N := M_X7_hasHouse) (as := [cI l3]) (st := []) (mc := 0) (ms := 0) (mc' := mc) (ms' := ms) (a := 1) clsX7 dX0_giveKey_16 rfl mok_X7_hasHouse kM_X0_56 ki_X7_hasHouse ke_X7_hasHouse (fo_1 F) (ft_1 F) rfl rfl (leB rfl) (leB rfl) (z0 _) (z0 _) (Wp.mono h ?_)
      intro r3 Sq C4 h
      obtain ⟨e9, h⟩ := h
      rw [e9]
      show Wp (d + 1) mc ms M_X0_giveKey 19 [cA 55, cA 1, cI l2, cI l3, cU] [cI r3] S C4 Q
      refine wp_if_ne (nx := 22) (tg := 25) dX0_giveKey_19 rfl rfl (fun hc => ?_) (fun hc => ?_)
      · have h := h.1 hc
        exact h
      · have h := h.2 hc
        refine wp_bipush (nx := 24) dX0_giveKey_22 rfl ⟨by decide, i32 (by decide)⟩ ?_
        exact wp_ireturn dX0_giveKey_24 rfl rfl rfl h
  · have h := h.2 hc
    refine wp_iconst (nx := 8) dX0_giveKey_7 rfl (i32 (by decide)) ?_
    exact wp_ireturn dX0_giveKey_8 rfl rfl rfl h
theorem b_X0_giveKey_25 {d mc ms : Nat} {l2 l3 : Int} {S : MS} {C : MC} {Q : Int → MS → MC → Prop} (F : Fix S) (h : ((0 : Int) ≤ l2 ∧ l2 < 8) ∧ ((¬ C 4 l2 = l3 → ((0 : Int) ≤ l2 ∧ l2 < 8) ∧ K_X0_keep_0 d 0 0 1 l2 (C 4 l2) S ((upC C 4 l2 l3)) (fun r1 Sq C2 => Sq = S ∧ ((¬ C 4 l2 = (-1) → Q (C 4 l2) S C2) ∧ (C 4 l2 = (-1) → Q 6 S C2)))) ∧ (C 4 l2 = l3 → Q (-3) S C))) : K_X0_giveKey_25 (d + 1) mc ms l2 l3 S C Q := by
  show Wp (d + 1) mc ms M_X0_giveKey 25 [cA 55, cA 1, cI l2, cI l3, cU] [] S C Q
  refine wp_aload_n (nx := 26) dX0_giveKey_25 rfl rfl ?_
  refine wp_getAe (kk := 3) (nx := 29) clsX7 dX0_giveKey_26 rfl kF_X0_59 (by decide) (fo_1 F) (ft_1 F) rfl (fp_1_3 F) ?_
  refine wp_iload_n (nx := 30) dX0_giveKey_29 rfl rfl ?_
  obtain ⟨hi, h⟩ := h
  refine wp_ialoadE (nx := 31) dX0_giveKey_30 rfl (fo_4 F) (fl_4 F) hi (ft_4 F) rfl ?_
  refine wp_istore (nx := 33) dX0_giveKey_31 rfl (by decide) ?_
  refine wp_ls (ls2 := [cA 55, cA 1, cI l2, cI l3, cI (C 4 l2)]) rfl ?_
  refine wp_iload (nx := 35) dX0_giveKey_33 rfl rfl ?_
  refine wp_iload_n (nx := 36) dX0_giveKey_35 rfl rfl ?_
  refine wp_icmp_ne (nx := 39) (tg := 42) dX0_giveKey_36 rfl rfl (fun hc => ?_) (fun hc => ?_)
  · have h := h.1 hc
    refine wp_aload_n (nx := 43) dX0_giveKey_42 rfl rfl ?_
    refine wp_getAe (kk := 3) (nx := 46) clsX7 dX0_giveKey_43 rfl kF_X0_59 (by decide) (fo_1 F) (ft_1 F) rfl (fp_1_3 F) ?_
    refine wp_iload_n (nx := 47) dX0_giveKey_46 rfl rfl ?_
    refine wp_iload_n (nx := 48) dX0_giveKey_47 rfl rfl ?_
    obtain ⟨hi, h⟩ := h
    refine wp_iastoreE (nx := 49) dX0_giveKey_48 rfl (fo_4 F) (fl_4 F) hi (ft_4 F) ?_
    refine wp_aload_n (nx := 50) dX0_giveKey_49 rfl rfl ?_
    refine wp_iconst (nx := 51) dX0_giveKey_50 rfl (i32 (by decide)) ?_
    refine wp_iload_n (nx := 52) dX0_giveKey_51 rfl rfl ?_
    refine wp_iload (nx := 54) dX0_giveKey_52 rfl rfl ?_
    refine wp_invV (nx := 57) (N := M_X0_keep) (as := [cI 1, cI l2, cI (C 4 l2)]) (st := []) (mc := 0) (ms := 0) (mc' := mc) (ms' := ms) (a := 55) clsX0 dX0_giveKey_54 rfl mok_X0_keep kM_X0_52 ki_X0_keep ke_X0_keep (fo_55 F) (ft_55 F) rfl rfl (leB rfl) (leB rfl) (z0 _) (z0 _) (Wp.mono h ?_)
    intro r1 Sq C2 h
    obtain ⟨e9, h⟩ := h
    rw [e9]
    show Wp (d + 1) mc ms M_X0_giveKey 57 [cA 55, cA 1, cI l2, cI l3, cI (C 4 l2)] [] S C2 Q
    refine wp_iload (nx := 59) dX0_giveKey_57 rfl rfl ?_
    refine wp_iconst (nx := 60) dX0_giveKey_59 rfl (i32 (by decide)) ?_
    refine wp_icmp_ne (nx := 63) (tg := 68) dX0_giveKey_60 rfl rfl (fun hc => ?_) (fun hc => ?_)
    · have h := h.1 hc
      refine wp_iload (nx := 70) dX0_giveKey_68 rfl rfl ?_
      exact wp_ireturn dX0_giveKey_70 rfl rfl rfl h
    · have h := h.2 hc
      refine wp_bipush (nx := 65) dX0_giveKey_63 rfl ⟨by decide, i32 (by decide)⟩ ?_
      refine wp_goto (nx := 70) dX0_giveKey_65 rfl ?_
      exact wp_ireturn dX0_giveKey_70 rfl rfl rfl h
  · have h := h.2 hc
    refine wp_bipush (nx := 41) dX0_giveKey_39 rfl ⟨by decide, i32 (by decide)⟩ ?_
    exact wp_ireturn dX0_giveKey_41 rfl rfl rfl h
theorem b_X0_shiftMusic_0 {d mc ms : Nat} {l2 : Int} {S : MS} {C : MC} {Q : Int → MS → MC → Prop} (F : Fix S) (h : ((l2 < (-7) → Q (-1) S C) ∧ (¬ l2 < (-7) → ((7 < l2 → Q (-1) S C) ∧ (¬ 7 < l2 → ((¬ l2 = 0 → K_X7_canShift_0 d 0 0 1 l2 S C (fun r1 Sq C2 => Sq = S ∧ ((¬ r1 = 0 → K_X7_shiftBy_0 d 0 0 1 l2 S C2 (fun r3 Sq C4 => Sq = S ∧ K_X0_keep_0 d 0 0 2 l2 0 S C4 (fun r5 Sq C6 => Sq = S ∧ K_X7_countNotes_0 d 0 0 1 S C6 (fun r7 Sq C8 => Sq = S ∧ Q r7 S C8)))) ∧ (r1 = 0 → Q (-3) S C2)))) ∧ (l2 = 0 → Q (-1) S C))))))) : K_X0_shiftMusic_0 (d + 1) mc ms l2 S C Q := by
  show Wp (d + 1) mc ms M_X0_shiftMusic 0 [cA 55, cA 1, cI l2] [] S C Q
  refine wp_iload_n (nx := 1) dX0_shiftMusic_0 rfl rfl ?_
  refine wp_bipush (nx := 3) dX0_shiftMusic_1 rfl ⟨by decide, i32 (by decide)⟩ ?_
  refine wp_icmp_lt (nx := 6) (tg := 16) dX0_shiftMusic_3 rfl rfl (fun hc => ?_) (fun hc => ?_)
  · have h := h.1 hc
    refine wp_iconst (nx := 17) dX0_shiftMusic_16 rfl (i32 (by decide)) ?_
    exact wp_ireturn dX0_shiftMusic_17 rfl rfl rfl h
  · have h := h.2 hc
    refine wp_iload_n (nx := 7) dX0_shiftMusic_6 rfl rfl ?_
    refine wp_bipush (nx := 9) dX0_shiftMusic_7 rfl ⟨by decide, i32 (by decide)⟩ ?_
    refine wp_icmp_gt (nx := 12) (tg := 16) dX0_shiftMusic_9 rfl rfl (fun hc => ?_) (fun hc => ?_)
    · have h := h.1 hc
      refine wp_iconst (nx := 17) dX0_shiftMusic_16 rfl (i32 (by decide)) ?_
      exact wp_ireturn dX0_shiftMusic_17 rfl rfl rfl h
    · have h := h.2 hc
      refine wp_iload_n (nx := 13) dX0_shiftMusic_12 rfl rfl ?_
      refine wp_if_ne (nx := 16) (tg := 18) dX0_shiftMusic_13 rfl rfl (fun hc => ?_) (fun hc => ?_)
      · have h := h.1 hc
        refine wp_aload_n (nx := 19) dX0_shiftMusic_18 rfl rfl ?_
        refine wp_iload_n (nx := 20) dX0_shiftMusic_19 rfl rfl ?_
        refine wp_invV (nx := 23) (N := M_X7_canShift) (as := [cI l2]) (st := []) (mc := 0) (ms := 0) (mc' := mc) (ms' := ms) (a := 1) clsX7 dX0_shiftMusic_20 rfl mok_X7_canShift kM_X0_62 ki_X7_canShift ke_X7_canShift (fo_1 F) (ft_1 F) rfl rfl (leB rfl) (leB rfl) (z0 _) (z0 _) (Wp.mono h ?_)
        intro r1 Sq C2 h
        obtain ⟨e9, h⟩ := h
        rw [e9]
        show Wp (d + 1) mc ms M_X0_shiftMusic 23 [cA 55, cA 1, cI l2] [cI r1] S C2 Q
        refine wp_if_ne (nx := 26) (tg := 29) dX0_shiftMusic_23 rfl rfl (fun hc => ?_) (fun hc => ?_)
        · have h := h.1 hc
          refine wp_aload_n (nx := 30) dX0_shiftMusic_29 rfl rfl ?_
          refine wp_iload_n (nx := 31) dX0_shiftMusic_30 rfl rfl ?_
          refine wp_invV (nx := 34) (N := M_X7_shiftBy) (as := [cI l2]) (st := []) (mc := 0) (ms := 0) (mc' := mc) (ms' := ms) (a := 1) clsX7 dX0_shiftMusic_31 rfl mok_X7_shiftBy kM_X0_65 ki_X7_shiftBy ke_X7_shiftBy (fo_1 F) (ft_1 F) rfl rfl (leB rfl) (leB rfl) (z0 _) (z0 _) (Wp.mono h ?_)
          intro r3 Sq C4 h
          obtain ⟨e9, h⟩ := h
          rw [e9]
          show Wp (d + 1) mc ms M_X0_shiftMusic 34 [cA 55, cA 1, cI l2] [] S C4 Q
          refine wp_aload_n (nx := 35) dX0_shiftMusic_34 rfl rfl ?_
          refine wp_iconst (nx := 36) dX0_shiftMusic_35 rfl (i32 (by decide)) ?_
          refine wp_iload_n (nx := 37) dX0_shiftMusic_36 rfl rfl ?_
          refine wp_iconst (nx := 38) dX0_shiftMusic_37 rfl (i32 (by decide)) ?_
          refine wp_invV (nx := 41) (N := M_X0_keep) (as := [cI 2, cI l2, cI 0]) (st := []) (mc := 0) (ms := 0) (mc' := mc) (ms' := ms) (a := 55) clsX0 dX0_shiftMusic_38 rfl mok_X0_keep kM_X0_52 ki_X0_keep ke_X0_keep (fo_55 F) (ft_55 F) rfl rfl (leB rfl) (leB rfl) (z0 _) (z0 _) (Wp.mono h ?_)
          intro r5 Sq C6 h
          obtain ⟨e9, h⟩ := h
          rw [e9]
          show Wp (d + 1) mc ms M_X0_shiftMusic 41 [cA 55, cA 1, cI l2] [] S C6 Q
          refine wp_aload_n (nx := 42) dX0_shiftMusic_41 rfl rfl ?_
          refine wp_invV (nx := 45) (N := M_X7_countNotes) (as := []) (st := []) (mc := 0) (ms := 0) (mc' := mc) (ms' := ms) (a := 1) clsX7 dX0_shiftMusic_42 rfl mok_X7_countNotes kM_X0_69 ki_X7_countNotes ke_X7_countNotes (fo_1 F) (ft_1 F) rfl rfl (leB rfl) (leB rfl) (z0 _) (z0 _) (Wp.mono h ?_)
          intro r7 Sq C8 h
          obtain ⟨e9, h⟩ := h
          rw [e9]
          show Wp (d + 1) mc ms M_X0_shiftMusic 45 [cA 55, cA 1, cI l2] [cI r7] S C8 Q
          exact wp_ireturn dX0_shiftMusic_45 rfl rfl rfl h
        · have h := h.2 hc
          refine wp_bipush (nx := 28) dX0_shiftMusic_26 rfl ⟨by decide, i32 (by decide)⟩ ?_
          exact wp_ireturn dX0_shiftMusic_28 rfl rfl rfl h
      · have h := h.2 hc
        refine wp_iconst (nx := 17) dX0_shiftMusic_16 rfl (i32 (by decide)) ?_
        exact wp_ireturn dX0_shiftMusic_17 rfl rfl rfl h
theorem b_X0_passDay_0 {d mc ms : Nat} {S : MS} {C : MC} {Q : Int → MS → MC → Prop} (F : Fix S) (h : ((C 8 0 < 999 → K_X0_keep_0 d 0 0 3 0 0 S ((upC C 8 0 (w32 ((C 8 0) + 1)))) (fun r1 Sq C2 => Sq = S ∧ Q (C2 8 0) S C2)) ∧ (¬ C 8 0 < 999 → Q (-3) S C))) : K_X0_passDay_0 (d + 1) mc ms S C Q := by
  show Wp (d + 1) mc ms M_X0_passDay 0 [cA 55, cA 1] [] S C Q
  refine wp_aload_n (nx := 1) dX0_passDay_0 rfl rfl ?_
  refine wp_getAe (kk := 10) (nx := 4) clsX7 dX0_passDay_1 rfl kF_X0_73 (by decide) (fo_1 F) (ft_1 F) rfl (fp_1_10 F) ?_
  refine wp_iconst (nx := 5) dX0_passDay_4 rfl (i32 (by decide)) ?_
  refine wp_ialoadE (nx := 6) dX0_passDay_5 rfl (fo_8 F) (fl_8 F) (by decide) (ft_8 F) rfl ?_
  refine wp_sipush (nx := 9) dX0_passDay_6 rfl ⟨by decide, i32 (by decide)⟩ ?_
  refine wp_icmp_lt (nx := 12) (tg := 15) dX0_passDay_9 rfl rfl (fun hc => ?_) (fun hc => ?_)
  · have h := h.1 hc
    refine wp_aload_n (nx := 16) dX0_passDay_15 rfl rfl ?_
    refine wp_getAe (kk := 10) (nx := 19) clsX7 dX0_passDay_16 rfl kF_X0_73 (by decide) (fo_1 F) (ft_1 F) rfl (fp_1_10 F) ?_
    refine wp_iconst (nx := 20) dX0_passDay_19 rfl (i32 (by decide)) ?_
    refine wp_dup2 (nx := 21) dX0_passDay_20 rfl (k1I _) (k1A _) ?_
    refine wp_ialoadE (nx := 22) dX0_passDay_21 rfl (fo_8 F) (fl_8 F) (by decide) (ft_8 F) rfl ?_
    refine wp_iconst (nx := 23) dX0_passDay_22 rfl (i32 (by decide)) ?_
    refine wp_iadd (nx := 24) dX0_passDay_23 rfl ?_
    refine wp_iastoreE (nx := 25) dX0_passDay_24 rfl (fo_8 F) (fl_8 F) (by decide) (ft_8 F) ?_
    refine wp_aload_n (nx := 26) dX0_passDay_25 rfl rfl ?_
    refine wp_iconst (nx := 27) dX0_passDay_26 rfl (i32 (by decide)) ?_
    refine wp_iconst (nx := 28) dX0_passDay_27 rfl (i32 (by decide)) ?_
    refine wp_iconst (nx := 29) dX0_passDay_28 rfl (i32 (by decide)) ?_
    refine wp_invV (nx := 32) (N := M_X0_keep) (as := [cI 3, cI 0, cI 0]) (st := []) (mc := 0) (ms := 0) (mc' := mc) (ms' := ms) (a := 55) clsX0 dX0_passDay_29 rfl mok_X0_keep kM_X0_52 ki_X0_keep ke_X0_keep (fo_55 F) (ft_55 F) rfl rfl (leB rfl) (leB rfl) (z0 _) (z0 _) (Wp.mono h ?_)
    intro r1 Sq C2 h
    obtain ⟨e9, h⟩ := h
    rw [e9]
    show Wp (d + 1) mc ms M_X0_passDay 32 [cA 55, cA 1] [] S C2 Q
    refine wp_aload_n (nx := 33) dX0_passDay_32 rfl rfl ?_
    refine wp_getAe (kk := 10) (nx := 36) clsX7 dX0_passDay_33 rfl kF_X0_73 (by decide) (fo_1 F) (ft_1 F) rfl (fp_1_10 F) ?_
    refine wp_iconst (nx := 37) dX0_passDay_36 rfl (i32 (by decide)) ?_
    refine wp_ialoadE (nx := 38) dX0_passDay_37 rfl (fo_8 F) (fl_8 F) (by decide) (ft_8 F) rfl ?_
    exact wp_ireturn dX0_passDay_38 rfl rfl rfl h
  · have h := h.2 hc
    refine wp_bipush (nx := 14) dX0_passDay_12 rfl ⟨by decide, i32 (by decide)⟩ ?_
    exact wp_ireturn dX0_passDay_14 rfl rfl rfl h
theorem b_X0_keep_0 {d mc ms : Nat} {l1 l2 l3 : Int} {S : MS} {C : MC} {Q : Int → MS → MC → Prop} (F : Fix S) (h : ((C 55 3 < 256 → ((0 : Int) ≤ C 55 3 ∧ C 55 3 < 256) ∧ ((0 : Int) ≤ C 55 3 ∧ C 55 3 < 256) ∧ ((0 : Int) ≤ C 55 3 ∧ C 55 3 < 256) ∧ Q 0 S (upC (upC (upC (upC C 56 (C 55 3) l1) 57 (C 55 3) l2) 58 (C 55 3) l3) 55 3 (w32 ((C 55 3) + 1)))) ∧ (¬ C 55 3 < 256 → K_X0_keepLatest_0 d 0 0 S C (fun r1 Sq C2 => Sq = S ∧ ((0 : Int) ≤ C2 55 3 ∧ C2 55 3 < 256) ∧ ((0 : Int) ≤ C2 55 3 ∧ C2 55 3 < 256) ∧ ((0 : Int) ≤ C2 55 3 ∧ C2 55 3 < 256) ∧ Q 0 S (upC (upC (upC (upC C2 56 (C2 55 3) l1) 57 (C2 55 3) l2) 58 (C2 55 3) l3) 55 3 (w32 ((C2 55 3) + 1))))))) : K_X0_keep_0 (d + 1) mc ms l1 l2 l3 S C Q := by
  show Wp (d + 1) mc ms M_X0_keep 0 [cA 55, cI l1, cI l2, cI l3] [] S C Q
  refine wp_aload_n (nx := 1) dX0_keep_0 rfl rfl ?_
  refine wp_getIe (kk := 3) 3 (nx := 4) clsX0 dX0_keep_1 rfl kF_X0_21 (by decide) (fo_55 F) (ft_55 F) rfl rfl rfl ?_
  refine wp_sipush (nx := 7) dX0_keep_4 rfl ⟨by decide, i32 (by decide)⟩ ?_
  refine wp_icmp_lt (nx := 10) (tg := 14) dX0_keep_7 rfl rfl (fun hc => ?_) (fun hc => ?_)
  · have h := h.1 hc
    refine wp_aload_n (nx := 15) dX0_keep_14 rfl rfl ?_
    refine wp_getAe (kk := 0) (nx := 18) clsX0 dX0_keep_15 rfl kF_X0_9 (by decide) (fo_55 F) (ft_55 F) rfl (fp_55_0 F) ?_
    refine wp_aload_n (nx := 19) dX0_keep_18 rfl rfl ?_
    refine wp_getIe (kk := 3) 3 (nx := 22) clsX0 dX0_keep_19 rfl kF_X0_21 (by decide) (fo_55 F) (ft_55 F) rfl rfl rfl ?_
    refine wp_iload_n (nx := 23) dX0_keep_22 rfl rfl ?_
    obtain ⟨hi, h⟩ := h
    refine wp_iastoreE (nx := 24) dX0_keep_23 rfl (fo_56 F) (fl_56 F) hi (ft_56 F) ?_
    refine wp_aload_n (nx := 25) dX0_keep_24 rfl rfl ?_
    refine wp_getAe (kk := 1) (nx := 28) clsX0 dX0_keep_25 rfl kF_X0_15 (by decide) (fo_55 F) (ft_55 F) rfl (fp_55_1 F) ?_
    refine wp_aload_n (nx := 29) dX0_keep_28 rfl rfl ?_
    refine wp_getIe (kk := 3) 3 (nx := 32) clsX0 dX0_keep_29 rfl kF_X0_21 (by decide) (fo_55 F) (ft_55 F) rfl rfl (upC_sA (by decide)) ?_
    refine wp_iload_n (nx := 33) dX0_keep_32 rfl rfl ?_
    obtain ⟨hi, h⟩ := h
    refine wp_iastoreE (nx := 34) dX0_keep_33 rfl (fo_57 F) (fl_57 F) hi (ft_57 F) ?_
    refine wp_aload_n (nx := 35) dX0_keep_34 rfl rfl ?_
    refine wp_getAe (kk := 2) (nx := 38) clsX0 dX0_keep_35 rfl kF_X0_18 (by decide) (fo_55 F) (ft_55 F) rfl (fp_55_2 F) ?_
    refine wp_aload_n (nx := 39) dX0_keep_38 rfl rfl ?_
    refine wp_getIe (kk := 3) 3 (nx := 42) clsX0 dX0_keep_39 rfl kF_X0_21 (by decide) (fo_55 F) (ft_55 F) rfl rfl ((upC_sA (by decide)).trans (upC_sA (by decide))) ?_
    refine wp_iload_n (nx := 43) dX0_keep_42 rfl rfl ?_
    obtain ⟨hi, h⟩ := h
    refine wp_iastoreE (nx := 44) dX0_keep_43 rfl (fo_58 F) (fl_58 F) hi (ft_58 F) ?_
    refine wp_aload_n (nx := 45) dX0_keep_44 rfl rfl ?_
    refine wp_dup (nx := 46) dX0_keep_45 rfl (k1A _) ?_
    refine wp_getIe (kk := 3) 3 (nx := 49) clsX0 dX0_keep_46 rfl kF_X0_21 (by decide) (fo_55 F) (ft_55 F) rfl rfl ((upC_sA (by decide)).trans ((upC_sA (by decide)).trans (upC_sA (by decide)))) ?_
    refine wp_iconst (nx := 50) dX0_keep_49 rfl (i32 (by decide)) ?_
    refine wp_iadd (nx := 51) dX0_keep_50 rfl ?_
    refine wp_putIe (kk := 3) 3 (nx := 54) clsX0 dX0_keep_51 rfl kF_X0_21 (by decide) (fo_55 F) (ft_55 F) rfl rfl ⟨rfl, rfl⟩ rfl ?_
    exact wp_return dX0_keep_54 rfl h
  · have h := h.2 hc
    refine wp_aload_n (nx := 11) dX0_keep_10 rfl rfl ?_
    refine wp_invV (nx := 14) (N := M_X0_keepLatest) (as := []) (st := []) (mc := 0) (ms := 0) (mc' := mc) (ms' := ms) (a := 55) clsX0 dX0_keep_11 rfl mok_X0_keepLatest kM_X0_76 ki_X0_keepLatest ke_X0_keepLatest (fo_55 F) (ft_55 F) rfl rfl (leB rfl) (leB rfl) (z0 _) (z0 _) (Wp.mono h ?_)
    intro r1 Sq C2 h
    obtain ⟨e9, h⟩ := h
    rw [e9]
    show Wp (d + 1) mc ms M_X0_keep 14 [cA 55, cI l1, cI l2, cI l3] [] S C2 Q
    refine wp_aload_n (nx := 15) dX0_keep_14 rfl rfl ?_
    refine wp_getAe (kk := 0) (nx := 18) clsX0 dX0_keep_15 rfl kF_X0_9 (by decide) (fo_55 F) (ft_55 F) rfl (fp_55_0 F) ?_
    refine wp_aload_n (nx := 19) dX0_keep_18 rfl rfl ?_
    refine wp_getIe (kk := 3) 3 (nx := 22) clsX0 dX0_keep_19 rfl kF_X0_21 (by decide) (fo_55 F) (ft_55 F) rfl rfl rfl ?_
    refine wp_iload_n (nx := 23) dX0_keep_22 rfl rfl ?_
    obtain ⟨hi, h⟩ := h
    refine wp_iastoreE (nx := 24) dX0_keep_23 rfl (fo_56 F) (fl_56 F) hi (ft_56 F) ?_
    refine wp_aload_n (nx := 25) dX0_keep_24 rfl rfl ?_
    refine wp_getAe (kk := 1) (nx := 28) clsX0 dX0_keep_25 rfl kF_X0_15 (by decide) (fo_55 F) (ft_55 F) rfl (fp_55_1 F) ?_
    refine wp_aload_n (nx := 29) dX0_keep_28 rfl rfl ?_
    refine wp_getIe (kk := 3) 3 (nx := 32) clsX0 dX0_keep_29 rfl kF_X0_21 (by decide) (fo_55 F) (ft_55 F) rfl rfl (upC_sA (by decide)) ?_
    refine wp_iload_n (nx := 33) dX0_keep_32 rfl rfl ?_
    obtain ⟨hi, h⟩ := h
    refine wp_iastoreE (nx := 34) dX0_keep_33 rfl (fo_57 F) (fl_57 F) hi (ft_57 F) ?_
    refine wp_aload_n (nx := 35) dX0_keep_34 rfl rfl ?_
    refine wp_getAe (kk := 2) (nx := 38) clsX0 dX0_keep_35 rfl kF_X0_18 (by decide) (fo_55 F) (ft_55 F) rfl (fp_55_2 F) ?_
    refine wp_aload_n (nx := 39) dX0_keep_38 rfl rfl ?_
    refine wp_getIe (kk := 3) 3 (nx := 42) clsX0 dX0_keep_39 rfl kF_X0_21 (by decide) (fo_55 F) (ft_55 F) rfl rfl ((upC_sA (by decide)).trans (upC_sA (by decide))) ?_
    refine wp_iload_n (nx := 43) dX0_keep_42 rfl rfl ?_
    obtain ⟨hi, h⟩ := h
    refine wp_iastoreE (nx := 44) dX0_keep_43 rfl (fo_58 F) (fl_58 F) hi (ft_58 F) ?_
    refine wp_aload_n (nx := 45) dX0_keep_44 rfl rfl ?_
    refine wp_dup (nx := 46) dX0_keep_45 rfl (k1A _) ?_
    refine wp_getIe (kk := 3) 3 (nx := 49) clsX0 dX0_keep_46 rfl kF_X0_21 (by decide) (fo_55 F) (ft_55 F) rfl rfl ((upC_sA (by decide)).trans ((upC_sA (by decide)).trans (upC_sA (by decide)))) ?_
    refine wp_iconst (nx := 50) dX0_keep_49 rfl (i32 (by decide)) ?_
    refine wp_iadd (nx := 51) dX0_keep_50 rfl ?_
    refine wp_putIe (kk := 3) 3 (nx := 54) clsX0 dX0_keep_51 rfl kF_X0_21 (by decide) (fo_55 F) (ft_55 F) rfl rfl ⟨rfl, rfl⟩ rfl ?_
    exact wp_return dX0_keep_54 rfl h
theorem b_X0_keepLatest_0 {d mc ms : Nat} {S : MS} {C : MC} {Q : Int → MS → MC → Prop} (F : Fix S) (h : ((0 < w32 ((C 55 3) - 16) → (((0 : Int) ≤ w32 ((C 55 3) - 16) ∧ (0 : Int) ≤ 0 ∧ (0 : Int) ≤ 16) ∧ (w32 ((C 55 3) - 16) : Int) + 16 ≤ 256 ∧ (0 : Int) + 16 ≤ 256) ∧ (((0 : Int) ≤ w32 ((C 55 3) - 16) ∧ (0 : Int) ≤ 0 ∧ (0 : Int) ≤ 16) ∧ (w32 ((C 55 3) - 16) : Int) + 16 ≤ 256 ∧ (0 : Int) + 16 ≤ 256) ∧ (((0 : Int) ≤ w32 ((C 55 3) - 16) ∧ (0 : Int) ≤ 0 ∧ (0 : Int) ≤ 16) ∧ (w32 ((C 55 3) - 16) : Int) + 16 ≤ 256 ∧ (0 : Int) + 16 ≤ 256) ∧ Q 0 S (upC (cpC (cpC (cpC C 56 (w32 ((C 55 3) - 16)) 56 0 16) 57 (w32 ((C 55 3) - 16)) 57 0 16) 58 (w32 ((C 55 3) - 16)) 58 0 16) 55 3 16)) ∧ (¬ 0 < w32 ((C 55 3) - 16) → Q 0 S C))) : K_X0_keepLatest_0 (d + 1) mc ms S C Q := by
  show Wp (d + 1) mc ms M_X0_keepLatest 0 [cA 55, cU] [] S C Q
  refine wp_aload_n (nx := 1) dX0_keepLatest_0 rfl rfl ?_
  refine wp_getIe (kk := 3) 3 (nx := 4) clsX0 dX0_keepLatest_1 rfl kF_X0_21 (by decide) (fo_55 F) (ft_55 F) rfl rfl rfl ?_
  refine wp_bipush (nx := 6) dX0_keepLatest_4 rfl ⟨by decide, i32 (by decide)⟩ ?_
  refine wp_isub (nx := 7) dX0_keepLatest_6 rfl ?_
  refine wp_istore_n (nx := 8) dX0_keepLatest_7 rfl (by decide) ?_
  refine wp_ls (ls2 := [cA 55, cI (w32 ((C 55 3) - 16))]) rfl ?_
  refine wp_iload_n (nx := 9) dX0_keepLatest_8 rfl rfl ?_
  refine wp_if_gt (nx := 12) (tg := 13) dX0_keepLatest_9 rfl rfl (fun hc => ?_) (fun hc => ?_)
  · have h := h.1 hc
    refine wp_aload_n (nx := 14) dX0_keepLatest_13 rfl rfl ?_
    refine wp_getAe (kk := 0) (nx := 17) clsX0 dX0_keepLatest_14 rfl kF_X0_9 (by decide) (fo_55 F) (ft_55 F) rfl (fp_55_0 F) ?_
    refine wp_iload_n (nx := 18) dX0_keepLatest_17 rfl rfl ?_
    refine wp_aload_n (nx := 19) dX0_keepLatest_18 rfl rfl ?_
    refine wp_getAe (kk := 0) (nx := 22) clsX0 dX0_keepLatest_19 rfl kF_X0_9 (by decide) (fo_55 F) (ft_55 F) rfl (fp_55_0 F) ?_
    refine wp_iconst (nx := 23) dX0_keepLatest_22 rfl (i32 (by decide)) ?_
    refine wp_bipush (nx := 25) dX0_keepLatest_23 rfl ⟨by decide, i32 (by decide)⟩ ?_
    obtain ⟨hcp, h⟩ := h
    refine wp_copyE (nx := 28) dX0_keepLatest_25 rfl kM_X0_79 (fo_56 F) (fo_56 F) (ft_56 F) (ft_56 F) (fl_56 F) (fl_56 F) hcp ?_
    refine wp_aload_n (nx := 29) dX0_keepLatest_28 rfl rfl ?_
    refine wp_getAe (kk := 1) (nx := 32) clsX0 dX0_keepLatest_29 rfl kF_X0_15 (by decide) (fo_55 F) (ft_55 F) rfl (fp_55_1 F) ?_
    refine wp_iload_n (nx := 33) dX0_keepLatest_32 rfl rfl ?_
    refine wp_aload_n (nx := 34) dX0_keepLatest_33 rfl rfl ?_
    refine wp_getAe (kk := 1) (nx := 37) clsX0 dX0_keepLatest_34 rfl kF_X0_15 (by decide) (fo_55 F) (ft_55 F) rfl (fp_55_1 F) ?_
    refine wp_iconst (nx := 38) dX0_keepLatest_37 rfl (i32 (by decide)) ?_
    refine wp_bipush (nx := 40) dX0_keepLatest_38 rfl ⟨by decide, i32 (by decide)⟩ ?_
    obtain ⟨hcp, h⟩ := h
    refine wp_copyE (nx := 43) dX0_keepLatest_40 rfl kM_X0_79 (fo_57 F) (fo_57 F) (ft_57 F) (ft_57 F) (fl_57 F) (fl_57 F) hcp ?_
    refine wp_aload_n (nx := 44) dX0_keepLatest_43 rfl rfl ?_
    refine wp_getAe (kk := 2) (nx := 47) clsX0 dX0_keepLatest_44 rfl kF_X0_18 (by decide) (fo_55 F) (ft_55 F) rfl (fp_55_2 F) ?_
    refine wp_iload_n (nx := 48) dX0_keepLatest_47 rfl rfl ?_
    refine wp_aload_n (nx := 49) dX0_keepLatest_48 rfl rfl ?_
    refine wp_getAe (kk := 2) (nx := 52) clsX0 dX0_keepLatest_49 rfl kF_X0_18 (by decide) (fo_55 F) (ft_55 F) rfl (fp_55_2 F) ?_
    refine wp_iconst (nx := 53) dX0_keepLatest_52 rfl (i32 (by decide)) ?_
    refine wp_bipush (nx := 55) dX0_keepLatest_53 rfl ⟨by decide, i32 (by decide)⟩ ?_
    obtain ⟨hcp, h⟩ := h
    refine wp_copyE (nx := 58) dX0_keepLatest_55 rfl kM_X0_79 (fo_58 F) (fo_58 F) (ft_58 F) (ft_58 F) (fl_58 F) (fl_58 F) hcp ?_
    refine wp_aload_n (nx := 59) dX0_keepLatest_58 rfl rfl ?_
    refine wp_bipush (nx := 61) dX0_keepLatest_59 rfl ⟨by decide, i32 (by decide)⟩ ?_
    refine wp_putIe (kk := 3) 3 (nx := 64) clsX0 dX0_keepLatest_61 rfl kF_X0_21 (by decide) (fo_55 F) (ft_55 F) rfl rfl ⟨rfl, rfl⟩ rfl ?_
    exact wp_return dX0_keepLatest_64 rfl h
  · have h := h.2 hc
    exact wp_return dX0_keepLatest_12 rfl h
theorem b_X0_takeBack_0 {d mc ms : Nat} {S : MS} {C : MC} {Q : Int → MS → MC → Prop} (F : Fix S) (h : ((¬ C 55 3 = 0 → ((0 : Int) ≤ w32 ((C 55 3) - 1) ∧ w32 ((C 55 3) - 1) < 256) ∧ ((0 : Int) ≤ w32 ((C 55 3) - 1) ∧ w32 ((C 55 3) - 1) < 256) ∧ ((0 : Int) ≤ w32 ((C 55 3) - 1) ∧ w32 ((C 55 3) - 1) < 256) ∧ ((C 56 (w32 ((C 55 3) - 1)) < 0 ∨ 2 < C 56 (w32 ((C 55 3) - 1)) → ((0 : Int) ≤ w32 ((C 55 3) - 1) ∧ w32 ((C 55 3) - 1) < 256) ∧ Q (C 56 (w32 ((C 55 3) - 1))) S (upC (upC C 55 3 (w32 ((C 55 3) - 1))) 8 0 (w32 ((C 8 0) - 1)))) ∧ (C 56 (w32 ((C 55 3) - 1)) = 0 → ((0 : Int) ≤ C 58 (w32 ((C 55 3) - 1)) ∧ C 58 (w32 ((C 55 3) - 1)) < 16) ∧ ((0 : Int) ≤ C 58 (w32 ((C 55 3) - 1)) ∧ C 58 (w32 ((C 55 3) - 1)) < 16) ∧ ((0 : Int) ≤ w32 ((C 55 3) - 1) ∧ w32 ((C 55 3) - 1) < 256) ∧ Q (C 56 (w32 ((C 55 3) - 1))) S (upC (upC C 55 3 (w32 ((C 55 3) - 1))) 5 (C 58 (w32 ((C 55 3) - 1))) (iXor (C 5 (C 58 (w32 ((C 55 3) - 1)))) (iShl 1 (C 57 (w32 ((C 55 3) - 1))))))) ∧ (C 56 (w32 ((C 55 3) - 1)) = 1 → ((0 : Int) ≤ C 57 (w32 ((C 55 3) - 1)) ∧ C 57 (w32 ((C 55 3) - 1)) < 8) ∧ ((0 : Int) ≤ w32 ((C 55 3) - 1) ∧ w32 ((C 55 3) - 1) < 256) ∧ Q (C 56 (w32 ((C 55 3) - 1))) S (upC (upC C 55 3 (w32 ((C 55 3) - 1))) 4 (C 57 (w32 ((C 55 3) - 1))) (C 58 (w32 ((C 55 3) - 1))))) ∧ (C 56 (w32 ((C 55 3) - 1)) = 2 → K_X7_shiftBy_0 d 0 0 1 (w32 (-(C 57 (w32 ((C 55 3) - 1))))) S ((upC C 55 3 (w32 ((C 55 3) - 1)))) (fun r1 Sq C2 => Sq = S ∧ ((0 : Int) ≤ C2 55 3 ∧ C2 55 3 < 256) ∧ Q (C2 56 (C2 55 3)) S C2)))) ∧ (C 55 3 = 0 → Q (-1) S C))) : K_X0_takeBack_0 (d + 1) mc ms S C Q := by
  show Wp (d + 1) mc ms M_X0_takeBack 0 [cA 55, cA 1, cU, cU] [] S C Q
  refine wp_aload_n (nx := 1) dX0_takeBack_0 rfl rfl ?_
  refine wp_getIe (kk := 3) 3 (nx := 4) clsX0 dX0_takeBack_1 rfl kF_X0_21 (by decide) (fo_55 F) (ft_55 F) rfl rfl rfl ?_
  refine wp_if_ne (nx := 7) (tg := 9) dX0_takeBack_4 rfl rfl (fun hc => ?_) (fun hc => ?_)
  · have h := h.1 hc
    refine wp_aload_n (nx := 10) dX0_takeBack_9 rfl rfl ?_
    refine wp_dup (nx := 11) dX0_takeBack_10 rfl (k1A _) ?_
    refine wp_getIe (kk := 3) 3 (nx := 14) clsX0 dX0_takeBack_11 rfl kF_X0_21 (by decide) (fo_55 F) (ft_55 F) rfl rfl rfl ?_
    refine wp_iconst (nx := 15) dX0_takeBack_14 rfl (i32 (by decide)) ?_
    refine wp_isub (nx := 16) dX0_takeBack_15 rfl ?_
    refine wp_putIe (kk := 3) 3 (nx := 19) clsX0 dX0_takeBack_16 rfl kF_X0_21 (by decide) (fo_55 F) (ft_55 F) rfl rfl ⟨rfl, rfl⟩ rfl ?_
    refine wp_aload_n (nx := 20) dX0_takeBack_19 rfl rfl ?_
    refine wp_getAe (kk := 1) (nx := 23) clsX0 dX0_takeBack_20 rfl kF_X0_15 (by decide) (fo_55 F) (ft_55 F) rfl (fp_55_1 F) ?_
    refine wp_aload_n (nx := 24) dX0_takeBack_23 rfl rfl ?_
    refine wp_getIe (kk := 3) 3 (nx := 27) clsX0 dX0_takeBack_24 rfl kF_X0_21 (by decide) (fo_55 F) (ft_55 F) rfl rfl upC_h ?_
    obtain ⟨hi, h⟩ := h
    refine wp_ialoadE (nx := 28) dX0_takeBack_27 rfl (fo_57 F) (fl_57 F) hi (ft_57 F) (upC_sA (by decide)) ?_
    refine wp_istore_n (nx := 29) dX0_takeBack_28 rfl (by decide) ?_
    refine wp_ls (ls2 := [cA 55, cA 1, cI (C 57 (w32 ((C 55 3) - 1))), cU]) rfl ?_
    refine wp_aload_n (nx := 30) dX0_takeBack_29 rfl rfl ?_
    refine wp_getAe (kk := 2) (nx := 33) clsX0 dX0_takeBack_30 rfl kF_X0_18 (by decide) (fo_55 F) (ft_55 F) rfl (fp_55_2 F) ?_
    refine wp_aload_n (nx := 34) dX0_takeBack_33 rfl rfl ?_
    refine wp_getIe (kk := 3) 3 (nx := 37) clsX0 dX0_takeBack_34 rfl kF_X0_21 (by decide) (fo_55 F) (ft_55 F) rfl rfl upC_h ?_
    obtain ⟨hi, h⟩ := h
    refine wp_ialoadE (nx := 38) dX0_takeBack_37 rfl (fo_58 F) (fl_58 F) hi (ft_58 F) (upC_sA (by decide)) ?_
    refine wp_istore_n (nx := 39) dX0_takeBack_38 rfl (by decide) ?_
    refine wp_ls (ls2 := [cA 55, cA 1, cI (C 57 (w32 ((C 55 3) - 1))), cI (C 58 (w32 ((C 55 3) - 1)))]) rfl ?_
    refine wp_aload_n (nx := 40) dX0_takeBack_39 rfl rfl ?_
    refine wp_getAe (kk := 0) (nx := 43) clsX0 dX0_takeBack_40 rfl kF_X0_9 (by decide) (fo_55 F) (ft_55 F) rfl (fp_55_0 F) ?_
    refine wp_aload_n (nx := 44) dX0_takeBack_43 rfl rfl ?_
    refine wp_getIe (kk := 3) 3 (nx := 47) clsX0 dX0_takeBack_44 rfl kF_X0_21 (by decide) (fo_55 F) (ft_55 F) rfl rfl upC_h ?_
    obtain ⟨hi, h⟩ := h
    refine wp_ialoadE (nx := 48) dX0_takeBack_47 rfl (fo_56 F) (fl_56 F) hi (ft_56 F) (upC_sA (by decide)) ?_
    rcases (show (C 56 (w32 ((C 55 3) - 1)) < 0 ∨ 2 < C 56 (w32 ((C 55 3) - 1))) ∨ C 56 (w32 ((C 55 3) - 1)) = 0 ∨ C 56 (w32 ((C 55 3) - 1)) = 1 ∨ C 56 (w32 ((C 55 3) - 1)) = 2 by omega) with hc | hc | hc | hc
    · have h := h.1 hc
      refine wp_tableOut (tg := 110) dX0_takeBack_48 hc rfl ?_
      refine wp_aload_n (nx := 111) dX0_takeBack_110 rfl rfl ?_
      refine wp_getAe (kk := 10) (nx := 114) clsX7 dX0_takeBack_111 rfl kF_X0_73 (by decide) (fo_1 F) (ft_1 F) rfl (fp_1_10 F) ?_
      refine wp_iconst (nx := 115) dX0_takeBack_114 rfl (i32 (by decide)) ?_
      refine wp_dup2 (nx := 116) dX0_takeBack_115 rfl (k1I _) (k1A _) ?_
      refine wp_ialoadE (nx := 117) dX0_takeBack_116 rfl (fo_8 F) (fl_8 F) (by decide) (ft_8 F) (upC_sA (by decide)) ?_
      refine wp_iconst (nx := 118) dX0_takeBack_117 rfl (i32 (by decide)) ?_
      refine wp_isub (nx := 119) dX0_takeBack_118 rfl ?_
      refine wp_iastoreE (nx := 120) dX0_takeBack_119 rfl (fo_8 F) (fl_8 F) (by decide) (ft_8 F) ?_
      refine wp_aload_n (nx := 121) dX0_takeBack_120 rfl rfl ?_
      refine wp_getAe (kk := 0) (nx := 124) clsX0 dX0_takeBack_121 rfl kF_X0_9 (by decide) (fo_55 F) (ft_55 F) rfl (fp_55_0 F) ?_
      refine wp_aload_n (nx := 125) dX0_takeBack_124 rfl rfl ?_
      refine wp_getIe (kk := 3) 3 (nx := 128) clsX0 dX0_takeBack_125 rfl kF_X0_21 (by decide) (fo_55 F) (ft_55 F) rfl rfl ((upC_sA (by decide)).trans upC_h) ?_
      obtain ⟨hi, h⟩ := h
      refine wp_ialoadE (nx := 129) dX0_takeBack_128 rfl (fo_56 F) (fl_56 F) hi (ft_56 F) ((upC_sA (by decide)).trans (upC_sA (by decide))) ?_
      exact wp_ireturn dX0_takeBack_129 rfl rfl rfl h
    · have h := h.2.1 hc
      refine wp_tableIn (tg := 76) (off := 28) dX0_takeBack_48 (by omega) (by omega) (by rw [show (C 56 (w32 ((C 55 3) - 1)) - 0).toNat = 0 by omega]; rfl) rfl ?_
      refine wp_aload_n (nx := 77) dX0_takeBack_76 rfl rfl ?_
      refine wp_getAe (kk := 4) (nx := 80) clsX7 dX0_takeBack_77 rfl kF_X0_47 (by decide) (fo_1 F) (ft_1 F) rfl (fp_1_4 F) ?_
      refine wp_iload_n (nx := 81) dX0_takeBack_80 rfl rfl ?_
      refine wp_dup2 (nx := 82) dX0_takeBack_81 rfl (k1I _) (k1A _) ?_
      obtain ⟨hi, h⟩ := h
      refine wp_ialoadE (nx := 83) dX0_takeBack_82 rfl (fo_5 F) (fl_5 F) hi (ft_5 F) (upC_sA (by decide)) ?_
      refine wp_iconst (nx := 84) dX0_takeBack_83 rfl (i32 (by decide)) ?_
      refine wp_iload_n (nx := 85) dX0_takeBack_84 rfl rfl ?_
      refine wp_ishl (nx := 86) dX0_takeBack_85 rfl ?_
      refine wp_ixor (nx := 87) dX0_takeBack_86 rfl ?_
      obtain ⟨hi, h⟩ := h
      refine wp_iastoreE (nx := 88) dX0_takeBack_87 rfl (fo_5 F) (fl_5 F) hi (ft_5 F) ?_
      refine wp_goto (nx := 120) dX0_takeBack_88 rfl ?_
      refine wp_aload_n (nx := 121) dX0_takeBack_120 rfl rfl ?_
      refine wp_getAe (kk := 0) (nx := 124) clsX0 dX0_takeBack_121 rfl kF_X0_9 (by decide) (fo_55 F) (ft_55 F) rfl (fp_55_0 F) ?_
      refine wp_aload_n (nx := 125) dX0_takeBack_124 rfl rfl ?_
      refine wp_getIe (kk := 3) 3 (nx := 128) clsX0 dX0_takeBack_125 rfl kF_X0_21 (by decide) (fo_55 F) (ft_55 F) rfl rfl ((upC_sA (by decide)).trans upC_h) ?_
      obtain ⟨hi, h⟩ := h
      refine wp_ialoadE (nx := 129) dX0_takeBack_128 rfl (fo_56 F) (fl_56 F) hi (ft_56 F) ((upC_sA (by decide)).trans (upC_sA (by decide))) ?_
      exact wp_ireturn dX0_takeBack_129 rfl rfl rfl h
    · have h := h.2.2.1 hc
      refine wp_tableIn (tg := 91) (off := 43) dX0_takeBack_48 (by omega) (by omega) (by rw [show (C 56 (w32 ((C 55 3) - 1)) - 0).toNat = 1 by omega]; rfl) rfl ?_
      refine wp_aload_n (nx := 92) dX0_takeBack_91 rfl rfl ?_
      refine wp_getAe (kk := 3) (nx := 95) clsX7 dX0_takeBack_92 rfl kF_X0_59 (by decide) (fo_1 F) (ft_1 F) rfl (fp_1_3 F) ?_
      refine wp_iload_n (nx := 96) dX0_takeBack_95 rfl rfl ?_
      refine wp_iload_n (nx := 97) dX0_takeBack_96 rfl rfl ?_
      obtain ⟨hi, h⟩ := h
      refine wp_iastoreE (nx := 98) dX0_takeBack_97 rfl (fo_4 F) (fl_4 F) hi (ft_4 F) ?_
      refine wp_goto (nx := 120) dX0_takeBack_98 rfl ?_
      refine wp_aload_n (nx := 121) dX0_takeBack_120 rfl rfl ?_
      refine wp_getAe (kk := 0) (nx := 124) clsX0 dX0_takeBack_121 rfl kF_X0_9 (by decide) (fo_55 F) (ft_55 F) rfl (fp_55_0 F) ?_
      refine wp_aload_n (nx := 125) dX0_takeBack_124 rfl rfl ?_
      refine wp_getIe (kk := 3) 3 (nx := 128) clsX0 dX0_takeBack_125 rfl kF_X0_21 (by decide) (fo_55 F) (ft_55 F) rfl rfl ((upC_sA (by decide)).trans upC_h) ?_
      obtain ⟨hi, h⟩ := h
      refine wp_ialoadE (nx := 129) dX0_takeBack_128 rfl (fo_56 F) (fl_56 F) hi (ft_56 F) ((upC_sA (by decide)).trans (upC_sA (by decide))) ?_
      exact wp_ireturn dX0_takeBack_129 rfl rfl rfl h
    · have h := h.2.2.2 hc
      refine wp_tableIn (tg := 101) (off := 53) dX0_takeBack_48 (by omega) (by omega) (by rw [show (C 56 (w32 ((C 55 3) - 1)) - 0).toNat = 2 by omega]; rfl) rfl ?_
      refine wp_aload_n (nx := 102) dX0_takeBack_101 rfl rfl ?_
      refine wp_iload_n (nx := 103) dX0_takeBack_102 rfl rfl ?_
      refine wp_ineg (nx := 104) dX0_takeBack_103 rfl ?_
      refine wp_invV (nx := 107) (N := M_X7_shiftBy) (as := [cI (w32 (-(C 57 (w32 ((C 55 3) - 1)))))]) (st := []) (mc := 0) (ms := 0) (mc' := mc) (ms' := ms) (a := 1) clsX7 dX0_takeBack_104 rfl mok_X7_shiftBy kM_X0_65 ki_X7_shiftBy ke_X7_shiftBy (fo_1 F) (ft_1 F) rfl rfl (leB rfl) (leB rfl) (z0 _) (z0 _) (Wp.mono h ?_)
      intro r1 Sq C2 h
      obtain ⟨e9, h⟩ := h
      rw [e9]
      show Wp (d + 1) mc ms M_X0_takeBack 107 [cA 55, cA 1, cI (C 57 (w32 ((C 55 3) - 1))), cI (C 58 (w32 ((C 55 3) - 1)))] [] S C2 Q
      refine wp_goto (nx := 120) dX0_takeBack_107 rfl ?_
      refine wp_aload_n (nx := 121) dX0_takeBack_120 rfl rfl ?_
      refine wp_getAe (kk := 0) (nx := 124) clsX0 dX0_takeBack_121 rfl kF_X0_9 (by decide) (fo_55 F) (ft_55 F) rfl (fp_55_0 F) ?_
      refine wp_aload_n (nx := 125) dX0_takeBack_124 rfl rfl ?_
      refine wp_getIe (kk := 3) 3 (nx := 128) clsX0 dX0_takeBack_125 rfl kF_X0_21 (by decide) (fo_55 F) (ft_55 F) rfl rfl rfl ?_
      obtain ⟨hi, h⟩ := h
      refine wp_ialoadE (nx := 129) dX0_takeBack_128 rfl (fo_56 F) (fl_56 F) hi (ft_56 F) rfl ?_
      exact wp_ireturn dX0_takeBack_129 rfl rfl rfl h
  · have h := h.2 hc
    refine wp_iconst (nx := 8) dX0_takeBack_7 rfl (i32 (by decide)) ?_
    exact wp_ireturn dX0_takeBack_8 rfl rfl rfl h
theorem b_X6_runAll_0 {d mc ms : Nat} {S : MS} {C : MC} {Q : Int → MS → MC → Prop} (F : Fix S) (h : K_X6_runAll_13 (d + 1) mc ms 0 S (upC (upC C 59 2 0) 59 3 (-1)) Q) : K_X6_runAll_0 (d + 1) mc ms S C Q := by
  show Wp (d + 1) mc ms M_X6_runAll 0 [cA 59, cA 30, cA 1, cA 55, cA 44, cU, cU] [] S C Q
  refine wp_aload_n (nx := 1) dX6_runAll_0 rfl rfl ?_
  refine wp_iconst (nx := 2) dX6_runAll_1 rfl (i32 (by decide)) ?_
  refine wp_putIe (kk := 2) 2 (nx := 5) clsX6 dX6_runAll_2 rfl kF_X6_26 (by decide) (fo_59 F) (ft_59 F) rfl rfl ⟨rfl, rfl⟩ rfl ?_
  refine wp_aload_n (nx := 6) dX6_runAll_5 rfl rfl ?_
  refine wp_iconst (nx := 7) dX6_runAll_6 rfl (i32 (by decide)) ?_
  refine wp_putIe (kk := 3) 3 (nx := 10) clsX6 dX6_runAll_7 rfl kF_X6_29 (by decide) (fo_59 F) (ft_59 F) rfl rfl ⟨rfl, rfl⟩ rfl ?_
  refine wp_iconst (nx := 11) dX6_runAll_10 rfl (i32 (by decide)) ?_
  refine wp_istore (nx := 13) dX6_runAll_11 rfl (by decide) ?_
  refine wp_ls (ls2 := [cA 59, cA 30, cA 1, cA 55, cA 44, cI 0, cU]) rfl ?_
  exact h
theorem b_X6_runAll_13 {d mc ms : Nat} {l5 : Int} {S : MS} {C : MC} {Q : Int → MS → MC → Prop} (F : Fix S) (h : ((C 30 0 ≤ l5 → K_X0_keepLatest_0 d 0 0 S C (fun r1 Sq C2 => Sq = S ∧ Q (C2 59 2) S C2)) ∧ (¬ C 30 0 ≤ l5 → K_X6_runAll_25 (d + 1) mc ms l5 0 S C Q))) : K_X6_runAll_13 (d + 1) mc ms l5 S C Q := by
  show Wp (d + 1) mc ms M_X6_runAll 13 [cA 59, cA 30, cA 1, cA 55, cA 44, cI l5, cU] [] S C Q
  refine wp_iload (nx := 15) dX6_runAll_13 rfl rfl ?_
  refine wp_aload_n (nx := 16) dX6_runAll_15 rfl rfl ?_
  refine wp_getIe (kk := 0) 0 (nx := 19) clsX9 dX6_runAll_16 rfl kF_X6_32 (by decide) (fo_30 F) (ft_30 F) rfl rfl rfl ?_
  refine wp_icmp_ge (nx := 22) (tg := 100) dX6_runAll_19 rfl rfl (fun hc => ?_) (fun hc => ?_)
  · have h := h.1 hc
    refine wp_aload_n (nx := 101) dX6_runAll_100 rfl rfl ?_
    refine wp_invV (nx := 104) (N := M_X0_keepLatest) (as := []) (st := []) (mc := 0) (ms := 0) (mc' := mc) (ms' := ms) (a := 55) clsX0 dX6_runAll_101 rfl mok_X0_keepLatest kM_X6_62 ki_X0_keepLatest ke_X0_keepLatest (fo_55 F) (ft_55 F) rfl rfl (leB rfl) (leB rfl) (z0 _) (z0 _) (Wp.mono h ?_)
    intro r1 Sq C2 h
    obtain ⟨e9, h⟩ := h
    rw [e9]
    show Wp (d + 1) mc ms M_X6_runAll 104 [cA 59, cA 30, cA 1, cA 55, cA 44, cI l5, cU] [] S C2 Q
    refine wp_aload_n (nx := 105) dX6_runAll_104 rfl rfl ?_
    refine wp_getIe (kk := 2) 2 (nx := 108) clsX6 dX6_runAll_105 rfl kF_X6_26 (by decide) (fo_59 F) (ft_59 F) rfl rfl rfl ?_
    exact wp_ireturn dX6_runAll_108 rfl rfl rfl h
  · have h := h.2 hc
    refine wp_iconst (nx := 23) dX6_runAll_22 rfl (i32 (by decide)) ?_
    refine wp_istore (nx := 25) dX6_runAll_23 rfl (by decide) ?_
    refine wp_ls (ls2 := [cA 59, cA 30, cA 1, cA 55, cA 44, cI l5, cI 0]) rfl ?_
    exact h
theorem b_X6_runAll_25 {d mc ms : Nat} {l5 l6 : Int} {S : MS} {C : MC} {Q : Int → MS → MC → Prop} (F : Fix S) (h : ((0 : Int) ≤ l5 ∧ l5 < 12) ∧ ((C 32 l5 ≤ l6 → K_X6_runAll_13 (d + 1) mc ms (w32 (l5 + 1)) S C Q) ∧ (¬ C 32 l5 ≤ l6 → K_X6_tellWords_0 d 0 0 S C (fun r1 Sq C2 => Sq = S ∧ ((C2 30 2 = 0 → K_X6_runOnce_0 d 0 0 l5 S C2 (fun r3 Sq C4 => Sq = S ∧ ((¬ r3 = 0 → K_X6_runAll_25 (d + 1) mc ms l5 (w32 (l6 + 1)) S C4 Q) ∧ (r3 = 0 → K_X6_takeAllBack_0 d 0 0 S ((upC C4 59 4 l5)) (fun r5 Sq C6 => Sq = S ∧ Q (-3) S C6))))) ∧ (¬ C2 30 2 = 0 → K_X3_firstLost_0 d 0 0 1 S C2 (fun r7 S9 C8 => Fix S9 ∧ K_X6_runOnce_0 d 0 0 l5 S9 ((upC C8 62 3 r7)) (fun r11 Sq C12 => Sq = S9 ∧ ((¬ r11 = 0 → K_X6_runAll_25 (d + 1) mc ms l5 (w32 (l6 + 1)) S9 C12 Q) ∧ (r11 = 0 → K_X6_takeAllBack_0 d 0 0 S9 ((upC C12 59 4 l5)) (fun r13 Sq C14 => Sq = S9 ∧ Q (-3) S9 C14))))))))))) : K_X6_runAll_25 (d + 1) mc ms l5 l6 S C Q := by
  show Wp (d + 1) mc ms M_X6_runAll 25 [cA 59, cA 30, cA 1, cA 55, cA 44, cI l5, cI l6] [] S C Q
  refine wp_iload (nx := 27) dX6_runAll_25 rfl rfl ?_
  refine wp_aload_n (nx := 28) dX6_runAll_27 rfl rfl ?_
  refine wp_getAe (kk := 4) (nx := 31) clsX9 dX6_runAll_28 rfl kF_X6_37 (by decide) (fo_30 F) (ft_30 F) rfl (fp_30_4 F) ?_
  refine wp_iload (nx := 33) dX6_runAll_31 rfl rfl ?_
  obtain ⟨hi, h⟩ := h
  refine wp_ialoadE (nx := 34) dX6_runAll_33 rfl (fo_32 F) (fl_32 F) hi (ft_32 F) rfl ?_
  refine wp_icmp_ge (nx := 37) (tg := 94) dX6_runAll_34 rfl rfl (fun hc => ?_) (fun hc => ?_)
  · have h := h.1 hc
    refine wp_iinc (nx := 97) dX6_runAll_94 rfl rfl (by decide) ?_
    refine wp_ls (ls2 := [cA 59, cA 30, cA 1, cA 55, cA 44, cI (w32 (l5 + 1)), cI l6]) rfl ?_
    refine wp_goto (nx := 13) dX6_runAll_97 rfl ?_
    refine wp_fg [true, true, true, true, true, true, false] (ls2 := [cA 59, cA 30, cA 1, cA 55, cA 44, cI (w32 (l5 + 1)), cU]) rfl ?_
    exact h
  · have h := h.2 hc
    refine wp_aload_n (nx := 38) dX6_runAll_37 rfl rfl ?_
    refine wp_aload_n (nx := 39) dX6_runAll_38 rfl rfl ?_
    refine wp_invV (nx := 42) (N := M_X6_tellWords) (as := [cA 1]) (st := []) (mc := 0) (ms := 0) (mc' := mc) (ms' := ms) (a := 59) clsX6 dX6_runAll_39 rfl mok_X6_tellWords kM_X6_40 ki_X6_tellWords ke_X6_tellWords (fo_59 F) (ft_59 F) rfl rfl (leB rfl) (leB rfl) (z0 _) (z0 _) (Wp.mono h ?_)
    intro r1 Sq C2 h
    obtain ⟨e9, h⟩ := h
    rw [e9]
    show Wp (d + 1) mc ms M_X6_runAll 42 [cA 59, cA 30, cA 1, cA 55, cA 44, cI l5, cI l6] [] S C2 Q
    refine wp_aload_n (nx := 43) dX6_runAll_42 rfl rfl ?_
    refine wp_getIe (kk := 2) 2 (nx := 46) clsX9 dX6_runAll_43 rfl kF_X6_44 (by decide) (fo_30 F) (ft_30 F) rfl rfl rfl ?_
    refine wp_if_eq (nx := 49) (tg := 61) dX6_runAll_46 rfl rfl (fun hc => ?_) (fun hc => ?_)
    · have h := h.1 hc
      refine wp_aload_n (nx := 62) dX6_runAll_61 rfl rfl ?_
      refine wp_aload_n (nx := 63) dX6_runAll_62 rfl rfl ?_
      refine wp_iload (nx := 65) dX6_runAll_63 rfl rfl ?_
      refine wp_aload_n (nx := 66) dX6_runAll_65 rfl rfl ?_
      refine wp_aload_n (nx := 67) dX6_runAll_66 rfl rfl ?_
      refine wp_invV (nx := 70) (N := M_X6_runOnce) (as := [cA 30, cI l5, cA 1, cA 55]) (st := []) (mc := 0) (ms := 0) (mc' := mc) (ms' := ms) (a := 59) clsX6 dX6_runAll_67 rfl mok_X6_runOnce kM_X6_54 ki_X6_runOnce ke_X6_runOnce (fo_59 F) (ft_59 F) rfl rfl (leB rfl) (leB rfl) (z0 _) (z0 _) (Wp.mono h ?_)
      intro r3 Sq C4 h
      obtain ⟨e9, h⟩ := h
      rw [e9]
      show Wp (d + 1) mc ms M_X6_runAll 70 [cA 59, cA 30, cA 1, cA 55, cA 44, cI l5, cI l6] [cI r3] S C4 Q
      refine wp_if_ne (nx := 73) (tg := 88) dX6_runAll_70 rfl rfl (fun hc => ?_) (fun hc => ?_)
      · have h := h.1 hc
        refine wp_iinc (nx := 91) dX6_runAll_88 rfl rfl (by decide) ?_
        refine wp_ls (ls2 := [cA 59, cA 30, cA 1, cA 55, cA 44, cI l5, cI (w32 (l6 + 1))]) rfl ?_
        refine wp_goto (nx := 25) dX6_runAll_91 rfl ?_
        exact h
      · have h := h.2 hc
        refine wp_aload_n (nx := 74) dX6_runAll_73 rfl rfl ?_
        refine wp_iload (nx := 76) dX6_runAll_74 rfl rfl ?_
        refine wp_putIe (kk := 4) 4 (nx := 79) clsX6 dX6_runAll_76 rfl kF_X6_22 (by decide) (fo_59 F) (ft_59 F) rfl rfl ⟨rfl, rfl⟩ rfl ?_
        refine wp_aload_n (nx := 80) dX6_runAll_79 rfl rfl ?_
        refine wp_aload_n (nx := 81) dX6_runAll_80 rfl rfl ?_
        refine wp_aload_n (nx := 82) dX6_runAll_81 rfl rfl ?_
        refine wp_invV (nx := 85) (N := M_X6_takeAllBack) (as := [cA 1, cA 55]) (st := []) (mc := 0) (ms := 0) (mc' := mc) (ms' := ms) (a := 59) clsX6 dX6_runAll_82 rfl mok_X6_takeAllBack kM_X6_58 ki_X6_takeAllBack ke_X6_takeAllBack (fo_59 F) (ft_59 F) rfl rfl (leB rfl) (leB rfl) (z0 _) (z0 _) (Wp.mono h ?_)
        intro r5 Sq C6 h
        obtain ⟨e9, h⟩ := h
        rw [e9]
        show Wp (d + 1) mc ms M_X6_runAll 85 [cA 59, cA 30, cA 1, cA 55, cA 44, cI l5, cI l6] [] S C6 Q
        refine wp_bipush (nx := 87) dX6_runAll_85 rfl ⟨by decide, i32 (by decide)⟩ ?_
        exact wp_ireturn dX6_runAll_87 rfl rfl rfl h
    · have h := h.2 hc
      refine wp_aload_n (nx := 50) dX6_runAll_49 rfl rfl ?_
      refine wp_getAe (kk := 1) (nx := 53) clsX6 dX6_runAll_50 rfl kF_X6_18 (by decide) (fo_59 F) (ft_59 F) rfl (fp_59_1 F) ?_
      refine wp_iconst (nx := 54) dX6_runAll_53 rfl (i32 (by decide)) ?_
      refine wp_aload (nx := 56) dX6_runAll_54 rfl rfl ?_
      refine wp_aload_n (nx := 57) dX6_runAll_56 rfl rfl ?_
      refine wp_invV (nx := 60) (N := M_X3_firstLost) (as := [cA 1]) (st := [cI 3, cA 62]) (mc := 0) (ms := 0) (mc' := mc) (ms' := ms) (a := 44) clsX3 dX6_runAll_57 rfl mok_X3_firstLost kM_X6_48 ki_X3_firstLost ke_X3_firstLost (fo_44 F) (ft_44 F) rfl rfl (leB rfl) (leB rfl) (z0 _) (z0 _) (Wp.mono h ?_)
      intro r7 S9 C8 h
      obtain ⟨F10, h⟩ := h
      show Wp (d + 1) mc ms M_X6_runAll 60 [cA 59, cA 30, cA 1, cA 55, cA 44, cI l5, cI l6] [cI r7, cI 3, cA 62] S9 C8 Q
      refine wp_iastoreE (nx := 61) dX6_runAll_60 rfl (fo_62 F10) (fl_62 F10) (by decide) (ft_62 F10) ?_
      refine wp_aload_n (nx := 62) dX6_runAll_61 rfl rfl ?_
      refine wp_aload_n (nx := 63) dX6_runAll_62 rfl rfl ?_
      refine wp_iload (nx := 65) dX6_runAll_63 rfl rfl ?_
      refine wp_aload_n (nx := 66) dX6_runAll_65 rfl rfl ?_
      refine wp_aload_n (nx := 67) dX6_runAll_66 rfl rfl ?_
      refine wp_invV (nx := 70) (N := M_X6_runOnce) (as := [cA 30, cI l5, cA 1, cA 55]) (st := []) (mc := 0) (ms := 0) (mc' := mc) (ms' := ms) (a := 59) clsX6 dX6_runAll_67 rfl mok_X6_runOnce kM_X6_54 ki_X6_runOnce ke_X6_runOnce (fo_59 F10) (ft_59 F10) rfl rfl (leB rfl) (leB rfl) (z0 _) (z0 _) (Wp.mono h ?_)
      intro r11 Sq C12 h
      obtain ⟨e9, h⟩ := h
      rw [e9]
      show Wp (d + 1) mc ms M_X6_runAll 70 [cA 59, cA 30, cA 1, cA 55, cA 44, cI l5, cI l6] [cI r11] S9 C12 Q
      refine wp_if_ne (nx := 73) (tg := 88) dX6_runAll_70 rfl rfl (fun hc => ?_) (fun hc => ?_)
      · have h := h.1 hc
        refine wp_iinc (nx := 91) dX6_runAll_88 rfl rfl (by decide) ?_
        refine wp_ls (ls2 := [cA 59, cA 30, cA 1, cA 55, cA 44, cI l5, cI (w32 (l6 + 1))]) rfl ?_
        refine wp_goto (nx := 25) dX6_runAll_91 rfl ?_
        exact h
      · have h := h.2 hc
        refine wp_aload_n (nx := 74) dX6_runAll_73 rfl rfl ?_
        refine wp_iload (nx := 76) dX6_runAll_74 rfl rfl ?_
        refine wp_putIe (kk := 4) 4 (nx := 79) clsX6 dX6_runAll_76 rfl kF_X6_22 (by decide) (fo_59 F10) (ft_59 F10) rfl rfl ⟨rfl, rfl⟩ rfl ?_
        refine wp_aload_n (nx := 80) dX6_runAll_79 rfl rfl ?_
        refine wp_aload_n (nx := 81) dX6_runAll_80 rfl rfl ?_
        refine wp_aload_n (nx := 82) dX6_runAll_81 rfl rfl ?_
        refine wp_invV (nx := 85) (N := M_X6_takeAllBack) (as := [cA 1, cA 55]) (st := []) (mc := 0) (ms := 0) (mc' := mc) (ms' := ms) (a := 59) clsX6 dX6_runAll_82 rfl mok_X6_takeAllBack kM_X6_58 ki_X6_takeAllBack ke_X6_takeAllBack (fo_59 F10) (ft_59 F10) rfl rfl (leB rfl) (leB rfl) (z0 _) (z0 _) (Wp.mono h ?_)
        intro r13 Sq C14 h
        obtain ⟨e9, h⟩ := h
        rw [e9]
        show Wp (d + 1) mc ms M_X6_runAll 85 [cA 59, cA 30, cA 1, cA 55, cA 44, cI l5, cI l6] [] S9 C14 Q
        refine wp_bipush (nx := 87) dX6_runAll_85 rfl ⟨by decide, i32 (by decide)⟩ ?_
        exact wp_ireturn dX6_runAll_87 rfl rfl rfl h
theorem b_X6_runOnce_0 {d mc ms : Nat} {l2 : Int} {S : MS} {C : MC} {Q : Int → MS → MC → Prop} (F : Fix S) (h : ((0 : Int) ≤ l2 ∧ l2 < 12) ∧ ((¬ C 35 l2 = (-1) → ((0 : Int) ≤ l2 ∧ l2 < 12) ∧ K_X5_reckon_0 d 0 0 60 36 (C 35 l2) 62 S C (fun r1 Sq C2 => Sq = S ∧ K_X6_runOnce_35 (d + 1) mc ms l2 r1 S C2 Q)) ∧ (C 35 l2 = (-1) → K_X6_runOnce_35 (d + 1) mc ms l2 1 S C Q))) : K_X6_runOnce_0 (d + 1) mc ms l2 S C Q := by
  show Wp (d + 1) mc ms M_X6_runOnce 0 [cA 59, cA 30, cI l2, cA 1, cA 55, cU, cU, cU, cU, cU, cU, cU] [] S C Q
  refine wp_aload_n (nx := 1) dX6_runOnce_0 rfl rfl ?_
  refine wp_getAe (kk := 7) (nx := 4) clsX9 dX6_runOnce_1 rfl kF_X6_67 (by decide) (fo_30 F) (ft_30 F) rfl (fp_30_7 F) ?_
  refine wp_iload_n (nx := 5) dX6_runOnce_4 rfl rfl ?_
  obtain ⟨hi, h⟩ := h
  refine wp_ialoadE (nx := 6) dX6_runOnce_5 rfl (fo_35 F) (fl_35 F) hi (ft_35 F) rfl ?_
  refine wp_iconst (nx := 7) dX6_runOnce_6 rfl (i32 (by decide)) ?_
  refine wp_icmp_ne (nx := 10) (tg := 14) dX6_runOnce_7 rfl rfl (fun hc => ?_) (fun hc => ?_)
  · have h := h.1 hc
    refine wp_aload_n (nx := 15) dX6_runOnce_14 rfl rfl ?_
    refine wp_getAe (kk := 0) (nx := 18) clsX6 dX6_runOnce_15 rfl kF_X6_12 (by decide) (fo_59 F) (ft_59 F) rfl (fp_59_0 F) ?_
    refine wp_aload_n (nx := 19) dX6_runOnce_18 rfl rfl ?_
    refine wp_getAe (kk := 8) (nx := 22) clsX9 dX6_runOnce_19 rfl kF_X6_70 (by decide) (fo_30 F) (ft_30 F) rfl (fp_30_8 F) ?_
    refine wp_aload_n (nx := 23) dX6_runOnce_22 rfl rfl ?_
    refine wp_getAe (kk := 7) (nx := 26) clsX9 dX6_runOnce_23 rfl kF_X6_67 (by decide) (fo_30 F) (ft_30 F) rfl (fp_30_7 F) ?_
    refine wp_iload_n (nx := 27) dX6_runOnce_26 rfl rfl ?_
    obtain ⟨hi, h⟩ := h
    refine wp_ialoadE (nx := 28) dX6_runOnce_27 rfl (fo_35 F) (fl_35 F) hi (ft_35 F) rfl ?_
    refine wp_aload_n (nx := 29) dX6_runOnce_28 rfl rfl ?_
    refine wp_getAe (kk := 1) (nx := 32) clsX6 dX6_runOnce_29 rfl kF_X6_18 (by decide) (fo_59 F) (ft_59 F) rfl (fp_59_1 F) ?_
    refine wp_invV (nx := 35) (N := M_X5_reckon) (as := [cA 36, cI (C 35 l2), cA 62]) (st := []) (mc := 0) (ms := 0) (mc' := mc) (ms' := ms) (a := 60) clsX5 dX6_runOnce_32 rfl mok_X5_reckon kM_X6_73 ki_X5_reckon ke_X5_reckon (fo_60 F) (ft_60 F) rfl rfl (leB rfl) (leB rfl) (z0 _) (z0 _) (Wp.mono h ?_)
    intro r1 Sq C2 h
    obtain ⟨e9, h⟩ := h
    rw [e9]
    show Wp (d + 1) mc ms M_X6_runOnce 35 [cA 59, cA 30, cI l2, cA 1, cA 55, cU, cU, cU, cU, cU, cU, cU] [cJ r1] S C2 Q
    exact h
  · have h := h.2 hc
    refine wp_lconst (nx := 11) (v := 1) dX6_runOnce_10 rfl ⟨by decide, i64 (by decide)⟩ ?_
    refine wp_goto (nx := 35) dX6_runOnce_11 rfl ?_
    exact h
theorem b_X6_runOnce_35 {d mc ms : Nat} {l2 s0 : Int} {S : MS} {C : MC} {Q : Int → MS → MC → Prop} (F : Fix S) (h : ((lCmp s0 (-1152921504606846976) = 0 → Q 1 S C) ∧ (¬ lCmp s0 (-1152921504606846976) = 0 → ((¬ lCmp s0 0 = 0 → ((0 : Int) ≤ l2 ∧ l2 < 12) ∧ K_X6_sumOf_0 d 0 0 (C 33 l2) S C (fun r1 Sq C2 => Sq = S ∧ ((0 : Int) ≤ l2 ∧ l2 < 12) ∧ K_X6_sumOf_0 d 0 0 (C2 34 l2) S C2 (fun r3 Sq C4 => Sq = S ∧ ((lCmp r1 (-1152921504606846976) = 0 → Q 0 S C4) ∧ (¬ lCmp r1 (-1152921504606846976) = 0 → ((¬ lCmp r3 (-1152921504606846976) = 0 → ((0 : Int) ≤ l2 ∧ l2 < 12) ∧ K_X0_make_0 d 0 0 (C4 31 l2) (w32 r1) (w32 r3) S C4 (fun r5 Sq C6 => Sq = S ∧ ((0 ≤ r5 → ((0 : Int) ≤ l2 ∧ l2 < 12) ∧ ((¬ C6 31 l2 = 2 → Q 1 S (upC C6 59 2 (w32 ((C6 59 2) + 1)))) ∧ (C6 31 l2 = 2 → Q 1 S (upC (upC C6 59 3 r5) 59 2 (w32 ((C6 59 2) + 1)))))) ∧ (¬ 0 ≤ r5 → Q 0 S C6)))) ∧ (lCmp r3 (-1152921504606846976) = 0 → Q 0 S C4))))))) ∧ (lCmp s0 0 = 0 → Q 1 S C))))) : K_X6_runOnce_35 (d + 1) mc ms l2 s0 S C Q := by
  show Wp (d + 1) mc ms M_X6_runOnce 35 [cA 59, cA 30, cI l2, cA 1, cA 55, cU, cU, cU, cU, cU, cU, cU] [cJ s0] S C Q
  refine wp_lstore (nx := 37) dX6_runOnce_35 rfl (by decide) ?_
  refine wp_ls (ls2 := [cA 59, cA 30, cI l2, cA 1, cA 55, cJ s0, cU, cU, cU, cU, cU, cU]) rfl ?_
  refine wp_lload (nx := 39) dX6_runOnce_37 rfl rfl ?_
  refine wp_ldc2 (nx := 42) dX6_runOnce_39 rfl kJ_X6_77 (i64 (by decide)) ?_
  refine wp_lcmp (nx := 43) dX6_runOnce_42 rfl ?_
  refine wp_if_eq (nx := 46) (tg := 53) dX6_runOnce_43 rfl rfl (fun hc => ?_) (fun hc => ?_)
  · have h := h.1 hc
    refine wp_iconst (nx := 54) dX6_runOnce_53 rfl (i32 (by decide)) ?_
    exact wp_ireturn dX6_runOnce_54 rfl rfl (nz_of (Or.inr rfl)) h
  · have h := h.2 hc
    refine wp_lload (nx := 48) dX6_runOnce_46 rfl rfl ?_
    refine wp_lconst (nx := 49) (v := 0) dX6_runOnce_48 rfl ⟨by decide, i64 (by decide)⟩ ?_
    refine wp_lcmp (nx := 50) dX6_runOnce_49 rfl ?_
    refine wp_if_ne (nx := 53) (tg := 55) dX6_runOnce_50 rfl rfl (fun hc => ?_) (fun hc => ?_)
    · have h := h.1 hc
      refine wp_aload_n (nx := 56) dX6_runOnce_55 rfl rfl ?_
      refine wp_aload_n (nx := 57) dX6_runOnce_56 rfl rfl ?_
      refine wp_aload_n (nx := 58) dX6_runOnce_57 rfl rfl ?_
      refine wp_getAe (kk := 5) (nx := 61) clsX9 dX6_runOnce_58 rfl kF_X6_79 (by decide) (fo_30 F) (ft_30 F) rfl (fp_30_5 F) ?_
      refine wp_iload_n (nx := 62) dX6_runOnce_61 rfl rfl ?_
      obtain ⟨hi, h⟩ := h
      refine wp_ialoadE (nx := 63) dX6_runOnce_62 rfl (fo_33 F) (fl_33 F) hi (ft_33 F) rfl ?_
      refine wp_invV (nx := 66) (N := M_X6_sumOf) (as := [cA 30, cI (C 33 l2)]) (st := []) (mc := 0) (ms := 0) (mc' := mc) (ms' := ms) (a := 59) clsX6 dX6_runOnce_63 rfl mok_X6_sumOf kM_X6_82 ki_X6_sumOf ke_X6_sumOf (fo_59 F) (ft_59 F) rfl rfl (leB rfl) (leB rfl) (z0 _) (z0 _) (Wp.mono h ?_)
      intro r1 Sq C2 h
      obtain ⟨e9, h⟩ := h
      rw [e9]
      show Wp (d + 1) mc ms M_X6_runOnce 66 [cA 59, cA 30, cI l2, cA 1, cA 55, cJ s0, cU, cU, cU, cU, cU, cU] [cJ r1] S C2 Q
      refine wp_lstore (nx := 68) dX6_runOnce_66 rfl (by decide) ?_
      refine wp_ls (ls2 := [cA 59, cA 30, cI l2, cA 1, cA 55, cJ s0, cU, cJ r1, cU, cU, cU, cU]) rfl ?_
      refine wp_aload_n (nx := 69) dX6_runOnce_68 rfl rfl ?_
      refine wp_aload_n (nx := 70) dX6_runOnce_69 rfl rfl ?_
      refine wp_aload_n (nx := 71) dX6_runOnce_70 rfl rfl ?_
      refine wp_getAe (kk := 6) (nx := 74) clsX9 dX6_runOnce_71 rfl kF_X6_86 (by decide) (fo_30 F) (ft_30 F) rfl (fp_30_6 F) ?_
      refine wp_iload_n (nx := 75) dX6_runOnce_74 rfl rfl ?_
      obtain ⟨hi, h⟩ := h
      refine wp_ialoadE (nx := 76) dX6_runOnce_75 rfl (fo_34 F) (fl_34 F) hi (ft_34 F) rfl ?_
      refine wp_invV (nx := 79) (N := M_X6_sumOf) (as := [cA 30, cI (C2 34 l2)]) (st := []) (mc := 0) (ms := 0) (mc' := mc) (ms' := ms) (a := 59) clsX6 dX6_runOnce_76 rfl mok_X6_sumOf kM_X6_82 ki_X6_sumOf ke_X6_sumOf (fo_59 F) (ft_59 F) rfl rfl (leB rfl) (leB rfl) (z0 _) (z0 _) (Wp.mono h ?_)
      intro r3 Sq C4 h
      obtain ⟨e9, h⟩ := h
      rw [e9]
      show Wp (d + 1) mc ms M_X6_runOnce 79 [cA 59, cA 30, cI l2, cA 1, cA 55, cJ s0, cU, cJ r1, cU, cU, cU, cU] [cJ r3] S C4 Q
      refine wp_lstore (nx := 81) dX6_runOnce_79 rfl (by decide) ?_
      refine wp_ls (ls2 := [cA 59, cA 30, cI l2, cA 1, cA 55, cJ s0, cU, cJ r1, cU, cJ r3, cU, cU]) rfl ?_
      refine wp_lload (nx := 83) dX6_runOnce_81 rfl rfl ?_
      refine wp_ldc2 (nx := 86) dX6_runOnce_83 rfl kJ_X6_77 (i64 (by decide)) ?_
      refine wp_lcmp (nx := 87) dX6_runOnce_86 rfl ?_
      refine wp_if_eq (nx := 90) (tg := 99) dX6_runOnce_87 rfl rfl (fun hc => ?_) (fun hc => ?_)
      · have h := h.1 hc
        refine wp_iconst (nx := 100) dX6_runOnce_99 rfl (i32 (by decide)) ?_
        exact wp_ireturn dX6_runOnce_100 rfl rfl (nz_of (Or.inl rfl)) h
      · have h := h.2 hc
        refine wp_lload (nx := 92) dX6_runOnce_90 rfl rfl ?_
        refine wp_ldc2 (nx := 95) dX6_runOnce_92 rfl kJ_X6_77 (i64 (by decide)) ?_
        refine wp_lcmp (nx := 96) dX6_runOnce_95 rfl ?_
        refine wp_if_ne (nx := 99) (tg := 101) dX6_runOnce_96 rfl rfl (fun hc => ?_) (fun hc => ?_)
        · have h := h.1 hc
          refine wp_aload (nx := 103) dX6_runOnce_101 rfl rfl ?_
          refine wp_aload_n (nx := 104) dX6_runOnce_103 rfl rfl ?_
          refine wp_aload_n (nx := 105) dX6_runOnce_104 rfl rfl ?_
          refine wp_getAe (kk := 3) (nx := 108) clsX9 dX6_runOnce_105 rfl kF_X6_89 (by decide) (fo_30 F) (ft_30 F) rfl (fp_30_3 F) ?_
          refine wp_iload_n (nx := 109) dX6_runOnce_108 rfl rfl ?_
          obtain ⟨hi, h⟩ := h
          refine wp_ialoadE (nx := 110) dX6_runOnce_109 rfl (fo_31 F) (fl_31 F) hi (ft_31 F) rfl ?_
          refine wp_lload (nx := 112) dX6_runOnce_110 rfl rfl ?_
          refine wp_l2i (nx := 113) dX6_runOnce_112 rfl ?_
          refine wp_lload (nx := 115) dX6_runOnce_113 rfl rfl ?_
          refine wp_l2i (nx := 116) dX6_runOnce_115 rfl ?_
          refine wp_invV (nx := 119) (N := M_X0_make) (as := [cA 1, cI (C4 31 l2), cI (w32 r1), cI (w32 r3)]) (st := []) (mc := 0) (ms := 0) (mc' := mc) (ms' := ms) (a := 55) clsX0 dX6_runOnce_116 rfl mok_X0_make kM_X6_92 ki_X0_make ke_X0_make (fo_55 F) (ft_55 F) rfl rfl (leB rfl) (leB rfl) (z0 _) (z0 _) (Wp.mono h ?_)
          intro r5 Sq C6 h
          obtain ⟨e9, h⟩ := h
          rw [e9]
          show Wp (d + 1) mc ms M_X6_runOnce 119 [cA 59, cA 30, cI l2, cA 1, cA 55, cJ s0, cU, cJ r1, cU, cJ r3, cU, cU] [cI r5] S C6 Q
          refine wp_istore (nx := 121) dX6_runOnce_119 rfl (by decide) ?_
          refine wp_ls (ls2 := [cA 59, cA 30, cI l2, cA 1, cA 55, cJ s0, cU, cJ r1, cU, cJ r3, cU, cI r5]) rfl ?_
          refine wp_iload (nx := 123) dX6_runOnce_121 rfl rfl ?_
          refine wp_if_ge (nx := 126) (tg := 128) dX6_runOnce_123 rfl rfl (fun hc => ?_) (fun hc => ?_)
          · have h := h.1 hc
            refine wp_aload_n (nx := 129) dX6_runOnce_128 rfl rfl ?_
            refine wp_getAe (kk := 3) (nx := 132) clsX9 dX6_runOnce_129 rfl kF_X6_89 (by decide) (fo_30 F) (ft_30 F) rfl (fp_30_3 F) ?_
            refine wp_iload_n (nx := 133) dX6_runOnce_132 rfl rfl ?_
            obtain ⟨hi, h⟩ := h
            refine wp_ialoadE (nx := 134) dX6_runOnce_133 rfl (fo_31 F) (fl_31 F) hi (ft_31 F) rfl ?_
            refine wp_iconst (nx := 135) dX6_runOnce_134 rfl (i32 (by decide)) ?_
            refine wp_icmp_ne (nx := 138) (tg := 144) dX6_runOnce_135 rfl rfl (fun hc => ?_) (fun hc => ?_)
            · have h := h.1 hc
              refine wp_aload_n (nx := 145) dX6_runOnce_144 rfl rfl ?_
              refine wp_dup (nx := 146) dX6_runOnce_145 rfl (k1A _) ?_
              refine wp_getIe (kk := 2) 2 (nx := 149) clsX6 dX6_runOnce_146 rfl kF_X6_26 (by decide) (fo_59 F) (ft_59 F) rfl rfl rfl ?_
              refine wp_iconst (nx := 150) dX6_runOnce_149 rfl (i32 (by decide)) ?_
              refine wp_iadd (nx := 151) dX6_runOnce_150 rfl ?_
              refine wp_putIe (kk := 2) 2 (nx := 154) clsX6 dX6_runOnce_151 rfl kF_X6_26 (by decide) (fo_59 F) (ft_59 F) rfl rfl ⟨rfl, rfl⟩ rfl ?_
              refine wp_iconst (nx := 155) dX6_runOnce_154 rfl (i32 (by decide)) ?_
              exact wp_ireturn dX6_runOnce_155 rfl rfl (nz_of (Or.inr rfl)) h
            · have h := h.2 hc
              refine wp_aload_n (nx := 139) dX6_runOnce_138 rfl rfl ?_
              refine wp_iload (nx := 141) dX6_runOnce_139 rfl rfl ?_
              refine wp_putIe (kk := 3) 3 (nx := 144) clsX6 dX6_runOnce_141 rfl kF_X6_29 (by decide) (fo_59 F) (ft_59 F) rfl rfl ⟨rfl, rfl⟩ rfl ?_
              refine wp_aload_n (nx := 145) dX6_runOnce_144 rfl rfl ?_
              refine wp_dup (nx := 146) dX6_runOnce_145 rfl (k1A _) ?_
              refine wp_getIe (kk := 2) 2 (nx := 149) clsX6 dX6_runOnce_146 rfl kF_X6_26 (by decide) (fo_59 F) (ft_59 F) rfl rfl (upC_sK (by decide)) ?_
              refine wp_iconst (nx := 150) dX6_runOnce_149 rfl (i32 (by decide)) ?_
              refine wp_iadd (nx := 151) dX6_runOnce_150 rfl ?_
              refine wp_putIe (kk := 2) 2 (nx := 154) clsX6 dX6_runOnce_151 rfl kF_X6_26 (by decide) (fo_59 F) (ft_59 F) rfl rfl ⟨rfl, rfl⟩ rfl ?_
              refine wp_iconst (nx := 155) dX6_runOnce_154 rfl (i32 (by decide)) ?_
              exact wp_ireturn dX6_runOnce_155 rfl rfl (nz_of (Or.inr rfl)) h
          · have h := h.2 hc
            refine wp_iconst (nx := 127) dX6_runOnce_126 rfl (i32 (by decide)) ?_
            exact wp_ireturn dX6_runOnce_127 rfl rfl (nz_of (Or.inl rfl)) h
        · have h := h.2 hc
          refine wp_iconst (nx := 100) dX6_runOnce_99 rfl (i32 (by decide)) ?_
          exact wp_ireturn dX6_runOnce_100 rfl rfl (nz_of (Or.inl rfl)) h
    · have h := h.2 hc
      refine wp_iconst (nx := 54) dX6_runOnce_53 rfl (i32 (by decide)) ?_
      exact wp_ireturn dX6_runOnce_54 rfl rfl (nz_of (Or.inr rfl)) h
theorem b_X6_sumOf_0 {d mc ms : Nat} {l2 : Int} {S : MS} {C : MC} {Q : Int → MS → MC → Prop} (F : Fix S) (h : ((¬ l2 = (-1) → K_X5_reckon_0 d 0 0 60 36 l2 62 S C (fun r1 Sq C2 => Sq = S ∧ Q r1 S C2)) ∧ (l2 = (-1) → Q 0 S C))) : K_X6_sumOf_0 (d + 1) mc ms l2 S C Q := by
  show Wp (d + 1) mc ms M_X6_sumOf 0 [cA 59, cA 30, cI l2] [] S C Q
  refine wp_iload_n (nx := 1) dX6_sumOf_0 rfl rfl ?_
  refine wp_iconst (nx := 2) dX6_sumOf_1 rfl (i32 (by decide)) ?_
  refine wp_icmp_ne (nx := 5) (tg := 9) dX6_sumOf_2 rfl rfl (fun hc => ?_) (fun hc => ?_)
  · have h := h.1 hc
    refine wp_aload_n (nx := 10) dX6_sumOf_9 rfl rfl ?_
    refine wp_getAe (kk := 0) (nx := 13) clsX6 dX6_sumOf_10 rfl kF_X6_12 (by decide) (fo_59 F) (ft_59 F) rfl (fp_59_0 F) ?_
    refine wp_aload_n (nx := 14) dX6_sumOf_13 rfl rfl ?_
    refine wp_getAe (kk := 8) (nx := 17) clsX9 dX6_sumOf_14 rfl kF_X6_70 (by decide) (fo_30 F) (ft_30 F) rfl (fp_30_8 F) ?_
    refine wp_iload_n (nx := 18) dX6_sumOf_17 rfl rfl ?_
    refine wp_aload_n (nx := 19) dX6_sumOf_18 rfl rfl ?_
    refine wp_getAe (kk := 1) (nx := 22) clsX6 dX6_sumOf_19 rfl kF_X6_18 (by decide) (fo_59 F) (ft_59 F) rfl (fp_59_1 F) ?_
    refine wp_invV (nx := 25) (N := M_X5_reckon) (as := [cA 36, cI l2, cA 62]) (st := []) (mc := 0) (ms := 0) (mc' := mc) (ms' := ms) (a := 60) clsX5 dX6_sumOf_22 rfl mok_X5_reckon kM_X6_73 ki_X5_reckon ke_X5_reckon (fo_60 F) (ft_60 F) rfl rfl (leB rfl) (leB rfl) (z0 _) (z0 _) (Wp.mono h ?_)
    intro r1 Sq C2 h
    obtain ⟨e9, h⟩ := h
    rw [e9]
    show Wp (d + 1) mc ms M_X6_sumOf 25 [cA 59, cA 30, cI l2] [cJ r1] S C2 Q
    exact wp_lreturn dX6_sumOf_25 rfl h
  · have h := h.2 hc
    refine wp_lconst (nx := 6) (v := 0) dX6_sumOf_5 rfl ⟨by decide, i64 (by decide)⟩ ?_
    refine wp_goto (nx := 25) dX6_sumOf_6 rfl ?_
    exact wp_lreturn dX6_sumOf_25 rfl h
theorem b_X6_tellWords_0 {d mc ms : Nat} {S : MS} {C : MC} {Q : Int → MS → MC → Prop} (F : Fix S) (h : K_X7_countNotes_0 d 0 0 1 S ((upC (upC (upC C 62 0 (C 8 0)) 62 1 (C 59 2)) 62 2 (C 59 3))) (fun r1 Sq C2 => Sq = S ∧ K_X6_tellWords_44 (d + 1) mc ms 0 S (upC C2 62 4 r1) Q)) : K_X6_tellWords_0 (d + 1) mc ms S C Q := by
  show Wp (d + 1) mc ms M_X6_tellWords 0 [cA 59, cA 1, cU] [] S C Q
  refine wp_aload_n (nx := 1) dX6_tellWords_0 rfl rfl ?_
  refine wp_getAe (kk := 1) (nx := 4) clsX6 dX6_tellWords_1 rfl kF_X6_18 (by decide) (fo_59 F) (ft_59 F) rfl (fp_59_1 F) ?_
  refine wp_iconst (nx := 5) dX6_tellWords_4 rfl (i32 (by decide)) ?_
  refine wp_aload_n (nx := 6) dX6_tellWords_5 rfl rfl ?_
  refine wp_getAe (kk := 10) (nx := 9) clsX7 dX6_tellWords_6 rfl kF_X6_96 (by decide) (fo_1 F) (ft_1 F) rfl (fp_1_10 F) ?_
  refine wp_iconst (nx := 10) dX6_tellWords_9 rfl (i32 (by decide)) ?_
  refine wp_ialoadE (nx := 11) dX6_tellWords_10 rfl (fo_8 F) (fl_8 F) (by decide) (ft_8 F) rfl ?_
  refine wp_iastoreE (nx := 12) dX6_tellWords_11 rfl (fo_62 F) (fl_62 F) (by decide) (ft_62 F) ?_
  refine wp_aload_n (nx := 13) dX6_tellWords_12 rfl rfl ?_
  refine wp_getAe (kk := 1) (nx := 16) clsX6 dX6_tellWords_13 rfl kF_X6_18 (by decide) (fo_59 F) (ft_59 F) rfl (fp_59_1 F) ?_
  refine wp_iconst (nx := 17) dX6_tellWords_16 rfl (i32 (by decide)) ?_
  refine wp_aload_n (nx := 18) dX6_tellWords_17 rfl rfl ?_
  refine wp_getIe (kk := 2) 2 (nx := 21) clsX6 dX6_tellWords_18 rfl kF_X6_26 (by decide) (fo_59 F) (ft_59 F) rfl rfl (upC_sA (by decide)) ?_
  refine wp_iastoreE (nx := 22) dX6_tellWords_21 rfl (fo_62 F) (fl_62 F) (by decide) (ft_62 F) ?_
  refine wp_aload_n (nx := 23) dX6_tellWords_22 rfl rfl ?_
  refine wp_getAe (kk := 1) (nx := 26) clsX6 dX6_tellWords_23 rfl kF_X6_18 (by decide) (fo_59 F) (ft_59 F) rfl (fp_59_1 F) ?_
  refine wp_iconst (nx := 27) dX6_tellWords_26 rfl (i32 (by decide)) ?_
  refine wp_aload_n (nx := 28) dX6_tellWords_27 rfl rfl ?_
  refine wp_getIe (kk := 3) 3 (nx := 31) clsX6 dX6_tellWords_28 rfl kF_X6_29 (by decide) (fo_59 F) (ft_59 F) rfl rfl ((upC_sA (by decide)).trans (upC_sA (by decide))) ?_
  refine wp_iastoreE (nx := 32) dX6_tellWords_31 rfl (fo_62 F) (fl_62 F) (by decide) (ft_62 F) ?_
  refine wp_aload_n (nx := 33) dX6_tellWords_32 rfl rfl ?_
  refine wp_getAe (kk := 1) (nx := 36) clsX6 dX6_tellWords_33 rfl kF_X6_18 (by decide) (fo_59 F) (ft_59 F) rfl (fp_59_1 F) ?_
  refine wp_iconst (nx := 37) dX6_tellWords_36 rfl (i32 (by decide)) ?_
  refine wp_aload_n (nx := 38) dX6_tellWords_37 rfl rfl ?_
  refine wp_invV (nx := 41) (N := M_X7_countNotes) (as := []) (st := [cI 4, cA 62]) (mc := 0) (ms := 0) (mc' := mc) (ms' := ms) (a := 1) clsX7 dX6_tellWords_38 rfl mok_X7_countNotes kM_X6_101 ki_X7_countNotes ke_X7_countNotes (fo_1 F) (ft_1 F) rfl rfl (leB rfl) (leB rfl) (z0 _) (z0 _) (Wp.mono h ?_)
  intro r1 Sq C2 h
  obtain ⟨e9, h⟩ := h
  rw [e9]
  show Wp (d + 1) mc ms M_X6_tellWords 41 [cA 59, cA 1, cU] [cI r1, cI 4, cA 62] S C2 Q
  refine wp_iastoreE (nx := 42) dX6_tellWords_41 rfl (fo_62 F) (fl_62 F) (by decide) (ft_62 F) ?_
  refine wp_iconst (nx := 43) dX6_tellWords_42 rfl (i32 (by decide)) ?_
  refine wp_istore_n (nx := 44) dX6_tellWords_43 rfl (by decide) ?_
  refine wp_ls (ls2 := [cA 59, cA 1, cI 0]) rfl ?_
  exact h
theorem b_X6_tellWords_44 {d mc ms : Nat} {l2 : Int} {S : MS} {C : MC} {Q : Int → MS → MC → Prop} (F : Fix S) (h : ((16 ≤ l2 → K_X6_tellWords_72 (d + 1) mc ms 0 S C Q) ∧ (¬ 16 ≤ l2 → ((0 : Int) ≤ l2 ∧ l2 < 16) ∧ ((0 : Int) ≤ w32 (5 + l2) ∧ w32 (5 + l2) < 29) ∧ K_X6_tellWords_44 (d + 1) mc ms (w32 (l2 + 1)) S (upC C 62 (w32 (5 + l2)) (C 5 l2)) Q))) : K_X6_tellWords_44 (d + 1) mc ms l2 S C Q := by
  show Wp (d + 1) mc ms M_X6_tellWords 44 [cA 59, cA 1, cI l2] [] S C Q
  refine wp_iload_n (nx := 45) dX6_tellWords_44 rfl rfl ?_
  refine wp_bipush (nx := 47) dX6_tellWords_45 rfl ⟨by decide, i32 (by decide)⟩ ?_
  refine wp_icmp_ge (nx := 50) (tg := 70) dX6_tellWords_47 rfl rfl (fun hc => ?_) (fun hc => ?_)
  · have h := h.1 hc
    refine wp_iconst (nx := 71) dX6_tellWords_70 rfl (i32 (by decide)) ?_
    refine wp_istore_n (nx := 72) dX6_tellWords_71 rfl (by decide) ?_
    refine wp_ls (ls2 := [cA 59, cA 1, cI 0]) rfl ?_
    exact h
  · have h := h.2 hc
    refine wp_aload_n (nx := 51) dX6_tellWords_50 rfl rfl ?_
    refine wp_getAe (kk := 1) (nx := 54) clsX6 dX6_tellWords_51 rfl kF_X6_18 (by decide) (fo_59 F) (ft_59 F) rfl (fp_59_1 F) ?_
    refine wp_iconst (nx := 55) dX6_tellWords_54 rfl (i32 (by decide)) ?_
    refine wp_iload_n (nx := 56) dX6_tellWords_55 rfl rfl ?_
    refine wp_iadd (nx := 57) dX6_tellWords_56 rfl ?_
    refine wp_aload_n (nx := 58) dX6_tellWords_57 rfl rfl ?_
    refine wp_getAe (kk := 4) (nx := 61) clsX7 dX6_tellWords_58 rfl kF_X6_105 (by decide) (fo_1 F) (ft_1 F) rfl (fp_1_4 F) ?_
    refine wp_iload_n (nx := 62) dX6_tellWords_61 rfl rfl ?_
    obtain ⟨hi, h⟩ := h
    refine wp_ialoadE (nx := 63) dX6_tellWords_62 rfl (fo_5 F) (fl_5 F) hi (ft_5 F) rfl ?_
    obtain ⟨hi, h⟩ := h
    refine wp_iastoreE (nx := 64) dX6_tellWords_63 rfl (fo_62 F) (fl_62 F) hi (ft_62 F) ?_
    refine wp_iinc (nx := 67) dX6_tellWords_64 rfl rfl (by decide) ?_
    refine wp_ls (ls2 := [cA 59, cA 1, cI (w32 (l2 + 1))]) rfl ?_
    refine wp_goto (nx := 44) dX6_tellWords_67 rfl ?_
    exact h
theorem b_X6_tellWords_72 {d mc ms : Nat} {l2 : Int} {S : MS} {C : MC} {Q : Int → MS → MC → Prop} (F : Fix S) (h : ((8 ≤ l2 → Q 0 S C) ∧ (¬ 8 ≤ l2 → ((0 : Int) ≤ l2 ∧ l2 < 8) ∧ ((0 : Int) ≤ w32 (21 + l2) ∧ w32 (21 + l2) < 29) ∧ K_X6_tellWords_72 (d + 1) mc ms (w32 (l2 + 1)) S (upC C 62 (w32 (21 + l2)) (C 4 l2)) Q))) : K_X6_tellWords_72 (d + 1) mc ms l2 S C Q := by
  show Wp (d + 1) mc ms M_X6_tellWords 72 [cA 59, cA 1, cI l2] [] S C Q
  refine wp_iload_n (nx := 73) dX6_tellWords_72 rfl rfl ?_
  refine wp_bipush (nx := 75) dX6_tellWords_73 rfl ⟨by decide, i32 (by decide)⟩ ?_
  refine wp_icmp_ge (nx := 78) (tg := 99) dX6_tellWords_75 rfl rfl (fun hc => ?_) (fun hc => ?_)
  · have h := h.1 hc
    exact wp_return dX6_tellWords_99 rfl h
  · have h := h.2 hc
    refine wp_aload_n (nx := 79) dX6_tellWords_78 rfl rfl ?_
    refine wp_getAe (kk := 1) (nx := 82) clsX6 dX6_tellWords_79 rfl kF_X6_18 (by decide) (fo_59 F) (ft_59 F) rfl (fp_59_1 F) ?_
    refine wp_bipush (nx := 84) dX6_tellWords_82 rfl ⟨by decide, i32 (by decide)⟩ ?_
    refine wp_iload_n (nx := 85) dX6_tellWords_84 rfl rfl ?_
    refine wp_iadd (nx := 86) dX6_tellWords_85 rfl ?_
    refine wp_aload_n (nx := 87) dX6_tellWords_86 rfl rfl ?_
    refine wp_getAe (kk := 3) (nx := 90) clsX7 dX6_tellWords_87 rfl kF_X6_108 (by decide) (fo_1 F) (ft_1 F) rfl (fp_1_3 F) ?_
    refine wp_iload_n (nx := 91) dX6_tellWords_90 rfl rfl ?_
    obtain ⟨hi, h⟩ := h
    refine wp_ialoadE (nx := 92) dX6_tellWords_91 rfl (fo_4 F) (fl_4 F) hi (ft_4 F) rfl ?_
    obtain ⟨hi, h⟩ := h
    refine wp_iastoreE (nx := 93) dX6_tellWords_92 rfl (fo_62 F) (fl_62 F) hi (ft_62 F) ?_
    refine wp_iinc (nx := 96) dX6_tellWords_93 rfl rfl (by decide) ?_
    refine wp_ls (ls2 := [cA 59, cA 1, cI (w32 (l2 + 1))]) rfl ?_
    refine wp_goto (nx := 72) dX6_tellWords_96 rfl ?_
    exact h
theorem b_X6_takeAllBack_0 {d mc ms : Nat} {S : MS} {C : MC} {Q : Int → MS → MC → Prop} (F : Fix S) (h : K_X6_takeAllBack_2 (d + 1) mc ms 0 S C Q) : K_X6_takeAllBack_0 (d + 1) mc ms S C Q := by
  show Wp (d + 1) mc ms M_X6_takeAllBack 0 [cA 59, cA 1, cA 55, cU] [] S C Q
  refine wp_iconst (nx := 1) dX6_takeAllBack_0 rfl (i32 (by decide)) ?_
  refine wp_istore_n (nx := 2) dX6_takeAllBack_1 rfl (by decide) ?_
  refine wp_ls (ls2 := [cA 59, cA 1, cA 55, cI 0]) rfl ?_
  exact h
theorem b_X6_takeAllBack_2 {d mc ms : Nat} {l3 : Int} {S : MS} {C : MC} {Q : Int → MS → MC → Prop} (F : Fix S) (h : ((C 59 2 ≤ l3 → Q 0 S C) ∧ (¬ C 59 2 ≤ l3 → K_X0_takeBack_0 d 0 0 S C (fun r1 Sq C2 => Sq = S ∧ K_X6_takeAllBack_2 (d + 1) mc ms (w32 (l3 + 1)) S C2 Q)))) : K_X6_takeAllBack_2 (d + 1) mc ms l3 S C Q := by
  show Wp (d + 1) mc ms M_X6_takeAllBack 2 [cA 59, cA 1, cA 55, cI l3] [] S C Q
  refine wp_iload_n (nx := 3) dX6_takeAllBack_2 rfl rfl ?_
  refine wp_aload_n (nx := 4) dX6_takeAllBack_3 rfl rfl ?_
  refine wp_getIe (kk := 2) 2 (nx := 7) clsX6 dX6_takeAllBack_4 rfl kF_X6_26 (by decide) (fo_59 F) (ft_59 F) rfl rfl rfl ?_
  refine wp_icmp_ge (nx := 10) (tg := 22) dX6_takeAllBack_7 rfl rfl (fun hc => ?_) (fun hc => ?_)
  · have h := h.1 hc
    exact wp_return dX6_takeAllBack_22 rfl h
  · have h := h.2 hc
    refine wp_aload_n (nx := 11) dX6_takeAllBack_10 rfl rfl ?_
    refine wp_aload_n (nx := 12) dX6_takeAllBack_11 rfl rfl ?_
    refine wp_invV (nx := 15) (N := M_X0_takeBack) (as := [cA 1]) (st := []) (mc := 0) (ms := 0) (mc' := mc) (ms' := ms) (a := 55) clsX0 dX6_takeAllBack_12 rfl mok_X0_takeBack kM_X6_111 ki_X0_takeBack ke_X0_takeBack (fo_55 F) (ft_55 F) rfl rfl (leB rfl) (leB rfl) (z0 _) (z0 _) (Wp.mono h ?_)
    intro r1 Sq C2 h
    obtain ⟨e9, h⟩ := h
    rw [e9]
    show Wp (d + 1) mc ms M_X6_takeAllBack 15 [cA 59, cA 1, cA 55, cI l3] [cI r1] S C2 Q
    refine wp_pop (nx := 16) dX6_takeAllBack_15 rfl (k1I _) ?_
    refine wp_iinc (nx := 19) dX6_takeAllBack_16 rfl rfl (by decide) ?_
    refine wp_ls (ls2 := [cA 59, cA 1, cA 55, cI (w32 (l3 + 1))]) rfl ?_
    refine wp_goto (nx := 2) dX6_takeAllBack_19 rfl ?_
    exact h
