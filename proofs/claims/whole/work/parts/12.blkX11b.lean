/-! blocks -/
theorem b_X11_readOrder_0 {d mc ms : Nat} {S : MS} {C : MC} {Q : Int → MS → MC → Prop} (F : Fix S) (h : K_X11_takes0_0 d 0 0 21 S C (fun r1 Sq C2 => Sq = S ∧ ((r1 = 0 → K_X11_takes0_0 d 0 0 23 S C2 (fun r3 Sq C4 => Sq = S ∧ ((r3 = 0 → K_X11_takes0_0 d 0 0 25 S C4 (fun r5 Sq C6 => Sq = S ∧ ((r5 = 0 → K_X11_must_0 d 0 0 26 S C6 (fun r7 Sq C8 => Sq = S ∧ K_X11_takes0_0 d 0 0 27 S C8 (fun r9 Sq C10 => Sq = S ∧ ((r9 = 0 → K_X11_takes0_0 d 0 0 4 S C10 (fun r11 Sq C12 => Sq = S ∧ ((r11 = 0 → Q 0 S C12) ∧ (¬ r11 = 0 → K_X11_readTest_0 d 0 0 0 S C12 (fun r13 Sq C14 => Sq = S ∧ Q 0 S C14))))) ∧ (¬ r9 = 0 → K_X11_mustNumber_0 d 0 0 1 20 S C10 (fun r15 Sq C16 => Sq = S ∧ K_X11_takes0_0 d 0 0 4 S C16 (fun r17 Sq C18 => Sq = S ∧ ((r17 = 0 → Q 0 S C18) ∧ (¬ r17 = 0 → K_X11_readTest_0 d 0 0 0 S C18 (fun r19 Sq C20 => Sq = S ∧ Q 0 S C20)))))))))) ∧ (¬ r5 = 0 → K_X11_readSum_0 d 0 0 0 S C6 (fun r21 Sq C22 => Sq = S ∧ K_X11_takes0_0 d 0 0 27 S C22 (fun r23 Sq C24 => Sq = S ∧ ((r23 = 0 → K_X11_takes0_0 d 0 0 4 S C24 (fun r25 Sq C26 => Sq = S ∧ ((r25 = 0 → Q 0 S C26) ∧ (¬ r25 = 0 → K_X11_readTest_0 d 0 0 0 S C26 (fun r27 Sq C28 => Sq = S ∧ Q 0 S C28))))) ∧ (¬ r23 = 0 → K_X11_mustNumber_0 d 0 0 1 20 S C24 (fun r29 Sq C30 => Sq = S ∧ K_X11_takes0_0 d 0 0 4 S C30 (fun r31 Sq C32 => Sq = S ∧ ((r31 = 0 → Q 0 S C32) ∧ (¬ r31 = 0 → K_X11_readTest_0 d 0 0 0 S C32 (fun r33 Sq C34 => Sq = S ∧ Q 0 S C34))))))))))))) ∧ (¬ r3 = 0 → K_X11_readSum_0 d 0 0 0 S C4 (fun r35 Sq C36 => Sq = S ∧ K_X11_must_0 d 0 0 24 S C36 (fun r37 Sq C38 => Sq = S ∧ K_X11_readSum_0 d 0 0 0 S C38 (fun r39 Sq C40 => Sq = S ∧ K_X11_takes0_0 d 0 0 27 S C40 (fun r41 Sq C42 => Sq = S ∧ ((r41 = 0 → K_X11_takes0_0 d 0 0 4 S C42 (fun r43 Sq C44 => Sq = S ∧ ((r43 = 0 → Q 0 S C44) ∧ (¬ r43 = 0 → K_X11_readTest_0 d 0 0 0 S C44 (fun r45 Sq C46 => Sq = S ∧ Q 0 S C46))))) ∧ (¬ r41 = 0 → K_X11_mustNumber_0 d 0 0 1 20 S C42 (fun r47 Sq C48 => Sq = S ∧ K_X11_takes0_0 d 0 0 4 S C48 (fun r49 Sq C50 => Sq = S ∧ ((r49 = 0 → Q 0 S C50) ∧ (¬ r49 = 0 → K_X11_readTest_0 d 0 0 0 S C50 (fun r51 Sq C52 => Sq = S ∧ Q 0 S C52))))))))))))))) ∧ (¬ r1 = 0 → K_X11_readSum_0 d 0 0 0 S C2 (fun r53 Sq C54 => Sq = S ∧ K_X11_must_0 d 0 0 22 S C54 (fun r55 Sq C56 => Sq = S ∧ K_X11_readSum_0 d 0 0 0 S C56 (fun r57 Sq C58 => Sq = S ∧ K_X11_takes0_0 d 0 0 27 S C58 (fun r59 Sq C60 => Sq = S ∧ ((r59 = 0 → K_X11_takes0_0 d 0 0 4 S C60 (fun r61 Sq C62 => Sq = S ∧ ((r61 = 0 → Q 0 S C62) ∧ (¬ r61 = 0 → K_X11_readTest_0 d 0 0 0 S C62 (fun r63 Sq C64 => Sq = S ∧ Q 0 S C64))))) ∧ (¬ r59 = 0 → K_X11_mustNumber_0 d 0 0 1 20 S C60 (fun r65 Sq C66 => Sq = S ∧ K_X11_takes0_0 d 0 0 4 S C66 (fun r67 Sq C68 => Sq = S ∧ ((r67 = 0 → Q 0 S C68) ∧ (¬ r67 = 0 → K_X11_readTest_0 d 0 0 0 S C68 (fun r69 Sq C70 => Sq = S ∧ Q 0 S C70))))))))))))))) : K_X11_readOrder_0 (d + 1) mc ms S C Q := by
  show Wp (d + 1) mc ms M_X11_readOrder 0 [cA 81] [] S C Q
  refine wp_aload_n (nx := 1) dX11_readOrder_0 rfl rfl ?_
  refine wp_bipush (nx := 3) dX11_readOrder_1 rfl ⟨by decide, i32 (by decide)⟩ ?_
  refine wp_invV (nx := 6) (N := M_X11_takes0) (as := [cI 21]) (st := []) (mc := 0) (ms := 0) (mc' := mc) (ms' := ms) (a := 81) clsX11 dX11_readOrder_3 rfl mok_X11_takes0 kM_X11_185 ki_X11_takes0 ke_X11_takes0 (fo_81 F) (ft_81 F) rfl rfl (leB rfl) (leB rfl) (z0 _) (z0 _) (Wp.mono h ?_)
  intro r1 Sq C2 h
  obtain ⟨e9, h⟩ := h
  rw [e9]
  show Wp (d + 1) mc ms M_X11_readOrder 6 [cA 81] [cI r1] S C2 Q
  refine wp_if_eq (nx := 9) (tg := 28) dX11_readOrder_6 rfl rfl (fun hc => ?_) (fun hc => ?_)
  · have h := h.1 hc
    refine wp_aload_n (nx := 29) dX11_readOrder_28 rfl rfl ?_
    refine wp_bipush (nx := 31) dX11_readOrder_29 rfl ⟨by decide, i32 (by decide)⟩ ?_
    refine wp_invV (nx := 34) (N := M_X11_takes0) (as := [cI 23]) (st := []) (mc := 0) (ms := 0) (mc' := mc) (ms' := ms) (a := 81) clsX11 dX11_readOrder_31 rfl mok_X11_takes0 kM_X11_185 ki_X11_takes0 ke_X11_takes0 (fo_81 F) (ft_81 F) rfl rfl (leB rfl) (leB rfl) (z0 _) (z0 _) (Wp.mono h ?_)
    intro r3 Sq C4 h
    obtain ⟨e9, h⟩ := h
    rw [e9]
    show Wp (d + 1) mc ms M_X11_readOrder 34 [cA 81] [cI r3] S C4 Q
    refine wp_if_eq (nx := 37) (tg := 56) dX11_readOrder_34 rfl rfl (fun hc => ?_) (fun hc => ?_)
    · have h := h.1 hc
      refine wp_aload_n (nx := 57) dX11_readOrder_56 rfl rfl ?_
      refine wp_bipush (nx := 59) dX11_readOrder_57 rfl ⟨by decide, i32 (by decide)⟩ ?_
      refine wp_invV (nx := 62) (N := M_X11_takes0) (as := [cI 25]) (st := []) (mc := 0) (ms := 0) (mc' := mc) (ms' := ms) (a := 81) clsX11 dX11_readOrder_59 rfl mok_X11_takes0 kM_X11_185 ki_X11_takes0 ke_X11_takes0 (fo_81 F) (ft_81 F) rfl rfl (leB rfl) (leB rfl) (z0 _) (z0 _) (Wp.mono h ?_)
      intro r5 Sq C6 h
      obtain ⟨e9, h⟩ := h
      rw [e9]
      show Wp (d + 1) mc ms M_X11_readOrder 62 [cA 81] [cI r5] S C6 Q
      refine wp_if_eq (nx := 65) (tg := 73) dX11_readOrder_62 rfl rfl (fun hc => ?_) (fun hc => ?_)
      · have h := h.1 hc
        refine wp_aload_n (nx := 74) dX11_readOrder_73 rfl rfl ?_
        refine wp_bipush (nx := 76) dX11_readOrder_74 rfl ⟨by decide, i32 (by decide)⟩ ?_
        refine wp_invV (nx := 79) (N := M_X11_must) (as := [cI 26]) (st := []) (mc := 0) (ms := 0) (mc' := mc) (ms' := ms) (a := 81) clsX11 dX11_readOrder_76 rfl mok_X11_must kM_X11_198 ki_X11_must ke_X11_must (fo_81 F) (ft_81 F) rfl rfl (leB rfl) (leB rfl) (z0 _) (z0 _) (Wp.mono h ?_)
        intro r7 Sq C8 h
        obtain ⟨e9, h⟩ := h
        rw [e9]
        show Wp (d + 1) mc ms M_X11_readOrder 79 [cA 81] [] S C8 Q
        refine wp_aload_n (nx := 80) dX11_readOrder_79 rfl rfl ?_
        refine wp_bipush (nx := 82) dX11_readOrder_80 rfl ⟨by decide, i32 (by decide)⟩ ?_
        refine wp_invV (nx := 85) (N := M_X11_takes0) (as := [cI 27]) (st := []) (mc := 0) (ms := 0) (mc' := mc) (ms' := ms) (a := 81) clsX11 dX11_readOrder_82 rfl mok_X11_takes0 kM_X11_185 ki_X11_takes0 ke_X11_takes0 (fo_81 F) (ft_81 F) rfl rfl (leB rfl) (leB rfl) (z0 _) (z0 _) (Wp.mono h ?_)
        intro r9 Sq C10 h
        obtain ⟨e9, h⟩ := h
        rw [e9]
        show Wp (d + 1) mc ms M_X11_readOrder 85 [cA 81] [cI r9] S C10 Q
        refine wp_if_eq (nx := 88) (tg := 95) dX11_readOrder_85 rfl rfl (fun hc => ?_) (fun hc => ?_)
        · have h := h.1 hc
          refine wp_aload_n (nx := 96) dX11_readOrder_95 rfl rfl ?_
          refine wp_iconst (nx := 97) dX11_readOrder_96 rfl (i32 (by decide)) ?_
          refine wp_invV (nx := 100) (N := M_X11_takes0) (as := [cI 4]) (st := []) (mc := 0) (ms := 0) (mc' := mc) (ms' := ms) (a := 81) clsX11 dX11_readOrder_97 rfl mok_X11_takes0 kM_X11_185 ki_X11_takes0 ke_X11_takes0 (fo_81 F) (ft_81 F) rfl rfl (leB rfl) (leB rfl) (z0 _) (z0 _) (Wp.mono h ?_)
          intro r11 Sq C12 h
          obtain ⟨e9, h⟩ := h
          rw [e9]
          show Wp (d + 1) mc ms M_X11_readOrder 100 [cA 81] [cI r11] S C12 Q
          refine wp_if_eq (nx := 103) (tg := 108) dX11_readOrder_100 rfl rfl (fun hc => ?_) (fun hc => ?_)
          · have h := h.1 hc
            exact wp_return dX11_readOrder_108 rfl h
          · have h := h.2 hc
            refine wp_aload_n (nx := 104) dX11_readOrder_103 rfl rfl ?_
            refine wp_iconst (nx := 105) dX11_readOrder_104 rfl (i32 (by decide)) ?_
            refine wp_invV (nx := 108) (N := M_X11_readTest) (as := [cI 0]) (st := []) (mc := 0) (ms := 0) (mc' := mc) (ms' := ms) (a := 81) clsX11 dX11_readOrder_105 rfl mok_X11_readTest kM_X11_201 ki_X11_readTest ke_X11_readTest (fo_81 F) (ft_81 F) rfl rfl (leB rfl) (leB rfl) (z0 _) (z0 _) (Wp.mono h ?_)
            intro r13 Sq C14 h
            obtain ⟨e9, h⟩ := h
            rw [e9]
            show Wp (d + 1) mc ms M_X11_readOrder 108 [cA 81] [] S C14 Q
            exact wp_return dX11_readOrder_108 rfl h
        · have h := h.2 hc
          refine wp_aload_n (nx := 89) dX11_readOrder_88 rfl rfl ?_
          refine wp_iconst (nx := 90) dX11_readOrder_89 rfl (i32 (by decide)) ?_
          refine wp_bipush (nx := 92) dX11_readOrder_90 rfl ⟨by decide, i32 (by decide)⟩ ?_
          refine wp_invV (nx := 95) (N := M_X11_mustNumber) (as := [cI 1, cI 20]) (st := []) (mc := 0) (ms := 0) (mc' := mc) (ms' := ms) (a := 81) clsX11 dX11_readOrder_92 rfl mok_X11_mustNumber kM_X11_204 ki_X11_mustNumber ke_X11_mustNumber (fo_81 F) (ft_81 F) rfl rfl (leB rfl) (leB rfl) (z0 _) (z0 _) (Wp.mono h ?_)
          intro r15 Sq C16 h
          obtain ⟨e9, h⟩ := h
          rw [e9]
          show Wp (d + 1) mc ms M_X11_readOrder 95 [cA 81] [] S C16 Q
          refine wp_aload_n (nx := 96) dX11_readOrder_95 rfl rfl ?_
          refine wp_iconst (nx := 97) dX11_readOrder_96 rfl (i32 (by decide)) ?_
          refine wp_invV (nx := 100) (N := M_X11_takes0) (as := [cI 4]) (st := []) (mc := 0) (ms := 0) (mc' := mc) (ms' := ms) (a := 81) clsX11 dX11_readOrder_97 rfl mok_X11_takes0 kM_X11_185 ki_X11_takes0 ke_X11_takes0 (fo_81 F) (ft_81 F) rfl rfl (leB rfl) (leB rfl) (z0 _) (z0 _) (Wp.mono h ?_)
          intro r17 Sq C18 h
          obtain ⟨e9, h⟩ := h
          rw [e9]
          show Wp (d + 1) mc ms M_X11_readOrder 100 [cA 81] [cI r17] S C18 Q
          refine wp_if_eq (nx := 103) (tg := 108) dX11_readOrder_100 rfl rfl (fun hc => ?_) (fun hc => ?_)
          · have h := h.1 hc
            exact wp_return dX11_readOrder_108 rfl h
          · have h := h.2 hc
            refine wp_aload_n (nx := 104) dX11_readOrder_103 rfl rfl ?_
            refine wp_iconst (nx := 105) dX11_readOrder_104 rfl (i32 (by decide)) ?_
            refine wp_invV (nx := 108) (N := M_X11_readTest) (as := [cI 0]) (st := []) (mc := 0) (ms := 0) (mc' := mc) (ms' := ms) (a := 81) clsX11 dX11_readOrder_105 rfl mok_X11_readTest kM_X11_201 ki_X11_readTest ke_X11_readTest (fo_81 F) (ft_81 F) rfl rfl (leB rfl) (leB rfl) (z0 _) (z0 _) (Wp.mono h ?_)
            intro r19 Sq C20 h
            obtain ⟨e9, h⟩ := h
            rw [e9]
            show Wp (d + 1) mc ms M_X11_readOrder 108 [cA 81] [] S C20 Q
            exact wp_return dX11_readOrder_108 rfl h
      · have h := h.2 hc
        refine wp_aload_n (nx := 66) dX11_readOrder_65 rfl rfl ?_
        refine wp_iconst (nx := 67) dX11_readOrder_66 rfl (i32 (by decide)) ?_
        refine wp_invV (nx := 70) (N := M_X11_readSum) (as := [cI 0]) (st := []) (mc := 0) (ms := 0) (mc' := mc) (ms' := ms) (a := 81) clsX11 dX11_readOrder_67 rfl mok_X11_readSum kM_X11_194 ki_X11_readSum ke_X11_readSum (fo_81 F) (ft_81 F) rfl rfl (leB rfl) (leB rfl) (z0 _) (z0 _) (Wp.mono h ?_)
        intro r21 Sq C22 h
        obtain ⟨e9, h⟩ := h
        rw [e9]
        show Wp (d + 1) mc ms M_X11_readOrder 70 [cA 81] [] S C22 Q
        refine wp_goto (nx := 79) dX11_readOrder_70 rfl ?_
        refine wp_aload_n (nx := 80) dX11_readOrder_79 rfl rfl ?_
        refine wp_bipush (nx := 82) dX11_readOrder_80 rfl ⟨by decide, i32 (by decide)⟩ ?_
        refine wp_invV (nx := 85) (N := M_X11_takes0) (as := [cI 27]) (st := []) (mc := 0) (ms := 0) (mc' := mc) (ms' := ms) (a := 81) clsX11 dX11_readOrder_82 rfl mok_X11_takes0 kM_X11_185 ki_X11_takes0 ke_X11_takes0 (fo_81 F) (ft_81 F) rfl rfl (leB rfl) (leB rfl) (z0 _) (z0 _) (Wp.mono h ?_)
        intro r23 Sq C24 h
        obtain ⟨e9, h⟩ := h
        rw [e9]
        show Wp (d + 1) mc ms M_X11_readOrder 85 [cA 81] [cI r23] S C24 Q
        refine wp_if_eq (nx := 88) (tg := 95) dX11_readOrder_85 rfl rfl (fun hc => ?_) (fun hc => ?_)
        · have h := h.1 hc
          refine wp_aload_n (nx := 96) dX11_readOrder_95 rfl rfl ?_
          refine wp_iconst (nx := 97) dX11_readOrder_96 rfl (i32 (by decide)) ?_
          refine wp_invV (nx := 100) (N := M_X11_takes0) (as := [cI 4]) (st := []) (mc := 0) (ms := 0) (mc' := mc) (ms' := ms) (a := 81) clsX11 dX11_readOrder_97 rfl mok_X11_takes0 kM_X11_185 ki_X11_takes0 ke_X11_takes0 (fo_81 F) (ft_81 F) rfl rfl (leB rfl) (leB rfl) (z0 _) (z0 _) (Wp.mono h ?_)
          intro r25 Sq C26 h
          obtain ⟨e9, h⟩ := h
          rw [e9]
          show Wp (d + 1) mc ms M_X11_readOrder 100 [cA 81] [cI r25] S C26 Q
          refine wp_if_eq (nx := 103) (tg := 108) dX11_readOrder_100 rfl rfl (fun hc => ?_) (fun hc => ?_)
          · have h := h.1 hc
            exact wp_return dX11_readOrder_108 rfl h
          · have h := h.2 hc
            refine wp_aload_n (nx := 104) dX11_readOrder_103 rfl rfl ?_
            refine wp_iconst (nx := 105) dX11_readOrder_104 rfl (i32 (by decide)) ?_
            refine wp_invV (nx := 108) (N := M_X11_readTest) (as := [cI 0]) (st := []) (mc := 0) (ms := 0) (mc' := mc) (ms' := ms) (a := 81) clsX11 dX11_readOrder_105 rfl mok_X11_readTest kM_X11_201 ki_X11_readTest ke_X11_readTest (fo_81 F) (ft_81 F) rfl rfl (leB rfl) (leB rfl) (z0 _) (z0 _) (Wp.mono h ?_)
            intro r27 Sq C28 h
            obtain ⟨e9, h⟩ := h
            rw [e9]
            show Wp (d + 1) mc ms M_X11_readOrder 108 [cA 81] [] S C28 Q
            exact wp_return dX11_readOrder_108 rfl h
        · have h := h.2 hc
          refine wp_aload_n (nx := 89) dX11_readOrder_88 rfl rfl ?_
          refine wp_iconst (nx := 90) dX11_readOrder_89 rfl (i32 (by decide)) ?_
          refine wp_bipush (nx := 92) dX11_readOrder_90 rfl ⟨by decide, i32 (by decide)⟩ ?_
          refine wp_invV (nx := 95) (N := M_X11_mustNumber) (as := [cI 1, cI 20]) (st := []) (mc := 0) (ms := 0) (mc' := mc) (ms' := ms) (a := 81) clsX11 dX11_readOrder_92 rfl mok_X11_mustNumber kM_X11_204 ki_X11_mustNumber ke_X11_mustNumber (fo_81 F) (ft_81 F) rfl rfl (leB rfl) (leB rfl) (z0 _) (z0 _) (Wp.mono h ?_)
          intro r29 Sq C30 h
          obtain ⟨e9, h⟩ := h
          rw [e9]
          show Wp (d + 1) mc ms M_X11_readOrder 95 [cA 81] [] S C30 Q
          refine wp_aload_n (nx := 96) dX11_readOrder_95 rfl rfl ?_
          refine wp_iconst (nx := 97) dX11_readOrder_96 rfl (i32 (by decide)) ?_
          refine wp_invV (nx := 100) (N := M_X11_takes0) (as := [cI 4]) (st := []) (mc := 0) (ms := 0) (mc' := mc) (ms' := ms) (a := 81) clsX11 dX11_readOrder_97 rfl mok_X11_takes0 kM_X11_185 ki_X11_takes0 ke_X11_takes0 (fo_81 F) (ft_81 F) rfl rfl (leB rfl) (leB rfl) (z0 _) (z0 _) (Wp.mono h ?_)
          intro r31 Sq C32 h
          obtain ⟨e9, h⟩ := h
          rw [e9]
          show Wp (d + 1) mc ms M_X11_readOrder 100 [cA 81] [cI r31] S C32 Q
          refine wp_if_eq (nx := 103) (tg := 108) dX11_readOrder_100 rfl rfl (fun hc => ?_) (fun hc => ?_)
          · have h := h.1 hc
            exact wp_return dX11_readOrder_108 rfl h
          · have h := h.2 hc
            refine wp_aload_n (nx := 104) dX11_readOrder_103 rfl rfl ?_
            refine wp_iconst (nx := 105) dX11_readOrder_104 rfl (i32 (by decide)) ?_
            refine wp_invV (nx := 108) (N := M_X11_readTest) (as := [cI 0]) (st := []) (mc := 0) (ms := 0) (mc' := mc) (ms' := ms) (a := 81) clsX11 dX11_readOrder_105 rfl mok_X11_readTest kM_X11_201 ki_X11_readTest ke_X11_readTest (fo_81 F) (ft_81 F) rfl rfl (leB rfl) (leB rfl) (z0 _) (z0 _) (Wp.mono h ?_)
            intro r33 Sq C34 h
            obtain ⟨e9, h⟩ := h
            rw [e9]
            show Wp (d + 1) mc ms M_X11_readOrder 108 [cA 81] [] S C34 Q
            exact wp_return dX11_readOrder_108 rfl h
    · have h := h.2 hc
      refine wp_aload_n (nx := 38) dX11_readOrder_37 rfl rfl ?_
      refine wp_iconst (nx := 39) dX11_readOrder_38 rfl (i32 (by decide)) ?_
      refine wp_invV (nx := 42) (N := M_X11_readSum) (as := [cI 0]) (st := []) (mc := 0) (ms := 0) (mc' := mc) (ms' := ms) (a := 81) clsX11 dX11_readOrder_39 rfl mok_X11_readSum kM_X11_194 ki_X11_readSum ke_X11_readSum (fo_81 F) (ft_81 F) rfl rfl (leB rfl) (leB rfl) (z0 _) (z0 _) (Wp.mono h ?_)
      intro r35 Sq C36 h
      obtain ⟨e9, h⟩ := h
      rw [e9]
      show Wp (d + 1) mc ms M_X11_readOrder 42 [cA 81] [] S C36 Q
      refine wp_aload_n (nx := 43) dX11_readOrder_42 rfl rfl ?_
      refine wp_bipush (nx := 45) dX11_readOrder_43 rfl ⟨by decide, i32 (by decide)⟩ ?_
      refine wp_invV (nx := 48) (N := M_X11_must) (as := [cI 24]) (st := []) (mc := 0) (ms := 0) (mc' := mc) (ms' := ms) (a := 81) clsX11 dX11_readOrder_45 rfl mok_X11_must kM_X11_198 ki_X11_must ke_X11_must (fo_81 F) (ft_81 F) rfl rfl (leB rfl) (leB rfl) (z0 _) (z0 _) (Wp.mono h ?_)
      intro r37 Sq C38 h
      obtain ⟨e9, h⟩ := h
      rw [e9]
      show Wp (d + 1) mc ms M_X11_readOrder 48 [cA 81] [] S C38 Q
      refine wp_aload_n (nx := 49) dX11_readOrder_48 rfl rfl ?_
      refine wp_iconst (nx := 50) dX11_readOrder_49 rfl (i32 (by decide)) ?_
      refine wp_invV (nx := 53) (N := M_X11_readSum) (as := [cI 0]) (st := []) (mc := 0) (ms := 0) (mc' := mc) (ms' := ms) (a := 81) clsX11 dX11_readOrder_50 rfl mok_X11_readSum kM_X11_194 ki_X11_readSum ke_X11_readSum (fo_81 F) (ft_81 F) rfl rfl (leB rfl) (leB rfl) (z0 _) (z0 _) (Wp.mono h ?_)
      intro r39 Sq C40 h
      obtain ⟨e9, h⟩ := h
      rw [e9]
      show Wp (d + 1) mc ms M_X11_readOrder 53 [cA 81] [] S C40 Q
      refine wp_goto (nx := 79) dX11_readOrder_53 rfl ?_
      refine wp_aload_n (nx := 80) dX11_readOrder_79 rfl rfl ?_
      refine wp_bipush (nx := 82) dX11_readOrder_80 rfl ⟨by decide, i32 (by decide)⟩ ?_
      refine wp_invV (nx := 85) (N := M_X11_takes0) (as := [cI 27]) (st := []) (mc := 0) (ms := 0) (mc' := mc) (ms' := ms) (a := 81) clsX11 dX11_readOrder_82 rfl mok_X11_takes0 kM_X11_185 ki_X11_takes0 ke_X11_takes0 (fo_81 F) (ft_81 F) rfl rfl (leB rfl) (leB rfl) (z0 _) (z0 _) (Wp.mono h ?_)
      intro r41 Sq C42 h
      obtain ⟨e9, h⟩ := h
      rw [e9]
      show Wp (d + 1) mc ms M_X11_readOrder 85 [cA 81] [cI r41] S C42 Q
      refine wp_if_eq (nx := 88) (tg := 95) dX11_readOrder_85 rfl rfl (fun hc => ?_) (fun hc => ?_)
      · have h := h.1 hc
        refine wp_aload_n (nx := 96) dX11_readOrder_95 rfl rfl ?_
        refine wp_iconst (nx := 97) dX11_readOrder_96 rfl (i32 (by decide)) ?_
        refine wp_invV (nx := 100) (N := M_X11_takes0) (as := [cI 4]) (st := []) (mc := 0) (ms := 0) (mc' := mc) (ms' := ms) (a := 81) clsX11 dX11_readOrder_97 rfl mok_X11_takes0 kM_X11_185 ki_X11_takes0 ke_X11_takes0 (fo_81 F) (ft_81 F) rfl rfl (leB rfl) (leB rfl) (z0 _) (z0 _) (Wp.mono h ?_)
        intro r43 Sq C44 h
        obtain ⟨e9, h⟩ := h
        rw [e9]
        show Wp (d + 1) mc ms M_X11_readOrder 100 [cA 81] [cI r43] S C44 Q
        refine wp_if_eq (nx := 103) (tg := 108) dX11_readOrder_100 rfl rfl (fun hc => ?_) (fun hc => ?_)
        · have h := h.1 hc
          exact wp_return dX11_readOrder_108 rfl h
        · have h := h.2 hc
          refine wp_aload_n (nx := 104) dX11_readOrder_103 rfl rfl ?_
          refine wp_iconst (nx := 105) dX11_readOrder_104 rfl (i32 (by decide)) ?_
          refine wp_invV (nx := 108) (N := M_X11_readTest) (as := [cI 0]) (st := []) (mc := 0) (ms := 0) (mc' := mc) (ms' := ms) (a := 81) clsX11 dX11_readOrder_105 rfl mok_X11_readTest kM_X11_201 ki_X11_readTest ke_X11_readTest (fo_81 F) (ft_81 F) rfl rfl (leB rfl) (leB rfl) (z0 _) (z0 _) (Wp.mono h ?_)
          intro r45 Sq C46 h
          obtain ⟨e9, h⟩ := h
          rw [e9]
          show Wp (d + 1) mc ms M_X11_readOrder 108 [cA 81] [] S C46 Q
          exact wp_return dX11_readOrder_108 rfl h
      · have h := h.2 hc
        refine wp_aload_n (nx := 89) dX11_readOrder_88 rfl rfl ?_
        refine wp_iconst (nx := 90) dX11_readOrder_89 rfl (i32 (by decide)) ?_
        refine wp_bipush (nx := 92) dX11_readOrder_90 rfl ⟨by decide, i32 (by decide)⟩ ?_
        refine wp_invV (nx := 95) (N := M_X11_mustNumber) (as := [cI 1, cI 20]) (st := []) (mc := 0) (ms := 0) (mc' := mc) (ms' := ms) (a := 81) clsX11 dX11_readOrder_92 rfl mok_X11_mustNumber kM_X11_204 ki_X11_mustNumber ke_X11_mustNumber (fo_81 F) (ft_81 F) rfl rfl (leB rfl) (leB rfl) (z0 _) (z0 _) (Wp.mono h ?_)
        intro r47 Sq C48 h
        obtain ⟨e9, h⟩ := h
        rw [e9]
        show Wp (d + 1) mc ms M_X11_readOrder 95 [cA 81] [] S C48 Q
        refine wp_aload_n (nx := 96) dX11_readOrder_95 rfl rfl ?_
        refine wp_iconst (nx := 97) dX11_readOrder_96 rfl (i32 (by decide)) ?_
        refine wp_invV (nx := 100) (N := M_X11_takes0) (as := [cI 4]) (st := []) (mc := 0) (ms := 0) (mc' := mc) (ms' := ms) (a := 81) clsX11 dX11_readOrder_97 rfl mok_X11_takes0 kM_X11_185 ki_X11_takes0 ke_X11_takes0 (fo_81 F) (ft_81 F) rfl rfl (leB rfl) (leB rfl) (z0 _) (z0 _) (Wp.mono h ?_)
        intro r49 Sq C50 h
        obtain ⟨e9, h⟩ := h
        rw [e9]
        show Wp (d + 1) mc ms M_X11_readOrder 100 [cA 81] [cI r49] S C50 Q
        refine wp_if_eq (nx := 103) (tg := 108) dX11_readOrder_100 rfl rfl (fun hc => ?_) (fun hc => ?_)
        · have h := h.1 hc
          exact wp_return dX11_readOrder_108 rfl h
        · have h := h.2 hc
          refine wp_aload_n (nx := 104) dX11_readOrder_103 rfl rfl ?_
          refine wp_iconst (nx := 105) dX11_readOrder_104 rfl (i32 (by decide)) ?_
          refine wp_invV (nx := 108) (N := M_X11_readTest) (as := [cI 0]) (st := []) (mc := 0) (ms := 0) (mc' := mc) (ms' := ms) (a := 81) clsX11 dX11_readOrder_105 rfl mok_X11_readTest kM_X11_201 ki_X11_readTest ke_X11_readTest (fo_81 F) (ft_81 F) rfl rfl (leB rfl) (leB rfl) (z0 _) (z0 _) (Wp.mono h ?_)
          intro r51 Sq C52 h
          obtain ⟨e9, h⟩ := h
          rw [e9]
          show Wp (d + 1) mc ms M_X11_readOrder 108 [cA 81] [] S C52 Q
          exact wp_return dX11_readOrder_108 rfl h
  · have h := h.2 hc
    refine wp_aload_n (nx := 10) dX11_readOrder_9 rfl rfl ?_
    refine wp_iconst (nx := 11) dX11_readOrder_10 rfl (i32 (by decide)) ?_
    refine wp_invV (nx := 14) (N := M_X11_readSum) (as := [cI 0]) (st := []) (mc := 0) (ms := 0) (mc' := mc) (ms' := ms) (a := 81) clsX11 dX11_readOrder_11 rfl mok_X11_readSum kM_X11_194 ki_X11_readSum ke_X11_readSum (fo_81 F) (ft_81 F) rfl rfl (leB rfl) (leB rfl) (z0 _) (z0 _) (Wp.mono h ?_)
    intro r53 Sq C54 h
    obtain ⟨e9, h⟩ := h
    rw [e9]
    show Wp (d + 1) mc ms M_X11_readOrder 14 [cA 81] [] S C54 Q
    refine wp_aload_n (nx := 15) dX11_readOrder_14 rfl rfl ?_
    refine wp_bipush (nx := 17) dX11_readOrder_15 rfl ⟨by decide, i32 (by decide)⟩ ?_
    refine wp_invV (nx := 20) (N := M_X11_must) (as := [cI 22]) (st := []) (mc := 0) (ms := 0) (mc' := mc) (ms' := ms) (a := 81) clsX11 dX11_readOrder_17 rfl mok_X11_must kM_X11_198 ki_X11_must ke_X11_must (fo_81 F) (ft_81 F) rfl rfl (leB rfl) (leB rfl) (z0 _) (z0 _) (Wp.mono h ?_)
    intro r55 Sq C56 h
    obtain ⟨e9, h⟩ := h
    rw [e9]
    show Wp (d + 1) mc ms M_X11_readOrder 20 [cA 81] [] S C56 Q
    refine wp_aload_n (nx := 21) dX11_readOrder_20 rfl rfl ?_
    refine wp_iconst (nx := 22) dX11_readOrder_21 rfl (i32 (by decide)) ?_
    refine wp_invV (nx := 25) (N := M_X11_readSum) (as := [cI 0]) (st := []) (mc := 0) (ms := 0) (mc' := mc) (ms' := ms) (a := 81) clsX11 dX11_readOrder_22 rfl mok_X11_readSum kM_X11_194 ki_X11_readSum ke_X11_readSum (fo_81 F) (ft_81 F) rfl rfl (leB rfl) (leB rfl) (z0 _) (z0 _) (Wp.mono h ?_)
    intro r57 Sq C58 h
    obtain ⟨e9, h⟩ := h
    rw [e9]
    show Wp (d + 1) mc ms M_X11_readOrder 25 [cA 81] [] S C58 Q
    refine wp_goto (nx := 79) dX11_readOrder_25 rfl ?_
    refine wp_aload_n (nx := 80) dX11_readOrder_79 rfl rfl ?_
    refine wp_bipush (nx := 82) dX11_readOrder_80 rfl ⟨by decide, i32 (by decide)⟩ ?_
    refine wp_invV (nx := 85) (N := M_X11_takes0) (as := [cI 27]) (st := []) (mc := 0) (ms := 0) (mc' := mc) (ms' := ms) (a := 81) clsX11 dX11_readOrder_82 rfl mok_X11_takes0 kM_X11_185 ki_X11_takes0 ke_X11_takes0 (fo_81 F) (ft_81 F) rfl rfl (leB rfl) (leB rfl) (z0 _) (z0 _) (Wp.mono h ?_)
    intro r59 Sq C60 h
    obtain ⟨e9, h⟩ := h
    rw [e9]
    show Wp (d + 1) mc ms M_X11_readOrder 85 [cA 81] [cI r59] S C60 Q
    refine wp_if_eq (nx := 88) (tg := 95) dX11_readOrder_85 rfl rfl (fun hc => ?_) (fun hc => ?_)
    · have h := h.1 hc
      refine wp_aload_n (nx := 96) dX11_readOrder_95 rfl rfl ?_
      refine wp_iconst (nx := 97) dX11_readOrder_96 rfl (i32 (by decide)) ?_
      refine wp_invV (nx := 100) (N := M_X11_takes0) (as := [cI 4]) (st := []) (mc := 0) (ms := 0) (mc' := mc) (ms' := ms) (a := 81) clsX11 dX11_readOrder_97 rfl mok_X11_takes0 kM_X11_185 ki_X11_takes0 ke_X11_takes0 (fo_81 F) (ft_81 F) rfl rfl (leB rfl) (leB rfl) (z0 _) (z0 _) (Wp.mono h ?_)
      intro r61 Sq C62 h
      obtain ⟨e9, h⟩ := h
      rw [e9]
      show Wp (d + 1) mc ms M_X11_readOrder 100 [cA 81] [cI r61] S C62 Q
      refine wp_if_eq (nx := 103) (tg := 108) dX11_readOrder_100 rfl rfl (fun hc => ?_) (fun hc => ?_)
      · have h := h.1 hc
        exact wp_return dX11_readOrder_108 rfl h
      · have h := h.2 hc
        refine wp_aload_n (nx := 104) dX11_readOrder_103 rfl rfl ?_
        refine wp_iconst (nx := 105) dX11_readOrder_104 rfl (i32 (by decide)) ?_
        refine wp_invV (nx := 108) (N := M_X11_readTest) (as := [cI 0]) (st := []) (mc := 0) (ms := 0) (mc' := mc) (ms' := ms) (a := 81) clsX11 dX11_readOrder_105 rfl mok_X11_readTest kM_X11_201 ki_X11_readTest ke_X11_readTest (fo_81 F) (ft_81 F) rfl rfl (leB rfl) (leB rfl) (z0 _) (z0 _) (Wp.mono h ?_)
        intro r63 Sq C64 h
        obtain ⟨e9, h⟩ := h
        rw [e9]
        show Wp (d + 1) mc ms M_X11_readOrder 108 [cA 81] [] S C64 Q
        exact wp_return dX11_readOrder_108 rfl h
    · have h := h.2 hc
      refine wp_aload_n (nx := 89) dX11_readOrder_88 rfl rfl ?_
      refine wp_iconst (nx := 90) dX11_readOrder_89 rfl (i32 (by decide)) ?_
      refine wp_bipush (nx := 92) dX11_readOrder_90 rfl ⟨by decide, i32 (by decide)⟩ ?_
      refine wp_invV (nx := 95) (N := M_X11_mustNumber) (as := [cI 1, cI 20]) (st := []) (mc := 0) (ms := 0) (mc' := mc) (ms' := ms) (a := 81) clsX11 dX11_readOrder_92 rfl mok_X11_mustNumber kM_X11_204 ki_X11_mustNumber ke_X11_mustNumber (fo_81 F) (ft_81 F) rfl rfl (leB rfl) (leB rfl) (z0 _) (z0 _) (Wp.mono h ?_)
      intro r65 Sq C66 h
      obtain ⟨e9, h⟩ := h
      rw [e9]
      show Wp (d + 1) mc ms M_X11_readOrder 95 [cA 81] [] S C66 Q
      refine wp_aload_n (nx := 96) dX11_readOrder_95 rfl rfl ?_
      refine wp_iconst (nx := 97) dX11_readOrder_96 rfl (i32 (by decide)) ?_
      refine wp_invV (nx := 100) (N := M_X11_takes0) (as := [cI 4]) (st := []) (mc := 0) (ms := 0) (mc' := mc) (ms' := ms) (a := 81) clsX11 dX11_readOrder_97 rfl mok_X11_takes0 kM_X11_185 ki_X11_takes0 ke_X11_takes0 (fo_81 F) (ft_81 F) rfl rfl (leB rfl) (leB rfl) (z0 _) (z0 _) (Wp.mono h ?_)
      intro r67 Sq C68 h
      obtain ⟨e9, h⟩ := h
      rw [e9]
      show Wp (d + 1) mc ms M_X11_readOrder 100 [cA 81] [cI r67] S C68 Q
      refine wp_if_eq (nx := 103) (tg := 108) dX11_readOrder_100 rfl rfl (fun hc => ?_) (fun hc => ?_)
      · have h := h.1 hc
        exact wp_return dX11_readOrder_108 rfl h
      · have h := h.2 hc
        refine wp_aload_n (nx := 104) dX11_readOrder_103 rfl rfl ?_
        refine wp_iconst (nx := 105) dX11_readOrder_104 rfl (i32 (by decide)) ?_
        refine wp_invV (nx := 108) (N := M_X11_readTest) (as := [cI 0]) (st := []) (mc := 0) (ms := 0) (mc' := mc) (ms' := ms) (a := 81) clsX11 dX11_readOrder_105 rfl mok_X11_readTest kM_X11_201 ki_X11_readTest ke_X11_readTest (fo_81 F) (ft_81 F) rfl rfl (leB rfl) (leB rfl) (z0 _) (z0 _) (Wp.mono h ?_)
        intro r69 Sq C70 h
        obtain ⟨e9, h⟩ := h
        rw [e9]
        show Wp (d + 1) mc ms M_X11_readOrder 108 [cA 81] [] S C70 Q
        exact wp_return dX11_readOrder_108 rfl h
theorem b_X11_readOne_0 {d mc ms : Nat} {S : MS} {C : MC} {Q : Int → MS → MC → Prop} (F : Fix S) (h : ((C 81 10 = 0 → K_X11_readClause_0 d 0 0 S C (fun r1 Sq C2 => Sq = S ∧ Q 0 S C2)) ∧ (¬ C 81 10 = 0 → K_X11_readOrder_0 d 0 0 S C (fun r3 Sq C4 => Sq = S ∧ Q 0 S C4)))) : K_X11_readOne_0 (d + 1) mc ms S C Q := by
  show Wp (d + 1) mc ms M_X11_readOne 0 [cA 81] [] S C Q
  refine wp_aload_n (nx := 1) dX11_readOne_0 rfl rfl ?_
  refine wp_getIe (kk := 10) 10 (nx := 4) clsX11 dX11_readOne_1 rfl kF_X11_208 (by decide) (fo_81 F) (ft_81 F) rfl rfl rfl ?_
  refine wp_if_eq (nx := 7) (tg := 14) dX11_readOne_4 rfl rfl (fun hc => ?_) (fun hc => ?_)
  · have h := h.1 hc
    refine wp_aload_n (nx := 15) dX11_readOne_14 rfl rfl ?_
    refine wp_invV (nx := 18) (N := M_X11_readClause) (as := []) (st := []) (mc := 0) (ms := 0) (mc' := mc) (ms' := ms) (a := 81) clsX11 dX11_readOne_15 rfl mok_X11_readClause kM_X11_215 ki_X11_readClause ke_X11_readClause (fo_81 F) (ft_81 F) rfl rfl (leB rfl) (leB rfl) (z0 _) (z0 _) (Wp.mono h ?_)
    intro r1 Sq C2 h
    obtain ⟨e9, h⟩ := h
    rw [e9]
    show Wp (d + 1) mc ms M_X11_readOne 18 [cA 81] [] S C2 Q
    exact wp_return dX11_readOne_18 rfl h
  · have h := h.2 hc
    refine wp_aload_n (nx := 8) dX11_readOne_7 rfl rfl ?_
    refine wp_invV (nx := 11) (N := M_X11_readOrder) (as := []) (st := []) (mc := 0) (ms := 0) (mc' := mc) (ms' := ms) (a := 81) clsX11 dX11_readOne_8 rfl mok_X11_readOrder kM_X11_212 ki_X11_readOrder ke_X11_readOrder (fo_81 F) (ft_81 F) rfl rfl (leB rfl) (leB rfl) (z0 _) (z0 _) (Wp.mono h ?_)
    intro r3 Sq C4 h
    obtain ⟨e9, h⟩ := h
    rw [e9]
    show Wp (d + 1) mc ms M_X11_readOne 11 [cA 81] [] S C4 Q
    refine wp_goto (nx := 18) dX11_readOne_11 rfl ?_
    exact wp_return dX11_readOne_18 rfl h
theorem b_X11_readTest_0 {d mc ms : Nat} {l1 : Int} {S : MS} {C : MC} {Q : Int → MS → MC → Prop} (F : Fix S) (h : K_X11_readBoth_0 d 0 0 l1 S C (fun r1 Sq C2 => Sq = S ∧ K_X11_readTest_5 (d + 1) mc ms l1 S C2 Q)) : K_X11_readTest_0 (d + 1) mc ms l1 S C Q := by
  show Wp (d + 1) mc ms M_X11_readTest 0 [cA 81, cI l1] [] S C Q
  refine wp_aload_n (nx := 1) dX11_readTest_0 rfl rfl ?_
  refine wp_iload_n (nx := 2) dX11_readTest_1 rfl rfl ?_
  refine wp_invV (nx := 5) (N := M_X11_readBoth) (as := [cI l1]) (st := []) (mc := 0) (ms := 0) (mc' := mc) (ms' := ms) (a := 81) clsX11 dX11_readTest_2 rfl mok_X11_readBoth kM_X11_218 ki_X11_readBoth ke_X11_readBoth (fo_81 F) (ft_81 F) rfl rfl (leB rfl) (leB rfl) (z0 _) (z0 _) (Wp.mono h ?_)
  intro r1 Sq C2 h
  obtain ⟨e9, h⟩ := h
  rw [e9]
  show Wp (d + 1) mc ms M_X11_readTest 5 [cA 81, cI l1] [] S C2 Q
  exact h
theorem b_X11_readTest_5 {d mc ms : Nat} {l1 : Int} {S : MS} {C : MC} {Q : Int → MS → MC → Prop} (F : Fix S) (h : K_X11_takes0_0 d 0 0 5 S C (fun r1 Sq C2 => Sq = S ∧ ((r1 = 0 → Q 0 S C2) ∧ (¬ r1 = 0 → K_X11_readBoth_0 d 0 0 l1 S C2 (fun r3 Sq C4 => Sq = S ∧ K_X11_readTest_5 (d + 1) mc ms l1 S C4 Q))))) : K_X11_readTest_5 (d + 1) mc ms l1 S C Q := by
  show Wp (d + 1) mc ms M_X11_readTest 5 [cA 81, cI l1] [] S C Q
  refine wp_aload_n (nx := 6) dX11_readTest_5 rfl rfl ?_
  refine wp_iconst (nx := 7) dX11_readTest_6 rfl (i32 (by decide)) ?_
  refine wp_invV (nx := 10) (N := M_X11_takes0) (as := [cI 5]) (st := []) (mc := 0) (ms := 0) (mc' := mc) (ms' := ms) (a := 81) clsX11 dX11_readTest_7 rfl mok_X11_takes0 kM_X11_185 ki_X11_takes0 ke_X11_takes0 (fo_81 F) (ft_81 F) rfl rfl (leB rfl) (leB rfl) (z0 _) (z0 _) (Wp.mono h ?_)
  intro r1 Sq C2 h
  obtain ⟨e9, h⟩ := h
  rw [e9]
  show Wp (d + 1) mc ms M_X11_readTest 10 [cA 81, cI l1] [cI r1] S C2 Q
  refine wp_if_eq (nx := 13) (tg := 21) dX11_readTest_10 rfl rfl (fun hc => ?_) (fun hc => ?_)
  · have h := h.1 hc
    exact wp_return dX11_readTest_21 rfl h
  · have h := h.2 hc
    refine wp_aload_n (nx := 14) dX11_readTest_13 rfl rfl ?_
    refine wp_iload_n (nx := 15) dX11_readTest_14 rfl rfl ?_
    refine wp_invV (nx := 18) (N := M_X11_readBoth) (as := [cI l1]) (st := []) (mc := 0) (ms := 0) (mc' := mc) (ms' := ms) (a := 81) clsX11 dX11_readTest_15 rfl mok_X11_readBoth kM_X11_218 ki_X11_readBoth ke_X11_readBoth (fo_81 F) (ft_81 F) rfl rfl (leB rfl) (leB rfl) (z0 _) (z0 _) (Wp.mono h ?_)
    intro r3 Sq C4 h
    obtain ⟨e9, h⟩ := h
    rw [e9]
    show Wp (d + 1) mc ms M_X11_readTest 18 [cA 81, cI l1] [] S C4 Q
    refine wp_goto (nx := 5) dX11_readTest_18 rfl ?_
    exact h
theorem b_X11_readBoth_0 {d mc ms : Nat} {l1 : Int} {S : MS} {C : MC} {Q : Int → MS → MC → Prop} (F : Fix S) (h : K_X11_readPlain_0 d 0 0 l1 S C (fun r1 Sq C2 => Sq = S ∧ K_X11_readBoth_5 (d + 1) mc ms l1 S C2 Q)) : K_X11_readBoth_0 (d + 1) mc ms l1 S C Q := by
  show Wp (d + 1) mc ms M_X11_readBoth 0 [cA 81, cI l1] [] S C Q
  refine wp_aload_n (nx := 1) dX11_readBoth_0 rfl rfl ?_
  refine wp_iload_n (nx := 2) dX11_readBoth_1 rfl rfl ?_
  refine wp_invV (nx := 5) (N := M_X11_readPlain) (as := [cI l1]) (st := []) (mc := 0) (ms := 0) (mc' := mc) (ms' := ms) (a := 81) clsX11 dX11_readBoth_2 rfl mok_X11_readPlain kM_X11_221 ki_X11_readPlain ke_X11_readPlain (fo_81 F) (ft_81 F) rfl rfl (leB rfl) (leB rfl) (z0 _) (z0 _) (Wp.mono h ?_)
  intro r1 Sq C2 h
  obtain ⟨e9, h⟩ := h
  rw [e9]
  show Wp (d + 1) mc ms M_X11_readBoth 5 [cA 81, cI l1] [] S C2 Q
  exact h
theorem b_X11_readBoth_5 {d mc ms : Nat} {l1 : Int} {S : MS} {C : MC} {Q : Int → MS → MC → Prop} (F : Fix S) (h : K_X11_takes0_0 d 0 0 6 S C (fun r1 Sq C2 => Sq = S ∧ ((r1 = 0 → Q 0 S C2) ∧ (¬ r1 = 0 → K_X11_readPlain_0 d 0 0 l1 S C2 (fun r3 Sq C4 => Sq = S ∧ K_X11_readBoth_5 (d + 1) mc ms l1 S C4 Q))))) : K_X11_readBoth_5 (d + 1) mc ms l1 S C Q := by
  show Wp (d + 1) mc ms M_X11_readBoth 5 [cA 81, cI l1] [] S C Q
  refine wp_aload_n (nx := 6) dX11_readBoth_5 rfl rfl ?_
  refine wp_bipush (nx := 8) dX11_readBoth_6 rfl ⟨by decide, i32 (by decide)⟩ ?_
  refine wp_invV (nx := 11) (N := M_X11_takes0) (as := [cI 6]) (st := []) (mc := 0) (ms := 0) (mc' := mc) (ms' := ms) (a := 81) clsX11 dX11_readBoth_8 rfl mok_X11_takes0 kM_X11_185 ki_X11_takes0 ke_X11_takes0 (fo_81 F) (ft_81 F) rfl rfl (leB rfl) (leB rfl) (z0 _) (z0 _) (Wp.mono h ?_)
  intro r1 Sq C2 h
  obtain ⟨e9, h⟩ := h
  rw [e9]
  show Wp (d + 1) mc ms M_X11_readBoth 11 [cA 81, cI l1] [cI r1] S C2 Q
  refine wp_if_eq (nx := 14) (tg := 22) dX11_readBoth_11 rfl rfl (fun hc => ?_) (fun hc => ?_)
  · have h := h.1 hc
    exact wp_return dX11_readBoth_22 rfl h
  · have h := h.2 hc
    refine wp_aload_n (nx := 15) dX11_readBoth_14 rfl rfl ?_
    refine wp_iload_n (nx := 16) dX11_readBoth_15 rfl rfl ?_
    refine wp_invV (nx := 19) (N := M_X11_readPlain) (as := [cI l1]) (st := []) (mc := 0) (ms := 0) (mc' := mc) (ms' := ms) (a := 81) clsX11 dX11_readBoth_16 rfl mok_X11_readPlain kM_X11_221 ki_X11_readPlain ke_X11_readPlain (fo_81 F) (ft_81 F) rfl rfl (leB rfl) (leB rfl) (z0 _) (z0 _) (Wp.mono h ?_)
    intro r3 Sq C4 h
    obtain ⟨e9, h⟩ := h
    rw [e9]
    show Wp (d + 1) mc ms M_X11_readBoth 19 [cA 81, cI l1] [] S C4 Q
    refine wp_goto (nx := 5) dX11_readBoth_19 rfl ?_
    exact h
theorem b_X11_readPlain_0 {d mc ms : Nat} {l1 : Int} {S : MS} {C : MC} {Q : Int → MS → MC → Prop} (F : Fix S) (h : K_X11_readPlain_2 (d + 1) mc ms l1 1 S C Q) : K_X11_readPlain_0 (d + 1) mc ms l1 S C Q := by
  show Wp (d + 1) mc ms M_X11_readPlain 0 [cA 81, cI l1, cU, cU] [] S C Q
  refine wp_iconst (nx := 1) dX11_readPlain_0 rfl (i32 (by decide)) ?_
  refine wp_istore_n (nx := 2) dX11_readPlain_1 rfl (by decide) ?_
  refine wp_ls (ls2 := [cA 81, cI l1, cI 1, cU]) rfl ?_
  exact h
theorem b_X11_readPlain_2 {d mc ms : Nat} {l1 l2 : Int} {S : MS} {C : MC} {Q : Int → MS → MC → Prop} (F : Fix S) (h : ((l2 = 0 → K_X11_fine_0 d 0 0 S C (fun r1 Sq C2 => Sq = S ∧ ((¬ r1 = 0 → ((0 : Int) ≤ C2 81 19 ∧ C2 81 19 < 401) ∧ K_X11_sign_0 d 0 0 40 S C2 (fun r3 Sq C4 => Sq = S ∧ ((¬ C2 90 (C2 81 19) = r3 → K_X11_readSum_0 d 0 0 l1 S C4 (fun r5 Sq C6 => Sq = S ∧ K_X11_sign_0 d 0 0 60 S C6 (fun r7 Sq C8 => Sq = S ∧ K_X11_takes0_0 d 0 0 r7 S C8 (fun r9 Sq C10 => Sq = S ∧ ((¬ r9 = 0 → K_X11_readSum_0 d 0 0 l1 S C10 (fun r11 Sq C12 => Sq = S ∧ Q 0 S C12)) ∧ (r9 = 0 → K_X11_sign_0 d 0 0 62 S C10 (fun r13 Sq C14 => Sq = S ∧ K_X11_takes0_0 d 0 0 r13 S C14 (fun r15 Sq C16 => Sq = S ∧ ((¬ r15 = 0 → K_X11_readSum_0 d 0 0 l1 S C16 (fun r17 Sq C18 => Sq = S ∧ Q 0 S C18)) ∧ (r15 = 0 → K_X11_sign_0 d 0 0 61 S C16 (fun r19 Sq C20 => Sq = S ∧ K_X11_must_0 d 0 0 r19 S C20 (fun r21 Sq C22 => Sq = S ∧ K_X11_readSum_0 d 0 0 l1 S C22 (fun r23 Sq C24 => Sq = S ∧ Q 0 S C24))))))))))))) ∧ (C2 90 (C2 81 19) = r3 → ((¬ l1 = 8 → K_X11_fine_0 d 0 0 S C4 (fun r25 Sq C26 => Sq = S ∧ ((¬ r25 = 0 → K_X11_readTest_0 d 0 0 (w32 (l1 + 1)) S ((upC C26 81 19 (w32 ((C26 81 19) + 1)))) (fun r27 Sq C28 => Sq = S ∧ K_X11_sign_0 d 0 0 41 S C28 (fun r29 Sq C30 => Sq = S ∧ K_X11_must_0 d 0 0 r29 S C30 (fun r31 Sq C32 => Sq = S ∧ Q 0 S C32)))) ∧ (r25 = 0 → Q 0 S C26)))) ∧ (l1 = 8 → K_X11_faults_0 d 0 0 S C4 (fun r33 Sq C34 => Sq = S ∧ K_X11_fine_0 d 0 0 S C34 (fun r35 Sq C36 => Sq = S ∧ ((¬ r35 = 0 → K_X11_readTest_0 d 0 0 (w32 (l1 + 1)) S ((upC C36 81 19 (w32 ((C36 81 19) + 1)))) (fun r37 Sq C38 => Sq = S ∧ K_X11_sign_0 d 0 0 41 S C38 (fun r39 Sq C40 => Sq = S ∧ K_X11_must_0 d 0 0 r39 S C40 (fun r41 Sq C42 => Sq = S ∧ Q 0 S C42)))) ∧ (r35 = 0 → Q 0 S C36)))))))))) ∧ (r1 = 0 → Q 0 S C2)))) ∧ (¬ l2 = 0 → K_X11_takes0_0 d 0 0 7 S C (fun r43 Sq C44 => Sq = S ∧ K_X11_readPlain_2 (d + 1) mc ms l1 r43 S C44 Q)))) : K_X11_readPlain_2 (d + 1) mc ms l1 l2 S C Q := by
  show Wp (d + 1) mc ms M_X11_readPlain 2 [cA 81, cI l1, cI l2, cU] [] S C Q
  refine wp_iload_n (nx := 3) dX11_readPlain_2 rfl rfl ?_
  refine wp_if_eq (nx := 6) (tg := 16) dX11_readPlain_3 rfl rfl (fun hc => ?_) (fun hc => ?_)
  · have h := h.1 hc
    refine wp_aload_n (nx := 17) dX11_readPlain_16 rfl rfl ?_
    refine wp_invV (nx := 20) (N := M_X11_fine) (as := []) (st := []) (mc := 0) (ms := 0) (mc' := mc) (ms' := ms) (a := 81) clsX11 dX11_readPlain_17 rfl mok_X11_fine kM_X11_178 ki_X11_fine ke_X11_fine (fo_81 F) (ft_81 F) rfl rfl (leB rfl) (leB rfl) (z0 _) (z0 _) (Wp.mono h ?_)
    intro r1 Sq C2 h
    obtain ⟨e9, h⟩ := h
    rw [e9]
    show Wp (d + 1) mc ms M_X11_readPlain 20 [cA 81, cI l1, cI l2, cU] [cI r1] S C2 Q
    refine wp_if_ne (nx := 23) (tg := 24) dX11_readPlain_20 rfl rfl (fun hc => ?_) (fun hc => ?_)
    · have h := h.1 hc
      refine wp_aload_n (nx := 25) dX11_readPlain_24 rfl rfl ?_
      refine wp_getAe (kk := 15) (nx := 28) clsX11 dX11_readPlain_25 rfl kF_X11_54 (by decide) (fo_81 F) (ft_81 F) rfl (fp_81_15 F) ?_
      refine wp_aload_n (nx := 29) dX11_readPlain_28 rfl rfl ?_
      refine wp_getIe (kk := 19) 19 (nx := 32) clsX11 dX11_readPlain_29 rfl kF_X11_182 (by decide) (fo_81 F) (ft_81 F) rfl rfl rfl ?_
      obtain ⟨hi, h⟩ := h
      refine wp_ialoadE (nx := 33) dX11_readPlain_32 rfl (fo_90 F) (fl_90 F) hi (ft_90 F) rfl ?_
      refine wp_istore_n (nx := 34) dX11_readPlain_33 rfl (by decide) ?_
      refine wp_ls (ls2 := [cA 81, cI l1, cI l2, cI (C2 90 (C2 81 19))]) rfl ?_
      refine wp_iload_n (nx := 35) dX11_readPlain_34 rfl rfl ?_
      refine wp_bipush (nx := 37) dX11_readPlain_35 rfl ⟨by decide, i32 (by decide)⟩ ?_
      refine wp_invS (nx := 40) (N := M_X11_sign) (as := [cI 40]) (st := [cI (C2 90 (C2 81 19))]) (mc := 0) (ms := 0) (mc' := mc) (ms' := ms) dX11_readPlain_37 rfl mok_X11_sign kM_X11_224 ks_X11_sign rfl rfl (leB rfl) (leB rfl) (z0 _) (z0 _) (Wp.mono h ?_)
      intro r3 Sq C4 h
      obtain ⟨e9, h⟩ := h
      rw [e9]
      show Wp (d + 1) mc ms M_X11_readPlain 40 [cA 81, cI l1, cI l2, cI (C2 90 (C2 81 19))] [cI r3, cI (C2 90 (C2 81 19))] S C4 Q
      refine wp_icmp_ne (nx := 43) (tg := 90) dX11_readPlain_40 rfl rfl (fun hc => ?_) (fun hc => ?_)
      · have h := h.1 hc
        refine wp_aload_n (nx := 91) dX11_readPlain_90 rfl rfl ?_
        refine wp_iload_n (nx := 92) dX11_readPlain_91 rfl rfl ?_
        refine wp_invV (nx := 95) (N := M_X11_readSum) (as := [cI l1]) (st := []) (mc := 0) (ms := 0) (mc' := mc) (ms' := ms) (a := 81) clsX11 dX11_readPlain_92 rfl mok_X11_readSum kM_X11_194 ki_X11_readSum ke_X11_readSum (fo_81 F) (ft_81 F) rfl rfl (leB rfl) (leB rfl) (z0 _) (z0 _) (Wp.mono h ?_)
        intro r5 Sq C6 h
        obtain ⟨e9, h⟩ := h
        rw [e9]
        show Wp (d + 1) mc ms M_X11_readPlain 95 [cA 81, cI l1, cI l2, cI (C2 90 (C2 81 19))] [] S C6 Q
        refine wp_aload_n (nx := 96) dX11_readPlain_95 rfl rfl ?_
        refine wp_bipush (nx := 98) dX11_readPlain_96 rfl ⟨by decide, i32 (by decide)⟩ ?_
        refine wp_invS (nx := 101) (N := M_X11_sign) (as := [cI 60]) (st := [cA 81]) (mc := 0) (ms := 0) (mc' := mc) (ms' := ms) dX11_readPlain_98 rfl mok_X11_sign kM_X11_224 ks_X11_sign rfl rfl (leB rfl) (leB rfl) (z0 _) (z0 _) (Wp.mono h ?_)
        intro r7 Sq C8 h
        obtain ⟨e9, h⟩ := h
        rw [e9]
        show Wp (d + 1) mc ms M_X11_readPlain 101 [cA 81, cI l1, cI l2, cI (C2 90 (C2 81 19))] [cI r7, cA 81] S C8 Q
        refine wp_invV (nx := 104) (N := M_X11_takes0) (as := [cI r7]) (st := []) (mc := 0) (ms := 0) (mc' := mc) (ms' := ms) (a := 81) clsX11 dX11_readPlain_101 rfl mok_X11_takes0 kM_X11_185 ki_X11_takes0 ke_X11_takes0 (fo_81 F) (ft_81 F) rfl rfl (leB rfl) (leB rfl) (z0 _) (z0 _) (Wp.mono h ?_)
        intro r9 Sq C10 h
        obtain ⟨e9, h⟩ := h
        rw [e9]
        show Wp (d + 1) mc ms M_X11_readPlain 104 [cA 81, cI l1, cI l2, cI (C2 90 (C2 81 19))] [cI r9] S C10 Q
        refine wp_if_ne (nx := 107) (tg := 128) dX11_readPlain_104 rfl rfl (fun hc => ?_) (fun hc => ?_)
        · have h := h.1 hc
          refine wp_aload_n (nx := 129) dX11_readPlain_128 rfl rfl ?_
          refine wp_iload_n (nx := 130) dX11_readPlain_129 rfl rfl ?_
          refine wp_invV (nx := 133) (N := M_X11_readSum) (as := [cI l1]) (st := []) (mc := 0) (ms := 0) (mc' := mc) (ms' := ms) (a := 81) clsX11 dX11_readPlain_130 rfl mok_X11_readSum kM_X11_194 ki_X11_readSum ke_X11_readSum (fo_81 F) (ft_81 F) rfl rfl (leB rfl) (leB rfl) (z0 _) (z0 _) (Wp.mono h ?_)
          intro r11 Sq C12 h
          obtain ⟨e9, h⟩ := h
          rw [e9]
          show Wp (d + 1) mc ms M_X11_readPlain 133 [cA 81, cI l1, cI l2, cI (C2 90 (C2 81 19))] [] S C12 Q
          exact wp_return dX11_readPlain_133 rfl h
        · have h := h.2 hc
          refine wp_aload_n (nx := 108) dX11_readPlain_107 rfl rfl ?_
          refine wp_bipush (nx := 110) dX11_readPlain_108 rfl ⟨by decide, i32 (by decide)⟩ ?_
          refine wp_invS (nx := 113) (N := M_X11_sign) (as := [cI 62]) (st := [cA 81]) (mc := 0) (ms := 0) (mc' := mc) (ms' := ms) dX11_readPlain_110 rfl mok_X11_sign kM_X11_224 ks_X11_sign rfl rfl (leB rfl) (leB rfl) (z0 _) (z0 _) (Wp.mono h ?_)
          intro r13 Sq C14 h
          obtain ⟨e9, h⟩ := h
          rw [e9]
          show Wp (d + 1) mc ms M_X11_readPlain 113 [cA 81, cI l1, cI l2, cI (C2 90 (C2 81 19))] [cI r13, cA 81] S C14 Q
          refine wp_invV (nx := 116) (N := M_X11_takes0) (as := [cI r13]) (st := []) (mc := 0) (ms := 0) (mc' := mc) (ms' := ms) (a := 81) clsX11 dX11_readPlain_113 rfl mok_X11_takes0 kM_X11_185 ki_X11_takes0 ke_X11_takes0 (fo_81 F) (ft_81 F) rfl rfl (leB rfl) (leB rfl) (z0 _) (z0 _) (Wp.mono h ?_)
          intro r15 Sq C16 h
          obtain ⟨e9, h⟩ := h
          rw [e9]
          show Wp (d + 1) mc ms M_X11_readPlain 116 [cA 81, cI l1, cI l2, cI (C2 90 (C2 81 19))] [cI r15] S C16 Q
          refine wp_if_ne (nx := 119) (tg := 128) dX11_readPlain_116 rfl rfl (fun hc => ?_) (fun hc => ?_)
          · have h := h.1 hc
            refine wp_aload_n (nx := 129) dX11_readPlain_128 rfl rfl ?_
            refine wp_iload_n (nx := 130) dX11_readPlain_129 rfl rfl ?_
            refine wp_invV (nx := 133) (N := M_X11_readSum) (as := [cI l1]) (st := []) (mc := 0) (ms := 0) (mc' := mc) (ms' := ms) (a := 81) clsX11 dX11_readPlain_130 rfl mok_X11_readSum kM_X11_194 ki_X11_readSum ke_X11_readSum (fo_81 F) (ft_81 F) rfl rfl (leB rfl) (leB rfl) (z0 _) (z0 _) (Wp.mono h ?_)
            intro r17 Sq C18 h
            obtain ⟨e9, h⟩ := h
            rw [e9]
            show Wp (d + 1) mc ms M_X11_readPlain 133 [cA 81, cI l1, cI l2, cI (C2 90 (C2 81 19))] [] S C18 Q
            exact wp_return dX11_readPlain_133 rfl h
          · have h := h.2 hc
            refine wp_aload_n (nx := 120) dX11_readPlain_119 rfl rfl ?_
            refine wp_bipush (nx := 122) dX11_readPlain_120 rfl ⟨by decide, i32 (by decide)⟩ ?_
            refine wp_invS (nx := 125) (N := M_X11_sign) (as := [cI 61]) (st := [cA 81]) (mc := 0) (ms := 0) (mc' := mc) (ms' := ms) dX11_readPlain_122 rfl mok_X11_sign kM_X11_224 ks_X11_sign rfl rfl (leB rfl) (leB rfl) (z0 _) (z0 _) (Wp.mono h ?_)
            intro r19 Sq C20 h
            obtain ⟨e9, h⟩ := h
            rw [e9]
            show Wp (d + 1) mc ms M_X11_readPlain 125 [cA 81, cI l1, cI l2, cI (C2 90 (C2 81 19))] [cI r19, cA 81] S C20 Q
            refine wp_invV (nx := 128) (N := M_X11_must) (as := [cI r19]) (st := []) (mc := 0) (ms := 0) (mc' := mc) (ms' := ms) (a := 81) clsX11 dX11_readPlain_125 rfl mok_X11_must kM_X11_198 ki_X11_must ke_X11_must (fo_81 F) (ft_81 F) rfl rfl (leB rfl) (leB rfl) (z0 _) (z0 _) (Wp.mono h ?_)
            intro r21 Sq C22 h
            obtain ⟨e9, h⟩ := h
            rw [e9]
            show Wp (d + 1) mc ms M_X11_readPlain 128 [cA 81, cI l1, cI l2, cI (C2 90 (C2 81 19))] [] S C22 Q
            refine wp_aload_n (nx := 129) dX11_readPlain_128 rfl rfl ?_
            refine wp_iload_n (nx := 130) dX11_readPlain_129 rfl rfl ?_
            refine wp_invV (nx := 133) (N := M_X11_readSum) (as := [cI l1]) (st := []) (mc := 0) (ms := 0) (mc' := mc) (ms' := ms) (a := 81) clsX11 dX11_readPlain_130 rfl mok_X11_readSum kM_X11_194 ki_X11_readSum ke_X11_readSum (fo_81 F) (ft_81 F) rfl rfl (leB rfl) (leB rfl) (z0 _) (z0 _) (Wp.mono h ?_)
            intro r23 Sq C24 h
            obtain ⟨e9, h⟩ := h
            rw [e9]
            show Wp (d + 1) mc ms M_X11_readPlain 133 [cA 81, cI l1, cI l2, cI (C2 90 (C2 81 19))] [] S C24 Q
            exact wp_return dX11_readPlain_133 rfl h
      · have h := h.2 hc
        refine wp_iload_n (nx := 44) dX11_readPlain_43 rfl rfl ?_
        refine wp_bipush (nx := 46) dX11_readPlain_44 rfl ⟨by decide, i32 (by decide)⟩ ?_
        refine wp_icmp_ne (nx := 49) (tg := 53) dX11_readPlain_46 rfl rfl (fun hc => ?_) (fun hc => ?_)
        · have h := h.1 hc
          refine wp_aload_n (nx := 54) dX11_readPlain_53 rfl rfl ?_
          refine wp_invV (nx := 57) (N := M_X11_fine) (as := []) (st := []) (mc := 0) (ms := 0) (mc' := mc) (ms' := ms) (a := 81) clsX11 dX11_readPlain_54 rfl mok_X11_fine kM_X11_178 ki_X11_fine ke_X11_fine (fo_81 F) (ft_81 F) rfl rfl (leB rfl) (leB rfl) (z0 _) (z0 _) (Wp.mono h ?_)
          intro r25 Sq C26 h
          obtain ⟨e9, h⟩ := h
          rw [e9]
          show Wp (d + 1) mc ms M_X11_readPlain 57 [cA 81, cI l1, cI l2, cI (C2 90 (C2 81 19))] [cI r25] S C26 Q
          refine wp_if_ne (nx := 60) (tg := 61) dX11_readPlain_57 rfl rfl (fun hc => ?_) (fun hc => ?_)
          · have h := h.1 hc
            refine wp_aload_n (nx := 62) dX11_readPlain_61 rfl rfl ?_
            refine wp_dup (nx := 63) dX11_readPlain_62 rfl (k1A _) ?_
            refine wp_getIe (kk := 19) 19 (nx := 66) clsX11 dX11_readPlain_63 rfl kF_X11_182 (by decide) (fo_81 F) (ft_81 F) rfl rfl rfl ?_
            refine wp_iconst (nx := 67) dX11_readPlain_66 rfl (i32 (by decide)) ?_
            refine wp_iadd (nx := 68) dX11_readPlain_67 rfl ?_
            refine wp_putIe (kk := 19) 19 (nx := 71) clsX11 dX11_readPlain_68 rfl kF_X11_182 (by decide) (fo_81 F) (ft_81 F) rfl rfl ⟨rfl, rfl⟩ rfl ?_
            refine wp_aload_n (nx := 72) dX11_readPlain_71 rfl rfl ?_
            refine wp_iload_n (nx := 73) dX11_readPlain_72 rfl rfl ?_
            refine wp_iconst (nx := 74) dX11_readPlain_73 rfl (i32 (by decide)) ?_
            refine wp_iadd (nx := 75) dX11_readPlain_74 rfl ?_
            refine wp_invV (nx := 78) (N := M_X11_readTest) (as := [cI (w32 (l1 + 1))]) (st := []) (mc := 0) (ms := 0) (mc' := mc) (ms' := ms) (a := 81) clsX11 dX11_readPlain_75 rfl mok_X11_readTest kM_X11_201 ki_X11_readTest ke_X11_readTest (fo_81 F) (ft_81 F) rfl rfl (leB rfl) (leB rfl) (z0 _) (z0 _) (Wp.mono h ?_)
            intro r27 Sq C28 h
            obtain ⟨e9, h⟩ := h
            rw [e9]
            show Wp (d + 1) mc ms M_X11_readPlain 78 [cA 81, cI l1, cI l2, cI (C2 90 (C2 81 19))] [] S C28 Q
            refine wp_aload_n (nx := 79) dX11_readPlain_78 rfl rfl ?_
            refine wp_bipush (nx := 81) dX11_readPlain_79 rfl ⟨by decide, i32 (by decide)⟩ ?_
            refine wp_invS (nx := 84) (N := M_X11_sign) (as := [cI 41]) (st := [cA 81]) (mc := 0) (ms := 0) (mc' := mc) (ms' := ms) dX11_readPlain_81 rfl mok_X11_sign kM_X11_224 ks_X11_sign rfl rfl (leB rfl) (leB rfl) (z0 _) (z0 _) (Wp.mono h ?_)
            intro r29 Sq C30 h
            obtain ⟨e9, h⟩ := h
            rw [e9]
            show Wp (d + 1) mc ms M_X11_readPlain 84 [cA 81, cI l1, cI l2, cI (C2 90 (C2 81 19))] [cI r29, cA 81] S C30 Q
            refine wp_invV (nx := 87) (N := M_X11_must) (as := [cI r29]) (st := []) (mc := 0) (ms := 0) (mc' := mc) (ms' := ms) (a := 81) clsX11 dX11_readPlain_84 rfl mok_X11_must kM_X11_198 ki_X11_must ke_X11_must (fo_81 F) (ft_81 F) rfl rfl (leB rfl) (leB rfl) (z0 _) (z0 _) (Wp.mono h ?_)
            intro r31 Sq C32 h
            obtain ⟨e9, h⟩ := h
            rw [e9]
            show Wp (d + 1) mc ms M_X11_readPlain 87 [cA 81, cI l1, cI l2, cI (C2 90 (C2 81 19))] [] S C32 Q
            refine wp_goto (nx := 133) dX11_readPlain_87 rfl ?_
            exact wp_return dX11_readPlain_133 rfl h
          · have h := h.2 hc
            exact wp_return dX11_readPlain_60 rfl h
        · have h := h.2 hc
          refine wp_aload_n (nx := 50) dX11_readPlain_49 rfl rfl ?_
          refine wp_invV (nx := 53) (N := M_X11_faults) (as := []) (st := []) (mc := 0) (ms := 0) (mc' := mc) (ms' := ms) (a := 81) clsX11 dX11_readPlain_50 rfl mok_X11_faults kM_X11_188 ki_X11_faults ke_X11_faults (fo_81 F) (ft_81 F) rfl rfl (leB rfl) (leB rfl) (z0 _) (z0 _) (Wp.mono h ?_)
          intro r33 Sq C34 h
          obtain ⟨e9, h⟩ := h
          rw [e9]
          show Wp (d + 1) mc ms M_X11_readPlain 53 [cA 81, cI l1, cI l2, cI (C2 90 (C2 81 19))] [] S C34 Q
          refine wp_aload_n (nx := 54) dX11_readPlain_53 rfl rfl ?_
          refine wp_invV (nx := 57) (N := M_X11_fine) (as := []) (st := []) (mc := 0) (ms := 0) (mc' := mc) (ms' := ms) (a := 81) clsX11 dX11_readPlain_54 rfl mok_X11_fine kM_X11_178 ki_X11_fine ke_X11_fine (fo_81 F) (ft_81 F) rfl rfl (leB rfl) (leB rfl) (z0 _) (z0 _) (Wp.mono h ?_)
          intro r35 Sq C36 h
          obtain ⟨e9, h⟩ := h
          rw [e9]
          show Wp (d + 1) mc ms M_X11_readPlain 57 [cA 81, cI l1, cI l2, cI (C2 90 (C2 81 19))] [cI r35] S C36 Q
          refine wp_if_ne (nx := 60) (tg := 61) dX11_readPlain_57 rfl rfl (fun hc => ?_) (fun hc => ?_)
          · have h := h.1 hc
            refine wp_aload_n (nx := 62) dX11_readPlain_61 rfl rfl ?_
            refine wp_dup (nx := 63) dX11_readPlain_62 rfl (k1A _) ?_
            refine wp_getIe (kk := 19) 19 (nx := 66) clsX11 dX11_readPlain_63 rfl kF_X11_182 (by decide) (fo_81 F) (ft_81 F) rfl rfl rfl ?_
            refine wp_iconst (nx := 67) dX11_readPlain_66 rfl (i32 (by decide)) ?_
            refine wp_iadd (nx := 68) dX11_readPlain_67 rfl ?_
            refine wp_putIe (kk := 19) 19 (nx := 71) clsX11 dX11_readPlain_68 rfl kF_X11_182 (by decide) (fo_81 F) (ft_81 F) rfl rfl ⟨rfl, rfl⟩ rfl ?_
            refine wp_aload_n (nx := 72) dX11_readPlain_71 rfl rfl ?_
            refine wp_iload_n (nx := 73) dX11_readPlain_72 rfl rfl ?_
            refine wp_iconst (nx := 74) dX11_readPlain_73 rfl (i32 (by decide)) ?_
            refine wp_iadd (nx := 75) dX11_readPlain_74 rfl ?_
            refine wp_invV (nx := 78) (N := M_X11_readTest) (as := [cI (w32 (l1 + 1))]) (st := []) (mc := 0) (ms := 0) (mc' := mc) (ms' := ms) (a := 81) clsX11 dX11_readPlain_75 rfl mok_X11_readTest kM_X11_201 ki_X11_readTest ke_X11_readTest (fo_81 F) (ft_81 F) rfl rfl (leB rfl) (leB rfl) (z0 _) (z0 _) (Wp.mono h ?_)
            intro r37 Sq C38 h
            obtain ⟨e9, h⟩ := h
            rw [e9]
            show Wp (d + 1) mc ms M_X11_readPlain 78 [cA 81, cI l1, cI l2, cI (C2 90 (C2 81 19))] [] S C38 Q
            refine wp_aload_n (nx := 79) dX11_readPlain_78 rfl rfl ?_
            refine wp_bipush (nx := 81) dX11_readPlain_79 rfl ⟨by decide, i32 (by decide)⟩ ?_
            refine wp_invS (nx := 84) (N := M_X11_sign) (as := [cI 41]) (st := [cA 81]) (mc := 0) (ms := 0) (mc' := mc) (ms' := ms) dX11_readPlain_81 rfl mok_X11_sign kM_X11_224 ks_X11_sign rfl rfl (leB rfl) (leB rfl) (z0 _) (z0 _) (Wp.mono h ?_)
            intro r39 Sq C40 h
            obtain ⟨e9, h⟩ := h
            rw [e9]
            show Wp (d + 1) mc ms M_X11_readPlain 84 [cA 81, cI l1, cI l2, cI (C2 90 (C2 81 19))] [cI r39, cA 81] S C40 Q
            refine wp_invV (nx := 87) (N := M_X11_must) (as := [cI r39]) (st := []) (mc := 0) (ms := 0) (mc' := mc) (ms' := ms) (a := 81) clsX11 dX11_readPlain_84 rfl mok_X11_must kM_X11_198 ki_X11_must ke_X11_must (fo_81 F) (ft_81 F) rfl rfl (leB rfl) (leB rfl) (z0 _) (z0 _) (Wp.mono h ?_)
            intro r41 Sq C42 h
            obtain ⟨e9, h⟩ := h
            rw [e9]
            show Wp (d + 1) mc ms M_X11_readPlain 87 [cA 81, cI l1, cI l2, cI (C2 90 (C2 81 19))] [] S C42 Q
            refine wp_goto (nx := 133) dX11_readPlain_87 rfl ?_
            exact wp_return dX11_readPlain_133 rfl h
          · have h := h.2 hc
            exact wp_return dX11_readPlain_60 rfl h
    · have h := h.2 hc
      exact wp_return dX11_readPlain_23 rfl h
  · have h := h.2 hc
    refine wp_aload_n (nx := 7) dX11_readPlain_6 rfl rfl ?_
    refine wp_bipush (nx := 9) dX11_readPlain_7 rfl ⟨by decide, i32 (by decide)⟩ ?_
    refine wp_invV (nx := 12) (N := M_X11_takes0) (as := [cI 7]) (st := []) (mc := 0) (ms := 0) (mc' := mc) (ms' := ms) (a := 81) clsX11 dX11_readPlain_9 rfl mok_X11_takes0 kM_X11_185 ki_X11_takes0 ke_X11_takes0 (fo_81 F) (ft_81 F) rfl rfl (leB rfl) (leB rfl) (z0 _) (z0 _) (Wp.mono h ?_)
    intro r43 Sq C44 h
    obtain ⟨e9, h⟩ := h
    rw [e9]
    show Wp (d + 1) mc ms M_X11_readPlain 12 [cA 81, cI l1, cI l2, cU] [cI r43] S C44 Q
    refine wp_istore_n (nx := 13) dX11_readPlain_12 rfl (by decide) ?_
    refine wp_ls (ls2 := [cA 81, cI l1, cI r43, cU]) rfl ?_
    refine wp_goto (nx := 2) dX11_readPlain_13 rfl ?_
    exact h
theorem b_X11_readSum_0 {d mc ms : Nat} {l1 : Int} {S : MS} {C : MC} {Q : Int → MS → MC → Prop} (F : Fix S) (h : K_X11_readTerm_0 d 0 0 l1 S C (fun r1 Sq C2 => Sq = S ∧ K_X11_readSum_5 (d + 1) mc ms l1 S C2 Q)) : K_X11_readSum_0 (d + 1) mc ms l1 S C Q := by
  show Wp (d + 1) mc ms M_X11_readSum 0 [cA 81, cI l1] [] S C Q
  refine wp_aload_n (nx := 1) dX11_readSum_0 rfl rfl ?_
  refine wp_iload_n (nx := 2) dX11_readSum_1 rfl rfl ?_
  refine wp_invV (nx := 5) (N := M_X11_readTerm) (as := [cI l1]) (st := []) (mc := 0) (ms := 0) (mc' := mc) (ms' := ms) (a := 81) clsX11 dX11_readSum_2 rfl mok_X11_readTerm kM_X11_228 ki_X11_readTerm ke_X11_readTerm (fo_81 F) (ft_81 F) rfl rfl (leB rfl) (leB rfl) (z0 _) (z0 _) (Wp.mono h ?_)
  intro r1 Sq C2 h
  obtain ⟨e9, h⟩ := h
  rw [e9]
  show Wp (d + 1) mc ms M_X11_readSum 5 [cA 81, cI l1] [] S C2 Q
  exact h
theorem b_X11_readSum_5 {d mc ms : Nat} {l1 : Int} {S : MS} {C : MC} {Q : Int → MS → MC → Prop} (F : Fix S) (h : K_X11_sign_0 d 0 0 43 S C (fun r1 Sq C2 => Sq = S ∧ K_X11_takes0_0 d 0 0 r1 S C2 (fun r3 Sq C4 => Sq = S ∧ ((¬ r3 = 0 → K_X11_readTerm_0 d 0 0 l1 S C4 (fun r5 Sq C6 => Sq = S ∧ K_X11_readSum_5 (d + 1) mc ms l1 S C6 Q)) ∧ (r3 = 0 → K_X11_sign_0 d 0 0 45 S C4 (fun r7 Sq C8 => Sq = S ∧ K_X11_takes0_0 d 0 0 r7 S C8 (fun r9 Sq C10 => Sq = S ∧ ((r9 = 0 → Q 0 S C10) ∧ (¬ r9 = 0 → K_X11_readTerm_0 d 0 0 l1 S C10 (fun r11 Sq C12 => Sq = S ∧ K_X11_readSum_5 (d + 1) mc ms l1 S C12 Q)))))))))) : K_X11_readSum_5 (d + 1) mc ms l1 S C Q := by
  show Wp (d + 1) mc ms M_X11_readSum 5 [cA 81, cI l1] [] S C Q
  refine wp_aload_n (nx := 6) dX11_readSum_5 rfl rfl ?_
  refine wp_bipush (nx := 8) dX11_readSum_6 rfl ⟨by decide, i32 (by decide)⟩ ?_
  refine wp_invS (nx := 11) (N := M_X11_sign) (as := [cI 43]) (st := [cA 81]) (mc := 0) (ms := 0) (mc' := mc) (ms' := ms) dX11_readSum_8 rfl mok_X11_sign kM_X11_224 ks_X11_sign rfl rfl (leB rfl) (leB rfl) (z0 _) (z0 _) (Wp.mono h ?_)
  intro r1 Sq C2 h
  obtain ⟨e9, h⟩ := h
  rw [e9]
  show Wp (d + 1) mc ms M_X11_readSum 11 [cA 81, cI l1] [cI r1, cA 81] S C2 Q
  refine wp_invV (nx := 14) (N := M_X11_takes0) (as := [cI r1]) (st := []) (mc := 0) (ms := 0) (mc' := mc) (ms' := ms) (a := 81) clsX11 dX11_readSum_11 rfl mok_X11_takes0 kM_X11_185 ki_X11_takes0 ke_X11_takes0 (fo_81 F) (ft_81 F) rfl rfl (leB rfl) (leB rfl) (z0 _) (z0 _) (Wp.mono h ?_)
  intro r3 Sq C4 h
  obtain ⟨e9, h⟩ := h
  rw [e9]
  show Wp (d + 1) mc ms M_X11_readSum 14 [cA 81, cI l1] [cI r3] S C4 Q
  refine wp_if_ne (nx := 17) (tg := 29) dX11_readSum_14 rfl rfl (fun hc => ?_) (fun hc => ?_)
  · have h := h.1 hc
    refine wp_aload_n (nx := 30) dX11_readSum_29 rfl rfl ?_
    refine wp_iload_n (nx := 31) dX11_readSum_30 rfl rfl ?_
    refine wp_invV (nx := 34) (N := M_X11_readTerm) (as := [cI l1]) (st := []) (mc := 0) (ms := 0) (mc' := mc) (ms' := ms) (a := 81) clsX11 dX11_readSum_31 rfl mok_X11_readTerm kM_X11_228 ki_X11_readTerm ke_X11_readTerm (fo_81 F) (ft_81 F) rfl rfl (leB rfl) (leB rfl) (z0 _) (z0 _) (Wp.mono h ?_)
    intro r5 Sq C6 h
    obtain ⟨e9, h⟩ := h
    rw [e9]
    show Wp (d + 1) mc ms M_X11_readSum 34 [cA 81, cI l1] [] S C6 Q
    refine wp_goto (nx := 5) dX11_readSum_34 rfl ?_
    exact h
  · have h := h.2 hc
    refine wp_aload_n (nx := 18) dX11_readSum_17 rfl rfl ?_
    refine wp_bipush (nx := 20) dX11_readSum_18 rfl ⟨by decide, i32 (by decide)⟩ ?_
    refine wp_invS (nx := 23) (N := M_X11_sign) (as := [cI 45]) (st := [cA 81]) (mc := 0) (ms := 0) (mc' := mc) (ms' := ms) dX11_readSum_20 rfl mok_X11_sign kM_X11_224 ks_X11_sign rfl rfl (leB rfl) (leB rfl) (z0 _) (z0 _) (Wp.mono h ?_)
    intro r7 Sq C8 h
    obtain ⟨e9, h⟩ := h
    rw [e9]
    show Wp (d + 1) mc ms M_X11_readSum 23 [cA 81, cI l1] [cI r7, cA 81] S C8 Q
    refine wp_invV (nx := 26) (N := M_X11_takes0) (as := [cI r7]) (st := []) (mc := 0) (ms := 0) (mc' := mc) (ms' := ms) (a := 81) clsX11 dX11_readSum_23 rfl mok_X11_takes0 kM_X11_185 ki_X11_takes0 ke_X11_takes0 (fo_81 F) (ft_81 F) rfl rfl (leB rfl) (leB rfl) (z0 _) (z0 _) (Wp.mono h ?_)
    intro r9 Sq C10 h
    obtain ⟨e9, h⟩ := h
    rw [e9]
    show Wp (d + 1) mc ms M_X11_readSum 26 [cA 81, cI l1] [cI r9] S C10 Q
    refine wp_if_eq (nx := 29) (tg := 37) dX11_readSum_26 rfl rfl (fun hc => ?_) (fun hc => ?_)
    · have h := h.1 hc
      exact wp_return dX11_readSum_37 rfl h
    · have h := h.2 hc
      refine wp_aload_n (nx := 30) dX11_readSum_29 rfl rfl ?_
      refine wp_iload_n (nx := 31) dX11_readSum_30 rfl rfl ?_
      refine wp_invV (nx := 34) (N := M_X11_readTerm) (as := [cI l1]) (st := []) (mc := 0) (ms := 0) (mc' := mc) (ms' := ms) (a := 81) clsX11 dX11_readSum_31 rfl mok_X11_readTerm kM_X11_228 ki_X11_readTerm ke_X11_readTerm (fo_81 F) (ft_81 F) rfl rfl (leB rfl) (leB rfl) (z0 _) (z0 _) (Wp.mono h ?_)
      intro r11 Sq C12 h
      obtain ⟨e9, h⟩ := h
      rw [e9]
      show Wp (d + 1) mc ms M_X11_readSum 34 [cA 81, cI l1] [] S C12 Q
      refine wp_goto (nx := 5) dX11_readSum_34 rfl ?_
      exact h
theorem b_X11_readTerm_0 {d mc ms : Nat} {l1 : Int} {S : MS} {C : MC} {Q : Int → MS → MC → Prop} (F : Fix S) (h : K_X11_readPart_0 d 0 0 l1 S C (fun r1 Sq C2 => Sq = S ∧ K_X11_readTerm_5 (d + 1) mc ms l1 S C2 Q)) : K_X11_readTerm_0 (d + 1) mc ms l1 S C Q := by
  show Wp (d + 1) mc ms M_X11_readTerm 0 [cA 81, cI l1] [] S C Q
  refine wp_aload_n (nx := 1) dX11_readTerm_0 rfl rfl ?_
  refine wp_iload_n (nx := 2) dX11_readTerm_1 rfl rfl ?_
  refine wp_invV (nx := 5) (N := M_X11_readPart) (as := [cI l1]) (st := []) (mc := 0) (ms := 0) (mc' := mc) (ms' := ms) (a := 81) clsX11 dX11_readTerm_2 rfl mok_X11_readPart kM_X11_231 ki_X11_readPart ke_X11_readPart (fo_81 F) (ft_81 F) rfl rfl (leB rfl) (leB rfl) (z0 _) (z0 _) (Wp.mono h ?_)
  intro r1 Sq C2 h
  obtain ⟨e9, h⟩ := h
  rw [e9]
  show Wp (d + 1) mc ms M_X11_readTerm 5 [cA 81, cI l1] [] S C2 Q
  exact h
theorem b_X11_readTerm_5 {d mc ms : Nat} {l1 : Int} {S : MS} {C : MC} {Q : Int → MS → MC → Prop} (F : Fix S) (h : K_X11_sign_0 d 0 0 42 S C (fun r1 Sq C2 => Sq = S ∧ K_X11_takes0_0 d 0 0 r1 S C2 (fun r3 Sq C4 => Sq = S ∧ ((¬ r3 = 0 → K_X11_readPart_0 d 0 0 l1 S C4 (fun r5 Sq C6 => Sq = S ∧ K_X11_readTerm_5 (d + 1) mc ms l1 S C6 Q)) ∧ (r3 = 0 → K_X11_sign_0 d 0 0 47 S C4 (fun r7 Sq C8 => Sq = S ∧ K_X11_takes0_0 d 0 0 r7 S C8 (fun r9 Sq C10 => Sq = S ∧ ((¬ r9 = 0 → K_X11_readPart_0 d 0 0 l1 S C10 (fun r11 Sq C12 => Sq = S ∧ K_X11_readTerm_5 (d + 1) mc ms l1 S C12 Q)) ∧ (r9 = 0 → K_X11_sign_0 d 0 0 37 S C10 (fun r13 Sq C14 => Sq = S ∧ K_X11_takes0_0 d 0 0 r13 S C14 (fun r15 Sq C16 => Sq = S ∧ ((r15 = 0 → Q 0 S C16) ∧ (¬ r15 = 0 → K_X11_readPart_0 d 0 0 l1 S C16 (fun r17 Sq C18 => Sq = S ∧ K_X11_readTerm_5 (d + 1) mc ms l1 S C18 Q)))))))))))))) : K_X11_readTerm_5 (d + 1) mc ms l1 S C Q := by
  show Wp (d + 1) mc ms M_X11_readTerm 5 [cA 81, cI l1] [] S C Q
  refine wp_aload_n (nx := 6) dX11_readTerm_5 rfl rfl ?_
  refine wp_bipush (nx := 8) dX11_readTerm_6 rfl ⟨by decide, i32 (by decide)⟩ ?_
  refine wp_invS (nx := 11) (N := M_X11_sign) (as := [cI 42]) (st := [cA 81]) (mc := 0) (ms := 0) (mc' := mc) (ms' := ms) dX11_readTerm_8 rfl mok_X11_sign kM_X11_224 ks_X11_sign rfl rfl (leB rfl) (leB rfl) (z0 _) (z0 _) (Wp.mono h ?_)
  intro r1 Sq C2 h
  obtain ⟨e9, h⟩ := h
  rw [e9]
  show Wp (d + 1) mc ms M_X11_readTerm 11 [cA 81, cI l1] [cI r1, cA 81] S C2 Q
  refine wp_invV (nx := 14) (N := M_X11_takes0) (as := [cI r1]) (st := []) (mc := 0) (ms := 0) (mc' := mc) (ms' := ms) (a := 81) clsX11 dX11_readTerm_11 rfl mok_X11_takes0 kM_X11_185 ki_X11_takes0 ke_X11_takes0 (fo_81 F) (ft_81 F) rfl rfl (leB rfl) (leB rfl) (z0 _) (z0 _) (Wp.mono h ?_)
  intro r3 Sq C4 h
  obtain ⟨e9, h⟩ := h
  rw [e9]
  show Wp (d + 1) mc ms M_X11_readTerm 14 [cA 81, cI l1] [cI r3] S C4 Q
  refine wp_if_ne (nx := 17) (tg := 41) dX11_readTerm_14 rfl rfl (fun hc => ?_) (fun hc => ?_)
  · have h := h.1 hc
    refine wp_aload_n (nx := 42) dX11_readTerm_41 rfl rfl ?_
    refine wp_iload_n (nx := 43) dX11_readTerm_42 rfl rfl ?_
    refine wp_invV (nx := 46) (N := M_X11_readPart) (as := [cI l1]) (st := []) (mc := 0) (ms := 0) (mc' := mc) (ms' := ms) (a := 81) clsX11 dX11_readTerm_43 rfl mok_X11_readPart kM_X11_231 ki_X11_readPart ke_X11_readPart (fo_81 F) (ft_81 F) rfl rfl (leB rfl) (leB rfl) (z0 _) (z0 _) (Wp.mono h ?_)
    intro r5 Sq C6 h
    obtain ⟨e9, h⟩ := h
    rw [e9]
    show Wp (d + 1) mc ms M_X11_readTerm 46 [cA 81, cI l1] [] S C6 Q
    refine wp_goto (nx := 5) dX11_readTerm_46 rfl ?_
    exact h
  · have h := h.2 hc
    refine wp_aload_n (nx := 18) dX11_readTerm_17 rfl rfl ?_
    refine wp_bipush (nx := 20) dX11_readTerm_18 rfl ⟨by decide, i32 (by decide)⟩ ?_
    refine wp_invS (nx := 23) (N := M_X11_sign) (as := [cI 47]) (st := [cA 81]) (mc := 0) (ms := 0) (mc' := mc) (ms' := ms) dX11_readTerm_20 rfl mok_X11_sign kM_X11_224 ks_X11_sign rfl rfl (leB rfl) (leB rfl) (z0 _) (z0 _) (Wp.mono h ?_)
    intro r7 Sq C8 h
    obtain ⟨e9, h⟩ := h
    rw [e9]
    show Wp (d + 1) mc ms M_X11_readTerm 23 [cA 81, cI l1] [cI r7, cA 81] S C8 Q
    refine wp_invV (nx := 26) (N := M_X11_takes0) (as := [cI r7]) (st := []) (mc := 0) (ms := 0) (mc' := mc) (ms' := ms) (a := 81) clsX11 dX11_readTerm_23 rfl mok_X11_takes0 kM_X11_185 ki_X11_takes0 ke_X11_takes0 (fo_81 F) (ft_81 F) rfl rfl (leB rfl) (leB rfl) (z0 _) (z0 _) (Wp.mono h ?_)
    intro r9 Sq C10 h
    obtain ⟨e9, h⟩ := h
    rw [e9]
    show Wp (d + 1) mc ms M_X11_readTerm 26 [cA 81, cI l1] [cI r9] S C10 Q
    refine wp_if_ne (nx := 29) (tg := 41) dX11_readTerm_26 rfl rfl (fun hc => ?_) (fun hc => ?_)
    · have h := h.1 hc
      refine wp_aload_n (nx := 42) dX11_readTerm_41 rfl rfl ?_
      refine wp_iload_n (nx := 43) dX11_readTerm_42 rfl rfl ?_
      refine wp_invV (nx := 46) (N := M_X11_readPart) (as := [cI l1]) (st := []) (mc := 0) (ms := 0) (mc' := mc) (ms' := ms) (a := 81) clsX11 dX11_readTerm_43 rfl mok_X11_readPart kM_X11_231 ki_X11_readPart ke_X11_readPart (fo_81 F) (ft_81 F) rfl rfl (leB rfl) (leB rfl) (z0 _) (z0 _) (Wp.mono h ?_)
      intro r11 Sq C12 h
      obtain ⟨e9, h⟩ := h
      rw [e9]
      show Wp (d + 1) mc ms M_X11_readTerm 46 [cA 81, cI l1] [] S C12 Q
      refine wp_goto (nx := 5) dX11_readTerm_46 rfl ?_
      exact h
    · have h := h.2 hc
      refine wp_aload_n (nx := 30) dX11_readTerm_29 rfl rfl ?_
      refine wp_bipush (nx := 32) dX11_readTerm_30 rfl ⟨by decide, i32 (by decide)⟩ ?_
      refine wp_invS (nx := 35) (N := M_X11_sign) (as := [cI 37]) (st := [cA 81]) (mc := 0) (ms := 0) (mc' := mc) (ms' := ms) dX11_readTerm_32 rfl mok_X11_sign kM_X11_224 ks_X11_sign rfl rfl (leB rfl) (leB rfl) (z0 _) (z0 _) (Wp.mono h ?_)
      intro r13 Sq C14 h
      obtain ⟨e9, h⟩ := h
      rw [e9]
      show Wp (d + 1) mc ms M_X11_readTerm 35 [cA 81, cI l1] [cI r13, cA 81] S C14 Q
      refine wp_invV (nx := 38) (N := M_X11_takes0) (as := [cI r13]) (st := []) (mc := 0) (ms := 0) (mc' := mc) (ms' := ms) (a := 81) clsX11 dX11_readTerm_35 rfl mok_X11_takes0 kM_X11_185 ki_X11_takes0 ke_X11_takes0 (fo_81 F) (ft_81 F) rfl rfl (leB rfl) (leB rfl) (z0 _) (z0 _) (Wp.mono h ?_)
      intro r15 Sq C16 h
      obtain ⟨e9, h⟩ := h
      rw [e9]
      show Wp (d + 1) mc ms M_X11_readTerm 38 [cA 81, cI l1] [cI r15] S C16 Q
      refine wp_if_eq (nx := 41) (tg := 49) dX11_readTerm_38 rfl rfl (fun hc => ?_) (fun hc => ?_)
      · have h := h.1 hc
        exact wp_return dX11_readTerm_49 rfl h
      · have h := h.2 hc
        refine wp_aload_n (nx := 42) dX11_readTerm_41 rfl rfl ?_
        refine wp_iload_n (nx := 43) dX11_readTerm_42 rfl rfl ?_
        refine wp_invV (nx := 46) (N := M_X11_readPart) (as := [cI l1]) (st := []) (mc := 0) (ms := 0) (mc' := mc) (ms' := ms) (a := 81) clsX11 dX11_readTerm_43 rfl mok_X11_readPart kM_X11_231 ki_X11_readPart ke_X11_readPart (fo_81 F) (ft_81 F) rfl rfl (leB rfl) (leB rfl) (z0 _) (z0 _) (Wp.mono h ?_)
        intro r17 Sq C18 h
        obtain ⟨e9, h⟩ := h
        rw [e9]
        show Wp (d + 1) mc ms M_X11_readTerm 46 [cA 81, cI l1] [] S C18 Q
        refine wp_goto (nx := 5) dX11_readTerm_46 rfl ?_
        exact h
theorem b_X11_readPart_0 {d mc ms : Nat} {l1 : Int} {S : MS} {C : MC} {Q : Int → MS → MC → Prop} (F : Fix S) (h : K_X11_fine_0 d 0 0 S C (fun r1 Sq C2 => Sq = S ∧ ((¬ r1 = 0 → ((0 : Int) ≤ C2 81 19 ∧ C2 81 19 < 401) ∧ K_X11_sign_0 d 0 0 91 S C2 (fun r3 Sq C4 => Sq = S ∧ ((¬ C2 90 (C2 81 19) = r3 → ((¬ C2 90 (C2 81 19) = 50 → ((C2 90 (C2 81 19) < C4 81 8 → K_X11_faults_0 d 0 0 S C4 (fun r5 Sq C6 => Sq = S ∧ Q 0 S C6)) ∧ (¬ C2 90 (C2 81 19) < C4 81 8 → ((C4 81 9 < C2 90 (C2 81 19) → K_X11_faults_0 d 0 0 S C4 (fun r7 Sq C8 => Sq = S ∧ Q 0 S C8)) ∧ (¬ C4 81 9 < C2 90 (C2 81 19) → K_X11_readPart_111 (d + 1) mc ms (C2 90 (C2 81 19)) S C4 Q))))) ∧ (C2 90 (C2 81 19) = 50 → ((0 : Int) ≤ C4 81 19 ∧ C4 81 19 < 401) ∧ ((C4 91 (C4 81 19) ≤ 1000 → K_X11_readPart_111 (d + 1) mc ms (C2 90 (C2 81 19)) S C4 Q) ∧ (¬ C4 91 (C4 81 19) ≤ 1000 → ((C2 90 (C2 81 19) < C4 81 8 → K_X11_faults_0 d 0 0 S C4 (fun r9 Sq C10 => Sq = S ∧ Q 0 S C10)) ∧ (¬ C2 90 (C2 81 19) < C4 81 8 → ((C4 81 9 < C2 90 (C2 81 19) → K_X11_faults_0 d 0 0 S C4 (fun r11 Sq C12 => Sq = S ∧ Q 0 S C12)) ∧ (¬ C4 81 9 < C2 90 (C2 81 19) → K_X11_readPart_111 (d + 1) mc ms (C2 90 (C2 81 19)) S C4 Q))))))))) ∧ (C2 90 (C2 81 19) = r3 → ((¬ l1 = 8 → K_X11_fine_0 d 0 0 S C4 (fun r13 Sq C14 => Sq = S ∧ ((¬ r13 = 0 → K_X11_readSum_0 d 0 0 (w32 (l1 + 1)) S ((upC C14 81 19 (w32 ((C14 81 19) + 1)))) (fun r15 Sq C16 => Sq = S ∧ K_X11_sign_0 d 0 0 93 S C16 (fun r17 Sq C18 => Sq = S ∧ K_X11_must_0 d 0 0 r17 S C18 (fun r19 Sq C20 => Sq = S ∧ Q 0 S C20)))) ∧ (r13 = 0 → Q 0 S C14)))) ∧ (l1 = 8 → K_X11_faults_0 d 0 0 S C4 (fun r21 Sq C22 => Sq = S ∧ K_X11_fine_0 d 0 0 S C22 (fun r23 Sq C24 => Sq = S ∧ ((¬ r23 = 0 → K_X11_readSum_0 d 0 0 (w32 (l1 + 1)) S ((upC C24 81 19 (w32 ((C24 81 19) + 1)))) (fun r25 Sq C26 => Sq = S ∧ K_X11_sign_0 d 0 0 93 S C26 (fun r27 Sq C28 => Sq = S ∧ K_X11_must_0 d 0 0 r27 S C28 (fun r29 Sq C30 => Sq = S ∧ Q 0 S C30)))) ∧ (r23 = 0 → Q 0 S C24)))))))))) ∧ (r1 = 0 → Q 0 S C2)))) : K_X11_readPart_0 (d + 1) mc ms l1 S C Q := by
  show Wp (d + 1) mc ms M_X11_readPart 0 [cA 81, cI l1, cU] [] S C Q
  refine wp_aload_n (nx := 1) dX11_readPart_0 rfl rfl ?_
  refine wp_invV (nx := 4) (N := M_X11_fine) (as := []) (st := []) (mc := 0) (ms := 0) (mc' := mc) (ms' := ms) (a := 81) clsX11 dX11_readPart_1 rfl mok_X11_fine kM_X11_178 ki_X11_fine ke_X11_fine (fo_81 F) (ft_81 F) rfl rfl (leB rfl) (leB rfl) (z0 _) (z0 _) (Wp.mono h ?_)
  intro r1 Sq C2 h
  obtain ⟨e9, h⟩ := h
  rw [e9]
  show Wp (d + 1) mc ms M_X11_readPart 4 [cA 81, cI l1, cU] [cI r1] S C2 Q
  refine wp_if_ne (nx := 7) (tg := 8) dX11_readPart_4 rfl rfl (fun hc => ?_) (fun hc => ?_)
  · have h := h.1 hc
    refine wp_aload_n (nx := 9) dX11_readPart_8 rfl rfl ?_
    refine wp_getAe (kk := 15) (nx := 12) clsX11 dX11_readPart_9 rfl kF_X11_54 (by decide) (fo_81 F) (ft_81 F) rfl (fp_81_15 F) ?_
    refine wp_aload_n (nx := 13) dX11_readPart_12 rfl rfl ?_
    refine wp_getIe (kk := 19) 19 (nx := 16) clsX11 dX11_readPart_13 rfl kF_X11_182 (by decide) (fo_81 F) (ft_81 F) rfl rfl rfl ?_
    obtain ⟨hi, h⟩ := h
    refine wp_ialoadE (nx := 17) dX11_readPart_16 rfl (fo_90 F) (fl_90 F) hi (ft_90 F) rfl ?_
    refine wp_istore_n (nx := 18) dX11_readPart_17 rfl (by decide) ?_
    refine wp_ls (ls2 := [cA 81, cI l1, cI (C2 90 (C2 81 19))]) rfl ?_
    refine wp_iload_n (nx := 19) dX11_readPart_18 rfl rfl ?_
    refine wp_bipush (nx := 21) dX11_readPart_19 rfl ⟨by decide, i32 (by decide)⟩ ?_
    refine wp_invS (nx := 24) (N := M_X11_sign) (as := [cI 91]) (st := [cI (C2 90 (C2 81 19))]) (mc := 0) (ms := 0) (mc' := mc) (ms' := ms) dX11_readPart_21 rfl mok_X11_sign kM_X11_224 ks_X11_sign rfl rfl (leB rfl) (leB rfl) (z0 _) (z0 _) (Wp.mono h ?_)
    intro r3 Sq C4 h
    obtain ⟨e9, h⟩ := h
    rw [e9]
    show Wp (d + 1) mc ms M_X11_readPart 24 [cA 81, cI l1, cI (C2 90 (C2 81 19))] [cI r3, cI (C2 90 (C2 81 19))] S C4 Q
    refine wp_icmp_ne (nx := 27) (tg := 74) dX11_readPart_24 rfl rfl (fun hc => ?_) (fun hc => ?_)
    · have h := h.1 hc
      refine wp_iload_n (nx := 75) dX11_readPart_74 rfl rfl ?_
      refine wp_bipush (nx := 77) dX11_readPart_75 rfl ⟨by decide, i32 (by decide)⟩ ?_
      refine wp_icmp_ne (nx := 80) (tg := 95) dX11_readPart_77 rfl rfl (fun hc => ?_) (fun hc => ?_)
      · have h := h.1 hc
        refine wp_iload_n (nx := 96) dX11_readPart_95 rfl rfl ?_
        refine wp_aload_n (nx := 97) dX11_readPart_96 rfl rfl ?_
        refine wp_getIe (kk := 8) 8 (nx := 100) clsX11 dX11_readPart_97 rfl kF_X11_234 (by decide) (fo_81 F) (ft_81 F) rfl rfl rfl ?_
        refine wp_icmp_lt (nx := 103) (tg := 158) dX11_readPart_100 rfl rfl (fun hc => ?_) (fun hc => ?_)
        · have h := h.1 hc
          refine wp_aload_n (nx := 159) dX11_readPart_158 rfl rfl ?_
          refine wp_invV (nx := 162) (N := M_X11_faults) (as := []) (st := []) (mc := 0) (ms := 0) (mc' := mc) (ms' := ms) (a := 81) clsX11 dX11_readPart_159 rfl mok_X11_faults kM_X11_188 ki_X11_faults ke_X11_faults (fo_81 F) (ft_81 F) rfl rfl (leB rfl) (leB rfl) (z0 _) (z0 _) (Wp.mono h ?_)
          intro r5 Sq C6 h
          obtain ⟨e9, h⟩ := h
          rw [e9]
          show Wp (d + 1) mc ms M_X11_readPart 162 [cA 81, cI l1, cI (C2 90 (C2 81 19))] [] S C6 Q
          exact wp_return dX11_readPart_162 rfl h
        · have h := h.2 hc
          refine wp_iload_n (nx := 104) dX11_readPart_103 rfl rfl ?_
          refine wp_aload_n (nx := 105) dX11_readPart_104 rfl rfl ?_
          refine wp_getIe (kk := 9) 9 (nx := 108) clsX11 dX11_readPart_105 rfl kF_X11_237 (by decide) (fo_81 F) (ft_81 F) rfl rfl rfl ?_
          refine wp_icmp_gt (nx := 111) (tg := 158) dX11_readPart_108 rfl rfl (fun hc => ?_) (fun hc => ?_)
          · have h := h.1 hc
            refine wp_aload_n (nx := 159) dX11_readPart_158 rfl rfl ?_
            refine wp_invV (nx := 162) (N := M_X11_faults) (as := []) (st := []) (mc := 0) (ms := 0) (mc' := mc) (ms' := ms) (a := 81) clsX11 dX11_readPart_159 rfl mok_X11_faults kM_X11_188 ki_X11_faults ke_X11_faults (fo_81 F) (ft_81 F) rfl rfl (leB rfl) (leB rfl) (z0 _) (z0 _) (Wp.mono h ?_)
            intro r7 Sq C8 h
            obtain ⟨e9, h⟩ := h
            rw [e9]
            show Wp (d + 1) mc ms M_X11_readPart 162 [cA 81, cI l1, cI (C2 90 (C2 81 19))] [] S C8 Q
            exact wp_return dX11_readPart_162 rfl h
          · have h := h.2 hc
            refine wp_fg [true, false, true] (ls2 := [cA 81, cU, cI (C2 90 (C2 81 19))]) rfl ?_
            exact h
      · have h := h.2 hc
        refine wp_aload_n (nx := 81) dX11_readPart_80 rfl rfl ?_
        refine wp_getAe (kk := 16) (nx := 84) clsX11 dX11_readPart_81 rfl kF_X11_57 (by decide) (fo_81 F) (ft_81 F) rfl (fp_81_16 F) ?_
        refine wp_aload_n (nx := 85) dX11_readPart_84 rfl rfl ?_
        refine wp_getIe (kk := 19) 19 (nx := 88) clsX11 dX11_readPart_85 rfl kF_X11_182 (by decide) (fo_81 F) (ft_81 F) rfl rfl rfl ?_
        obtain ⟨hi, h⟩ := h
        refine wp_ialoadE (nx := 89) dX11_readPart_88 rfl (fo_91 F) (fl_91 F) hi (ft_91 F) rfl ?_
        refine wp_sipush (nx := 92) dX11_readPart_89 rfl ⟨by decide, i32 (by decide)⟩ ?_
        refine wp_icmp_le (nx := 95) (tg := 111) dX11_readPart_92 rfl rfl (fun hc => ?_) (fun hc => ?_)
        · have h := h.1 hc
          refine wp_fg [true, false, true] (ls2 := [cA 81, cU, cI (C2 90 (C2 81 19))]) rfl ?_
          exact h
        · have h := h.2 hc
          refine wp_iload_n (nx := 96) dX11_readPart_95 rfl rfl ?_
          refine wp_aload_n (nx := 97) dX11_readPart_96 rfl rfl ?_
          refine wp_getIe (kk := 8) 8 (nx := 100) clsX11 dX11_readPart_97 rfl kF_X11_234 (by decide) (fo_81 F) (ft_81 F) rfl rfl rfl ?_
          refine wp_icmp_lt (nx := 103) (tg := 158) dX11_readPart_100 rfl rfl (fun hc => ?_) (fun hc => ?_)
          · have h := h.1 hc
            refine wp_aload_n (nx := 159) dX11_readPart_158 rfl rfl ?_
            refine wp_invV (nx := 162) (N := M_X11_faults) (as := []) (st := []) (mc := 0) (ms := 0) (mc' := mc) (ms' := ms) (a := 81) clsX11 dX11_readPart_159 rfl mok_X11_faults kM_X11_188 ki_X11_faults ke_X11_faults (fo_81 F) (ft_81 F) rfl rfl (leB rfl) (leB rfl) (z0 _) (z0 _) (Wp.mono h ?_)
            intro r9 Sq C10 h
            obtain ⟨e9, h⟩ := h
            rw [e9]
            show Wp (d + 1) mc ms M_X11_readPart 162 [cA 81, cI l1, cI (C2 90 (C2 81 19))] [] S C10 Q
            exact wp_return dX11_readPart_162 rfl h
          · have h := h.2 hc
            refine wp_iload_n (nx := 104) dX11_readPart_103 rfl rfl ?_
            refine wp_aload_n (nx := 105) dX11_readPart_104 rfl rfl ?_
            refine wp_getIe (kk := 9) 9 (nx := 108) clsX11 dX11_readPart_105 rfl kF_X11_237 (by decide) (fo_81 F) (ft_81 F) rfl rfl rfl ?_
            refine wp_icmp_gt (nx := 111) (tg := 158) dX11_readPart_108 rfl rfl (fun hc => ?_) (fun hc => ?_)
            · have h := h.1 hc
              refine wp_aload_n (nx := 159) dX11_readPart_158 rfl rfl ?_
              refine wp_invV (nx := 162) (N := M_X11_faults) (as := []) (st := []) (mc := 0) (ms := 0) (mc' := mc) (ms' := ms) (a := 81) clsX11 dX11_readPart_159 rfl mok_X11_faults kM_X11_188 ki_X11_faults ke_X11_faults (fo_81 F) (ft_81 F) rfl rfl (leB rfl) (leB rfl) (z0 _) (z0 _) (Wp.mono h ?_)
              intro r11 Sq C12 h
              obtain ⟨e9, h⟩ := h
              rw [e9]
              show Wp (d + 1) mc ms M_X11_readPart 162 [cA 81, cI l1, cI (C2 90 (C2 81 19))] [] S C12 Q
              exact wp_return dX11_readPart_162 rfl h
            · have h := h.2 hc
              refine wp_fg [true, false, true] (ls2 := [cA 81, cU, cI (C2 90 (C2 81 19))]) rfl ?_
              exact h
    · have h := h.2 hc
      refine wp_iload_n (nx := 28) dX11_readPart_27 rfl rfl ?_
      refine wp_bipush (nx := 30) dX11_readPart_28 rfl ⟨by decide, i32 (by decide)⟩ ?_
      refine wp_icmp_ne (nx := 33) (tg := 37) dX11_readPart_30 rfl rfl (fun hc => ?_) (fun hc => ?_)
      · have h := h.1 hc
        refine wp_aload_n (nx := 38) dX11_readPart_37 rfl rfl ?_
        refine wp_invV (nx := 41) (N := M_X11_fine) (as := []) (st := []) (mc := 0) (ms := 0) (mc' := mc) (ms' := ms) (a := 81) clsX11 dX11_readPart_38 rfl mok_X11_fine kM_X11_178 ki_X11_fine ke_X11_fine (fo_81 F) (ft_81 F) rfl rfl (leB rfl) (leB rfl) (z0 _) (z0 _) (Wp.mono h ?_)
        intro r13 Sq C14 h
        obtain ⟨e9, h⟩ := h
        rw [e9]
        show Wp (d + 1) mc ms M_X11_readPart 41 [cA 81, cI l1, cI (C2 90 (C2 81 19))] [cI r13] S C14 Q
        refine wp_if_ne (nx := 44) (tg := 45) dX11_readPart_41 rfl rfl (fun hc => ?_) (fun hc => ?_)
        · have h := h.1 hc
          refine wp_aload_n (nx := 46) dX11_readPart_45 rfl rfl ?_
          refine wp_dup (nx := 47) dX11_readPart_46 rfl (k1A _) ?_
          refine wp_getIe (kk := 19) 19 (nx := 50) clsX11 dX11_readPart_47 rfl kF_X11_182 (by decide) (fo_81 F) (ft_81 F) rfl rfl rfl ?_
          refine wp_iconst (nx := 51) dX11_readPart_50 rfl (i32 (by decide)) ?_
          refine wp_iadd (nx := 52) dX11_readPart_51 rfl ?_
          refine wp_putIe (kk := 19) 19 (nx := 55) clsX11 dX11_readPart_52 rfl kF_X11_182 (by decide) (fo_81 F) (ft_81 F) rfl rfl ⟨rfl, rfl⟩ rfl ?_
          refine wp_aload_n (nx := 56) dX11_readPart_55 rfl rfl ?_
          refine wp_iload_n (nx := 57) dX11_readPart_56 rfl rfl ?_
          refine wp_iconst (nx := 58) dX11_readPart_57 rfl (i32 (by decide)) ?_
          refine wp_iadd (nx := 59) dX11_readPart_58 rfl ?_
          refine wp_invV (nx := 62) (N := M_X11_readSum) (as := [cI (w32 (l1 + 1))]) (st := []) (mc := 0) (ms := 0) (mc' := mc) (ms' := ms) (a := 81) clsX11 dX11_readPart_59 rfl mok_X11_readSum kM_X11_194 ki_X11_readSum ke_X11_readSum (fo_81 F) (ft_81 F) rfl rfl (leB rfl) (leB rfl) (z0 _) (z0 _) (Wp.mono h ?_)
          intro r15 Sq C16 h
          obtain ⟨e9, h⟩ := h
          rw [e9]
          show Wp (d + 1) mc ms M_X11_readPart 62 [cA 81, cI l1, cI (C2 90 (C2 81 19))] [] S C16 Q
          refine wp_aload_n (nx := 63) dX11_readPart_62 rfl rfl ?_
          refine wp_bipush (nx := 65) dX11_readPart_63 rfl ⟨by decide, i32 (by decide)⟩ ?_
          refine wp_invS (nx := 68) (N := M_X11_sign) (as := [cI 93]) (st := [cA 81]) (mc := 0) (ms := 0) (mc' := mc) (ms' := ms) dX11_readPart_65 rfl mok_X11_sign kM_X11_224 ks_X11_sign rfl rfl (leB rfl) (leB rfl) (z0 _) (z0 _) (Wp.mono h ?_)
          intro r17 Sq C18 h
          obtain ⟨e9, h⟩ := h
          rw [e9]
          show Wp (d + 1) mc ms M_X11_readPart 68 [cA 81, cI l1, cI (C2 90 (C2 81 19))] [cI r17, cA 81] S C18 Q
          refine wp_invV (nx := 71) (N := M_X11_must) (as := [cI r17]) (st := []) (mc := 0) (ms := 0) (mc' := mc) (ms' := ms) (a := 81) clsX11 dX11_readPart_68 rfl mok_X11_must kM_X11_198 ki_X11_must ke_X11_must (fo_81 F) (ft_81 F) rfl rfl (leB rfl) (leB rfl) (z0 _) (z0 _) (Wp.mono h ?_)
          intro r19 Sq C20 h
          obtain ⟨e9, h⟩ := h
          rw [e9]
          show Wp (d + 1) mc ms M_X11_readPart 71 [cA 81, cI l1, cI (C2 90 (C2 81 19))] [] S C20 Q
          refine wp_goto (nx := 162) dX11_readPart_71 rfl ?_
          exact wp_return dX11_readPart_162 rfl h
        · have h := h.2 hc
          exact wp_return dX11_readPart_44 rfl h
      · have h := h.2 hc
        refine wp_aload_n (nx := 34) dX11_readPart_33 rfl rfl ?_
        refine wp_invV (nx := 37) (N := M_X11_faults) (as := []) (st := []) (mc := 0) (ms := 0) (mc' := mc) (ms' := ms) (a := 81) clsX11 dX11_readPart_34 rfl mok_X11_faults kM_X11_188 ki_X11_faults ke_X11_faults (fo_81 F) (ft_81 F) rfl rfl (leB rfl) (leB rfl) (z0 _) (z0 _) (Wp.mono h ?_)
        intro r21 Sq C22 h
        obtain ⟨e9, h⟩ := h
        rw [e9]
        show Wp (d + 1) mc ms M_X11_readPart 37 [cA 81, cI l1, cI (C2 90 (C2 81 19))] [] S C22 Q
        refine wp_aload_n (nx := 38) dX11_readPart_37 rfl rfl ?_
        refine wp_invV (nx := 41) (N := M_X11_fine) (as := []) (st := []) (mc := 0) (ms := 0) (mc' := mc) (ms' := ms) (a := 81) clsX11 dX11_readPart_38 rfl mok_X11_fine kM_X11_178 ki_X11_fine ke_X11_fine (fo_81 F) (ft_81 F) rfl rfl (leB rfl) (leB rfl) (z0 _) (z0 _) (Wp.mono h ?_)
        intro r23 Sq C24 h
        obtain ⟨e9, h⟩ := h
        rw [e9]
        show Wp (d + 1) mc ms M_X11_readPart 41 [cA 81, cI l1, cI (C2 90 (C2 81 19))] [cI r23] S C24 Q
        refine wp_if_ne (nx := 44) (tg := 45) dX11_readPart_41 rfl rfl (fun hc => ?_) (fun hc => ?_)
        · have h := h.1 hc
          refine wp_aload_n (nx := 46) dX11_readPart_45 rfl rfl ?_
          refine wp_dup (nx := 47) dX11_readPart_46 rfl (k1A _) ?_
          refine wp_getIe (kk := 19) 19 (nx := 50) clsX11 dX11_readPart_47 rfl kF_X11_182 (by decide) (fo_81 F) (ft_81 F) rfl rfl rfl ?_
          refine wp_iconst (nx := 51) dX11_readPart_50 rfl (i32 (by decide)) ?_
          refine wp_iadd (nx := 52) dX11_readPart_51 rfl ?_
          refine wp_putIe (kk := 19) 19 (nx := 55) clsX11 dX11_readPart_52 rfl kF_X11_182 (by decide) (fo_81 F) (ft_81 F) rfl rfl ⟨rfl, rfl⟩ rfl ?_
          refine wp_aload_n (nx := 56) dX11_readPart_55 rfl rfl ?_
          refine wp_iload_n (nx := 57) dX11_readPart_56 rfl rfl ?_
          refine wp_iconst (nx := 58) dX11_readPart_57 rfl (i32 (by decide)) ?_
          refine wp_iadd (nx := 59) dX11_readPart_58 rfl ?_
          refine wp_invV (nx := 62) (N := M_X11_readSum) (as := [cI (w32 (l1 + 1))]) (st := []) (mc := 0) (ms := 0) (mc' := mc) (ms' := ms) (a := 81) clsX11 dX11_readPart_59 rfl mok_X11_readSum kM_X11_194 ki_X11_readSum ke_X11_readSum (fo_81 F) (ft_81 F) rfl rfl (leB rfl) (leB rfl) (z0 _) (z0 _) (Wp.mono h ?_)
          intro r25 Sq C26 h
          obtain ⟨e9, h⟩ := h
          rw [e9]
          show Wp (d + 1) mc ms M_X11_readPart 62 [cA 81, cI l1, cI (C2 90 (C2 81 19))] [] S C26 Q
          refine wp_aload_n (nx := 63) dX11_readPart_62 rfl rfl ?_
          refine wp_bipush (nx := 65) dX11_readPart_63 rfl ⟨by decide, i32 (by decide)⟩ ?_
          refine wp_invS (nx := 68) (N := M_X11_sign) (as := [cI 93]) (st := [cA 81]) (mc := 0) (ms := 0) (mc' := mc) (ms' := ms) dX11_readPart_65 rfl mok_X11_sign kM_X11_224 ks_X11_sign rfl rfl (leB rfl) (leB rfl) (z0 _) (z0 _) (Wp.mono h ?_)
          intro r27 Sq C28 h
          obtain ⟨e9, h⟩ := h
          rw [e9]
          show Wp (d + 1) mc ms M_X11_readPart 68 [cA 81, cI l1, cI (C2 90 (C2 81 19))] [cI r27, cA 81] S C28 Q
          refine wp_invV (nx := 71) (N := M_X11_must) (as := [cI r27]) (st := []) (mc := 0) (ms := 0) (mc' := mc) (ms' := ms) (a := 81) clsX11 dX11_readPart_68 rfl mok_X11_must kM_X11_198 ki_X11_must ke_X11_must (fo_81 F) (ft_81 F) rfl rfl (leB rfl) (leB rfl) (z0 _) (z0 _) (Wp.mono h ?_)
          intro r29 Sq C30 h
          obtain ⟨e9, h⟩ := h
          rw [e9]
          show Wp (d + 1) mc ms M_X11_readPart 71 [cA 81, cI l1, cI (C2 90 (C2 81 19))] [] S C30 Q
          refine wp_goto (nx := 162) dX11_readPart_71 rfl ?_
          exact wp_return dX11_readPart_162 rfl h
        · have h := h.2 hc
          exact wp_return dX11_readPart_44 rfl h
  · have h := h.2 hc
    exact wp_return dX11_readPart_7 rfl h
theorem b_X11_readPart_111 {d mc ms : Nat} {l2 : Int} {S : MS} {C : MC} {Q : Int → MS → MC → Prop} (F : Fix S) (h : K_X11_leaf_0 d 0 0 S C (fun r1 Sq C2 => Sq = S ∧ ((C2 81 10 = 0 → ((C2 81 10 = 0 → Q 0 S C2) ∧ (¬ C2 81 10 = 0 → ((¬ l2 = 20 → Q 0 S C2) ∧ (l2 = 20 → K_X11_mustNumber_0 d 0 0 0 15 S C2 (fun r3 Sq C4 => Sq = S ∧ Q 0 S C4)))))) ∧ (¬ C2 81 10 = 0 → ((¬ l2 = 14 → ((C2 81 10 = 0 → Q 0 S C2) ∧ (¬ C2 81 10 = 0 → ((¬ l2 = 20 → Q 0 S C2) ∧ (l2 = 20 → K_X11_mustNumber_0 d 0 0 0 15 S C2 (fun r5 Sq C6 => Sq = S ∧ Q 0 S C6)))))) ∧ (l2 = 14 → K_X11_mustNumber_0 d 0 0 0 7 S C2 (fun r7 Sq C8 => Sq = S ∧ ((C8 81 10 = 0 → Q 0 S C8) ∧ (¬ C8 81 10 = 0 → ((¬ l2 = 20 → Q 0 S C8) ∧ (l2 = 20 → K_X11_mustNumber_0 d 0 0 0 15 S C8 (fun r9 Sq C10 => Sq = S ∧ Q 0 S C10)))))))))))) : K_X11_readPart_111 (d + 1) mc ms l2 S C Q := by
  show Wp (d + 1) mc ms M_X11_readPart 111 [cA 81, cU, cI l2] [] S C Q
  refine wp_aload_n (nx := 112) dX11_readPart_111 rfl rfl ?_
  refine wp_invV (nx := 115) (N := M_X11_leaf) (as := []) (st := []) (mc := 0) (ms := 0) (mc' := mc) (ms' := ms) (a := 81) clsX11 dX11_readPart_112 rfl mok_X11_leaf kM_X11_240 ki_X11_leaf ke_X11_leaf (fo_81 F) (ft_81 F) rfl rfl (leB rfl) (leB rfl) (z0 _) (z0 _) (Wp.mono h ?_)
  intro r1 Sq C2 h
  obtain ⟨e9, h⟩ := h
  rw [e9]
  show Wp (d + 1) mc ms M_X11_readPart 115 [cA 81, cU, cI l2] [] S C2 Q
  refine wp_aload_n (nx := 116) dX11_readPart_115 rfl rfl ?_
  refine wp_getIe (kk := 10) 10 (nx := 119) clsX11 dX11_readPart_116 rfl kF_X11_208 (by decide) (fo_81 F) (ft_81 F) rfl rfl rfl ?_
  refine wp_if_eq (nx := 122) (tg := 135) dX11_readPart_119 rfl rfl (fun hc => ?_) (fun hc => ?_)
  · have h := h.1 hc
    refine wp_aload_n (nx := 136) dX11_readPart_135 rfl rfl ?_
    refine wp_getIe (kk := 10) 10 (nx := 139) clsX11 dX11_readPart_136 rfl kF_X11_208 (by decide) (fo_81 F) (ft_81 F) rfl rfl rfl ?_
    refine wp_if_eq (nx := 142) (tg := 162) dX11_readPart_139 rfl rfl (fun hc => ?_) (fun hc => ?_)
    · have h := h.1 hc
      exact wp_return dX11_readPart_162 rfl h
    · have h := h.2 hc
      refine wp_iload_n (nx := 143) dX11_readPart_142 rfl rfl ?_
      refine wp_bipush (nx := 145) dX11_readPart_143 rfl ⟨by decide, i32 (by decide)⟩ ?_
      refine wp_icmp_ne (nx := 148) (tg := 162) dX11_readPart_145 rfl rfl (fun hc => ?_) (fun hc => ?_)
      · have h := h.1 hc
        exact wp_return dX11_readPart_162 rfl h
      · have h := h.2 hc
        refine wp_aload_n (nx := 149) dX11_readPart_148 rfl rfl ?_
        refine wp_iconst (nx := 150) dX11_readPart_149 rfl (i32 (by decide)) ?_
        refine wp_bipush (nx := 152) dX11_readPart_150 rfl ⟨by decide, i32 (by decide)⟩ ?_
        refine wp_invV (nx := 155) (N := M_X11_mustNumber) (as := [cI 0, cI 15]) (st := []) (mc := 0) (ms := 0) (mc' := mc) (ms' := ms) (a := 81) clsX11 dX11_readPart_152 rfl mok_X11_mustNumber kM_X11_204 ki_X11_mustNumber ke_X11_mustNumber (fo_81 F) (ft_81 F) rfl rfl (leB rfl) (leB rfl) (z0 _) (z0 _) (Wp.mono h ?_)
        intro r3 Sq C4 h
        obtain ⟨e9, h⟩ := h
        rw [e9]
        show Wp (d + 1) mc ms M_X11_readPart 155 [cA 81, cU, cI l2] [] S C4 Q
        refine wp_goto (nx := 162) dX11_readPart_155 rfl ?_
        exact wp_return dX11_readPart_162 rfl h
  · have h := h.2 hc
    refine wp_iload_n (nx := 123) dX11_readPart_122 rfl rfl ?_
    refine wp_bipush (nx := 125) dX11_readPart_123 rfl ⟨by decide, i32 (by decide)⟩ ?_
    refine wp_icmp_ne (nx := 128) (tg := 135) dX11_readPart_125 rfl rfl (fun hc => ?_) (fun hc => ?_)
    · have h := h.1 hc
      refine wp_aload_n (nx := 136) dX11_readPart_135 rfl rfl ?_
      refine wp_getIe (kk := 10) 10 (nx := 139) clsX11 dX11_readPart_136 rfl kF_X11_208 (by decide) (fo_81 F) (ft_81 F) rfl rfl rfl ?_
      refine wp_if_eq (nx := 142) (tg := 162) dX11_readPart_139 rfl rfl (fun hc => ?_) (fun hc => ?_)
      · have h := h.1 hc
        exact wp_return dX11_readPart_162 rfl h
      · have h := h.2 hc
        refine wp_iload_n (nx := 143) dX11_readPart_142 rfl rfl ?_
        refine wp_bipush (nx := 145) dX11_readPart_143 rfl ⟨by decide, i32 (by decide)⟩ ?_
        refine wp_icmp_ne (nx := 148) (tg := 162) dX11_readPart_145 rfl rfl (fun hc => ?_) (fun hc => ?_)
        · have h := h.1 hc
          exact wp_return dX11_readPart_162 rfl h
        · have h := h.2 hc
          refine wp_aload_n (nx := 149) dX11_readPart_148 rfl rfl ?_
          refine wp_iconst (nx := 150) dX11_readPart_149 rfl (i32 (by decide)) ?_
          refine wp_bipush (nx := 152) dX11_readPart_150 rfl ⟨by decide, i32 (by decide)⟩ ?_
          refine wp_invV (nx := 155) (N := M_X11_mustNumber) (as := [cI 0, cI 15]) (st := []) (mc := 0) (ms := 0) (mc' := mc) (ms' := ms) (a := 81) clsX11 dX11_readPart_152 rfl mok_X11_mustNumber kM_X11_204 ki_X11_mustNumber ke_X11_mustNumber (fo_81 F) (ft_81 F) rfl rfl (leB rfl) (leB rfl) (z0 _) (z0 _) (Wp.mono h ?_)
          intro r5 Sq C6 h
          obtain ⟨e9, h⟩ := h
          rw [e9]
          show Wp (d + 1) mc ms M_X11_readPart 155 [cA 81, cU, cI l2] [] S C6 Q
          refine wp_goto (nx := 162) dX11_readPart_155 rfl ?_
          exact wp_return dX11_readPart_162 rfl h
    · have h := h.2 hc
      refine wp_aload_n (nx := 129) dX11_readPart_128 rfl rfl ?_
      refine wp_iconst (nx := 130) dX11_readPart_129 rfl (i32 (by decide)) ?_
      refine wp_bipush (nx := 132) dX11_readPart_130 rfl ⟨by decide, i32 (by decide)⟩ ?_
      refine wp_invV (nx := 135) (N := M_X11_mustNumber) (as := [cI 0, cI 7]) (st := []) (mc := 0) (ms := 0) (mc' := mc) (ms' := ms) (a := 81) clsX11 dX11_readPart_132 rfl mok_X11_mustNumber kM_X11_204 ki_X11_mustNumber ke_X11_mustNumber (fo_81 F) (ft_81 F) rfl rfl (leB rfl) (leB rfl) (z0 _) (z0 _) (Wp.mono h ?_)
      intro r7 Sq C8 h
      obtain ⟨e9, h⟩ := h
      rw [e9]
      show Wp (d + 1) mc ms M_X11_readPart 135 [cA 81, cU, cI l2] [] S C8 Q
      refine wp_aload_n (nx := 136) dX11_readPart_135 rfl rfl ?_
      refine wp_getIe (kk := 10) 10 (nx := 139) clsX11 dX11_readPart_136 rfl kF_X11_208 (by decide) (fo_81 F) (ft_81 F) rfl rfl rfl ?_
      refine wp_if_eq (nx := 142) (tg := 162) dX11_readPart_139 rfl rfl (fun hc => ?_) (fun hc => ?_)
      · have h := h.1 hc
        exact wp_return dX11_readPart_162 rfl h
      · have h := h.2 hc
        refine wp_iload_n (nx := 143) dX11_readPart_142 rfl rfl ?_
        refine wp_bipush (nx := 145) dX11_readPart_143 rfl ⟨by decide, i32 (by decide)⟩ ?_
        refine wp_icmp_ne (nx := 148) (tg := 162) dX11_readPart_145 rfl rfl (fun hc => ?_) (fun hc => ?_)
        · have h := h.1 hc
          exact wp_return dX11_readPart_162 rfl h
        · have h := h.2 hc
          refine wp_aload_n (nx := 149) dX11_readPart_148 rfl rfl ?_
          refine wp_iconst (nx := 150) dX11_readPart_149 rfl (i32 (by decide)) ?_
          refine wp_bipush (nx := 152) dX11_readPart_150 rfl ⟨by decide, i32 (by decide)⟩ ?_
          refine wp_invV (nx := 155) (N := M_X11_mustNumber) (as := [cI 0, cI 15]) (st := []) (mc := 0) (ms := 0) (mc' := mc) (ms' := ms) (a := 81) clsX11 dX11_readPart_152 rfl mok_X11_mustNumber kM_X11_204 ki_X11_mustNumber ke_X11_mustNumber (fo_81 F) (ft_81 F) rfl rfl (leB rfl) (leB rfl) (z0 _) (z0 _) (Wp.mono h ?_)
          intro r9 Sq C10 h
          obtain ⟨e9, h⟩ := h
          rw [e9]
          show Wp (d + 1) mc ms M_X11_readPart 155 [cA 81, cU, cI l2] [] S C10 Q
          refine wp_goto (nx := 162) dX11_readPart_155 rfl ?_
          exact wp_return dX11_readPart_162 rfl h
theorem b_X11_reads_0 {d mc ms : Nat} {S : MS} {C : MC} {Q : Int → MS → MC → Prop} (F : Fix S) (h : K_X11_splits_0 d 0 0 (C 81 13) S C (fun r1 Sq C2 => Sq = S ∧ K_X11_readOne_0 d 0 0 S ((upC (upC (upC (upC C2 81 13 0) 81 19 0) 81 20 0) 81 21 (-1))) (fun r3 Sq C4 => Sq = S ∧ K_X11_reads_34 (d + 1) mc ms 1 S C4 Q))) : K_X11_reads_0 (d + 1) mc ms S C Q := by
  show Wp (d + 1) mc ms M_X11_reads 0 [cA 81, cU] [] S C Q
  refine wp_aload_n (nx := 1) dX11_reads_0 rfl rfl ?_
  refine wp_aload_n (nx := 2) dX11_reads_1 rfl rfl ?_
  refine wp_getIe (kk := 13) 13 (nx := 5) clsX11 dX11_reads_2 rfl kF_X11_155 (by decide) (fo_81 F) (ft_81 F) rfl rfl rfl ?_
  refine wp_invV (nx := 8) (N := M_X11_splits) (as := [cI (C 81 13)]) (st := []) (mc := 0) (ms := 0) (mc' := mc) (ms' := ms) (a := 81) clsX11 dX11_reads_5 rfl mok_X11_splits kM_X11_243 ki_X11_splits ke_X11_splits (fo_81 F) (ft_81 F) rfl rfl (leB rfl) (leB rfl) (z0 _) (z0 _) (Wp.mono h ?_)
  intro r1 Sq C2 h
  obtain ⟨e9, h⟩ := h
  rw [e9]
  show Wp (d + 1) mc ms M_X11_reads 8 [cA 81, cU] [] S C2 Q
  refine wp_aload_n (nx := 9) dX11_reads_8 rfl rfl ?_
  refine wp_iconst (nx := 10) dX11_reads_9 rfl (i32 (by decide)) ?_
  refine wp_putIe (kk := 13) 13 (nx := 13) clsX11 dX11_reads_10 rfl kF_X11_155 (by decide) (fo_81 F) (ft_81 F) rfl rfl ⟨rfl, rfl⟩ rfl ?_
  refine wp_aload_n (nx := 14) dX11_reads_13 rfl rfl ?_
  refine wp_iconst (nx := 15) dX11_reads_14 rfl (i32 (by decide)) ?_
  refine wp_putIe (kk := 19) 19 (nx := 18) clsX11 dX11_reads_15 rfl kF_X11_182 (by decide) (fo_81 F) (ft_81 F) rfl rfl ⟨rfl, rfl⟩ rfl ?_
  refine wp_aload_n (nx := 19) dX11_reads_18 rfl rfl ?_
  refine wp_iconst (nx := 20) dX11_reads_19 rfl (i32 (by decide)) ?_
  refine wp_putIe (kk := 20) 20 (nx := 23) clsX11 dX11_reads_20 rfl kF_X11_191 (by decide) (fo_81 F) (ft_81 F) rfl rfl ⟨rfl, rfl⟩ rfl ?_
  refine wp_aload_n (nx := 24) dX11_reads_23 rfl rfl ?_
  refine wp_iconst (nx := 25) dX11_reads_24 rfl (i32 (by decide)) ?_
  refine wp_putIe (kk := 21) 21 (nx := 28) clsX11 dX11_reads_25 rfl kF_X11_175 (by decide) (fo_81 F) (ft_81 F) rfl rfl ⟨rfl, rfl⟩ rfl ?_
  refine wp_aload_n (nx := 29) dX11_reads_28 rfl rfl ?_
  refine wp_invV (nx := 32) (N := M_X11_readOne) (as := []) (st := []) (mc := 0) (ms := 0) (mc' := mc) (ms' := ms) (a := 81) clsX11 dX11_reads_29 rfl mok_X11_readOne kM_X11_246 ki_X11_readOne ke_X11_readOne (fo_81 F) (ft_81 F) rfl rfl (leB rfl) (leB rfl) (z0 _) (z0 _) (Wp.mono h ?_)
  intro r3 Sq C4 h
  obtain ⟨e9, h⟩ := h
  rw [e9]
  show Wp (d + 1) mc ms M_X11_reads 32 [cA 81, cU] [] S C4 Q
  refine wp_iconst (nx := 33) dX11_reads_32 rfl (i32 (by decide)) ?_
  refine wp_istore_n (nx := 34) dX11_reads_33 rfl (by decide) ?_
  refine wp_ls (ls2 := [cA 81, cI 1]) rfl ?_
  exact h
theorem b_X11_reads_34 {d mc ms : Nat} {l1 : Int} {S : MS} {C : MC} {Q : Int → MS → MC → Prop} (F : Fix S) (h : K_X11_sign_0 d 0 0 59 S C (fun r1 Sq C2 => Sq = S ∧ K_X11_takes0_0 d 0 0 r1 S C2 (fun r3 Sq C4 => Sq = S ∧ ((r3 = 0 → K_X11_fine_0 d 0 0 S C4 (fun r5 Sq C6 => Sq = S ∧ ((r5 = 0 → K_X11_fine_0 d 0 0 S ((upC C6 81 14 (C6 81 21))) (fun r7 Sq C8 => Sq = S ∧ ((r7 = 0 ∨ r7 = 1) ∧ Q r7 S C8))) ∧ (¬ r5 = 0 → ((C6 81 18 ≤ C6 81 19 → K_X11_fine_0 d 0 0 S ((upC C6 81 14 (C6 81 21))) (fun r9 Sq C10 => Sq = S ∧ ((r9 = 0 ∨ r9 = 1) ∧ Q r9 S C10))) ∧ (¬ C6 81 18 ≤ C6 81 19 → K_X11_faults_0 d 0 0 S C6 (fun r11 Sq C12 => Sq = S ∧ K_X11_fine_0 d 0 0 S ((upC C12 81 14 (C12 81 21))) (fun r13 Sq C14 => Sq = S ∧ ((r13 = 0 ∨ r13 = 1) ∧ Q r13 S C14))))))))) ∧ (¬ r3 = 0 → ((¬ l1 = 12 → K_X11_fine_0 d 0 0 S C4 (fun r15 Sq C16 => Sq = S ∧ ((r15 = 0 → K_X11_reads_34 (d + 1) mc ms (w32 (l1 + 1)) S C16 Q) ∧ (¬ r15 = 0 → K_X11_readOne_0 d 0 0 S C16 (fun r17 Sq C18 => Sq = S ∧ K_X11_reads_34 (d + 1) mc ms (w32 (l1 + 1)) S C18 Q))))) ∧ (l1 = 12 → K_X11_faults_0 d 0 0 S C4 (fun r19 Sq C20 => Sq = S ∧ K_X11_fine_0 d 0 0 S C20 (fun r21 Sq C22 => Sq = S ∧ ((r21 = 0 → K_X11_reads_34 (d + 1) mc ms (w32 (l1 + 1)) S C22 Q) ∧ (¬ r21 = 0 → K_X11_readOne_0 d 0 0 S C22 (fun r23 Sq C24 => Sq = S ∧ K_X11_reads_34 (d + 1) mc ms (w32 (l1 + 1)) S C24 Q)))))))))))) : K_X11_reads_34 (d + 1) mc ms l1 S C Q := by
  show Wp (d + 1) mc ms M_X11_reads 34 [cA 81, cI l1] [] S C Q
  refine wp_aload_n (nx := 35) dX11_reads_34 rfl rfl ?_
  refine wp_bipush (nx := 37) dX11_reads_35 rfl ⟨by decide, i32 (by decide)⟩ ?_
  refine wp_invS (nx := 40) (N := M_X11_sign) (as := [cI 59]) (st := [cA 81]) (mc := 0) (ms := 0) (mc' := mc) (ms' := ms) dX11_reads_37 rfl mok_X11_sign kM_X11_224 ks_X11_sign rfl rfl (leB rfl) (leB rfl) (z0 _) (z0 _) (Wp.mono h ?_)
  intro r1 Sq C2 h
  obtain ⟨e9, h⟩ := h
  rw [e9]
  show Wp (d + 1) mc ms M_X11_reads 40 [cA 81, cI l1] [cI r1, cA 81] S C2 Q
  refine wp_invV (nx := 43) (N := M_X11_takes0) (as := [cI r1]) (st := []) (mc := 0) (ms := 0) (mc' := mc) (ms' := ms) (a := 81) clsX11 dX11_reads_40 rfl mok_X11_takes0 kM_X11_185 ki_X11_takes0 ke_X11_takes0 (fo_81 F) (ft_81 F) rfl rfl (leB rfl) (leB rfl) (z0 _) (z0 _) (Wp.mono h ?_)
  intro r3 Sq C4 h
  obtain ⟨e9, h⟩ := h
  rw [e9]
  show Wp (d + 1) mc ms M_X11_reads 43 [cA 81, cI l1] [cI r3] S C4 Q
  refine wp_if_eq (nx := 46) (tg := 73) dX11_reads_43 rfl rfl (fun hc => ?_) (fun hc => ?_)
  · have h := h.1 hc
    refine wp_aload_n (nx := 74) dX11_reads_73 rfl rfl ?_
    refine wp_invV (nx := 77) (N := M_X11_fine) (as := []) (st := []) (mc := 0) (ms := 0) (mc' := mc) (ms' := ms) (a := 81) clsX11 dX11_reads_74 rfl mok_X11_fine kM_X11_178 ki_X11_fine ke_X11_fine (fo_81 F) (ft_81 F) rfl rfl (leB rfl) (leB rfl) (z0 _) (z0 _) (Wp.mono h ?_)
    intro r5 Sq C6 h
    obtain ⟨e9, h⟩ := h
    rw [e9]
    show Wp (d + 1) mc ms M_X11_reads 77 [cA 81, cI l1] [cI r5] S C6 Q
    refine wp_if_eq (nx := 80) (tg := 95) dX11_reads_77 rfl rfl (fun hc => ?_) (fun hc => ?_)
    · have h := h.1 hc
      refine wp_aload_n (nx := 96) dX11_reads_95 rfl rfl ?_
      refine wp_aload_n (nx := 97) dX11_reads_96 rfl rfl ?_
      refine wp_getIe (kk := 21) 21 (nx := 100) clsX11 dX11_reads_97 rfl kF_X11_175 (by decide) (fo_81 F) (ft_81 F) rfl rfl rfl ?_
      refine wp_putIe (kk := 14) 14 (nx := 103) clsX11 dX11_reads_100 rfl kF_X11_51 (by decide) (fo_81 F) (ft_81 F) rfl rfl ⟨rfl, rfl⟩ rfl ?_
      refine wp_aload_n (nx := 104) dX11_reads_103 rfl rfl ?_
      refine wp_invV (nx := 107) (N := M_X11_fine) (as := []) (st := []) (mc := 0) (ms := 0) (mc' := mc) (ms' := ms) (a := 81) clsX11 dX11_reads_104 rfl mok_X11_fine kM_X11_178 ki_X11_fine ke_X11_fine (fo_81 F) (ft_81 F) rfl rfl (leB rfl) (leB rfl) (z0 _) (z0 _) (Wp.mono h ?_)
      intro r7 Sq C8 h
      obtain ⟨e9, h⟩ := h
      rw [e9]
      show Wp (d + 1) mc ms M_X11_reads 107 [cA 81, cI l1] [cI r7] S C8 Q
      obtain ⟨hz, h⟩ := h
      exact wp_ireturn dX11_reads_107 rfl rfl (nz_of hz) h
    · have h := h.2 hc
      refine wp_aload_n (nx := 81) dX11_reads_80 rfl rfl ?_
      refine wp_getIe (kk := 19) 19 (nx := 84) clsX11 dX11_reads_81 rfl kF_X11_182 (by decide) (fo_81 F) (ft_81 F) rfl rfl rfl ?_
      refine wp_aload_n (nx := 85) dX11_reads_84 rfl rfl ?_
      refine wp_getIe (kk := 18) 18 (nx := 88) clsX11 dX11_reads_85 rfl kF_X11_161 (by decide) (fo_81 F) (ft_81 F) rfl rfl rfl ?_
      refine wp_icmp_ge (nx := 91) (tg := 95) dX11_reads_88 rfl rfl (fun hc => ?_) (fun hc => ?_)
      · have h := h.1 hc
        refine wp_aload_n (nx := 96) dX11_reads_95 rfl rfl ?_
        refine wp_aload_n (nx := 97) dX11_reads_96 rfl rfl ?_
        refine wp_getIe (kk := 21) 21 (nx := 100) clsX11 dX11_reads_97 rfl kF_X11_175 (by decide) (fo_81 F) (ft_81 F) rfl rfl rfl ?_
        refine wp_putIe (kk := 14) 14 (nx := 103) clsX11 dX11_reads_100 rfl kF_X11_51 (by decide) (fo_81 F) (ft_81 F) rfl rfl ⟨rfl, rfl⟩ rfl ?_
        refine wp_aload_n (nx := 104) dX11_reads_103 rfl rfl ?_
        refine wp_invV (nx := 107) (N := M_X11_fine) (as := []) (st := []) (mc := 0) (ms := 0) (mc' := mc) (ms' := ms) (a := 81) clsX11 dX11_reads_104 rfl mok_X11_fine kM_X11_178 ki_X11_fine ke_X11_fine (fo_81 F) (ft_81 F) rfl rfl (leB rfl) (leB rfl) (z0 _) (z0 _) (Wp.mono h ?_)
        intro r9 Sq C10 h
        obtain ⟨e9, h⟩ := h
        rw [e9]
        show Wp (d + 1) mc ms M_X11_reads 107 [cA 81, cI l1] [cI r9] S C10 Q
        obtain ⟨hz, h⟩ := h
        exact wp_ireturn dX11_reads_107 rfl rfl (nz_of hz) h
      · have h := h.2 hc
        refine wp_aload_n (nx := 92) dX11_reads_91 rfl rfl ?_
        refine wp_invV (nx := 95) (N := M_X11_faults) (as := []) (st := []) (mc := 0) (ms := 0) (mc' := mc) (ms' := ms) (a := 81) clsX11 dX11_reads_92 rfl mok_X11_faults kM_X11_188 ki_X11_faults ke_X11_faults (fo_81 F) (ft_81 F) rfl rfl (leB rfl) (leB rfl) (z0 _) (z0 _) (Wp.mono h ?_)
        intro r11 Sq C12 h
        obtain ⟨e9, h⟩ := h
        rw [e9]
        show Wp (d + 1) mc ms M_X11_reads 95 [cA 81, cI l1] [] S C12 Q
        refine wp_aload_n (nx := 96) dX11_reads_95 rfl rfl ?_
        refine wp_aload_n (nx := 97) dX11_reads_96 rfl rfl ?_
        refine wp_getIe (kk := 21) 21 (nx := 100) clsX11 dX11_reads_97 rfl kF_X11_175 (by decide) (fo_81 F) (ft_81 F) rfl rfl rfl ?_
        refine wp_putIe (kk := 14) 14 (nx := 103) clsX11 dX11_reads_100 rfl kF_X11_51 (by decide) (fo_81 F) (ft_81 F) rfl rfl ⟨rfl, rfl⟩ rfl ?_
        refine wp_aload_n (nx := 104) dX11_reads_103 rfl rfl ?_
        refine wp_invV (nx := 107) (N := M_X11_fine) (as := []) (st := []) (mc := 0) (ms := 0) (mc' := mc) (ms' := ms) (a := 81) clsX11 dX11_reads_104 rfl mok_X11_fine kM_X11_178 ki_X11_fine ke_X11_fine (fo_81 F) (ft_81 F) rfl rfl (leB rfl) (leB rfl) (z0 _) (z0 _) (Wp.mono h ?_)
        intro r13 Sq C14 h
        obtain ⟨e9, h⟩ := h
        rw [e9]
        show Wp (d + 1) mc ms M_X11_reads 107 [cA 81, cI l1] [cI r13] S C14 Q
        obtain ⟨hz, h⟩ := h
        exact wp_ireturn dX11_reads_107 rfl rfl (nz_of hz) h
  · have h := h.2 hc
    refine wp_iload_n (nx := 47) dX11_reads_46 rfl rfl ?_
    refine wp_bipush (nx := 49) dX11_reads_47 rfl ⟨by decide, i32 (by decide)⟩ ?_
    refine wp_icmp_ne (nx := 52) (tg := 56) dX11_reads_49 rfl rfl (fun hc => ?_) (fun hc => ?_)
    · have h := h.1 hc
      refine wp_aload_n (nx := 57) dX11_reads_56 rfl rfl ?_
      refine wp_invV (nx := 60) (N := M_X11_fine) (as := []) (st := []) (mc := 0) (ms := 0) (mc' := mc) (ms' := ms) (a := 81) clsX11 dX11_reads_57 rfl mok_X11_fine kM_X11_178 ki_X11_fine ke_X11_fine (fo_81 F) (ft_81 F) rfl rfl (leB rfl) (leB rfl) (z0 _) (z0 _) (Wp.mono h ?_)
      intro r15 Sq C16 h
      obtain ⟨e9, h⟩ := h
      rw [e9]
      show Wp (d + 1) mc ms M_X11_reads 60 [cA 81, cI l1] [cI r15] S C16 Q
      refine wp_if_eq (nx := 63) (tg := 67) dX11_reads_60 rfl rfl (fun hc => ?_) (fun hc => ?_)
      · have h := h.1 hc
        refine wp_iinc (nx := 70) dX11_reads_67 rfl rfl (by decide) ?_
        refine wp_ls (ls2 := [cA 81, cI (w32 (l1 + 1))]) rfl ?_
        refine wp_goto (nx := 34) dX11_reads_70 rfl ?_
        exact h
      · have h := h.2 hc
        refine wp_aload_n (nx := 64) dX11_reads_63 rfl rfl ?_
        refine wp_invV (nx := 67) (N := M_X11_readOne) (as := []) (st := []) (mc := 0) (ms := 0) (mc' := mc) (ms' := ms) (a := 81) clsX11 dX11_reads_64 rfl mok_X11_readOne kM_X11_246 ki_X11_readOne ke_X11_readOne (fo_81 F) (ft_81 F) rfl rfl (leB rfl) (leB rfl) (z0 _) (z0 _) (Wp.mono h ?_)
        intro r17 Sq C18 h
        obtain ⟨e9, h⟩ := h
        rw [e9]
        show Wp (d + 1) mc ms M_X11_reads 67 [cA 81, cI l1] [] S C18 Q
        refine wp_iinc (nx := 70) dX11_reads_67 rfl rfl (by decide) ?_
        refine wp_ls (ls2 := [cA 81, cI (w32 (l1 + 1))]) rfl ?_
        refine wp_goto (nx := 34) dX11_reads_70 rfl ?_
        exact h
    · have h := h.2 hc
      refine wp_aload_n (nx := 53) dX11_reads_52 rfl rfl ?_
      refine wp_invV (nx := 56) (N := M_X11_faults) (as := []) (st := []) (mc := 0) (ms := 0) (mc' := mc) (ms' := ms) (a := 81) clsX11 dX11_reads_53 rfl mok_X11_faults kM_X11_188 ki_X11_faults ke_X11_faults (fo_81 F) (ft_81 F) rfl rfl (leB rfl) (leB rfl) (z0 _) (z0 _) (Wp.mono h ?_)
      intro r19 Sq C20 h
      obtain ⟨e9, h⟩ := h
      rw [e9]
      show Wp (d + 1) mc ms M_X11_reads 56 [cA 81, cI l1] [] S C20 Q
      refine wp_aload_n (nx := 57) dX11_reads_56 rfl rfl ?_
      refine wp_invV (nx := 60) (N := M_X11_fine) (as := []) (st := []) (mc := 0) (ms := 0) (mc' := mc) (ms' := ms) (a := 81) clsX11 dX11_reads_57 rfl mok_X11_fine kM_X11_178 ki_X11_fine ke_X11_fine (fo_81 F) (ft_81 F) rfl rfl (leB rfl) (leB rfl) (z0 _) (z0 _) (Wp.mono h ?_)
      intro r21 Sq C22 h
      obtain ⟨e9, h⟩ := h
      rw [e9]
      show Wp (d + 1) mc ms M_X11_reads 60 [cA 81, cI l1] [cI r21] S C22 Q
      refine wp_if_eq (nx := 63) (tg := 67) dX11_reads_60 rfl rfl (fun hc => ?_) (fun hc => ?_)
      · have h := h.1 hc
        refine wp_iinc (nx := 70) dX11_reads_67 rfl rfl (by decide) ?_
        refine wp_ls (ls2 := [cA 81, cI (w32 (l1 + 1))]) rfl ?_
        refine wp_goto (nx := 34) dX11_reads_70 rfl ?_
        exact h
      · have h := h.2 hc
        refine wp_aload_n (nx := 64) dX11_reads_63 rfl rfl ?_
        refine wp_invV (nx := 67) (N := M_X11_readOne) (as := []) (st := []) (mc := 0) (ms := 0) (mc' := mc) (ms' := ms) (a := 81) clsX11 dX11_reads_64 rfl mok_X11_readOne kM_X11_246 ki_X11_readOne ke_X11_readOne (fo_81 F) (ft_81 F) rfl rfl (leB rfl) (leB rfl) (z0 _) (z0 _) (Wp.mono h ?_)
        intro r23 Sq C24 h
        obtain ⟨e9, h⟩ := h
        rw [e9]
        show Wp (d + 1) mc ms M_X11_reads 67 [cA 81, cI l1] [] S C24 Q
        refine wp_iinc (nx := 70) dX11_reads_67 rfl rfl (by decide) ?_
        refine wp_ls (ls2 := [cA 81, cI (w32 (l1 + 1))]) rfl ?_
        refine wp_goto (nx := 34) dX11_reads_70 rfl ?_
        exact h
theorem b_X11_readsAs_0 {d mc ms : Nat} {l1 : Int} {S : MS} {C : MC} {Q : Int → MS → MC → Prop} (F : Fix S) (h : (l1 = 0 ∨ l1 = 1) ∧ ((l1 = 0 → ((l1 = 0 → K_X11_reads_0 d 0 0 S ((upC (upC (upC C 81 10 l1) 81 8 8) 81 9 15)) (fun r1 Sq C2 => Sq = S ∧ ((r1 = 0 ∨ r1 = 1) ∧ Q r1 S C2))) ∧ (¬ l1 = 0 → K_X11_reads_0 d 0 0 S ((upC (upC (upC C 81 10 l1) 81 8 8) 81 9 20)) (fun r3 Sq C4 => Sq = S ∧ ((r3 = 0 ∨ r3 = 1) ∧ Q r3 S C4))))) ∧ (¬ l1 = 0 → ((l1 = 0 → K_X11_reads_0 d 0 0 S ((upC (upC (upC C 81 10 l1) 81 8 14) 81 9 15)) (fun r5 Sq C6 => Sq = S ∧ ((r5 = 0 ∨ r5 = 1) ∧ Q r5 S C6))) ∧ (¬ l1 = 0 → K_X11_reads_0 d 0 0 S ((upC (upC (upC C 81 10 l1) 81 8 14) 81 9 20)) (fun r7 Sq C8 => Sq = S ∧ ((r7 = 0 ∨ r7 = 1) ∧ Q r7 S C8))))))) : K_X11_readsAs_0 (d + 1) mc ms l1 S C Q := by
  show Wp (d + 1) mc ms M_X11_readsAs 0 [cA 81, cI l1] [] S C Q
  refine wp_aload_n (nx := 1) dX11_readsAs_0 rfl rfl ?_
  refine wp_iload_n (nx := 2) dX11_readsAs_1 rfl rfl ?_
  obtain ⟨hz, h⟩ := h
  refine wp_putIe (kk := 10) 10 (nx := 5) clsX11 dX11_readsAs_2 rfl kF_X11_208 (by decide) (fo_81 F) (ft_81 F) rfl rfl (fz_of hz) rfl ?_
  refine wp_aload_n (nx := 6) dX11_readsAs_5 rfl rfl ?_
  refine wp_iload_n (nx := 7) dX11_readsAs_6 rfl rfl ?_
  refine wp_if_eq (nx := 10) (tg := 15) dX11_readsAs_7 rfl rfl (fun hc => ?_) (fun hc => ?_)
  · have h := h.1 hc
    refine wp_bipush (nx := 17) dX11_readsAs_15 rfl ⟨by decide, i32 (by decide)⟩ ?_
    refine wp_putIe (kk := 8) 8 (nx := 20) clsX11 dX11_readsAs_17 rfl kF_X11_234 (by decide) (fo_81 F) (ft_81 F) rfl rfl ⟨rfl, rfl⟩ rfl ?_
    refine wp_aload_n (nx := 21) dX11_readsAs_20 rfl rfl ?_
    refine wp_iload_n (nx := 22) dX11_readsAs_21 rfl rfl ?_
    refine wp_if_eq (nx := 25) (tg := 30) dX11_readsAs_22 rfl rfl (fun hc => ?_) (fun hc => ?_)
    · have h := h.1 hc
      refine wp_bipush (nx := 32) dX11_readsAs_30 rfl ⟨by decide, i32 (by decide)⟩ ?_
      refine wp_putIe (kk := 9) 9 (nx := 35) clsX11 dX11_readsAs_32 rfl kF_X11_237 (by decide) (fo_81 F) (ft_81 F) rfl rfl ⟨rfl, rfl⟩ rfl ?_
      refine wp_aload_n (nx := 36) dX11_readsAs_35 rfl rfl ?_
      refine wp_invV (nx := 39) (N := M_X11_reads) (as := []) (st := []) (mc := 0) (ms := 0) (mc' := mc) (ms' := ms) (a := 81) clsX11 dX11_readsAs_36 rfl mok_X11_reads kM_X11_249 ki_X11_reads ke_X11_reads (fo_81 F) (ft_81 F) rfl rfl (leB rfl) (leB rfl) (z0 _) (z0 _) (Wp.mono h ?_)
      intro r1 Sq C2 h
      obtain ⟨e9, h⟩ := h
      rw [e9]
      show Wp (d + 1) mc ms M_X11_readsAs 39 [cA 81, cI l1] [cI r1] S C2 Q
      obtain ⟨hz, h⟩ := h
      exact wp_ireturn dX11_readsAs_39 rfl rfl (nz_of hz) h
    · have h := h.2 hc
      refine wp_bipush (nx := 27) dX11_readsAs_25 rfl ⟨by decide, i32 (by decide)⟩ ?_
      refine wp_goto (nx := 32) dX11_readsAs_27 rfl ?_
      refine wp_putIe (kk := 9) 9 (nx := 35) clsX11 dX11_readsAs_32 rfl kF_X11_237 (by decide) (fo_81 F) (ft_81 F) rfl rfl ⟨rfl, rfl⟩ rfl ?_
      refine wp_aload_n (nx := 36) dX11_readsAs_35 rfl rfl ?_
      refine wp_invV (nx := 39) (N := M_X11_reads) (as := []) (st := []) (mc := 0) (ms := 0) (mc' := mc) (ms' := ms) (a := 81) clsX11 dX11_readsAs_36 rfl mok_X11_reads kM_X11_249 ki_X11_reads ke_X11_reads (fo_81 F) (ft_81 F) rfl rfl (leB rfl) (leB rfl) (z0 _) (z0 _) (Wp.mono h ?_)
      intro r3 Sq C4 h
      obtain ⟨e9, h⟩ := h
      rw [e9]
      show Wp (d + 1) mc ms M_X11_readsAs 39 [cA 81, cI l1] [cI r3] S C4 Q
      obtain ⟨hz, h⟩ := h
      exact wp_ireturn dX11_readsAs_39 rfl rfl (nz_of hz) h
  · have h := h.2 hc
    refine wp_bipush (nx := 12) dX11_readsAs_10 rfl ⟨by decide, i32 (by decide)⟩ ?_
    refine wp_goto (nx := 17) dX11_readsAs_12 rfl ?_
    refine wp_putIe (kk := 8) 8 (nx := 20) clsX11 dX11_readsAs_17 rfl kF_X11_234 (by decide) (fo_81 F) (ft_81 F) rfl rfl ⟨rfl, rfl⟩ rfl ?_
    refine wp_aload_n (nx := 21) dX11_readsAs_20 rfl rfl ?_
    refine wp_iload_n (nx := 22) dX11_readsAs_21 rfl rfl ?_
    refine wp_if_eq (nx := 25) (tg := 30) dX11_readsAs_22 rfl rfl (fun hc => ?_) (fun hc => ?_)
    · have h := h.1 hc
      refine wp_bipush (nx := 32) dX11_readsAs_30 rfl ⟨by decide, i32 (by decide)⟩ ?_
      refine wp_putIe (kk := 9) 9 (nx := 35) clsX11 dX11_readsAs_32 rfl kF_X11_237 (by decide) (fo_81 F) (ft_81 F) rfl rfl ⟨rfl, rfl⟩ rfl ?_
      refine wp_aload_n (nx := 36) dX11_readsAs_35 rfl rfl ?_
      refine wp_invV (nx := 39) (N := M_X11_reads) (as := []) (st := []) (mc := 0) (ms := 0) (mc' := mc) (ms' := ms) (a := 81) clsX11 dX11_readsAs_36 rfl mok_X11_reads kM_X11_249 ki_X11_reads ke_X11_reads (fo_81 F) (ft_81 F) rfl rfl (leB rfl) (leB rfl) (z0 _) (z0 _) (Wp.mono h ?_)
      intro r5 Sq C6 h
      obtain ⟨e9, h⟩ := h
      rw [e9]
      show Wp (d + 1) mc ms M_X11_readsAs 39 [cA 81, cI l1] [cI r5] S C6 Q
      obtain ⟨hz, h⟩ := h
      exact wp_ireturn dX11_readsAs_39 rfl rfl (nz_of hz) h
    · have h := h.2 hc
      refine wp_bipush (nx := 27) dX11_readsAs_25 rfl ⟨by decide, i32 (by decide)⟩ ?_
      refine wp_goto (nx := 32) dX11_readsAs_27 rfl ?_
      refine wp_putIe (kk := 9) 9 (nx := 35) clsX11 dX11_readsAs_32 rfl kF_X11_237 (by decide) (fo_81 F) (ft_81 F) rfl rfl ⟨rfl, rfl⟩ rfl ?_
      refine wp_aload_n (nx := 36) dX11_readsAs_35 rfl rfl ?_
      refine wp_invV (nx := 39) (N := M_X11_reads) (as := []) (st := []) (mc := 0) (ms := 0) (mc' := mc) (ms' := ms) (a := 81) clsX11 dX11_readsAs_36 rfl mok_X11_reads kM_X11_249 ki_X11_reads ke_X11_reads (fo_81 F) (ft_81 F) rfl rfl (leB rfl) (leB rfl) (z0 _) (z0 _) (Wp.mono h ?_)
      intro r7 Sq C8 h
      obtain ⟨e9, h⟩ := h
      rw [e9]
      show Wp (d + 1) mc ms M_X11_readsAs 39 [cA 81, cI l1] [cI r7] S C8 Q
      obtain ⟨hz, h⟩ := h
      exact wp_ireturn dX11_readsAs_39 rfl rfl (nz_of hz) h
theorem b_X11_lays_0 {d mc ms : Nat} {l1 : Int} {S : MS} {C : MC} {Q : Int → MS → MC → Prop} (F : Fix S) (h : ((0 : Int) ≤ w32 (49 + l1) ∧ w32 (49 + l1) < 5656) ∧ K_X11_lays_15 d mc ms l1 0 S (upC C 83 (w32 (49 + l1)) (C 81 18)) Q) : K_X11_lays_0 d mc ms l1 S C Q := by
  show Wp d mc ms M_X11_lays 0 [cA 81, cI l1, cU] [] S C Q
  refine wp_aload_n (nx := 1) dX11_lays_0 rfl rfl ?_
  refine wp_getAe (kk := 2) (nx := 4) clsX11 dX11_lays_1 rfl kF_X11_28 (by decide) (fo_81 F) (ft_81 F) rfl (fp_81_2 F) ?_
  refine wp_bipush (nx := 6) dX11_lays_4 rfl ⟨by decide, i32 (by decide)⟩ ?_
  refine wp_iload_n (nx := 7) dX11_lays_6 rfl rfl ?_
  refine wp_iadd (nx := 8) dX11_lays_7 rfl ?_
  refine wp_aload_n (nx := 9) dX11_lays_8 rfl rfl ?_
  refine wp_getIe (kk := 18) 18 (nx := 12) clsX11 dX11_lays_9 rfl kF_X11_161 (by decide) (fo_81 F) (ft_81 F) rfl rfl rfl ?_
  obtain ⟨hi, h⟩ := h
  refine wp_iastoreE (nx := 13) dX11_lays_12 rfl (fo_83 F) (fl_83 F) hi (ft_83 F) ?_
  refine wp_iconst (nx := 14) dX11_lays_13 rfl (i32 (by decide)) ?_
  refine wp_istore_n (nx := 15) dX11_lays_14 rfl (by decide) ?_
  refine wp_ls (ls2 := [cA 81, cI l1, cI 0]) rfl ?_
  exact h
theorem b_X11_lays_15 {d mc ms : Nat} {l1 l2 : Int} {S : MS} {C : MC} {Q : Int → MS → MC → Prop} (F : Fix S) (h : ((C 81 18 ≤ l2 → Q 0 S C) ∧ (¬ C 81 18 ≤ l2 → ((0 : Int) ≤ l2 ∧ l2 < 401) ∧ ((0 : Int) ≤ w32 ((w32 (56 + (w32 (400 * l1)))) + l2) ∧ w32 ((w32 (56 + (w32 (400 * l1)))) + l2) < 5656) ∧ ((0 : Int) ≤ l2 ∧ l2 < 401) ∧ ((0 : Int) ≤ w32 ((w32 (2856 + (w32 (400 * l1)))) + l2) ∧ w32 ((w32 (2856 + (w32 (400 * l1)))) + l2) < 5656) ∧ K_X11_lays_15 d mc ms l1 (w32 (l2 + 1)) S (upC (upC C 83 (w32 ((w32 (56 + (w32 (400 * l1)))) + l2)) (C 90 l2)) 83 (w32 ((w32 (2856 + (w32 (400 * l1)))) + l2)) (C 91 l2)) Q))) : K_X11_lays_15 d mc ms l1 l2 S C Q := by
  show Wp d mc ms M_X11_lays 15 [cA 81, cI l1, cI l2] [] S C Q
  refine wp_iload_n (nx := 16) dX11_lays_15 rfl rfl ?_
  refine wp_aload_n (nx := 17) dX11_lays_16 rfl rfl ?_
  refine wp_getIe (kk := 18) 18 (nx := 20) clsX11 dX11_lays_17 rfl kF_X11_161 (by decide) (fo_81 F) (ft_81 F) rfl rfl rfl ?_
  refine wp_icmp_ge (nx := 23) (tg := 72) dX11_lays_20 rfl rfl (fun hc => ?_) (fun hc => ?_)
  · have h := h.1 hc
    exact wp_return dX11_lays_72 rfl h
  · have h := h.2 hc
    refine wp_aload_n (nx := 24) dX11_lays_23 rfl rfl ?_
    refine wp_getAe (kk := 2) (nx := 27) clsX11 dX11_lays_24 rfl kF_X11_28 (by decide) (fo_81 F) (ft_81 F) rfl (fp_81_2 F) ?_
    refine wp_bipush (nx := 29) dX11_lays_27 rfl ⟨by decide, i32 (by decide)⟩ ?_
    refine wp_sipush (nx := 32) dX11_lays_29 rfl ⟨by decide, i32 (by decide)⟩ ?_
    refine wp_iload_n (nx := 33) dX11_lays_32 rfl rfl ?_
    refine wp_imul (nx := 34) dX11_lays_33 rfl ?_
    refine wp_iadd (nx := 35) dX11_lays_34 rfl ?_
    refine wp_iload_n (nx := 36) dX11_lays_35 rfl rfl ?_
    refine wp_iadd (nx := 37) dX11_lays_36 rfl ?_
    refine wp_aload_n (nx := 38) dX11_lays_37 rfl rfl ?_
    refine wp_getAe (kk := 15) (nx := 41) clsX11 dX11_lays_38 rfl kF_X11_54 (by decide) (fo_81 F) (ft_81 F) rfl (fp_81_15 F) ?_
    refine wp_iload_n (nx := 42) dX11_lays_41 rfl rfl ?_
    obtain ⟨hi, h⟩ := h
    refine wp_ialoadE (nx := 43) dX11_lays_42 rfl (fo_90 F) (fl_90 F) hi (ft_90 F) rfl ?_
    obtain ⟨hi, h⟩ := h
    refine wp_iastoreE (nx := 44) dX11_lays_43 rfl (fo_83 F) (fl_83 F) hi (ft_83 F) ?_
    refine wp_aload_n (nx := 45) dX11_lays_44 rfl rfl ?_
    refine wp_getAe (kk := 2) (nx := 48) clsX11 dX11_lays_45 rfl kF_X11_28 (by decide) (fo_81 F) (ft_81 F) rfl (fp_81_2 F) ?_
    refine wp_sipush (nx := 51) dX11_lays_48 rfl ⟨by decide, i32 (by decide)⟩ ?_
    refine wp_sipush (nx := 54) dX11_lays_51 rfl ⟨by decide, i32 (by decide)⟩ ?_
    refine wp_iload_n (nx := 55) dX11_lays_54 rfl rfl ?_
    refine wp_imul (nx := 56) dX11_lays_55 rfl ?_
    refine wp_iadd (nx := 57) dX11_lays_56 rfl ?_
    refine wp_iload_n (nx := 58) dX11_lays_57 rfl rfl ?_
    refine wp_iadd (nx := 59) dX11_lays_58 rfl ?_
    refine wp_aload_n (nx := 60) dX11_lays_59 rfl rfl ?_
    refine wp_getAe (kk := 16) (nx := 63) clsX11 dX11_lays_60 rfl kF_X11_57 (by decide) (fo_81 F) (ft_81 F) rfl (fp_81_16 F) ?_
    refine wp_iload_n (nx := 64) dX11_lays_63 rfl rfl ?_
    obtain ⟨hi, h⟩ := h
    refine wp_ialoadE (nx := 65) dX11_lays_64 rfl (fo_91 F) (fl_91 F) hi (ft_91 F) (upC_sA (by decide)) ?_
    obtain ⟨hi, h⟩ := h
    refine wp_iastoreE (nx := 66) dX11_lays_65 rfl (fo_83 F) (fl_83 F) hi (ft_83 F) ?_
    refine wp_iinc (nx := 69) dX11_lays_66 rfl rfl (by decide) ?_
    refine wp_ls (ls2 := [cA 81, cI l1, cI (w32 (l2 + 1))]) rfl ?_
    refine wp_goto (nx := 15) dX11_lays_69 rfl ?_
    exact h
theorem b_X11_law_0 {d mc ms : Nat} {S : MS} {C : MC} {Q : Int → MS → MC → Prop} (F : Fix S) (h : ((¬ C 83 47 = 6 → K_X11_readsAs_0 d 0 0 0 S C (fun r1 Sq C2 => Sq = S ∧ ((¬ r1 = 0 → K_X11_lays_0 d 0 0 (C2 83 47) S C2 (fun r3 Sq C4 => Sq = S ∧ K_X11_good_0 d 0 0 (w32 ((w32 ((C4 83 47) + 1)) - 1)) S ((upC C4 83 47 (w32 ((C4 83 47) + 1)))) (fun r5 Sq C6 => Sq = S ∧ Q r5 S C6))) ∧ (r1 = 0 → K_X11_refuses_0 d 0 0 (-6) S C2 (fun r7 Sq C8 => Sq = S ∧ Q r7 S C8))))) ∧ (C 83 47 = 6 → K_X11_refuses_0 d 0 0 (-5) S ((upC C 81 13 0)) (fun r9 Sq C10 => Sq = S ∧ Q r9 S C10)))) : K_X11_law_0 (d + 1) mc ms S C Q := by
  show Wp (d + 1) mc ms M_X11_law 0 [cA 81] [] S C Q
  refine wp_aload_n (nx := 1) dX11_law_0 rfl rfl ?_
  refine wp_getAe (kk := 2) (nx := 4) clsX11 dX11_law_1 rfl kF_X11_28 (by decide) (fo_81 F) (ft_81 F) rfl (fp_81_2 F) ?_
  refine wp_bipush (nx := 6) dX11_law_4 rfl ⟨by decide, i32 (by decide)⟩ ?_
  refine wp_ialoadE (nx := 7) dX11_law_6 rfl (fo_83 F) (fl_83 F) (by decide) (ft_83 F) rfl ?_
  refine wp_bipush (nx := 9) dX11_law_7 rfl ⟨by decide, i32 (by decide)⟩ ?_
  refine wp_icmp_ne (nx := 12) (tg := 24) dX11_law_9 rfl rfl (fun hc => ?_) (fun hc => ?_)
  · have h := h.1 hc
    refine wp_aload_n (nx := 25) dX11_law_24 rfl rfl ?_
    refine wp_iconst (nx := 26) dX11_law_25 rfl (i32 (by decide)) ?_
    refine wp_invV (nx := 29) (N := M_X11_readsAs) (as := [cI 0]) (st := []) (mc := 0) (ms := 0) (mc' := mc) (ms' := ms) (a := 81) clsX11 dX11_law_26 rfl mok_X11_readsAs kM_X11_252 ki_X11_readsAs ke_X11_readsAs (fo_81 F) (ft_81 F) rfl rfl (leB rfl) (leB rfl) (z0 _) (z0 _) (Wp.mono h ?_)
    intro r1 Sq C2 h
    obtain ⟨e9, h⟩ := h
    rw [e9]
    show Wp (d + 1) mc ms M_X11_law 29 [cA 81] [cI r1] S C2 Q
    refine wp_if_ne (nx := 32) (tg := 39) dX11_law_29 rfl rfl (fun hc => ?_) (fun hc => ?_)
    · have h := h.1 hc
      refine wp_aload_n (nx := 40) dX11_law_39 rfl rfl ?_
      refine wp_aload_n (nx := 41) dX11_law_40 rfl rfl ?_
      refine wp_getAe (kk := 2) (nx := 44) clsX11 dX11_law_41 rfl kF_X11_28 (by decide) (fo_81 F) (ft_81 F) rfl (fp_81_2 F) ?_
      refine wp_bipush (nx := 46) dX11_law_44 rfl ⟨by decide, i32 (by decide)⟩ ?_
      refine wp_ialoadE (nx := 47) dX11_law_46 rfl (fo_83 F) (fl_83 F) (by decide) (ft_83 F) rfl ?_
      refine wp_invV (nx := 50) (N := M_X11_lays) (as := [cI (C2 83 47)]) (st := []) (mc := 0) (ms := 0) (mc' := mc) (ms' := ms) (a := 81) clsX11 dX11_law_47 rfl mok_X11_lays kM_X11_256 ki_X11_lays ke_X11_lays (fo_81 F) (ft_81 F) rfl rfl (leB rfl) (leB rfl) (z0 _) (z0 _) (Wp.mono h ?_)
      intro r3 Sq C4 h
      obtain ⟨e9, h⟩ := h
      rw [e9]
      show Wp (d + 1) mc ms M_X11_law 50 [cA 81] [] S C4 Q
      refine wp_aload_n (nx := 51) dX11_law_50 rfl rfl ?_
      refine wp_getAe (kk := 2) (nx := 54) clsX11 dX11_law_51 rfl kF_X11_28 (by decide) (fo_81 F) (ft_81 F) rfl (fp_81_2 F) ?_
      refine wp_bipush (nx := 56) dX11_law_54 rfl ⟨by decide, i32 (by decide)⟩ ?_
      refine wp_dup2 (nx := 57) dX11_law_56 rfl (k1I _) (k1A _) ?_
      refine wp_ialoadE (nx := 58) dX11_law_57 rfl (fo_83 F) (fl_83 F) (by decide) (ft_83 F) rfl ?_
      refine wp_iconst (nx := 59) dX11_law_58 rfl (i32 (by decide)) ?_
      refine wp_iadd (nx := 60) dX11_law_59 rfl ?_
      refine wp_iastoreE (nx := 61) dX11_law_60 rfl (fo_83 F) (fl_83 F) (by decide) (ft_83 F) ?_
      refine wp_aload_n (nx := 62) dX11_law_61 rfl rfl ?_
      refine wp_aload_n (nx := 63) dX11_law_62 rfl rfl ?_
      refine wp_getAe (kk := 2) (nx := 66) clsX11 dX11_law_63 rfl kF_X11_28 (by decide) (fo_81 F) (ft_81 F) rfl (fp_81_2 F) ?_
      refine wp_bipush (nx := 68) dX11_law_66 rfl ⟨by decide, i32 (by decide)⟩ ?_
      refine wp_ialoadE (nx := 69) dX11_law_68 rfl (fo_83 F) (fl_83 F) (by decide) (ft_83 F) upC_h ?_
      refine wp_iconst (nx := 70) dX11_law_69 rfl (i32 (by decide)) ?_
      refine wp_isub (nx := 71) dX11_law_70 rfl ?_
      refine wp_invV (nx := 74) (N := M_X11_good) (as := [cI (w32 ((w32 ((C4 83 47) + 1)) - 1))]) (st := []) (mc := 0) (ms := 0) (mc' := mc) (ms' := ms) (a := 81) clsX11 dX11_law_71 rfl mok_X11_good kM_X11_14 ki_X11_good ke_X11_good (fo_81 F) (ft_81 F) rfl rfl (leB rfl) (leB rfl) (z0 _) (z0 _) (Wp.mono h ?_)
      intro r5 Sq C6 h
      obtain ⟨e9, h⟩ := h
      rw [e9]
      show Wp (d + 1) mc ms M_X11_law 74 [cA 81] [cI r5] S C6 Q
      exact wp_ireturn dX11_law_74 rfl rfl rfl h
    · have h := h.2 hc
      refine wp_aload_n (nx := 33) dX11_law_32 rfl rfl ?_
      refine wp_bipush (nx := 35) dX11_law_33 rfl ⟨by decide, i32 (by decide)⟩ ?_
      refine wp_invV (nx := 38) (N := M_X11_refuses) (as := [cI (-6)]) (st := []) (mc := 0) (ms := 0) (mc' := mc) (ms' := ms) (a := 81) clsX11 dX11_law_35 rfl mok_X11_refuses kM_X11_112 ki_X11_refuses ke_X11_refuses (fo_81 F) (ft_81 F) rfl rfl (leB rfl) (leB rfl) (z0 _) (z0 _) (Wp.mono h ?_)
      intro r7 Sq C8 h
      obtain ⟨e9, h⟩ := h
      rw [e9]
      show Wp (d + 1) mc ms M_X11_law 38 [cA 81] [cI r7] S C8 Q
      exact wp_ireturn dX11_law_38 rfl rfl rfl h
  · have h := h.2 hc
    refine wp_aload_n (nx := 13) dX11_law_12 rfl rfl ?_
    refine wp_iconst (nx := 14) dX11_law_13 rfl (i32 (by decide)) ?_
    refine wp_putIe (kk := 13) 13 (nx := 17) clsX11 dX11_law_14 rfl kF_X11_155 (by decide) (fo_81 F) (ft_81 F) rfl rfl ⟨rfl, rfl⟩ rfl ?_
    refine wp_aload_n (nx := 18) dX11_law_17 rfl rfl ?_
    refine wp_bipush (nx := 20) dX11_law_18 rfl ⟨by decide, i32 (by decide)⟩ ?_
    refine wp_invV (nx := 23) (N := M_X11_refuses) (as := [cI (-5)]) (st := []) (mc := 0) (ms := 0) (mc' := mc) (ms' := ms) (a := 81) clsX11 dX11_law_20 rfl mok_X11_refuses kM_X11_112 ki_X11_refuses ke_X11_refuses (fo_81 F) (ft_81 F) rfl rfl (leB rfl) (leB rfl) (z0 _) (z0 _) (Wp.mono h ?_)
    intro r9 Sq C10 h
    obtain ⟨e9, h⟩ := h
    rw [e9]
    show Wp (d + 1) mc ms M_X11_law 23 [cA 81] [cI r9] S C10 Q
    exact wp_ireturn dX11_law_23 rfl rfl rfl h
theorem b_X11_fault_0 {d mc ms : Nat} {S : MS} {C : MC} {Q : Int → MS → MC → Prop} (F : Fix S) (h : Q (C 81 14) S C) : K_X11_fault_0 d mc ms S C Q := by
  show Wp d mc ms M_X11_fault 0 [cA 81] [] S C Q
  refine wp_aload_n (nx := 1) dX11_fault_0 rfl rfl ?_
  refine wp_getIe (kk := 14) 14 (nx := 4) clsX11 dX11_fault_1 rfl kF_X11_51 (by decide) (fo_81 F) (ft_81 F) rfl rfl rfl ?_
  exact wp_ireturn dX11_fault_4 rfl rfl rfl h
theorem b_X11_isLaw_0 {d mc ms : Nat} {l1 : Int} {S : MS} {C : MC} {Q : Int → MS → MC → Prop} (F : Fix S) (h : K_X11_lies_0 d 0 0 l1 (-1) (w32 ((C 83 47) - 1)) S C (fun r1 Sq C2 => Sq = S ∧ ((r1 = 0 ∨ r1 = 1) ∧ Q r1 S C2))) : K_X11_isLaw_0 (d + 1) mc ms l1 S C Q := by
  show Wp (d + 1) mc ms M_X11_isLaw 0 [cA 81, cI l1] [] S C Q
  refine wp_iload_n (nx := 1) dX11_isLaw_0 rfl rfl ?_
  refine wp_iconst (nx := 2) dX11_isLaw_1 rfl (i32 (by decide)) ?_
  refine wp_aload_n (nx := 3) dX11_isLaw_2 rfl rfl ?_
  refine wp_getAe (kk := 2) (nx := 6) clsX11 dX11_isLaw_3 rfl kF_X11_28 (by decide) (fo_81 F) (ft_81 F) rfl (fp_81_2 F) ?_
  refine wp_bipush (nx := 8) dX11_isLaw_6 rfl ⟨by decide, i32 (by decide)⟩ ?_
  refine wp_ialoadE (nx := 9) dX11_isLaw_8 rfl (fo_83 F) (fl_83 F) (by decide) (ft_83 F) rfl ?_
  refine wp_iconst (nx := 10) dX11_isLaw_9 rfl (i32 (by decide)) ?_
  refine wp_isub (nx := 11) dX11_isLaw_10 rfl ?_
  refine wp_invS (nx := 14) (N := M_X11_lies) (as := [cI l1, cI (-1), cI (w32 ((C 83 47) - 1))]) (st := []) (mc := 0) (ms := 0) (mc' := mc) (ms' := ms) dX11_isLaw_11 rfl mok_X11_lies kM_X11_18 ks_X11_lies rfl rfl (leB rfl) (leB rfl) (z0 _) (z0 _) (Wp.mono h ?_)
  intro r1 Sq C2 h
  obtain ⟨e9, h⟩ := h
  rw [e9]
  show Wp (d + 1) mc ms M_X11_isLaw 14 [cA 81, cI l1] [cI r1] S C2 Q
  obtain ⟨hz, h⟩ := h
  exact wp_ireturn dX11_isLaw_14 rfl rfl (nz_of hz) h
theorem b_X11_force_0 {d mc ms : Nat} {l1 : Int} {S : MS} {C : MC} {Q : Int → MS → MC → Prop} (F : Fix S) (h : K_X11_isLaw_0 d 0 0 l1 S C (fun r1 Sq C2 => Sq = S ∧ ((¬ r1 = 0 → K_X11_good_0 d 0 0 (C2 83 48) S ((upC C2 83 48 l1)) (fun r3 Sq C4 => Sq = S ∧ Q r3 S C4)) ∧ (r1 = 0 → K_X11_refuses_0 d 0 0 (-2) S C2 (fun r5 Sq C6 => Sq = S ∧ Q r5 S C6))))) : K_X11_force_0 (d + 1) mc ms l1 S C Q := by
  show Wp (d + 1) mc ms M_X11_force 0 [cA 81, cI l1, cU] [] S C Q
  refine wp_aload_n (nx := 1) dX11_force_0 rfl rfl ?_
  refine wp_iload_n (nx := 2) dX11_force_1 rfl rfl ?_
  refine wp_invV (nx := 5) (N := M_X11_isLaw) (as := [cI l1]) (st := []) (mc := 0) (ms := 0) (mc' := mc) (ms' := ms) (a := 81) clsX11 dX11_force_2 rfl mok_X11_isLaw kM_X11_259 ki_X11_isLaw ke_X11_isLaw (fo_81 F) (ft_81 F) rfl rfl (leB rfl) (leB rfl) (z0 _) (z0 _) (Wp.mono h ?_)
  intro r1 Sq C2 h
  obtain ⟨e9, h⟩ := h
  rw [e9]
  show Wp (d + 1) mc ms M_X11_force 5 [cA 81, cI l1, cU] [cI r1] S C2 Q
  refine wp_if_ne (nx := 8) (tg := 15) dX11_force_5 rfl rfl (fun hc => ?_) (fun hc => ?_)
  · have h := h.1 hc
    refine wp_aload_n (nx := 16) dX11_force_15 rfl rfl ?_
    refine wp_getAe (kk := 2) (nx := 19) clsX11 dX11_force_16 rfl kF_X11_28 (by decide) (fo_81 F) (ft_81 F) rfl (fp_81_2 F) ?_
    refine wp_bipush (nx := 21) dX11_force_19 rfl ⟨by decide, i32 (by decide)⟩ ?_
    refine wp_ialoadE (nx := 22) dX11_force_21 rfl (fo_83 F) (fl_83 F) (by decide) (ft_83 F) rfl ?_
    refine wp_istore_n (nx := 23) dX11_force_22 rfl (by decide) ?_
    refine wp_ls (ls2 := [cA 81, cI l1, cI (C2 83 48)]) rfl ?_
    refine wp_aload_n (nx := 24) dX11_force_23 rfl rfl ?_
    refine wp_getAe (kk := 2) (nx := 27) clsX11 dX11_force_24 rfl kF_X11_28 (by decide) (fo_81 F) (ft_81 F) rfl (fp_81_2 F) ?_
    refine wp_bipush (nx := 29) dX11_force_27 rfl ⟨by decide, i32 (by decide)⟩ ?_
    refine wp_iload_n (nx := 30) dX11_force_29 rfl rfl ?_
    refine wp_iastoreE (nx := 31) dX11_force_30 rfl (fo_83 F) (fl_83 F) (by decide) (ft_83 F) ?_
    refine wp_aload_n (nx := 32) dX11_force_31 rfl rfl ?_
    refine wp_iload_n (nx := 33) dX11_force_32 rfl rfl ?_
    refine wp_invV (nx := 36) (N := M_X11_good) (as := [cI (C2 83 48)]) (st := []) (mc := 0) (ms := 0) (mc' := mc) (ms' := ms) (a := 81) clsX11 dX11_force_33 rfl mok_X11_good kM_X11_14 ki_X11_good ke_X11_good (fo_81 F) (ft_81 F) rfl rfl (leB rfl) (leB rfl) (z0 _) (z0 _) (Wp.mono h ?_)
    intro r3 Sq C4 h
    obtain ⟨e9, h⟩ := h
    rw [e9]
    show Wp (d + 1) mc ms M_X11_force 36 [cA 81, cI l1, cI (C2 83 48)] [cI r3] S C4 Q
    exact wp_ireturn dX11_force_36 rfl rfl rfl h
  · have h := h.2 hc
    refine wp_aload_n (nx := 9) dX11_force_8 rfl rfl ?_
    refine wp_bipush (nx := 11) dX11_force_9 rfl ⟨by decide, i32 (by decide)⟩ ?_
    refine wp_invV (nx := 14) (N := M_X11_refuses) (as := [cI (-2)]) (st := []) (mc := 0) (ms := 0) (mc' := mc) (ms' := ms) (a := 81) clsX11 dX11_force_11 rfl mok_X11_refuses kM_X11_112 ki_X11_refuses ke_X11_refuses (fo_81 F) (ft_81 F) rfl rfl (leB rfl) (leB rfl) (z0 _) (z0 _) (Wp.mono h ?_)
    intro r5 Sq C6 h
    obtain ⟨e9, h⟩ := h
    rw [e9]
    show Wp (d + 1) mc ms M_X11_force 14 [cA 81, cI l1, cU] [cI r5] S C6 Q
    exact wp_ireturn dX11_force_14 rfl rfl rfl h
theorem b_X11_codeAt_0 {d mc ms : Nat} {l1 : Int} {S : MS} {C : MC} {Q : Int → MS → MC → Prop} (F : Fix S) (h : ((C 81 23 ≤ l1 → Q 0 S C) ∧ (¬ C 81 23 ≤ l1 → ((0 : Int) ≤ w32 (56 + l1) ∧ w32 (56 + l1) < 5656) ∧ Q (C 83 (w32 (56 + l1))) S C))) : K_X11_codeAt_0 d mc ms l1 S C Q := by
  show Wp d mc ms M_X11_codeAt 0 [cA 81, cI l1] [] S C Q
  refine wp_iload_n (nx := 1) dX11_codeAt_0 rfl rfl ?_
  refine wp_aload_n (nx := 2) dX11_codeAt_1 rfl rfl ?_
  refine wp_getIe (kk := 23) 23 (nx := 5) clsX11 dX11_codeAt_2 rfl kF_X11_262 (by decide) (fo_81 F) (ft_81 F) rfl rfl rfl ?_
  refine wp_icmp_ge (nx := 8) (tg := 20) dX11_codeAt_5 rfl rfl (fun hc => ?_) (fun hc => ?_)
  · have h := h.1 hc
    refine wp_iconst (nx := 21) dX11_codeAt_20 rfl (i32 (by decide)) ?_
    exact wp_ireturn dX11_codeAt_21 rfl rfl rfl h
  · have h := h.2 hc
    refine wp_aload_n (nx := 9) dX11_codeAt_8 rfl rfl ?_
    refine wp_getAe (kk := 2) (nx := 12) clsX11 dX11_codeAt_9 rfl kF_X11_28 (by decide) (fo_81 F) (ft_81 F) rfl (fp_81_2 F) ?_
    refine wp_bipush (nx := 14) dX11_codeAt_12 rfl ⟨by decide, i32 (by decide)⟩ ?_
    refine wp_iload_n (nx := 15) dX11_codeAt_14 rfl rfl ?_
    refine wp_iadd (nx := 16) dX11_codeAt_15 rfl ?_
    obtain ⟨hi, h⟩ := h
    refine wp_ialoadE (nx := 17) dX11_codeAt_16 rfl (fo_83 F) (fl_83 F) hi (ft_83 F) rfl ?_
    refine wp_goto (nx := 21) dX11_codeAt_17 rfl ?_
    exact wp_ireturn dX11_codeAt_21 rfl rfl rfl h
theorem b_X11_passes0_0 {d mc ms : Nat} {l1 : Int} {S : MS} {C : MC} {Q : Int → MS → MC → Prop} (F : Fix S) (h : K_X11_codeAt_0 d 0 0 (C 81 22) S C (fun r1 Sq C2 => Sq = S ∧ ((¬ r1 = l1 → (((0 : Int) = 0 → Q 0 S C2) ∧ (¬ (0 : Int) = 0 → Q 0 S (upC C2 81 22 (w32 ((C2 81 22) + 1)))))) ∧ (r1 = l1 → (((1 : Int) = 0 → Q 1 S C2) ∧ (¬ (1 : Int) = 0 → Q 1 S (upC C2 81 22 (w32 ((C2 81 22) + 1))))))))) : K_X11_passes0_0 (d + 1) mc ms l1 S C Q := by
  show Wp (d + 1) mc ms M_X11_passes0 0 [cA 81, cI l1, cU] [] S C Q
  refine wp_aload_n (nx := 1) dX11_passes0_0 rfl rfl ?_
  refine wp_aload_n (nx := 2) dX11_passes0_1 rfl rfl ?_
  refine wp_getIe (kk := 22) 22 (nx := 5) clsX11 dX11_passes0_2 rfl kF_X11_265 (by decide) (fo_81 F) (ft_81 F) rfl rfl rfl ?_
  refine wp_invV (nx := 8) (N := M_X11_codeAt) (as := [cI (C 81 22)]) (st := []) (mc := 0) (ms := 0) (mc' := mc) (ms' := ms) (a := 81) clsX11 dX11_passes0_5 rfl mok_X11_codeAt kM_X11_268 ki_X11_codeAt ke_X11_codeAt (fo_81 F) (ft_81 F) rfl rfl (leB rfl) (leB rfl) (z0 _) (z0 _) (Wp.mono h ?_)
  intro r1 Sq C2 h
  obtain ⟨e9, h⟩ := h
  rw [e9]
  show Wp (d + 1) mc ms M_X11_passes0 8 [cA 81, cI l1, cU] [cI r1] S C2 Q
  refine wp_iload_n (nx := 9) dX11_passes0_8 rfl rfl ?_
  refine wp_icmp_ne (nx := 12) (tg := 16) dX11_passes0_9 rfl rfl (fun hc => ?_) (fun hc => ?_)
  · have h := h.1 hc
    refine wp_iconst (nx := 17) dX11_passes0_16 rfl (i32 (by decide)) ?_
    refine wp_istore_n (nx := 18) dX11_passes0_17 rfl (by decide) ?_
    refine wp_ls (ls2 := [cA 81, cI l1, cI 0]) rfl ?_
    refine wp_iload_n (nx := 19) dX11_passes0_18 rfl rfl ?_
    refine wp_if_eq (nx := 22) (tg := 32) dX11_passes0_19 rfl rfl (fun hc => ?_) (fun hc => ?_)
    · have h := h.1 hc
      refine wp_iload_n (nx := 33) dX11_passes0_32 rfl rfl ?_
      exact wp_ireturn dX11_passes0_33 rfl rfl (nz_of (Or.inl rfl)) h
    · have h := h.2 hc
      refine wp_aload_n (nx := 23) dX11_passes0_22 rfl rfl ?_
      refine wp_dup (nx := 24) dX11_passes0_23 rfl (k1A _) ?_
      refine wp_getIe (kk := 22) 22 (nx := 27) clsX11 dX11_passes0_24 rfl kF_X11_265 (by decide) (fo_81 F) (ft_81 F) rfl rfl rfl ?_
      refine wp_iconst (nx := 28) dX11_passes0_27 rfl (i32 (by decide)) ?_
      refine wp_iadd (nx := 29) dX11_passes0_28 rfl ?_
      refine wp_putIe (kk := 22) 22 (nx := 32) clsX11 dX11_passes0_29 rfl kF_X11_265 (by decide) (fo_81 F) (ft_81 F) rfl rfl ⟨rfl, rfl⟩ rfl ?_
      refine wp_iload_n (nx := 33) dX11_passes0_32 rfl rfl ?_
      exact wp_ireturn dX11_passes0_33 rfl rfl (nz_of (Or.inl rfl)) h
  · have h := h.2 hc
    refine wp_iconst (nx := 13) dX11_passes0_12 rfl (i32 (by decide)) ?_
    refine wp_goto (nx := 17) dX11_passes0_13 rfl ?_
    refine wp_istore_n (nx := 18) dX11_passes0_17 rfl (by decide) ?_
    refine wp_ls (ls2 := [cA 81, cI l1, cI 1]) rfl ?_
    refine wp_iload_n (nx := 19) dX11_passes0_18 rfl rfl ?_
    refine wp_if_eq (nx := 22) (tg := 32) dX11_passes0_19 rfl rfl (fun hc => ?_) (fun hc => ?_)
    · have h := h.1 hc
      refine wp_iload_n (nx := 33) dX11_passes0_32 rfl rfl ?_
      exact wp_ireturn dX11_passes0_33 rfl rfl (nz_of (Or.inr rfl)) h
    · have h := h.2 hc
      refine wp_aload_n (nx := 23) dX11_passes0_22 rfl rfl ?_
      refine wp_dup (nx := 24) dX11_passes0_23 rfl (k1A _) ?_
      refine wp_getIe (kk := 22) 22 (nx := 27) clsX11 dX11_passes0_24 rfl kF_X11_265 (by decide) (fo_81 F) (ft_81 F) rfl rfl rfl ?_
      refine wp_iconst (nx := 28) dX11_passes0_27 rfl (i32 (by decide)) ?_
      refine wp_iadd (nx := 29) dX11_passes0_28 rfl ?_
      refine wp_putIe (kk := 22) 22 (nx := 32) clsX11 dX11_passes0_29 rfl kF_X11_265 (by decide) (fo_81 F) (ft_81 F) rfl rfl ⟨rfl, rfl⟩ rfl ?_
      refine wp_iload_n (nx := 33) dX11_passes0_32 rfl rfl ?_
      exact wp_ireturn dX11_passes0_33 rfl rfl (nz_of (Or.inr rfl)) h
theorem b_X11_bounded_0 {d mc ms : Nat} {l1 l3 : Int} {S : MS} {C : MC} {Q : Int → MS → MC → Prop} (F : Fix S) (h : ((l3 = 0 → ((C 81 24 = 0 → Q l1 S C) ∧ (¬ C 81 24 = 0 → Q 0 S C))) ∧ (¬ l3 = 0 → ((0 < lCmp l1 1000000000 → (((1 : Int) = 0 → Q l1 S (upC C 81 24 1)) ∧ (¬ (1 : Int) = 0 → Q 0 S (upC C 81 24 1)))) ∧ (¬ 0 < lCmp l1 1000000000 → ((0 ≤ lCmp l1 (-1000000000) → ((C 81 24 = 0 → Q l1 S C) ∧ (¬ C 81 24 = 0 → Q 0 S C))) ∧ (¬ 0 ≤ lCmp l1 (-1000000000) → (((1 : Int) = 0 → Q l1 S (upC C 81 24 1)) ∧ (¬ (1 : Int) = 0 → Q 0 S (upC C 81 24 1)))))))))) : K_X11_bounded_0 d mc ms l1 l3 S C Q := by
  show Wp d mc ms M_X11_bounded 0 [cA 81, cJ l1, cU, cI l3] [] S C Q
  refine wp_iload_n (nx := 1) dX11_bounded_0 rfl rfl ?_
  refine wp_if_eq (nx := 4) (tg := 25) dX11_bounded_1 rfl rfl (fun hc => ?_) (fun hc => ?_)
  · have h := h.1 hc
    refine wp_aload_n (nx := 26) dX11_bounded_25 rfl rfl ?_
    refine wp_getIe (kk := 24) 24 (nx := 29) clsX11 dX11_bounded_26 rfl kF_X11_275 (by decide) (fo_81 F) (ft_81 F) rfl rfl rfl ?_
    refine wp_if_eq (nx := 32) (tg := 36) dX11_bounded_29 rfl rfl (fun hc => ?_) (fun hc => ?_)
    · have h := h.1 hc
      refine wp_lload_n (nx := 37) dX11_bounded_36 rfl rfl ?_
      exact wp_lreturn dX11_bounded_37 rfl h
    · have h := h.2 hc
      refine wp_lconst (nx := 33) (v := 0) dX11_bounded_32 rfl ⟨by decide, i64 (by decide)⟩ ?_
      refine wp_goto (nx := 37) dX11_bounded_33 rfl ?_
      exact wp_lreturn dX11_bounded_37 rfl h
  · have h := h.2 hc
    refine wp_lload_n (nx := 5) dX11_bounded_4 rfl rfl ?_
    refine wp_ldc2 (nx := 8) dX11_bounded_5 rfl kJ_X11_271 (i64 (by decide)) ?_
    refine wp_lcmp (nx := 9) dX11_bounded_8 rfl ?_
    refine wp_if_gt (nx := 12) (tg := 20) dX11_bounded_9 rfl rfl (fun hc => ?_) (fun hc => ?_)
    · have h := h.1 hc
      refine wp_aload_n (nx := 21) dX11_bounded_20 rfl rfl ?_
      refine wp_iconst (nx := 22) dX11_bounded_21 rfl (i32 (by decide)) ?_
      refine wp_putIe (kk := 24) 24 (nx := 25) clsX11 dX11_bounded_22 rfl kF_X11_275 (by decide) (fo_81 F) (ft_81 F) rfl rfl (fz_of (Or.inr rfl)) rfl ?_
      refine wp_aload_n (nx := 26) dX11_bounded_25 rfl rfl ?_
      refine wp_getIe (kk := 24) 24 (nx := 29) clsX11 dX11_bounded_26 rfl kF_X11_275 (by decide) (fo_81 F) (ft_81 F) rfl rfl upC_h ?_
      refine wp_if_eq (nx := 32) (tg := 36) dX11_bounded_29 rfl rfl (fun hc => ?_) (fun hc => ?_)
      · have h := h.1 hc
        refine wp_lload_n (nx := 37) dX11_bounded_36 rfl rfl ?_
        exact wp_lreturn dX11_bounded_37 rfl h
      · have h := h.2 hc
        refine wp_lconst (nx := 33) (v := 0) dX11_bounded_32 rfl ⟨by decide, i64 (by decide)⟩ ?_
        refine wp_goto (nx := 37) dX11_bounded_33 rfl ?_
        exact wp_lreturn dX11_bounded_37 rfl h
    · have h := h.2 hc
      refine wp_lload_n (nx := 13) dX11_bounded_12 rfl rfl ?_
      refine wp_ldc2 (nx := 16) dX11_bounded_13 rfl kJ_X11_273 (i64 (by decide)) ?_
      refine wp_lcmp (nx := 17) dX11_bounded_16 rfl ?_
      refine wp_if_ge (nx := 20) (tg := 25) dX11_bounded_17 rfl rfl (fun hc => ?_) (fun hc => ?_)
      · have h := h.1 hc
        refine wp_aload_n (nx := 26) dX11_bounded_25 rfl rfl ?_
        refine wp_getIe (kk := 24) 24 (nx := 29) clsX11 dX11_bounded_26 rfl kF_X11_275 (by decide) (fo_81 F) (ft_81 F) rfl rfl rfl ?_
        refine wp_if_eq (nx := 32) (tg := 36) dX11_bounded_29 rfl rfl (fun hc => ?_) (fun hc => ?_)
        · have h := h.1 hc
          refine wp_lload_n (nx := 37) dX11_bounded_36 rfl rfl ?_
          exact wp_lreturn dX11_bounded_37 rfl h
        · have h := h.2 hc
          refine wp_lconst (nx := 33) (v := 0) dX11_bounded_32 rfl ⟨by decide, i64 (by decide)⟩ ?_
          refine wp_goto (nx := 37) dX11_bounded_33 rfl ?_
          exact wp_lreturn dX11_bounded_37 rfl h
      · have h := h.2 hc
        refine wp_aload_n (nx := 21) dX11_bounded_20 rfl rfl ?_
        refine wp_iconst (nx := 22) dX11_bounded_21 rfl (i32 (by decide)) ?_
        refine wp_putIe (kk := 24) 24 (nx := 25) clsX11 dX11_bounded_22 rfl kF_X11_275 (by decide) (fo_81 F) (ft_81 F) rfl rfl (fz_of (Or.inr rfl)) rfl ?_
        refine wp_aload_n (nx := 26) dX11_bounded_25 rfl rfl ?_
        refine wp_getIe (kk := 24) 24 (nx := 29) clsX11 dX11_bounded_26 rfl kF_X11_275 (by decide) (fo_81 F) (ft_81 F) rfl rfl upC_h ?_
        refine wp_if_eq (nx := 32) (tg := 36) dX11_bounded_29 rfl rfl (fun hc => ?_) (fun hc => ?_)
        · have h := h.1 hc
          refine wp_lload_n (nx := 37) dX11_bounded_36 rfl rfl ?_
          exact wp_lreturn dX11_bounded_37 rfl h
        · have h := h.2 hc
          refine wp_lconst (nx := 33) (v := 0) dX11_bounded_32 rfl ⟨by decide, i64 (by decide)⟩ ?_
          refine wp_goto (nx := 37) dX11_bounded_33 rfl ?_
          exact wp_lreturn dX11_bounded_37 rfl h
theorem b_X11_sumOf_0 {d mc ms : Nat} {l1 : Int} {S : MS} {C : MC} {Q : Int → MS → MC → Prop} (F : Fix S) (h : K_X11_termOf_0 d 0 0 l1 S C (fun r1 Sq C2 => Sq = S ∧ K_X11_sumOf_6 (d + 1) mc ms l1 r1 S C2 Q)) : K_X11_sumOf_0 (d + 1) mc ms l1 S C Q := by
  show Wp (d + 1) mc ms M_X11_sumOf 0 [cA 81, cI l1, cU, cU, cU, cU, cU] [] S C Q
  refine wp_aload_n (nx := 1) dX11_sumOf_0 rfl rfl ?_
  refine wp_iload_n (nx := 2) dX11_sumOf_1 rfl rfl ?_
  refine wp_invV (nx := 5) (N := M_X11_termOf) (as := [cI l1]) (st := []) (mc := 0) (ms := 0) (mc' := mc) (ms' := ms) (a := 81) clsX11 dX11_sumOf_2 rfl mok_X11_termOf kM_X11_278 ki_X11_termOf ke_X11_termOf (fo_81 F) (ft_81 F) rfl rfl (leB rfl) (leB rfl) (z0 _) (z0 _) (Wp.mono h ?_)
  intro r1 Sq C2 h
  obtain ⟨e9, h⟩ := h
  rw [e9]
  show Wp (d + 1) mc ms M_X11_sumOf 5 [cA 81, cI l1, cU, cU, cU, cU, cU] [cJ r1] S C2 Q
  refine wp_lstore_n (nx := 6) dX11_sumOf_5 rfl (by decide) ?_
  refine wp_ls (ls2 := [cA 81, cI l1, cJ r1, cU, cU, cU, cU]) rfl ?_
  exact h
theorem b_X11_sumOf_6 {d mc ms : Nat} {l1 l2 : Int} {S : MS} {C : MC} {Q : Int → MS → MC → Prop} (F : Fix S) (h : K_X11_codeAt_0 d 0 0 (C 81 22) S C (fun r1 Sq C2 => Sq = S ∧ K_X11_sign_0 d 0 0 43 S C2 (fun r3 Sq C4 => Sq = S ∧ ((r1 = r3 → K_X11_codeAt_0 d 0 0 (C4 81 22) S C4 (fun r5 Sq C6 => Sq = S ∧ K_X11_sign_0 d 0 0 43 S C6 (fun r7 Sq C8 => Sq = S ∧ ((¬ r5 = r7 → K_X11_sumOf_59 (d + 1) mc ms l1 l2 0 S C8 Q) ∧ (r5 = r7 → K_X11_sumOf_59 (d + 1) mc ms l1 l2 1 S C8 Q))))) ∧ (¬ r1 = r3 → K_X11_codeAt_0 d 0 0 (C4 81 22) S C4 (fun r9 Sq C10 => Sq = S ∧ K_X11_sign_0 d 0 0 45 S C10 (fun r11 Sq C12 => Sq = S ∧ ((¬ r9 = r11 → Q l2 S C12) ∧ (r9 = r11 → K_X11_codeAt_0 d 0 0 (C12 81 22) S C12 (fun r13 Sq C14 => Sq = S ∧ K_X11_sign_0 d 0 0 43 S C14 (fun r15 Sq C16 => Sq = S ∧ ((¬ r13 = r15 → K_X11_sumOf_59 (d + 1) mc ms l1 l2 0 S C16 Q) ∧ (r13 = r15 → K_X11_sumOf_59 (d + 1) mc ms l1 l2 1 S C16 Q))))))))))))) : K_X11_sumOf_6 (d + 1) mc ms l1 l2 S C Q := by
  show Wp (d + 1) mc ms M_X11_sumOf 6 [cA 81, cI l1, cJ l2, cU, cU, cU, cU] [] S C Q
  refine wp_aload_n (nx := 7) dX11_sumOf_6 rfl rfl ?_
  refine wp_aload_n (nx := 8) dX11_sumOf_7 rfl rfl ?_
  refine wp_getIe (kk := 22) 22 (nx := 11) clsX11 dX11_sumOf_8 rfl kF_X11_265 (by decide) (fo_81 F) (ft_81 F) rfl rfl rfl ?_
  refine wp_invV (nx := 14) (N := M_X11_codeAt) (as := [cI (C 81 22)]) (st := []) (mc := 0) (ms := 0) (mc' := mc) (ms' := ms) (a := 81) clsX11 dX11_sumOf_11 rfl mok_X11_codeAt kM_X11_268 ki_X11_codeAt ke_X11_codeAt (fo_81 F) (ft_81 F) rfl rfl (leB rfl) (leB rfl) (z0 _) (z0 _) (Wp.mono h ?_)
  intro r1 Sq C2 h
  obtain ⟨e9, h⟩ := h
  rw [e9]
  show Wp (d + 1) mc ms M_X11_sumOf 14 [cA 81, cI l1, cJ l2, cU, cU, cU, cU] [cI r1] S C2 Q
  refine wp_bipush (nx := 16) dX11_sumOf_14 rfl ⟨by decide, i32 (by decide)⟩ ?_
  refine wp_invS (nx := 19) (N := M_X11_sign) (as := [cI 43]) (st := [cI r1]) (mc := 0) (ms := 0) (mc' := mc) (ms' := ms) dX11_sumOf_16 rfl mok_X11_sign kM_X11_224 ks_X11_sign rfl rfl (leB rfl) (leB rfl) (z0 _) (z0 _) (Wp.mono h ?_)
  intro r3 Sq C4 h
  obtain ⟨e9, h⟩ := h
  rw [e9]
  show Wp (d + 1) mc ms M_X11_sumOf 19 [cA 81, cI l1, cJ l2, cU, cU, cU, cU] [cI r3, cI r1] S C4 Q
  refine wp_icmp_eq (nx := 22) (tg := 38) dX11_sumOf_19 rfl rfl (fun hc => ?_) (fun hc => ?_)
  · have h := h.1 hc
    refine wp_aload_n (nx := 39) dX11_sumOf_38 rfl rfl ?_
    refine wp_aload_n (nx := 40) dX11_sumOf_39 rfl rfl ?_
    refine wp_getIe (kk := 22) 22 (nx := 43) clsX11 dX11_sumOf_40 rfl kF_X11_265 (by decide) (fo_81 F) (ft_81 F) rfl rfl rfl ?_
    refine wp_invV (nx := 46) (N := M_X11_codeAt) (as := [cI (C4 81 22)]) (st := []) (mc := 0) (ms := 0) (mc' := mc) (ms' := ms) (a := 81) clsX11 dX11_sumOf_43 rfl mok_X11_codeAt kM_X11_268 ki_X11_codeAt ke_X11_codeAt (fo_81 F) (ft_81 F) rfl rfl (leB rfl) (leB rfl) (z0 _) (z0 _) (Wp.mono h ?_)
    intro r5 Sq C6 h
    obtain ⟨e9, h⟩ := h
    rw [e9]
    show Wp (d + 1) mc ms M_X11_sumOf 46 [cA 81, cI l1, cJ l2, cU, cU, cU, cU] [cI r5] S C6 Q
    refine wp_bipush (nx := 48) dX11_sumOf_46 rfl ⟨by decide, i32 (by decide)⟩ ?_
    refine wp_invS (nx := 51) (N := M_X11_sign) (as := [cI 43]) (st := [cI r5]) (mc := 0) (ms := 0) (mc' := mc) (ms' := ms) dX11_sumOf_48 rfl mok_X11_sign kM_X11_224 ks_X11_sign rfl rfl (leB rfl) (leB rfl) (z0 _) (z0 _) (Wp.mono h ?_)
    intro r7 Sq C8 h
    obtain ⟨e9, h⟩ := h
    rw [e9]
    show Wp (d + 1) mc ms M_X11_sumOf 51 [cA 81, cI l1, cJ l2, cU, cU, cU, cU] [cI r7, cI r5] S C8 Q
    refine wp_icmp_ne (nx := 54) (tg := 58) dX11_sumOf_51 rfl rfl (fun hc => ?_) (fun hc => ?_)
    · have h := h.1 hc
      refine wp_iconst (nx := 59) dX11_sumOf_58 rfl (i32 (by decide)) ?_
      exact h
    · have h := h.2 hc
      refine wp_iconst (nx := 55) dX11_sumOf_54 rfl (i32 (by decide)) ?_
      refine wp_goto (nx := 59) dX11_sumOf_55 rfl ?_
      exact h
  · have h := h.2 hc
    refine wp_aload_n (nx := 23) dX11_sumOf_22 rfl rfl ?_
    refine wp_aload_n (nx := 24) dX11_sumOf_23 rfl rfl ?_
    refine wp_getIe (kk := 22) 22 (nx := 27) clsX11 dX11_sumOf_24 rfl kF_X11_265 (by decide) (fo_81 F) (ft_81 F) rfl rfl rfl ?_
    refine wp_invV (nx := 30) (N := M_X11_codeAt) (as := [cI (C4 81 22)]) (st := []) (mc := 0) (ms := 0) (mc' := mc) (ms' := ms) (a := 81) clsX11 dX11_sumOf_27 rfl mok_X11_codeAt kM_X11_268 ki_X11_codeAt ke_X11_codeAt (fo_81 F) (ft_81 F) rfl rfl (leB rfl) (leB rfl) (z0 _) (z0 _) (Wp.mono h ?_)
    intro r9 Sq C10 h
    obtain ⟨e9, h⟩ := h
    rw [e9]
    show Wp (d + 1) mc ms M_X11_sumOf 30 [cA 81, cI l1, cJ l2, cU, cU, cU, cU] [cI r9] S C10 Q
    refine wp_bipush (nx := 32) dX11_sumOf_30 rfl ⟨by decide, i32 (by decide)⟩ ?_
    refine wp_invS (nx := 35) (N := M_X11_sign) (as := [cI 45]) (st := [cI r9]) (mc := 0) (ms := 0) (mc' := mc) (ms' := ms) dX11_sumOf_32 rfl mok_X11_sign kM_X11_224 ks_X11_sign rfl rfl (leB rfl) (leB rfl) (z0 _) (z0 _) (Wp.mono h ?_)
    intro r11 Sq C12 h
    obtain ⟨e9, h⟩ := h
    rw [e9]
    show Wp (d + 1) mc ms M_X11_sumOf 35 [cA 81, cI l1, cJ l2, cU, cU, cU, cU] [cI r11, cI r9] S C12 Q
    refine wp_icmp_ne (nx := 38) (tg := 103) dX11_sumOf_35 rfl rfl (fun hc => ?_) (fun hc => ?_)
    · have h := h.1 hc
      refine wp_lload_n (nx := 104) dX11_sumOf_103 rfl rfl ?_
      exact wp_lreturn dX11_sumOf_104 rfl h
    · have h := h.2 hc
      refine wp_aload_n (nx := 39) dX11_sumOf_38 rfl rfl ?_
      refine wp_aload_n (nx := 40) dX11_sumOf_39 rfl rfl ?_
      refine wp_getIe (kk := 22) 22 (nx := 43) clsX11 dX11_sumOf_40 rfl kF_X11_265 (by decide) (fo_81 F) (ft_81 F) rfl rfl rfl ?_
      refine wp_invV (nx := 46) (N := M_X11_codeAt) (as := [cI (C12 81 22)]) (st := []) (mc := 0) (ms := 0) (mc' := mc) (ms' := ms) (a := 81) clsX11 dX11_sumOf_43 rfl mok_X11_codeAt kM_X11_268 ki_X11_codeAt ke_X11_codeAt (fo_81 F) (ft_81 F) rfl rfl (leB rfl) (leB rfl) (z0 _) (z0 _) (Wp.mono h ?_)
      intro r13 Sq C14 h
      obtain ⟨e9, h⟩ := h
      rw [e9]
      show Wp (d + 1) mc ms M_X11_sumOf 46 [cA 81, cI l1, cJ l2, cU, cU, cU, cU] [cI r13] S C14 Q
      refine wp_bipush (nx := 48) dX11_sumOf_46 rfl ⟨by decide, i32 (by decide)⟩ ?_
      refine wp_invS (nx := 51) (N := M_X11_sign) (as := [cI 43]) (st := [cI r13]) (mc := 0) (ms := 0) (mc' := mc) (ms' := ms) dX11_sumOf_48 rfl mok_X11_sign kM_X11_224 ks_X11_sign rfl rfl (leB rfl) (leB rfl) (z0 _) (z0 _) (Wp.mono h ?_)
      intro r15 Sq C16 h
      obtain ⟨e9, h⟩ := h
      rw [e9]
      show Wp (d + 1) mc ms M_X11_sumOf 51 [cA 81, cI l1, cJ l2, cU, cU, cU, cU] [cI r15, cI r13] S C16 Q
      refine wp_icmp_ne (nx := 54) (tg := 58) dX11_sumOf_51 rfl rfl (fun hc => ?_) (fun hc => ?_)
      · have h := h.1 hc
        refine wp_iconst (nx := 59) dX11_sumOf_58 rfl (i32 (by decide)) ?_
        exact h
      · have h := h.2 hc
        refine wp_iconst (nx := 55) dX11_sumOf_54 rfl (i32 (by decide)) ?_
        refine wp_goto (nx := 59) dX11_sumOf_55 rfl ?_
        exact h
theorem b_X11_sumOf_59 {d mc ms : Nat} {l1 l2 s0 : Int} {S : MS} {C : MC} {Q : Int → MS → MC → Prop} (F : Fix S) (h : K_X11_termOf_0 d 0 0 l1 S ((upC C 81 22 (w32 ((C 81 22) + 1)))) (fun r1 Sq C2 => Sq = S ∧ ((s0 = 0 → K_X11_bounded_0 d 0 0 (w64 (l2 - r1)) l1 S C2 (fun r3 Sq C4 => Sq = S ∧ K_X11_sumOf_6 (d + 1) mc ms l1 r3 S C4 Q)) ∧ (¬ s0 = 0 → K_X11_bounded_0 d 0 0 (w64 (l2 + r1)) l1 S C2 (fun r5 Sq C6 => Sq = S ∧ K_X11_sumOf_6 (d + 1) mc ms l1 r5 S C6 Q))))) : K_X11_sumOf_59 (d + 1) mc ms l1 l2 s0 S C Q := by
  show Wp (d + 1) mc ms M_X11_sumOf 59 [cA 81, cI l1, cJ l2, cU, cU, cU, cU] [cI s0] S C Q
  refine wp_istore (nx := 61) dX11_sumOf_59 rfl (by decide) ?_
  refine wp_ls (ls2 := [cA 81, cI l1, cJ l2, cU, cI s0, cU, cU]) rfl ?_
  refine wp_aload_n (nx := 62) dX11_sumOf_61 rfl rfl ?_
  refine wp_dup (nx := 63) dX11_sumOf_62 rfl (k1A _) ?_
  refine wp_getIe (kk := 22) 22 (nx := 66) clsX11 dX11_sumOf_63 rfl kF_X11_265 (by decide) (fo_81 F) (ft_81 F) rfl rfl rfl ?_
  refine wp_iconst (nx := 67) dX11_sumOf_66 rfl (i32 (by decide)) ?_
  refine wp_iadd (nx := 68) dX11_sumOf_67 rfl ?_
  refine wp_putIe (kk := 22) 22 (nx := 71) clsX11 dX11_sumOf_68 rfl kF_X11_265 (by decide) (fo_81 F) (ft_81 F) rfl rfl ⟨rfl, rfl⟩ rfl ?_
  refine wp_aload_n (nx := 72) dX11_sumOf_71 rfl rfl ?_
  refine wp_iload_n (nx := 73) dX11_sumOf_72 rfl rfl ?_
  refine wp_invV (nx := 76) (N := M_X11_termOf) (as := [cI l1]) (st := []) (mc := 0) (ms := 0) (mc' := mc) (ms' := ms) (a := 81) clsX11 dX11_sumOf_73 rfl mok_X11_termOf kM_X11_278 ki_X11_termOf ke_X11_termOf (fo_81 F) (ft_81 F) rfl rfl (leB rfl) (leB rfl) (z0 _) (z0 _) (Wp.mono h ?_)
  intro r1 Sq C2 h
  obtain ⟨e9, h⟩ := h
  rw [e9]
  show Wp (d + 1) mc ms M_X11_sumOf 76 [cA 81, cI l1, cJ l2, cU, cI s0, cU, cU] [cJ r1] S C2 Q
  refine wp_lstore (nx := 78) dX11_sumOf_76 rfl (by decide) ?_
  refine wp_ls (ls2 := [cA 81, cI l1, cJ l2, cU, cI s0, cJ r1, cU]) rfl ?_
  refine wp_aload_n (nx := 79) dX11_sumOf_78 rfl rfl ?_
  refine wp_iload (nx := 81) dX11_sumOf_79 rfl rfl ?_
  refine wp_if_eq (nx := 84) (tg := 91) dX11_sumOf_81 rfl rfl (fun hc => ?_) (fun hc => ?_)
  · have h := h.1 hc
    refine wp_lload_n (nx := 92) dX11_sumOf_91 rfl rfl ?_
    refine wp_lload (nx := 94) dX11_sumOf_92 rfl rfl ?_
    refine wp_lsub (nx := 95) dX11_sumOf_94 rfl ?_
    refine wp_iload_n (nx := 96) dX11_sumOf_95 rfl rfl ?_
    refine wp_invV (nx := 99) (N := M_X11_bounded) (as := [cJ (w64 (l2 - r1)), cI l1]) (st := []) (mc := 0) (ms := 0) (mc' := mc) (ms' := ms) (a := 81) clsX11 dX11_sumOf_96 rfl mok_X11_bounded kM_X11_282 ki_X11_bounded ke_X11_bounded (fo_81 F) (ft_81 F) rfl rfl (leB rfl) (leB rfl) (z0 _) (z0 _) (Wp.mono h ?_)
    intro r3 Sq C4 h
    obtain ⟨e9, h⟩ := h
    rw [e9]
    show Wp (d + 1) mc ms M_X11_sumOf 99 [cA 81, cI l1, cJ l2, cU, cI s0, cJ r1, cU] [cJ r3] S C4 Q
    refine wp_lstore_n (nx := 100) dX11_sumOf_99 rfl (by decide) ?_
    refine wp_ls (ls2 := [cA 81, cI l1, cJ r3, cU, cI s0, cJ r1, cU]) rfl ?_
    refine wp_goto (nx := 6) dX11_sumOf_100 rfl ?_
    refine wp_fg [true, true, true, false, false, false, false] (ls2 := [cA 81, cI l1, cJ r3, cU, cU, cU, cU]) rfl ?_
    exact h
  · have h := h.2 hc
    refine wp_lload_n (nx := 85) dX11_sumOf_84 rfl rfl ?_
    refine wp_lload (nx := 87) dX11_sumOf_85 rfl rfl ?_
    refine wp_ladd (nx := 88) dX11_sumOf_87 rfl ?_
    refine wp_goto (nx := 95) dX11_sumOf_88 rfl ?_
    refine wp_iload_n (nx := 96) dX11_sumOf_95 rfl rfl ?_
    refine wp_invV (nx := 99) (N := M_X11_bounded) (as := [cJ (w64 (l2 + r1)), cI l1]) (st := []) (mc := 0) (ms := 0) (mc' := mc) (ms' := ms) (a := 81) clsX11 dX11_sumOf_96 rfl mok_X11_bounded kM_X11_282 ki_X11_bounded ke_X11_bounded (fo_81 F) (ft_81 F) rfl rfl (leB rfl) (leB rfl) (z0 _) (z0 _) (Wp.mono h ?_)
    intro r5 Sq C6 h
    obtain ⟨e9, h⟩ := h
    rw [e9]
    show Wp (d + 1) mc ms M_X11_sumOf 99 [cA 81, cI l1, cJ l2, cU, cI s0, cJ r1, cU] [cJ r5] S C6 Q
    refine wp_lstore_n (nx := 100) dX11_sumOf_99 rfl (by decide) ?_
    refine wp_ls (ls2 := [cA 81, cI l1, cJ r5, cU, cI s0, cJ r1, cU]) rfl ?_
    refine wp_goto (nx := 6) dX11_sumOf_100 rfl ?_
    refine wp_fg [true, true, true, false, false, false, false] (ls2 := [cA 81, cI l1, cJ r5, cU, cU, cU, cU]) rfl ?_
    exact h
theorem b_X11_termOf_0 {d mc ms : Nat} {l1 : Int} {S : MS} {C : MC} {Q : Int → MS → MC → Prop} (F : Fix S) (h : K_X11_partOf_0 d 0 0 l1 S C (fun r1 Sq C2 => Sq = S ∧ K_X11_termOf_6 (d + 1) mc ms l1 r1 S C2 Q)) : K_X11_termOf_0 (d + 1) mc ms l1 S C Q := by
  show Wp (d + 1) mc ms M_X11_termOf 0 [cA 81, cI l1, cU, cU, cU, cU, cU] [] S C Q
  refine wp_aload_n (nx := 1) dX11_termOf_0 rfl rfl ?_
  refine wp_iload_n (nx := 2) dX11_termOf_1 rfl rfl ?_
  refine wp_invV (nx := 5) (N := M_X11_partOf) (as := [cI l1]) (st := []) (mc := 0) (ms := 0) (mc' := mc) (ms' := ms) (a := 81) clsX11 dX11_termOf_2 rfl mok_X11_partOf kM_X11_286 ki_X11_partOf ke_X11_partOf (fo_81 F) (ft_81 F) rfl rfl (leB rfl) (leB rfl) (z0 _) (z0 _) (Wp.mono h ?_)
  intro r1 Sq C2 h
  obtain ⟨e9, h⟩ := h
  rw [e9]
  show Wp (d + 1) mc ms M_X11_termOf 5 [cA 81, cI l1, cU, cU, cU, cU, cU] [cJ r1] S C2 Q
  refine wp_lstore_n (nx := 6) dX11_termOf_5 rfl (by decide) ?_
  refine wp_ls (ls2 := [cA 81, cI l1, cJ r1, cU, cU, cU, cU]) rfl ?_
  exact h
theorem b_X11_termOf_6 {d mc ms : Nat} {l1 l2 : Int} {S : MS} {C : MC} {Q : Int → MS → MC → Prop} (F : Fix S) (h : K_X11_codeAt_0 d 0 0 (C 81 22) S C (fun r1 Sq C2 => Sq = S ∧ K_X11_sign_0 d 0 0 42 S C2 (fun r3 Sq C4 => Sq = S ∧ ((r1 = r3 → K_X11_termOf_54 (d + 1) mc ms l1 l2 S C4 Q) ∧ (¬ r1 = r3 → K_X11_codeAt_0 d 0 0 (C4 81 22) S C4 (fun r5 Sq C6 => Sq = S ∧ K_X11_sign_0 d 0 0 47 S C6 (fun r7 Sq C8 => Sq = S ∧ ((r5 = r7 → K_X11_termOf_54 (d + 1) mc ms l1 l2 S C8 Q) ∧ (¬ r5 = r7 → K_X11_codeAt_0 d 0 0 (C8 81 22) S C8 (fun r9 Sq C10 => Sq = S ∧ K_X11_sign_0 d 0 0 37 S C10 (fun r11 Sq C12 => Sq = S ∧ ((¬ r9 = r11 → Q l2 S C12) ∧ (r9 = r11 → K_X11_termOf_54 (d + 1) mc ms l1 l2 S C12 Q))))))))))))) : K_X11_termOf_6 (d + 1) mc ms l1 l2 S C Q := by
  show Wp (d + 1) mc ms M_X11_termOf 6 [cA 81, cI l1, cJ l2, cU, cU, cU, cU] [] S C Q
  refine wp_aload_n (nx := 7) dX11_termOf_6 rfl rfl ?_
  refine wp_aload_n (nx := 8) dX11_termOf_7 rfl rfl ?_
  refine wp_getIe (kk := 22) 22 (nx := 11) clsX11 dX11_termOf_8 rfl kF_X11_265 (by decide) (fo_81 F) (ft_81 F) rfl rfl rfl ?_
  refine wp_invV (nx := 14) (N := M_X11_codeAt) (as := [cI (C 81 22)]) (st := []) (mc := 0) (ms := 0) (mc' := mc) (ms' := ms) (a := 81) clsX11 dX11_termOf_11 rfl mok_X11_codeAt kM_X11_268 ki_X11_codeAt ke_X11_codeAt (fo_81 F) (ft_81 F) rfl rfl (leB rfl) (leB rfl) (z0 _) (z0 _) (Wp.mono h ?_)
  intro r1 Sq C2 h
  obtain ⟨e9, h⟩ := h
  rw [e9]
  show Wp (d + 1) mc ms M_X11_termOf 14 [cA 81, cI l1, cJ l2, cU, cU, cU, cU] [cI r1] S C2 Q
  refine wp_bipush (nx := 16) dX11_termOf_14 rfl ⟨by decide, i32 (by decide)⟩ ?_
  refine wp_invS (nx := 19) (N := M_X11_sign) (as := [cI 42]) (st := [cI r1]) (mc := 0) (ms := 0) (mc' := mc) (ms' := ms) dX11_termOf_16 rfl mok_X11_sign kM_X11_224 ks_X11_sign rfl rfl (leB rfl) (leB rfl) (z0 _) (z0 _) (Wp.mono h ?_)
  intro r3 Sq C4 h
  obtain ⟨e9, h⟩ := h
  rw [e9]
  show Wp (d + 1) mc ms M_X11_termOf 19 [cA 81, cI l1, cJ l2, cU, cU, cU, cU] [cI r3, cI r1] S C4 Q
  refine wp_icmp_eq (nx := 22) (tg := 54) dX11_termOf_19 rfl rfl (fun hc => ?_) (fun hc => ?_)
  · have h := h.1 hc
    exact h
  · have h := h.2 hc
    refine wp_aload_n (nx := 23) dX11_termOf_22 rfl rfl ?_
    refine wp_aload_n (nx := 24) dX11_termOf_23 rfl rfl ?_
    refine wp_getIe (kk := 22) 22 (nx := 27) clsX11 dX11_termOf_24 rfl kF_X11_265 (by decide) (fo_81 F) (ft_81 F) rfl rfl rfl ?_
    refine wp_invV (nx := 30) (N := M_X11_codeAt) (as := [cI (C4 81 22)]) (st := []) (mc := 0) (ms := 0) (mc' := mc) (ms' := ms) (a := 81) clsX11 dX11_termOf_27 rfl mok_X11_codeAt kM_X11_268 ki_X11_codeAt ke_X11_codeAt (fo_81 F) (ft_81 F) rfl rfl (leB rfl) (leB rfl) (z0 _) (z0 _) (Wp.mono h ?_)
    intro r5 Sq C6 h
    obtain ⟨e9, h⟩ := h
    rw [e9]
    show Wp (d + 1) mc ms M_X11_termOf 30 [cA 81, cI l1, cJ l2, cU, cU, cU, cU] [cI r5] S C6 Q
    refine wp_bipush (nx := 32) dX11_termOf_30 rfl ⟨by decide, i32 (by decide)⟩ ?_
    refine wp_invS (nx := 35) (N := M_X11_sign) (as := [cI 47]) (st := [cI r5]) (mc := 0) (ms := 0) (mc' := mc) (ms' := ms) dX11_termOf_32 rfl mok_X11_sign kM_X11_224 ks_X11_sign rfl rfl (leB rfl) (leB rfl) (z0 _) (z0 _) (Wp.mono h ?_)
    intro r7 Sq C8 h
    obtain ⟨e9, h⟩ := h
    rw [e9]
    show Wp (d + 1) mc ms M_X11_termOf 35 [cA 81, cI l1, cJ l2, cU, cU, cU, cU] [cI r7, cI r5] S C8 Q
    refine wp_icmp_eq (nx := 38) (tg := 54) dX11_termOf_35 rfl rfl (fun hc => ?_) (fun hc => ?_)
    · have h := h.1 hc
      exact h
    · have h := h.2 hc
      refine wp_aload_n (nx := 39) dX11_termOf_38 rfl rfl ?_
      refine wp_aload_n (nx := 40) dX11_termOf_39 rfl rfl ?_
      refine wp_getIe (kk := 22) 22 (nx := 43) clsX11 dX11_termOf_40 rfl kF_X11_265 (by decide) (fo_81 F) (ft_81 F) rfl rfl rfl ?_
      refine wp_invV (nx := 46) (N := M_X11_codeAt) (as := [cI (C8 81 22)]) (st := []) (mc := 0) (ms := 0) (mc' := mc) (ms' := ms) (a := 81) clsX11 dX11_termOf_43 rfl mok_X11_codeAt kM_X11_268 ki_X11_codeAt ke_X11_codeAt (fo_81 F) (ft_81 F) rfl rfl (leB rfl) (leB rfl) (z0 _) (z0 _) (Wp.mono h ?_)
      intro r9 Sq C10 h
      obtain ⟨e9, h⟩ := h
      rw [e9]
      show Wp (d + 1) mc ms M_X11_termOf 46 [cA 81, cI l1, cJ l2, cU, cU, cU, cU] [cI r9] S C10 Q
      refine wp_bipush (nx := 48) dX11_termOf_46 rfl ⟨by decide, i32 (by decide)⟩ ?_
      refine wp_invS (nx := 51) (N := M_X11_sign) (as := [cI 37]) (st := [cI r9]) (mc := 0) (ms := 0) (mc' := mc) (ms' := ms) dX11_termOf_48 rfl mok_X11_sign kM_X11_224 ks_X11_sign rfl rfl (leB rfl) (leB rfl) (z0 _) (z0 _) (Wp.mono h ?_)
      intro r11 Sq C12 h
      obtain ⟨e9, h⟩ := h
      rw [e9]
      show Wp (d + 1) mc ms M_X11_termOf 51 [cA 81, cI l1, cJ l2, cU, cU, cU, cU] [cI r11, cI r9] S C12 Q
      refine wp_icmp_ne (nx := 54) (tg := 168) dX11_termOf_51 rfl rfl (fun hc => ?_) (fun hc => ?_)
      · have h := h.1 hc
        refine wp_lload_n (nx := 169) dX11_termOf_168 rfl rfl ?_
        exact wp_lreturn dX11_termOf_169 rfl h
      · have h := h.2 hc
        exact h
theorem b_X11_termOf_54 {d mc ms : Nat} {l1 l2 : Int} {S : MS} {C : MC} {Q : Int → MS → MC → Prop} (F : Fix S) (h : K_X11_codeAt_0 d 0 0 (C 81 22) S C (fun r1 Sq C2 => Sq = S ∧ K_X11_partOf_0 d 0 0 l1 S ((upC C2 81 22 (w32 ((C2 81 22) + 1)))) (fun r3 Sq C4 => Sq = S ∧ K_X11_sign_0 d 0 0 42 S C4 (fun r5 Sq C6 => Sq = S ∧ ((r1 = r5 → K_X11_termOf_121 (d + 1) mc ms l1 l2 r1 r3 S C6 Q) ∧ (¬ r1 = r5 → ((¬ lCmp r3 0 = 0 → K_X11_termOf_121 (d + 1) mc ms l1 l2 r1 r3 S C6 Q) ∧ (lCmp r3 0 = 0 → ((¬ C6 81 24 = 0 → K_X11_termOf_121 (d + 1) mc ms l1 l2 r1 1 S (upC C6 81 24 1) Q) ∧ (C6 81 24 = 0 → ((l1 = 0 → K_X11_termOf_121 (d + 1) mc ms l1 l2 r1 1 S (upC C6 81 24 0) Q) ∧ (¬ l1 = 0 → K_X11_termOf_121 (d + 1) mc ms l1 l2 r1 1 S (upC C6 81 24 1) Q)))))))))))) : K_X11_termOf_54 (d + 1) mc ms l1 l2 S C Q := by
  show Wp (d + 1) mc ms M_X11_termOf 54 [cA 81, cI l1, cJ l2, cU, cU, cU, cU] [] S C Q
  refine wp_aload_n (nx := 55) dX11_termOf_54 rfl rfl ?_
  refine wp_aload_n (nx := 56) dX11_termOf_55 rfl rfl ?_
  refine wp_getIe (kk := 22) 22 (nx := 59) clsX11 dX11_termOf_56 rfl kF_X11_265 (by decide) (fo_81 F) (ft_81 F) rfl rfl rfl ?_
  refine wp_invV (nx := 62) (N := M_X11_codeAt) (as := [cI (C 81 22)]) (st := []) (mc := 0) (ms := 0) (mc' := mc) (ms' := ms) (a := 81) clsX11 dX11_termOf_59 rfl mok_X11_codeAt kM_X11_268 ki_X11_codeAt ke_X11_codeAt (fo_81 F) (ft_81 F) rfl rfl (leB rfl) (leB rfl) (z0 _) (z0 _) (Wp.mono h ?_)
  intro r1 Sq C2 h
  obtain ⟨e9, h⟩ := h
  rw [e9]
  show Wp (d + 1) mc ms M_X11_termOf 62 [cA 81, cI l1, cJ l2, cU, cU, cU, cU] [cI r1] S C2 Q
  refine wp_istore (nx := 64) dX11_termOf_62 rfl (by decide) ?_
  refine wp_ls (ls2 := [cA 81, cI l1, cJ l2, cU, cI r1, cU, cU]) rfl ?_
  refine wp_aload_n (nx := 65) dX11_termOf_64 rfl rfl ?_
  refine wp_dup (nx := 66) dX11_termOf_65 rfl (k1A _) ?_
  refine wp_getIe (kk := 22) 22 (nx := 69) clsX11 dX11_termOf_66 rfl kF_X11_265 (by decide) (fo_81 F) (ft_81 F) rfl rfl rfl ?_
  refine wp_iconst (nx := 70) dX11_termOf_69 rfl (i32 (by decide)) ?_
  refine wp_iadd (nx := 71) dX11_termOf_70 rfl ?_
  refine wp_putIe (kk := 22) 22 (nx := 74) clsX11 dX11_termOf_71 rfl kF_X11_265 (by decide) (fo_81 F) (ft_81 F) rfl rfl ⟨rfl, rfl⟩ rfl ?_
  refine wp_aload_n (nx := 75) dX11_termOf_74 rfl rfl ?_
  refine wp_iload_n (nx := 76) dX11_termOf_75 rfl rfl ?_
  refine wp_invV (nx := 79) (N := M_X11_partOf) (as := [cI l1]) (st := []) (mc := 0) (ms := 0) (mc' := mc) (ms' := ms) (a := 81) clsX11 dX11_termOf_76 rfl mok_X11_partOf kM_X11_286 ki_X11_partOf ke_X11_partOf (fo_81 F) (ft_81 F) rfl rfl (leB rfl) (leB rfl) (z0 _) (z0 _) (Wp.mono h ?_)
  intro r3 Sq C4 h
  obtain ⟨e9, h⟩ := h
  rw [e9]
  show Wp (d + 1) mc ms M_X11_termOf 79 [cA 81, cI l1, cJ l2, cU, cI r1, cU, cU] [cJ r3] S C4 Q
  refine wp_lstore (nx := 81) dX11_termOf_79 rfl (by decide) ?_
  refine wp_ls (ls2 := [cA 81, cI l1, cJ l2, cU, cI r1, cJ r3, cU]) rfl ?_
  refine wp_iload (nx := 83) dX11_termOf_81 rfl rfl ?_
  refine wp_bipush (nx := 85) dX11_termOf_83 rfl ⟨by decide, i32 (by decide)⟩ ?_
  refine wp_invS (nx := 88) (N := M_X11_sign) (as := [cI 42]) (st := [cI r1]) (mc := 0) (ms := 0) (mc' := mc) (ms' := ms) dX11_termOf_85 rfl mok_X11_sign kM_X11_224 ks_X11_sign rfl rfl (leB rfl) (leB rfl) (z0 _) (z0 _) (Wp.mono h ?_)
  intro r5 Sq C6 h
  obtain ⟨e9, h⟩ := h
  rw [e9]
  show Wp (d + 1) mc ms M_X11_termOf 88 [cA 81, cI l1, cJ l2, cU, cI r1, cJ r3, cU] [cI r5, cI r1] S C6 Q
  refine wp_icmp_eq (nx := 91) (tg := 121) dX11_termOf_88 rfl rfl (fun hc => ?_) (fun hc => ?_)
  · have h := h.1 hc
    exact h
  · have h := h.2 hc
    refine wp_lload (nx := 93) dX11_termOf_91 rfl rfl ?_
    refine wp_lconst (nx := 94) (v := 0) dX11_termOf_93 rfl ⟨by decide, i64 (by decide)⟩ ?_
    refine wp_lcmp (nx := 95) dX11_termOf_94 rfl ?_
    refine wp_if_ne (nx := 98) (tg := 121) dX11_termOf_95 rfl rfl (fun hc => ?_) (fun hc => ?_)
    · have h := h.1 hc
      exact h
    · have h := h.2 hc
      refine wp_aload_n (nx := 99) dX11_termOf_98 rfl rfl ?_
      refine wp_aload_n (nx := 100) dX11_termOf_99 rfl rfl ?_
      refine wp_getIe (kk := 24) 24 (nx := 103) clsX11 dX11_termOf_100 rfl kF_X11_275 (by decide) (fo_81 F) (ft_81 F) rfl rfl rfl ?_
      refine wp_if_ne (nx := 106) (tg := 110) dX11_termOf_103 rfl rfl (fun hc => ?_) (fun hc => ?_)
      · have h := h.1 hc
        refine wp_iconst (nx := 111) dX11_termOf_110 rfl (i32 (by decide)) ?_
        refine wp_goto (nx := 115) dX11_termOf_111 rfl ?_
        refine wp_putIe (kk := 24) 24 (nx := 118) clsX11 dX11_termOf_115 rfl kF_X11_275 (by decide) (fo_81 F) (ft_81 F) rfl rfl (fz_of (Or.inr rfl)) rfl ?_
        refine wp_lconst (nx := 119) (v := 1) dX11_termOf_118 rfl ⟨by decide, i64 (by decide)⟩ ?_
        refine wp_lstore (nx := 121) dX11_termOf_119 rfl (by decide) ?_
        refine wp_ls (ls2 := [cA 81, cI l1, cJ l2, cU, cI r1, cJ 1, cU]) rfl ?_
        exact h
      · have h := h.2 hc
        refine wp_iload_n (nx := 107) dX11_termOf_106 rfl rfl ?_
        refine wp_if_eq (nx := 110) (tg := 114) dX11_termOf_107 rfl rfl (fun hc => ?_) (fun hc => ?_)
        · have h := h.1 hc
          refine wp_iconst (nx := 115) dX11_termOf_114 rfl (i32 (by decide)) ?_
          refine wp_putIe (kk := 24) 24 (nx := 118) clsX11 dX11_termOf_115 rfl kF_X11_275 (by decide) (fo_81 F) (ft_81 F) rfl rfl (fz_of (Or.inl rfl)) rfl ?_
          refine wp_lconst (nx := 119) (v := 1) dX11_termOf_118 rfl ⟨by decide, i64 (by decide)⟩ ?_
          refine wp_lstore (nx := 121) dX11_termOf_119 rfl (by decide) ?_
          refine wp_ls (ls2 := [cA 81, cI l1, cJ l2, cU, cI r1, cJ 1, cU]) rfl ?_
          exact h
        · have h := h.2 hc
          refine wp_iconst (nx := 111) dX11_termOf_110 rfl (i32 (by decide)) ?_
          refine wp_goto (nx := 115) dX11_termOf_111 rfl ?_
          refine wp_putIe (kk := 24) 24 (nx := 118) clsX11 dX11_termOf_115 rfl kF_X11_275 (by decide) (fo_81 F) (ft_81 F) rfl rfl (fz_of (Or.inr rfl)) rfl ?_
          refine wp_lconst (nx := 119) (v := 1) dX11_termOf_118 rfl ⟨by decide, i64 (by decide)⟩ ?_
          refine wp_lstore (nx := 121) dX11_termOf_119 rfl (by decide) ?_
          refine wp_ls (ls2 := [cA 81, cI l1, cJ l2, cU, cI r1, cJ 1, cU]) rfl ?_
          exact h
theorem b_X11_termOf_121 {d mc ms : Nat} {l1 l2 l4 l5 : Int} {S : MS} {C : MC} {Q : Int → MS → MC → Prop} (F : Fix S) (h : K_X11_sign_0 d 0 0 42 S C (fun r1 Sq C2 => Sq = S ∧ ((¬ l4 = r1 → K_X11_sign_0 d 0 0 47 S C2 (fun r3 Sq C4 => Sq = S ∧ ((¬ l4 = r3 → (l5 ≠ 0) ∧ K_X11_bounded_0 d 0 0 (w64 (Int.tmod l2 l5)) l1 S C4 (fun r5 Sq C6 => Sq = S ∧ K_X11_termOf_6 (d + 1) mc ms l1 r5 S C6 Q)) ∧ (l4 = r3 → (l5 ≠ 0) ∧ K_X11_bounded_0 d 0 0 (w64 (Int.tdiv l2 l5)) l1 S C4 (fun r7 Sq C8 => Sq = S ∧ K_X11_termOf_6 (d + 1) mc ms l1 r7 S C8 Q))))) ∧ (l4 = r1 → K_X11_bounded_0 d 0 0 (w64 (l2 * l5)) l1 S C2 (fun r9 Sq C10 => Sq = S ∧ K_X11_termOf_6 (d + 1) mc ms l1 r9 S C10 Q))))) : K_X11_termOf_121 (d + 1) mc ms l1 l2 l4 l5 S C Q := by
  show Wp (d + 1) mc ms M_X11_termOf 121 [cA 81, cI l1, cJ l2, cU, cI l4, cJ l5, cU] [] S C Q
  refine wp_aload_n (nx := 122) dX11_termOf_121 rfl rfl ?_
  refine wp_iload (nx := 124) dX11_termOf_122 rfl rfl ?_
  refine wp_bipush (nx := 126) dX11_termOf_124 rfl ⟨by decide, i32 (by decide)⟩ ?_
  refine wp_invS (nx := 129) (N := M_X11_sign) (as := [cI 42]) (st := [cI l4, cA 81]) (mc := 0) (ms := 0) (mc' := mc) (ms' := ms) dX11_termOf_126 rfl mok_X11_sign kM_X11_224 ks_X11_sign rfl rfl (leB rfl) (leB rfl) (z0 _) (z0 _) (Wp.mono h ?_)
  intro r1 Sq C2 h
  obtain ⟨e9, h⟩ := h
  rw [e9]
  show Wp (d + 1) mc ms M_X11_termOf 129 [cA 81, cI l1, cJ l2, cU, cI l4, cJ l5, cU] [cI r1, cI l4, cA 81] S C2 Q
  refine wp_icmp_ne (nx := 132) (tg := 139) dX11_termOf_129 rfl rfl (fun hc => ?_) (fun hc => ?_)
  · have h := h.1 hc
    refine wp_iload (nx := 141) dX11_termOf_139 rfl rfl ?_
    refine wp_bipush (nx := 143) dX11_termOf_141 rfl ⟨by decide, i32 (by decide)⟩ ?_
    refine wp_invS (nx := 146) (N := M_X11_sign) (as := [cI 47]) (st := [cI l4, cA 81]) (mc := 0) (ms := 0) (mc' := mc) (ms' := ms) dX11_termOf_143 rfl mok_X11_sign kM_X11_224 ks_X11_sign rfl rfl (leB rfl) (leB rfl) (z0 _) (z0 _) (Wp.mono h ?_)
    intro r3 Sq C4 h
    obtain ⟨e9, h⟩ := h
    rw [e9]
    show Wp (d + 1) mc ms M_X11_termOf 146 [cA 81, cI l1, cJ l2, cU, cI l4, cJ l5, cU] [cI r3, cI l4, cA 81] S C4 Q
    refine wp_icmp_ne (nx := 149) (tg := 156) dX11_termOf_146 rfl rfl (fun hc => ?_) (fun hc => ?_)
    · have h := h.1 hc
      refine wp_lload_n (nx := 157) dX11_termOf_156 rfl rfl ?_
      refine wp_lload (nx := 159) dX11_termOf_157 rfl rfl ?_
      obtain ⟨h0, h⟩ := h
      refine wp_lrem (nx := 160) dX11_termOf_159 rfl h0 ?_
      refine wp_iload_n (nx := 161) dX11_termOf_160 rfl rfl ?_
      refine wp_invV (nx := 164) (N := M_X11_bounded) (as := [cJ (w64 (Int.tmod l2 l5)), cI l1]) (st := []) (mc := 0) (ms := 0) (mc' := mc) (ms' := ms) (a := 81) clsX11 dX11_termOf_161 rfl mok_X11_bounded kM_X11_282 ki_X11_bounded ke_X11_bounded (fo_81 F) (ft_81 F) rfl rfl (leB rfl) (leB rfl) (z0 _) (z0 _) (Wp.mono h ?_)
      intro r5 Sq C6 h
      obtain ⟨e9, h⟩ := h
      rw [e9]
      show Wp (d + 1) mc ms M_X11_termOf 164 [cA 81, cI l1, cJ l2, cU, cI l4, cJ l5, cU] [cJ r5] S C6 Q
      refine wp_lstore_n (nx := 165) dX11_termOf_164 rfl (by decide) ?_
      refine wp_ls (ls2 := [cA 81, cI l1, cJ r5, cU, cI l4, cJ l5, cU]) rfl ?_
      refine wp_goto (nx := 6) dX11_termOf_165 rfl ?_
      refine wp_fg [true, true, true, false, false, false, false] (ls2 := [cA 81, cI l1, cJ r5, cU, cU, cU, cU]) rfl ?_
      exact h
    · have h := h.2 hc
      refine wp_lload_n (nx := 150) dX11_termOf_149 rfl rfl ?_
      refine wp_lload (nx := 152) dX11_termOf_150 rfl rfl ?_
      obtain ⟨h0, h⟩ := h
      refine wp_ldiv (nx := 153) dX11_termOf_152 rfl h0 ?_
      refine wp_goto (nx := 160) dX11_termOf_153 rfl ?_
      refine wp_iload_n (nx := 161) dX11_termOf_160 rfl rfl ?_
      refine wp_invV (nx := 164) (N := M_X11_bounded) (as := [cJ (w64 (Int.tdiv l2 l5)), cI l1]) (st := []) (mc := 0) (ms := 0) (mc' := mc) (ms' := ms) (a := 81) clsX11 dX11_termOf_161 rfl mok_X11_bounded kM_X11_282 ki_X11_bounded ke_X11_bounded (fo_81 F) (ft_81 F) rfl rfl (leB rfl) (leB rfl) (z0 _) (z0 _) (Wp.mono h ?_)
      intro r7 Sq C8 h
      obtain ⟨e9, h⟩ := h
      rw [e9]
      show Wp (d + 1) mc ms M_X11_termOf 164 [cA 81, cI l1, cJ l2, cU, cI l4, cJ l5, cU] [cJ r7] S C8 Q
      refine wp_lstore_n (nx := 165) dX11_termOf_164 rfl (by decide) ?_
      refine wp_ls (ls2 := [cA 81, cI l1, cJ r7, cU, cI l4, cJ l5, cU]) rfl ?_
      refine wp_goto (nx := 6) dX11_termOf_165 rfl ?_
      refine wp_fg [true, true, true, false, false, false, false] (ls2 := [cA 81, cI l1, cJ r7, cU, cU, cU, cU]) rfl ?_
      exact h
  · have h := h.2 hc
    refine wp_lload_n (nx := 133) dX11_termOf_132 rfl rfl ?_
    refine wp_lload (nx := 135) dX11_termOf_133 rfl rfl ?_
    refine wp_lmul (nx := 136) dX11_termOf_135 rfl ?_
    refine wp_goto (nx := 160) dX11_termOf_136 rfl ?_
    refine wp_iload_n (nx := 161) dX11_termOf_160 rfl rfl ?_
    refine wp_invV (nx := 164) (N := M_X11_bounded) (as := [cJ (w64 (l2 * l5)), cI l1]) (st := []) (mc := 0) (ms := 0) (mc' := mc) (ms' := ms) (a := 81) clsX11 dX11_termOf_161 rfl mok_X11_bounded kM_X11_282 ki_X11_bounded ke_X11_bounded (fo_81 F) (ft_81 F) rfl rfl (leB rfl) (leB rfl) (z0 _) (z0 _) (Wp.mono h ?_)
    intro r9 Sq C10 h
    obtain ⟨e9, h⟩ := h
    rw [e9]
    show Wp (d + 1) mc ms M_X11_termOf 164 [cA 81, cI l1, cJ l2, cU, cI l4, cJ l5, cU] [cJ r9] S C10 Q
    refine wp_lstore_n (nx := 165) dX11_termOf_164 rfl (by decide) ?_
    refine wp_ls (ls2 := [cA 81, cI l1, cJ r9, cU, cI l4, cJ l5, cU]) rfl ?_
    refine wp_goto (nx := 6) dX11_termOf_165 rfl ?_
    refine wp_fg [true, true, true, false, false, false, false] (ls2 := [cA 81, cI l1, cJ r9, cU, cU, cU, cU]) rfl ?_
    exact h
theorem b_X11_partOf_0 {d mc ms : Nat} {l1 : Int} {S : MS} {C : MC} {Q : Int → MS → MC → Prop} (F : Fix S) (h : K_X11_sign_0 d 0 0 91 S C (fun r1 Sq C2 => Sq = S ∧ K_X11_passes0_0 d 0 0 r1 S C2 (fun r3 Sq C4 => Sq = S ∧ ((r3 = 0 → K_X11_codeAt_0 d 0 0 (C4 81 22) S C4 (fun r5 Sq C6 => Sq = S ∧ ((C6 81 25 = 0 → K_X11_partOf_94 (d + 1) mc ms l1 r5 0 S (upC C6 81 22 (w32 ((C6 81 22) + 1))) Q) ∧ (¬ C6 81 25 = 0 → ((r5 = 14 → ((0 : Int) ≤ w32 (2856 + (w32 ((C6 81 22) + 1))) ∧ w32 (2856 + (w32 ((C6 81 22) + 1))) < 5656) ∧ K_X11_partOf_94 (d + 1) mc ms l1 r5 (C6 83 (w32 (2856 + (w32 ((C6 81 22) + 1))))) S (upC (upC C6 81 22 (w32 ((C6 81 22) + 1))) 81 22 (w32 ((w32 ((C6 81 22) + 1)) + 1))) Q) ∧ (¬ r5 = 14 → ((¬ r5 = 20 → K_X11_partOf_94 (d + 1) mc ms l1 r5 0 S (upC C6 81 22 (w32 ((C6 81 22) + 1))) Q) ∧ (r5 = 20 → ((0 : Int) ≤ w32 (2856 + (w32 ((C6 81 22) + 1))) ∧ w32 (2856 + (w32 ((C6 81 22) + 1))) < 5656) ∧ K_X11_partOf_94 (d + 1) mc ms l1 r5 (C6 83 (w32 (2856 + (w32 ((C6 81 22) + 1))))) S (upC (upC C6 81 22 (w32 ((C6 81 22) + 1))) 81 22 (w32 ((w32 ((C6 81 22) + 1)) + 1))) Q)))))))) ∧ (¬ r3 = 0 → K_X11_sumOf_0 d 0 0 l1 S C4 (fun r7 Sq C8 => Sq = S ∧ Q r7 S (upC C8 81 22 (w32 ((C8 81 22) + 1))))))))) : K_X11_partOf_0 (d + 1) mc ms l1 S C Q := by
  show Wp (d + 1) mc ms M_X11_partOf 0 [cA 81, cI l1, cU, cU] [] S C Q
  refine wp_aload_n (nx := 1) dX11_partOf_0 rfl rfl ?_
  refine wp_bipush (nx := 3) dX11_partOf_1 rfl ⟨by decide, i32 (by decide)⟩ ?_
  refine wp_invS (nx := 6) (N := M_X11_sign) (as := [cI 91]) (st := [cA 81]) (mc := 0) (ms := 0) (mc' := mc) (ms' := ms) dX11_partOf_3 rfl mok_X11_sign kM_X11_224 ks_X11_sign rfl rfl (leB rfl) (leB rfl) (z0 _) (z0 _) (Wp.mono h ?_)
  intro r1 Sq C2 h
  obtain ⟨e9, h⟩ := h
  rw [e9]
  show Wp (d + 1) mc ms M_X11_partOf 6 [cA 81, cI l1, cU, cU] [cI r1, cA 81] S C2 Q
  refine wp_invV (nx := 9) (N := M_X11_passes0) (as := [cI r1]) (st := []) (mc := 0) (ms := 0) (mc' := mc) (ms' := ms) (a := 81) clsX11 dX11_partOf_6 rfl mok_X11_passes0 kM_X11_289 ki_X11_passes0 ke_X11_passes0 (fo_81 F) (ft_81 F) rfl rfl (leB rfl) (leB rfl) (z0 _) (z0 _) (Wp.mono h ?_)
  intro r3 Sq C4 h
  obtain ⟨e9, h⟩ := h
  rw [e9]
  show Wp (d + 1) mc ms M_X11_partOf 9 [cA 81, cI l1, cU, cU] [cI r3] S C4 Q
  refine wp_if_eq (nx := 12) (tg := 30) dX11_partOf_9 rfl rfl (fun hc => ?_) (fun hc => ?_)
  · have h := h.1 hc
    refine wp_aload_n (nx := 31) dX11_partOf_30 rfl rfl ?_
    refine wp_aload_n (nx := 32) dX11_partOf_31 rfl rfl ?_
    refine wp_getIe (kk := 22) 22 (nx := 35) clsX11 dX11_partOf_32 rfl kF_X11_265 (by decide) (fo_81 F) (ft_81 F) rfl rfl rfl ?_
    refine wp_invV (nx := 38) (N := M_X11_codeAt) (as := [cI (C4 81 22)]) (st := []) (mc := 0) (ms := 0) (mc' := mc) (ms' := ms) (a := 81) clsX11 dX11_partOf_35 rfl mok_X11_codeAt kM_X11_268 ki_X11_codeAt ke_X11_codeAt (fo_81 F) (ft_81 F) rfl rfl (leB rfl) (leB rfl) (z0 _) (z0 _) (Wp.mono h ?_)
    intro r5 Sq C6 h
    obtain ⟨e9, h⟩ := h
    rw [e9]
    show Wp (d + 1) mc ms M_X11_partOf 38 [cA 81, cI l1, cU, cU] [cI r5] S C6 Q
    refine wp_istore_n (nx := 39) dX11_partOf_38 rfl (by decide) ?_
    refine wp_ls (ls2 := [cA 81, cI l1, cI r5, cU]) rfl ?_
    refine wp_iconst (nx := 40) dX11_partOf_39 rfl (i32 (by decide)) ?_
    refine wp_istore_n (nx := 41) dX11_partOf_40 rfl (by decide) ?_
    refine wp_ls (ls2 := [cA 81, cI l1, cI r5, cI 0]) rfl ?_
    refine wp_aload_n (nx := 42) dX11_partOf_41 rfl rfl ?_
    refine wp_dup (nx := 43) dX11_partOf_42 rfl (k1A _) ?_
    refine wp_getIe (kk := 22) 22 (nx := 46) clsX11 dX11_partOf_43 rfl kF_X11_265 (by decide) (fo_81 F) (ft_81 F) rfl rfl rfl ?_
    refine wp_iconst (nx := 47) dX11_partOf_46 rfl (i32 (by decide)) ?_
    refine wp_iadd (nx := 48) dX11_partOf_47 rfl ?_
    refine wp_putIe (kk := 22) 22 (nx := 51) clsX11 dX11_partOf_48 rfl kF_X11_265 (by decide) (fo_81 F) (ft_81 F) rfl rfl ⟨rfl, rfl⟩ rfl ?_
    refine wp_aload_n (nx := 52) dX11_partOf_51 rfl rfl ?_
    refine wp_getIe (kk := 25) 25 (nx := 55) clsX11 dX11_partOf_52 rfl kF_X11_295 (by decide) (fo_81 F) (ft_81 F) rfl rfl (upC_sK (by decide)) ?_
    refine wp_if_eq (nx := 58) (tg := 94) dX11_partOf_55 rfl rfl (fun hc => ?_) (fun hc => ?_)
    · have h := h.1 hc
      exact h
    · have h := h.2 hc
      refine wp_iload_n (nx := 59) dX11_partOf_58 rfl rfl ?_
      refine wp_bipush (nx := 61) dX11_partOf_59 rfl ⟨by decide, i32 (by decide)⟩ ?_
      refine wp_icmp_eq (nx := 64) (tg := 70) dX11_partOf_61 rfl rfl (fun hc => ?_) (fun hc => ?_)
      · have h := h.1 hc
        refine wp_aload_n (nx := 71) dX11_partOf_70 rfl rfl ?_
        refine wp_getAe (kk := 2) (nx := 74) clsX11 dX11_partOf_71 rfl kF_X11_28 (by decide) (fo_81 F) (ft_81 F) rfl (fp_81_2 F) ?_
        refine wp_sipush (nx := 77) dX11_partOf_74 rfl ⟨by decide, i32 (by decide)⟩ ?_
        refine wp_aload_n (nx := 78) dX11_partOf_77 rfl rfl ?_
        refine wp_getIe (kk := 22) 22 (nx := 81) clsX11 dX11_partOf_78 rfl kF_X11_265 (by decide) (fo_81 F) (ft_81 F) rfl rfl upC_h ?_
        refine wp_iadd (nx := 82) dX11_partOf_81 rfl ?_
        obtain ⟨hi, h⟩ := h
        refine wp_ialoadE (nx := 83) dX11_partOf_82 rfl (fo_83 F) (fl_83 F) hi (ft_83 F) (upC_sA (by decide)) ?_
        refine wp_istore_n (nx := 84) dX11_partOf_83 rfl (by decide) ?_
        refine wp_ls (ls2 := [cA 81, cI l1, cI r5, cI (C6 83 (w32 (2856 + (w32 ((C6 81 22) + 1)))))]) rfl ?_
        refine wp_aload_n (nx := 85) dX11_partOf_84 rfl rfl ?_
        refine wp_dup (nx := 86) dX11_partOf_85 rfl (k1A _) ?_
        refine wp_getIe (kk := 22) 22 (nx := 89) clsX11 dX11_partOf_86 rfl kF_X11_265 (by decide) (fo_81 F) (ft_81 F) rfl rfl upC_h ?_
        refine wp_iconst (nx := 90) dX11_partOf_89 rfl (i32 (by decide)) ?_
        refine wp_iadd (nx := 91) dX11_partOf_90 rfl ?_
        refine wp_putIe (kk := 22) 22 (nx := 94) clsX11 dX11_partOf_91 rfl kF_X11_265 (by decide) (fo_81 F) (ft_81 F) rfl rfl ⟨rfl, rfl⟩ rfl ?_
        exact h
      · have h := h.2 hc
        refine wp_iload_n (nx := 65) dX11_partOf_64 rfl rfl ?_
        refine wp_bipush (nx := 67) dX11_partOf_65 rfl ⟨by decide, i32 (by decide)⟩ ?_
        refine wp_icmp_ne (nx := 70) (tg := 94) dX11_partOf_67 rfl rfl (fun hc => ?_) (fun hc => ?_)
        · have h := h.1 hc
          exact h
        · have h := h.2 hc
          refine wp_aload_n (nx := 71) dX11_partOf_70 rfl rfl ?_
          refine wp_getAe (kk := 2) (nx := 74) clsX11 dX11_partOf_71 rfl kF_X11_28 (by decide) (fo_81 F) (ft_81 F) rfl (fp_81_2 F) ?_
          refine wp_sipush (nx := 77) dX11_partOf_74 rfl ⟨by decide, i32 (by decide)⟩ ?_
          refine wp_aload_n (nx := 78) dX11_partOf_77 rfl rfl ?_
          refine wp_getIe (kk := 22) 22 (nx := 81) clsX11 dX11_partOf_78 rfl kF_X11_265 (by decide) (fo_81 F) (ft_81 F) rfl rfl upC_h ?_
          refine wp_iadd (nx := 82) dX11_partOf_81 rfl ?_
          obtain ⟨hi, h⟩ := h
          refine wp_ialoadE (nx := 83) dX11_partOf_82 rfl (fo_83 F) (fl_83 F) hi (ft_83 F) (upC_sA (by decide)) ?_
          refine wp_istore_n (nx := 84) dX11_partOf_83 rfl (by decide) ?_
          refine wp_ls (ls2 := [cA 81, cI l1, cI r5, cI (C6 83 (w32 (2856 + (w32 ((C6 81 22) + 1)))))]) rfl ?_
          refine wp_aload_n (nx := 85) dX11_partOf_84 rfl rfl ?_
          refine wp_dup (nx := 86) dX11_partOf_85 rfl (k1A _) ?_
          refine wp_getIe (kk := 22) 22 (nx := 89) clsX11 dX11_partOf_86 rfl kF_X11_265 (by decide) (fo_81 F) (ft_81 F) rfl rfl upC_h ?_
          refine wp_iconst (nx := 90) dX11_partOf_89 rfl (i32 (by decide)) ?_
          refine wp_iadd (nx := 91) dX11_partOf_90 rfl ?_
          refine wp_putIe (kk := 22) 22 (nx := 94) clsX11 dX11_partOf_91 rfl kF_X11_265 (by decide) (fo_81 F) (ft_81 F) rfl rfl ⟨rfl, rfl⟩ rfl ?_
          exact h
  · have h := h.2 hc
    refine wp_aload_n (nx := 13) dX11_partOf_12 rfl rfl ?_
    refine wp_iload_n (nx := 14) dX11_partOf_13 rfl rfl ?_
    refine wp_invV (nx := 17) (N := M_X11_sumOf) (as := [cI l1]) (st := []) (mc := 0) (ms := 0) (mc' := mc) (ms' := ms) (a := 81) clsX11 dX11_partOf_14 rfl mok_X11_sumOf kM_X11_292 ki_X11_sumOf ke_X11_sumOf (fo_81 F) (ft_81 F) rfl rfl (leB rfl) (leB rfl) (z0 _) (z0 _) (Wp.mono h ?_)
    intro r7 Sq C8 h
    obtain ⟨e9, h⟩ := h
    rw [e9]
    show Wp (d + 1) mc ms M_X11_partOf 17 [cA 81, cI l1, cU, cU] [cJ r7] S C8 Q
    refine wp_lstore_n (nx := 18) dX11_partOf_17 rfl (by decide) ?_
    refine wp_ls (ls2 := [cA 81, cI l1, cJ r7, cU]) rfl ?_
    refine wp_aload_n (nx := 19) dX11_partOf_18 rfl rfl ?_
    refine wp_dup (nx := 20) dX11_partOf_19 rfl (k1A _) ?_
    refine wp_getIe (kk := 22) 22 (nx := 23) clsX11 dX11_partOf_20 rfl kF_X11_265 (by decide) (fo_81 F) (ft_81 F) rfl rfl rfl ?_
    refine wp_iconst (nx := 24) dX11_partOf_23 rfl (i32 (by decide)) ?_
    refine wp_iadd (nx := 25) dX11_partOf_24 rfl ?_
    refine wp_putIe (kk := 22) 22 (nx := 28) clsX11 dX11_partOf_25 rfl kF_X11_265 (by decide) (fo_81 F) (ft_81 F) rfl rfl ⟨rfl, rfl⟩ rfl ?_
    refine wp_lload_n (nx := 29) dX11_partOf_28 rfl rfl ?_
    exact wp_lreturn dX11_partOf_29 rfl h
theorem b_X11_partOf_94 {d mc ms : Nat} {l1 l2 l3 : Int} {S : MS} {C : MC} {Q : Int → MS → MC → Prop} (F : Fix S) (h : ((l1 = 0 → Q 0 S C) ∧ (¬ l1 = 0 → ((C 81 24 = 0 → ((¬ l2 = 50 → ((C 81 25 = 0 → ((0 : Int) ≤ w32 (l2 - 8) ∧ w32 (l2 - 8) < 8) ∧ Q (C 93 (w32 (l2 - 8))) S C) ∧ (¬ C 81 25 = 0 → K_X11_orderValue_0 d 0 0 l2 l3 S C (fun r1 Sq C2 => Sq = S ∧ Q r1 S C2)))) ∧ (l2 = 50 → ((0 : Int) ≤ w32 ((w32 (2856 + (C 81 22))) - 1) ∧ w32 ((w32 (2856 + (C 81 22))) - 1) < 5656) ∧ Q (C 83 (w32 ((w32 (2856 + (C 81 22))) - 1))) S C))) ∧ (¬ C 81 24 = 0 → Q 0 S C))))) : K_X11_partOf_94 (d + 1) mc ms l1 l2 l3 S C Q := by
  show Wp (d + 1) mc ms M_X11_partOf 94 [cA 81, cI l1, cI l2, cI l3] [] S C Q
  refine wp_iload_n (nx := 95) dX11_partOf_94 rfl rfl ?_
  refine wp_if_eq (nx := 98) (tg := 105) dX11_partOf_95 rfl rfl (fun hc => ?_) (fun hc => ?_)
  · have h := h.1 hc
    refine wp_lconst (nx := 106) (v := 0) dX11_partOf_105 rfl ⟨by decide, i64 (by decide)⟩ ?_
    exact wp_lreturn dX11_partOf_106 rfl h
  · have h := h.2 hc
    refine wp_aload_n (nx := 99) dX11_partOf_98 rfl rfl ?_
    refine wp_getIe (kk := 24) 24 (nx := 102) clsX11 dX11_partOf_99 rfl kF_X11_275 (by decide) (fo_81 F) (ft_81 F) rfl rfl rfl ?_
    refine wp_if_eq (nx := 105) (tg := 107) dX11_partOf_102 rfl rfl (fun hc => ?_) (fun hc => ?_)
    · have h := h.1 hc
      refine wp_iload_n (nx := 108) dX11_partOf_107 rfl rfl ?_
      refine wp_bipush (nx := 110) dX11_partOf_108 rfl ⟨by decide, i32 (by decide)⟩ ?_
      refine wp_icmp_ne (nx := 113) (tg := 130) dX11_partOf_110 rfl rfl (fun hc => ?_) (fun hc => ?_)
      · have h := h.1 hc
        refine wp_aload_n (nx := 131) dX11_partOf_130 rfl rfl ?_
        refine wp_getIe (kk := 25) 25 (nx := 134) clsX11 dX11_partOf_131 rfl kF_X11_295 (by decide) (fo_81 F) (ft_81 F) rfl rfl rfl ?_
        refine wp_if_eq (nx := 137) (tg := 147) dX11_partOf_134 rfl rfl (fun hc => ?_) (fun hc => ?_)
        · have h := h.1 hc
          refine wp_aload_n (nx := 148) dX11_partOf_147 rfl rfl ?_
          refine wp_getAe (kk := 26) (nx := 151) clsX11 dX11_partOf_148 rfl kF_X11_63 (by decide) (fo_81 F) (ft_81 F) rfl (fp_81_26 F) ?_
          refine wp_iload_n (nx := 152) dX11_partOf_151 rfl rfl ?_
          refine wp_bipush (nx := 154) dX11_partOf_152 rfl ⟨by decide, i32 (by decide)⟩ ?_
          refine wp_isub (nx := 155) dX11_partOf_154 rfl ?_
          obtain ⟨hi, h⟩ := h
          refine wp_ialoadE (nx := 156) dX11_partOf_155 rfl (fo_93 F) (fl_93 F) hi (ft_93 F) rfl ?_
          refine wp_i2l (nx := 157) dX11_partOf_156 rfl ?_
          exact wp_lreturn dX11_partOf_157 rfl h
        · have h := h.2 hc
          refine wp_aload_n (nx := 138) dX11_partOf_137 rfl rfl ?_
          refine wp_iload_n (nx := 139) dX11_partOf_138 rfl rfl ?_
          refine wp_iload_n (nx := 140) dX11_partOf_139 rfl rfl ?_
          refine wp_invV (nx := 143) (N := M_X11_orderValue) (as := [cI l2, cI l3]) (st := []) (mc := 0) (ms := 0) (mc' := mc) (ms' := ms) (a := 81) clsX11 dX11_partOf_140 rfl mok_X11_orderValue kM_X11_298 ki_X11_orderValue ke_X11_orderValue (fo_81 F) (ft_81 F) rfl rfl (leB rfl) (leB rfl) (z0 _) (z0 _) (Wp.mono h ?_)
          intro r1 Sq C2 h
          obtain ⟨e9, h⟩ := h
          rw [e9]
          show Wp (d + 1) mc ms M_X11_partOf 143 [cA 81, cI l1, cI l2, cI l3] [cI r1] S C2 Q
          refine wp_i2l (nx := 144) dX11_partOf_143 rfl ?_
          refine wp_goto (nx := 157) dX11_partOf_144 rfl ?_
          exact wp_lreturn dX11_partOf_157 rfl h
      · have h := h.2 hc
        refine wp_aload_n (nx := 114) dX11_partOf_113 rfl rfl ?_
        refine wp_getAe (kk := 2) (nx := 117) clsX11 dX11_partOf_114 rfl kF_X11_28 (by decide) (fo_81 F) (ft_81 F) rfl (fp_81_2 F) ?_
        refine wp_sipush (nx := 120) dX11_partOf_117 rfl ⟨by decide, i32 (by decide)⟩ ?_
        refine wp_aload_n (nx := 121) dX11_partOf_120 rfl rfl ?_
        refine wp_getIe (kk := 22) 22 (nx := 124) clsX11 dX11_partOf_121 rfl kF_X11_265 (by decide) (fo_81 F) (ft_81 F) rfl rfl rfl ?_
        refine wp_iadd (nx := 125) dX11_partOf_124 rfl ?_
        refine wp_iconst (nx := 126) dX11_partOf_125 rfl (i32 (by decide)) ?_
        refine wp_isub (nx := 127) dX11_partOf_126 rfl ?_
        obtain ⟨hi, h⟩ := h
        refine wp_ialoadE (nx := 128) dX11_partOf_127 rfl (fo_83 F) (fl_83 F) hi (ft_83 F) rfl ?_
        refine wp_i2l (nx := 129) dX11_partOf_128 rfl ?_
        exact wp_lreturn dX11_partOf_129 rfl h
    · have h := h.2 hc
      refine wp_lconst (nx := 106) (v := 0) dX11_partOf_105 rfl ⟨by decide, i64 (by decide)⟩ ?_
      exact wp_lreturn dX11_partOf_106 rfl h
theorem b_X11_orderValue_0 {d mc ms : Nat} {l1 l2 : Int} {S : MS} {C : MC} {Q : Int → MS → MC → Prop} (F : Fix S) (h : ((l1 < 14 ∨ 20 < l1 → K_X11_notes0_0 d 0 0 S C (fun r1 Sq C2 => Sq = S ∧ Q r1 S C2)) ∧ (l1 = 14 → ((0 : Int) ≤ w32 (0 + l2) ∧ w32 (0 + l2) < 5656) ∧ Q (C 83 (w32 (0 + l2))) S C) ∧ (l1 = 15 → Q (C 83 24) S C) ∧ (l1 = 16 → Q (C 81 27) S C) ∧ (l1 = 17 → Q (C 81 28) S C) ∧ (l1 = 18 → Q (C 81 29) S C) ∧ (l1 = 19 → K_X11_notes0_0 d 0 0 S C (fun r3 Sq C4 => Sq = S ∧ Q r3 S C4)) ∧ (l1 = 20 → K_X11_musicAt_0 d 0 0 l2 S C (fun r5 Sq C6 => Sq = S ∧ Q r5 S C6)))) : K_X11_orderValue_0 (d + 1) mc ms l1 l2 S C Q := by
  show Wp (d + 1) mc ms M_X11_orderValue 0 [cA 81, cI l1, cI l2] [] S C Q
  refine wp_iload_n (nx := 1) dX11_orderValue_0 rfl rfl ?_
  rcases (show (l1 < 14 ∨ 20 < l1) ∨ l1 = 14 ∨ l1 = 15 ∨ l1 = 16 ∨ l1 = 17 ∨ l1 = 18 ∨ l1 = 19 ∨ l1 = 20 by omega) with hc | hc | hc | hc | hc | hc | hc | hc
  · have h := h.1 hc
    refine wp_tableOut (tg := 82) dX11_orderValue_1 hc rfl ?_
    refine wp_aload_n (nx := 83) dX11_orderValue_82 rfl rfl ?_
    refine wp_invV (nx := 86) (N := M_X11_notes0) (as := []) (st := []) (mc := 0) (ms := 0) (mc' := mc) (ms' := ms) (a := 81) clsX11 dX11_orderValue_83 rfl mok_X11_notes0 kM_X11_310 ki_X11_notes0 ke_X11_notes0 (fo_81 F) (ft_81 F) rfl rfl (leB rfl) (leB rfl) (z0 _) (z0 _) (Wp.mono h ?_)
    intro r1 Sq C2 h
    obtain ⟨e9, h⟩ := h
    rw [e9]
    show Wp (d + 1) mc ms M_X11_orderValue 86 [cA 81, cI l1, cI l2] [cI r1] S C2 Q
    exact wp_ireturn dX11_orderValue_86 rfl rfl rfl h
  · have h := h.2.1 hc
    refine wp_tableIn (tg := 44) (off := 43) dX11_orderValue_1 (by omega) (by omega) (by rw [show (l1 - 14).toNat = 0 by omega]; rfl) rfl ?_
    refine wp_aload_n (nx := 45) dX11_orderValue_44 rfl rfl ?_
    refine wp_getAe (kk := 2) (nx := 48) clsX11 dX11_orderValue_45 rfl kF_X11_28 (by decide) (fo_81 F) (ft_81 F) rfl (fp_81_2 F) ?_
    refine wp_iconst (nx := 49) dX11_orderValue_48 rfl (i32 (by decide)) ?_
    refine wp_iload_n (nx := 50) dX11_orderValue_49 rfl rfl ?_
    refine wp_iadd (nx := 51) dX11_orderValue_50 rfl ?_
    obtain ⟨hi, h⟩ := h
    refine wp_ialoadE (nx := 52) dX11_orderValue_51 rfl (fo_83 F) (fl_83 F) hi (ft_83 F) rfl ?_
    exact wp_ireturn dX11_orderValue_52 rfl rfl rfl h
  · have h := h.2.2.1 hc
    refine wp_tableIn (tg := 59) (off := 58) dX11_orderValue_1 (by omega) (by omega) (by rw [show (l1 - 14).toNat = 1 by omega]; rfl) rfl ?_
    refine wp_aload_n (nx := 60) dX11_orderValue_59 rfl rfl ?_
    refine wp_getAe (kk := 2) (nx := 63) clsX11 dX11_orderValue_60 rfl kF_X11_28 (by decide) (fo_81 F) (ft_81 F) rfl (fp_81_2 F) ?_
    refine wp_bipush (nx := 65) dX11_orderValue_63 rfl ⟨by decide, i32 (by decide)⟩ ?_
    refine wp_ialoadE (nx := 66) dX11_orderValue_65 rfl (fo_83 F) (fl_83 F) (by decide) (ft_83 F) rfl ?_
    exact wp_ireturn dX11_orderValue_66 rfl rfl rfl h
  · have h := h.2.2.2.1 hc
    refine wp_tableIn (tg := 67) (off := 66) dX11_orderValue_1 (by omega) (by omega) (by rw [show (l1 - 14).toNat = 2 by omega]; rfl) rfl ?_
    refine wp_aload_n (nx := 68) dX11_orderValue_67 rfl rfl ?_
    refine wp_getIe (kk := 27) 27 (nx := 71) clsX11 dX11_orderValue_68 rfl kF_X11_301 (by decide) (fo_81 F) (ft_81 F) rfl rfl rfl ?_
    exact wp_ireturn dX11_orderValue_71 rfl rfl rfl h
  · have h := h.2.2.2.2.1 hc
    refine wp_tableIn (tg := 72) (off := 71) dX11_orderValue_1 (by omega) (by omega) (by rw [show (l1 - 14).toNat = 3 by omega]; rfl) rfl ?_
    refine wp_aload_n (nx := 73) dX11_orderValue_72 rfl rfl ?_
    refine wp_getIe (kk := 28) 28 (nx := 76) clsX11 dX11_orderValue_73 rfl kF_X11_304 (by decide) (fo_81 F) (ft_81 F) rfl rfl rfl ?_
    exact wp_ireturn dX11_orderValue_76 rfl rfl rfl h
  · have h := h.2.2.2.2.2.1 hc
    refine wp_tableIn (tg := 77) (off := 76) dX11_orderValue_1 (by omega) (by omega) (by rw [show (l1 - 14).toNat = 4 by omega]; rfl) rfl ?_
    refine wp_aload_n (nx := 78) dX11_orderValue_77 rfl rfl ?_
    refine wp_getIe (kk := 29) 29 (nx := 81) clsX11 dX11_orderValue_78 rfl kF_X11_307 (by decide) (fo_81 F) (ft_81 F) rfl rfl rfl ?_
    exact wp_ireturn dX11_orderValue_81 rfl rfl rfl h
  · have h := h.2.2.2.2.2.2.1 hc
    refine wp_tableIn (tg := 82) (off := 81) dX11_orderValue_1 (by omega) (by omega) (by rw [show (l1 - 14).toNat = 5 by omega]; rfl) rfl ?_
    refine wp_aload_n (nx := 83) dX11_orderValue_82 rfl rfl ?_
    refine wp_invV (nx := 86) (N := M_X11_notes0) (as := []) (st := []) (mc := 0) (ms := 0) (mc' := mc) (ms' := ms) (a := 81) clsX11 dX11_orderValue_83 rfl mok_X11_notes0 kM_X11_310 ki_X11_notes0 ke_X11_notes0 (fo_81 F) (ft_81 F) rfl rfl (leB rfl) (leB rfl) (z0 _) (z0 _) (Wp.mono h ?_)
    intro r3 Sq C4 h
    obtain ⟨e9, h⟩ := h
    rw [e9]
    show Wp (d + 1) mc ms M_X11_orderValue 86 [cA 81, cI l1, cI l2] [cI r3] S C4 Q
    exact wp_ireturn dX11_orderValue_86 rfl rfl rfl h
  · have h := h.2.2.2.2.2.2.2 hc
    refine wp_tableIn (tg := 53) (off := 52) dX11_orderValue_1 (by omega) (by omega) (by rw [show (l1 - 14).toNat = 6 by omega]; rfl) rfl ?_
    refine wp_aload_n (nx := 54) dX11_orderValue_53 rfl rfl ?_
    refine wp_iload_n (nx := 55) dX11_orderValue_54 rfl rfl ?_
    refine wp_invV (nx := 58) (N := M_X11_musicAt) (as := [cI l2]) (st := []) (mc := 0) (ms := 0) (mc' := mc) (ms' := ms) (a := 81) clsX11 dX11_orderValue_55 rfl mok_X11_musicAt kM_X11_122 ki_X11_musicAt ke_X11_musicAt (fo_81 F) (ft_81 F) rfl rfl (leB rfl) (leB rfl) (z0 _) (z0 _) (Wp.mono h ?_)
    intro r5 Sq C6 h
    obtain ⟨e9, h⟩ := h
    rw [e9]
    show Wp (d + 1) mc ms M_X11_orderValue 58 [cA 81, cI l1, cI l2] [cI r5] S C6 Q
    exact wp_ireturn dX11_orderValue_58 rfl rfl rfl h
theorem b_X11_testOf_0 {d mc ms : Nat} {l1 : Int} {S : MS} {C : MC} {Q : Int → MS → MC → Prop} (F : Fix S) (h : K_X11_bothOf_0 d 0 0 l1 S C (fun r1 Sq C2 => Sq = S ∧ K_X11_testOf_6 (d + 1) mc ms l1 r1 S C2 Q)) : K_X11_testOf_0 (d + 1) mc ms l1 S C Q := by
  show Wp (d + 1) mc ms M_X11_testOf 0 [cA 81, cI l1, cU, cU] [] S C Q
  refine wp_aload_n (nx := 1) dX11_testOf_0 rfl rfl ?_
  refine wp_iload_n (nx := 2) dX11_testOf_1 rfl rfl ?_
  refine wp_invV (nx := 5) (N := M_X11_bothOf) (as := [cI l1]) (st := []) (mc := 0) (ms := 0) (mc' := mc) (ms' := ms) (a := 81) clsX11 dX11_testOf_2 rfl mok_X11_bothOf kM_X11_313 ki_X11_bothOf ke_X11_bothOf (fo_81 F) (ft_81 F) rfl rfl (leB rfl) (leB rfl) (z0 _) (z0 _) (Wp.mono h ?_)
  intro r1 Sq C2 h
  obtain ⟨e9, h⟩ := h
  rw [e9]
  show Wp (d + 1) mc ms M_X11_testOf 5 [cA 81, cI l1, cU, cU] [cI r1] S C2 Q
  refine wp_istore_n (nx := 6) dX11_testOf_5 rfl (by decide) ?_
  refine wp_ls (ls2 := [cA 81, cI l1, cI r1, cU]) rfl ?_
  exact h
theorem b_X11_testOf_6 {d mc ms : Nat} {l1 l2 : Int} {S : MS} {C : MC} {Q : Int → MS → MC → Prop} (F : Fix S) (h : K_X11_passes0_0 d 0 0 5 S C (fun r1 Sq C2 => Sq = S ∧ ((r1 = 0 → ((l2 = 0 ∨ l2 = 1) ∧ Q l2 S C2)) ∧ (¬ r1 = 0 → ((l1 = 0 → K_X11_bothOf_0 d 0 0 0 S C2 (fun r3 Sq C4 => Sq = S ∧ ((¬ l2 = 0 → K_X11_testOf_6 (d + 1) mc ms l1 1 S C4 Q) ∧ (l2 = 0 → ((r3 = 0 → K_X11_testOf_6 (d + 1) mc ms l1 0 S C4 Q) ∧ (¬ r3 = 0 → K_X11_testOf_6 (d + 1) mc ms l1 1 S C4 Q)))))) ∧ (¬ l1 = 0 → ((¬ l2 = 0 → K_X11_bothOf_0 d 0 0 0 S C2 (fun r5 Sq C6 => Sq = S ∧ ((¬ l2 = 0 → K_X11_testOf_6 (d + 1) mc ms l1 1 S C6 Q) ∧ (l2 = 0 → ((r5 = 0 → K_X11_testOf_6 (d + 1) mc ms l1 0 S C6 Q) ∧ (¬ r5 = 0 → K_X11_testOf_6 (d + 1) mc ms l1 1 S C6 Q)))))) ∧ (l2 = 0 → K_X11_bothOf_0 d 0 0 1 S C2 (fun r7 Sq C8 => Sq = S ∧ ((¬ l2 = 0 → K_X11_testOf_6 (d + 1) mc ms l1 1 S C8 Q) ∧ (l2 = 0 → ((r7 = 0 → K_X11_testOf_6 (d + 1) mc ms l1 0 S C8 Q) ∧ (¬ r7 = 0 → K_X11_testOf_6 (d + 1) mc ms l1 1 S C8 Q))))))))))))) : K_X11_testOf_6 (d + 1) mc ms l1 l2 S C Q := by
  show Wp (d + 1) mc ms M_X11_testOf 6 [cA 81, cI l1, cI l2, cU] [] S C Q
  refine wp_aload_n (nx := 7) dX11_testOf_6 rfl rfl ?_
  refine wp_iconst (nx := 8) dX11_testOf_7 rfl (i32 (by decide)) ?_
  refine wp_invV (nx := 11) (N := M_X11_passes0) (as := [cI 5]) (st := []) (mc := 0) (ms := 0) (mc' := mc) (ms' := ms) (a := 81) clsX11 dX11_testOf_8 rfl mok_X11_passes0 kM_X11_289 ki_X11_passes0 ke_X11_passes0 (fo_81 F) (ft_81 F) rfl rfl (leB rfl) (leB rfl) (z0 _) (z0 _) (Wp.mono h ?_)
  intro r1 Sq C2 h
  obtain ⟨e9, h⟩ := h
  rw [e9]
  show Wp (d + 1) mc ms M_X11_testOf 11 [cA 81, cI l1, cI l2, cU] [cI r1] S C2 Q
  refine wp_if_eq (nx := 14) (tg := 49) dX11_testOf_11 rfl rfl (fun hc => ?_) (fun hc => ?_)
  · have h := h.1 hc
    refine wp_iload_n (nx := 50) dX11_testOf_49 rfl rfl ?_
    obtain ⟨hz, h⟩ := h
    exact wp_ireturn dX11_testOf_50 rfl rfl (nz_of hz) h
  · have h := h.2 hc
    refine wp_aload_n (nx := 15) dX11_testOf_14 rfl rfl ?_
    refine wp_iload_n (nx := 16) dX11_testOf_15 rfl rfl ?_
    refine wp_if_eq (nx := 19) (tg := 27) dX11_testOf_16 rfl rfl (fun hc => ?_) (fun hc => ?_)
    · have h := h.1 hc
      refine wp_iconst (nx := 28) dX11_testOf_27 rfl (i32 (by decide)) ?_
      refine wp_invV (nx := 31) (N := M_X11_bothOf) (as := [cI 0]) (st := []) (mc := 0) (ms := 0) (mc' := mc) (ms' := ms) (a := 81) clsX11 dX11_testOf_28 rfl mok_X11_bothOf kM_X11_313 ki_X11_bothOf ke_X11_bothOf (fo_81 F) (ft_81 F) rfl rfl (leB rfl) (leB rfl) (z0 _) (z0 _) (Wp.mono h ?_)
      intro r3 Sq C4 h
      obtain ⟨e9, h⟩ := h
      rw [e9]
      show Wp (d + 1) mc ms M_X11_testOf 31 [cA 81, cI l1, cI l2, cU] [cI r3] S C4 Q
      refine wp_istore_n (nx := 32) dX11_testOf_31 rfl (by decide) ?_
      refine wp_ls (ls2 := [cA 81, cI l1, cI l2, cI r3]) rfl ?_
      refine wp_iload_n (nx := 33) dX11_testOf_32 rfl rfl ?_
      refine wp_if_ne (nx := 36) (tg := 40) dX11_testOf_33 rfl rfl (fun hc => ?_) (fun hc => ?_)
      · have h := h.1 hc
        refine wp_iconst (nx := 41) dX11_testOf_40 rfl (i32 (by decide)) ?_
        refine wp_goto (nx := 45) dX11_testOf_41 rfl ?_
        refine wp_istore_n (nx := 46) dX11_testOf_45 rfl (by decide) ?_
        refine wp_ls (ls2 := [cA 81, cI l1, cI 1, cI r3]) rfl ?_
        refine wp_goto (nx := 6) dX11_testOf_46 rfl ?_
        refine wp_fg [true, true, true, false] (ls2 := [cA 81, cI l1, cI 1, cU]) rfl ?_
        exact h
      · have h := h.2 hc
        refine wp_iload_n (nx := 37) dX11_testOf_36 rfl rfl ?_
        refine wp_if_eq (nx := 40) (tg := 44) dX11_testOf_37 rfl rfl (fun hc => ?_) (fun hc => ?_)
        · have h := h.1 hc
          refine wp_iconst (nx := 45) dX11_testOf_44 rfl (i32 (by decide)) ?_
          refine wp_istore_n (nx := 46) dX11_testOf_45 rfl (by decide) ?_
          refine wp_ls (ls2 := [cA 81, cI l1, cI 0, cI r3]) rfl ?_
          refine wp_goto (nx := 6) dX11_testOf_46 rfl ?_
          refine wp_fg [true, true, true, false] (ls2 := [cA 81, cI l1, cI 0, cU]) rfl ?_
          exact h
        · have h := h.2 hc
          refine wp_iconst (nx := 41) dX11_testOf_40 rfl (i32 (by decide)) ?_
          refine wp_goto (nx := 45) dX11_testOf_41 rfl ?_
          refine wp_istore_n (nx := 46) dX11_testOf_45 rfl (by decide) ?_
          refine wp_ls (ls2 := [cA 81, cI l1, cI 1, cI r3]) rfl ?_
          refine wp_goto (nx := 6) dX11_testOf_46 rfl ?_
          refine wp_fg [true, true, true, false] (ls2 := [cA 81, cI l1, cI 1, cU]) rfl ?_
          exact h
    · have h := h.2 hc
      refine wp_iload_n (nx := 20) dX11_testOf_19 rfl rfl ?_
      refine wp_if_ne (nx := 23) (tg := 27) dX11_testOf_20 rfl rfl (fun hc => ?_) (fun hc => ?_)
      · have h := h.1 hc
        refine wp_iconst (nx := 28) dX11_testOf_27 rfl (i32 (by decide)) ?_
        refine wp_invV (nx := 31) (N := M_X11_bothOf) (as := [cI 0]) (st := []) (mc := 0) (ms := 0) (mc' := mc) (ms' := ms) (a := 81) clsX11 dX11_testOf_28 rfl mok_X11_bothOf kM_X11_313 ki_X11_bothOf ke_X11_bothOf (fo_81 F) (ft_81 F) rfl rfl (leB rfl) (leB rfl) (z0 _) (z0 _) (Wp.mono h ?_)
        intro r5 Sq C6 h
        obtain ⟨e9, h⟩ := h
        rw [e9]
        show Wp (d + 1) mc ms M_X11_testOf 31 [cA 81, cI l1, cI l2, cU] [cI r5] S C6 Q
        refine wp_istore_n (nx := 32) dX11_testOf_31 rfl (by decide) ?_
        refine wp_ls (ls2 := [cA 81, cI l1, cI l2, cI r5]) rfl ?_
        refine wp_iload_n (nx := 33) dX11_testOf_32 rfl rfl ?_
        refine wp_if_ne (nx := 36) (tg := 40) dX11_testOf_33 rfl rfl (fun hc => ?_) (fun hc => ?_)
        · have h := h.1 hc
          refine wp_iconst (nx := 41) dX11_testOf_40 rfl (i32 (by decide)) ?_
          refine wp_goto (nx := 45) dX11_testOf_41 rfl ?_
          refine wp_istore_n (nx := 46) dX11_testOf_45 rfl (by decide) ?_
          refine wp_ls (ls2 := [cA 81, cI l1, cI 1, cI r5]) rfl ?_
          refine wp_goto (nx := 6) dX11_testOf_46 rfl ?_
          refine wp_fg [true, true, true, false] (ls2 := [cA 81, cI l1, cI 1, cU]) rfl ?_
          exact h
        · have h := h.2 hc
          refine wp_iload_n (nx := 37) dX11_testOf_36 rfl rfl ?_
          refine wp_if_eq (nx := 40) (tg := 44) dX11_testOf_37 rfl rfl (fun hc => ?_) (fun hc => ?_)
          · have h := h.1 hc
            refine wp_iconst (nx := 45) dX11_testOf_44 rfl (i32 (by decide)) ?_
            refine wp_istore_n (nx := 46) dX11_testOf_45 rfl (by decide) ?_
            refine wp_ls (ls2 := [cA 81, cI l1, cI 0, cI r5]) rfl ?_
            refine wp_goto (nx := 6) dX11_testOf_46 rfl ?_
            refine wp_fg [true, true, true, false] (ls2 := [cA 81, cI l1, cI 0, cU]) rfl ?_
            exact h
          · have h := h.2 hc
            refine wp_iconst (nx := 41) dX11_testOf_40 rfl (i32 (by decide)) ?_
            refine wp_goto (nx := 45) dX11_testOf_41 rfl ?_
            refine wp_istore_n (nx := 46) dX11_testOf_45 rfl (by decide) ?_
            refine wp_ls (ls2 := [cA 81, cI l1, cI 1, cI r5]) rfl ?_
            refine wp_goto (nx := 6) dX11_testOf_46 rfl ?_
            refine wp_fg [true, true, true, false] (ls2 := [cA 81, cI l1, cI 1, cU]) rfl ?_
            exact h
      · have h := h.2 hc
        refine wp_iconst (nx := 24) dX11_testOf_23 rfl (i32 (by decide)) ?_
        refine wp_goto (nx := 28) dX11_testOf_24 rfl ?_
        refine wp_invV (nx := 31) (N := M_X11_bothOf) (as := [cI 1]) (st := []) (mc := 0) (ms := 0) (mc' := mc) (ms' := ms) (a := 81) clsX11 dX11_testOf_28 rfl mok_X11_bothOf kM_X11_313 ki_X11_bothOf ke_X11_bothOf (fo_81 F) (ft_81 F) rfl rfl (leB rfl) (leB rfl) (z0 _) (z0 _) (Wp.mono h ?_)
        intro r7 Sq C8 h
        obtain ⟨e9, h⟩ := h
        rw [e9]
        show Wp (d + 1) mc ms M_X11_testOf 31 [cA 81, cI l1, cI l2, cU] [cI r7] S C8 Q
        refine wp_istore_n (nx := 32) dX11_testOf_31 rfl (by decide) ?_
        refine wp_ls (ls2 := [cA 81, cI l1, cI l2, cI r7]) rfl ?_
        refine wp_iload_n (nx := 33) dX11_testOf_32 rfl rfl ?_
        refine wp_if_ne (nx := 36) (tg := 40) dX11_testOf_33 rfl rfl (fun hc => ?_) (fun hc => ?_)
        · have h := h.1 hc
          refine wp_iconst (nx := 41) dX11_testOf_40 rfl (i32 (by decide)) ?_
          refine wp_goto (nx := 45) dX11_testOf_41 rfl ?_
          refine wp_istore_n (nx := 46) dX11_testOf_45 rfl (by decide) ?_
          refine wp_ls (ls2 := [cA 81, cI l1, cI 1, cI r7]) rfl ?_
          refine wp_goto (nx := 6) dX11_testOf_46 rfl ?_
          refine wp_fg [true, true, true, false] (ls2 := [cA 81, cI l1, cI 1, cU]) rfl ?_
          exact h
        · have h := h.2 hc
          refine wp_iload_n (nx := 37) dX11_testOf_36 rfl rfl ?_
          refine wp_if_eq (nx := 40) (tg := 44) dX11_testOf_37 rfl rfl (fun hc => ?_) (fun hc => ?_)
          · have h := h.1 hc
            refine wp_iconst (nx := 45) dX11_testOf_44 rfl (i32 (by decide)) ?_
            refine wp_istore_n (nx := 46) dX11_testOf_45 rfl (by decide) ?_
            refine wp_ls (ls2 := [cA 81, cI l1, cI 0, cI r7]) rfl ?_
            refine wp_goto (nx := 6) dX11_testOf_46 rfl ?_
            refine wp_fg [true, true, true, false] (ls2 := [cA 81, cI l1, cI 0, cU]) rfl ?_
            exact h
          · have h := h.2 hc
            refine wp_iconst (nx := 41) dX11_testOf_40 rfl (i32 (by decide)) ?_
            refine wp_goto (nx := 45) dX11_testOf_41 rfl ?_
            refine wp_istore_n (nx := 46) dX11_testOf_45 rfl (by decide) ?_
            refine wp_ls (ls2 := [cA 81, cI l1, cI 1, cI r7]) rfl ?_
            refine wp_goto (nx := 6) dX11_testOf_46 rfl ?_
            refine wp_fg [true, true, true, false] (ls2 := [cA 81, cI l1, cI 1, cU]) rfl ?_
            exact h
theorem b_X11_bothOf_0 {d mc ms : Nat} {l1 : Int} {S : MS} {C : MC} {Q : Int → MS → MC → Prop} (F : Fix S) (h : K_X11_plainOf_0 d 0 0 l1 S C (fun r1 Sq C2 => Sq = S ∧ K_X11_bothOf_6 (d + 1) mc ms l1 r1 S C2 Q)) : K_X11_bothOf_0 (d + 1) mc ms l1 S C Q := by
  show Wp (d + 1) mc ms M_X11_bothOf 0 [cA 81, cI l1, cU, cU] [] S C Q
  refine wp_aload_n (nx := 1) dX11_bothOf_0 rfl rfl ?_
  refine wp_iload_n (nx := 2) dX11_bothOf_1 rfl rfl ?_
  refine wp_invV (nx := 5) (N := M_X11_plainOf) (as := [cI l1]) (st := []) (mc := 0) (ms := 0) (mc' := mc) (ms' := ms) (a := 81) clsX11 dX11_bothOf_2 rfl mok_X11_plainOf kM_X11_316 ki_X11_plainOf ke_X11_plainOf (fo_81 F) (ft_81 F) rfl rfl (leB rfl) (leB rfl) (z0 _) (z0 _) (Wp.mono h ?_)
  intro r1 Sq C2 h
  obtain ⟨e9, h⟩ := h
  rw [e9]
  show Wp (d + 1) mc ms M_X11_bothOf 5 [cA 81, cI l1, cU, cU] [cI r1] S C2 Q
  refine wp_istore_n (nx := 6) dX11_bothOf_5 rfl (by decide) ?_
  refine wp_ls (ls2 := [cA 81, cI l1, cI r1, cU]) rfl ?_
  exact h
theorem b_X11_bothOf_6 {d mc ms : Nat} {l1 l2 : Int} {S : MS} {C : MC} {Q : Int → MS → MC → Prop} (F : Fix S) (h : K_X11_passes0_0 d 0 0 6 S C (fun r1 Sq C2 => Sq = S ∧ ((r1 = 0 → ((l2 = 0 ∨ l2 = 1) ∧ Q l2 S C2)) ∧ (¬ r1 = 0 → ((l1 = 0 → K_X11_plainOf_0 d 0 0 0 S C2 (fun r3 Sq C4 => Sq = S ∧ ((l2 = 0 → K_X11_bothOf_6 (d + 1) mc ms l1 0 S C4 Q) ∧ (¬ l2 = 0 → ((r3 = 0 → K_X11_bothOf_6 (d + 1) mc ms l1 0 S C4 Q) ∧ (¬ r3 = 0 → K_X11_bothOf_6 (d + 1) mc ms l1 1 S C4 Q)))))) ∧ (¬ l1 = 0 → ((l2 = 0 → K_X11_plainOf_0 d 0 0 0 S C2 (fun r5 Sq C6 => Sq = S ∧ ((l2 = 0 → K_X11_bothOf_6 (d + 1) mc ms l1 0 S C6 Q) ∧ (¬ l2 = 0 → ((r5 = 0 → K_X11_bothOf_6 (d + 1) mc ms l1 0 S C6 Q) ∧ (¬ r5 = 0 → K_X11_bothOf_6 (d + 1) mc ms l1 1 S C6 Q)))))) ∧ (¬ l2 = 0 → K_X11_plainOf_0 d 0 0 1 S C2 (fun r7 Sq C8 => Sq = S ∧ ((l2 = 0 → K_X11_bothOf_6 (d + 1) mc ms l1 0 S C8 Q) ∧ (¬ l2 = 0 → ((r7 = 0 → K_X11_bothOf_6 (d + 1) mc ms l1 0 S C8 Q) ∧ (¬ r7 = 0 → K_X11_bothOf_6 (d + 1) mc ms l1 1 S C8 Q))))))))))))) : K_X11_bothOf_6 (d + 1) mc ms l1 l2 S C Q := by
  show Wp (d + 1) mc ms M_X11_bothOf 6 [cA 81, cI l1, cI l2, cU] [] S C Q
  refine wp_aload_n (nx := 7) dX11_bothOf_6 rfl rfl ?_
  refine wp_bipush (nx := 9) dX11_bothOf_7 rfl ⟨by decide, i32 (by decide)⟩ ?_
  refine wp_invV (nx := 12) (N := M_X11_passes0) (as := [cI 6]) (st := []) (mc := 0) (ms := 0) (mc' := mc) (ms' := ms) (a := 81) clsX11 dX11_bothOf_9 rfl mok_X11_passes0 kM_X11_289 ki_X11_passes0 ke_X11_passes0 (fo_81 F) (ft_81 F) rfl rfl (leB rfl) (leB rfl) (z0 _) (z0 _) (Wp.mono h ?_)
  intro r1 Sq C2 h
  obtain ⟨e9, h⟩ := h
  rw [e9]
  show Wp (d + 1) mc ms M_X11_bothOf 12 [cA 81, cI l1, cI l2, cU] [cI r1] S C2 Q
  refine wp_if_eq (nx := 15) (tg := 50) dX11_bothOf_12 rfl rfl (fun hc => ?_) (fun hc => ?_)
  · have h := h.1 hc
    refine wp_iload_n (nx := 51) dX11_bothOf_50 rfl rfl ?_
    obtain ⟨hz, h⟩ := h
    exact wp_ireturn dX11_bothOf_51 rfl rfl (nz_of hz) h
  · have h := h.2 hc
    refine wp_aload_n (nx := 16) dX11_bothOf_15 rfl rfl ?_
    refine wp_iload_n (nx := 17) dX11_bothOf_16 rfl rfl ?_
    refine wp_if_eq (nx := 20) (tg := 28) dX11_bothOf_17 rfl rfl (fun hc => ?_) (fun hc => ?_)
    · have h := h.1 hc
      refine wp_iconst (nx := 29) dX11_bothOf_28 rfl (i32 (by decide)) ?_
      refine wp_invV (nx := 32) (N := M_X11_plainOf) (as := [cI 0]) (st := []) (mc := 0) (ms := 0) (mc' := mc) (ms' := ms) (a := 81) clsX11 dX11_bothOf_29 rfl mok_X11_plainOf kM_X11_316 ki_X11_plainOf ke_X11_plainOf (fo_81 F) (ft_81 F) rfl rfl (leB rfl) (leB rfl) (z0 _) (z0 _) (Wp.mono h ?_)
      intro r3 Sq C4 h
      obtain ⟨e9, h⟩ := h
      rw [e9]
      show Wp (d + 1) mc ms M_X11_bothOf 32 [cA 81, cI l1, cI l2, cU] [cI r3] S C4 Q
      refine wp_istore_n (nx := 33) dX11_bothOf_32 rfl (by decide) ?_
      refine wp_ls (ls2 := [cA 81, cI l1, cI l2, cI r3]) rfl ?_
      refine wp_iload_n (nx := 34) dX11_bothOf_33 rfl rfl ?_
      refine wp_if_eq (nx := 37) (tg := 45) dX11_bothOf_34 rfl rfl (fun hc => ?_) (fun hc => ?_)
      · have h := h.1 hc
        refine wp_iconst (nx := 46) dX11_bothOf_45 rfl (i32 (by decide)) ?_
        refine wp_istore_n (nx := 47) dX11_bothOf_46 rfl (by decide) ?_
        refine wp_ls (ls2 := [cA 81, cI l1, cI 0, cI r3]) rfl ?_
        refine wp_goto (nx := 6) dX11_bothOf_47 rfl ?_
        refine wp_fg [true, true, true, false] (ls2 := [cA 81, cI l1, cI 0, cU]) rfl ?_
        exact h
      · have h := h.2 hc
        refine wp_iload_n (nx := 38) dX11_bothOf_37 rfl rfl ?_
        refine wp_if_eq (nx := 41) (tg := 45) dX11_bothOf_38 rfl rfl (fun hc => ?_) (fun hc => ?_)
        · have h := h.1 hc
          refine wp_iconst (nx := 46) dX11_bothOf_45 rfl (i32 (by decide)) ?_
          refine wp_istore_n (nx := 47) dX11_bothOf_46 rfl (by decide) ?_
          refine wp_ls (ls2 := [cA 81, cI l1, cI 0, cI r3]) rfl ?_
          refine wp_goto (nx := 6) dX11_bothOf_47 rfl ?_
          refine wp_fg [true, true, true, false] (ls2 := [cA 81, cI l1, cI 0, cU]) rfl ?_
          exact h
        · have h := h.2 hc
          refine wp_iconst (nx := 42) dX11_bothOf_41 rfl (i32 (by decide)) ?_
          refine wp_goto (nx := 46) dX11_bothOf_42 rfl ?_
          refine wp_istore_n (nx := 47) dX11_bothOf_46 rfl (by decide) ?_
          refine wp_ls (ls2 := [cA 81, cI l1, cI 1, cI r3]) rfl ?_
          refine wp_goto (nx := 6) dX11_bothOf_47 rfl ?_
          refine wp_fg [true, true, true, false] (ls2 := [cA 81, cI l1, cI 1, cU]) rfl ?_
          exact h
    · have h := h.2 hc
      refine wp_iload_n (nx := 21) dX11_bothOf_20 rfl rfl ?_
      refine wp_if_eq (nx := 24) (tg := 28) dX11_bothOf_21 rfl rfl (fun hc => ?_) (fun hc => ?_)
      · have h := h.1 hc
        refine wp_iconst (nx := 29) dX11_bothOf_28 rfl (i32 (by decide)) ?_
        refine wp_invV (nx := 32) (N := M_X11_plainOf) (as := [cI 0]) (st := []) (mc := 0) (ms := 0) (mc' := mc) (ms' := ms) (a := 81) clsX11 dX11_bothOf_29 rfl mok_X11_plainOf kM_X11_316 ki_X11_plainOf ke_X11_plainOf (fo_81 F) (ft_81 F) rfl rfl (leB rfl) (leB rfl) (z0 _) (z0 _) (Wp.mono h ?_)
        intro r5 Sq C6 h
        obtain ⟨e9, h⟩ := h
        rw [e9]
        show Wp (d + 1) mc ms M_X11_bothOf 32 [cA 81, cI l1, cI l2, cU] [cI r5] S C6 Q
        refine wp_istore_n (nx := 33) dX11_bothOf_32 rfl (by decide) ?_
        refine wp_ls (ls2 := [cA 81, cI l1, cI l2, cI r5]) rfl ?_
        refine wp_iload_n (nx := 34) dX11_bothOf_33 rfl rfl ?_
        refine wp_if_eq (nx := 37) (tg := 45) dX11_bothOf_34 rfl rfl (fun hc => ?_) (fun hc => ?_)
        · have h := h.1 hc
          refine wp_iconst (nx := 46) dX11_bothOf_45 rfl (i32 (by decide)) ?_
          refine wp_istore_n (nx := 47) dX11_bothOf_46 rfl (by decide) ?_
          refine wp_ls (ls2 := [cA 81, cI l1, cI 0, cI r5]) rfl ?_
          refine wp_goto (nx := 6) dX11_bothOf_47 rfl ?_
          refine wp_fg [true, true, true, false] (ls2 := [cA 81, cI l1, cI 0, cU]) rfl ?_
          exact h
        · have h := h.2 hc
          refine wp_iload_n (nx := 38) dX11_bothOf_37 rfl rfl ?_
          refine wp_if_eq (nx := 41) (tg := 45) dX11_bothOf_38 rfl rfl (fun hc => ?_) (fun hc => ?_)
          · have h := h.1 hc
            refine wp_iconst (nx := 46) dX11_bothOf_45 rfl (i32 (by decide)) ?_
            refine wp_istore_n (nx := 47) dX11_bothOf_46 rfl (by decide) ?_
            refine wp_ls (ls2 := [cA 81, cI l1, cI 0, cI r5]) rfl ?_
            refine wp_goto (nx := 6) dX11_bothOf_47 rfl ?_
            refine wp_fg [true, true, true, false] (ls2 := [cA 81, cI l1, cI 0, cU]) rfl ?_
            exact h
          · have h := h.2 hc
            refine wp_iconst (nx := 42) dX11_bothOf_41 rfl (i32 (by decide)) ?_
            refine wp_goto (nx := 46) dX11_bothOf_42 rfl ?_
            refine wp_istore_n (nx := 47) dX11_bothOf_46 rfl (by decide) ?_
            refine wp_ls (ls2 := [cA 81, cI l1, cI 1, cI r5]) rfl ?_
            refine wp_goto (nx := 6) dX11_bothOf_47 rfl ?_
            refine wp_fg [true, true, true, false] (ls2 := [cA 81, cI l1, cI 1, cU]) rfl ?_
            exact h
      · have h := h.2 hc
        refine wp_iconst (nx := 25) dX11_bothOf_24 rfl (i32 (by decide)) ?_
        refine wp_goto (nx := 29) dX11_bothOf_25 rfl ?_
        refine wp_invV (nx := 32) (N := M_X11_plainOf) (as := [cI 1]) (st := []) (mc := 0) (ms := 0) (mc' := mc) (ms' := ms) (a := 81) clsX11 dX11_bothOf_29 rfl mok_X11_plainOf kM_X11_316 ki_X11_plainOf ke_X11_plainOf (fo_81 F) (ft_81 F) rfl rfl (leB rfl) (leB rfl) (z0 _) (z0 _) (Wp.mono h ?_)
        intro r7 Sq C8 h
        obtain ⟨e9, h⟩ := h
        rw [e9]
        show Wp (d + 1) mc ms M_X11_bothOf 32 [cA 81, cI l1, cI l2, cU] [cI r7] S C8 Q
        refine wp_istore_n (nx := 33) dX11_bothOf_32 rfl (by decide) ?_
        refine wp_ls (ls2 := [cA 81, cI l1, cI l2, cI r7]) rfl ?_
        refine wp_iload_n (nx := 34) dX11_bothOf_33 rfl rfl ?_
        refine wp_if_eq (nx := 37) (tg := 45) dX11_bothOf_34 rfl rfl (fun hc => ?_) (fun hc => ?_)
        · have h := h.1 hc
          refine wp_iconst (nx := 46) dX11_bothOf_45 rfl (i32 (by decide)) ?_
          refine wp_istore_n (nx := 47) dX11_bothOf_46 rfl (by decide) ?_
          refine wp_ls (ls2 := [cA 81, cI l1, cI 0, cI r7]) rfl ?_
          refine wp_goto (nx := 6) dX11_bothOf_47 rfl ?_
          refine wp_fg [true, true, true, false] (ls2 := [cA 81, cI l1, cI 0, cU]) rfl ?_
          exact h
        · have h := h.2 hc
          refine wp_iload_n (nx := 38) dX11_bothOf_37 rfl rfl ?_
          refine wp_if_eq (nx := 41) (tg := 45) dX11_bothOf_38 rfl rfl (fun hc => ?_) (fun hc => ?_)
          · have h := h.1 hc
            refine wp_iconst (nx := 46) dX11_bothOf_45 rfl (i32 (by decide)) ?_
            refine wp_istore_n (nx := 47) dX11_bothOf_46 rfl (by decide) ?_
            refine wp_ls (ls2 := [cA 81, cI l1, cI 0, cI r7]) rfl ?_
            refine wp_goto (nx := 6) dX11_bothOf_47 rfl ?_
            refine wp_fg [true, true, true, false] (ls2 := [cA 81, cI l1, cI 0, cU]) rfl ?_
            exact h
          · have h := h.2 hc
            refine wp_iconst (nx := 42) dX11_bothOf_41 rfl (i32 (by decide)) ?_
            refine wp_goto (nx := 46) dX11_bothOf_42 rfl ?_
            refine wp_istore_n (nx := 47) dX11_bothOf_46 rfl (by decide) ?_
            refine wp_ls (ls2 := [cA 81, cI l1, cI 1, cI r7]) rfl ?_
            refine wp_goto (nx := 6) dX11_bothOf_47 rfl ?_
            refine wp_fg [true, true, true, false] (ls2 := [cA 81, cI l1, cI 1, cU]) rfl ?_
            exact h
theorem b_X11_plainOf_0 {d mc ms : Nat} {l1 : Int} {S : MS} {C : MC} {Q : Int → MS → MC → Prop} (F : Fix S) (h : K_X11_plainOf_2 (d + 1) mc ms l1 0 S C Q) : K_X11_plainOf_0 (d + 1) mc ms l1 S C Q := by
  show Wp (d + 1) mc ms M_X11_plainOf 0 [cA 81, cI l1, cU] [] S C Q
  refine wp_iconst (nx := 1) dX11_plainOf_0 rfl (i32 (by decide)) ?_
  refine wp_istore_n (nx := 2) dX11_plainOf_1 rfl (by decide) ?_
  refine wp_ls (ls2 := [cA 81, cI l1, cI 0]) rfl ?_
  exact h
theorem b_X11_plainOf_2 {d mc ms : Nat} {l1 l2 : Int} {S : MS} {C : MC} {Q : Int → MS → MC → Prop} (F : Fix S) (h : K_X11_passes0_0 d 0 0 7 S C (fun r1 Sq C2 => Sq = S ∧ ((r1 = 0 → K_X11_positiveOf_0 d 0 0 l1 S C2 (fun r3 Sq C4 => Sq = S ∧ ((r3 = l2 → Q 0 S C4) ∧ (¬ r3 = l2 → Q 1 S C4)))) ∧ (¬ r1 = 0 → ((¬ l2 = 0 → K_X11_plainOf_2 (d + 1) mc ms l1 0 S C2 Q) ∧ (l2 = 0 → K_X11_plainOf_2 (d + 1) mc ms l1 1 S C2 Q)))))) : K_X11_plainOf_2 (d + 1) mc ms l1 l2 S C Q := by
  show Wp (d + 1) mc ms M_X11_plainOf 2 [cA 81, cI l1, cI l2] [] S C Q
  refine wp_aload_n (nx := 3) dX11_plainOf_2 rfl rfl ?_
  refine wp_bipush (nx := 5) dX11_plainOf_3 rfl ⟨by decide, i32 (by decide)⟩ ?_
  refine wp_invV (nx := 8) (N := M_X11_passes0) (as := [cI 7]) (st := []) (mc := 0) (ms := 0) (mc' := mc) (ms' := ms) (a := 81) clsX11 dX11_plainOf_5 rfl mok_X11_passes0 kM_X11_289 ki_X11_passes0 ke_X11_passes0 (fo_81 F) (ft_81 F) rfl rfl (leB rfl) (leB rfl) (z0 _) (z0 _) (Wp.mono h ?_)
  intro r1 Sq C2 h
  obtain ⟨e9, h⟩ := h
  rw [e9]
  show Wp (d + 1) mc ms M_X11_plainOf 8 [cA 81, cI l1, cI l2] [cI r1] S C2 Q
  refine wp_if_eq (nx := 11) (tg := 24) dX11_plainOf_8 rfl rfl (fun hc => ?_) (fun hc => ?_)
  · have h := h.1 hc
    refine wp_aload_n (nx := 25) dX11_plainOf_24 rfl rfl ?_
    refine wp_iload_n (nx := 26) dX11_plainOf_25 rfl rfl ?_
    refine wp_invV (nx := 29) (N := M_X11_positiveOf) (as := [cI l1]) (st := []) (mc := 0) (ms := 0) (mc' := mc) (ms' := ms) (a := 81) clsX11 dX11_plainOf_26 rfl mok_X11_positiveOf kM_X11_319 ki_X11_positiveOf ke_X11_positiveOf (fo_81 F) (ft_81 F) rfl rfl (leB rfl) (leB rfl) (z0 _) (z0 _) (Wp.mono h ?_)
    intro r3 Sq C4 h
    obtain ⟨e9, h⟩ := h
    rw [e9]
    show Wp (d + 1) mc ms M_X11_plainOf 29 [cA 81, cI l1, cI l2] [cI r3] S C4 Q
    refine wp_iload_n (nx := 30) dX11_plainOf_29 rfl rfl ?_
    refine wp_icmp_eq (nx := 33) (tg := 37) dX11_plainOf_30 rfl rfl (fun hc => ?_) (fun hc => ?_)
    · have h := h.1 hc
      refine wp_iconst (nx := 38) dX11_plainOf_37 rfl (i32 (by decide)) ?_
      exact wp_ireturn dX11_plainOf_38 rfl rfl (nz_of (Or.inl rfl)) h
    · have h := h.2 hc
      refine wp_iconst (nx := 34) dX11_plainOf_33 rfl (i32 (by decide)) ?_
      refine wp_goto (nx := 38) dX11_plainOf_34 rfl ?_
      exact wp_ireturn dX11_plainOf_38 rfl rfl (nz_of (Or.inr rfl)) h
  · have h := h.2 hc
    refine wp_iload_n (nx := 12) dX11_plainOf_11 rfl rfl ?_
    refine wp_if_ne (nx := 15) (tg := 19) dX11_plainOf_12 rfl rfl (fun hc => ?_) (fun hc => ?_)
    · have h := h.1 hc
      refine wp_iconst (nx := 20) dX11_plainOf_19 rfl (i32 (by decide)) ?_
      refine wp_istore_n (nx := 21) dX11_plainOf_20 rfl (by decide) ?_
      refine wp_ls (ls2 := [cA 81, cI l1, cI 0]) rfl ?_
      refine wp_goto (nx := 2) dX11_plainOf_21 rfl ?_
      exact h
    · have h := h.2 hc
      refine wp_iconst (nx := 16) dX11_plainOf_15 rfl (i32 (by decide)) ?_
      refine wp_goto (nx := 20) dX11_plainOf_16 rfl ?_
      refine wp_istore_n (nx := 21) dX11_plainOf_20 rfl (by decide) ?_
      refine wp_ls (ls2 := [cA 81, cI l1, cI 1]) rfl ?_
      refine wp_goto (nx := 2) dX11_plainOf_21 rfl ?_
      exact h
theorem b_X11_positiveOf_0 {d mc ms : Nat} {l1 : Int} {S : MS} {C : MC} {Q : Int → MS → MC → Prop} (F : Fix S) (h : K_X11_sign_0 d 0 0 40 S C (fun r1 Sq C2 => Sq = S ∧ K_X11_passes0_0 d 0 0 r1 S C2 (fun r3 Sq C4 => Sq = S ∧ ((r3 = 0 → K_X11_sumOf_0 d 0 0 l1 S C4 (fun r5 Sq C6 => Sq = S ∧ K_X11_codeAt_0 d 0 0 (C6 81 22) S C6 (fun r7 Sq C8 => Sq = S ∧ K_X11_sumOf_0 d 0 0 l1 S ((upC C8 81 22 (w32 ((C8 81 22) + 1)))) (fun r9 Sq C10 => Sq = S ∧ ((l1 = 0 → Q 0 S C10) ∧ (¬ l1 = 0 → ((¬ C10 81 24 = 0 → Q 0 S C10) ∧ (C10 81 24 = 0 → K_X11_sign_0 d 0 0 60 S C10 (fun r11 Sq C12 => Sq = S ∧ ((¬ r7 = r11 → K_X11_sign_0 d 0 0 62 S C12 (fun r13 Sq C14 => Sq = S ∧ ((¬ r7 = r13 → ((¬ lCmp r5 r9 = 0 → Q 0 S C14) ∧ (lCmp r5 r9 = 0 → Q 1 S C14))) ∧ (r7 = r13 → ((lCmp r5 r9 ≤ 0 → Q 0 S C14) ∧ (¬ lCmp r5 r9 ≤ 0 → Q 1 S C14)))))) ∧ (r7 = r11 → ((0 ≤ lCmp r5 r9 → Q 0 S C12) ∧ (¬ 0 ≤ lCmp r5 r9 → Q 1 S C12))))))))))))) ∧ (¬ r3 = 0 → K_X11_testOf_0 d 0 0 l1 S C4 (fun r15 Sq C16 => Sq = S ∧ ((r15 = 0 ∨ r15 = 1) ∧ Q r15 S (upC C16 81 22 (w32 ((C16 81 22) + 1)))))))))) : K_X11_positiveOf_0 (d + 1) mc ms l1 S C Q := by
  show Wp (d + 1) mc ms M_X11_positiveOf 0 [cA 81, cI l1, cU, cU, cU, cU, cU] [] S C Q
  refine wp_aload_n (nx := 1) dX11_positiveOf_0 rfl rfl ?_
  refine wp_bipush (nx := 3) dX11_positiveOf_1 rfl ⟨by decide, i32 (by decide)⟩ ?_
  refine wp_invS (nx := 6) (N := M_X11_sign) (as := [cI 40]) (st := [cA 81]) (mc := 0) (ms := 0) (mc' := mc) (ms' := ms) dX11_positiveOf_3 rfl mok_X11_sign kM_X11_224 ks_X11_sign rfl rfl (leB rfl) (leB rfl) (z0 _) (z0 _) (Wp.mono h ?_)
  intro r1 Sq C2 h
  obtain ⟨e9, h⟩ := h
  rw [e9]
  show Wp (d + 1) mc ms M_X11_positiveOf 6 [cA 81, cI l1, cU, cU, cU, cU, cU] [cI r1, cA 81] S C2 Q
  refine wp_invV (nx := 9) (N := M_X11_passes0) (as := [cI r1]) (st := []) (mc := 0) (ms := 0) (mc' := mc) (ms' := ms) (a := 81) clsX11 dX11_positiveOf_6 rfl mok_X11_passes0 kM_X11_289 ki_X11_passes0 ke_X11_passes0 (fo_81 F) (ft_81 F) rfl rfl (leB rfl) (leB rfl) (z0 _) (z0 _) (Wp.mono h ?_)
  intro r3 Sq C4 h
  obtain ⟨e9, h⟩ := h
  rw [e9]
  show Wp (d + 1) mc ms M_X11_positiveOf 9 [cA 81, cI l1, cU, cU, cU, cU, cU] [cI r3] S C4 Q
  refine wp_if_eq (nx := 12) (tg := 30) dX11_positiveOf_9 rfl rfl (fun hc => ?_) (fun hc => ?_)
  · have h := h.1 hc
    refine wp_aload_n (nx := 31) dX11_positiveOf_30 rfl rfl ?_
    refine wp_iload_n (nx := 32) dX11_positiveOf_31 rfl rfl ?_
    refine wp_invV (nx := 35) (N := M_X11_sumOf) (as := [cI l1]) (st := []) (mc := 0) (ms := 0) (mc' := mc) (ms' := ms) (a := 81) clsX11 dX11_positiveOf_32 rfl mok_X11_sumOf kM_X11_292 ki_X11_sumOf ke_X11_sumOf (fo_81 F) (ft_81 F) rfl rfl (leB rfl) (leB rfl) (z0 _) (z0 _) (Wp.mono h ?_)
    intro r5 Sq C6 h
    obtain ⟨e9, h⟩ := h
    rw [e9]
    show Wp (d + 1) mc ms M_X11_positiveOf 35 [cA 81, cI l1, cU, cU, cU, cU, cU] [cJ r5] S C6 Q
    refine wp_lstore_n (nx := 36) dX11_positiveOf_35 rfl (by decide) ?_
    refine wp_ls (ls2 := [cA 81, cI l1, cJ r5, cU, cU, cU, cU]) rfl ?_
    refine wp_aload_n (nx := 37) dX11_positiveOf_36 rfl rfl ?_
    refine wp_aload_n (nx := 38) dX11_positiveOf_37 rfl rfl ?_
    refine wp_getIe (kk := 22) 22 (nx := 41) clsX11 dX11_positiveOf_38 rfl kF_X11_265 (by decide) (fo_81 F) (ft_81 F) rfl rfl rfl ?_
    refine wp_invV (nx := 44) (N := M_X11_codeAt) (as := [cI (C6 81 22)]) (st := []) (mc := 0) (ms := 0) (mc' := mc) (ms' := ms) (a := 81) clsX11 dX11_positiveOf_41 rfl mok_X11_codeAt kM_X11_268 ki_X11_codeAt ke_X11_codeAt (fo_81 F) (ft_81 F) rfl rfl (leB rfl) (leB rfl) (z0 _) (z0 _) (Wp.mono h ?_)
    intro r7 Sq C8 h
    obtain ⟨e9, h⟩ := h
    rw [e9]
    show Wp (d + 1) mc ms M_X11_positiveOf 44 [cA 81, cI l1, cJ r5, cU, cU, cU, cU] [cI r7] S C8 Q
    refine wp_istore (nx := 46) dX11_positiveOf_44 rfl (by decide) ?_
    refine wp_ls (ls2 := [cA 81, cI l1, cJ r5, cU, cI r7, cU, cU]) rfl ?_
    refine wp_aload_n (nx := 47) dX11_positiveOf_46 rfl rfl ?_
    refine wp_dup (nx := 48) dX11_positiveOf_47 rfl (k1A _) ?_
    refine wp_getIe (kk := 22) 22 (nx := 51) clsX11 dX11_positiveOf_48 rfl kF_X11_265 (by decide) (fo_81 F) (ft_81 F) rfl rfl rfl ?_
    refine wp_iconst (nx := 52) dX11_positiveOf_51 rfl (i32 (by decide)) ?_
    refine wp_iadd (nx := 53) dX11_positiveOf_52 rfl ?_
    refine wp_putIe (kk := 22) 22 (nx := 56) clsX11 dX11_positiveOf_53 rfl kF_X11_265 (by decide) (fo_81 F) (ft_81 F) rfl rfl ⟨rfl, rfl⟩ rfl ?_
    refine wp_aload_n (nx := 57) dX11_positiveOf_56 rfl rfl ?_
    refine wp_iload_n (nx := 58) dX11_positiveOf_57 rfl rfl ?_
    refine wp_invV (nx := 61) (N := M_X11_sumOf) (as := [cI l1]) (st := []) (mc := 0) (ms := 0) (mc' := mc) (ms' := ms) (a := 81) clsX11 dX11_positiveOf_58 rfl mok_X11_sumOf kM_X11_292 ki_X11_sumOf ke_X11_sumOf (fo_81 F) (ft_81 F) rfl rfl (leB rfl) (leB rfl) (z0 _) (z0 _) (Wp.mono h ?_)
    intro r9 Sq C10 h
    obtain ⟨e9, h⟩ := h
    rw [e9]
    show Wp (d + 1) mc ms M_X11_positiveOf 61 [cA 81, cI l1, cJ r5, cU, cI r7, cU, cU] [cJ r9] S C10 Q
    refine wp_lstore (nx := 63) dX11_positiveOf_61 rfl (by decide) ?_
    refine wp_ls (ls2 := [cA 81, cI l1, cJ r5, cU, cI r7, cJ r9, cU]) rfl ?_
    refine wp_iload_n (nx := 64) dX11_positiveOf_63 rfl rfl ?_
    refine wp_if_eq (nx := 67) (tg := 125) dX11_positiveOf_64 rfl rfl (fun hc => ?_) (fun hc => ?_)
    · have h := h.1 hc
      refine wp_iconst (nx := 126) dX11_positiveOf_125 rfl (i32 (by decide)) ?_
      exact wp_ireturn dX11_positiveOf_126 rfl rfl (nz_of (Or.inl rfl)) h
    · have h := h.2 hc
      refine wp_aload_n (nx := 68) dX11_positiveOf_67 rfl rfl ?_
      refine wp_getIe (kk := 24) 24 (nx := 71) clsX11 dX11_positiveOf_68 rfl kF_X11_275 (by decide) (fo_81 F) (ft_81 F) rfl rfl rfl ?_
      refine wp_if_ne (nx := 74) (tg := 125) dX11_positiveOf_71 rfl rfl (fun hc => ?_) (fun hc => ?_)
      · have h := h.1 hc
        refine wp_iconst (nx := 126) dX11_positiveOf_125 rfl (i32 (by decide)) ?_
        exact wp_ireturn dX11_positiveOf_126 rfl rfl (nz_of (Or.inl rfl)) h
      · have h := h.2 hc
        refine wp_iload (nx := 76) dX11_positiveOf_74 rfl rfl ?_
        refine wp_bipush (nx := 78) dX11_positiveOf_76 rfl ⟨by decide, i32 (by decide)⟩ ?_
        refine wp_invS (nx := 81) (N := M_X11_sign) (as := [cI 60]) (st := [cI r7]) (mc := 0) (ms := 0) (mc' := mc) (ms' := ms) dX11_positiveOf_78 rfl mok_X11_sign kM_X11_224 ks_X11_sign rfl rfl (leB rfl) (leB rfl) (z0 _) (z0 _) (Wp.mono h ?_)
        intro r11 Sq C12 h
        obtain ⟨e9, h⟩ := h
        rw [e9]
        show Wp (d + 1) mc ms M_X11_positiveOf 81 [cA 81, cI l1, cJ r5, cU, cI r7, cJ r9, cU] [cI r11, cI r7] S C12 Q
        refine wp_icmp_ne (nx := 84) (tg := 94) dX11_positiveOf_81 rfl rfl (fun hc => ?_) (fun hc => ?_)
        · have h := h.1 hc
          refine wp_iload (nx := 96) dX11_positiveOf_94 rfl rfl ?_
          refine wp_bipush (nx := 98) dX11_positiveOf_96 rfl ⟨by decide, i32 (by decide)⟩ ?_
          refine wp_invS (nx := 101) (N := M_X11_sign) (as := [cI 62]) (st := [cI r7]) (mc := 0) (ms := 0) (mc' := mc) (ms' := ms) dX11_positiveOf_98 rfl mok_X11_sign kM_X11_224 ks_X11_sign rfl rfl (leB rfl) (leB rfl) (z0 _) (z0 _) (Wp.mono h ?_)
          intro r13 Sq C14 h
          obtain ⟨e9, h⟩ := h
          rw [e9]
          show Wp (d + 1) mc ms M_X11_positiveOf 101 [cA 81, cI l1, cJ r5, cU, cI r7, cJ r9, cU] [cI r13, cI r7] S C14 Q
          refine wp_icmp_ne (nx := 104) (tg := 114) dX11_positiveOf_101 rfl rfl (fun hc => ?_) (fun hc => ?_)
          · have h := h.1 hc
            refine wp_lload_n (nx := 115) dX11_positiveOf_114 rfl rfl ?_
            refine wp_lload (nx := 117) dX11_positiveOf_115 rfl rfl ?_
            refine wp_lcmp (nx := 118) dX11_positiveOf_117 rfl ?_
            refine wp_if_ne (nx := 121) (tg := 125) dX11_positiveOf_118 rfl rfl (fun hc => ?_) (fun hc => ?_)
            · have h := h.1 hc
              refine wp_iconst (nx := 126) dX11_positiveOf_125 rfl (i32 (by decide)) ?_
              exact wp_ireturn dX11_positiveOf_126 rfl rfl (nz_of (Or.inl rfl)) h
            · have h := h.2 hc
              refine wp_iconst (nx := 122) dX11_positiveOf_121 rfl (i32 (by decide)) ?_
              refine wp_goto (nx := 126) dX11_positiveOf_122 rfl ?_
              exact wp_ireturn dX11_positiveOf_126 rfl rfl (nz_of (Or.inr rfl)) h
          · have h := h.2 hc
            refine wp_lload_n (nx := 105) dX11_positiveOf_104 rfl rfl ?_
            refine wp_lload (nx := 107) dX11_positiveOf_105 rfl rfl ?_
            refine wp_lcmp (nx := 108) dX11_positiveOf_107 rfl ?_
            refine wp_if_le (nx := 111) (tg := 125) dX11_positiveOf_108 rfl rfl (fun hc => ?_) (fun hc => ?_)
            · have h := h.1 hc
              refine wp_iconst (nx := 126) dX11_positiveOf_125 rfl (i32 (by decide)) ?_
              exact wp_ireturn dX11_positiveOf_126 rfl rfl (nz_of (Or.inl rfl)) h
            · have h := h.2 hc
              refine wp_goto (nx := 121) dX11_positiveOf_111 rfl ?_
              refine wp_iconst (nx := 122) dX11_positiveOf_121 rfl (i32 (by decide)) ?_
              refine wp_goto (nx := 126) dX11_positiveOf_122 rfl ?_
              exact wp_ireturn dX11_positiveOf_126 rfl rfl (nz_of (Or.inr rfl)) h
        · have h := h.2 hc
          refine wp_lload_n (nx := 85) dX11_positiveOf_84 rfl rfl ?_
          refine wp_lload (nx := 87) dX11_positiveOf_85 rfl rfl ?_
          refine wp_lcmp (nx := 88) dX11_positiveOf_87 rfl ?_
          refine wp_if_ge (nx := 91) (tg := 125) dX11_positiveOf_88 rfl rfl (fun hc => ?_) (fun hc => ?_)
          · have h := h.1 hc
            refine wp_iconst (nx := 126) dX11_positiveOf_125 rfl (i32 (by decide)) ?_
            exact wp_ireturn dX11_positiveOf_126 rfl rfl (nz_of (Or.inl rfl)) h
          · have h := h.2 hc
            refine wp_goto (nx := 121) dX11_positiveOf_91 rfl ?_
            refine wp_iconst (nx := 122) dX11_positiveOf_121 rfl (i32 (by decide)) ?_
            refine wp_goto (nx := 126) dX11_positiveOf_122 rfl ?_
            exact wp_ireturn dX11_positiveOf_126 rfl rfl (nz_of (Or.inr rfl)) h
  · have h := h.2 hc
    refine wp_aload_n (nx := 13) dX11_positiveOf_12 rfl rfl ?_
    refine wp_iload_n (nx := 14) dX11_positiveOf_13 rfl rfl ?_
    refine wp_invV (nx := 17) (N := M_X11_testOf) (as := [cI l1]) (st := []) (mc := 0) (ms := 0) (mc' := mc) (ms' := ms) (a := 81) clsX11 dX11_positiveOf_14 rfl mok_X11_testOf kM_X11_322 ki_X11_testOf ke_X11_testOf (fo_81 F) (ft_81 F) rfl rfl (leB rfl) (leB rfl) (z0 _) (z0 _) (Wp.mono h ?_)
    intro r15 Sq C16 h
    obtain ⟨e9, h⟩ := h
    rw [e9]
    show Wp (d + 1) mc ms M_X11_positiveOf 17 [cA 81, cI l1, cU, cU, cU, cU, cU] [cI r15] S C16 Q
    refine wp_istore_n (nx := 18) dX11_positiveOf_17 rfl (by decide) ?_
    refine wp_ls (ls2 := [cA 81, cI l1, cI r15, cU, cU, cU, cU]) rfl ?_
    refine wp_aload_n (nx := 19) dX11_positiveOf_18 rfl rfl ?_
    refine wp_dup (nx := 20) dX11_positiveOf_19 rfl (k1A _) ?_
    refine wp_getIe (kk := 22) 22 (nx := 23) clsX11 dX11_positiveOf_20 rfl kF_X11_265 (by decide) (fo_81 F) (ft_81 F) rfl rfl rfl ?_
    refine wp_iconst (nx := 24) dX11_positiveOf_23 rfl (i32 (by decide)) ?_
    refine wp_iadd (nx := 25) dX11_positiveOf_24 rfl ?_
    refine wp_putIe (kk := 22) 22 (nx := 28) clsX11 dX11_positiveOf_25 rfl kF_X11_265 (by decide) (fo_81 F) (ft_81 F) rfl rfl ⟨rfl, rfl⟩ rfl ?_
    refine wp_iload_n (nx := 29) dX11_positiveOf_28 rfl rfl ?_
    obtain ⟨hz, h⟩ := h
    exact wp_ireturn dX11_positiveOf_29 rfl rfl (nz_of hz) h
theorem b_X11_setsAsked_0 {d mc ms : Nat} {l1 l2 l3 : Int} {S : MS} {C : MC} {Q : Int → MS → MC → Prop} (F : Fix S) (h : ((0 : Int) ≤ w32 (25 + l1) ∧ w32 (25 + l1) < 5656) ∧ ((0 : Int) ≤ w32 (31 + l1) ∧ w32 (31 + l1) < 5656) ∧ ((0 : Int) ≤ w32 (0 + l2) ∧ w32 (0 + l2) < 5656) ∧ Q 0 S (upC (upC (upC (upC (upC (upC (upC (upC C 93 0 l1) 93 1 l2) 93 2 l3) 93 3 (C 83 (w32 (25 + l1)))) 93 4 (C 83 (w32 (31 + l1)))) 93 5 (C 83 44)) 93 6 (C 83 (w32 (0 + l2)))) 93 7 (C 83 24))) : K_X11_setsAsked_0 d mc ms l1 l2 l3 S C Q := by
  show Wp d mc ms M_X11_setsAsked 0 [cA 81, cI l1, cI l2, cI l3] [] S C Q
  refine wp_aload_n (nx := 1) dX11_setsAsked_0 rfl rfl ?_
  refine wp_getAe (kk := 26) (nx := 4) clsX11 dX11_setsAsked_1 rfl kF_X11_63 (by decide) (fo_81 F) (ft_81 F) rfl (fp_81_26 F) ?_
  refine wp_iconst (nx := 5) dX11_setsAsked_4 rfl (i32 (by decide)) ?_
  refine wp_iload_n (nx := 6) dX11_setsAsked_5 rfl rfl ?_
  refine wp_iastoreE (nx := 7) dX11_setsAsked_6 rfl (fo_93 F) (fl_93 F) (by decide) (ft_93 F) ?_
  refine wp_aload_n (nx := 8) dX11_setsAsked_7 rfl rfl ?_
  refine wp_getAe (kk := 26) (nx := 11) clsX11 dX11_setsAsked_8 rfl kF_X11_63 (by decide) (fo_81 F) (ft_81 F) rfl (fp_81_26 F) ?_
  refine wp_iconst (nx := 12) dX11_setsAsked_11 rfl (i32 (by decide)) ?_
  refine wp_iload_n (nx := 13) dX11_setsAsked_12 rfl rfl ?_
  refine wp_iastoreE (nx := 14) dX11_setsAsked_13 rfl (fo_93 F) (fl_93 F) (by decide) (ft_93 F) ?_
  refine wp_aload_n (nx := 15) dX11_setsAsked_14 rfl rfl ?_
  refine wp_getAe (kk := 26) (nx := 18) clsX11 dX11_setsAsked_15 rfl kF_X11_63 (by decide) (fo_81 F) (ft_81 F) rfl (fp_81_26 F) ?_
  refine wp_iconst (nx := 19) dX11_setsAsked_18 rfl (i32 (by decide)) ?_
  refine wp_iload_n (nx := 20) dX11_setsAsked_19 rfl rfl ?_
  refine wp_iastoreE (nx := 21) dX11_setsAsked_20 rfl (fo_93 F) (fl_93 F) (by decide) (ft_93 F) ?_
  refine wp_aload_n (nx := 22) dX11_setsAsked_21 rfl rfl ?_
  refine wp_getAe (kk := 26) (nx := 25) clsX11 dX11_setsAsked_22 rfl kF_X11_63 (by decide) (fo_81 F) (ft_81 F) rfl (fp_81_26 F) ?_
  refine wp_iconst (nx := 26) dX11_setsAsked_25 rfl (i32 (by decide)) ?_
  refine wp_aload_n (nx := 27) dX11_setsAsked_26 rfl rfl ?_
  refine wp_getAe (kk := 2) (nx := 30) clsX11 dX11_setsAsked_27 rfl kF_X11_28 (by decide) (fo_81 F) (ft_81 F) rfl (fp_81_2 F) ?_
  refine wp_bipush (nx := 32) dX11_setsAsked_30 rfl ⟨by decide, i32 (by decide)⟩ ?_
  refine wp_iload_n (nx := 33) dX11_setsAsked_32 rfl rfl ?_
  refine wp_iadd (nx := 34) dX11_setsAsked_33 rfl ?_
  obtain ⟨hi, h⟩ := h
  refine wp_ialoadE (nx := 35) dX11_setsAsked_34 rfl (fo_83 F) (fl_83 F) hi (ft_83 F) ((upC_sA (by decide)).trans ((upC_sA (by decide)).trans (upC_sA (by decide)))) ?_
  refine wp_iastoreE (nx := 36) dX11_setsAsked_35 rfl (fo_93 F) (fl_93 F) (by decide) (ft_93 F) ?_
  refine wp_aload_n (nx := 37) dX11_setsAsked_36 rfl rfl ?_
  refine wp_getAe (kk := 26) (nx := 40) clsX11 dX11_setsAsked_37 rfl kF_X11_63 (by decide) (fo_81 F) (ft_81 F) rfl (fp_81_26 F) ?_
  refine wp_iconst (nx := 41) dX11_setsAsked_40 rfl (i32 (by decide)) ?_
  refine wp_aload_n (nx := 42) dX11_setsAsked_41 rfl rfl ?_
  refine wp_getAe (kk := 2) (nx := 45) clsX11 dX11_setsAsked_42 rfl kF_X11_28 (by decide) (fo_81 F) (ft_81 F) rfl (fp_81_2 F) ?_
  refine wp_bipush (nx := 47) dX11_setsAsked_45 rfl ⟨by decide, i32 (by decide)⟩ ?_
  refine wp_iload_n (nx := 48) dX11_setsAsked_47 rfl rfl ?_
  refine wp_iadd (nx := 49) dX11_setsAsked_48 rfl ?_
  obtain ⟨hi, h⟩ := h
  refine wp_ialoadE (nx := 50) dX11_setsAsked_49 rfl (fo_83 F) (fl_83 F) hi (ft_83 F) ((upC_sA (by decide)).trans ((upC_sA (by decide)).trans ((upC_sA (by decide)).trans (upC_sA (by decide))))) ?_
  refine wp_iastoreE (nx := 51) dX11_setsAsked_50 rfl (fo_93 F) (fl_93 F) (by decide) (ft_93 F) ?_
  refine wp_aload_n (nx := 52) dX11_setsAsked_51 rfl rfl ?_
  refine wp_getAe (kk := 26) (nx := 55) clsX11 dX11_setsAsked_52 rfl kF_X11_63 (by decide) (fo_81 F) (ft_81 F) rfl (fp_81_26 F) ?_
  refine wp_iconst (nx := 56) dX11_setsAsked_55 rfl (i32 (by decide)) ?_
  refine wp_aload_n (nx := 57) dX11_setsAsked_56 rfl rfl ?_
  refine wp_getAe (kk := 2) (nx := 60) clsX11 dX11_setsAsked_57 rfl kF_X11_28 (by decide) (fo_81 F) (ft_81 F) rfl (fp_81_2 F) ?_
  refine wp_bipush (nx := 62) dX11_setsAsked_60 rfl ⟨by decide, i32 (by decide)⟩ ?_
  refine wp_ialoadE (nx := 63) dX11_setsAsked_62 rfl (fo_83 F) (fl_83 F) (by decide) (ft_83 F) ((upC_sA (by decide)).trans ((upC_sA (by decide)).trans ((upC_sA (by decide)).trans ((upC_sA (by decide)).trans (upC_sA (by decide)))))) ?_
  refine wp_iastoreE (nx := 64) dX11_setsAsked_63 rfl (fo_93 F) (fl_93 F) (by decide) (ft_93 F) ?_
  refine wp_aload_n (nx := 65) dX11_setsAsked_64 rfl rfl ?_
  refine wp_getAe (kk := 26) (nx := 68) clsX11 dX11_setsAsked_65 rfl kF_X11_63 (by decide) (fo_81 F) (ft_81 F) rfl (fp_81_26 F) ?_
  refine wp_bipush (nx := 70) dX11_setsAsked_68 rfl ⟨by decide, i32 (by decide)⟩ ?_
  refine wp_aload_n (nx := 71) dX11_setsAsked_70 rfl rfl ?_
  refine wp_getAe (kk := 2) (nx := 74) clsX11 dX11_setsAsked_71 rfl kF_X11_28 (by decide) (fo_81 F) (ft_81 F) rfl (fp_81_2 F) ?_
  refine wp_iconst (nx := 75) dX11_setsAsked_74 rfl (i32 (by decide)) ?_
  refine wp_iload_n (nx := 76) dX11_setsAsked_75 rfl rfl ?_
  refine wp_iadd (nx := 77) dX11_setsAsked_76 rfl ?_
  obtain ⟨hi, h⟩ := h
  refine wp_ialoadE (nx := 78) dX11_setsAsked_77 rfl (fo_83 F) (fl_83 F) hi (ft_83 F) ((upC_sA (by decide)).trans ((upC_sA (by decide)).trans ((upC_sA (by decide)).trans ((upC_sA (by decide)).trans ((upC_sA (by decide)).trans (upC_sA (by decide))))))) ?_
  refine wp_iastoreE (nx := 79) dX11_setsAsked_78 rfl (fo_93 F) (fl_93 F) (by decide) (ft_93 F) ?_
  refine wp_aload_n (nx := 80) dX11_setsAsked_79 rfl rfl ?_
  refine wp_getAe (kk := 26) (nx := 83) clsX11 dX11_setsAsked_80 rfl kF_X11_63 (by decide) (fo_81 F) (ft_81 F) rfl (fp_81_26 F) ?_
  refine wp_bipush (nx := 85) dX11_setsAsked_83 rfl ⟨by decide, i32 (by decide)⟩ ?_
  refine wp_aload_n (nx := 86) dX11_setsAsked_85 rfl rfl ?_
  refine wp_getAe (kk := 2) (nx := 89) clsX11 dX11_setsAsked_86 rfl kF_X11_28 (by decide) (fo_81 F) (ft_81 F) rfl (fp_81_2 F) ?_
  refine wp_bipush (nx := 91) dX11_setsAsked_89 rfl ⟨by decide, i32 (by decide)⟩ ?_
  refine wp_ialoadE (nx := 92) dX11_setsAsked_91 rfl (fo_83 F) (fl_83 F) (by decide) (ft_83 F) ((upC_sA (by decide)).trans ((upC_sA (by decide)).trans ((upC_sA (by decide)).trans ((upC_sA (by decide)).trans ((upC_sA (by decide)).trans ((upC_sA (by decide)).trans (upC_sA (by decide)))))))) ?_
  refine wp_iastoreE (nx := 93) dX11_setsAsked_92 rfl (fo_93 F) (fl_93 F) (by decide) (ft_93 F) ?_
  exact wp_return dX11_setsAsked_93 rfl h
theorem b_X11_tells_0 {d mc ms : Nat} {l1 l2 l3 l4 l5 : Int} {S : MS} {C : MC} {Q : Int → MS → MC → Prop} (F : Fix S) (h : ((¬ C 83 48 = (-1) → K_X11_setsAsked_0 d 0 0 l2 l3 l4 S C (fun r1 Sq C2 => Sq = S ∧ ((0 : Int) ≤ w32 (49 + (C2 83 48)) ∧ w32 (49 + (C2 83 48)) < 5656) ∧ K_X11_tells_71 (d + 1) mc ms l1 l5 S (upC (upC (upC C2 81 25 0) 81 22 (w32 (400 * (C2 83 48)))) 81 23 (w32 ((w32 (400 * (C2 83 48))) + (C2 83 (w32 (49 + (C2 83 48))))))) Q)) ∧ (C 83 48 = (-1) → Q l5 S C))) : K_X11_tells_0 (d + 1) mc ms l1 l2 l3 l4 l5 S C Q := by
  show Wp (d + 1) mc ms M_X11_tells 0 [cA 81, cI l1, cI l2, cI l3, cI l4, cI l5, cU, cU, cU, cU, cU, cU, cU] [] S C Q
  refine wp_aload_n (nx := 1) dX11_tells_0 rfl rfl ?_
  refine wp_getAe (kk := 2) (nx := 4) clsX11 dX11_tells_1 rfl kF_X11_28 (by decide) (fo_81 F) (ft_81 F) rfl (fp_81_2 F) ?_
  refine wp_bipush (nx := 6) dX11_tells_4 rfl ⟨by decide, i32 (by decide)⟩ ?_
  refine wp_ialoadE (nx := 7) dX11_tells_6 rfl (fo_83 F) (fl_83 F) (by decide) (ft_83 F) rfl ?_
  refine wp_iconst (nx := 8) dX11_tells_7 rfl (i32 (by decide)) ?_
  refine wp_icmp_ne (nx := 11) (tg := 14) dX11_tells_8 rfl rfl (fun hc => ?_) (fun hc => ?_)
  · have h := h.1 hc
    refine wp_aload_n (nx := 15) dX11_tells_14 rfl rfl ?_
    refine wp_iload_n (nx := 16) dX11_tells_15 rfl rfl ?_
    refine wp_iload_n (nx := 17) dX11_tells_16 rfl rfl ?_
    refine wp_iload (nx := 19) dX11_tells_17 rfl rfl ?_
    refine wp_invV (nx := 22) (N := M_X11_setsAsked) (as := [cI l2, cI l3, cI l4]) (st := []) (mc := 0) (ms := 0) (mc' := mc) (ms' := ms) (a := 81) clsX11 dX11_tells_19 rfl mok_X11_setsAsked kM_X11_325 ki_X11_setsAsked ke_X11_setsAsked (fo_81 F) (ft_81 F) rfl rfl (leB rfl) (leB rfl) (z0 _) (z0 _) (Wp.mono h ?_)
    intro r1 Sq C2 h
    obtain ⟨e9, h⟩ := h
    rw [e9]
    show Wp (d + 1) mc ms M_X11_tells 22 [cA 81, cI l1, cI l2, cI l3, cI l4, cI l5, cU, cU, cU, cU, cU, cU, cU] [] S C2 Q
    refine wp_aload_n (nx := 23) dX11_tells_22 rfl rfl ?_
    refine wp_iconst (nx := 24) dX11_tells_23 rfl (i32 (by decide)) ?_
    refine wp_putIe (kk := 25) 25 (nx := 27) clsX11 dX11_tells_24 rfl kF_X11_295 (by decide) (fo_81 F) (ft_81 F) rfl rfl (fz_of (Or.inl rfl)) rfl ?_
    refine wp_iload (nx := 29) dX11_tells_27 rfl rfl ?_
    refine wp_i2l (nx := 30) dX11_tells_29 rfl ?_
    refine wp_lstore (nx := 32) dX11_tells_30 rfl (by decide) ?_
    refine wp_ls (ls2 := [cA 81, cI l1, cI l2, cI l3, cI l4, cI l5, cJ l5, cU, cU, cU, cU, cU, cU]) rfl ?_
    refine wp_aload_n (nx := 33) dX11_tells_32 rfl rfl ?_
    refine wp_sipush (nx := 36) dX11_tells_33 rfl ⟨by decide, i32 (by decide)⟩ ?_
    refine wp_aload_n (nx := 37) dX11_tells_36 rfl rfl ?_
    refine wp_getAe (kk := 2) (nx := 40) clsX11 dX11_tells_37 rfl kF_X11_28 (by decide) (fo_81 F) (ft_81 F) rfl (fp_81_2 F) ?_
    refine wp_bipush (nx := 42) dX11_tells_40 rfl ⟨by decide, i32 (by decide)⟩ ?_
    refine wp_ialoadE (nx := 43) dX11_tells_42 rfl (fo_83 F) (fl_83 F) (by decide) (ft_83 F) (upC_sA (by decide)) ?_
    refine wp_imul (nx := 44) dX11_tells_43 rfl ?_
    refine wp_putIe (kk := 22) 22 (nx := 47) clsX11 dX11_tells_44 rfl kF_X11_265 (by decide) (fo_81 F) (ft_81 F) rfl rfl ⟨rfl, rfl⟩ rfl ?_
    refine wp_aload_n (nx := 48) dX11_tells_47 rfl rfl ?_
    refine wp_aload_n (nx := 49) dX11_tells_48 rfl rfl ?_
    refine wp_getIe (kk := 22) 22 (nx := 52) clsX11 dX11_tells_49 rfl kF_X11_265 (by decide) (fo_81 F) (ft_81 F) rfl rfl upC_h ?_
    refine wp_aload_n (nx := 53) dX11_tells_52 rfl rfl ?_
    refine wp_getAe (kk := 2) (nx := 56) clsX11 dX11_tells_53 rfl kF_X11_28 (by decide) (fo_81 F) (ft_81 F) rfl (fp_81_2 F) ?_
    refine wp_bipush (nx := 58) dX11_tells_56 rfl ⟨by decide, i32 (by decide)⟩ ?_
    refine wp_aload_n (nx := 59) dX11_tells_58 rfl rfl ?_
    refine wp_getAe (kk := 2) (nx := 62) clsX11 dX11_tells_59 rfl kF_X11_28 (by decide) (fo_81 F) (ft_81 F) rfl (fp_81_2 F) ?_
    refine wp_bipush (nx := 64) dX11_tells_62 rfl ⟨by decide, i32 (by decide)⟩ ?_
    refine wp_ialoadE (nx := 65) dX11_tells_64 rfl (fo_83 F) (fl_83 F) (by decide) (ft_83 F) ((upC_sA (by decide)).trans (upC_sA (by decide))) ?_
    refine wp_iadd (nx := 66) dX11_tells_65 rfl ?_
    obtain ⟨hi, h⟩ := h
    refine wp_ialoadE (nx := 67) dX11_tells_66 rfl (fo_83 F) (fl_83 F) hi (ft_83 F) ((upC_sA (by decide)).trans (upC_sA (by decide))) ?_
    refine wp_iadd (nx := 68) dX11_tells_67 rfl ?_
    refine wp_putIe (kk := 23) 23 (nx := 71) clsX11 dX11_tells_68 rfl kF_X11_262 (by decide) (fo_81 F) (ft_81 F) rfl rfl ⟨rfl, rfl⟩ rfl ?_
    refine wp_fg [true, true, false, false, false, false, true, false, false, false, false, false, false] (ls2 := [cA 81, cI l1, cU, cU, cU, cU, cJ l5, cU, cU, cU, cU, cU, cU]) rfl ?_
    exact h
  · have h := h.2 hc
    refine wp_iload (nx := 13) dX11_tells_11 rfl rfl ?_
    exact wp_ireturn dX11_tells_13 rfl rfl rfl h
theorem b_X11_tells_71 {d mc ms : Nat} {l1 l6 : Int} {S : MS} {C : MC} {Q : Int → MS → MC → Prop} (F : Fix S) (h : ((C 81 23 ≤ C 81 22 → Q (w32 l6) S C) ∧ (¬ C 81 23 ≤ C 81 22 → K_X11_codeAt_0 d 0 0 (C 81 22) S C (fun r1 Sq C2 => Sq = S ∧ ((¬ r1 = 1 → K_X11_passes0_0 d 0 0 4 S ((upC (upC (upC C2 81 24 0) 81 22 (w32 ((C2 81 22) + 1))) 81 24 0)) (fun r3 Sq C4 => Sq = S ∧ ((r3 = 0 → K_X11_tells_156 (d + 1) mc ms l1 l6 r1 1 0 1 S C4 Q) ∧ (¬ r3 = 0 → K_X11_testOf_0 d 0 0 1 S C4 (fun r5 Sq C6 => Sq = S ∧ ((r5 = 0 → K_X11_tells_156 (d + 1) mc ms l1 l6 r1 1 0 0 S C6 Q) ∧ (¬ r5 = 0 → K_X11_tells_156 (d + 1) mc ms l1 l6 r1 1 0 1 S C6 Q))))))) ∧ (r1 = 1 → K_X11_sumOf_0 d 0 0 1 S ((upC (upC C2 81 24 0) 81 22 (w32 ((C2 81 22) + 1)))) (fun r7 Sq C8 => Sq = S ∧ K_X11_passes0_0 d 0 0 4 S ((upC C8 81 24 0)) (fun r9 Sq C10 => Sq = S ∧ ((r9 = 0 → K_X11_tells_156 (d + 1) mc ms l1 l6 r1 r7 (C8 81 24) 1 S C10 Q) ∧ (¬ r9 = 0 → K_X11_testOf_0 d 0 0 1 S C10 (fun r11 Sq C12 => Sq = S ∧ ((r11 = 0 → K_X11_tells_156 (d + 1) mc ms l1 l6 r1 r7 (C8 81 24) 0 S C12 Q) ∧ (¬ r11 = 0 → K_X11_tells_156 (d + 1) mc ms l1 l6 r1 r7 (C8 81 24) 1 S C12 Q))))))))))))) : K_X11_tells_71 (d + 1) mc ms l1 l6 S C Q := by
  show Wp (d + 1) mc ms M_X11_tells 71 [cA 81, cI l1, cU, cU, cU, cU, cJ l6, cU, cU, cU, cU, cU, cU] [] S C Q
  refine wp_aload_n (nx := 72) dX11_tells_71 rfl rfl ?_
  refine wp_getIe (kk := 22) 22 (nx := 75) clsX11 dX11_tells_72 rfl kF_X11_265 (by decide) (fo_81 F) (ft_81 F) rfl rfl rfl ?_
  refine wp_aload_n (nx := 76) dX11_tells_75 rfl rfl ?_
  refine wp_getIe (kk := 23) 23 (nx := 79) clsX11 dX11_tells_76 rfl kF_X11_262 (by decide) (fo_81 F) (ft_81 F) rfl rfl rfl ?_
  refine wp_icmp_ge (nx := 82) (tg := 224) dX11_tells_79 rfl rfl (fun hc => ?_) (fun hc => ?_)
  · have h := h.1 hc
    refine wp_lload (nx := 226) dX11_tells_224 rfl rfl ?_
    refine wp_l2i (nx := 227) dX11_tells_226 rfl ?_
    exact wp_ireturn dX11_tells_227 rfl rfl rfl h
  · have h := h.2 hc
    refine wp_aload_n (nx := 83) dX11_tells_82 rfl rfl ?_
    refine wp_aload_n (nx := 84) dX11_tells_83 rfl rfl ?_
    refine wp_getIe (kk := 22) 22 (nx := 87) clsX11 dX11_tells_84 rfl kF_X11_265 (by decide) (fo_81 F) (ft_81 F) rfl rfl rfl ?_
    refine wp_invV (nx := 90) (N := M_X11_codeAt) (as := [cI (C 81 22)]) (st := []) (mc := 0) (ms := 0) (mc' := mc) (ms' := ms) (a := 81) clsX11 dX11_tells_87 rfl mok_X11_codeAt kM_X11_268 ki_X11_codeAt ke_X11_codeAt (fo_81 F) (ft_81 F) rfl rfl (leB rfl) (leB rfl) (z0 _) (z0 _) (Wp.mono h ?_)
    intro r1 Sq C2 h
    obtain ⟨e9, h⟩ := h
    rw [e9]
    show Wp (d + 1) mc ms M_X11_tells 90 [cA 81, cI l1, cU, cU, cU, cU, cJ l6, cU, cU, cU, cU, cU, cU] [cI r1] S C2 Q
    refine wp_istore (nx := 92) dX11_tells_90 rfl (by decide) ?_
    refine wp_ls (ls2 := [cA 81, cI l1, cU, cU, cU, cU, cJ l6, cU, cI r1, cU, cU, cU, cU]) rfl ?_
    refine wp_aload_n (nx := 93) dX11_tells_92 rfl rfl ?_
    refine wp_iconst (nx := 94) dX11_tells_93 rfl (i32 (by decide)) ?_
    refine wp_putIe (kk := 24) 24 (nx := 97) clsX11 dX11_tells_94 rfl kF_X11_275 (by decide) (fo_81 F) (ft_81 F) rfl rfl (fz_of (Or.inl rfl)) rfl ?_
    refine wp_aload_n (nx := 98) dX11_tells_97 rfl rfl ?_
    refine wp_dup (nx := 99) dX11_tells_98 rfl (k1A _) ?_
    refine wp_getIe (kk := 22) 22 (nx := 102) clsX11 dX11_tells_99 rfl kF_X11_265 (by decide) (fo_81 F) (ft_81 F) rfl rfl (upC_sK (by decide)) ?_
    refine wp_iconst (nx := 103) dX11_tells_102 rfl (i32 (by decide)) ?_
    refine wp_iadd (nx := 104) dX11_tells_103 rfl ?_
    refine wp_putIe (kk := 22) 22 (nx := 107) clsX11 dX11_tells_104 rfl kF_X11_265 (by decide) (fo_81 F) (ft_81 F) rfl rfl ⟨rfl, rfl⟩ rfl ?_
    refine wp_iload (nx := 109) dX11_tells_107 rfl rfl ?_
    refine wp_iconst (nx := 110) dX11_tells_109 rfl (i32 (by decide)) ?_
    refine wp_icmp_ne (nx := 113) (tg := 121) dX11_tells_110 rfl rfl (fun hc => ?_) (fun hc => ?_)
    · have h := h.1 hc
      refine wp_lconst (nx := 122) (v := 1) dX11_tells_121 rfl ⟨by decide, i64 (by decide)⟩ ?_
      refine wp_lstore (nx := 124) dX11_tells_122 rfl (by decide) ?_
      refine wp_ls (ls2 := [cA 81, cI l1, cU, cU, cU, cU, cJ l6, cU, cI r1, cJ 1, cU, cU, cU]) rfl ?_
      refine wp_aload_n (nx := 125) dX11_tells_124 rfl rfl ?_
      refine wp_getIe (kk := 24) 24 (nx := 128) clsX11 dX11_tells_125 rfl kF_X11_275 (by decide) (fo_81 F) (ft_81 F) rfl rfl ((upC_sK (by decide)).trans upC_h) ?_
      refine wp_istore (nx := 130) dX11_tells_128 rfl (by decide) ?_
      refine wp_ls (ls2 := [cA 81, cI l1, cU, cU, cU, cU, cJ l6, cU, cI r1, cJ 1, cU, cI 0, cU]) rfl ?_
      refine wp_aload_n (nx := 131) dX11_tells_130 rfl rfl ?_
      refine wp_iconst (nx := 132) dX11_tells_131 rfl (i32 (by decide)) ?_
      refine wp_putIe (kk := 24) 24 (nx := 135) clsX11 dX11_tells_132 rfl kF_X11_275 (by decide) (fo_81 F) (ft_81 F) rfl rfl (fz_of (Or.inl rfl)) rfl ?_
      refine wp_aload_n (nx := 136) dX11_tells_135 rfl rfl ?_
      refine wp_iconst (nx := 137) dX11_tells_136 rfl (i32 (by decide)) ?_
      refine wp_invV (nx := 140) (N := M_X11_passes0) (as := [cI 4]) (st := []) (mc := 0) (ms := 0) (mc' := mc) (ms' := ms) (a := 81) clsX11 dX11_tells_137 rfl mok_X11_passes0 kM_X11_289 ki_X11_passes0 ke_X11_passes0 (fo_81 F) (ft_81 F) rfl rfl (leB rfl) (leB rfl) (z0 _) (z0 _) (Wp.mono h ?_)
      intro r3 Sq C4 h
      obtain ⟨e9, h⟩ := h
      rw [e9]
      show Wp (d + 1) mc ms M_X11_tells 140 [cA 81, cI l1, cU, cU, cU, cU, cJ l6, cU, cI r1, cJ 1, cU, cI 0, cU] [cI r3] S C4 Q
      refine wp_if_eq (nx := 143) (tg := 151) dX11_tells_140 rfl rfl (fun hc => ?_) (fun hc => ?_)
      · have h := h.1 hc
        refine wp_iconst (nx := 152) dX11_tells_151 rfl (i32 (by decide)) ?_
        refine wp_goto (nx := 156) dX11_tells_152 rfl ?_
        exact h
      · have h := h.2 hc
        refine wp_aload_n (nx := 144) dX11_tells_143 rfl rfl ?_
        refine wp_iconst (nx := 145) dX11_tells_144 rfl (i32 (by decide)) ?_
        refine wp_invV (nx := 148) (N := M_X11_testOf) (as := [cI 1]) (st := []) (mc := 0) (ms := 0) (mc' := mc) (ms' := ms) (a := 81) clsX11 dX11_tells_145 rfl mok_X11_testOf kM_X11_322 ki_X11_testOf ke_X11_testOf (fo_81 F) (ft_81 F) rfl rfl (leB rfl) (leB rfl) (z0 _) (z0 _) (Wp.mono h ?_)
        intro r5 Sq C6 h
        obtain ⟨e9, h⟩ := h
        rw [e9]
        show Wp (d + 1) mc ms M_X11_tells 148 [cA 81, cI l1, cU, cU, cU, cU, cJ l6, cU, cI r1, cJ 1, cU, cI 0, cU] [cI r5] S C6 Q
        refine wp_if_eq (nx := 151) (tg := 155) dX11_tells_148 rfl rfl (fun hc => ?_) (fun hc => ?_)
        · have h := h.1 hc
          refine wp_iconst (nx := 156) dX11_tells_155 rfl (i32 (by decide)) ?_
          exact h
        · have h := h.2 hc
          refine wp_iconst (nx := 152) dX11_tells_151 rfl (i32 (by decide)) ?_
          refine wp_goto (nx := 156) dX11_tells_152 rfl ?_
          exact h
    · have h := h.2 hc
      refine wp_aload_n (nx := 114) dX11_tells_113 rfl rfl ?_
      refine wp_iconst (nx := 115) dX11_tells_114 rfl (i32 (by decide)) ?_
      refine wp_invV (nx := 118) (N := M_X11_sumOf) (as := [cI 1]) (st := []) (mc := 0) (ms := 0) (mc' := mc) (ms' := ms) (a := 81) clsX11 dX11_tells_115 rfl mok_X11_sumOf kM_X11_292 ki_X11_sumOf ke_X11_sumOf (fo_81 F) (ft_81 F) rfl rfl (leB rfl) (leB rfl) (z0 _) (z0 _) (Wp.mono h ?_)
      intro r7 Sq C8 h
      obtain ⟨e9, h⟩ := h
      rw [e9]
      show Wp (d + 1) mc ms M_X11_tells 118 [cA 81, cI l1, cU, cU, cU, cU, cJ l6, cU, cI r1, cU, cU, cU, cU] [cJ r7] S C8 Q
      refine wp_goto (nx := 122) dX11_tells_118 rfl ?_
      refine wp_lstore (nx := 124) dX11_tells_122 rfl (by decide) ?_
      refine wp_ls (ls2 := [cA 81, cI l1, cU, cU, cU, cU, cJ l6, cU, cI r1, cJ r7, cU, cU, cU]) rfl ?_
      refine wp_aload_n (nx := 125) dX11_tells_124 rfl rfl ?_
      refine wp_getIe (kk := 24) 24 (nx := 128) clsX11 dX11_tells_125 rfl kF_X11_275 (by decide) (fo_81 F) (ft_81 F) rfl rfl rfl ?_
      refine wp_istore (nx := 130) dX11_tells_128 rfl (by decide) ?_
      refine wp_ls (ls2 := [cA 81, cI l1, cU, cU, cU, cU, cJ l6, cU, cI r1, cJ r7, cU, cI (C8 81 24), cU]) rfl ?_
      refine wp_aload_n (nx := 131) dX11_tells_130 rfl rfl ?_
      refine wp_iconst (nx := 132) dX11_tells_131 rfl (i32 (by decide)) ?_
      refine wp_putIe (kk := 24) 24 (nx := 135) clsX11 dX11_tells_132 rfl kF_X11_275 (by decide) (fo_81 F) (ft_81 F) rfl rfl (fz_of (Or.inl rfl)) rfl ?_
      refine wp_aload_n (nx := 136) dX11_tells_135 rfl rfl ?_
      refine wp_iconst (nx := 137) dX11_tells_136 rfl (i32 (by decide)) ?_
      refine wp_invV (nx := 140) (N := M_X11_passes0) (as := [cI 4]) (st := []) (mc := 0) (ms := 0) (mc' := mc) (ms' := ms) (a := 81) clsX11 dX11_tells_137 rfl mok_X11_passes0 kM_X11_289 ki_X11_passes0 ke_X11_passes0 (fo_81 F) (ft_81 F) rfl rfl (leB rfl) (leB rfl) (z0 _) (z0 _) (Wp.mono h ?_)
      intro r9 Sq C10 h
      obtain ⟨e9, h⟩ := h
      rw [e9]
      show Wp (d + 1) mc ms M_X11_tells 140 [cA 81, cI l1, cU, cU, cU, cU, cJ l6, cU, cI r1, cJ r7, cU, cI (C8 81 24), cU] [cI r9] S C10 Q
      refine wp_if_eq (nx := 143) (tg := 151) dX11_tells_140 rfl rfl (fun hc => ?_) (fun hc => ?_)
      · have h := h.1 hc
        refine wp_iconst (nx := 152) dX11_tells_151 rfl (i32 (by decide)) ?_
        refine wp_goto (nx := 156) dX11_tells_152 rfl ?_
        exact h
      · have h := h.2 hc
        refine wp_aload_n (nx := 144) dX11_tells_143 rfl rfl ?_
        refine wp_iconst (nx := 145) dX11_tells_144 rfl (i32 (by decide)) ?_
        refine wp_invV (nx := 148) (N := M_X11_testOf) (as := [cI 1]) (st := []) (mc := 0) (ms := 0) (mc' := mc) (ms' := ms) (a := 81) clsX11 dX11_tells_145 rfl mok_X11_testOf kM_X11_322 ki_X11_testOf ke_X11_testOf (fo_81 F) (ft_81 F) rfl rfl (leB rfl) (leB rfl) (z0 _) (z0 _) (Wp.mono h ?_)
        intro r11 Sq C12 h
        obtain ⟨e9, h⟩ := h
        rw [e9]
        show Wp (d + 1) mc ms M_X11_tells 148 [cA 81, cI l1, cU, cU, cU, cU, cJ l6, cU, cI r1, cJ r7, cU, cI (C8 81 24), cU] [cI r11] S C12 Q
        refine wp_if_eq (nx := 151) (tg := 155) dX11_tells_148 rfl rfl (fun hc => ?_) (fun hc => ?_)
        · have h := h.1 hc
          refine wp_iconst (nx := 156) dX11_tells_155 rfl (i32 (by decide)) ?_
          exact h
        · have h := h.2 hc
          refine wp_iconst (nx := 152) dX11_tells_151 rfl (i32 (by decide)) ?_
          refine wp_goto (nx := 156) dX11_tells_152 rfl ?_
          exact h
theorem b_X11_tells_156 {d mc ms : Nat} {l1 l6 l8 l9 l11 s0 : Int} {S : MS} {C : MC} {Q : Int → MS → MC → Prop} (F : Fix S) (h : ((¬ l8 = l1 → K_X11_tells_71 (d + 1) mc ms l1 l6 S (upC C 81 22 (w32 ((C 81 22) + 1))) Q) ∧ (l8 = l1 → ((s0 = 0 → K_X11_tells_71 (d + 1) mc ms l1 l6 S (upC C 81 22 (w32 ((C 81 22) + 1))) Q) ∧ (¬ s0 = 0 → ((¬ C 81 24 = 0 → K_X11_tells_71 (d + 1) mc ms l1 l6 S (upC C 81 22 (w32 ((C 81 22) + 1))) Q) ∧ (C 81 24 = 0 → ((¬ l11 = 0 → K_X11_tells_71 (d + 1) mc ms l1 l6 S (upC C 81 22 (w32 ((C 81 22) + 1))) Q) ∧ (l11 = 0 → ((0 ≤ lCmp l9 0 → ((lCmp l9 99 ≤ 0 → K_X11_tells_71 (d + 1) mc ms l1 l9 S (upC C 81 22 (w32 ((C 81 22) + 1))) Q) ∧ (¬ lCmp l9 99 ≤ 0 → K_X11_tells_71 (d + 1) mc ms l1 99 S (upC C 81 22 (w32 ((C 81 22) + 1))) Q))) ∧ (¬ 0 ≤ lCmp l9 0 → K_X11_tells_71 (d + 1) mc ms l1 0 S (upC C 81 22 (w32 ((C 81 22) + 1))) Q))))))))))) : K_X11_tells_156 (d + 1) mc ms l1 l6 l8 l9 l11 s0 S C Q := by
  show Wp (d + 1) mc ms M_X11_tells 156 [cA 81, cI l1, cU, cU, cU, cU, cJ l6, cU, cI l8, cJ l9, cU, cI l11, cU] [cI s0] S C Q
  refine wp_istore (nx := 158) dX11_tells_156 rfl (by decide) ?_
  refine wp_ls (ls2 := [cA 81, cI l1, cU, cU, cU, cU, cJ l6, cU, cI l8, cJ l9, cU, cI l11, cI s0]) rfl ?_
  refine wp_iload (nx := 160) dX11_tells_158 rfl rfl ?_
  refine wp_iload_n (nx := 161) dX11_tells_160 rfl rfl ?_
  refine wp_icmp_ne (nx := 164) (tg := 211) dX11_tells_161 rfl rfl (fun hc => ?_) (fun hc => ?_)
  · have h := h.1 hc
    refine wp_aload_n (nx := 212) dX11_tells_211 rfl rfl ?_
    refine wp_dup (nx := 213) dX11_tells_212 rfl (k1A _) ?_
    refine wp_getIe (kk := 22) 22 (nx := 216) clsX11 dX11_tells_213 rfl kF_X11_265 (by decide) (fo_81 F) (ft_81 F) rfl rfl rfl ?_
    refine wp_iconst (nx := 217) dX11_tells_216 rfl (i32 (by decide)) ?_
    refine wp_iadd (nx := 218) dX11_tells_217 rfl ?_
    refine wp_putIe (kk := 22) 22 (nx := 221) clsX11 dX11_tells_218 rfl kF_X11_265 (by decide) (fo_81 F) (ft_81 F) rfl rfl ⟨rfl, rfl⟩ rfl ?_
    refine wp_goto (nx := 71) dX11_tells_221 rfl ?_
    refine wp_fg [true, true, false, false, false, false, true, false, false, false, false, false, false] (ls2 := [cA 81, cI l1, cU, cU, cU, cU, cJ l6, cU, cU, cU, cU, cU, cU]) rfl ?_
    exact h
  · have h := h.2 hc
    refine wp_iload (nx := 166) dX11_tells_164 rfl rfl ?_
    refine wp_if_eq (nx := 169) (tg := 211) dX11_tells_166 rfl rfl (fun hc => ?_) (fun hc => ?_)
    · have h := h.1 hc
      refine wp_aload_n (nx := 212) dX11_tells_211 rfl rfl ?_
      refine wp_dup (nx := 213) dX11_tells_212 rfl (k1A _) ?_
      refine wp_getIe (kk := 22) 22 (nx := 216) clsX11 dX11_tells_213 rfl kF_X11_265 (by decide) (fo_81 F) (ft_81 F) rfl rfl rfl ?_
      refine wp_iconst (nx := 217) dX11_tells_216 rfl (i32 (by decide)) ?_
      refine wp_iadd (nx := 218) dX11_tells_217 rfl ?_
      refine wp_putIe (kk := 22) 22 (nx := 221) clsX11 dX11_tells_218 rfl kF_X11_265 (by decide) (fo_81 F) (ft_81 F) rfl rfl ⟨rfl, rfl⟩ rfl ?_
      refine wp_goto (nx := 71) dX11_tells_221 rfl ?_
      refine wp_fg [true, true, false, false, false, false, true, false, false, false, false, false, false] (ls2 := [cA 81, cI l1, cU, cU, cU, cU, cJ l6, cU, cU, cU, cU, cU, cU]) rfl ?_
      exact h
    · have h := h.2 hc
      refine wp_aload_n (nx := 170) dX11_tells_169 rfl rfl ?_
      refine wp_getIe (kk := 24) 24 (nx := 173) clsX11 dX11_tells_170 rfl kF_X11_275 (by decide) (fo_81 F) (ft_81 F) rfl rfl rfl ?_
      refine wp_if_ne (nx := 176) (tg := 211) dX11_tells_173 rfl rfl (fun hc => ?_) (fun hc => ?_)
      · have h := h.1 hc
        refine wp_aload_n (nx := 212) dX11_tells_211 rfl rfl ?_
        refine wp_dup (nx := 213) dX11_tells_212 rfl (k1A _) ?_
        refine wp_getIe (kk := 22) 22 (nx := 216) clsX11 dX11_tells_213 rfl kF_X11_265 (by decide) (fo_81 F) (ft_81 F) rfl rfl rfl ?_
        refine wp_iconst (nx := 217) dX11_tells_216 rfl (i32 (by decide)) ?_
        refine wp_iadd (nx := 218) dX11_tells_217 rfl ?_
        refine wp_putIe (kk := 22) 22 (nx := 221) clsX11 dX11_tells_218 rfl kF_X11_265 (by decide) (fo_81 F) (ft_81 F) rfl rfl ⟨rfl, rfl⟩ rfl ?_
        refine wp_goto (nx := 71) dX11_tells_221 rfl ?_
        refine wp_fg [true, true, false, false, false, false, true, false, false, false, false, false, false] (ls2 := [cA 81, cI l1, cU, cU, cU, cU, cJ l6, cU, cU, cU, cU, cU, cU]) rfl ?_
        exact h
      · have h := h.2 hc
        refine wp_iload (nx := 178) dX11_tells_176 rfl rfl ?_
        refine wp_if_ne (nx := 181) (tg := 211) dX11_tells_178 rfl rfl (fun hc => ?_) (fun hc => ?_)
        · have h := h.1 hc
          refine wp_aload_n (nx := 212) dX11_tells_211 rfl rfl ?_
          refine wp_dup (nx := 213) dX11_tells_212 rfl (k1A _) ?_
          refine wp_getIe (kk := 22) 22 (nx := 216) clsX11 dX11_tells_213 rfl kF_X11_265 (by decide) (fo_81 F) (ft_81 F) rfl rfl rfl ?_
          refine wp_iconst (nx := 217) dX11_tells_216 rfl (i32 (by decide)) ?_
          refine wp_iadd (nx := 218) dX11_tells_217 rfl ?_
          refine wp_putIe (kk := 22) 22 (nx := 221) clsX11 dX11_tells_218 rfl kF_X11_265 (by decide) (fo_81 F) (ft_81 F) rfl rfl ⟨rfl, rfl⟩ rfl ?_
          refine wp_goto (nx := 71) dX11_tells_221 rfl ?_
          refine wp_fg [true, true, false, false, false, false, true, false, false, false, false, false, false] (ls2 := [cA 81, cI l1, cU, cU, cU, cU, cJ l6, cU, cU, cU, cU, cU, cU]) rfl ?_
          exact h
        · have h := h.2 hc
          refine wp_lload (nx := 183) dX11_tells_181 rfl rfl ?_
          refine wp_lconst (nx := 184) (v := 0) dX11_tells_183 rfl ⟨by decide, i64 (by decide)⟩ ?_
          refine wp_lcmp (nx := 185) dX11_tells_184 rfl ?_
          refine wp_if_ge (nx := 188) (tg := 192) dX11_tells_185 rfl rfl (fun hc => ?_) (fun hc => ?_)
          · have h := h.1 hc
            refine wp_lload (nx := 194) dX11_tells_192 rfl rfl ?_
            refine wp_ldc2 (nx := 197) dX11_tells_194 rfl kJ_X11_329 (i64 (by decide)) ?_
            refine wp_lcmp (nx := 198) dX11_tells_197 rfl ?_
            refine wp_if_le (nx := 201) (tg := 207) dX11_tells_198 rfl rfl (fun hc => ?_) (fun hc => ?_)
            · have h := h.1 hc
              refine wp_lload (nx := 209) dX11_tells_207 rfl rfl ?_
              refine wp_lstore (nx := 211) dX11_tells_209 rfl (by decide) ?_
              refine wp_ls (ls2 := [cA 81, cI l1, cU, cU, cU, cU, cJ l9, cU, cI l8, cJ l9, cU, cI l11, cI s0]) rfl ?_
              refine wp_aload_n (nx := 212) dX11_tells_211 rfl rfl ?_
              refine wp_dup (nx := 213) dX11_tells_212 rfl (k1A _) ?_
              refine wp_getIe (kk := 22) 22 (nx := 216) clsX11 dX11_tells_213 rfl kF_X11_265 (by decide) (fo_81 F) (ft_81 F) rfl rfl rfl ?_
              refine wp_iconst (nx := 217) dX11_tells_216 rfl (i32 (by decide)) ?_
              refine wp_iadd (nx := 218) dX11_tells_217 rfl ?_
              refine wp_putIe (kk := 22) 22 (nx := 221) clsX11 dX11_tells_218 rfl kF_X11_265 (by decide) (fo_81 F) (ft_81 F) rfl rfl ⟨rfl, rfl⟩ rfl ?_
              refine wp_goto (nx := 71) dX11_tells_221 rfl ?_
              refine wp_fg [true, true, false, false, false, false, true, false, false, false, false, false, false] (ls2 := [cA 81, cI l1, cU, cU, cU, cU, cJ l9, cU, cU, cU, cU, cU, cU]) rfl ?_
              exact h
            · have h := h.2 hc
              refine wp_ldc2 (nx := 204) dX11_tells_201 rfl kJ_X11_329 (i64 (by decide)) ?_
              refine wp_goto (nx := 209) dX11_tells_204 rfl ?_
              refine wp_lstore (nx := 211) dX11_tells_209 rfl (by decide) ?_
              refine wp_ls (ls2 := [cA 81, cI l1, cU, cU, cU, cU, cJ 99, cU, cI l8, cJ l9, cU, cI l11, cI s0]) rfl ?_
              refine wp_aload_n (nx := 212) dX11_tells_211 rfl rfl ?_
              refine wp_dup (nx := 213) dX11_tells_212 rfl (k1A _) ?_
              refine wp_getIe (kk := 22) 22 (nx := 216) clsX11 dX11_tells_213 rfl kF_X11_265 (by decide) (fo_81 F) (ft_81 F) rfl rfl rfl ?_
              refine wp_iconst (nx := 217) dX11_tells_216 rfl (i32 (by decide)) ?_
              refine wp_iadd (nx := 218) dX11_tells_217 rfl ?_
              refine wp_putIe (kk := 22) 22 (nx := 221) clsX11 dX11_tells_218 rfl kF_X11_265 (by decide) (fo_81 F) (ft_81 F) rfl rfl ⟨rfl, rfl⟩ rfl ?_
              refine wp_goto (nx := 71) dX11_tells_221 rfl ?_
              refine wp_fg [true, true, false, false, false, false, true, false, false, false, false, false, false] (ls2 := [cA 81, cI l1, cU, cU, cU, cU, cJ 99, cU, cU, cU, cU, cU, cU]) rfl ?_
              exact h
          · have h := h.2 hc
            refine wp_lconst (nx := 189) (v := 0) dX11_tells_188 rfl ⟨by decide, i64 (by decide)⟩ ?_
            refine wp_goto (nx := 209) dX11_tells_189 rfl ?_
            refine wp_lstore (nx := 211) dX11_tells_209 rfl (by decide) ?_
            refine wp_ls (ls2 := [cA 81, cI l1, cU, cU, cU, cU, cJ 0, cU, cI l8, cJ l9, cU, cI l11, cI s0]) rfl ?_
            refine wp_aload_n (nx := 212) dX11_tells_211 rfl rfl ?_
            refine wp_dup (nx := 213) dX11_tells_212 rfl (k1A _) ?_
            refine wp_getIe (kk := 22) 22 (nx := 216) clsX11 dX11_tells_213 rfl kF_X11_265 (by decide) (fo_81 F) (ft_81 F) rfl rfl rfl ?_
            refine wp_iconst (nx := 217) dX11_tells_216 rfl (i32 (by decide)) ?_
            refine wp_iadd (nx := 218) dX11_tells_217 rfl ?_
            refine wp_putIe (kk := 22) 22 (nx := 221) clsX11 dX11_tells_218 rfl kF_X11_265 (by decide) (fo_81 F) (ft_81 F) rfl rfl ⟨rfl, rfl⟩ rfl ?_
            refine wp_goto (nx := 71) dX11_tells_221 rfl ?_
            refine wp_fg [true, true, false, false, false, false, true, false, false, false, false, false, false] (ls2 := [cA 81, cI l1, cU, cU, cU, cU, cJ 0, cU, cU, cU, cU, cU, cU]) rfl ?_
            exact h
theorem b_X11_mindedAt_0 {d mc ms : Nat} {l1 l2 l3 : Int} {S : MS} {C : MC} {Q : Int → MS → MC → Prop} (F : Fix S) (h : K_X11_tells_0 d 0 0 1 l1 l2 l3 1 S C (fun r1 Sq C2 => Sq = S ∧ Q r1 S C2)) : K_X11_mindedAt_0 (d + 1) mc ms l1 l2 l3 S C Q := by
  show Wp (d + 1) mc ms M_X11_mindedAt 0 [cA 81, cI l1, cI l2, cI l3] [] S C Q
  refine wp_aload_n (nx := 1) dX11_mindedAt_0 rfl rfl ?_
  refine wp_iconst (nx := 2) dX11_mindedAt_1 rfl (i32 (by decide)) ?_
  refine wp_iload_n (nx := 3) dX11_mindedAt_2 rfl rfl ?_
  refine wp_iload_n (nx := 4) dX11_mindedAt_3 rfl rfl ?_
  refine wp_iload_n (nx := 5) dX11_mindedAt_4 rfl rfl ?_
  refine wp_iconst (nx := 6) dX11_mindedAt_5 rfl (i32 (by decide)) ?_
  refine wp_invV (nx := 9) (N := M_X11_tells) (as := [cI 1, cI l1, cI l2, cI l3, cI 1]) (st := []) (mc := 0) (ms := 0) (mc' := mc) (ms' := ms) (a := 81) clsX11 dX11_mindedAt_6 rfl mok_X11_tells kM_X11_331 ki_X11_tells ke_X11_tells (fo_81 F) (ft_81 F) rfl rfl (leB rfl) (leB rfl) (z0 _) (z0 _) (Wp.mono h ?_)
  intro r1 Sq C2 h
  obtain ⟨e9, h⟩ := h
  rw [e9]
  show Wp (d + 1) mc ms M_X11_mindedAt 9 [cA 81, cI l1, cI l2, cI l3] [cI r1] S C2 Q
  exact wp_ireturn dX11_mindedAt_9 rfl rfl rfl h
theorem b_X11_canPlay_0 {d mc ms : Nat} {l1 l2 l3 : Int} {S : MS} {C : MC} {Q : Int → MS → MC → Prop} (F : Fix S) (h : ((0 : Int) ≤ w32 (0 + l2) ∧ w32 (0 + l2) < 5656) ∧ ((C 83 (w32 (0 + l2)) = l1 → K_X11_tells_0 d 0 0 3 l1 l2 l3 0 S C (fun r1 Sq C2 => Sq = S ∧ ((¬ r1 = 0 → Q 0 S C2) ∧ (r1 = 0 → Q 1 S C2)))) ∧ (¬ C 83 (w32 (0 + l2)) = l1 → K_X11_tells_0 d 0 0 2 l1 l2 l3 0 S C (fun r3 Sq C4 => Sq = S ∧ ((¬ r3 = 1 → Q 0 S C4) ∧ (r3 = 1 → K_X11_tells_0 d 0 0 3 l1 l2 l3 0 S C4 (fun r5 Sq C6 => Sq = S ∧ ((¬ r5 = 0 → Q 0 S C6) ∧ (r5 = 0 → Q 1 S C6))))))))) : K_X11_canPlay_0 (d + 1) mc ms l1 l2 l3 S C Q := by
  show Wp (d + 1) mc ms M_X11_canPlay 0 [cA 81, cI l1, cI l2, cI l3] [] S C Q
  refine wp_aload_n (nx := 1) dX11_canPlay_0 rfl rfl ?_
  refine wp_getAe (kk := 2) (nx := 4) clsX11 dX11_canPlay_1 rfl kF_X11_28 (by decide) (fo_81 F) (ft_81 F) rfl (fp_81_2 F) ?_
  refine wp_iconst (nx := 5) dX11_canPlay_4 rfl (i32 (by decide)) ?_
  refine wp_iload_n (nx := 6) dX11_canPlay_5 rfl rfl ?_
  refine wp_iadd (nx := 7) dX11_canPlay_6 rfl ?_
  obtain ⟨hi, h⟩ := h
  refine wp_ialoadE (nx := 8) dX11_canPlay_7 rfl (fo_83 F) (fl_83 F) hi (ft_83 F) rfl ?_
  refine wp_iload_n (nx := 9) dX11_canPlay_8 rfl rfl ?_
  refine wp_icmp_eq (nx := 12) (tg := 25) dX11_canPlay_9 rfl rfl (fun hc => ?_) (fun hc => ?_)
  · have h := h.1 hc
    refine wp_aload_n (nx := 26) dX11_canPlay_25 rfl rfl ?_
    refine wp_iconst (nx := 27) dX11_canPlay_26 rfl (i32 (by decide)) ?_
    refine wp_iload_n (nx := 28) dX11_canPlay_27 rfl rfl ?_
    refine wp_iload_n (nx := 29) dX11_canPlay_28 rfl rfl ?_
    refine wp_iload_n (nx := 30) dX11_canPlay_29 rfl rfl ?_
    refine wp_iconst (nx := 31) dX11_canPlay_30 rfl (i32 (by decide)) ?_
    refine wp_invV (nx := 34) (N := M_X11_tells) (as := [cI 3, cI l1, cI l2, cI l3, cI 0]) (st := []) (mc := 0) (ms := 0) (mc' := mc) (ms' := ms) (a := 81) clsX11 dX11_canPlay_31 rfl mok_X11_tells kM_X11_331 ki_X11_tells ke_X11_tells (fo_81 F) (ft_81 F) rfl rfl (leB rfl) (leB rfl) (z0 _) (z0 _) (Wp.mono h ?_)
    intro r1 Sq C2 h
    obtain ⟨e9, h⟩ := h
    rw [e9]
    show Wp (d + 1) mc ms M_X11_canPlay 34 [cA 81, cI l1, cI l2, cI l3] [cI r1] S C2 Q
    refine wp_if_ne (nx := 37) (tg := 41) dX11_canPlay_34 rfl rfl (fun hc => ?_) (fun hc => ?_)
    · have h := h.1 hc
      refine wp_iconst (nx := 42) dX11_canPlay_41 rfl (i32 (by decide)) ?_
      exact wp_ireturn dX11_canPlay_42 rfl rfl (nz_of (Or.inl rfl)) h
    · have h := h.2 hc
      refine wp_iconst (nx := 38) dX11_canPlay_37 rfl (i32 (by decide)) ?_
      refine wp_goto (nx := 42) dX11_canPlay_38 rfl ?_
      exact wp_ireturn dX11_canPlay_42 rfl rfl (nz_of (Or.inr rfl)) h
  · have h := h.2 hc
    refine wp_aload_n (nx := 13) dX11_canPlay_12 rfl rfl ?_
    refine wp_iconst (nx := 14) dX11_canPlay_13 rfl (i32 (by decide)) ?_
    refine wp_iload_n (nx := 15) dX11_canPlay_14 rfl rfl ?_
    refine wp_iload_n (nx := 16) dX11_canPlay_15 rfl rfl ?_
    refine wp_iload_n (nx := 17) dX11_canPlay_16 rfl rfl ?_
    refine wp_iconst (nx := 18) dX11_canPlay_17 rfl (i32 (by decide)) ?_
    refine wp_invV (nx := 21) (N := M_X11_tells) (as := [cI 2, cI l1, cI l2, cI l3, cI 0]) (st := []) (mc := 0) (ms := 0) (mc' := mc) (ms' := ms) (a := 81) clsX11 dX11_canPlay_18 rfl mok_X11_tells kM_X11_331 ki_X11_tells ke_X11_tells (fo_81 F) (ft_81 F) rfl rfl (leB rfl) (leB rfl) (z0 _) (z0 _) (Wp.mono h ?_)
    intro r3 Sq C4 h
    obtain ⟨e9, h⟩ := h
    rw [e9]
    show Wp (d + 1) mc ms M_X11_canPlay 21 [cA 81, cI l1, cI l2, cI l3] [cI r3] S C4 Q
    refine wp_iconst (nx := 22) dX11_canPlay_21 rfl (i32 (by decide)) ?_
    refine wp_icmp_ne (nx := 25) (tg := 41) dX11_canPlay_22 rfl rfl (fun hc => ?_) (fun hc => ?_)
    · have h := h.1 hc
      refine wp_iconst (nx := 42) dX11_canPlay_41 rfl (i32 (by decide)) ?_
      exact wp_ireturn dX11_canPlay_42 rfl rfl (nz_of (Or.inl rfl)) h
    · have h := h.2 hc
      refine wp_aload_n (nx := 26) dX11_canPlay_25 rfl rfl ?_
      refine wp_iconst (nx := 27) dX11_canPlay_26 rfl (i32 (by decide)) ?_
      refine wp_iload_n (nx := 28) dX11_canPlay_27 rfl rfl ?_
      refine wp_iload_n (nx := 29) dX11_canPlay_28 rfl rfl ?_
      refine wp_iload_n (nx := 30) dX11_canPlay_29 rfl rfl ?_
      refine wp_iconst (nx := 31) dX11_canPlay_30 rfl (i32 (by decide)) ?_
      refine wp_invV (nx := 34) (N := M_X11_tells) (as := [cI 3, cI l1, cI l2, cI l3, cI 0]) (st := []) (mc := 0) (ms := 0) (mc' := mc) (ms' := ms) (a := 81) clsX11 dX11_canPlay_31 rfl mok_X11_tells kM_X11_331 ki_X11_tells ke_X11_tells (fo_81 F) (ft_81 F) rfl rfl (leB rfl) (leB rfl) (z0 _) (z0 _) (Wp.mono h ?_)
      intro r5 Sq C6 h
      obtain ⟨e9, h⟩ := h
      rw [e9]
      show Wp (d + 1) mc ms M_X11_canPlay 34 [cA 81, cI l1, cI l2, cI l3] [cI r5] S C6 Q
      refine wp_if_ne (nx := 37) (tg := 41) dX11_canPlay_34 rfl rfl (fun hc => ?_) (fun hc => ?_)
      · have h := h.1 hc
        refine wp_iconst (nx := 42) dX11_canPlay_41 rfl (i32 (by decide)) ?_
        exact wp_ireturn dX11_canPlay_42 rfl rfl (nz_of (Or.inl rfl)) h
      · have h := h.2 hc
        refine wp_iconst (nx := 38) dX11_canPlay_37 rfl (i32 (by decide)) ?_
        refine wp_goto (nx := 42) dX11_canPlay_38 rfl ?_
        exact wp_ireturn dX11_canPlay_42 rfl rfl (nz_of (Or.inr rfl)) h
theorem b_X11_canHold_0 {d mc ms : Nat} {l1 l2 : Int} {S : MS} {C : MC} {Q : Int → MS → MC → Prop} (F : Fix S) (h : ((¬ l2 = 0 → K_X11_canHold_8 (d + 1) mc ms l1 l2 0 S C Q) ∧ (l2 = 0 → Q 1 S C))) : K_X11_canHold_0 (d + 1) mc ms l1 l2 S C Q := by
  show Wp (d + 1) mc ms M_X11_canHold 0 [cA 81, cI l1, cI l2, cU, cU] [] S C Q
  refine wp_iload_n (nx := 1) dX11_canHold_0 rfl rfl ?_
  refine wp_if_ne (nx := 4) (tg := 6) dX11_canHold_1 rfl rfl (fun hc => ?_) (fun hc => ?_)
  · have h := h.1 hc
    refine wp_iconst (nx := 7) dX11_canHold_6 rfl (i32 (by decide)) ?_
    refine wp_istore_n (nx := 8) dX11_canHold_7 rfl (by decide) ?_
    refine wp_ls (ls2 := [cA 81, cI l1, cI l2, cI 0, cU]) rfl ?_
    exact h
  · have h := h.2 hc
    refine wp_iconst (nx := 5) dX11_canHold_4 rfl (i32 (by decide)) ?_
    exact wp_ireturn dX11_canHold_5 rfl rfl (nz_of (Or.inr rfl)) h
theorem b_X11_canHold_8 {d mc ms : Nat} {l1 l2 l3 : Int} {S : MS} {C : MC} {Q : Int → MS → MC → Prop} (F : Fix S) (h : K_X11_isIn_0 d 0 0 l2 l3 S C (fun r1 Sq C2 => Sq = S ∧ ((¬ r1 = 0 → K_X11_canHold_26 (d + 1) mc ms l1 l2 l3 7 S C2 Q) ∧ (r1 = 0 → K_X11_canHold_8 (d + 1) mc ms l1 l2 (w32 (l3 + 1)) S C2 Q)))) : K_X11_canHold_8 (d + 1) mc ms l1 l2 l3 S C Q := by
  show Wp (d + 1) mc ms M_X11_canHold 8 [cA 81, cI l1, cI l2, cI l3, cU] [] S C Q
  refine wp_iload_n (nx := 9) dX11_canHold_8 rfl rfl ?_
  refine wp_iload_n (nx := 10) dX11_canHold_9 rfl rfl ?_
  refine wp_invS (nx := 13) (N := M_X11_isIn) (as := [cI l2, cI l3]) (st := []) (mc := 0) (ms := 0) (mc' := mc) (ms' := ms) dX11_canHold_10 rfl mok_X11_isIn kM_X11_335 ks_X11_isIn rfl rfl (leB rfl) (leB rfl) (z0 _) (z0 _) (Wp.mono h ?_)
  intro r1 Sq C2 h
  obtain ⟨e9, h⟩ := h
  rw [e9]
  show Wp (d + 1) mc ms M_X11_canHold 13 [cA 81, cI l1, cI l2, cI l3, cU] [cI r1] S C2 Q
  refine wp_if_ne (nx := 16) (tg := 22) dX11_canHold_13 rfl rfl (fun hc => ?_) (fun hc => ?_)
  · have h := h.1 hc
    refine wp_bipush (nx := 24) dX11_canHold_22 rfl ⟨by decide, i32 (by decide)⟩ ?_
    refine wp_istore (nx := 26) dX11_canHold_24 rfl (by decide) ?_
    refine wp_ls (ls2 := [cA 81, cI l1, cI l2, cI l3, cI 7]) rfl ?_
    exact h
  · have h := h.2 hc
    refine wp_iinc (nx := 19) dX11_canHold_16 rfl rfl (by decide) ?_
    refine wp_ls (ls2 := [cA 81, cI l1, cI l2, cI (w32 (l3 + 1)), cU]) rfl ?_
    refine wp_goto (nx := 8) dX11_canHold_19 rfl ?_
    exact h
theorem b_X11_canHold_26 {d mc ms : Nat} {l1 l2 l3 l4 : Int} {S : MS} {C : MC} {Q : Int → MS → MC → Prop} (F : Fix S) (h : K_X11_isIn_0 d 0 0 l2 l4 S C (fun r1 Sq C2 => Sq = S ∧ ((¬ r1 = 0 → K_X11_ones_0 d 0 0 l2 S C2 (fun r3 Sq C4 => Sq = S ∧ ((0 : Int) ≤ w32 (25 + l1) ∧ w32 (25 + l1) < 5656) ∧ ((C4 83 (w32 (25 + l1)) < r3 → Q 0 S C4) ∧ (¬ C4 83 (w32 (25 + l1)) < r3 → ((0 : Int) ≤ w32 (31 + l1) ∧ w32 (31 + l1) < 5656) ∧ ((C4 83 (w32 (31 + l1)) < w32 (l4 - l3) → Q 0 S C4) ∧ (¬ C4 83 (w32 (31 + l1)) < w32 (l4 - l3) → Q 1 S C4)))))) ∧ (r1 = 0 → K_X11_canHold_26 (d + 1) mc ms l1 l2 l3 (w32 (l4 + (-1))) S C2 Q)))) : K_X11_canHold_26 (d + 1) mc ms l1 l2 l3 l4 S C Q := by
  show Wp (d + 1) mc ms M_X11_canHold 26 [cA 81, cI l1, cI l2, cI l3, cI l4] [] S C Q
  refine wp_iload_n (nx := 27) dX11_canHold_26 rfl rfl ?_
  refine wp_iload (nx := 29) dX11_canHold_27 rfl rfl ?_
  refine wp_invS (nx := 32) (N := M_X11_isIn) (as := [cI l2, cI l4]) (st := []) (mc := 0) (ms := 0) (mc' := mc) (ms' := ms) dX11_canHold_29 rfl mok_X11_isIn kM_X11_335 ks_X11_isIn rfl rfl (leB rfl) (leB rfl) (z0 _) (z0 _) (Wp.mono h ?_)
  intro r1 Sq C2 h
  obtain ⟨e9, h⟩ := h
  rw [e9]
  show Wp (d + 1) mc ms M_X11_canHold 32 [cA 81, cI l1, cI l2, cI l3, cI l4] [cI r1] S C2 Q
  refine wp_if_ne (nx := 35) (tg := 41) dX11_canHold_32 rfl rfl (fun hc => ?_) (fun hc => ?_)
  · have h := h.1 hc
    refine wp_iload_n (nx := 42) dX11_canHold_41 rfl rfl ?_
    refine wp_invS (nx := 45) (N := M_X11_ones) (as := [cI l2]) (st := []) (mc := 0) (ms := 0) (mc' := mc) (ms' := ms) dX11_canHold_42 rfl mok_X11_ones kM_X11_125 ks_X11_ones rfl rfl (leB rfl) (leB rfl) (z0 _) (z0 _) (Wp.mono h ?_)
    intro r3 Sq C4 h
    obtain ⟨e9, h⟩ := h
    rw [e9]
    show Wp (d + 1) mc ms M_X11_canHold 45 [cA 81, cI l1, cI l2, cI l3, cI l4] [cI r3] S C4 Q
    refine wp_aload_n (nx := 46) dX11_canHold_45 rfl rfl ?_
    refine wp_getAe (kk := 2) (nx := 49) clsX11 dX11_canHold_46 rfl kF_X11_28 (by decide) (fo_81 F) (ft_81 F) rfl (fp_81_2 F) ?_
    refine wp_bipush (nx := 51) dX11_canHold_49 rfl ⟨by decide, i32 (by decide)⟩ ?_
    refine wp_iload_n (nx := 52) dX11_canHold_51 rfl rfl ?_
    refine wp_iadd (nx := 53) dX11_canHold_52 rfl ?_
    obtain ⟨hi, h⟩ := h
    refine wp_ialoadE (nx := 54) dX11_canHold_53 rfl (fo_83 F) (fl_83 F) hi (ft_83 F) rfl ?_
    refine wp_icmp_gt (nx := 57) (tg := 77) dX11_canHold_54 rfl rfl (fun hc => ?_) (fun hc => ?_)
    · have h := h.1 hc
      refine wp_iconst (nx := 78) dX11_canHold_77 rfl (i32 (by decide)) ?_
      exact wp_ireturn dX11_canHold_78 rfl rfl (nz_of (Or.inl rfl)) h
    · have h := h.2 hc
      refine wp_iload (nx := 59) dX11_canHold_57 rfl rfl ?_
      refine wp_iload_n (nx := 60) dX11_canHold_59 rfl rfl ?_
      refine wp_isub (nx := 61) dX11_canHold_60 rfl ?_
      refine wp_aload_n (nx := 62) dX11_canHold_61 rfl rfl ?_
      refine wp_getAe (kk := 2) (nx := 65) clsX11 dX11_canHold_62 rfl kF_X11_28 (by decide) (fo_81 F) (ft_81 F) rfl (fp_81_2 F) ?_
      refine wp_bipush (nx := 67) dX11_canHold_65 rfl ⟨by decide, i32 (by decide)⟩ ?_
      refine wp_iload_n (nx := 68) dX11_canHold_67 rfl rfl ?_
      refine wp_iadd (nx := 69) dX11_canHold_68 rfl ?_
      obtain ⟨hi, h⟩ := h
      refine wp_ialoadE (nx := 70) dX11_canHold_69 rfl (fo_83 F) (fl_83 F) hi (ft_83 F) rfl ?_
      refine wp_icmp_gt (nx := 73) (tg := 77) dX11_canHold_70 rfl rfl (fun hc => ?_) (fun hc => ?_)
      · have h := h.1 hc
        refine wp_iconst (nx := 78) dX11_canHold_77 rfl (i32 (by decide)) ?_
        exact wp_ireturn dX11_canHold_78 rfl rfl (nz_of (Or.inl rfl)) h
      · have h := h.2 hc
        refine wp_iconst (nx := 74) dX11_canHold_73 rfl (i32 (by decide)) ?_
        refine wp_goto (nx := 78) dX11_canHold_74 rfl ?_
        exact wp_ireturn dX11_canHold_78 rfl rfl (nz_of (Or.inr rfl)) h
  · have h := h.2 hc
    refine wp_iinc (nx := 38) dX11_canHold_35 rfl rfl (by decide) ?_
    refine wp_ls (ls2 := [cA 81, cI l1, cI l2, cI l3, cI (w32 (l4 + (-1)))]) rfl ?_
    refine wp_goto (nx := 26) dX11_canHold_38 rfl ?_
    exact h
theorem b_X11_laysParts_0 {d mc ms : Nat} {l1 l2 : Int} {S : MS} {C : MC} {Q : Int → MS → MC → Prop} (F : Fix S) (h : K_X11_laysParts_2 (d + 1) mc ms l1 l2 0 S C Q) : K_X11_laysParts_0 (d + 1) mc ms l1 l2 S C Q := by
  show Wp (d + 1) mc ms M_X11_laysParts 0 [cA 81, cI l1, cI l2, cU, cU, cU, cU] [] S C Q
  refine wp_iconst (nx := 1) dX11_laysParts_0 rfl (i32 (by decide)) ?_
  refine wp_istore_n (nx := 2) dX11_laysParts_1 rfl (by decide) ?_
  refine wp_ls (ls2 := [cA 81, cI l1, cI l2, cI 0, cU, cU, cU]) rfl ?_
  exact h
theorem b_X11_laysParts_2 {d mc ms : Nat} {l1 l2 l3 : Int} {S : MS} {C : MC} {Q : Int → MS → MC → Prop} (F : Fix S) (h : K_X11_many_0 d 0 0 S C (fun r1 Sq C2 => Sq = S ∧ ((r1 ≤ l3 → Q 0 S C2) ∧ (¬ r1 ≤ l3 → K_X11_laysParts_13 (d + 1) mc ms l1 l2 l3 0 S C2 Q)))) : K_X11_laysParts_2 (d + 1) mc ms l1 l2 l3 S C Q := by
  show Wp (d + 1) mc ms M_X11_laysParts 2 [cA 81, cI l1, cI l2, cI l3, cU, cU, cU] [] S C Q
  refine wp_iload_n (nx := 3) dX11_laysParts_2 rfl rfl ?_
  refine wp_aload_n (nx := 4) dX11_laysParts_3 rfl rfl ?_
  refine wp_invV (nx := 7) (N := M_X11_many) (as := []) (st := [cI l3]) (mc := 0) (ms := 0) (mc' := mc) (ms' := ms) (a := 81) clsX11 dX11_laysParts_4 rfl mok_X11_many kM_X11_118 ki_X11_many ke_X11_many (fo_81 F) (ft_81 F) rfl rfl (leB rfl) (leB rfl) (z0 _) (z0 _) (Wp.mono h ?_)
  intro r1 Sq C2 h
  obtain ⟨e9, h⟩ := h
  rw [e9]
  show Wp (d + 1) mc ms M_X11_laysParts 7 [cA 81, cI l1, cI l2, cI l3, cU, cU, cU] [cI r1, cI l3] S C2 Q
  refine wp_icmp_ge (nx := 10) (tg := 189) dX11_laysParts_7 rfl rfl (fun hc => ?_) (fun hc => ?_)
  · have h := h.1 hc
    exact wp_return dX11_laysParts_189 rfl h
  · have h := h.2 hc
    refine wp_iconst (nx := 11) dX11_laysParts_10 rfl (i32 (by decide)) ?_
    refine wp_istore (nx := 13) dX11_laysParts_11 rfl (by decide) ?_
    refine wp_ls (ls2 := [cA 81, cI l1, cI l2, cI l3, cI 0, cU, cU]) rfl ?_
    exact h
theorem b_X11_laysParts_13 {d mc ms : Nat} {l1 l2 l3 l4 : Int} {S : MS} {C : MC} {Q : Int → MS → MC → Prop} (F : Fix S) (h : ((8 ≤ l4 → K_X11_laysParts_70 (d + 1) mc ms l1 l2 l3 0 S C Q) ∧ (¬ 8 ≤ l4 → K_X11_isIn_0 d 0 0 l2 l4 S C (fun r1 Sq C2 => Sq = S ∧ ((r1 = 0 → ((0 : Int) ≤ l4 ∧ l4 < 8) ∧ K_X11_laysParts_13 (d + 1) mc ms l1 l2 l3 (w32 (l4 + 1)) S (upC C2 95 l4 1000001) Q) ∧ (¬ r1 = 0 → K_X11_canPlay_0 d 0 0 l3 l4 l1 S C2 (fun r3 Sq C4 => Sq = S ∧ ((r3 = 0 → ((0 : Int) ≤ l4 ∧ l4 < 8) ∧ K_X11_laysParts_13 (d + 1) mc ms l1 l2 l3 (w32 (l4 + 1)) S (upC C4 95 l4 1000001) Q) ∧ (¬ r3 = 0 → K_X11_mindedAt_0 d 0 0 l3 l4 l1 S C4 (fun r5 Sq C6 => Sq = S ∧ ((0 : Int) ≤ l4 ∧ l4 < 8) ∧ K_X11_laysParts_13 (d + 1) mc ms l1 l2 l3 (w32 (l4 + 1)) S (upC C6 95 l4 r5) Q)))))))))) : K_X11_laysParts_13 (d + 1) mc ms l1 l2 l3 l4 S C Q := by
  show Wp (d + 1) mc ms M_X11_laysParts 13 [cA 81, cI l1, cI l2, cI l3, cI l4, cU, cU] [] S C Q
  refine wp_iload (nx := 15) dX11_laysParts_13 rfl rfl ?_
  refine wp_bipush (nx := 17) dX11_laysParts_15 rfl ⟨by decide, i32 (by decide)⟩ ?_
  refine wp_icmp_ge (nx := 20) (tg := 67) dX11_laysParts_17 rfl rfl (fun hc => ?_) (fun hc => ?_)
  · have h := h.1 hc
    refine wp_iconst (nx := 68) dX11_laysParts_67 rfl (i32 (by decide)) ?_
    refine wp_istore (nx := 70) dX11_laysParts_68 rfl (by decide) ?_
    refine wp_ls (ls2 := [cA 81, cI l1, cI l2, cI l3, cI 0, cU, cU]) rfl ?_
    exact h
  · have h := h.2 hc
    refine wp_aload_n (nx := 21) dX11_laysParts_20 rfl rfl ?_
    refine wp_getAe (kk := 31) (nx := 24) clsX11 dX11_laysParts_21 rfl kF_X11_69 (by decide) (fo_81 F) (ft_81 F) rfl (fp_81_31 F) ?_
    refine wp_iload (nx := 26) dX11_laysParts_24 rfl rfl ?_
    refine wp_iload_n (nx := 27) dX11_laysParts_26 rfl rfl ?_
    refine wp_iload (nx := 29) dX11_laysParts_27 rfl rfl ?_
    refine wp_invS (nx := 32) (N := M_X11_isIn) (as := [cI l2, cI l4]) (st := [cI l4, cA 95]) (mc := 0) (ms := 0) (mc' := mc) (ms' := ms) dX11_laysParts_29 rfl mok_X11_isIn kM_X11_335 ks_X11_isIn rfl rfl (leB rfl) (leB rfl) (z0 _) (z0 _) (Wp.mono h ?_)
    intro r1 Sq C2 h
    obtain ⟨e9, h⟩ := h
    rw [e9]
    show Wp (d + 1) mc ms M_X11_laysParts 32 [cA 81, cI l1, cI l2, cI l3, cI l4, cU, cU] [cI r1, cI l4, cA 95] S C2 Q
    refine wp_if_eq (nx := 35) (tg := 57) dX11_laysParts_32 rfl rfl (fun hc => ?_) (fun hc => ?_)
    · have h := h.1 hc
      refine wp_ldc_w (nx := 60) dX11_laysParts_57 rfl kI_X11_338 (i32 (by decide)) ?_
      obtain ⟨hi, h⟩ := h
      refine wp_iastoreE (nx := 61) dX11_laysParts_60 rfl (fo_95 F) (fl_95 F) hi (ft_95 F) ?_
      refine wp_iinc (nx := 64) dX11_laysParts_61 rfl rfl (by decide) ?_
      refine wp_ls (ls2 := [cA 81, cI l1, cI l2, cI l3, cI (w32 (l4 + 1)), cU, cU]) rfl ?_
      refine wp_goto (nx := 13) dX11_laysParts_64 rfl ?_
      exact h
    · have h := h.2 hc
      refine wp_aload_n (nx := 36) dX11_laysParts_35 rfl rfl ?_
      refine wp_iload_n (nx := 37) dX11_laysParts_36 rfl rfl ?_
      refine wp_iload (nx := 39) dX11_laysParts_37 rfl rfl ?_
      refine wp_iload_n (nx := 40) dX11_laysParts_39 rfl rfl ?_
      refine wp_invV (nx := 43) (N := M_X11_canPlay) (as := [cI l3, cI l4, cI l1]) (st := [cI l4, cA 95]) (mc := 0) (ms := 0) (mc' := mc) (ms' := ms) (a := 81) clsX11 dX11_laysParts_40 rfl mok_X11_canPlay kM_X11_145 ki_X11_canPlay ke_X11_canPlay (fo_81 F) (ft_81 F) rfl rfl (leB rfl) (leB rfl) (z0 _) (z0 _) (Wp.mono h ?_)
      intro r3 Sq C4 h
      obtain ⟨e9, h⟩ := h
      rw [e9]
      show Wp (d + 1) mc ms M_X11_laysParts 43 [cA 81, cI l1, cI l2, cI l3, cI l4, cU, cU] [cI r3, cI l4, cA 95] S C4 Q
      refine wp_if_eq (nx := 46) (tg := 57) dX11_laysParts_43 rfl rfl (fun hc => ?_) (fun hc => ?_)
      · have h := h.1 hc
        refine wp_ldc_w (nx := 60) dX11_laysParts_57 rfl kI_X11_338 (i32 (by decide)) ?_
        obtain ⟨hi, h⟩ := h
        refine wp_iastoreE (nx := 61) dX11_laysParts_60 rfl (fo_95 F) (fl_95 F) hi (ft_95 F) ?_
        refine wp_iinc (nx := 64) dX11_laysParts_61 rfl rfl (by decide) ?_
        refine wp_ls (ls2 := [cA 81, cI l1, cI l2, cI l3, cI (w32 (l4 + 1)), cU, cU]) rfl ?_
        refine wp_goto (nx := 13) dX11_laysParts_64 rfl ?_
        exact h
      · have h := h.2 hc
        refine wp_aload_n (nx := 47) dX11_laysParts_46 rfl rfl ?_
        refine wp_iload_n (nx := 48) dX11_laysParts_47 rfl rfl ?_
        refine wp_iload (nx := 50) dX11_laysParts_48 rfl rfl ?_
        refine wp_iload_n (nx := 51) dX11_laysParts_50 rfl rfl ?_
        refine wp_invV (nx := 54) (N := M_X11_mindedAt) (as := [cI l3, cI l4, cI l1]) (st := [cI l4, cA 95]) (mc := 0) (ms := 0) (mc' := mc) (ms' := ms) (a := 81) clsX11 dX11_laysParts_51 rfl mok_X11_mindedAt kM_X11_141 ki_X11_mindedAt ke_X11_mindedAt (fo_81 F) (ft_81 F) rfl rfl (leB rfl) (leB rfl) (z0 _) (z0 _) (Wp.mono h ?_)
        intro r5 Sq C6 h
        obtain ⟨e9, h⟩ := h
        rw [e9]
        show Wp (d + 1) mc ms M_X11_laysParts 54 [cA 81, cI l1, cI l2, cI l3, cI l4, cU, cU] [cI r5, cI l4, cA 95] S C6 Q
        refine wp_goto (nx := 60) dX11_laysParts_54 rfl ?_
        obtain ⟨hi, h⟩ := h
        refine wp_iastoreE (nx := 61) dX11_laysParts_60 rfl (fo_95 F) (fl_95 F) hi (ft_95 F) ?_
        refine wp_iinc (nx := 64) dX11_laysParts_61 rfl rfl (by decide) ?_
        refine wp_ls (ls2 := [cA 81, cI l1, cI l2, cI l3, cI (w32 (l4 + 1)), cU, cU]) rfl ?_
        refine wp_goto (nx := 13) dX11_laysParts_64 rfl ?_
        exact h
theorem b_X11_laysParts_70 {d mc ms : Nat} {l1 l2 l3 l4 : Int} {S : MS} {C : MC} {Q : Int → MS → MC → Prop} (F : Fix S) (h : ((256 ≤ l4 → K_X11_laysParts_2 (d + 1) mc ms l1 l2 (w32 (l3 + 1)) S C Q) ∧ (¬ 256 ≤ l4 → ((¬ iAnd l4 (iXor l2 (-1)) = 0 → K_X11_laysParts_109 (d + 1) mc ms l1 l2 l3 l4 1000001 0 S C Q) ∧ (iAnd l4 (iXor l2 (-1)) = 0 → K_X11_canHold_0 d 0 0 l3 l4 S C (fun r1 Sq C2 => Sq = S ∧ ((r1 = 0 → K_X11_laysParts_109 (d + 1) mc ms l1 l2 l3 l4 1000001 0 S C2 Q) ∧ (¬ r1 = 0 → K_X11_laysParts_109 (d + 1) mc ms l1 l2 l3 l4 0 0 S C2 Q)))))))) : K_X11_laysParts_70 (d + 1) mc ms l1 l2 l3 l4 S C Q := by
  show Wp (d + 1) mc ms M_X11_laysParts 70 [cA 81, cI l1, cI l2, cI l3, cI l4, cU, cU] [] S C Q
  refine wp_iload (nx := 72) dX11_laysParts_70 rfl rfl ?_
  refine wp_sipush (nx := 75) dX11_laysParts_72 rfl ⟨by decide, i32 (by decide)⟩ ?_
  refine wp_icmp_ge (nx := 78) (tg := 183) dX11_laysParts_75 rfl rfl (fun hc => ?_) (fun hc => ?_)
  · have h := h.1 hc
    refine wp_iinc (nx := 186) dX11_laysParts_183 rfl rfl (by decide) ?_
    refine wp_ls (ls2 := [cA 81, cI l1, cI l2, cI (w32 (l3 + 1)), cI l4, cU, cU]) rfl ?_
    refine wp_goto (nx := 2) dX11_laysParts_186 rfl ?_
    refine wp_fg [true, true, true, true, false, false, false] (ls2 := [cA 81, cI l1, cI l2, cI (w32 (l3 + 1)), cU, cU, cU]) rfl ?_
    exact h
  · have h := h.2 hc
    refine wp_iload (nx := 80) dX11_laysParts_78 rfl rfl ?_
    refine wp_iload_n (nx := 81) dX11_laysParts_80 rfl rfl ?_
    refine wp_iconst (nx := 82) dX11_laysParts_81 rfl (i32 (by decide)) ?_
    refine wp_ixor (nx := 83) dX11_laysParts_82 rfl ?_
    refine wp_iand (nx := 84) dX11_laysParts_83 rfl ?_
    refine wp_if_ne (nx := 87) (tg := 101) dX11_laysParts_84 rfl rfl (fun hc => ?_) (fun hc => ?_)
    · have h := h.1 hc
      refine wp_ldc_w (nx := 104) dX11_laysParts_101 rfl kI_X11_338 (i32 (by decide)) ?_
      refine wp_istore (nx := 106) dX11_laysParts_104 rfl (by decide) ?_
      refine wp_ls (ls2 := [cA 81, cI l1, cI l2, cI l3, cI l4, cI 1000001, cU]) rfl ?_
      refine wp_iconst (nx := 107) dX11_laysParts_106 rfl (i32 (by decide)) ?_
      refine wp_istore (nx := 109) dX11_laysParts_107 rfl (by decide) ?_
      refine wp_ls (ls2 := [cA 81, cI l1, cI l2, cI l3, cI l4, cI 1000001, cI 0]) rfl ?_
      exact h
    · have h := h.2 hc
      refine wp_aload_n (nx := 88) dX11_laysParts_87 rfl rfl ?_
      refine wp_iload_n (nx := 89) dX11_laysParts_88 rfl rfl ?_
      refine wp_iload (nx := 91) dX11_laysParts_89 rfl rfl ?_
      refine wp_invV (nx := 94) (N := M_X11_canHold) (as := [cI l3, cI l4]) (st := []) (mc := 0) (ms := 0) (mc' := mc) (ms' := ms) (a := 81) clsX11 dX11_laysParts_91 rfl mok_X11_canHold kM_X11_339 ki_X11_canHold ke_X11_canHold (fo_81 F) (ft_81 F) rfl rfl (leB rfl) (leB rfl) (z0 _) (z0 _) (Wp.mono h ?_)
      intro r1 Sq C2 h
      obtain ⟨e9, h⟩ := h
      rw [e9]
      show Wp (d + 1) mc ms M_X11_laysParts 94 [cA 81, cI l1, cI l2, cI l3, cI l4, cU, cU] [cI r1] S C2 Q
      refine wp_if_eq (nx := 97) (tg := 101) dX11_laysParts_94 rfl rfl (fun hc => ?_) (fun hc => ?_)
      · have h := h.1 hc
        refine wp_ldc_w (nx := 104) dX11_laysParts_101 rfl kI_X11_338 (i32 (by decide)) ?_
        refine wp_istore (nx := 106) dX11_laysParts_104 rfl (by decide) ?_
        refine wp_ls (ls2 := [cA 81, cI l1, cI l2, cI l3, cI l4, cI 1000001, cU]) rfl ?_
        refine wp_iconst (nx := 107) dX11_laysParts_106 rfl (i32 (by decide)) ?_
        refine wp_istore (nx := 109) dX11_laysParts_107 rfl (by decide) ?_
        refine wp_ls (ls2 := [cA 81, cI l1, cI l2, cI l3, cI l4, cI 1000001, cI 0]) rfl ?_
        exact h
      · have h := h.2 hc
        refine wp_iconst (nx := 98) dX11_laysParts_97 rfl (i32 (by decide)) ?_
        refine wp_goto (nx := 104) dX11_laysParts_98 rfl ?_
        refine wp_istore (nx := 106) dX11_laysParts_104 rfl (by decide) ?_
        refine wp_ls (ls2 := [cA 81, cI l1, cI l2, cI l3, cI l4, cI 0, cU]) rfl ?_
        refine wp_iconst (nx := 107) dX11_laysParts_106 rfl (i32 (by decide)) ?_
        refine wp_istore (nx := 109) dX11_laysParts_107 rfl (by decide) ?_
        refine wp_ls (ls2 := [cA 81, cI l1, cI l2, cI l3, cI l4, cI 0, cI 0]) rfl ?_
        exact h
theorem b_X11_laysParts_109 {d mc ms : Nat} {l1 l2 l3 l4 l5 l6 : Int} {S : MS} {C : MC} {Q : Int → MS → MC → Prop} (F : Fix S) (h : ((8 ≤ l6 → K_X11_lesser_0 d 0 0 1000001 l5 S C (fun r1 Sq C2 => Sq = S ∧ ((0 : Int) ≤ w32 ((w32 (256 * l3)) + l4) ∧ w32 ((w32 (256 * l3)) + l4) < 1536) ∧ K_X11_laysParts_70 (d + 1) mc ms l1 l2 l3 (w32 (l4 + 1)) S (upC C2 94 (w32 ((w32 (256 * l3)) + l4)) r1) Q)) ∧ (¬ 8 ≤ l6 → ((1000001 ≤ l5 → K_X11_lesser_0 d 0 0 1000001 l5 S C (fun r3 Sq C4 => Sq = S ∧ ((0 : Int) ≤ w32 ((w32 (256 * l3)) + l4) ∧ w32 ((w32 (256 * l3)) + l4) < 1536) ∧ K_X11_laysParts_70 (d + 1) mc ms l1 l2 l3 (w32 (l4 + 1)) S (upC C4 94 (w32 ((w32 (256 * l3)) + l4)) r3) Q)) ∧ (¬ 1000001 ≤ l5 → K_X11_isIn_0 d 0 0 l4 l6 S C (fun r5 Sq C6 => Sq = S ∧ ((r5 = 0 → K_X11_laysParts_109 (d + 1) mc ms l1 l2 l3 l4 (w32 (l5 + 0)) (w32 (l6 + 1)) S C6 Q) ∧ (¬ r5 = 0 → ((0 : Int) ≤ l6 ∧ l6 < 8) ∧ K_X11_laysParts_109 (d + 1) mc ms l1 l2 l3 l4 (w32 (l5 + (C6 95 l6))) (w32 (l6 + 1)) S C6 Q)))))))) : K_X11_laysParts_109 (d + 1) mc ms l1 l2 l3 l4 l5 l6 S C Q := by
  show Wp (d + 1) mc ms M_X11_laysParts 109 [cA 81, cI l1, cI l2, cI l3, cI l4, cI l5, cI l6] [] S C Q
  refine wp_iload (nx := 111) dX11_laysParts_109 rfl rfl ?_
  refine wp_bipush (nx := 113) dX11_laysParts_111 rfl ⟨by decide, i32 (by decide)⟩ ?_
  refine wp_icmp_ge (nx := 116) (tg := 156) dX11_laysParts_113 rfl rfl (fun hc => ?_) (fun hc => ?_)
  · have h := h.1 hc
    refine wp_aload_n (nx := 157) dX11_laysParts_156 rfl rfl ?_
    refine wp_getAe (kk := 30) (nx := 160) clsX11 dX11_laysParts_157 rfl kF_X11_66 (by decide) (fo_81 F) (ft_81 F) rfl (fp_81_30 F) ?_
    refine wp_sipush (nx := 163) dX11_laysParts_160 rfl ⟨by decide, i32 (by decide)⟩ ?_
    refine wp_iload_n (nx := 164) dX11_laysParts_163 rfl rfl ?_
    refine wp_imul (nx := 165) dX11_laysParts_164 rfl ?_
    refine wp_iload (nx := 167) dX11_laysParts_165 rfl rfl ?_
    refine wp_iadd (nx := 168) dX11_laysParts_167 rfl ?_
    refine wp_ldc_w (nx := 171) dX11_laysParts_168 rfl kI_X11_338 (i32 (by decide)) ?_
    refine wp_iload (nx := 173) dX11_laysParts_171 rfl rfl ?_
    refine wp_invS (nx := 176) (N := M_X11_lesser) (as := [cI 1000001, cI l5]) (st := [cI (w32 ((w32 (256 * l3)) + l4)), cA 94]) (mc := 0) (ms := 0) (mc' := mc) (ms' := ms) dX11_laysParts_173 rfl mok_X11_lesser kM_X11_342 ks_X11_lesser rfl rfl (leB rfl) (leB rfl) (z0 _) (z0 _) (Wp.mono h ?_)
    intro r1 Sq C2 h
    obtain ⟨e9, h⟩ := h
    rw [e9]
    show Wp (d + 1) mc ms M_X11_laysParts 176 [cA 81, cI l1, cI l2, cI l3, cI l4, cI l5, cI l6] [cI r1, cI (w32 ((w32 (256 * l3)) + l4)), cA 94] S C2 Q
    obtain ⟨hi, h⟩ := h
    refine wp_iastoreE (nx := 177) dX11_laysParts_176 rfl (fo_94 F) (fl_94 F) hi (ft_94 F) ?_
    refine wp_iinc (nx := 180) dX11_laysParts_177 rfl rfl (by decide) ?_
    refine wp_ls (ls2 := [cA 81, cI l1, cI l2, cI l3, cI (w32 (l4 + 1)), cI l5, cI l6]) rfl ?_
    refine wp_goto (nx := 70) dX11_laysParts_180 rfl ?_
    refine wp_fg [true, true, true, true, true, false, false] (ls2 := [cA 81, cI l1, cI l2, cI l3, cI (w32 (l4 + 1)), cU, cU]) rfl ?_
    exact h
  · have h := h.2 hc
    refine wp_iload (nx := 118) dX11_laysParts_116 rfl rfl ?_
    refine wp_ldc_w (nx := 121) dX11_laysParts_118 rfl kI_X11_338 (i32 (by decide)) ?_
    refine wp_icmp_ge (nx := 124) (tg := 156) dX11_laysParts_121 rfl rfl (fun hc => ?_) (fun hc => ?_)
    · have h := h.1 hc
      refine wp_aload_n (nx := 157) dX11_laysParts_156 rfl rfl ?_
      refine wp_getAe (kk := 30) (nx := 160) clsX11 dX11_laysParts_157 rfl kF_X11_66 (by decide) (fo_81 F) (ft_81 F) rfl (fp_81_30 F) ?_
      refine wp_sipush (nx := 163) dX11_laysParts_160 rfl ⟨by decide, i32 (by decide)⟩ ?_
      refine wp_iload_n (nx := 164) dX11_laysParts_163 rfl rfl ?_
      refine wp_imul (nx := 165) dX11_laysParts_164 rfl ?_
      refine wp_iload (nx := 167) dX11_laysParts_165 rfl rfl ?_
      refine wp_iadd (nx := 168) dX11_laysParts_167 rfl ?_
      refine wp_ldc_w (nx := 171) dX11_laysParts_168 rfl kI_X11_338 (i32 (by decide)) ?_
      refine wp_iload (nx := 173) dX11_laysParts_171 rfl rfl ?_
      refine wp_invS (nx := 176) (N := M_X11_lesser) (as := [cI 1000001, cI l5]) (st := [cI (w32 ((w32 (256 * l3)) + l4)), cA 94]) (mc := 0) (ms := 0) (mc' := mc) (ms' := ms) dX11_laysParts_173 rfl mok_X11_lesser kM_X11_342 ks_X11_lesser rfl rfl (leB rfl) (leB rfl) (z0 _) (z0 _) (Wp.mono h ?_)
      intro r3 Sq C4 h
      obtain ⟨e9, h⟩ := h
      rw [e9]
      show Wp (d + 1) mc ms M_X11_laysParts 176 [cA 81, cI l1, cI l2, cI l3, cI l4, cI l5, cI l6] [cI r3, cI (w32 ((w32 (256 * l3)) + l4)), cA 94] S C4 Q
      obtain ⟨hi, h⟩ := h
      refine wp_iastoreE (nx := 177) dX11_laysParts_176 rfl (fo_94 F) (fl_94 F) hi (ft_94 F) ?_
      refine wp_iinc (nx := 180) dX11_laysParts_177 rfl rfl (by decide) ?_
      refine wp_ls (ls2 := [cA 81, cI l1, cI l2, cI l3, cI (w32 (l4 + 1)), cI l5, cI l6]) rfl ?_
      refine wp_goto (nx := 70) dX11_laysParts_180 rfl ?_
      refine wp_fg [true, true, true, true, true, false, false] (ls2 := [cA 81, cI l1, cI l2, cI l3, cI (w32 (l4 + 1)), cU, cU]) rfl ?_
      exact h
    · have h := h.2 hc
      refine wp_iload (nx := 126) dX11_laysParts_124 rfl rfl ?_
      refine wp_iload (nx := 128) dX11_laysParts_126 rfl rfl ?_
      refine wp_iload (nx := 130) dX11_laysParts_128 rfl rfl ?_
      refine wp_invS (nx := 133) (N := M_X11_isIn) (as := [cI l4, cI l6]) (st := [cI l5]) (mc := 0) (ms := 0) (mc' := mc) (ms' := ms) dX11_laysParts_130 rfl mok_X11_isIn kM_X11_335 ks_X11_isIn rfl rfl (leB rfl) (leB rfl) (z0 _) (z0 _) (Wp.mono h ?_)
      intro r5 Sq C6 h
      obtain ⟨e9, h⟩ := h
      rw [e9]
      show Wp (d + 1) mc ms M_X11_laysParts 133 [cA 81, cI l1, cI l2, cI l3, cI l4, cI l5, cI l6] [cI r5, cI l5] S C6 Q
      refine wp_if_eq (nx := 136) (tg := 146) dX11_laysParts_133 rfl rfl (fun hc => ?_) (fun hc => ?_)
      · have h := h.1 hc
        refine wp_iconst (nx := 147) dX11_laysParts_146 rfl (i32 (by decide)) ?_
        refine wp_iadd (nx := 148) dX11_laysParts_147 rfl ?_
        refine wp_istore (nx := 150) dX11_laysParts_148 rfl (by decide) ?_
        refine wp_ls (ls2 := [cA 81, cI l1, cI l2, cI l3, cI l4, cI (w32 (l5 + 0)), cI l6]) rfl ?_
        refine wp_iinc (nx := 153) dX11_laysParts_150 rfl rfl (by decide) ?_
        refine wp_ls (ls2 := [cA 81, cI l1, cI l2, cI l3, cI l4, cI (w32 (l5 + 0)), cI (w32 (l6 + 1))]) rfl ?_
        refine wp_goto (nx := 109) dX11_laysParts_153 rfl ?_
        exact h
      · have h := h.2 hc
        refine wp_aload_n (nx := 137) dX11_laysParts_136 rfl rfl ?_
        refine wp_getAe (kk := 31) (nx := 140) clsX11 dX11_laysParts_137 rfl kF_X11_69 (by decide) (fo_81 F) (ft_81 F) rfl (fp_81_31 F) ?_
        refine wp_iload (nx := 142) dX11_laysParts_140 rfl rfl ?_
        obtain ⟨hi, h⟩ := h
        refine wp_ialoadE (nx := 143) dX11_laysParts_142 rfl (fo_95 F) (fl_95 F) hi (ft_95 F) rfl ?_
        refine wp_goto (nx := 147) dX11_laysParts_143 rfl ?_
        refine wp_iadd (nx := 148) dX11_laysParts_147 rfl ?_
        refine wp_istore (nx := 150) dX11_laysParts_148 rfl (by decide) ?_
        refine wp_ls (ls2 := [cA 81, cI l1, cI l2, cI l3, cI l4, cI (w32 (l5 + (C6 95 l6))), cI l6]) rfl ?_
        refine wp_iinc (nx := 153) dX11_laysParts_150 rfl rfl (by decide) ?_
        refine wp_ls (ls2 := [cA 81, cI l1, cI l2, cI l3, cI l4, cI (w32 (l5 + (C6 95 l6))), cI (w32 (l6 + 1))]) rfl ?_
        refine wp_goto (nx := 109) dX11_laysParts_153 rfl ?_
        exact h
theorem b_X11_givesNothing_0 {d mc ms : Nat} {S : MS} {C : MC} {Q : Int → MS → MC → Prop} (F : Fix S) (h : K_X11_givesNothing_2 d mc ms 0 S C Q) : K_X11_givesNothing_0 d mc ms S C Q := by
  show Wp d mc ms M_X11_givesNothing 0 [cA 81, cU] [] S C Q
  refine wp_iconst (nx := 1) dX11_givesNothing_0 rfl (i32 (by decide)) ?_
  refine wp_istore_n (nx := 2) dX11_givesNothing_1 rfl (by decide) ?_
  refine wp_ls (ls2 := [cA 81, cI 0]) rfl ?_
  exact h
theorem b_X11_givesNothing_2 {d mc ms : Nat} {l1 : Int} {S : MS} {C : MC} {Q : Int → MS → MC → Prop} (F : Fix S) (h : ((6 ≤ l1 → Q 0 S C) ∧ (¬ 6 ≤ l1 → ((0 : Int) ≤ l1 ∧ l1 < 6) ∧ K_X11_givesNothing_2 d mc ms (w32 (l1 + 1)) S (upC C 97 l1 0) Q))) : K_X11_givesNothing_2 d mc ms l1 S C Q := by
  show Wp d mc ms M_X11_givesNothing 2 [cA 81, cI l1] [] S C Q
  refine wp_iload_n (nx := 3) dX11_givesNothing_2 rfl rfl ?_
  refine wp_bipush (nx := 5) dX11_givesNothing_3 rfl ⟨by decide, i32 (by decide)⟩ ?_
  refine wp_icmp_ge (nx := 8) (tg := 21) dX11_givesNothing_5 rfl rfl (fun hc => ?_) (fun hc => ?_)
  · have h := h.1 hc
    exact wp_return dX11_givesNothing_21 rfl h
  · have h := h.2 hc
    refine wp_aload_n (nx := 9) dX11_givesNothing_8 rfl rfl ?_
    refine wp_getAe (kk := 33) (nx := 12) clsX11 dX11_givesNothing_9 rfl kF_X11_75 (by decide) (fo_81 F) (ft_81 F) rfl (fp_81_33 F) ?_
    refine wp_iload_n (nx := 13) dX11_givesNothing_12 rfl rfl ?_
    refine wp_iconst (nx := 14) dX11_givesNothing_13 rfl (i32 (by decide)) ?_
    obtain ⟨hi, h⟩ := h
    refine wp_iastoreE (nx := 15) dX11_givesNothing_14 rfl (fo_97 F) (fl_97 F) hi (ft_97 F) ?_
    refine wp_iinc (nx := 18) dX11_givesNothing_15 rfl rfl (by decide) ?_
    refine wp_ls (ls2 := [cA 81, cI (w32 (l1 + 1))]) rfl ?_
    refine wp_goto (nx := 2) dX11_givesNothing_18 rfl ?_
    exact h
theorem b_X11_leastOf_0 {d mc ms : Nat} {l1 : Int} {S : MS} {C : MC} {Q : Int → MS → MC → Prop} (F : Fix S) (h : K_X11_leastOf_2 (d + 1) mc ms l1 0 S C Q) : K_X11_leastOf_0 (d + 1) mc ms l1 S C Q := by
  show Wp (d + 1) mc ms M_X11_leastOf 0 [cA 81, cI l1, cU, cU, cU, cU] [] S C Q
  refine wp_iconst (nx := 1) dX11_leastOf_0 rfl (i32 (by decide)) ?_
  refine wp_istore_n (nx := 2) dX11_leastOf_1 rfl (by decide) ?_
  refine wp_ls (ls2 := [cA 81, cI l1, cI 0, cU, cU, cU]) rfl ?_
  exact h
theorem b_X11_leastOf_2 {d mc ms : Nat} {l1 l2 : Int} {S : MS} {C : MC} {Q : Int → MS → MC → Prop} (F : Fix S) (h : ((l1 < l2 → K_X11_many_0 d 0 0 S C (fun r1 Sq C2 => Sq = S ∧ K_X11_leastOf_46 (d + 1) mc ms l1 (w32 (r1 - 1)) S C2 Q)) ∧ (¬ l1 < l2 → K_X11_many_0 d 0 0 S C (fun r3 Sq C4 => Sq = S ∧ ((¬ l2 = 0 → ((0 : Int) ≤ w32 ((w32 (256 * r3)) + l2) ∧ w32 ((w32 (256 * r3)) + l2) < 1792) ∧ K_X11_leastOf_2 (d + 1) mc ms l1 (w32 (l2 + 1)) S (upC C4 96 (w32 ((w32 (256 * r3)) + l2)) 1000001) Q) ∧ (l2 = 0 → ((0 : Int) ≤ w32 ((w32 (256 * r3)) + l2) ∧ w32 ((w32 (256 * r3)) + l2) < 1792) ∧ K_X11_leastOf_2 (d + 1) mc ms l1 (w32 (l2 + 1)) S (upC C4 96 (w32 ((w32 (256 * r3)) + l2)) 0) Q)))))) : K_X11_leastOf_2 (d + 1) mc ms l1 l2 S C Q := by
  show Wp (d + 1) mc ms M_X11_leastOf 2 [cA 81, cI l1, cI l2, cU, cU, cU] [] S C Q
  refine wp_iload_n (nx := 3) dX11_leastOf_2 rfl rfl ?_
  refine wp_iload_n (nx := 4) dX11_leastOf_3 rfl rfl ?_
  refine wp_icmp_gt (nx := 7) (tg := 39) dX11_leastOf_4 rfl rfl (fun hc => ?_) (fun hc => ?_)
  · have h := h.1 hc
    refine wp_aload_n (nx := 40) dX11_leastOf_39 rfl rfl ?_
    refine wp_invV (nx := 43) (N := M_X11_many) (as := []) (st := []) (mc := 0) (ms := 0) (mc' := mc) (ms' := ms) (a := 81) clsX11 dX11_leastOf_40 rfl mok_X11_many kM_X11_118 ki_X11_many ke_X11_many (fo_81 F) (ft_81 F) rfl rfl (leB rfl) (leB rfl) (z0 _) (z0 _) (Wp.mono h ?_)
    intro r1 Sq C2 h
    obtain ⟨e9, h⟩ := h
    rw [e9]
    show Wp (d + 1) mc ms M_X11_leastOf 43 [cA 81, cI l1, cI l2, cU, cU, cU] [cI r1] S C2 Q
    refine wp_iconst (nx := 44) dX11_leastOf_43 rfl (i32 (by decide)) ?_
    refine wp_isub (nx := 45) dX11_leastOf_44 rfl ?_
    refine wp_istore_n (nx := 46) dX11_leastOf_45 rfl (by decide) ?_
    refine wp_ls (ls2 := [cA 81, cI l1, cI (w32 (r1 - 1)), cU, cU, cU]) rfl ?_
    exact h
  · have h := h.2 hc
    refine wp_aload_n (nx := 8) dX11_leastOf_7 rfl rfl ?_
    refine wp_getAe (kk := 32) (nx := 11) clsX11 dX11_leastOf_8 rfl kF_X11_72 (by decide) (fo_81 F) (ft_81 F) rfl (fp_81_32 F) ?_
    refine wp_sipush (nx := 14) dX11_leastOf_11 rfl ⟨by decide, i32 (by decide)⟩ ?_
    refine wp_aload_n (nx := 15) dX11_leastOf_14 rfl rfl ?_
    refine wp_invV (nx := 18) (N := M_X11_many) (as := []) (st := [cI 256, cA 96]) (mc := 0) (ms := 0) (mc' := mc) (ms' := ms) (a := 81) clsX11 dX11_leastOf_15 rfl mok_X11_many kM_X11_118 ki_X11_many ke_X11_many (fo_81 F) (ft_81 F) rfl rfl (leB rfl) (leB rfl) (z0 _) (z0 _) (Wp.mono h ?_)
    intro r3 Sq C4 h
    obtain ⟨e9, h⟩ := h
    rw [e9]
    show Wp (d + 1) mc ms M_X11_leastOf 18 [cA 81, cI l1, cI l2, cU, cU, cU] [cI r3, cI 256, cA 96] S C4 Q
    refine wp_imul (nx := 19) dX11_leastOf_18 rfl ?_
    refine wp_iload_n (nx := 20) dX11_leastOf_19 rfl rfl ?_
    refine wp_iadd (nx := 21) dX11_leastOf_20 rfl ?_
    refine wp_iload_n (nx := 22) dX11_leastOf_21 rfl rfl ?_
    refine wp_if_ne (nx := 25) (tg := 29) dX11_leastOf_22 rfl rfl (fun hc => ?_) (fun hc => ?_)
    · have h := h.1 hc
      refine wp_ldc_w (nx := 32) dX11_leastOf_29 rfl kI_X11_338 (i32 (by decide)) ?_
      obtain ⟨hi, h⟩ := h
      refine wp_iastoreE (nx := 33) dX11_leastOf_32 rfl (fo_96 F) (fl_96 F) hi (ft_96 F) ?_
      refine wp_iinc (nx := 36) dX11_leastOf_33 rfl rfl (by decide) ?_
      refine wp_ls (ls2 := [cA 81, cI l1, cI (w32 (l2 + 1)), cU, cU, cU]) rfl ?_
      refine wp_goto (nx := 2) dX11_leastOf_36 rfl ?_
      exact h
    · have h := h.2 hc
      refine wp_iconst (nx := 26) dX11_leastOf_25 rfl (i32 (by decide)) ?_
      refine wp_goto (nx := 32) dX11_leastOf_26 rfl ?_
      obtain ⟨hi, h⟩ := h
      refine wp_iastoreE (nx := 33) dX11_leastOf_32 rfl (fo_96 F) (fl_96 F) hi (ft_96 F) ?_
      refine wp_iinc (nx := 36) dX11_leastOf_33 rfl rfl (by decide) ?_
      refine wp_ls (ls2 := [cA 81, cI l1, cI (w32 (l2 + 1)), cU, cU, cU]) rfl ?_
      refine wp_goto (nx := 2) dX11_leastOf_36 rfl ?_
      exact h
theorem b_X11_leastOf_46 {d mc ms : Nat} {l1 l2 : Int} {S : MS} {C : MC} {Q : Int → MS → MC → Prop} (F : Fix S) (h : ((l2 < 0 → ((0 : Int) ≤ l1 ∧ l1 < 1792) ∧ Q (C 96 l1) S C) ∧ (¬ l2 < 0 → K_X11_leastOf_52 (d + 1) mc ms l1 l2 0 S C Q))) : K_X11_leastOf_46 (d + 1) mc ms l1 l2 S C Q := by
  show Wp (d + 1) mc ms M_X11_leastOf 46 [cA 81, cI l1, cI l2, cU, cU, cU] [] S C Q
  refine wp_iload_n (nx := 47) dX11_leastOf_46 rfl rfl ?_
  refine wp_if_lt (nx := 50) (tg := 198) dX11_leastOf_47 rfl rfl (fun hc => ?_) (fun hc => ?_)
  · have h := h.1 hc
    refine wp_aload_n (nx := 199) dX11_leastOf_198 rfl rfl ?_
    refine wp_getAe (kk := 32) (nx := 202) clsX11 dX11_leastOf_199 rfl kF_X11_72 (by decide) (fo_81 F) (ft_81 F) rfl (fp_81_32 F) ?_
    refine wp_iload_n (nx := 203) dX11_leastOf_202 rfl rfl ?_
    obtain ⟨hi, h⟩ := h
    refine wp_ialoadE (nx := 204) dX11_leastOf_203 rfl (fo_96 F) (fl_96 F) hi (ft_96 F) rfl ?_
    exact wp_ireturn dX11_leastOf_204 rfl rfl rfl h
  · have h := h.2 hc
    refine wp_iconst (nx := 51) dX11_leastOf_50 rfl (i32 (by decide)) ?_
    refine wp_istore_n (nx := 52) dX11_leastOf_51 rfl (by decide) ?_
    refine wp_ls (ls2 := [cA 81, cI l1, cI l2, cI 0, cU, cU]) rfl ?_
    exact h
theorem b_X11_leastOf_52 {d mc ms : Nat} {l1 l2 l3 : Int} {S : MS} {C : MC} {Q : Int → MS → MC → Prop} (F : Fix S) (h : ((l1 < l3 → K_X11_leastOf_46 (d + 1) mc ms l1 (w32 (l2 + (-1))) S C Q) ∧ (¬ l1 < l3 → ((iAnd l3 (iXor l1 (-1)) = 0 → ((0 : Int) ≤ l2 ∧ l2 < 6) ∧ ((0 : Int) ≤ w32 ((w32 (256 * l2)) + (C 97 l2)) ∧ w32 ((w32 (256 * l2)) + (C 97 l2)) < 1536) ∧ ((0 : Int) ≤ w32 ((w32 (256 * (w32 (l2 + 1)))) + l3) ∧ w32 ((w32 (256 * (w32 (l2 + 1)))) + l3) < 1792) ∧ K_X11_lesser_0 d 0 0 1000001 (w32 ((C 94 (w32 ((w32 (256 * l2)) + (C 97 l2)))) + (C 96 (w32 ((w32 (256 * (w32 (l2 + 1)))) + l3))))) S C (fun r1 Sq C2 => Sq = S ∧ K_X11_leastOf_111 (d + 1) mc ms l1 l2 l3 r1 l3 S C2 Q)) ∧ (¬ iAnd l3 (iXor l1 (-1)) = 0 → K_X11_leastOf_52 (d + 1) mc ms l1 l2 (w32 (l3 + 1)) S C Q))))) : K_X11_leastOf_52 (d + 1) mc ms l1 l2 l3 S C Q := by
  show Wp (d + 1) mc ms M_X11_leastOf 52 [cA 81, cI l1, cI l2, cI l3, cU, cU] [] S C Q
  refine wp_iload_n (nx := 53) dX11_leastOf_52 rfl rfl ?_
  refine wp_iload_n (nx := 54) dX11_leastOf_53 rfl rfl ?_
  refine wp_icmp_gt (nx := 57) (tg := 192) dX11_leastOf_54 rfl rfl (fun hc => ?_) (fun hc => ?_)
  · have h := h.1 hc
    refine wp_iinc (nx := 195) dX11_leastOf_192 rfl rfl (by decide) ?_
    refine wp_ls (ls2 := [cA 81, cI l1, cI (w32 (l2 + (-1))), cI l3, cU, cU]) rfl ?_
    refine wp_goto (nx := 46) dX11_leastOf_195 rfl ?_
    refine wp_fg [true, true, true, false, false, false] (ls2 := [cA 81, cI l1, cI (w32 (l2 + (-1))), cU, cU, cU]) rfl ?_
    exact h
  · have h := h.2 hc
    refine wp_iload_n (nx := 58) dX11_leastOf_57 rfl rfl ?_
    refine wp_iload_n (nx := 59) dX11_leastOf_58 rfl rfl ?_
    refine wp_iconst (nx := 60) dX11_leastOf_59 rfl (i32 (by decide)) ?_
    refine wp_ixor (nx := 61) dX11_leastOf_60 rfl ?_
    refine wp_iand (nx := 62) dX11_leastOf_61 rfl ?_
    refine wp_if_eq (nx := 65) (tg := 68) dX11_leastOf_62 rfl rfl (fun hc => ?_) (fun hc => ?_)
    · have h := h.1 hc
      refine wp_ldc_w (nx := 71) dX11_leastOf_68 rfl kI_X11_338 (i32 (by decide)) ?_
      refine wp_aload_n (nx := 72) dX11_leastOf_71 rfl rfl ?_
      refine wp_getAe (kk := 30) (nx := 75) clsX11 dX11_leastOf_72 rfl kF_X11_66 (by decide) (fo_81 F) (ft_81 F) rfl (fp_81_30 F) ?_
      refine wp_sipush (nx := 78) dX11_leastOf_75 rfl ⟨by decide, i32 (by decide)⟩ ?_
      refine wp_iload_n (nx := 79) dX11_leastOf_78 rfl rfl ?_
      refine wp_imul (nx := 80) dX11_leastOf_79 rfl ?_
      refine wp_aload_n (nx := 81) dX11_leastOf_80 rfl rfl ?_
      refine wp_getAe (kk := 33) (nx := 84) clsX11 dX11_leastOf_81 rfl kF_X11_75 (by decide) (fo_81 F) (ft_81 F) rfl (fp_81_33 F) ?_
      refine wp_iload_n (nx := 85) dX11_leastOf_84 rfl rfl ?_
      obtain ⟨hi, h⟩ := h
      refine wp_ialoadE (nx := 86) dX11_leastOf_85 rfl (fo_97 F) (fl_97 F) hi (ft_97 F) rfl ?_
      refine wp_iadd (nx := 87) dX11_leastOf_86 rfl ?_
      obtain ⟨hi, h⟩ := h
      refine wp_ialoadE (nx := 88) dX11_leastOf_87 rfl (fo_94 F) (fl_94 F) hi (ft_94 F) rfl ?_
      refine wp_aload_n (nx := 89) dX11_leastOf_88 rfl rfl ?_
      refine wp_getAe (kk := 32) (nx := 92) clsX11 dX11_leastOf_89 rfl kF_X11_72 (by decide) (fo_81 F) (ft_81 F) rfl (fp_81_32 F) ?_
      refine wp_sipush (nx := 95) dX11_leastOf_92 rfl ⟨by decide, i32 (by decide)⟩ ?_
      refine wp_iload_n (nx := 96) dX11_leastOf_95 rfl rfl ?_
      refine wp_iconst (nx := 97) dX11_leastOf_96 rfl (i32 (by decide)) ?_
      refine wp_iadd (nx := 98) dX11_leastOf_97 rfl ?_
      refine wp_imul (nx := 99) dX11_leastOf_98 rfl ?_
      refine wp_iload_n (nx := 100) dX11_leastOf_99 rfl rfl ?_
      refine wp_iadd (nx := 101) dX11_leastOf_100 rfl ?_
      obtain ⟨hi, h⟩ := h
      refine wp_ialoadE (nx := 102) dX11_leastOf_101 rfl (fo_96 F) (fl_96 F) hi (ft_96 F) rfl ?_
      refine wp_iadd (nx := 103) dX11_leastOf_102 rfl ?_
      refine wp_invS (nx := 106) (N := M_X11_lesser) (as := [cI 1000001, cI (w32 ((C 94 (w32 ((w32 (256 * l2)) + (C 97 l2)))) + (C 96 (w32 ((w32 (256 * (w32 (l2 + 1)))) + l3)))))]) (st := []) (mc := 0) (ms := 0) (mc' := mc) (ms' := ms) dX11_leastOf_103 rfl mok_X11_lesser kM_X11_342 ks_X11_lesser rfl rfl (leB rfl) (leB rfl) (z0 _) (z0 _) (Wp.mono h ?_)
      intro r1 Sq C2 h
      obtain ⟨e9, h⟩ := h
      rw [e9]
      show Wp (d + 1) mc ms M_X11_leastOf 106 [cA 81, cI l1, cI l2, cI l3, cU, cU] [cI r1] S C2 Q
      refine wp_istore (nx := 108) dX11_leastOf_106 rfl (by decide) ?_
      refine wp_ls (ls2 := [cA 81, cI l1, cI l2, cI l3, cI r1, cU]) rfl ?_
      refine wp_iload_n (nx := 109) dX11_leastOf_108 rfl rfl ?_
      refine wp_istore (nx := 111) dX11_leastOf_109 rfl (by decide) ?_
      refine wp_ls (ls2 := [cA 81, cI l1, cI l2, cI l3, cI r1, cI l3]) rfl ?_
      exact h
    · have h := h.2 hc
      refine wp_goto (nx := 186) dX11_leastOf_65 rfl ?_
      refine wp_iinc (nx := 189) dX11_leastOf_186 rfl rfl (by decide) ?_
      refine wp_ls (ls2 := [cA 81, cI l1, cI l2, cI (w32 (l3 + 1)), cU, cU]) rfl ?_
      refine wp_goto (nx := 52) dX11_leastOf_189 rfl ?_
      exact h
theorem b_X11_leastOf_111 {d mc ms : Nat} {l1 l2 l3 l4 l5 : Int} {S : MS} {C : MC} {Q : Int → MS → MC → Prop} (F : Fix S) (h : ((l5 ≤ 0 → ((0 : Int) ≤ w32 ((w32 (256 * l2)) + l3) ∧ w32 ((w32 (256 * l2)) + l3) < 1792) ∧ K_X11_leastOf_52 (d + 1) mc ms l1 l2 (w32 (l3 + 1)) S (upC C 96 (w32 ((w32 (256 * l2)) + l3)) l4) Q) ∧ (¬ l5 ≤ 0 → ((0 : Int) ≤ l2 ∧ l2 < 6) ∧ ((0 : Int) ≤ w32 ((w32 (256 * l2)) + (iOr (C 97 l2) l5)) ∧ w32 ((w32 (256 * l2)) + (iOr (C 97 l2) l5)) < 1536) ∧ ((0 : Int) ≤ w32 ((w32 (256 * (w32 (l2 + 1)))) + (iXor l3 l5)) ∧ w32 ((w32 (256 * (w32 (l2 + 1)))) + (iXor l3 l5)) < 1792) ∧ K_X11_lesser_0 d 0 0 l4 (w32 ((C 94 (w32 ((w32 (256 * l2)) + (iOr (C 97 l2) l5)))) + (C 96 (w32 ((w32 (256 * (w32 (l2 + 1)))) + (iXor l3 l5)))))) S C (fun r1 Sq C2 => Sq = S ∧ K_X11_leastOf_111 (d + 1) mc ms l1 l2 l3 r1 (iAnd (w32 (l5 - 1)) l3) S C2 Q)))) : K_X11_leastOf_111 (d + 1) mc ms l1 l2 l3 l4 l5 S C Q := by
  show Wp (d + 1) mc ms M_X11_leastOf 111 [cA 81, cI l1, cI l2, cI l3, cI l4, cI l5] [] S C Q
  refine wp_iload (nx := 113) dX11_leastOf_111 rfl rfl ?_
  refine wp_if_le (nx := 116) (tg := 172) dX11_leastOf_113 rfl rfl (fun hc => ?_) (fun hc => ?_)
  · have h := h.1 hc
    refine wp_aload_n (nx := 173) dX11_leastOf_172 rfl rfl ?_
    refine wp_getAe (kk := 32) (nx := 176) clsX11 dX11_leastOf_173 rfl kF_X11_72 (by decide) (fo_81 F) (ft_81 F) rfl (fp_81_32 F) ?_
    refine wp_sipush (nx := 179) dX11_leastOf_176 rfl ⟨by decide, i32 (by decide)⟩ ?_
    refine wp_iload_n (nx := 180) dX11_leastOf_179 rfl rfl ?_
    refine wp_imul (nx := 181) dX11_leastOf_180 rfl ?_
    refine wp_iload_n (nx := 182) dX11_leastOf_181 rfl rfl ?_
    refine wp_iadd (nx := 183) dX11_leastOf_182 rfl ?_
    refine wp_iload (nx := 185) dX11_leastOf_183 rfl rfl ?_
    obtain ⟨hi, h⟩ := h
    refine wp_iastoreE (nx := 186) dX11_leastOf_185 rfl (fo_96 F) (fl_96 F) hi (ft_96 F) ?_
    refine wp_iinc (nx := 189) dX11_leastOf_186 rfl rfl (by decide) ?_
    refine wp_ls (ls2 := [cA 81, cI l1, cI l2, cI (w32 (l3 + 1)), cI l4, cI l5]) rfl ?_
    refine wp_goto (nx := 52) dX11_leastOf_189 rfl ?_
    refine wp_fg [true, true, true, true, false, false] (ls2 := [cA 81, cI l1, cI l2, cI (w32 (l3 + 1)), cU, cU]) rfl ?_
    exact h
  · have h := h.2 hc
    refine wp_iload (nx := 118) dX11_leastOf_116 rfl rfl ?_
    refine wp_aload_n (nx := 119) dX11_leastOf_118 rfl rfl ?_
    refine wp_getAe (kk := 30) (nx := 122) clsX11 dX11_leastOf_119 rfl kF_X11_66 (by decide) (fo_81 F) (ft_81 F) rfl (fp_81_30 F) ?_
    refine wp_sipush (nx := 125) dX11_leastOf_122 rfl ⟨by decide, i32 (by decide)⟩ ?_
    refine wp_iload_n (nx := 126) dX11_leastOf_125 rfl rfl ?_
    refine wp_imul (nx := 127) dX11_leastOf_126 rfl ?_
    refine wp_aload_n (nx := 128) dX11_leastOf_127 rfl rfl ?_
    refine wp_getAe (kk := 33) (nx := 131) clsX11 dX11_leastOf_128 rfl kF_X11_75 (by decide) (fo_81 F) (ft_81 F) rfl (fp_81_33 F) ?_
    refine wp_iload_n (nx := 132) dX11_leastOf_131 rfl rfl ?_
    obtain ⟨hi, h⟩ := h
    refine wp_ialoadE (nx := 133) dX11_leastOf_132 rfl (fo_97 F) (fl_97 F) hi (ft_97 F) rfl ?_
    refine wp_iload (nx := 135) dX11_leastOf_133 rfl rfl ?_
    refine wp_ior (nx := 136) dX11_leastOf_135 rfl ?_
    refine wp_iadd (nx := 137) dX11_leastOf_136 rfl ?_
    obtain ⟨hi, h⟩ := h
    refine wp_ialoadE (nx := 138) dX11_leastOf_137 rfl (fo_94 F) (fl_94 F) hi (ft_94 F) rfl ?_
    refine wp_aload_n (nx := 139) dX11_leastOf_138 rfl rfl ?_
    refine wp_getAe (kk := 32) (nx := 142) clsX11 dX11_leastOf_139 rfl kF_X11_72 (by decide) (fo_81 F) (ft_81 F) rfl (fp_81_32 F) ?_
    refine wp_sipush (nx := 145) dX11_leastOf_142 rfl ⟨by decide, i32 (by decide)⟩ ?_
    refine wp_iload_n (nx := 146) dX11_leastOf_145 rfl rfl ?_
    refine wp_iconst (nx := 147) dX11_leastOf_146 rfl (i32 (by decide)) ?_
    refine wp_iadd (nx := 148) dX11_leastOf_147 rfl ?_
    refine wp_imul (nx := 149) dX11_leastOf_148 rfl ?_
    refine wp_iload_n (nx := 150) dX11_leastOf_149 rfl rfl ?_
    refine wp_iload (nx := 152) dX11_leastOf_150 rfl rfl ?_
    refine wp_ixor (nx := 153) dX11_leastOf_152 rfl ?_
    refine wp_iadd (nx := 154) dX11_leastOf_153 rfl ?_
    obtain ⟨hi, h⟩ := h
    refine wp_ialoadE (nx := 155) dX11_leastOf_154 rfl (fo_96 F) (fl_96 F) hi (ft_96 F) rfl ?_
    refine wp_iadd (nx := 156) dX11_leastOf_155 rfl ?_
    refine wp_invS (nx := 159) (N := M_X11_lesser) (as := [cI l4, cI (w32 ((C 94 (w32 ((w32 (256 * l2)) + (iOr (C 97 l2) l5)))) + (C 96 (w32 ((w32 (256 * (w32 (l2 + 1)))) + (iXor l3 l5))))))]) (st := []) (mc := 0) (ms := 0) (mc' := mc) (ms' := ms) dX11_leastOf_156 rfl mok_X11_lesser kM_X11_342 ks_X11_lesser rfl rfl (leB rfl) (leB rfl) (z0 _) (z0 _) (Wp.mono h ?_)
    intro r1 Sq C2 h
    obtain ⟨e9, h⟩ := h
    rw [e9]
    show Wp (d + 1) mc ms M_X11_leastOf 159 [cA 81, cI l1, cI l2, cI l3, cI l4, cI l5] [cI r1] S C2 Q
    refine wp_istore (nx := 161) dX11_leastOf_159 rfl (by decide) ?_
    refine wp_ls (ls2 := [cA 81, cI l1, cI l2, cI l3, cI r1, cI l5]) rfl ?_
    refine wp_iload (nx := 163) dX11_leastOf_161 rfl rfl ?_
    refine wp_iconst (nx := 164) dX11_leastOf_163 rfl (i32 (by decide)) ?_
    refine wp_isub (nx := 165) dX11_leastOf_164 rfl ?_
    refine wp_iload_n (nx := 166) dX11_leastOf_165 rfl rfl ?_
    refine wp_iand (nx := 167) dX11_leastOf_166 rfl ?_
    refine wp_istore (nx := 169) dX11_leastOf_167 rfl (by decide) ?_
    refine wp_ls (ls2 := [cA 81, cI l1, cI l2, cI l3, cI r1, cI (iAnd (w32 (l5 - 1)) l3)]) rfl ?_
    refine wp_goto (nx := 111) dX11_leastOf_169 rfl ?_
    exact h
theorem b_X11_mindedOf_0 {d mc ms : Nat} {l1 l2 : Int} {S : MS} {C : MC} {Q : Int → MS → MC → Prop} (F : Fix S) (h : K_X11_laysParts_0 d 0 0 l1 l2 S C (fun r1 Sq C2 => Sq = S ∧ K_X11_givesNothing_0 d 0 0 S C2 (fun r3 Sq C4 => Sq = S ∧ K_X11_leastOf_0 d 0 0 l2 S C4 (fun r5 Sq C6 => Sq = S ∧ Q r5 S C6)))) : K_X11_mindedOf_0 (d + 1) mc ms l1 l2 S C Q := by
  show Wp (d + 1) mc ms M_X11_mindedOf 0 [cA 81, cI l1, cI l2] [] S C Q
  refine wp_aload_n (nx := 1) dX11_mindedOf_0 rfl rfl ?_
  refine wp_iload_n (nx := 2) dX11_mindedOf_1 rfl rfl ?_
  refine wp_iload_n (nx := 3) dX11_mindedOf_2 rfl rfl ?_
  refine wp_invV (nx := 6) (N := M_X11_laysParts) (as := [cI l1, cI l2]) (st := []) (mc := 0) (ms := 0) (mc' := mc) (ms' := ms) (a := 81) clsX11 dX11_mindedOf_3 rfl mok_X11_laysParts kM_X11_345 ki_X11_laysParts ke_X11_laysParts (fo_81 F) (ft_81 F) rfl rfl (leB rfl) (leB rfl) (z0 _) (z0 _) (Wp.mono h ?_)
  intro r1 Sq C2 h
  obtain ⟨e9, h⟩ := h
  rw [e9]
  show Wp (d + 1) mc ms M_X11_mindedOf 6 [cA 81, cI l1, cI l2] [] S C2 Q
  refine wp_aload_n (nx := 7) dX11_mindedOf_6 rfl rfl ?_
  refine wp_invV (nx := 10) (N := M_X11_givesNothing) (as := []) (st := []) (mc := 0) (ms := 0) (mc' := mc) (ms' := ms) (a := 81) clsX11 dX11_mindedOf_7 rfl mok_X11_givesNothing kM_X11_348 ki_X11_givesNothing ke_X11_givesNothing (fo_81 F) (ft_81 F) rfl rfl (leB rfl) (leB rfl) (z0 _) (z0 _) (Wp.mono h ?_)
  intro r3 Sq C4 h
  obtain ⟨e9, h⟩ := h
  rw [e9]
  show Wp (d + 1) mc ms M_X11_mindedOf 10 [cA 81, cI l1, cI l2] [] S C4 Q
  refine wp_aload_n (nx := 11) dX11_mindedOf_10 rfl rfl ?_
  refine wp_iload_n (nx := 12) dX11_mindedOf_11 rfl rfl ?_
  refine wp_invV (nx := 15) (N := M_X11_leastOf) (as := [cI l2]) (st := []) (mc := 0) (ms := 0) (mc' := mc) (ms' := ms) (a := 81) clsX11 dX11_mindedOf_12 rfl mok_X11_leastOf kM_X11_351 ki_X11_leastOf ke_X11_leastOf (fo_81 F) (ft_81 F) rfl rfl (leB rfl) (leB rfl) (z0 _) (z0 _) (Wp.mono h ?_)
  intro r5 Sq C6 h
  obtain ⟨e9, h⟩ := h
  rw [e9]
  show Wp (d + 1) mc ms M_X11_mindedOf 15 [cA 81, cI l1, cI l2] [cI r5] S C6 Q
  exact wp_ireturn dX11_mindedOf_15 rfl rfl rfl h
theorem b_X11_leastAt_0 {d mc ms : Nat} {l1 : Int} {S : MS} {C : MC} {Q : Int → MS → MC → Prop} (F : Fix S) (h : K_X11_musicAt_0 d 0 0 l1 S C (fun r1 Sq C2 => Sq = S ∧ K_X11_mindedOf_0 d 0 0 l1 r1 S C2 (fun r3 Sq C4 => Sq = S ∧ Q r3 S C4))) : K_X11_leastAt_0 (d + 1) mc ms l1 S C Q := by
  show Wp (d + 1) mc ms M_X11_leastAt 0 [cA 81, cI l1] [] S C Q
  refine wp_aload_n (nx := 1) dX11_leastAt_0 rfl rfl ?_
  refine wp_iload_n (nx := 2) dX11_leastAt_1 rfl rfl ?_
  refine wp_aload_n (nx := 3) dX11_leastAt_2 rfl rfl ?_
  refine wp_iload_n (nx := 4) dX11_leastAt_3 rfl rfl ?_
  refine wp_invV (nx := 7) (N := M_X11_musicAt) (as := [cI l1]) (st := [cI l1, cA 81]) (mc := 0) (ms := 0) (mc' := mc) (ms' := ms) (a := 81) clsX11 dX11_leastAt_4 rfl mok_X11_musicAt kM_X11_122 ki_X11_musicAt ke_X11_musicAt (fo_81 F) (ft_81 F) rfl rfl (leB rfl) (leB rfl) (z0 _) (z0 _) (Wp.mono h ?_)
  intro r1 Sq C2 h
  obtain ⟨e9, h⟩ := h
  rw [e9]
  show Wp (d + 1) mc ms M_X11_leastAt 7 [cA 81, cI l1] [cI r1, cI l1, cA 81] S C2 Q
  refine wp_invV (nx := 10) (N := M_X11_mindedOf) (as := [cI l1, cI r1]) (st := []) (mc := 0) (ms := 0) (mc' := mc) (ms' := ms) (a := 81) clsX11 dX11_leastAt_7 rfl mok_X11_mindedOf kM_X11_354 ki_X11_mindedOf ke_X11_mindedOf (fo_81 F) (ft_81 F) rfl rfl (leB rfl) (leB rfl) (z0 _) (z0 _) (Wp.mono h ?_)
  intro r3 Sq C4 h
  obtain ⟨e9, h⟩ := h
  rw [e9]
  show Wp (d + 1) mc ms M_X11_leastAt 10 [cA 81, cI l1] [cI r3] S C4 Q
  exact wp_ireturn dX11_leastAt_10 rfl rfl rfl h
theorem b_X11_drill_0 {d mc ms : Nat} {S : MS} {C : MC} {Q : Int → MS → MC → Prop} (F : Fix S) (h : K_X11_drill_2 (d + 1) mc ms 0 S C Q) : K_X11_drill_0 (d + 1) mc ms S C Q := by
  show Wp (d + 1) mc ms M_X11_drill 0 [cA 81, cU] [] S C Q
  refine wp_iconst (nx := 1) dX11_drill_0 rfl (i32 (by decide)) ?_
  refine wp_istore_n (nx := 2) dX11_drill_1 rfl (by decide) ?_
  refine wp_ls (ls2 := [cA 81, cI 0]) rfl ?_
  exact h
theorem b_X11_drill_2 {d mc ms : Nat} {l1 : Int} {S : MS} {C : MC} {Q : Int → MS → MC → Prop} (F : Fix S) (h : ((16 ≤ l1 → Q l1 S C) ∧ (¬ 16 ≤ l1 → K_X11_leastAt_0 d 0 0 l1 S C (fun r1 Sq C2 => Sq = S ∧ ((1000001 ≤ r1 → Q l1 S C2) ∧ (¬ 1000001 ≤ r1 → K_X11_drill_2 (d + 1) mc ms (w32 (l1 + 1)) S C2 Q)))))) : K_X11_drill_2 (d + 1) mc ms l1 S C Q := by
  show Wp (d + 1) mc ms M_X11_drill 2 [cA 81, cI l1] [] S C Q
  refine wp_iload_n (nx := 3) dX11_drill_2 rfl rfl ?_
  refine wp_bipush (nx := 5) dX11_drill_3 rfl ⟨by decide, i32 (by decide)⟩ ?_
  refine wp_icmp_ge (nx := 8) (tg := 25) dX11_drill_5 rfl rfl (fun hc => ?_) (fun hc => ?_)
  · have h := h.1 hc
    refine wp_iload_n (nx := 26) dX11_drill_25 rfl rfl ?_
    exact wp_ireturn dX11_drill_26 rfl rfl rfl h
  · have h := h.2 hc
    refine wp_aload_n (nx := 9) dX11_drill_8 rfl rfl ?_
    refine wp_iload_n (nx := 10) dX11_drill_9 rfl rfl ?_
    refine wp_invV (nx := 13) (N := M_X11_leastAt) (as := [cI l1]) (st := []) (mc := 0) (ms := 0) (mc' := mc) (ms' := ms) (a := 81) clsX11 dX11_drill_10 rfl mok_X11_leastAt kM_X11_357 ki_X11_leastAt ke_X11_leastAt (fo_81 F) (ft_81 F) rfl rfl (leB rfl) (leB rfl) (z0 _) (z0 _) (Wp.mono h ?_)
    intro r1 Sq C2 h
    obtain ⟨e9, h⟩ := h
    rw [e9]
    show Wp (d + 1) mc ms M_X11_drill 13 [cA 81, cI l1] [cI r1] S C2 Q
    refine wp_ldc_w (nx := 16) dX11_drill_13 rfl kI_X11_338 (i32 (by decide)) ?_
    refine wp_icmp_ge (nx := 19) (tg := 25) dX11_drill_16 rfl rfl (fun hc => ?_) (fun hc => ?_)
    · have h := h.1 hc
      refine wp_iload_n (nx := 26) dX11_drill_25 rfl rfl ?_
      exact wp_ireturn dX11_drill_26 rfl rfl rfl h
    · have h := h.2 hc
      refine wp_iinc (nx := 22) dX11_drill_19 rfl rfl (by decide) ?_
      refine wp_ls (ls2 := [cA 81, cI (w32 (l1 + 1))]) rfl ?_
      refine wp_goto (nx := 2) dX11_drill_22 rfl ?_
      exact h
theorem b_X11_leastOfAll_0 {d mc ms : Nat} {l1 : Int} {S : MS} {C : MC} {Q : Int → MS → MC → Prop} (F : Fix S) (h : K_X11_leastOfAll_4 (d + 1) mc ms l1 0 0 S C Q) : K_X11_leastOfAll_0 (d + 1) mc ms l1 S C Q := by
  show Wp (d + 1) mc ms M_X11_leastOfAll 0 [cA 81, cI l1, cU, cU, cU] [] S C Q
  refine wp_iconst (nx := 1) dX11_leastOfAll_0 rfl (i32 (by decide)) ?_
  refine wp_istore_n (nx := 2) dX11_leastOfAll_1 rfl (by decide) ?_
  refine wp_ls (ls2 := [cA 81, cI l1, cI 0, cU, cU]) rfl ?_
  refine wp_iconst (nx := 3) dX11_leastOfAll_2 rfl (i32 (by decide)) ?_
  refine wp_istore_n (nx := 4) dX11_leastOfAll_3 rfl (by decide) ?_
  refine wp_ls (ls2 := [cA 81, cI l1, cI 0, cI 0, cU]) rfl ?_
  exact h
theorem b_X11_leastOfAll_4 {d mc ms : Nat} {l1 l2 l3 : Int} {S : MS} {C : MC} {Q : Int → MS → MC → Prop} (F : Fix S) (h : ((16 ≤ l3 → Q l2 S C) ∧ (¬ 16 ≤ l3 → ((1000001 ≤ l2 → Q l2 S C) ∧ (¬ 1000001 ≤ l2 → K_X11_musicAt_0 d 0 0 l3 S C (fun r1 Sq C2 => Sq = S ∧ K_X11_shifted_0 d 0 0 r1 l1 S C2 (fun r3 Sq C4 => Sq = S ∧ ((¬ r3 = (-1) → K_X11_mindedOf_0 d 0 0 l3 r3 S C4 (fun r5 Sq C6 => Sq = S ∧ K_X11_lesser_0 d 0 0 1000001 (w32 (l2 + r5)) S C6 (fun r7 Sq C8 => Sq = S ∧ K_X11_leastOfAll_4 (d + 1) mc ms l1 r7 (w32 (l3 + 1)) S C8 Q))) ∧ (r3 = (-1) → K_X11_leastOfAll_4 (d + 1) mc ms l1 1000001 (w32 (l3 + 1)) S C4 Q))))))))) : K_X11_leastOfAll_4 (d + 1) mc ms l1 l2 l3 S C Q := by
  show Wp (d + 1) mc ms M_X11_leastOfAll 4 [cA 81, cI l1, cI l2, cI l3, cU] [] S C Q
  refine wp_iload_n (nx := 5) dX11_leastOfAll_4 rfl rfl ?_
  refine wp_bipush (nx := 7) dX11_leastOfAll_5 rfl ⟨by decide, i32 (by decide)⟩ ?_
  refine wp_icmp_ge (nx := 10) (tg := 62) dX11_leastOfAll_7 rfl rfl (fun hc => ?_) (fun hc => ?_)
  · have h := h.1 hc
    refine wp_iload_n (nx := 63) dX11_leastOfAll_62 rfl rfl ?_
    exact wp_ireturn dX11_leastOfAll_63 rfl rfl rfl h
  · have h := h.2 hc
    refine wp_iload_n (nx := 11) dX11_leastOfAll_10 rfl rfl ?_
    refine wp_ldc_w (nx := 14) dX11_leastOfAll_11 rfl kI_X11_338 (i32 (by decide)) ?_
    refine wp_icmp_ge (nx := 17) (tg := 62) dX11_leastOfAll_14 rfl rfl (fun hc => ?_) (fun hc => ?_)
    · have h := h.1 hc
      refine wp_iload_n (nx := 63) dX11_leastOfAll_62 rfl rfl ?_
      exact wp_ireturn dX11_leastOfAll_63 rfl rfl rfl h
    · have h := h.2 hc
      refine wp_aload_n (nx := 18) dX11_leastOfAll_17 rfl rfl ?_
      refine wp_iload_n (nx := 19) dX11_leastOfAll_18 rfl rfl ?_
      refine wp_invV (nx := 22) (N := M_X11_musicAt) (as := [cI l3]) (st := []) (mc := 0) (ms := 0) (mc' := mc) (ms' := ms) (a := 81) clsX11 dX11_leastOfAll_19 rfl mok_X11_musicAt kM_X11_122 ki_X11_musicAt ke_X11_musicAt (fo_81 F) (ft_81 F) rfl rfl (leB rfl) (leB rfl) (z0 _) (z0 _) (Wp.mono h ?_)
      intro r1 Sq C2 h
      obtain ⟨e9, h⟩ := h
      rw [e9]
      show Wp (d + 1) mc ms M_X11_leastOfAll 22 [cA 81, cI l1, cI l2, cI l3, cU] [cI r1] S C2 Q
      refine wp_iload_n (nx := 23) dX11_leastOfAll_22 rfl rfl ?_
      refine wp_invS (nx := 26) (N := M_X11_shifted) (as := [cI r1, cI l1]) (st := []) (mc := 0) (ms := 0) (mc' := mc) (ms' := ms) dX11_leastOfAll_23 rfl mok_X11_shifted kM_X11_360 ks_X11_shifted rfl rfl (leB rfl) (leB rfl) (z0 _) (z0 _) (Wp.mono h ?_)
      intro r3 Sq C4 h
      obtain ⟨e9, h⟩ := h
      rw [e9]
      show Wp (d + 1) mc ms M_X11_leastOfAll 26 [cA 81, cI l1, cI l2, cI l3, cU] [cI r3] S C4 Q
      refine wp_istore (nx := 28) dX11_leastOfAll_26 rfl (by decide) ?_
      refine wp_ls (ls2 := [cA 81, cI l1, cI l2, cI l3, cI r3]) rfl ?_
      refine wp_iload (nx := 30) dX11_leastOfAll_28 rfl rfl ?_
      refine wp_iconst (nx := 31) dX11_leastOfAll_30 rfl (i32 (by decide)) ?_
      refine wp_icmp_ne (nx := 34) (tg := 40) dX11_leastOfAll_31 rfl rfl (fun hc => ?_) (fun hc => ?_)
      · have h := h.1 hc
        refine wp_ldc_w (nx := 43) dX11_leastOfAll_40 rfl kI_X11_338 (i32 (by decide)) ?_
        refine wp_iload_n (nx := 44) dX11_leastOfAll_43 rfl rfl ?_
        refine wp_aload_n (nx := 45) dX11_leastOfAll_44 rfl rfl ?_
        refine wp_iload_n (nx := 46) dX11_leastOfAll_45 rfl rfl ?_
        refine wp_iload (nx := 48) dX11_leastOfAll_46 rfl rfl ?_
        refine wp_invV (nx := 51) (N := M_X11_mindedOf) (as := [cI l3, cI r3]) (st := [cI l2, cI 1000001]) (mc := 0) (ms := 0) (mc' := mc) (ms' := ms) (a := 81) clsX11 dX11_leastOfAll_48 rfl mok_X11_mindedOf kM_X11_354 ki_X11_mindedOf ke_X11_mindedOf (fo_81 F) (ft_81 F) rfl rfl (leB rfl) (leB rfl) (z0 _) (z0 _) (Wp.mono h ?_)
        intro r5 Sq C6 h
        obtain ⟨e9, h⟩ := h
        rw [e9]
        show Wp (d + 1) mc ms M_X11_leastOfAll 51 [cA 81, cI l1, cI l2, cI l3, cI r3] [cI r5, cI l2, cI 1000001] S C6 Q
        refine wp_iadd (nx := 52) dX11_leastOfAll_51 rfl ?_
        refine wp_invS (nx := 55) (N := M_X11_lesser) (as := [cI 1000001, cI (w32 (l2 + r5))]) (st := []) (mc := 0) (ms := 0) (mc' := mc) (ms' := ms) dX11_leastOfAll_52 rfl mok_X11_lesser kM_X11_342 ks_X11_lesser rfl rfl (leB rfl) (leB rfl) (z0 _) (z0 _) (Wp.mono h ?_)
        intro r7 Sq C8 h
        obtain ⟨e9, h⟩ := h
        rw [e9]
        show Wp (d + 1) mc ms M_X11_leastOfAll 55 [cA 81, cI l1, cI l2, cI l3, cI r3] [cI r7] S C8 Q
        refine wp_istore_n (nx := 56) dX11_leastOfAll_55 rfl (by decide) ?_
        refine wp_ls (ls2 := [cA 81, cI l1, cI r7, cI l3, cI r3]) rfl ?_
        refine wp_iinc (nx := 59) dX11_leastOfAll_56 rfl rfl (by decide) ?_
        refine wp_ls (ls2 := [cA 81, cI l1, cI r7, cI (w32 (l3 + 1)), cI r3]) rfl ?_
        refine wp_goto (nx := 4) dX11_leastOfAll_59 rfl ?_
        refine wp_fg [true, true, true, true, false] (ls2 := [cA 81, cI l1, cI r7, cI (w32 (l3 + 1)), cU]) rfl ?_
        exact h
      · have h := h.2 hc
        refine wp_ldc_w (nx := 37) dX11_leastOfAll_34 rfl kI_X11_338 (i32 (by decide)) ?_
        refine wp_goto (nx := 55) dX11_leastOfAll_37 rfl ?_
        refine wp_istore_n (nx := 56) dX11_leastOfAll_55 rfl (by decide) ?_
        refine wp_ls (ls2 := [cA 81, cI l1, cI 1000001, cI l3, cI r3]) rfl ?_
        refine wp_iinc (nx := 59) dX11_leastOfAll_56 rfl rfl (by decide) ?_
        refine wp_ls (ls2 := [cA 81, cI l1, cI 1000001, cI (w32 (l3 + 1)), cI r3]) rfl ?_
        refine wp_goto (nx := 4) dX11_leastOfAll_59 rfl ?_
        refine wp_fg [true, true, true, true, false] (ls2 := [cA 81, cI l1, cI 1000001, cI (w32 (l3 + 1)), cU]) rfl ?_
        exact h
theorem b_X11_least_0 {d mc ms : Nat} {l1 : Int} {S : MS} {C : MC} {Q : Int → MS → MC → Prop} (F : Fix S) (h : ((l1 = (-1) → K_X11_least_14 (d + 1) mc ms l1 S C Q) ∧ (¬ l1 = (-1) → K_X11_isBeat_0 d 0 0 l1 S C (fun r1 Sq C2 => Sq = S ∧ ((¬ r1 = 0 → K_X11_least_14 (d + 1) mc ms l1 S C2 Q) ∧ (r1 = 0 → Q (-1) S C2)))))) : K_X11_least_0 (d + 1) mc ms l1 S C Q := by
  show Wp (d + 1) mc ms M_X11_least 0 [cA 81, cI l1, cU] [] S C Q
  refine wp_iload_n (nx := 1) dX11_least_0 rfl rfl ?_
  refine wp_iconst (nx := 2) dX11_least_1 rfl (i32 (by decide)) ?_
  refine wp_icmp_eq (nx := 5) (tg := 14) dX11_least_2 rfl rfl (fun hc => ?_) (fun hc => ?_)
  · have h := h.1 hc
    exact h
  · have h := h.2 hc
    refine wp_iload_n (nx := 6) dX11_least_5 rfl rfl ?_
    refine wp_invS (nx := 9) (N := M_X11_isBeat) (as := [cI l1]) (st := []) (mc := 0) (ms := 0) (mc' := mc) (ms' := ms) dX11_least_6 rfl mok_X11_isBeat kM_X11_138 ks_X11_isBeat rfl rfl (leB rfl) (leB rfl) (z0 _) (z0 _) (Wp.mono h ?_)
    intro r1 Sq C2 h
    obtain ⟨e9, h⟩ := h
    rw [e9]
    show Wp (d + 1) mc ms M_X11_least 9 [cA 81, cI l1, cU] [cI r1] S C2 Q
    refine wp_if_ne (nx := 12) (tg := 14) dX11_least_9 rfl rfl (fun hc => ?_) (fun hc => ?_)
    · have h := h.1 hc
      exact h
    · have h := h.2 hc
      refine wp_iconst (nx := 13) dX11_least_12 rfl (i32 (by decide)) ?_
      exact wp_ireturn dX11_least_13 rfl rfl rfl h
theorem b_X11_least_14 {d mc ms : Nat} {l1 : Int} {S : MS} {C : MC} {Q : Int → MS → MC → Prop} (F : Fix S) (h : ((¬ l1 = (-1) → K_X11_leastAt_0 d 0 0 l1 S C (fun r1 Sq C2 => Sq = S ∧ ((¬ r1 = 1000001 → Q r1 S C2) ∧ (r1 = 1000001 → Q (-1) S C2)))) ∧ (l1 = (-1) → K_X11_leastOfAll_0 d 0 0 0 S C (fun r3 Sq C4 => Sq = S ∧ ((¬ r3 = 1000001 → Q r3 S C4) ∧ (r3 = 1000001 → Q (-1) S C4)))))) : K_X11_least_14 (d + 1) mc ms l1 S C Q := by
  show Wp (d + 1) mc ms M_X11_least 14 [cA 81, cI l1, cU] [] S C Q
  refine wp_iload_n (nx := 15) dX11_least_14 rfl rfl ?_
  refine wp_iconst (nx := 16) dX11_least_15 rfl (i32 (by decide)) ?_
  refine wp_icmp_ne (nx := 19) (tg := 27) dX11_least_16 rfl rfl (fun hc => ?_) (fun hc => ?_)
  · have h := h.1 hc
    refine wp_aload_n (nx := 28) dX11_least_27 rfl rfl ?_
    refine wp_iload_n (nx := 29) dX11_least_28 rfl rfl ?_
    refine wp_invV (nx := 32) (N := M_X11_leastAt) (as := [cI l1]) (st := []) (mc := 0) (ms := 0) (mc' := mc) (ms' := ms) (a := 81) clsX11 dX11_least_29 rfl mok_X11_leastAt kM_X11_357 ki_X11_leastAt ke_X11_leastAt (fo_81 F) (ft_81 F) rfl rfl (leB rfl) (leB rfl) (z0 _) (z0 _) (Wp.mono h ?_)
    intro r1 Sq C2 h
    obtain ⟨e9, h⟩ := h
    rw [e9]
    show Wp (d + 1) mc ms M_X11_least 32 [cA 81, cI l1, cU] [cI r1] S C2 Q
    refine wp_istore_n (nx := 33) dX11_least_32 rfl (by decide) ?_
    refine wp_ls (ls2 := [cA 81, cI l1, cI r1]) rfl ?_
    refine wp_iload_n (nx := 34) dX11_least_33 rfl rfl ?_
    refine wp_ldc_w (nx := 37) dX11_least_34 rfl kI_X11_338 (i32 (by decide)) ?_
    refine wp_icmp_ne (nx := 40) (tg := 44) dX11_least_37 rfl rfl (fun hc => ?_) (fun hc => ?_)
    · have h := h.1 hc
      refine wp_iload_n (nx := 45) dX11_least_44 rfl rfl ?_
      exact wp_ireturn dX11_least_45 rfl rfl rfl h
    · have h := h.2 hc
      refine wp_iconst (nx := 41) dX11_least_40 rfl (i32 (by decide)) ?_
      refine wp_goto (nx := 45) dX11_least_41 rfl ?_
      exact wp_ireturn dX11_least_45 rfl rfl rfl h
  · have h := h.2 hc
    refine wp_aload_n (nx := 20) dX11_least_19 rfl rfl ?_
    refine wp_iconst (nx := 21) dX11_least_20 rfl (i32 (by decide)) ?_
    refine wp_invV (nx := 24) (N := M_X11_leastOfAll) (as := [cI 0]) (st := []) (mc := 0) (ms := 0) (mc' := mc) (ms' := ms) (a := 81) clsX11 dX11_least_21 rfl mok_X11_leastOfAll kM_X11_363 ki_X11_leastOfAll ke_X11_leastOfAll (fo_81 F) (ft_81 F) rfl rfl (leB rfl) (leB rfl) (z0 _) (z0 _) (Wp.mono h ?_)
    intro r3 Sq C4 h
    obtain ⟨e9, h⟩ := h
    rw [e9]
    show Wp (d + 1) mc ms M_X11_least 24 [cA 81, cI l1, cU] [cI r3] S C4 Q
    refine wp_goto (nx := 32) dX11_least_24 rfl ?_
    refine wp_istore_n (nx := 33) dX11_least_32 rfl (by decide) ?_
    refine wp_ls (ls2 := [cA 81, cI l1, cI r3]) rfl ?_
    refine wp_iload_n (nx := 34) dX11_least_33 rfl rfl ?_
    refine wp_ldc_w (nx := 37) dX11_least_34 rfl kI_X11_338 (i32 (by decide)) ?_
    refine wp_icmp_ne (nx := 40) (tg := 44) dX11_least_37 rfl rfl (fun hc => ?_) (fun hc => ?_)
    · have h := h.1 hc
      refine wp_iload_n (nx := 45) dX11_least_44 rfl rfl ?_
      exact wp_ireturn dX11_least_45 rfl rfl rfl h
    · have h := h.2 hc
      refine wp_iconst (nx := 41) dX11_least_40 rfl (i32 (by decide)) ?_
      refine wp_goto (nx := 45) dX11_least_41 rfl ?_
      exact wp_ireturn dX11_least_45 rfl rfl rfl h
theorem b_X11_compare_0 {d mc ms : Nat} {l1 : Int} {S : MS} {C : MC} {Q : Int → MS → MC → Prop} (F : Fix S) (h : K_X11_isLaw_0 d 0 0 l1 S C (fun r1 Sq C2 => Sq = S ∧ ((¬ r1 = 0 → K_X11_least_0 d 0 0 (-1) S ((upC C2 83 48 l1)) (fun r3 Sq C4 => Sq = S ∧ Q r3 S (upC C4 83 48 (C2 83 48)))) ∧ (r1 = 0 → Q (-1) S C2)))) : K_X11_compare_0 (d + 1) mc ms l1 S C Q := by
  show Wp (d + 1) mc ms M_X11_compare 0 [cA 81, cI l1, cU, cU] [] S C Q
  refine wp_aload_n (nx := 1) dX11_compare_0 rfl rfl ?_
  refine wp_iload_n (nx := 2) dX11_compare_1 rfl rfl ?_
  refine wp_invV (nx := 5) (N := M_X11_isLaw) (as := [cI l1]) (st := []) (mc := 0) (ms := 0) (mc' := mc) (ms' := ms) (a := 81) clsX11 dX11_compare_2 rfl mok_X11_isLaw kM_X11_259 ki_X11_isLaw ke_X11_isLaw (fo_81 F) (ft_81 F) rfl rfl (leB rfl) (leB rfl) (z0 _) (z0 _) (Wp.mono h ?_)
  intro r1 Sq C2 h
  obtain ⟨e9, h⟩ := h
  rw [e9]
  show Wp (d + 1) mc ms M_X11_compare 5 [cA 81, cI l1, cU, cU] [cI r1] S C2 Q
  refine wp_if_ne (nx := 8) (tg := 10) dX11_compare_5 rfl rfl (fun hc => ?_) (fun hc => ?_)
  · have h := h.1 hc
    refine wp_aload_n (nx := 11) dX11_compare_10 rfl rfl ?_
    refine wp_getAe (kk := 2) (nx := 14) clsX11 dX11_compare_11 rfl kF_X11_28 (by decide) (fo_81 F) (ft_81 F) rfl (fp_81_2 F) ?_
    refine wp_bipush (nx := 16) dX11_compare_14 rfl ⟨by decide, i32 (by decide)⟩ ?_
    refine wp_ialoadE (nx := 17) dX11_compare_16 rfl (fo_83 F) (fl_83 F) (by decide) (ft_83 F) rfl ?_
    refine wp_istore_n (nx := 18) dX11_compare_17 rfl (by decide) ?_
    refine wp_ls (ls2 := [cA 81, cI l1, cI (C2 83 48), cU]) rfl ?_
    refine wp_aload_n (nx := 19) dX11_compare_18 rfl rfl ?_
    refine wp_getAe (kk := 2) (nx := 22) clsX11 dX11_compare_19 rfl kF_X11_28 (by decide) (fo_81 F) (ft_81 F) rfl (fp_81_2 F) ?_
    refine wp_bipush (nx := 24) dX11_compare_22 rfl ⟨by decide, i32 (by decide)⟩ ?_
    refine wp_iload_n (nx := 25) dX11_compare_24 rfl rfl ?_
    refine wp_iastoreE (nx := 26) dX11_compare_25 rfl (fo_83 F) (fl_83 F) (by decide) (ft_83 F) ?_
    refine wp_aload_n (nx := 27) dX11_compare_26 rfl rfl ?_
    refine wp_iconst (nx := 28) dX11_compare_27 rfl (i32 (by decide)) ?_
    refine wp_invV (nx := 31) (N := M_X11_least) (as := [cI (-1)]) (st := []) (mc := 0) (ms := 0) (mc' := mc) (ms' := ms) (a := 81) clsX11 dX11_compare_28 rfl mok_X11_least kM_X11_366 ki_X11_least ke_X11_least (fo_81 F) (ft_81 F) rfl rfl (leB rfl) (leB rfl) (z0 _) (z0 _) (Wp.mono h ?_)
    intro r3 Sq C4 h
    obtain ⟨e9, h⟩ := h
    rw [e9]
    show Wp (d + 1) mc ms M_X11_compare 31 [cA 81, cI l1, cI (C2 83 48), cU] [cI r3] S C4 Q
    refine wp_istore_n (nx := 32) dX11_compare_31 rfl (by decide) ?_
    refine wp_ls (ls2 := [cA 81, cI l1, cI (C2 83 48), cI r3]) rfl ?_
    refine wp_aload_n (nx := 33) dX11_compare_32 rfl rfl ?_
    refine wp_getAe (kk := 2) (nx := 36) clsX11 dX11_compare_33 rfl kF_X11_28 (by decide) (fo_81 F) (ft_81 F) rfl (fp_81_2 F) ?_
    refine wp_bipush (nx := 38) dX11_compare_36 rfl ⟨by decide, i32 (by decide)⟩ ?_
    refine wp_iload_n (nx := 39) dX11_compare_38 rfl rfl ?_
    refine wp_iastoreE (nx := 40) dX11_compare_39 rfl (fo_83 F) (fl_83 F) (by decide) (ft_83 F) ?_
    refine wp_iload_n (nx := 41) dX11_compare_40 rfl rfl ?_
    exact wp_ireturn dX11_compare_41 rfl rfl rfl h
  · have h := h.2 hc
    refine wp_iconst (nx := 9) dX11_compare_8 rfl (i32 (by decide)) ?_
    exact wp_ireturn dX11_compare_9 rfl rfl rfl h
theorem b_X11_laysWay_0 {d mc ms : Nat} {l1 : Int} {S : MS} {C : MC} {Q : Int → MS → MC → Prop} (F : Fix S) (h : K_X11_musicAt_0 d 0 0 l1 S C (fun r1 Sq C2 => Sq = S ∧ K_X11_leastAt_0 d 0 0 l1 S C2 (fun r3 Sq C4 => Sq = S ∧ K_X11_laysWay_15 (d + 1) mc ms r1 r3 0 S C4 Q))) : K_X11_laysWay_0 (d + 1) mc ms l1 S C Q := by
  show Wp (d + 1) mc ms M_X11_laysWay 0 [cA 81, cI l1, cU, cU, cU, cU] [] S C Q
  refine wp_aload_n (nx := 1) dX11_laysWay_0 rfl rfl ?_
  refine wp_iload_n (nx := 2) dX11_laysWay_1 rfl rfl ?_
  refine wp_invV (nx := 5) (N := M_X11_musicAt) (as := [cI l1]) (st := []) (mc := 0) (ms := 0) (mc' := mc) (ms' := ms) (a := 81) clsX11 dX11_laysWay_2 rfl mok_X11_musicAt kM_X11_122 ki_X11_musicAt ke_X11_musicAt (fo_81 F) (ft_81 F) rfl rfl (leB rfl) (leB rfl) (z0 _) (z0 _) (Wp.mono h ?_)
  intro r1 Sq C2 h
  obtain ⟨e9, h⟩ := h
  rw [e9]
  show Wp (d + 1) mc ms M_X11_laysWay 5 [cA 81, cI l1, cU, cU, cU, cU] [cI r1] S C2 Q
  refine wp_istore_n (nx := 6) dX11_laysWay_5 rfl (by decide) ?_
  refine wp_ls (ls2 := [cA 81, cI l1, cI r1, cU, cU, cU]) rfl ?_
  refine wp_aload_n (nx := 7) dX11_laysWay_6 rfl rfl ?_
  refine wp_iload_n (nx := 8) dX11_laysWay_7 rfl rfl ?_
  refine wp_invV (nx := 11) (N := M_X11_leastAt) (as := [cI l1]) (st := []) (mc := 0) (ms := 0) (mc' := mc) (ms' := ms) (a := 81) clsX11 dX11_laysWay_8 rfl mok_X11_leastAt kM_X11_357 ki_X11_leastAt ke_X11_leastAt (fo_81 F) (ft_81 F) rfl rfl (leB rfl) (leB rfl) (z0 _) (z0 _) (Wp.mono h ?_)
  intro r3 Sq C4 h
  obtain ⟨e9, h⟩ := h
  rw [e9]
  show Wp (d + 1) mc ms M_X11_laysWay 11 [cA 81, cI l1, cI r1, cU, cU, cU] [cI r3] S C4 Q
  refine wp_istore_n (nx := 12) dX11_laysWay_11 rfl (by decide) ?_
  refine wp_ls (ls2 := [cA 81, cI l1, cI r1, cI r3, cU, cU]) rfl ?_
  refine wp_iconst (nx := 13) dX11_laysWay_12 rfl (i32 (by decide)) ?_
  refine wp_istore (nx := 15) dX11_laysWay_13 rfl (by decide) ?_
  refine wp_ls (ls2 := [cA 81, cI l1, cI r1, cI r3, cI 0, cU]) rfl ?_
  refine wp_fg [true, false, true, true, true, false] (ls2 := [cA 81, cU, cI r1, cI r3, cI 0, cU]) rfl ?_
  exact h
theorem b_X11_laysWay_15 {d mc ms : Nat} {l2 l3 l4 : Int} {S : MS} {C : MC} {Q : Int → MS → MC → Prop} (F : Fix S) (h : ((8 ≤ l4 → ((1000001 ≤ l3 → Q 0 S C) ∧ (¬ 1000001 ≤ l3 → Q 1 S C))) ∧ (¬ 8 ≤ l4 → ((0 : Int) ≤ l4 ∧ l4 < 8) ∧ K_X11_isIn_0 d 0 0 l2 l4 S ((upC C 98 l4 (-1))) (fun r1 Sq C2 => Sq = S ∧ ((r1 = 0 → K_X11_laysWay_15 (d + 1) mc ms l2 l3 (w32 (l4 + 1)) S C2 Q) ∧ (¬ r1 = 0 → ((¬ l3 = 1000001 → K_X11_laysWay_75 (d + 1) mc ms (iAnd l2 (iXor (iShl 1 l4) (-1))) l3 l4 0 S (upC C2 97 0 (iOr (C2 97 0) (iShl 1 l4))) Q) ∧ (l3 = 1000001 → K_X11_laysWay_15 (d + 1) mc ms l2 l3 (w32 (l4 + 1)) S C2 Q)))))))) : K_X11_laysWay_15 (d + 1) mc ms l2 l3 l4 S C Q := by
  show Wp (d + 1) mc ms M_X11_laysWay 15 [cA 81, cU, cI l2, cI l3, cI l4, cU] [] S C Q
  refine wp_iload (nx := 17) dX11_laysWay_15 rfl rfl ?_
  refine wp_bipush (nx := 19) dX11_laysWay_17 rfl ⟨by decide, i32 (by decide)⟩ ?_
  refine wp_icmp_ge (nx := 22) (tg := 135) dX11_laysWay_19 rfl rfl (fun hc => ?_) (fun hc => ?_)
  · have h := h.1 hc
    refine wp_iload_n (nx := 136) dX11_laysWay_135 rfl rfl ?_
    refine wp_ldc_w (nx := 139) dX11_laysWay_136 rfl kI_X11_338 (i32 (by decide)) ?_
    refine wp_icmp_ge (nx := 142) (tg := 146) dX11_laysWay_139 rfl rfl (fun hc => ?_) (fun hc => ?_)
    · have h := h.1 hc
      refine wp_iconst (nx := 147) dX11_laysWay_146 rfl (i32 (by decide)) ?_
      exact wp_ireturn dX11_laysWay_147 rfl rfl (nz_of (Or.inl rfl)) h
    · have h := h.2 hc
      refine wp_iconst (nx := 143) dX11_laysWay_142 rfl (i32 (by decide)) ?_
      refine wp_goto (nx := 147) dX11_laysWay_143 rfl ?_
      exact wp_ireturn dX11_laysWay_147 rfl rfl (nz_of (Or.inr rfl)) h
  · have h := h.2 hc
    refine wp_aload_n (nx := 23) dX11_laysWay_22 rfl rfl ?_
    refine wp_getAe (kk := 34) (nx := 26) clsX11 dX11_laysWay_23 rfl kF_X11_78 (by decide) (fo_81 F) (ft_81 F) rfl (fp_81_34 F) ?_
    refine wp_iload (nx := 28) dX11_laysWay_26 rfl rfl ?_
    refine wp_iconst (nx := 29) dX11_laysWay_28 rfl (i32 (by decide)) ?_
    obtain ⟨hi, h⟩ := h
    refine wp_iastoreE (nx := 30) dX11_laysWay_29 rfl (fo_98 F) (fl_98 F) hi (ft_98 F) ?_
    refine wp_iload_n (nx := 31) dX11_laysWay_30 rfl rfl ?_
    refine wp_iload (nx := 33) dX11_laysWay_31 rfl rfl ?_
    refine wp_invS (nx := 36) (N := M_X11_isIn) (as := [cI l2, cI l4]) (st := []) (mc := 0) (ms := 0) (mc' := mc) (ms' := ms) dX11_laysWay_33 rfl mok_X11_isIn kM_X11_335 ks_X11_isIn rfl rfl (leB rfl) (leB rfl) (z0 _) (z0 _) (Wp.mono h ?_)
    intro r1 Sq C2 h
    obtain ⟨e9, h⟩ := h
    rw [e9]
    show Wp (d + 1) mc ms M_X11_laysWay 36 [cA 81, cU, cI l2, cI l3, cI l4, cU] [cI r1] S C2 Q
    refine wp_if_eq (nx := 39) (tg := 129) dX11_laysWay_36 rfl rfl (fun hc => ?_) (fun hc => ?_)
    · have h := h.1 hc
      refine wp_iinc (nx := 132) dX11_laysWay_129 rfl rfl (by decide) ?_
      refine wp_ls (ls2 := [cA 81, cU, cI l2, cI l3, cI (w32 (l4 + 1)), cU]) rfl ?_
      refine wp_goto (nx := 15) dX11_laysWay_132 rfl ?_
      exact h
    · have h := h.2 hc
      refine wp_iload_n (nx := 40) dX11_laysWay_39 rfl rfl ?_
      refine wp_ldc_w (nx := 43) dX11_laysWay_40 rfl kI_X11_338 (i32 (by decide)) ?_
      refine wp_icmp_ne (nx := 46) (tg := 49) dX11_laysWay_43 rfl rfl (fun hc => ?_) (fun hc => ?_)
      · have h := h.1 hc
        refine wp_iload_n (nx := 50) dX11_laysWay_49 rfl rfl ?_
        refine wp_iconst (nx := 51) dX11_laysWay_50 rfl (i32 (by decide)) ?_
        refine wp_iload (nx := 53) dX11_laysWay_51 rfl rfl ?_
        refine wp_ishl (nx := 54) dX11_laysWay_53 rfl ?_
        refine wp_iconst (nx := 55) dX11_laysWay_54 rfl (i32 (by decide)) ?_
        refine wp_ixor (nx := 56) dX11_laysWay_55 rfl ?_
        refine wp_iand (nx := 57) dX11_laysWay_56 rfl ?_
        refine wp_istore_n (nx := 58) dX11_laysWay_57 rfl (by decide) ?_
        refine wp_ls (ls2 := [cA 81, cU, cI (iAnd l2 (iXor (iShl 1 l4) (-1))), cI l3, cI l4, cU]) rfl ?_
        refine wp_iconst (nx := 59) dX11_laysWay_58 rfl (i32 (by decide)) ?_
        refine wp_istore (nx := 61) dX11_laysWay_59 rfl (by decide) ?_
        refine wp_ls (ls2 := [cA 81, cU, cI (iAnd l2 (iXor (iShl 1 l4) (-1))), cI l3, cI l4, cI 0]) rfl ?_
        refine wp_aload_n (nx := 62) dX11_laysWay_61 rfl rfl ?_
        refine wp_getAe (kk := 33) (nx := 65) clsX11 dX11_laysWay_62 rfl kF_X11_75 (by decide) (fo_81 F) (ft_81 F) rfl (fp_81_33 F) ?_
        refine wp_iload (nx := 67) dX11_laysWay_65 rfl rfl ?_
        refine wp_dup2 (nx := 68) dX11_laysWay_67 rfl (k1I _) (k1A _) ?_
        refine wp_ialoadE (nx := 69) dX11_laysWay_68 rfl (fo_97 F) (fl_97 F) (by decide) (ft_97 F) rfl ?_
        refine wp_iconst (nx := 70) dX11_laysWay_69 rfl (i32 (by decide)) ?_
        refine wp_iload (nx := 72) dX11_laysWay_70 rfl rfl ?_
        refine wp_ishl (nx := 73) dX11_laysWay_72 rfl ?_
        refine wp_ior (nx := 74) dX11_laysWay_73 rfl ?_
        refine wp_iastoreE (nx := 75) dX11_laysWay_74 rfl (fo_97 F) (fl_97 F) (by decide) (ft_97 F) ?_
        exact h
      · have h := h.2 hc
        refine wp_goto (nx := 129) dX11_laysWay_46 rfl ?_
        refine wp_iinc (nx := 132) dX11_laysWay_129 rfl rfl (by decide) ?_
        refine wp_ls (ls2 := [cA 81, cU, cI l2, cI l3, cI (w32 (l4 + 1)), cU]) rfl ?_
        refine wp_goto (nx := 15) dX11_laysWay_132 rfl ?_
        exact h
theorem b_X11_laysWay_75 {d mc ms : Nat} {l2 l3 l4 l5 : Int} {S : MS} {C : MC} {Q : Int → MS → MC → Prop} (F : Fix S) (h : K_X11_leastOf_0 d 0 0 l2 S C (fun r1 Sq C2 => Sq = S ∧ ((r1 = l3 → ((0 : Int) ≤ l4 ∧ l4 < 8) ∧ K_X11_laysWay_15 (d + 1) mc ms l2 l3 (w32 (l4 + 1)) S (upC C2 98 l4 l5) Q) ∧ (¬ r1 = l3 → ((0 : Int) ≤ l5 ∧ l5 < 6) ∧ ((0 : Int) ≤ l5 ∧ l5 < 6) ∧ ((0 : Int) ≤ w32 (l5 + 1) ∧ w32 (l5 + 1) < 6) ∧ ((0 : Int) ≤ w32 (l5 + 1) ∧ w32 (l5 + 1) < 6) ∧ K_X11_laysWay_75 (d + 1) mc ms l2 l3 l4 (w32 (l5 + 1)) S (upC (upC C2 97 l5 (iAnd (C2 97 l5) (iXor (iShl 1 l4) (-1)))) 97 (w32 (l5 + 1)) (iOr ((upC C2 97 l5 (iAnd (C2 97 l5) (iXor (iShl 1 l4) (-1)))) 97 (w32 (l5 + 1))) (iShl 1 l4))) Q)))) : K_X11_laysWay_75 (d + 1) mc ms l2 l3 l4 l5 S C Q := by
  show Wp (d + 1) mc ms M_X11_laysWay 75 [cA 81, cU, cI l2, cI l3, cI l4, cI l5] [] S C Q
  refine wp_aload_n (nx := 76) dX11_laysWay_75 rfl rfl ?_
  refine wp_iload_n (nx := 77) dX11_laysWay_76 rfl rfl ?_
  refine wp_invV (nx := 80) (N := M_X11_leastOf) (as := [cI l2]) (st := []) (mc := 0) (ms := 0) (mc' := mc) (ms' := ms) (a := 81) clsX11 dX11_laysWay_77 rfl mok_X11_leastOf kM_X11_351 ki_X11_leastOf ke_X11_leastOf (fo_81 F) (ft_81 F) rfl rfl (leB rfl) (leB rfl) (z0 _) (z0 _) (Wp.mono h ?_)
  intro r1 Sq C2 h
  obtain ⟨e9, h⟩ := h
  rw [e9]
  show Wp (d + 1) mc ms M_X11_laysWay 80 [cA 81, cU, cI l2, cI l3, cI l4, cI l5] [cI r1] S C2 Q
  refine wp_iload_n (nx := 81) dX11_laysWay_80 rfl rfl ?_
  refine wp_icmp_eq (nx := 84) (tg := 120) dX11_laysWay_81 rfl rfl (fun hc => ?_) (fun hc => ?_)
  · have h := h.1 hc
    refine wp_aload_n (nx := 121) dX11_laysWay_120 rfl rfl ?_
    refine wp_getAe (kk := 34) (nx := 124) clsX11 dX11_laysWay_121 rfl kF_X11_78 (by decide) (fo_81 F) (ft_81 F) rfl (fp_81_34 F) ?_
    refine wp_iload (nx := 126) dX11_laysWay_124 rfl rfl ?_
    refine wp_iload (nx := 128) dX11_laysWay_126 rfl rfl ?_
    obtain ⟨hi, h⟩ := h
    refine wp_iastoreE (nx := 129) dX11_laysWay_128 rfl (fo_98 F) (fl_98 F) hi (ft_98 F) ?_
    refine wp_iinc (nx := 132) dX11_laysWay_129 rfl rfl (by decide) ?_
    refine wp_ls (ls2 := [cA 81, cU, cI l2, cI l3, cI (w32 (l4 + 1)), cI l5]) rfl ?_
    refine wp_goto (nx := 15) dX11_laysWay_132 rfl ?_
    refine wp_fg [true, false, true, true, true, false] (ls2 := [cA 81, cU, cI l2, cI l3, cI (w32 (l4 + 1)), cU]) rfl ?_
    exact h
  · have h := h.2 hc
    refine wp_aload_n (nx := 85) dX11_laysWay_84 rfl rfl ?_
    refine wp_getAe (kk := 33) (nx := 88) clsX11 dX11_laysWay_85 rfl kF_X11_75 (by decide) (fo_81 F) (ft_81 F) rfl (fp_81_33 F) ?_
    refine wp_iload (nx := 90) dX11_laysWay_88 rfl rfl ?_
    refine wp_dup2 (nx := 91) dX11_laysWay_90 rfl (k1I _) (k1A _) ?_
    obtain ⟨hi, h⟩ := h
    refine wp_ialoadE (nx := 92) dX11_laysWay_91 rfl (fo_97 F) (fl_97 F) hi (ft_97 F) rfl ?_
    refine wp_iconst (nx := 93) dX11_laysWay_92 rfl (i32 (by decide)) ?_
    refine wp_iload (nx := 95) dX11_laysWay_93 rfl rfl ?_
    refine wp_ishl (nx := 96) dX11_laysWay_95 rfl ?_
    refine wp_iconst (nx := 97) dX11_laysWay_96 rfl (i32 (by decide)) ?_
    refine wp_ixor (nx := 98) dX11_laysWay_97 rfl ?_
    refine wp_iand (nx := 99) dX11_laysWay_98 rfl ?_
    obtain ⟨hi, h⟩ := h
    refine wp_iastoreE (nx := 100) dX11_laysWay_99 rfl (fo_97 F) (fl_97 F) hi (ft_97 F) ?_
    refine wp_iinc (nx := 103) dX11_laysWay_100 rfl rfl (by decide) ?_
    refine wp_ls (ls2 := [cA 81, cU, cI l2, cI l3, cI l4, cI (w32 (l5 + 1))]) rfl ?_
    refine wp_aload_n (nx := 104) dX11_laysWay_103 rfl rfl ?_
    refine wp_getAe (kk := 33) (nx := 107) clsX11 dX11_laysWay_104 rfl kF_X11_75 (by decide) (fo_81 F) (ft_81 F) rfl (fp_81_33 F) ?_
    refine wp_iload (nx := 109) dX11_laysWay_107 rfl rfl ?_
    refine wp_dup2 (nx := 110) dX11_laysWay_109 rfl (k1I _) (k1A _) ?_
    obtain ⟨hi, h⟩ := h
    refine wp_ialoadE (nx := 111) dX11_laysWay_110 rfl (fo_97 F) (fl_97 F) hi (ft_97 F) rfl ?_
    refine wp_iconst (nx := 112) dX11_laysWay_111 rfl (i32 (by decide)) ?_
    refine wp_iload (nx := 114) dX11_laysWay_112 rfl rfl ?_
    refine wp_ishl (nx := 115) dX11_laysWay_114 rfl ?_
    refine wp_ior (nx := 116) dX11_laysWay_115 rfl ?_
    obtain ⟨hi, h⟩ := h
    refine wp_iastoreE (nx := 117) dX11_laysWay_116 rfl (fo_97 F) (fl_97 F) hi (ft_97 F) ?_
    refine wp_goto (nx := 75) dX11_laysWay_117 rfl ?_
    exact h
theorem b_X11_who_0 {d mc ms : Nat} {l1 l2 : Int} {S : MS} {C : MC} {Q : Int → MS → MC → Prop} (F : Fix S) (h : K_X11_isBeat_0 d 0 0 l1 S C (fun r1 Sq C2 => Sq = S ∧ ((r1 = 0 → Q (-1) S C2) ∧ (¬ r1 = 0 → K_X11_isKey_0 d 0 0 l2 S C2 (fun r3 Sq C4 => Sq = S ∧ ((¬ r3 = 0 → K_X11_laysWay_0 d 0 0 l1 S C4 (fun r5 Sq C6 => Sq = S ∧ ((0 : Int) ≤ l2 ∧ l2 < 8) ∧ Q (C6 98 l2) S C6)) ∧ (r3 = 0 → Q (-1) S C4))))))) : K_X11_who_0 (d + 1) mc ms l1 l2 S C Q := by
  show Wp (d + 1) mc ms M_X11_who 0 [cA 81, cI l1, cI l2] [] S C Q
  refine wp_iload_n (nx := 1) dX11_who_0 rfl rfl ?_
  refine wp_invS (nx := 4) (N := M_X11_isBeat) (as := [cI l1]) (st := []) (mc := 0) (ms := 0) (mc' := mc) (ms' := ms) dX11_who_1 rfl mok_X11_isBeat kM_X11_138 ks_X11_isBeat rfl rfl (leB rfl) (leB rfl) (z0 _) (z0 _) (Wp.mono h ?_)
  intro r1 Sq C2 h
  obtain ⟨e9, h⟩ := h
  rw [e9]
  show Wp (d + 1) mc ms M_X11_who 4 [cA 81, cI l1, cI l2] [cI r1] S C2 Q
  refine wp_if_eq (nx := 7) (tg := 14) dX11_who_4 rfl rfl (fun hc => ?_) (fun hc => ?_)
  · have h := h.1 hc
    refine wp_iconst (nx := 15) dX11_who_14 rfl (i32 (by decide)) ?_
    exact wp_ireturn dX11_who_15 rfl rfl rfl h
  · have h := h.2 hc
    refine wp_iload_n (nx := 8) dX11_who_7 rfl rfl ?_
    refine wp_invS (nx := 11) (N := M_X11_isKey) (as := [cI l2]) (st := []) (mc := 0) (ms := 0) (mc' := mc) (ms' := ms) dX11_who_8 rfl mok_X11_isKey kM_X11_135 ks_X11_isKey rfl rfl (leB rfl) (leB rfl) (z0 _) (z0 _) (Wp.mono h ?_)
    intro r3 Sq C4 h
    obtain ⟨e9, h⟩ := h
    rw [e9]
    show Wp (d + 1) mc ms M_X11_who 11 [cA 81, cI l1, cI l2] [cI r3] S C4 Q
    refine wp_if_ne (nx := 14) (tg := 16) dX11_who_11 rfl rfl (fun hc => ?_) (fun hc => ?_)
    · have h := h.1 hc
      refine wp_aload_n (nx := 17) dX11_who_16 rfl rfl ?_
      refine wp_iload_n (nx := 18) dX11_who_17 rfl rfl ?_
      refine wp_invV (nx := 21) (N := M_X11_laysWay) (as := [cI l1]) (st := []) (mc := 0) (ms := 0) (mc' := mc) (ms' := ms) (a := 81) clsX11 dX11_who_18 rfl mok_X11_laysWay kM_X11_369 ki_X11_laysWay ke_X11_laysWay (fo_81 F) (ft_81 F) rfl rfl (leB rfl) (leB rfl) (z0 _) (z0 _) (Wp.mono h ?_)
      intro r5 Sq C6 h
      obtain ⟨e9, h⟩ := h
      rw [e9]
      show Wp (d + 1) mc ms M_X11_who 21 [cA 81, cI l1, cI l2] [cI r5] S C6 Q
      refine wp_pop (nx := 22) dX11_who_21 rfl (k1I _) ?_
      refine wp_aload_n (nx := 23) dX11_who_22 rfl rfl ?_
      refine wp_getAe (kk := 34) (nx := 26) clsX11 dX11_who_23 rfl kF_X11_78 (by decide) (fo_81 F) (ft_81 F) rfl (fp_81_34 F) ?_
      refine wp_iload_n (nx := 27) dX11_who_26 rfl rfl ?_
      obtain ⟨hi, h⟩ := h
      refine wp_ialoadE (nx := 28) dX11_who_27 rfl (fo_98 F) (fl_98 F) hi (ft_98 F) rfl ?_
      exact wp_ireturn dX11_who_28 rfl rfl rfl h
    · have h := h.2 hc
      refine wp_iconst (nx := 15) dX11_who_14 rfl (i32 (by decide)) ?_
      exact wp_ireturn dX11_who_15 rfl rfl rfl h
theorem b_X11_ways_0 {d mc ms : Nat} {l1 : Int} {S : MS} {C : MC} {Q : Int → MS → MC → Prop} (F : Fix S) (h : K_X11_isBeat_0 d 0 0 l1 S C (fun r1 Sq C2 => Sq = S ∧ ((¬ r1 = 0 → K_X11_musicAt_0 d 0 0 l1 S C2 (fun r3 Sq C4 => Sq = S ∧ K_X11_laysParts_0 d 0 0 l1 r3 S C4 (fun r5 Sq C6 => Sq = S ∧ K_X11_ways_23 (d + 1) mc ms r3 0 S C6 Q))) ∧ (r1 = 0 → Q (-1) S C2)))) : K_X11_ways_0 (d + 1) mc ms l1 S C Q := by
  show Wp (d + 1) mc ms M_X11_ways 0 [cA 81, cI l1, cU, cU, cU, cU, cU] [] S C Q
  refine wp_iload_n (nx := 1) dX11_ways_0 rfl rfl ?_
  refine wp_invS (nx := 4) (N := M_X11_isBeat) (as := [cI l1]) (st := []) (mc := 0) (ms := 0) (mc' := mc) (ms' := ms) dX11_ways_1 rfl mok_X11_isBeat kM_X11_138 ks_X11_isBeat rfl rfl (leB rfl) (leB rfl) (z0 _) (z0 _) (Wp.mono h ?_)
  intro r1 Sq C2 h
  obtain ⟨e9, h⟩ := h
  rw [e9]
  show Wp (d + 1) mc ms M_X11_ways 4 [cA 81, cI l1, cU, cU, cU, cU, cU] [cI r1] S C2 Q
  refine wp_if_ne (nx := 7) (tg := 9) dX11_ways_4 rfl rfl (fun hc => ?_) (fun hc => ?_)
  · have h := h.1 hc
    refine wp_aload_n (nx := 10) dX11_ways_9 rfl rfl ?_
    refine wp_iload_n (nx := 11) dX11_ways_10 rfl rfl ?_
    refine wp_invV (nx := 14) (N := M_X11_musicAt) (as := [cI l1]) (st := []) (mc := 0) (ms := 0) (mc' := mc) (ms' := ms) (a := 81) clsX11 dX11_ways_11 rfl mok_X11_musicAt kM_X11_122 ki_X11_musicAt ke_X11_musicAt (fo_81 F) (ft_81 F) rfl rfl (leB rfl) (leB rfl) (z0 _) (z0 _) (Wp.mono h ?_)
    intro r3 Sq C4 h
    obtain ⟨e9, h⟩ := h
    rw [e9]
    show Wp (d + 1) mc ms M_X11_ways 14 [cA 81, cI l1, cU, cU, cU, cU, cU] [cI r3] S C4 Q
    refine wp_istore_n (nx := 15) dX11_ways_14 rfl (by decide) ?_
    refine wp_ls (ls2 := [cA 81, cI l1, cI r3, cU, cU, cU, cU]) rfl ?_
    refine wp_aload_n (nx := 16) dX11_ways_15 rfl rfl ?_
    refine wp_iload_n (nx := 17) dX11_ways_16 rfl rfl ?_
    refine wp_iload_n (nx := 18) dX11_ways_17 rfl rfl ?_
    refine wp_invV (nx := 21) (N := M_X11_laysParts) (as := [cI l1, cI r3]) (st := []) (mc := 0) (ms := 0) (mc' := mc) (ms' := ms) (a := 81) clsX11 dX11_ways_18 rfl mok_X11_laysParts kM_X11_345 ki_X11_laysParts ke_X11_laysParts (fo_81 F) (ft_81 F) rfl rfl (leB rfl) (leB rfl) (z0 _) (z0 _) (Wp.mono h ?_)
    intro r5 Sq C6 h
    obtain ⟨e9, h⟩ := h
    rw [e9]
    show Wp (d + 1) mc ms M_X11_ways 21 [cA 81, cI l1, cI r3, cU, cU, cU, cU] [] S C6 Q
    refine wp_iconst (nx := 22) dX11_ways_21 rfl (i32 (by decide)) ?_
    refine wp_istore_n (nx := 23) dX11_ways_22 rfl (by decide) ?_
    refine wp_ls (ls2 := [cA 81, cI l1, cI r3, cI 0, cU, cU, cU]) rfl ?_
    refine wp_fg [true, false, true, true, false, false, false] (ls2 := [cA 81, cU, cI r3, cI 0, cU, cU, cU]) rfl ?_
    exact h
  · have h := h.2 hc
    refine wp_iconst (nx := 8) dX11_ways_7 rfl (i32 (by decide)) ?_
    exact wp_ireturn dX11_ways_8 rfl rfl rfl h
theorem b_X11_ways_23 {d mc ms : Nat} {l2 l3 : Int} {S : MS} {C : MC} {Q : Int → MS → MC → Prop} (F : Fix S) (h : ((256 ≤ l3 → K_X11_many_0 d 0 0 S C (fun r1 Sq C2 => Sq = S ∧ K_X11_ways_67 (d + 1) mc ms l2 (w32 (r1 - 1)) S C2 Q)) ∧ (¬ 256 ≤ l3 → K_X11_many_0 d 0 0 S C (fun r3 Sq C4 => Sq = S ∧ ((¬ l3 = 0 → ((0 : Int) ≤ w32 ((w32 (256 * r3)) + l3) ∧ w32 ((w32 (256 * r3)) + l3) < 1792) ∧ K_X11_ways_23 (d + 1) mc ms l2 (w32 (l3 + 1)) S (upC C4 96 (w32 ((w32 (256 * r3)) + l3)) 0) Q) ∧ (l3 = 0 → ((0 : Int) ≤ w32 ((w32 (256 * r3)) + l3) ∧ w32 ((w32 (256 * r3)) + l3) < 1792) ∧ K_X11_ways_23 (d + 1) mc ms l2 (w32 (l3 + 1)) S (upC C4 96 (w32 ((w32 (256 * r3)) + l3)) 1) Q)))))) : K_X11_ways_23 (d + 1) mc ms l2 l3 S C Q := by
  show Wp (d + 1) mc ms M_X11_ways 23 [cA 81, cU, cI l2, cI l3, cU, cU, cU] [] S C Q
  refine wp_iload_n (nx := 24) dX11_ways_23 rfl rfl ?_
  refine wp_sipush (nx := 27) dX11_ways_24 rfl ⟨by decide, i32 (by decide)⟩ ?_
  refine wp_icmp_ge (nx := 30) (tg := 60) dX11_ways_27 rfl rfl (fun hc => ?_) (fun hc => ?_)
  · have h := h.1 hc
    refine wp_aload_n (nx := 61) dX11_ways_60 rfl rfl ?_
    refine wp_invV (nx := 64) (N := M_X11_many) (as := []) (st := []) (mc := 0) (ms := 0) (mc' := mc) (ms' := ms) (a := 81) clsX11 dX11_ways_61 rfl mok_X11_many kM_X11_118 ki_X11_many ke_X11_many (fo_81 F) (ft_81 F) rfl rfl (leB rfl) (leB rfl) (z0 _) (z0 _) (Wp.mono h ?_)
    intro r1 Sq C2 h
    obtain ⟨e9, h⟩ := h
    rw [e9]
    show Wp (d + 1) mc ms M_X11_ways 64 [cA 81, cU, cI l2, cI l3, cU, cU, cU] [cI r1] S C2 Q
    refine wp_iconst (nx := 65) dX11_ways_64 rfl (i32 (by decide)) ?_
    refine wp_isub (nx := 66) dX11_ways_65 rfl ?_
    refine wp_istore_n (nx := 67) dX11_ways_66 rfl (by decide) ?_
    refine wp_ls (ls2 := [cA 81, cU, cI l2, cI (w32 (r1 - 1)), cU, cU, cU]) rfl ?_
    exact h
  · have h := h.2 hc
    refine wp_aload_n (nx := 31) dX11_ways_30 rfl rfl ?_
    refine wp_getAe (kk := 32) (nx := 34) clsX11 dX11_ways_31 rfl kF_X11_72 (by decide) (fo_81 F) (ft_81 F) rfl (fp_81_32 F) ?_
    refine wp_sipush (nx := 37) dX11_ways_34 rfl ⟨by decide, i32 (by decide)⟩ ?_
    refine wp_aload_n (nx := 38) dX11_ways_37 rfl rfl ?_
    refine wp_invV (nx := 41) (N := M_X11_many) (as := []) (st := [cI 256, cA 96]) (mc := 0) (ms := 0) (mc' := mc) (ms' := ms) (a := 81) clsX11 dX11_ways_38 rfl mok_X11_many kM_X11_118 ki_X11_many ke_X11_many (fo_81 F) (ft_81 F) rfl rfl (leB rfl) (leB rfl) (z0 _) (z0 _) (Wp.mono h ?_)
    intro r3 Sq C4 h
    obtain ⟨e9, h⟩ := h
    rw [e9]
    show Wp (d + 1) mc ms M_X11_ways 41 [cA 81, cU, cI l2, cI l3, cU, cU, cU] [cI r3, cI 256, cA 96] S C4 Q
    refine wp_imul (nx := 42) dX11_ways_41 rfl ?_
    refine wp_iload_n (nx := 43) dX11_ways_42 rfl rfl ?_
    refine wp_iadd (nx := 44) dX11_ways_43 rfl ?_
    refine wp_iload_n (nx := 45) dX11_ways_44 rfl rfl ?_
    refine wp_if_ne (nx := 48) (tg := 52) dX11_ways_45 rfl rfl (fun hc => ?_) (fun hc => ?_)
    · have h := h.1 hc
      refine wp_iconst (nx := 53) dX11_ways_52 rfl (i32 (by decide)) ?_
      obtain ⟨hi, h⟩ := h
      refine wp_iastoreE (nx := 54) dX11_ways_53 rfl (fo_96 F) (fl_96 F) hi (ft_96 F) ?_
      refine wp_iinc (nx := 57) dX11_ways_54 rfl rfl (by decide) ?_
      refine wp_ls (ls2 := [cA 81, cU, cI l2, cI (w32 (l3 + 1)), cU, cU, cU]) rfl ?_
      refine wp_goto (nx := 23) dX11_ways_57 rfl ?_
      exact h
    · have h := h.2 hc
      refine wp_iconst (nx := 49) dX11_ways_48 rfl (i32 (by decide)) ?_
      refine wp_goto (nx := 53) dX11_ways_49 rfl ?_
      obtain ⟨hi, h⟩ := h
      refine wp_iastoreE (nx := 54) dX11_ways_53 rfl (fo_96 F) (fl_96 F) hi (ft_96 F) ?_
      refine wp_iinc (nx := 57) dX11_ways_54 rfl rfl (by decide) ?_
      refine wp_ls (ls2 := [cA 81, cU, cI l2, cI (w32 (l3 + 1)), cU, cU, cU]) rfl ?_
      refine wp_goto (nx := 23) dX11_ways_57 rfl ?_
      exact h
theorem b_X11_ways_67 {d mc ms : Nat} {l2 l3 : Int} {S : MS} {C : MC} {Q : Int → MS → MC → Prop} (F : Fix S) (h : ((l3 < 0 → ((0 : Int) ≤ l2 ∧ l2 < 1792) ∧ Q (C 96 l2) S C) ∧ (¬ l3 < 0 → K_X11_ways_74 (d + 1) mc ms l2 l3 0 S C Q))) : K_X11_ways_67 (d + 1) mc ms l2 l3 S C Q := by
  show Wp (d + 1) mc ms M_X11_ways 67 [cA 81, cU, cI l2, cI l3, cU, cU, cU] [] S C Q
  refine wp_iload_n (nx := 68) dX11_ways_67 rfl rfl ?_
  refine wp_if_lt (nx := 71) (tg := 193) dX11_ways_68 rfl rfl (fun hc => ?_) (fun hc => ?_)
  · have h := h.1 hc
    refine wp_aload_n (nx := 194) dX11_ways_193 rfl rfl ?_
    refine wp_getAe (kk := 32) (nx := 197) clsX11 dX11_ways_194 rfl kF_X11_72 (by decide) (fo_81 F) (ft_81 F) rfl (fp_81_32 F) ?_
    refine wp_iload_n (nx := 198) dX11_ways_197 rfl rfl ?_
    obtain ⟨hi, h⟩ := h
    refine wp_ialoadE (nx := 199) dX11_ways_198 rfl (fo_96 F) (fl_96 F) hi (ft_96 F) rfl ?_
    exact wp_ireturn dX11_ways_199 rfl rfl rfl h
  · have h := h.2 hc
    refine wp_iconst (nx := 72) dX11_ways_71 rfl (i32 (by decide)) ?_
    refine wp_istore (nx := 74) dX11_ways_72 rfl (by decide) ?_
    refine wp_ls (ls2 := [cA 81, cU, cI l2, cI l3, cI 0, cU, cU]) rfl ?_
    exact h
theorem b_X11_ways_74 {d mc ms : Nat} {l2 l3 l4 : Int} {S : MS} {C : MC} {Q : Int → MS → MC → Prop} (F : Fix S) (h : ((256 ≤ l4 → K_X11_ways_67 (d + 1) mc ms l2 (w32 (l3 + (-1))) S C Q) ∧ (¬ 256 ≤ l4 → ((0 : Int) ≤ w32 ((w32 (256 * (w32 (l3 + 1)))) + l4) ∧ w32 ((w32 (256 * (w32 (l3 + 1)))) + l4) < 1792) ∧ K_X11_ways_103 (d + 1) mc ms l2 l3 l4 (C 96 (w32 ((w32 (256 * (w32 (l3 + 1)))) + l4))) l4 S C Q))) : K_X11_ways_74 (d + 1) mc ms l2 l3 l4 S C Q := by
  show Wp (d + 1) mc ms M_X11_ways 74 [cA 81, cU, cI l2, cI l3, cI l4, cU, cU] [] S C Q
  refine wp_iload (nx := 76) dX11_ways_74 rfl rfl ?_
  refine wp_sipush (nx := 79) dX11_ways_76 rfl ⟨by decide, i32 (by decide)⟩ ?_
  refine wp_icmp_ge (nx := 82) (tg := 187) dX11_ways_79 rfl rfl (fun hc => ?_) (fun hc => ?_)
  · have h := h.1 hc
    refine wp_iinc (nx := 190) dX11_ways_187 rfl rfl (by decide) ?_
    refine wp_ls (ls2 := [cA 81, cU, cI l2, cI (w32 (l3 + (-1))), cI l4, cU, cU]) rfl ?_
    refine wp_goto (nx := 67) dX11_ways_190 rfl ?_
    refine wp_fg [true, false, true, true, false, false, false] (ls2 := [cA 81, cU, cI l2, cI (w32 (l3 + (-1))), cU, cU, cU]) rfl ?_
    exact h
  · have h := h.2 hc
    refine wp_aload_n (nx := 83) dX11_ways_82 rfl rfl ?_
    refine wp_getAe (kk := 32) (nx := 86) clsX11 dX11_ways_83 rfl kF_X11_72 (by decide) (fo_81 F) (ft_81 F) rfl (fp_81_32 F) ?_
    refine wp_sipush (nx := 89) dX11_ways_86 rfl ⟨by decide, i32 (by decide)⟩ ?_
    refine wp_iload_n (nx := 90) dX11_ways_89 rfl rfl ?_
    refine wp_iconst (nx := 91) dX11_ways_90 rfl (i32 (by decide)) ?_
    refine wp_iadd (nx := 92) dX11_ways_91 rfl ?_
    refine wp_imul (nx := 93) dX11_ways_92 rfl ?_
    refine wp_iload (nx := 95) dX11_ways_93 rfl rfl ?_
    refine wp_iadd (nx := 96) dX11_ways_95 rfl ?_
    obtain ⟨hi, h⟩ := h
    refine wp_ialoadE (nx := 97) dX11_ways_96 rfl (fo_96 F) (fl_96 F) hi (ft_96 F) rfl ?_
    refine wp_istore (nx := 99) dX11_ways_97 rfl (by decide) ?_
    refine wp_ls (ls2 := [cA 81, cU, cI l2, cI l3, cI l4, cI (C 96 (w32 ((w32 (256 * (w32 (l3 + 1)))) + l4))), cU]) rfl ?_
    refine wp_iload (nx := 101) dX11_ways_99 rfl rfl ?_
    refine wp_istore (nx := 103) dX11_ways_101 rfl (by decide) ?_
    refine wp_ls (ls2 := [cA 81, cU, cI l2, cI l3, cI l4, cI (C 96 (w32 ((w32 (256 * (w32 (l3 + 1)))) + l4))), cI l4]) rfl ?_
    exact h
theorem b_X11_ways_103 {d mc ms : Nat} {l2 l3 l4 l5 l6 : Int} {S : MS} {C : MC} {Q : Int → MS → MC → Prop} (F : Fix S) (h : ((l6 ≤ 0 → ((0 : Int) ≤ w32 ((w32 (256 * l3)) + l4) ∧ w32 ((w32 (256 * l3)) + l4) < 1792) ∧ K_X11_ways_74 (d + 1) mc ms l2 l3 (w32 (l4 + 1)) S (upC C 96 (w32 ((w32 (256 * l3)) + l4)) l5) Q) ∧ (¬ l6 ≤ 0 → ((0 : Int) ≤ w32 ((w32 (256 * l3)) + l6) ∧ w32 ((w32 (256 * l3)) + l6) < 1536) ∧ ((1000001 ≤ C 94 (w32 ((w32 (256 * l3)) + l6)) → K_X11_ways_103 (d + 1) mc ms l2 l3 l4 (w32 (l5 + 0)) (iAnd (w32 (l6 - 1)) l4) S C Q) ∧ (¬ 1000001 ≤ C 94 (w32 ((w32 (256 * l3)) + l6)) → ((0 : Int) ≤ w32 ((w32 (256 * (w32 (l3 + 1)))) + (iXor l4 l6)) ∧ w32 ((w32 (256 * (w32 (l3 + 1)))) + (iXor l4 l6)) < 1792) ∧ K_X11_ways_103 (d + 1) mc ms l2 l3 l4 (w32 (l5 + (C 96 (w32 ((w32 (256 * (w32 (l3 + 1)))) + (iXor l4 l6)))))) (iAnd (w32 (l6 - 1)) l4) S C Q))))) : K_X11_ways_103 (d + 1) mc ms l2 l3 l4 l5 l6 S C Q := by
  show Wp (d + 1) mc ms M_X11_ways 103 [cA 81, cU, cI l2, cI l3, cI l4, cI l5, cI l6] [] S C Q
  refine wp_iload (nx := 105) dX11_ways_103 rfl rfl ?_
  refine wp_if_le (nx := 108) (tg := 166) dX11_ways_105 rfl rfl (fun hc => ?_) (fun hc => ?_)
  · have h := h.1 hc
    refine wp_aload_n (nx := 167) dX11_ways_166 rfl rfl ?_
    refine wp_getAe (kk := 32) (nx := 170) clsX11 dX11_ways_167 rfl kF_X11_72 (by decide) (fo_81 F) (ft_81 F) rfl (fp_81_32 F) ?_
    refine wp_sipush (nx := 173) dX11_ways_170 rfl ⟨by decide, i32 (by decide)⟩ ?_
    refine wp_iload_n (nx := 174) dX11_ways_173 rfl rfl ?_
    refine wp_imul (nx := 175) dX11_ways_174 rfl ?_
    refine wp_iload (nx := 177) dX11_ways_175 rfl rfl ?_
    refine wp_iadd (nx := 178) dX11_ways_177 rfl ?_
    refine wp_iload (nx := 180) dX11_ways_178 rfl rfl ?_
    obtain ⟨hi, h⟩ := h
    refine wp_iastoreE (nx := 181) dX11_ways_180 rfl (fo_96 F) (fl_96 F) hi (ft_96 F) ?_
    refine wp_iinc (nx := 184) dX11_ways_181 rfl rfl (by decide) ?_
    refine wp_ls (ls2 := [cA 81, cU, cI l2, cI l3, cI (w32 (l4 + 1)), cI l5, cI l6]) rfl ?_
    refine wp_goto (nx := 74) dX11_ways_184 rfl ?_
    refine wp_fg [true, false, true, true, true, false, false] (ls2 := [cA 81, cU, cI l2, cI l3, cI (w32 (l4 + 1)), cU, cU]) rfl ?_
    exact h
  · have h := h.2 hc
    refine wp_iload (nx := 110) dX11_ways_108 rfl rfl ?_
    refine wp_aload_n (nx := 111) dX11_ways_110 rfl rfl ?_
    refine wp_getAe (kk := 30) (nx := 114) clsX11 dX11_ways_111 rfl kF_X11_66 (by decide) (fo_81 F) (ft_81 F) rfl (fp_81_30 F) ?_
    refine wp_sipush (nx := 117) dX11_ways_114 rfl ⟨by decide, i32 (by decide)⟩ ?_
    refine wp_iload_n (nx := 118) dX11_ways_117 rfl rfl ?_
    refine wp_imul (nx := 119) dX11_ways_118 rfl ?_
    refine wp_iload (nx := 121) dX11_ways_119 rfl rfl ?_
    refine wp_iadd (nx := 122) dX11_ways_121 rfl ?_
    obtain ⟨hi, h⟩ := h
    refine wp_ialoadE (nx := 123) dX11_ways_122 rfl (fo_94 F) (fl_94 F) hi (ft_94 F) rfl ?_
    refine wp_ldc_w (nx := 126) dX11_ways_123 rfl kI_X11_338 (i32 (by decide)) ?_
    refine wp_icmp_ge (nx := 129) (tg := 150) dX11_ways_126 rfl rfl (fun hc => ?_) (fun hc => ?_)
    · have h := h.1 hc
      refine wp_iconst (nx := 151) dX11_ways_150 rfl (i32 (by decide)) ?_
      refine wp_iadd (nx := 152) dX11_ways_151 rfl ?_
      refine wp_istore (nx := 154) dX11_ways_152 rfl (by decide) ?_
      refine wp_ls (ls2 := [cA 81, cU, cI l2, cI l3, cI l4, cI (w32 (l5 + 0)), cI l6]) rfl ?_
      refine wp_iload (nx := 156) dX11_ways_154 rfl rfl ?_
      refine wp_iconst (nx := 157) dX11_ways_156 rfl (i32 (by decide)) ?_
      refine wp_isub (nx := 158) dX11_ways_157 rfl ?_
      refine wp_iload (nx := 160) dX11_ways_158 rfl rfl ?_
      refine wp_iand (nx := 161) dX11_ways_160 rfl ?_
      refine wp_istore (nx := 163) dX11_ways_161 rfl (by decide) ?_
      refine wp_ls (ls2 := [cA 81, cU, cI l2, cI l3, cI l4, cI (w32 (l5 + 0)), cI (iAnd (w32 (l6 - 1)) l4)]) rfl ?_
      refine wp_goto (nx := 103) dX11_ways_163 rfl ?_
      exact h
    · have h := h.2 hc
      refine wp_aload_n (nx := 130) dX11_ways_129 rfl rfl ?_
      refine wp_getAe (kk := 32) (nx := 133) clsX11 dX11_ways_130 rfl kF_X11_72 (by decide) (fo_81 F) (ft_81 F) rfl (fp_81_32 F) ?_
      refine wp_sipush (nx := 136) dX11_ways_133 rfl ⟨by decide, i32 (by decide)⟩ ?_
      refine wp_iload_n (nx := 137) dX11_ways_136 rfl rfl ?_
      refine wp_iconst (nx := 138) dX11_ways_137 rfl (i32 (by decide)) ?_
      refine wp_iadd (nx := 139) dX11_ways_138 rfl ?_
      refine wp_imul (nx := 140) dX11_ways_139 rfl ?_
      refine wp_iload (nx := 142) dX11_ways_140 rfl rfl ?_
      refine wp_iload (nx := 144) dX11_ways_142 rfl rfl ?_
      refine wp_ixor (nx := 145) dX11_ways_144 rfl ?_
      refine wp_iadd (nx := 146) dX11_ways_145 rfl ?_
      obtain ⟨hi, h⟩ := h
      refine wp_ialoadE (nx := 147) dX11_ways_146 rfl (fo_96 F) (fl_96 F) hi (ft_96 F) rfl ?_
      refine wp_goto (nx := 151) dX11_ways_147 rfl ?_
      refine wp_iadd (nx := 152) dX11_ways_151 rfl ?_
      refine wp_istore (nx := 154) dX11_ways_152 rfl (by decide) ?_
      refine wp_ls (ls2 := [cA 81, cU, cI l2, cI l3, cI l4, cI (w32 (l5 + (C 96 (w32 ((w32 (256 * (w32 (l3 + 1)))) + (iXor l4 l6)))))), cI l6]) rfl ?_
      refine wp_iload (nx := 156) dX11_ways_154 rfl rfl ?_
      refine wp_iconst (nx := 157) dX11_ways_156 rfl (i32 (by decide)) ?_
      refine wp_isub (nx := 158) dX11_ways_157 rfl ?_
      refine wp_iload (nx := 160) dX11_ways_158 rfl rfl ?_
      refine wp_iand (nx := 161) dX11_ways_160 rfl ?_
      refine wp_istore (nx := 163) dX11_ways_161 rfl (by decide) ?_
      refine wp_ls (ls2 := [cA 81, cU, cI l2, cI l3, cI l4, cI (w32 (l5 + (C 96 (w32 ((w32 (256 * (w32 (l3 + 1)))) + (iXor l4 l6)))))), cI (iAnd (w32 (l6 - 1)) l4)]) rfl ?_
      refine wp_goto (nx := 103) dX11_ways_163 rfl ?_
      exact h
