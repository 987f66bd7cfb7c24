/-! blocks -/
theorem b_X5_reckon_0 {d mc ms : Nat} {l0 l1 l2 l3 : Int} {S : MS} {C : MC} {Q : Int → MS → MC → Prop} (F : Fix S) (hr_l0 : isRk l0) (ha_l1 : Arr S l1 20) (ha_l3 : Arr S l3 20) (h : K_X5_reckon_9 (d + 1) mc ms l0 l1 l3 0 l2 0 S C Q) : K_X5_reckon_0 (d + 1) mc ms l0 l1 l2 l3 S C Q := by
  show Wp (d + 1) mc ms M_X5_reckon 0 [cA l0, cA l1, cI l2, cA l3, cU, cU, cU, cU, cU] [] S C Q
  refine wp_iconst (nx := 1) dX5_reckon_0 rfl (i32 (by decide)) ?_
  refine wp_istore (nx := 3) dX5_reckon_1 rfl (by decide) ?_
  refine wp_ls (ls2 := [cA l0, cA l1, cI l2, cA l3, cI 0, cU, cU, cU, cU]) rfl ?_
  refine wp_iload_n (nx := 4) dX5_reckon_3 rfl rfl ?_
  refine wp_istore (nx := 6) dX5_reckon_4 rfl (by decide) ?_
  refine wp_ls (ls2 := [cA l0, cA l1, cI l2, cA l3, cI 0, cI l2, cU, cU, cU]) rfl ?_
  refine wp_iconst (nx := 7) dX5_reckon_6 rfl (i32 (by decide)) ?_
  refine wp_istore (nx := 9) dX5_reckon_7 rfl (by decide) ?_
  refine wp_ls (ls2 := [cA l0, cA l1, cI l2, cA l3, cI 0, cI l2, cI 0, cU, cU]) rfl ?_
  refine wp_fg [true, true, false, true, true, true, true, false, false] (ls2 := [cA l0, cA l1, cU, cA l3, cI 0, cI l2, cI 0, cU, cU]) rfl ?_
  exact h
theorem b_X5_reckon_9 {d mc ms : Nat} {l0 l1 l3 l4 l5 l6 : Int} {S : MS} {C : MC} {Q : Int → MS → MC → Prop} (F : Fix S) (hr_l0 : isRk l0) (ha_l1 : Arr S l1 20) (ha_l3 : Arr S l3 20) (h : ((S.2.2.1 l1 ≤ l6 → Q (-1152921504606846976) S C) ∧ (¬ S.2.2.1 l1 ≤ l6 → ((l5 < 0 → Q (-1152921504606846976) S C) ∧ (¬ l5 < 0 → ((l5 < S.2.2.1 l1 → ((0 : Int) ≤ l5 ∧ l5 < S.2.2.1 l1) ∧ ((0 : Int) ≤ l5 ∧ l5 < S.2.2.1 l1) ∧ ((¬ iAnd (C l1 l5) 15 = 0 → ((iAnd (C l1 l5) 15 = 1 → K_X5_reckon_88 (d + 1) mc ms l0 l1 l3 l4 (w32 (l5 + 1)) l6 (iAnd (C l1 l5) 15) (iShr (C l1 l5) 4) S C Q) ∧ (¬ iAnd (C l1 l5) 15 = 1 → ((¬ iAnd (C l1 l5) 15 = 2 → ((iAnd (C l1 l5) 15 < 11 → ((2 ≤ l4 → ((0 : Int) ≤ w32 ((w32 (l4 + (-1))) - 1) ∧ w32 ((w32 (l4 + (-1))) - 1) < 50) ∧ ((0 : Int) ≤ w32 (l4 + (-1)) ∧ w32 (l4 + (-1)) < 50) ∧ K_X5_join_0 d 0 0 (iAnd (C l1 l5) 15) (C (l0 + 1) (w32 ((w32 (l4 + (-1))) - 1))) (C (l0 + 1) (w32 (l4 + (-1)))) S C (fun r1 Sq C2 => Sq = S ∧ ((0 : Int) ≤ w32 ((w32 (l4 + (-1))) - 1) ∧ w32 ((w32 (l4 + (-1))) - 1) < 50) ∧ ((0 : Int) ≤ w32 ((w32 (l4 + (-1))) - 1) ∧ w32 ((w32 (l4 + (-1))) - 1) < 50) ∧ ((¬ lCmp r1 (-1152921504606846976) = 0 → K_X5_reckon_9 (d + 1) mc ms l0 l1 l3 (w32 (l4 + (-1))) (w32 (l5 + 1)) (w32 (l6 + 1)) S (upC C2 (l0 + 1) (w32 ((w32 (l4 + (-1))) - 1)) r1) Q) ∧ (lCmp r1 (-1152921504606846976) = 0 → Q (-1152921504606846976) S (upC C2 (l0 + 1) (w32 ((w32 (l4 + (-1))) - 1)) r1))))) ∧ (¬ 2 ≤ l4 → Q (-1152921504606846976) S C))) ∧ (¬ iAnd (C l1 l5) 15 < 11 → ((1 ≤ l4 → ((¬ iAnd (C l1 l5) 15 = 11 → ((0 : Int) ≤ w32 (l4 - 1) ∧ w32 (l4 - 1) < 50) ∧ ((¬ iAnd (C l1 l5) 15 = 13 → ((¬ lCmp (C (l0 + 1) (w32 (l4 - 1))) 0 = 0 → K_X5_reckon_9 (d + 1) mc ms l0 l1 l3 (w32 (l4 + (-1))) (w32 (l5 + 1)) (w32 (l6 + 1)) S C Q) ∧ (lCmp (C (l0 + 1) (w32 (l4 - 1))) 0 = 0 → K_X5_reckon_9 (d + 1) mc ms l0 l1 l3 l4 (iShr (C l1 l5) 4) (w32 (l6 + 1)) S C Q))) ∧ (iAnd (C l1 l5) 15 = 13 → ((¬ lCmp (C (l0 + 1) (w32 (l4 - 1))) 1 = 0 → K_X5_reckon_9 (d + 1) mc ms l0 l1 l3 (w32 (l4 + (-1))) (w32 (l5 + 1)) (w32 (l6 + 1)) S C Q) ∧ (lCmp (C (l0 + 1) (w32 (l4 - 1))) 1 = 0 → K_X5_reckon_9 (d + 1) mc ms l0 l1 l3 l4 (iShr (C l1 l5) 4) (w32 (l6 + 1)) S C Q))))) ∧ (iAnd (C l1 l5) 15 = 11 → ((0 : Int) ≤ w32 (l4 - 1) ∧ w32 (l4 - 1) < 50) ∧ ((0 : Int) ≤ w32 (l4 - 1) ∧ w32 (l4 - 1) < 50) ∧ K_X5_reckon_9 (d + 1) mc ms l0 l1 l3 l4 (w32 (l5 + 1)) (w32 (l6 + 1)) S (upC C (l0 + 1) (w32 (l4 - 1)) (w64 (1 - (C (l0 + 1) (w32 (l4 - 1)))))) Q))) ∧ (¬ 1 ≤ l4 → Q (-1152921504606846976) S C))))) ∧ (iAnd (C l1 l5) 15 = 2 → K_X5_reckon_88 (d + 1) mc ms l0 l1 l3 l4 (w32 (l5 + 1)) l6 (iAnd (C l1 l5) 15) (iShr (C l1 l5) 4) S C Q))))) ∧ (iAnd (C l1 l5) 15 = 0 → ((¬ l4 = 1 → Q (-1152921504606846976) S C) ∧ (l4 = 1 → Q (C (l0 + 1) 0) S C))))) ∧ (¬ l5 < S.2.2.1 l1 → Q (-1152921504606846976) S C))))))) : K_X5_reckon_9 (d + 1) mc ms l0 l1 l3 l4 l5 l6 S C Q := by
  show Wp (d + 1) mc ms M_X5_reckon 9 [cA l0, cA l1, cU, cA l3, cI l4, cI l5, cI l6, cU, cU] [] S C Q
  refine wp_iload (nx := 11) dX5_reckon_9 rfl rfl ?_
  refine wp_aload_n (nx := 12) dX5_reckon_11 rfl rfl ?_
  refine wp_alenE (nx := 13) dX5_reckon_12 rfl ha_l1.1 rfl (by rw [ha_l1.2]; decide) ?_
  refine wp_icmp_ge (nx := 16) (tg := 302) dX5_reckon_13 rfl rfl (fun hc => ?_) (fun hc => ?_)
  · have h := h.1 hc
    refine wp_ldc2 (nx := 305) dX5_reckon_302 rfl kJ_X5_15 (i64 (by decide)) ?_
    exact wp_lreturn dX5_reckon_305 rfl h
  · have h := h.2 hc
    refine wp_iload (nx := 18) dX5_reckon_16 rfl rfl ?_
    refine wp_if_lt (nx := 21) (tg := 28) dX5_reckon_18 rfl rfl (fun hc => ?_) (fun hc => ?_)
    · have h := h.1 hc
      refine wp_ldc2 (nx := 31) dX5_reckon_28 rfl kJ_X5_15 (i64 (by decide)) ?_
      exact wp_lreturn dX5_reckon_31 rfl h
    · have h := h.2 hc
      refine wp_iload (nx := 23) dX5_reckon_21 rfl rfl ?_
      refine wp_aload_n (nx := 24) dX5_reckon_23 rfl rfl ?_
      refine wp_alenE (nx := 25) dX5_reckon_24 rfl ha_l1.1 rfl (by rw [ha_l1.2]; decide) ?_
      refine wp_icmp_lt (nx := 28) (tg := 32) dX5_reckon_25 rfl rfl (fun hc => ?_) (fun hc => ?_)
      · have h := h.1 hc
        refine wp_aload_n (nx := 33) dX5_reckon_32 rfl rfl ?_
        refine wp_iload (nx := 35) dX5_reckon_33 rfl rfl ?_
        obtain ⟨hi, h⟩ := h
        refine wp_ialoadE (nx := 36) dX5_reckon_35 rfl ha_l1.1 rfl hi ha_l1.2 rfl ?_
        refine wp_bipush (nx := 38) dX5_reckon_36 rfl ⟨by decide, i32 (by decide)⟩ ?_
        refine wp_iand (nx := 39) dX5_reckon_38 rfl ?_
        refine wp_istore (nx := 41) dX5_reckon_39 rfl (by decide) ?_
        refine wp_ls (ls2 := [cA l0, cA l1, cU, cA l3, cI l4, cI l5, cI l6, cI (iAnd (C l1 l5) 15), cU]) rfl ?_
        refine wp_aload_n (nx := 42) dX5_reckon_41 rfl rfl ?_
        refine wp_iload (nx := 44) dX5_reckon_42 rfl rfl ?_
        obtain ⟨hi, h⟩ := h
        refine wp_ialoadE (nx := 45) dX5_reckon_44 rfl ha_l1.1 rfl hi ha_l1.2 rfl ?_
        refine wp_iconst (nx := 46) dX5_reckon_45 rfl (i32 (by decide)) ?_
        refine wp_ishr (nx := 47) dX5_reckon_46 rfl ?_
        refine wp_istore (nx := 49) dX5_reckon_47 rfl (by decide) ?_
        refine wp_ls (ls2 := [cA l0, cA l1, cU, cA l3, cI l4, cI l5, cI l6, cI (iAnd (C l1 l5) 15), cI (iShr (C l1 l5) 4)]) rfl ?_
        refine wp_iinc (nx := 52) dX5_reckon_49 rfl rfl (by decide) ?_
        refine wp_ls (ls2 := [cA l0, cA l1, cU, cA l3, cI l4, cI (w32 (l5 + 1)), cI l6, cI (iAnd (C l1 l5) 15), cI (iShr (C l1 l5) 4)]) rfl ?_
        refine wp_iload (nx := 54) dX5_reckon_52 rfl rfl ?_
        refine wp_if_ne (nx := 57) (tg := 76) dX5_reckon_54 rfl rfl (fun hc => ?_) (fun hc => ?_)
        · have h := h.1 hc
          refine wp_iload (nx := 78) dX5_reckon_76 rfl rfl ?_
          refine wp_iconst (nx := 79) dX5_reckon_78 rfl (i32 (by decide)) ?_
          refine wp_icmp_eq (nx := 82) (tg := 88) dX5_reckon_79 rfl rfl (fun hc => ?_) (fun hc => ?_)
          · have h := h.1 hc
            exact h
          · have h := h.2 hc
            refine wp_iload (nx := 84) dX5_reckon_82 rfl rfl ?_
            refine wp_iconst (nx := 85) dX5_reckon_84 rfl (i32 (by decide)) ?_
            refine wp_icmp_ne (nx := 88) (tg := 147) dX5_reckon_85 rfl rfl (fun hc => ?_) (fun hc => ?_)
            · have h := h.1 hc
              refine wp_iload (nx := 149) dX5_reckon_147 rfl rfl ?_
              refine wp_bipush (nx := 151) dX5_reckon_149 rfl ⟨by decide, i32 (by decide)⟩ ?_
              refine wp_icmp_lt (nx := 154) (tg := 233) dX5_reckon_151 rfl rfl (fun hc => ?_) (fun hc => ?_)
              · have h := h.1 hc
                refine wp_iload (nx := 235) dX5_reckon_233 rfl rfl ?_
                refine wp_iconst (nx := 236) dX5_reckon_235 rfl (i32 (by decide)) ?_
                refine wp_icmp_ge (nx := 239) (tg := 243) dX5_reckon_236 rfl rfl (fun hc => ?_) (fun hc => ?_)
                · have h := h.1 hc
                  refine wp_iinc (nx := 246) dX5_reckon_243 rfl rfl (by decide) ?_
                  refine wp_ls (ls2 := [cA l0, cA l1, cU, cA l3, cI (w32 (l4 + (-1))), cI (w32 (l5 + 1)), cI l6, cI (iAnd (C l1 l5) 15), cI (iShr (C l1 l5) 4)]) rfl ?_
                  refine wp_aload_n (nx := 247) dX5_reckon_246 rfl rfl ?_
                  refine wp_getAe (kk := 0) (nx := 250) clsX5 dX5_reckon_247 rfl kF_X5_9 (by decide) (rk_b0 F hr_l0) (rk_t0 F hr_l0) rfl (rk_p0 F hr_l0) ?_
                  refine wp_iload (nx := 252) dX5_reckon_250 rfl rfl ?_
                  refine wp_iconst (nx := 253) dX5_reckon_252 rfl (i32 (by decide)) ?_
                  refine wp_isub (nx := 254) dX5_reckon_253 rfl ?_
                  refine wp_iload (nx := 256) dX5_reckon_254 rfl rfl ?_
                  refine wp_aload_n (nx := 257) dX5_reckon_256 rfl rfl ?_
                  refine wp_getAe (kk := 0) (nx := 260) clsX5 dX5_reckon_257 rfl kF_X5_9 (by decide) (rk_b0 F hr_l0) (rk_t0 F hr_l0) rfl (rk_p0 F hr_l0) ?_
                  refine wp_iload (nx := 262) dX5_reckon_260 rfl rfl ?_
                  refine wp_iconst (nx := 263) dX5_reckon_262 rfl (i32 (by decide)) ?_
                  refine wp_isub (nx := 264) dX5_reckon_263 rfl ?_
                  obtain ⟨hi, h⟩ := h
                  refine wp_laloadE (nx := 265) dX5_reckon_264 rfl (rk_b1 F hr_l0) (rk_l1 F hr_l0) hi (rk_t1 F hr_l0) rfl ?_
                  refine wp_aload_n (nx := 266) dX5_reckon_265 rfl rfl ?_
                  refine wp_getAe (kk := 0) (nx := 269) clsX5 dX5_reckon_266 rfl kF_X5_9 (by decide) (rk_b0 F hr_l0) (rk_t0 F hr_l0) rfl (rk_p0 F hr_l0) ?_
                  refine wp_iload (nx := 271) dX5_reckon_269 rfl rfl ?_
                  obtain ⟨hi, h⟩ := h
                  refine wp_laloadE (nx := 272) dX5_reckon_271 rfl (rk_b1 F hr_l0) (rk_l1 F hr_l0) hi (rk_t1 F hr_l0) rfl ?_
                  refine wp_invS (nx := 275) (N := M_X5_join) (as := [cI (iAnd (C l1 l5) 15), cJ (C (l0 + 1) (w32 ((w32 (l4 + (-1))) - 1))), cJ (C (l0 + 1) (w32 (l4 + (-1))))]) (st := [cI (w32 ((w32 (l4 + (-1))) - 1)), cA (l0 + 1)]) (mc := 0) (ms := 0) (mc' := mc) (ms' := ms) dX5_reckon_272 rfl mok_X5_join kM_X5_17 ks_X5_join rfl rfl (leB rfl) (leB rfl) (z0 _) (z0 _) (Wp.mono h ?_)
                  intro r1 Sq C2 h
                  obtain ⟨e9, h⟩ := h
                  rw [e9]
                  show Wp (d + 1) mc ms M_X5_reckon 275 [cA l0, cA l1, cU, cA l3, cI (w32 (l4 + (-1))), cI (w32 (l5 + 1)), cI l6, cI (iAnd (C l1 l5) 15), cI (iShr (C l1 l5) 4)] [cJ r1, cI (w32 ((w32 (l4 + (-1))) - 1)), cA (l0 + 1)] S C2 Q
                  obtain ⟨hi, h⟩ := h
                  refine wp_lastoreE (nx := 276) dX5_reckon_275 rfl (rk_b1 F hr_l0) (rk_l1 F hr_l0) hi (rk_t1 F hr_l0) ?_
                  refine wp_aload_n (nx := 277) dX5_reckon_276 rfl rfl ?_
                  refine wp_getAe (kk := 0) (nx := 280) clsX5 dX5_reckon_277 rfl kF_X5_9 (by decide) (rk_b0 F hr_l0) (rk_t0 F hr_l0) rfl (rk_p0 F hr_l0) ?_
                  refine wp_iload (nx := 282) dX5_reckon_280 rfl rfl ?_
                  refine wp_iconst (nx := 283) dX5_reckon_282 rfl (i32 (by decide)) ?_
                  refine wp_isub (nx := 284) dX5_reckon_283 rfl ?_
                  obtain ⟨hi, h⟩ := h
                  refine wp_laloadE (nx := 285) dX5_reckon_284 rfl (rk_b1 F hr_l0) (rk_l1 F hr_l0) hi (rk_t1 F hr_l0) upC_h ?_
                  refine wp_ldc2 (nx := 288) dX5_reckon_285 rfl kJ_X5_15 (i64 (by decide)) ?_
                  refine wp_lcmp (nx := 289) dX5_reckon_288 rfl ?_
                  refine wp_if_ne (nx := 292) (tg := 296) dX5_reckon_289 rfl rfl (fun hc => ?_) (fun hc => ?_)
                  · have h := h.1 hc
                    refine wp_iinc (nx := 299) dX5_reckon_296 rfl rfl (by decide) ?_
                    refine wp_ls (ls2 := [cA l0, cA l1, cU, cA l3, cI (w32 (l4 + (-1))), cI (w32 (l5 + 1)), cI (w32 (l6 + 1)), cI (iAnd (C l1 l5) 15), cI (iShr (C l1 l5) 4)]) rfl ?_
                    refine wp_goto (nx := 9) dX5_reckon_299 rfl ?_
                    refine wp_fg [true, true, false, true, true, true, true, false, false] (ls2 := [cA l0, cA l1, cU, cA l3, cI (w32 (l4 + (-1))), cI (w32 (l5 + 1)), cI (w32 (l6 + 1)), cU, cU]) rfl ?_
                    exact h
                  · have h := h.2 hc
                    refine wp_ldc2 (nx := 295) dX5_reckon_292 rfl kJ_X5_15 (i64 (by decide)) ?_
                    exact wp_lreturn dX5_reckon_295 rfl h
                · have h := h.2 hc
                  refine wp_ldc2 (nx := 242) dX5_reckon_239 rfl kJ_X5_15 (i64 (by decide)) ?_
                  exact wp_lreturn dX5_reckon_242 rfl h
              · have h := h.2 hc
                refine wp_iload (nx := 156) dX5_reckon_154 rfl rfl ?_
                refine wp_iconst (nx := 157) dX5_reckon_156 rfl (i32 (by decide)) ?_
                refine wp_icmp_ge (nx := 160) (tg := 164) dX5_reckon_157 rfl rfl (fun hc => ?_) (fun hc => ?_)
                · have h := h.1 hc
                  refine wp_iload (nx := 166) dX5_reckon_164 rfl rfl ?_
                  refine wp_bipush (nx := 168) dX5_reckon_166 rfl ⟨by decide, i32 (by decide)⟩ ?_
                  refine wp_icmp_ne (nx := 171) (tg := 194) dX5_reckon_168 rfl rfl (fun hc => ?_) (fun hc => ?_)
                  · have h := h.1 hc
                    refine wp_aload_n (nx := 195) dX5_reckon_194 rfl rfl ?_
                    refine wp_getAe (kk := 0) (nx := 198) clsX5 dX5_reckon_195 rfl kF_X5_9 (by decide) (rk_b0 F hr_l0) (rk_t0 F hr_l0) rfl (rk_p0 F hr_l0) ?_
                    refine wp_iload (nx := 200) dX5_reckon_198 rfl rfl ?_
                    refine wp_iconst (nx := 201) dX5_reckon_200 rfl (i32 (by decide)) ?_
                    refine wp_isub (nx := 202) dX5_reckon_201 rfl ?_
                    obtain ⟨hi, h⟩ := h
                    refine wp_laloadE (nx := 203) dX5_reckon_202 rfl (rk_b1 F hr_l0) (rk_l1 F hr_l0) hi (rk_t1 F hr_l0) rfl ?_
                    refine wp_iload (nx := 205) dX5_reckon_203 rfl rfl ?_
                    refine wp_bipush (nx := 207) dX5_reckon_205 rfl ⟨by decide, i32 (by decide)⟩ ?_
                    refine wp_icmp_ne (nx := 210) (tg := 214) dX5_reckon_207 rfl rfl (fun hc => ?_) (fun hc => ?_)
                    · have h := h.1 hc
                      refine wp_iconst (nx := 215) dX5_reckon_214 rfl (i32 (by decide)) ?_
                      refine wp_i2l (nx := 216) dX5_reckon_215 rfl ?_
                      refine wp_lcmp (nx := 217) dX5_reckon_216 rfl ?_
                      refine wp_if_ne (nx := 220) (tg := 227) dX5_reckon_217 rfl rfl (fun hc => ?_) (fun hc => ?_)
                      · have h := h.1 hc
                        refine wp_iinc (nx := 230) dX5_reckon_227 rfl rfl (by decide) ?_
                        refine wp_ls (ls2 := [cA l0, cA l1, cU, cA l3, cI (w32 (l4 + (-1))), cI (w32 (l5 + 1)), cI l6, cI (iAnd (C l1 l5) 15), cI (iShr (C l1 l5) 4)]) rfl ?_
                        refine wp_goto (nx := 296) dX5_reckon_230 rfl ?_
                        refine wp_iinc (nx := 299) dX5_reckon_296 rfl rfl (by decide) ?_
                        refine wp_ls (ls2 := [cA l0, cA l1, cU, cA l3, cI (w32 (l4 + (-1))), cI (w32 (l5 + 1)), cI (w32 (l6 + 1)), cI (iAnd (C l1 l5) 15), cI (iShr (C l1 l5) 4)]) rfl ?_
                        refine wp_goto (nx := 9) dX5_reckon_299 rfl ?_
                        refine wp_fg [true, true, false, true, true, true, true, false, false] (ls2 := [cA l0, cA l1, cU, cA l3, cI (w32 (l4 + (-1))), cI (w32 (l5 + 1)), cI (w32 (l6 + 1)), cU, cU]) rfl ?_
                        exact h
                      · have h := h.2 hc
                        refine wp_iload (nx := 222) dX5_reckon_220 rfl rfl ?_
                        refine wp_istore (nx := 224) dX5_reckon_222 rfl (by decide) ?_
                        refine wp_ls (ls2 := [cA l0, cA l1, cU, cA l3, cI l4, cI (iShr (C l1 l5) 4), cI l6, cI (iAnd (C l1 l5) 15), cI (iShr (C l1 l5) 4)]) rfl ?_
                        refine wp_goto (nx := 296) dX5_reckon_224 rfl ?_
                        refine wp_iinc (nx := 299) dX5_reckon_296 rfl rfl (by decide) ?_
                        refine wp_ls (ls2 := [cA l0, cA l1, cU, cA l3, cI l4, cI (iShr (C l1 l5) 4), cI (w32 (l6 + 1)), cI (iAnd (C l1 l5) 15), cI (iShr (C l1 l5) 4)]) rfl ?_
                        refine wp_goto (nx := 9) dX5_reckon_299 rfl ?_
                        refine wp_fg [true, true, false, true, true, true, true, false, false] (ls2 := [cA l0, cA l1, cU, cA l3, cI l4, cI (iShr (C l1 l5) 4), cI (w32 (l6 + 1)), cU, cU]) rfl ?_
                        exact h
                    · have h := h.2 hc
                      refine wp_iconst (nx := 211) dX5_reckon_210 rfl (i32 (by decide)) ?_
                      refine wp_goto (nx := 215) dX5_reckon_211 rfl ?_
                      refine wp_i2l (nx := 216) dX5_reckon_215 rfl ?_
                      refine wp_lcmp (nx := 217) dX5_reckon_216 rfl ?_
                      refine wp_if_ne (nx := 220) (tg := 227) dX5_reckon_217 rfl rfl (fun hc => ?_) (fun hc => ?_)
                      · have h := h.1 hc
                        refine wp_iinc (nx := 230) dX5_reckon_227 rfl rfl (by decide) ?_
                        refine wp_ls (ls2 := [cA l0, cA l1, cU, cA l3, cI (w32 (l4 + (-1))), cI (w32 (l5 + 1)), cI l6, cI (iAnd (C l1 l5) 15), cI (iShr (C l1 l5) 4)]) rfl ?_
                        refine wp_goto (nx := 296) dX5_reckon_230 rfl ?_
                        refine wp_iinc (nx := 299) dX5_reckon_296 rfl rfl (by decide) ?_
                        refine wp_ls (ls2 := [cA l0, cA l1, cU, cA l3, cI (w32 (l4 + (-1))), cI (w32 (l5 + 1)), cI (w32 (l6 + 1)), cI (iAnd (C l1 l5) 15), cI (iShr (C l1 l5) 4)]) rfl ?_
                        refine wp_goto (nx := 9) dX5_reckon_299 rfl ?_
                        refine wp_fg [true, true, false, true, true, true, true, false, false] (ls2 := [cA l0, cA l1, cU, cA l3, cI (w32 (l4 + (-1))), cI (w32 (l5 + 1)), cI (w32 (l6 + 1)), cU, cU]) rfl ?_
                        exact h
                      · have h := h.2 hc
                        refine wp_iload (nx := 222) dX5_reckon_220 rfl rfl ?_
                        refine wp_istore (nx := 224) dX5_reckon_222 rfl (by decide) ?_
                        refine wp_ls (ls2 := [cA l0, cA l1, cU, cA l3, cI l4, cI (iShr (C l1 l5) 4), cI l6, cI (iAnd (C l1 l5) 15), cI (iShr (C l1 l5) 4)]) rfl ?_
                        refine wp_goto (nx := 296) dX5_reckon_224 rfl ?_
                        refine wp_iinc (nx := 299) dX5_reckon_296 rfl rfl (by decide) ?_
                        refine wp_ls (ls2 := [cA l0, cA l1, cU, cA l3, cI l4, cI (iShr (C l1 l5) 4), cI (w32 (l6 + 1)), cI (iAnd (C l1 l5) 15), cI (iShr (C l1 l5) 4)]) rfl ?_
                        refine wp_goto (nx := 9) dX5_reckon_299 rfl ?_
                        refine wp_fg [true, true, false, true, true, true, true, false, false] (ls2 := [cA l0, cA l1, cU, cA l3, cI l4, cI (iShr (C l1 l5) 4), cI (w32 (l6 + 1)), cU, cU]) rfl ?_
                        exact h
                  · have h := h.2 hc
                    refine wp_aload_n (nx := 172) dX5_reckon_171 rfl rfl ?_
                    refine wp_getAe (kk := 0) (nx := 175) clsX5 dX5_reckon_172 rfl kF_X5_9 (by decide) (rk_b0 F hr_l0) (rk_t0 F hr_l0) rfl (rk_p0 F hr_l0) ?_
                    refine wp_iload (nx := 177) dX5_reckon_175 rfl rfl ?_
                    refine wp_iconst (nx := 178) dX5_reckon_177 rfl (i32 (by decide)) ?_
                    refine wp_isub (nx := 179) dX5_reckon_178 rfl ?_
                    refine wp_lconst (nx := 180) (v := 1) dX5_reckon_179 rfl ⟨by decide, i64 (by decide)⟩ ?_
                    refine wp_aload_n (nx := 181) dX5_reckon_180 rfl rfl ?_
                    refine wp_getAe (kk := 0) (nx := 184) clsX5 dX5_reckon_181 rfl kF_X5_9 (by decide) (rk_b0 F hr_l0) (rk_t0 F hr_l0) rfl (rk_p0 F hr_l0) ?_
                    refine wp_iload (nx := 186) dX5_reckon_184 rfl rfl ?_
                    refine wp_iconst (nx := 187) dX5_reckon_186 rfl (i32 (by decide)) ?_
                    refine wp_isub (nx := 188) dX5_reckon_187 rfl ?_
                    obtain ⟨hi, h⟩ := h
                    refine wp_laloadE (nx := 189) dX5_reckon_188 rfl (rk_b1 F hr_l0) (rk_l1 F hr_l0) hi (rk_t1 F hr_l0) rfl ?_
                    refine wp_lsub (nx := 190) dX5_reckon_189 rfl ?_
                    obtain ⟨hi, h⟩ := h
                    refine wp_lastoreE (nx := 191) dX5_reckon_190 rfl (rk_b1 F hr_l0) (rk_l1 F hr_l0) hi (rk_t1 F hr_l0) ?_
                    refine wp_goto (nx := 296) dX5_reckon_191 rfl ?_
                    refine wp_iinc (nx := 299) dX5_reckon_296 rfl rfl (by decide) ?_
                    refine wp_ls (ls2 := [cA l0, cA l1, cU, cA l3, cI l4, cI (w32 (l5 + 1)), cI (w32 (l6 + 1)), cI (iAnd (C l1 l5) 15), cI (iShr (C l1 l5) 4)]) rfl ?_
                    refine wp_goto (nx := 9) dX5_reckon_299 rfl ?_
                    refine wp_fg [true, true, false, true, true, true, true, false, false] (ls2 := [cA l0, cA l1, cU, cA l3, cI l4, cI (w32 (l5 + 1)), cI (w32 (l6 + 1)), cU, cU]) rfl ?_
                    exact h
                · have h := h.2 hc
                  refine wp_ldc2 (nx := 163) dX5_reckon_160 rfl kJ_X5_15 (i64 (by decide)) ?_
                  exact wp_lreturn dX5_reckon_163 rfl h
            · have h := h.2 hc
              exact h
        · have h := h.2 hc
          refine wp_iload (nx := 59) dX5_reckon_57 rfl rfl ?_
          refine wp_iconst (nx := 60) dX5_reckon_59 rfl (i32 (by decide)) ?_
          refine wp_icmp_ne (nx := 63) (tg := 72) dX5_reckon_60 rfl rfl (fun hc => ?_) (fun hc => ?_)
          · have h := h.1 hc
            refine wp_ldc2 (nx := 75) dX5_reckon_72 rfl kJ_X5_15 (i64 (by decide)) ?_
            exact wp_lreturn dX5_reckon_75 rfl h
          · have h := h.2 hc
            refine wp_aload_n (nx := 64) dX5_reckon_63 rfl rfl ?_
            refine wp_getAe (kk := 0) (nx := 67) clsX5 dX5_reckon_64 rfl kF_X5_9 (by decide) (rk_b0 F hr_l0) (rk_t0 F hr_l0) rfl (rk_p0 F hr_l0) ?_
            refine wp_iconst (nx := 68) dX5_reckon_67 rfl (i32 (by decide)) ?_
            refine wp_laloadE (nx := 69) dX5_reckon_68 rfl (rk_b1 F hr_l0) (rk_l1 F hr_l0) (by decide) (rk_t1 F hr_l0) rfl ?_
            refine wp_goto (nx := 75) dX5_reckon_69 rfl ?_
            exact wp_lreturn dX5_reckon_75 rfl h
      · have h := h.2 hc
        refine wp_ldc2 (nx := 31) dX5_reckon_28 rfl kJ_X5_15 (i64 (by decide)) ?_
        exact wp_lreturn dX5_reckon_31 rfl h
theorem b_X5_reckon_88 {d mc ms : Nat} {l0 l1 l3 l4 l5 l6 l7 l8 : Int} {S : MS} {C : MC} {Q : Int → MS → MC → Prop} (F : Fix S) (hr_l0 : isRk l0) (ha_l1 : Arr S l1 20) (ha_l3 : Arr S l3 20) (h : ((50 ≤ l4 → Q (-1152921504606846976) S C) ∧ (¬ 50 ≤ l4 → ((¬ l7 = 2 → ((¬ l7 = 1 → ((0 : Int) ≤ l8 ∧ l8 < S.2.2.1 l3) ∧ ((0 : Int) ≤ l4 ∧ l4 < 50) ∧ K_X5_reckon_9 (d + 1) mc ms l0 l1 l3 (w32 (l4 + 1)) l5 (w32 (l6 + 1)) S (upC C (l0 + 1) l4 (C l3 l8)) Q) ∧ (l7 = 1 → ((0 : Int) ≤ l4 ∧ l4 < 50) ∧ K_X5_reckon_9 (d + 1) mc ms l0 l1 l3 (w32 (l4 + 1)) l5 (w32 (l6 + 1)) S (upC C (l0 + 1) l4 l8) Q))) ∧ (l7 = 2 → ((l8 < 0 → Q (-1152921504606846976) S C) ∧ (¬ l8 < 0 → ((l8 < S.2.2.1 l3 → ((¬ l7 = 1 → ((0 : Int) ≤ l8 ∧ l8 < S.2.2.1 l3) ∧ ((0 : Int) ≤ l4 ∧ l4 < 50) ∧ K_X5_reckon_9 (d + 1) mc ms l0 l1 l3 (w32 (l4 + 1)) l5 (w32 (l6 + 1)) S (upC C (l0 + 1) l4 (C l3 l8)) Q) ∧ (l7 = 1 → ((0 : Int) ≤ l4 ∧ l4 < 50) ∧ K_X5_reckon_9 (d + 1) mc ms l0 l1 l3 (w32 (l4 + 1)) l5 (w32 (l6 + 1)) S (upC C (l0 + 1) l4 l8) Q))) ∧ (¬ l8 < S.2.2.1 l3 → Q (-1152921504606846976) S C))))))))) : K_X5_reckon_88 (d + 1) mc ms l0 l1 l3 l4 l5 l6 l7 l8 S C Q := by
  show Wp (d + 1) mc ms M_X5_reckon 88 [cA l0, cA l1, cU, cA l3, cI l4, cI l5, cI l6, cI l7, cI l8] [] S C Q
  refine wp_iload (nx := 90) dX5_reckon_88 rfl rfl ?_
  refine wp_bipush (nx := 92) dX5_reckon_90 rfl ⟨by decide, i32 (by decide)⟩ ?_
  refine wp_icmp_ge (nx := 95) (tg := 113) dX5_reckon_92 rfl rfl (fun hc => ?_) (fun hc => ?_)
  · have h := h.1 hc
    refine wp_ldc2 (nx := 116) dX5_reckon_113 rfl kJ_X5_15 (i64 (by decide)) ?_
    exact wp_lreturn dX5_reckon_116 rfl h
  · have h := h.2 hc
    refine wp_iload (nx := 97) dX5_reckon_95 rfl rfl ?_
    refine wp_iconst (nx := 98) dX5_reckon_97 rfl (i32 (by decide)) ?_
    refine wp_icmp_ne (nx := 101) (tg := 117) dX5_reckon_98 rfl rfl (fun hc => ?_) (fun hc => ?_)
    · have h := h.1 hc
      refine wp_aload_n (nx := 118) dX5_reckon_117 rfl rfl ?_
      refine wp_getAe (kk := 0) (nx := 121) clsX5 dX5_reckon_118 rfl kF_X5_9 (by decide) (rk_b0 F hr_l0) (rk_t0 F hr_l0) rfl (rk_p0 F hr_l0) ?_
      refine wp_iload (nx := 123) dX5_reckon_121 rfl rfl ?_
      refine wp_iload (nx := 125) dX5_reckon_123 rfl rfl ?_
      refine wp_iconst (nx := 126) dX5_reckon_125 rfl (i32 (by decide)) ?_
      refine wp_icmp_ne (nx := 129) (tg := 135) dX5_reckon_126 rfl rfl (fun hc => ?_) (fun hc => ?_)
      · have h := h.1 hc
        refine wp_aload_n (nx := 136) dX5_reckon_135 rfl rfl ?_
        refine wp_iload (nx := 138) dX5_reckon_136 rfl rfl ?_
        obtain ⟨hi, h⟩ := h
        refine wp_ialoadE (nx := 139) dX5_reckon_138 rfl ha_l3.1 rfl hi ha_l3.2 rfl ?_
        refine wp_i2l (nx := 140) dX5_reckon_139 rfl ?_
        obtain ⟨hi, h⟩ := h
        refine wp_lastoreE (nx := 141) dX5_reckon_140 rfl (rk_b1 F hr_l0) (rk_l1 F hr_l0) hi (rk_t1 F hr_l0) ?_
        refine wp_iinc (nx := 144) dX5_reckon_141 rfl rfl (by decide) ?_
        refine wp_ls (ls2 := [cA l0, cA l1, cU, cA l3, cI (w32 (l4 + 1)), cI l5, cI l6, cI l7, cI l8]) rfl ?_
        refine wp_goto (nx := 296) dX5_reckon_144 rfl ?_
        refine wp_iinc (nx := 299) dX5_reckon_296 rfl rfl (by decide) ?_
        refine wp_ls (ls2 := [cA l0, cA l1, cU, cA l3, cI (w32 (l4 + 1)), cI l5, cI (w32 (l6 + 1)), cI l7, cI l8]) rfl ?_
        refine wp_goto (nx := 9) dX5_reckon_299 rfl ?_
        refine wp_fg [true, true, false, true, true, true, true, false, false] (ls2 := [cA l0, cA l1, cU, cA l3, cI (w32 (l4 + 1)), cI l5, cI (w32 (l6 + 1)), cU, cU]) rfl ?_
        exact h
      · have h := h.2 hc
        refine wp_iload (nx := 131) dX5_reckon_129 rfl rfl ?_
        refine wp_i2l (nx := 132) dX5_reckon_131 rfl ?_
        refine wp_goto (nx := 140) dX5_reckon_132 rfl ?_
        obtain ⟨hi, h⟩ := h
        refine wp_lastoreE (nx := 141) dX5_reckon_140 rfl (rk_b1 F hr_l0) (rk_l1 F hr_l0) hi (rk_t1 F hr_l0) ?_
        refine wp_iinc (nx := 144) dX5_reckon_141 rfl rfl (by decide) ?_
        refine wp_ls (ls2 := [cA l0, cA l1, cU, cA l3, cI (w32 (l4 + 1)), cI l5, cI l6, cI l7, cI l8]) rfl ?_
        refine wp_goto (nx := 296) dX5_reckon_144 rfl ?_
        refine wp_iinc (nx := 299) dX5_reckon_296 rfl rfl (by decide) ?_
        refine wp_ls (ls2 := [cA l0, cA l1, cU, cA l3, cI (w32 (l4 + 1)), cI l5, cI (w32 (l6 + 1)), cI l7, cI l8]) rfl ?_
        refine wp_goto (nx := 9) dX5_reckon_299 rfl ?_
        refine wp_fg [true, true, false, true, true, true, true, false, false] (ls2 := [cA l0, cA l1, cU, cA l3, cI (w32 (l4 + 1)), cI l5, cI (w32 (l6 + 1)), cU, cU]) rfl ?_
        exact h
    · have h := h.2 hc
      refine wp_iload (nx := 103) dX5_reckon_101 rfl rfl ?_
      refine wp_if_lt (nx := 106) (tg := 113) dX5_reckon_103 rfl rfl (fun hc => ?_) (fun hc => ?_)
      · have h := h.1 hc
        refine wp_ldc2 (nx := 116) dX5_reckon_113 rfl kJ_X5_15 (i64 (by decide)) ?_
        exact wp_lreturn dX5_reckon_116 rfl h
      · have h := h.2 hc
        refine wp_iload (nx := 108) dX5_reckon_106 rfl rfl ?_
        refine wp_aload_n (nx := 109) dX5_reckon_108 rfl rfl ?_
        refine wp_alenE (nx := 110) dX5_reckon_109 rfl ha_l3.1 rfl (by rw [ha_l3.2]; decide) ?_
        refine wp_icmp_lt (nx := 113) (tg := 117) dX5_reckon_110 rfl rfl (fun hc => ?_) (fun hc => ?_)
        · have h := h.1 hc
          refine wp_aload_n (nx := 118) dX5_reckon_117 rfl rfl ?_
          refine wp_getAe (kk := 0) (nx := 121) clsX5 dX5_reckon_118 rfl kF_X5_9 (by decide) (rk_b0 F hr_l0) (rk_t0 F hr_l0) rfl (rk_p0 F hr_l0) ?_
          refine wp_iload (nx := 123) dX5_reckon_121 rfl rfl ?_
          refine wp_iload (nx := 125) dX5_reckon_123 rfl rfl ?_
          refine wp_iconst (nx := 126) dX5_reckon_125 rfl (i32 (by decide)) ?_
          refine wp_icmp_ne (nx := 129) (tg := 135) dX5_reckon_126 rfl rfl (fun hc => ?_) (fun hc => ?_)
          · have h := h.1 hc
            refine wp_aload_n (nx := 136) dX5_reckon_135 rfl rfl ?_
            refine wp_iload (nx := 138) dX5_reckon_136 rfl rfl ?_
            obtain ⟨hi, h⟩ := h
            refine wp_ialoadE (nx := 139) dX5_reckon_138 rfl ha_l3.1 rfl hi ha_l3.2 rfl ?_
            refine wp_i2l (nx := 140) dX5_reckon_139 rfl ?_
            obtain ⟨hi, h⟩ := h
            refine wp_lastoreE (nx := 141) dX5_reckon_140 rfl (rk_b1 F hr_l0) (rk_l1 F hr_l0) hi (rk_t1 F hr_l0) ?_
            refine wp_iinc (nx := 144) dX5_reckon_141 rfl rfl (by decide) ?_
            refine wp_ls (ls2 := [cA l0, cA l1, cU, cA l3, cI (w32 (l4 + 1)), cI l5, cI l6, cI l7, cI l8]) rfl ?_
            refine wp_goto (nx := 296) dX5_reckon_144 rfl ?_
            refine wp_iinc (nx := 299) dX5_reckon_296 rfl rfl (by decide) ?_
            refine wp_ls (ls2 := [cA l0, cA l1, cU, cA l3, cI (w32 (l4 + 1)), cI l5, cI (w32 (l6 + 1)), cI l7, cI l8]) rfl ?_
            refine wp_goto (nx := 9) dX5_reckon_299 rfl ?_
            refine wp_fg [true, true, false, true, true, true, true, false, false] (ls2 := [cA l0, cA l1, cU, cA l3, cI (w32 (l4 + 1)), cI l5, cI (w32 (l6 + 1)), cU, cU]) rfl ?_
            exact h
          · have h := h.2 hc
            refine wp_iload (nx := 131) dX5_reckon_129 rfl rfl ?_
            refine wp_i2l (nx := 132) dX5_reckon_131 rfl ?_
            refine wp_goto (nx := 140) dX5_reckon_132 rfl ?_
            obtain ⟨hi, h⟩ := h
            refine wp_lastoreE (nx := 141) dX5_reckon_140 rfl (rk_b1 F hr_l0) (rk_l1 F hr_l0) hi (rk_t1 F hr_l0) ?_
            refine wp_iinc (nx := 144) dX5_reckon_141 rfl rfl (by decide) ?_
            refine wp_ls (ls2 := [cA l0, cA l1, cU, cA l3, cI (w32 (l4 + 1)), cI l5, cI l6, cI l7, cI l8]) rfl ?_
            refine wp_goto (nx := 296) dX5_reckon_144 rfl ?_
            refine wp_iinc (nx := 299) dX5_reckon_296 rfl rfl (by decide) ?_
            refine wp_ls (ls2 := [cA l0, cA l1, cU, cA l3, cI (w32 (l4 + 1)), cI l5, cI (w32 (l6 + 1)), cI l7, cI l8]) rfl ?_
            refine wp_goto (nx := 9) dX5_reckon_299 rfl ?_
            refine wp_fg [true, true, false, true, true, true, true, false, false] (ls2 := [cA l0, cA l1, cU, cA l3, cI (w32 (l4 + 1)), cI l5, cI (w32 (l6 + 1)), cU, cU]) rfl ?_
            exact h
        · have h := h.2 hc
          refine wp_ldc2 (nx := 116) dX5_reckon_113 rfl kJ_X5_15 (i64 (by decide)) ?_
          exact wp_lreturn dX5_reckon_116 rfl h
theorem b_X5_join_0 {d mc ms : Nat} {l0 l1 l3 : Int} {S : MS} {C : MC} {Q : Int → MS → MC → Prop} (F : Fix S) (h : ((l0 = 6 → ((¬ lCmp l3 0 = 0 → K_X5_join_22 d mc ms l0 l1 l3 S C Q) ∧ (lCmp l3 0 = 0 → Q (-1152921504606846976) S C))) ∧ (¬ l0 = 6 → ((¬ l0 = 7 → K_X5_join_22 d mc ms l0 l1 l3 S C Q) ∧ (l0 = 7 → ((¬ lCmp l3 0 = 0 → K_X5_join_22 d mc ms l0 l1 l3 S C Q) ∧ (lCmp l3 0 = 0 → Q (-1152921504606846976) S C))))))) : K_X5_join_0 d mc ms l0 l1 l3 S C Q := by
  show Wp d mc ms M_X5_join 0 [cI l0, cJ l1, cU, cJ l3, cU, cU, cU] [] S C Q
  refine wp_iload_n (nx := 1) dX5_join_0 rfl rfl ?_
  refine wp_bipush (nx := 3) dX5_join_1 rfl ⟨by decide, i32 (by decide)⟩ ?_
  refine wp_icmp_eq (nx := 6) (tg := 12) dX5_join_3 rfl rfl (fun hc => ?_) (fun hc => ?_)
  · have h := h.1 hc
    refine wp_lload_n (nx := 13) dX5_join_12 rfl rfl ?_
    refine wp_lconst (nx := 14) (v := 0) dX5_join_13 rfl ⟨by decide, i64 (by decide)⟩ ?_
    refine wp_lcmp (nx := 15) dX5_join_14 rfl ?_
    refine wp_if_ne (nx := 18) (tg := 22) dX5_join_15 rfl rfl (fun hc => ?_) (fun hc => ?_)
    · have h := h.1 hc
      exact h
    · have h := h.2 hc
      refine wp_ldc2 (nx := 21) dX5_join_18 rfl kJ_X5_15 (i64 (by decide)) ?_
      exact wp_lreturn dX5_join_21 rfl h
  · have h := h.2 hc
    refine wp_iload_n (nx := 7) dX5_join_6 rfl rfl ?_
    refine wp_bipush (nx := 9) dX5_join_7 rfl ⟨by decide, i32 (by decide)⟩ ?_
    refine wp_icmp_ne (nx := 12) (tg := 22) dX5_join_9 rfl rfl (fun hc => ?_) (fun hc => ?_)
    · have h := h.1 hc
      exact h
    · have h := h.2 hc
      refine wp_lload_n (nx := 13) dX5_join_12 rfl rfl ?_
      refine wp_lconst (nx := 14) (v := 0) dX5_join_13 rfl ⟨by decide, i64 (by decide)⟩ ?_
      refine wp_lcmp (nx := 15) dX5_join_14 rfl ?_
      refine wp_if_ne (nx := 18) (tg := 22) dX5_join_15 rfl rfl (fun hc => ?_) (fun hc => ?_)
      · have h := h.1 hc
        exact h
      · have h := h.2 hc
        refine wp_ldc2 (nx := 21) dX5_join_18 rfl kJ_X5_15 (i64 (by decide)) ?_
        exact wp_lreturn dX5_join_21 rfl h
theorem b_X5_join_22 {d mc ms : Nat} {l0 l1 l3 : Int} {S : MS} {C : MC} {Q : Int → MS → MC → Prop} (F : Fix S) (h : ((l0 < 3 ∨ 9 < l0 → ((¬ lCmp l1 l3 = 0 → ((0 < lCmp 0 1000000000 → Q (-1152921504606846976) S C) ∧ (¬ 0 < lCmp 0 1000000000 → ((0 ≤ lCmp 0 (-1000000000) → Q 0 S C) ∧ (¬ 0 ≤ lCmp 0 (-1000000000) → Q (-1152921504606846976) S C))))) ∧ (lCmp l1 l3 = 0 → ((0 < lCmp 1 1000000000 → Q (-1152921504606846976) S C) ∧ (¬ 0 < lCmp 1 1000000000 → ((0 ≤ lCmp 1 (-1000000000) → Q 1 S C) ∧ (¬ 0 ≤ lCmp 1 (-1000000000) → Q (-1152921504606846976) S C))))))) ∧ (l0 = 3 → ((0 < lCmp (w64 (l1 + l3)) 1000000000 → Q (-1152921504606846976) S C) ∧ (¬ 0 < lCmp (w64 (l1 + l3)) 1000000000 → ((0 ≤ lCmp (w64 (l1 + l3)) (-1000000000) → Q (w64 (l1 + l3)) S C) ∧ (¬ 0 ≤ lCmp (w64 (l1 + l3)) (-1000000000) → Q (-1152921504606846976) S C))))) ∧ (l0 = 4 → ((0 < lCmp (w64 (l1 - l3)) 1000000000 → Q (-1152921504606846976) S C) ∧ (¬ 0 < lCmp (w64 (l1 - l3)) 1000000000 → ((0 ≤ lCmp (w64 (l1 - l3)) (-1000000000) → Q (w64 (l1 - l3)) S C) ∧ (¬ 0 ≤ lCmp (w64 (l1 - l3)) (-1000000000) → Q (-1152921504606846976) S C))))) ∧ (l0 = 5 → ((0 < lCmp (w64 (l1 * l3)) 1000000000 → Q (-1152921504606846976) S C) ∧ (¬ 0 < lCmp (w64 (l1 * l3)) 1000000000 → ((0 ≤ lCmp (w64 (l1 * l3)) (-1000000000) → Q (w64 (l1 * l3)) S C) ∧ (¬ 0 ≤ lCmp (w64 (l1 * l3)) (-1000000000) → Q (-1152921504606846976) S C))))) ∧ (l0 = 6 → (l3 ≠ 0) ∧ ((0 < lCmp (w64 (Int.tdiv l1 l3)) 1000000000 → Q (-1152921504606846976) S C) ∧ (¬ 0 < lCmp (w64 (Int.tdiv l1 l3)) 1000000000 → ((0 ≤ lCmp (w64 (Int.tdiv l1 l3)) (-1000000000) → Q (w64 (Int.tdiv l1 l3)) S C) ∧ (¬ 0 ≤ lCmp (w64 (Int.tdiv l1 l3)) (-1000000000) → Q (-1152921504606846976) S C))))) ∧ (l0 = 7 → (l3 ≠ 0) ∧ ((0 < lCmp (w64 (Int.tmod l1 l3)) 1000000000 → Q (-1152921504606846976) S C) ∧ (¬ 0 < lCmp (w64 (Int.tmod l1 l3)) 1000000000 → ((0 ≤ lCmp (w64 (Int.tmod l1 l3)) (-1000000000) → Q (w64 (Int.tmod l1 l3)) S C) ∧ (¬ 0 ≤ lCmp (w64 (Int.tmod l1 l3)) (-1000000000) → Q (-1152921504606846976) S C))))) ∧ (l0 = 8 → ((0 ≤ lCmp l1 l3 → ((0 < lCmp 0 1000000000 → Q (-1152921504606846976) S C) ∧ (¬ 0 < lCmp 0 1000000000 → ((0 ≤ lCmp 0 (-1000000000) → Q 0 S C) ∧ (¬ 0 ≤ lCmp 0 (-1000000000) → Q (-1152921504606846976) S C))))) ∧ (¬ 0 ≤ lCmp l1 l3 → ((0 < lCmp 1 1000000000 → Q (-1152921504606846976) S C) ∧ (¬ 0 < lCmp 1 1000000000 → ((0 ≤ lCmp 1 (-1000000000) → Q 1 S C) ∧ (¬ 0 ≤ lCmp 1 (-1000000000) → Q (-1152921504606846976) S C))))))) ∧ (l0 = 9 → ((lCmp l1 l3 ≤ 0 → ((0 < lCmp 0 1000000000 → Q (-1152921504606846976) S C) ∧ (¬ 0 < lCmp 0 1000000000 → ((0 ≤ lCmp 0 (-1000000000) → Q 0 S C) ∧ (¬ 0 ≤ lCmp 0 (-1000000000) → Q (-1152921504606846976) S C))))) ∧ (¬ lCmp l1 l3 ≤ 0 → ((0 < lCmp 1 1000000000 → Q (-1152921504606846976) S C) ∧ (¬ 0 < lCmp 1 1000000000 → ((0 ≤ lCmp 1 (-1000000000) → Q 1 S C) ∧ (¬ 0 ≤ lCmp 1 (-1000000000) → Q (-1152921504606846976) S C))))))))) : K_X5_join_22 d mc ms l0 l1 l3 S C Q := by
  show Wp d mc ms M_X5_join 22 [cI l0, cJ l1, cU, cJ l3, cU, cU, cU] [] S C Q
  refine wp_iload_n (nx := 23) dX5_join_22 rfl rfl ?_
  rcases (show (l0 < 3 ∨ 9 < l0) ∨ l0 = 3 ∨ l0 = 4 ∨ l0 = 5 ∨ l0 = 6 ∨ l0 = 7 ∨ l0 = 8 ∨ l0 = 9 by omega) with hc | hc | hc | hc | hc | hc | hc | hc
  · have h := h.1 hc
    refine wp_tableOut (tg := 136) dX5_join_23 hc rfl ?_
    refine wp_lload_n (nx := 137) dX5_join_136 rfl rfl ?_
    refine wp_lload_n (nx := 138) dX5_join_137 rfl rfl ?_
    refine wp_lcmp (nx := 139) dX5_join_138 rfl ?_
    refine wp_if_ne (nx := 142) (tg := 146) dX5_join_139 rfl rfl (fun hc => ?_) (fun hc => ?_)
    · have h := h.1 hc
      refine wp_lconst (nx := 147) (v := 0) dX5_join_146 rfl ⟨by decide, i64 (by decide)⟩ ?_
      refine wp_lstore (nx := 149) dX5_join_147 rfl (by decide) ?_
      refine wp_ls (ls2 := [cI l0, cJ l1, cU, cJ l3, cU, cJ 0, cU]) rfl ?_
      refine wp_lload (nx := 151) dX5_join_149 rfl rfl ?_
      refine wp_ldc2 (nx := 154) dX5_join_151 rfl kJ_X5_21 (i64 (by decide)) ?_
      refine wp_lcmp (nx := 155) dX5_join_154 rfl ?_
      refine wp_if_gt (nx := 158) (tg := 167) dX5_join_155 rfl rfl (fun hc => ?_) (fun hc => ?_)
      · have h := h.1 hc
        refine wp_ldc2 (nx := 170) dX5_join_167 rfl kJ_X5_15 (i64 (by decide)) ?_
        refine wp_goto (nx := 175) dX5_join_170 rfl ?_
        exact wp_lreturn dX5_join_175 rfl h
      · have h := h.2 hc
        refine wp_lload (nx := 160) dX5_join_158 rfl rfl ?_
        refine wp_ldc2 (nx := 163) dX5_join_160 rfl kJ_X5_23 (i64 (by decide)) ?_
        refine wp_lcmp (nx := 164) dX5_join_163 rfl ?_
        refine wp_if_ge (nx := 167) (tg := 173) dX5_join_164 rfl rfl (fun hc => ?_) (fun hc => ?_)
        · have h := h.1 hc
          refine wp_lload (nx := 175) dX5_join_173 rfl rfl ?_
          exact wp_lreturn dX5_join_175 rfl h
        · have h := h.2 hc
          refine wp_ldc2 (nx := 170) dX5_join_167 rfl kJ_X5_15 (i64 (by decide)) ?_
          refine wp_goto (nx := 175) dX5_join_170 rfl ?_
          exact wp_lreturn dX5_join_175 rfl h
    · have h := h.2 hc
      refine wp_lconst (nx := 143) (v := 1) dX5_join_142 rfl ⟨by decide, i64 (by decide)⟩ ?_
      refine wp_goto (nx := 147) dX5_join_143 rfl ?_
      refine wp_lstore (nx := 149) dX5_join_147 rfl (by decide) ?_
      refine wp_ls (ls2 := [cI l0, cJ l1, cU, cJ l3, cU, cJ 1, cU]) rfl ?_
      refine wp_lload (nx := 151) dX5_join_149 rfl rfl ?_
      refine wp_ldc2 (nx := 154) dX5_join_151 rfl kJ_X5_21 (i64 (by decide)) ?_
      refine wp_lcmp (nx := 155) dX5_join_154 rfl ?_
      refine wp_if_gt (nx := 158) (tg := 167) dX5_join_155 rfl rfl (fun hc => ?_) (fun hc => ?_)
      · have h := h.1 hc
        refine wp_ldc2 (nx := 170) dX5_join_167 rfl kJ_X5_15 (i64 (by decide)) ?_
        refine wp_goto (nx := 175) dX5_join_170 rfl ?_
        exact wp_lreturn dX5_join_175 rfl h
      · have h := h.2 hc
        refine wp_lload (nx := 160) dX5_join_158 rfl rfl ?_
        refine wp_ldc2 (nx := 163) dX5_join_160 rfl kJ_X5_23 (i64 (by decide)) ?_
        refine wp_lcmp (nx := 164) dX5_join_163 rfl ?_
        refine wp_if_ge (nx := 167) (tg := 173) dX5_join_164 rfl rfl (fun hc => ?_) (fun hc => ?_)
        · have h := h.1 hc
          refine wp_lload (nx := 175) dX5_join_173 rfl rfl ?_
          exact wp_lreturn dX5_join_175 rfl h
        · have h := h.2 hc
          refine wp_ldc2 (nx := 170) dX5_join_167 rfl kJ_X5_15 (i64 (by decide)) ?_
          refine wp_goto (nx := 175) dX5_join_170 rfl ?_
          exact wp_lreturn dX5_join_175 rfl h
  · have h := h.2.1 hc
    refine wp_tableIn (tg := 64) (off := 41) dX5_join_23 (by omega) (by omega) (by rw [show (l0 - 3).toNat = 0 by omega]; rfl) rfl ?_
    refine wp_lload_n (nx := 65) dX5_join_64 rfl rfl ?_
    refine wp_lload_n (nx := 66) dX5_join_65 rfl rfl ?_
    refine wp_ladd (nx := 67) dX5_join_66 rfl ?_
    refine wp_lstore (nx := 69) dX5_join_67 rfl (by decide) ?_
    refine wp_ls (ls2 := [cI l0, cJ l1, cU, cJ l3, cU, cJ (w64 (l1 + l3)), cU]) rfl ?_
    refine wp_goto (nx := 149) dX5_join_69 rfl ?_
    refine wp_lload (nx := 151) dX5_join_149 rfl rfl ?_
    refine wp_ldc2 (nx := 154) dX5_join_151 rfl kJ_X5_21 (i64 (by decide)) ?_
    refine wp_lcmp (nx := 155) dX5_join_154 rfl ?_
    refine wp_if_gt (nx := 158) (tg := 167) dX5_join_155 rfl rfl (fun hc => ?_) (fun hc => ?_)
    · have h := h.1 hc
      refine wp_ldc2 (nx := 170) dX5_join_167 rfl kJ_X5_15 (i64 (by decide)) ?_
      refine wp_goto (nx := 175) dX5_join_170 rfl ?_
      exact wp_lreturn dX5_join_175 rfl h
    · have h := h.2 hc
      refine wp_lload (nx := 160) dX5_join_158 rfl rfl ?_
      refine wp_ldc2 (nx := 163) dX5_join_160 rfl kJ_X5_23 (i64 (by decide)) ?_
      refine wp_lcmp (nx := 164) dX5_join_163 rfl ?_
      refine wp_if_ge (nx := 167) (tg := 173) dX5_join_164 rfl rfl (fun hc => ?_) (fun hc => ?_)
      · have h := h.1 hc
        refine wp_lload (nx := 175) dX5_join_173 rfl rfl ?_
        exact wp_lreturn dX5_join_175 rfl h
      · have h := h.2 hc
        refine wp_ldc2 (nx := 170) dX5_join_167 rfl kJ_X5_15 (i64 (by decide)) ?_
        refine wp_goto (nx := 175) dX5_join_170 rfl ?_
        exact wp_lreturn dX5_join_175 rfl h
  · have h := h.2.2.1 hc
    refine wp_tableIn (tg := 72) (off := 49) dX5_join_23 (by omega) (by omega) (by rw [show (l0 - 3).toNat = 1 by omega]; rfl) rfl ?_
    refine wp_lload_n (nx := 73) dX5_join_72 rfl rfl ?_
    refine wp_lload_n (nx := 74) dX5_join_73 rfl rfl ?_
    refine wp_lsub (nx := 75) dX5_join_74 rfl ?_
    refine wp_lstore (nx := 77) dX5_join_75 rfl (by decide) ?_
    refine wp_ls (ls2 := [cI l0, cJ l1, cU, cJ l3, cU, cJ (w64 (l1 - l3)), cU]) rfl ?_
    refine wp_goto (nx := 149) dX5_join_77 rfl ?_
    refine wp_lload (nx := 151) dX5_join_149 rfl rfl ?_
    refine wp_ldc2 (nx := 154) dX5_join_151 rfl kJ_X5_21 (i64 (by decide)) ?_
    refine wp_lcmp (nx := 155) dX5_join_154 rfl ?_
    refine wp_if_gt (nx := 158) (tg := 167) dX5_join_155 rfl rfl (fun hc => ?_) (fun hc => ?_)
    · have h := h.1 hc
      refine wp_ldc2 (nx := 170) dX5_join_167 rfl kJ_X5_15 (i64 (by decide)) ?_
      refine wp_goto (nx := 175) dX5_join_170 rfl ?_
      exact wp_lreturn dX5_join_175 rfl h
    · have h := h.2 hc
      refine wp_lload (nx := 160) dX5_join_158 rfl rfl ?_
      refine wp_ldc2 (nx := 163) dX5_join_160 rfl kJ_X5_23 (i64 (by decide)) ?_
      refine wp_lcmp (nx := 164) dX5_join_163 rfl ?_
      refine wp_if_ge (nx := 167) (tg := 173) dX5_join_164 rfl rfl (fun hc => ?_) (fun hc => ?_)
      · have h := h.1 hc
        refine wp_lload (nx := 175) dX5_join_173 rfl rfl ?_
        exact wp_lreturn dX5_join_175 rfl h
      · have h := h.2 hc
        refine wp_ldc2 (nx := 170) dX5_join_167 rfl kJ_X5_15 (i64 (by decide)) ?_
        refine wp_goto (nx := 175) dX5_join_170 rfl ?_
        exact wp_lreturn dX5_join_175 rfl h
  · have h := h.2.2.2.1 hc
    refine wp_tableIn (tg := 80) (off := 57) dX5_join_23 (by omega) (by omega) (by rw [show (l0 - 3).toNat = 2 by omega]; rfl) rfl ?_
    refine wp_lload_n (nx := 81) dX5_join_80 rfl rfl ?_
    refine wp_lload_n (nx := 82) dX5_join_81 rfl rfl ?_
    refine wp_lmul (nx := 83) dX5_join_82 rfl ?_
    refine wp_lstore (nx := 85) dX5_join_83 rfl (by decide) ?_
    refine wp_ls (ls2 := [cI l0, cJ l1, cU, cJ l3, cU, cJ (w64 (l1 * l3)), cU]) rfl ?_
    refine wp_goto (nx := 149) dX5_join_85 rfl ?_
    refine wp_lload (nx := 151) dX5_join_149 rfl rfl ?_
    refine wp_ldc2 (nx := 154) dX5_join_151 rfl kJ_X5_21 (i64 (by decide)) ?_
    refine wp_lcmp (nx := 155) dX5_join_154 rfl ?_
    refine wp_if_gt (nx := 158) (tg := 167) dX5_join_155 rfl rfl (fun hc => ?_) (fun hc => ?_)
    · have h := h.1 hc
      refine wp_ldc2 (nx := 170) dX5_join_167 rfl kJ_X5_15 (i64 (by decide)) ?_
      refine wp_goto (nx := 175) dX5_join_170 rfl ?_
      exact wp_lreturn dX5_join_175 rfl h
    · have h := h.2 hc
      refine wp_lload (nx := 160) dX5_join_158 rfl rfl ?_
      refine wp_ldc2 (nx := 163) dX5_join_160 rfl kJ_X5_23 (i64 (by decide)) ?_
      refine wp_lcmp (nx := 164) dX5_join_163 rfl ?_
      refine wp_if_ge (nx := 167) (tg := 173) dX5_join_164 rfl rfl (fun hc => ?_) (fun hc => ?_)
      · have h := h.1 hc
        refine wp_lload (nx := 175) dX5_join_173 rfl rfl ?_
        exact wp_lreturn dX5_join_175 rfl h
      · have h := h.2 hc
        refine wp_ldc2 (nx := 170) dX5_join_167 rfl kJ_X5_15 (i64 (by decide)) ?_
        refine wp_goto (nx := 175) dX5_join_170 rfl ?_
        exact wp_lreturn dX5_join_175 rfl h
  · have h := h.2.2.2.2.1 hc
    refine wp_tableIn (tg := 88) (off := 65) dX5_join_23 (by omega) (by omega) (by rw [show (l0 - 3).toNat = 3 by omega]; rfl) rfl ?_
    refine wp_lload_n (nx := 89) dX5_join_88 rfl rfl ?_
    refine wp_lload_n (nx := 90) dX5_join_89 rfl rfl ?_
    obtain ⟨h0, h⟩ := h
    refine wp_ldiv (nx := 91) dX5_join_90 rfl h0 ?_
    refine wp_lstore (nx := 93) dX5_join_91 rfl (by decide) ?_
    refine wp_ls (ls2 := [cI l0, cJ l1, cU, cJ l3, cU, cJ (w64 (Int.tdiv l1 l3)), cU]) rfl ?_
    refine wp_goto (nx := 149) dX5_join_93 rfl ?_
    refine wp_lload (nx := 151) dX5_join_149 rfl rfl ?_
    refine wp_ldc2 (nx := 154) dX5_join_151 rfl kJ_X5_21 (i64 (by decide)) ?_
    refine wp_lcmp (nx := 155) dX5_join_154 rfl ?_
    refine wp_if_gt (nx := 158) (tg := 167) dX5_join_155 rfl rfl (fun hc => ?_) (fun hc => ?_)
    · have h := h.1 hc
      refine wp_ldc2 (nx := 170) dX5_join_167 rfl kJ_X5_15 (i64 (by decide)) ?_
      refine wp_goto (nx := 175) dX5_join_170 rfl ?_
      exact wp_lreturn dX5_join_175 rfl h
    · have h := h.2 hc
      refine wp_lload (nx := 160) dX5_join_158 rfl rfl ?_
      refine wp_ldc2 (nx := 163) dX5_join_160 rfl kJ_X5_23 (i64 (by decide)) ?_
      refine wp_lcmp (nx := 164) dX5_join_163 rfl ?_
      refine wp_if_ge (nx := 167) (tg := 173) dX5_join_164 rfl rfl (fun hc => ?_) (fun hc => ?_)
      · have h := h.1 hc
        refine wp_lload (nx := 175) dX5_join_173 rfl rfl ?_
        exact wp_lreturn dX5_join_175 rfl h
      · have h := h.2 hc
        refine wp_ldc2 (nx := 170) dX5_join_167 rfl kJ_X5_15 (i64 (by decide)) ?_
        refine wp_goto (nx := 175) dX5_join_170 rfl ?_
        exact wp_lreturn dX5_join_175 rfl h
  · have h := h.2.2.2.2.2.1 hc
    refine wp_tableIn (tg := 96) (off := 73) dX5_join_23 (by omega) (by omega) (by rw [show (l0 - 3).toNat = 4 by omega]; rfl) rfl ?_
    refine wp_lload_n (nx := 97) dX5_join_96 rfl rfl ?_
    refine wp_lload_n (nx := 98) dX5_join_97 rfl rfl ?_
    obtain ⟨h0, h⟩ := h
    refine wp_lrem (nx := 99) dX5_join_98 rfl h0 ?_
    refine wp_lstore (nx := 101) dX5_join_99 rfl (by decide) ?_
    refine wp_ls (ls2 := [cI l0, cJ l1, cU, cJ l3, cU, cJ (w64 (Int.tmod l1 l3)), cU]) rfl ?_
    refine wp_goto (nx := 149) dX5_join_101 rfl ?_
    refine wp_lload (nx := 151) dX5_join_149 rfl rfl ?_
    refine wp_ldc2 (nx := 154) dX5_join_151 rfl kJ_X5_21 (i64 (by decide)) ?_
    refine wp_lcmp (nx := 155) dX5_join_154 rfl ?_
    refine wp_if_gt (nx := 158) (tg := 167) dX5_join_155 rfl rfl (fun hc => ?_) (fun hc => ?_)
    · have h := h.1 hc
      refine wp_ldc2 (nx := 170) dX5_join_167 rfl kJ_X5_15 (i64 (by decide)) ?_
      refine wp_goto (nx := 175) dX5_join_170 rfl ?_
      exact wp_lreturn dX5_join_175 rfl h
    · have h := h.2 hc
      refine wp_lload (nx := 160) dX5_join_158 rfl rfl ?_
      refine wp_ldc2 (nx := 163) dX5_join_160 rfl kJ_X5_23 (i64 (by decide)) ?_
      refine wp_lcmp (nx := 164) dX5_join_163 rfl ?_
      refine wp_if_ge (nx := 167) (tg := 173) dX5_join_164 rfl rfl (fun hc => ?_) (fun hc => ?_)
      · have h := h.1 hc
        refine wp_lload (nx := 175) dX5_join_173 rfl rfl ?_
        exact wp_lreturn dX5_join_175 rfl h
      · have h := h.2 hc
        refine wp_ldc2 (nx := 170) dX5_join_167 rfl kJ_X5_15 (i64 (by decide)) ?_
        refine wp_goto (nx := 175) dX5_join_170 rfl ?_
        exact wp_lreturn dX5_join_175 rfl h
  · have h := h.2.2.2.2.2.2.1 hc
    refine wp_tableIn (tg := 104) (off := 81) dX5_join_23 (by omega) (by omega) (by rw [show (l0 - 3).toNat = 5 by omega]; rfl) rfl ?_
    refine wp_lload_n (nx := 105) dX5_join_104 rfl rfl ?_
    refine wp_lload_n (nx := 106) dX5_join_105 rfl rfl ?_
    refine wp_lcmp (nx := 107) dX5_join_106 rfl ?_
    refine wp_if_ge (nx := 110) (tg := 114) dX5_join_107 rfl rfl (fun hc => ?_) (fun hc => ?_)
    · have h := h.1 hc
      refine wp_lconst (nx := 115) (v := 0) dX5_join_114 rfl ⟨by decide, i64 (by decide)⟩ ?_
      refine wp_lstore (nx := 117) dX5_join_115 rfl (by decide) ?_
      refine wp_ls (ls2 := [cI l0, cJ l1, cU, cJ l3, cU, cJ 0, cU]) rfl ?_
      refine wp_goto (nx := 149) dX5_join_117 rfl ?_
      refine wp_lload (nx := 151) dX5_join_149 rfl rfl ?_
      refine wp_ldc2 (nx := 154) dX5_join_151 rfl kJ_X5_21 (i64 (by decide)) ?_
      refine wp_lcmp (nx := 155) dX5_join_154 rfl ?_
      refine wp_if_gt (nx := 158) (tg := 167) dX5_join_155 rfl rfl (fun hc => ?_) (fun hc => ?_)
      · have h := h.1 hc
        refine wp_ldc2 (nx := 170) dX5_join_167 rfl kJ_X5_15 (i64 (by decide)) ?_
        refine wp_goto (nx := 175) dX5_join_170 rfl ?_
        exact wp_lreturn dX5_join_175 rfl h
      · have h := h.2 hc
        refine wp_lload (nx := 160) dX5_join_158 rfl rfl ?_
        refine wp_ldc2 (nx := 163) dX5_join_160 rfl kJ_X5_23 (i64 (by decide)) ?_
        refine wp_lcmp (nx := 164) dX5_join_163 rfl ?_
        refine wp_if_ge (nx := 167) (tg := 173) dX5_join_164 rfl rfl (fun hc => ?_) (fun hc => ?_)
        · have h := h.1 hc
          refine wp_lload (nx := 175) dX5_join_173 rfl rfl ?_
          exact wp_lreturn dX5_join_175 rfl h
        · have h := h.2 hc
          refine wp_ldc2 (nx := 170) dX5_join_167 rfl kJ_X5_15 (i64 (by decide)) ?_
          refine wp_goto (nx := 175) dX5_join_170 rfl ?_
          exact wp_lreturn dX5_join_175 rfl h
    · have h := h.2 hc
      refine wp_lconst (nx := 111) (v := 1) dX5_join_110 rfl ⟨by decide, i64 (by decide)⟩ ?_
      refine wp_goto (nx := 115) dX5_join_111 rfl ?_
      refine wp_lstore (nx := 117) dX5_join_115 rfl (by decide) ?_
      refine wp_ls (ls2 := [cI l0, cJ l1, cU, cJ l3, cU, cJ 1, cU]) rfl ?_
      refine wp_goto (nx := 149) dX5_join_117 rfl ?_
      refine wp_lload (nx := 151) dX5_join_149 rfl rfl ?_
      refine wp_ldc2 (nx := 154) dX5_join_151 rfl kJ_X5_21 (i64 (by decide)) ?_
      refine wp_lcmp (nx := 155) dX5_join_154 rfl ?_
      refine wp_if_gt (nx := 158) (tg := 167) dX5_join_155 rfl rfl (fun hc => ?_) (fun hc => ?_)
      · have h := h.1 hc
        refine wp_ldc2 (nx := 170) dX5_join_167 rfl kJ_X5_15 (i64 (by decide)) ?_
        refine wp_goto (nx := 175) dX5_join_170 rfl ?_
        exact wp_lreturn dX5_join_175 rfl h
      · have h := h.2 hc
        refine wp_lload (nx := 160) dX5_join_158 rfl rfl ?_
        refine wp_ldc2 (nx := 163) dX5_join_160 rfl kJ_X5_23 (i64 (by decide)) ?_
        refine wp_lcmp (nx := 164) dX5_join_163 rfl ?_
        refine wp_if_ge (nx := 167) (tg := 173) dX5_join_164 rfl rfl (fun hc => ?_) (fun hc => ?_)
        · have h := h.1 hc
          refine wp_lload (nx := 175) dX5_join_173 rfl rfl ?_
          exact wp_lreturn dX5_join_175 rfl h
        · have h := h.2 hc
          refine wp_ldc2 (nx := 170) dX5_join_167 rfl kJ_X5_15 (i64 (by decide)) ?_
          refine wp_goto (nx := 175) dX5_join_170 rfl ?_
          exact wp_lreturn dX5_join_175 rfl h
  · have h := h.2.2.2.2.2.2.2 hc
    refine wp_tableIn (tg := 120) (off := 97) dX5_join_23 (by omega) (by omega) (by rw [show (l0 - 3).toNat = 6 by omega]; rfl) rfl ?_
    refine wp_lload_n (nx := 121) dX5_join_120 rfl rfl ?_
    refine wp_lload_n (nx := 122) dX5_join_121 rfl rfl ?_
    refine wp_lcmp (nx := 123) dX5_join_122 rfl ?_
    refine wp_if_le (nx := 126) (tg := 130) dX5_join_123 rfl rfl (fun hc => ?_) (fun hc => ?_)
    · have h := h.1 hc
      refine wp_lconst (nx := 131) (v := 0) dX5_join_130 rfl ⟨by decide, i64 (by decide)⟩ ?_
      refine wp_lstore (nx := 133) dX5_join_131 rfl (by decide) ?_
      refine wp_ls (ls2 := [cI l0, cJ l1, cU, cJ l3, cU, cJ 0, cU]) rfl ?_
      refine wp_goto (nx := 149) dX5_join_133 rfl ?_
      refine wp_lload (nx := 151) dX5_join_149 rfl rfl ?_
      refine wp_ldc2 (nx := 154) dX5_join_151 rfl kJ_X5_21 (i64 (by decide)) ?_
      refine wp_lcmp (nx := 155) dX5_join_154 rfl ?_
      refine wp_if_gt (nx := 158) (tg := 167) dX5_join_155 rfl rfl (fun hc => ?_) (fun hc => ?_)
      · have h := h.1 hc
        refine wp_ldc2 (nx := 170) dX5_join_167 rfl kJ_X5_15 (i64 (by decide)) ?_
        refine wp_goto (nx := 175) dX5_join_170 rfl ?_
        exact wp_lreturn dX5_join_175 rfl h
      · have h := h.2 hc
        refine wp_lload (nx := 160) dX5_join_158 rfl rfl ?_
        refine wp_ldc2 (nx := 163) dX5_join_160 rfl kJ_X5_23 (i64 (by decide)) ?_
        refine wp_lcmp (nx := 164) dX5_join_163 rfl ?_
        refine wp_if_ge (nx := 167) (tg := 173) dX5_join_164 rfl rfl (fun hc => ?_) (fun hc => ?_)
        · have h := h.1 hc
          refine wp_lload (nx := 175) dX5_join_173 rfl rfl ?_
          exact wp_lreturn dX5_join_175 rfl h
        · have h := h.2 hc
          refine wp_ldc2 (nx := 170) dX5_join_167 rfl kJ_X5_15 (i64 (by decide)) ?_
          refine wp_goto (nx := 175) dX5_join_170 rfl ?_
          exact wp_lreturn dX5_join_175 rfl h
    · have h := h.2 hc
      refine wp_lconst (nx := 127) (v := 1) dX5_join_126 rfl ⟨by decide, i64 (by decide)⟩ ?_
      refine wp_goto (nx := 131) dX5_join_127 rfl ?_
      refine wp_lstore (nx := 133) dX5_join_131 rfl (by decide) ?_
      refine wp_ls (ls2 := [cI l0, cJ l1, cU, cJ l3, cU, cJ 1, cU]) rfl ?_
      refine wp_goto (nx := 149) dX5_join_133 rfl ?_
      refine wp_lload (nx := 151) dX5_join_149 rfl rfl ?_
      refine wp_ldc2 (nx := 154) dX5_join_151 rfl kJ_X5_21 (i64 (by decide)) ?_
      refine wp_lcmp (nx := 155) dX5_join_154 rfl ?_
      refine wp_if_gt (nx := 158) (tg := 167) dX5_join_155 rfl rfl (fun hc => ?_) (fun hc => ?_)
      · have h := h.1 hc
        refine wp_ldc2 (nx := 170) dX5_join_167 rfl kJ_X5_15 (i64 (by decide)) ?_
        refine wp_goto (nx := 175) dX5_join_170 rfl ?_
        exact wp_lreturn dX5_join_175 rfl h
      · have h := h.2 hc
        refine wp_lload (nx := 160) dX5_join_158 rfl rfl ?_
        refine wp_ldc2 (nx := 163) dX5_join_160 rfl kJ_X5_23 (i64 (by decide)) ?_
        refine wp_lcmp (nx := 164) dX5_join_163 rfl ?_
        refine wp_if_ge (nx := 167) (tg := 173) dX5_join_164 rfl rfl (fun hc => ?_) (fun hc => ?_)
        · have h := h.1 hc
          refine wp_lload (nx := 175) dX5_join_173 rfl rfl ?_
          exact wp_lreturn dX5_join_175 rfl h
        · have h := h.2 hc
          refine wp_ldc2 (nx := 170) dX5_join_167 rfl kJ_X5_15 (i64 (by decide)) ?_
          refine wp_goto (nx := 175) dX5_join_170 rfl ?_
          exact wp_lreturn dX5_join_175 rfl h
theorem b_X9_clear_0 {d mc ms : Nat} {S : MS} {C : MC} {Q : Int → MS → MC → Prop} (F : Fix S) (h : Q 0 S (upC (upC (upC C 30 0 0) 30 1 0) 30 2 0)) : K_X9_clear_0 d mc ms S C Q := by
  show Wp d mc ms M_X9_clear 0 [cA 30] [] S C Q
  refine wp_aload_n (nx := 1) dX9_clear_0 rfl rfl ?_
  refine wp_iconst (nx := 2) dX9_clear_1 rfl (i32 (by decide)) ?_
  refine wp_putIe (kk := 0) 0 (nx := 5) clsX9 dX9_clear_2 rfl kF_X9_36 (by decide) (fo_30 F) (ft_30 F) rfl rfl ⟨rfl, rfl⟩ rfl ?_
  refine wp_aload_n (nx := 6) dX9_clear_5 rfl rfl ?_
  refine wp_iconst (nx := 7) dX9_clear_6 rfl (i32 (by decide)) ?_
  refine wp_putIe (kk := 1) 1 (nx := 10) clsX9 dX9_clear_7 rfl kF_X9_40 (by decide) (fo_30 F) (ft_30 F) rfl rfl ⟨rfl, rfl⟩ rfl ?_
  refine wp_aload_n (nx := 11) dX9_clear_10 rfl rfl ?_
  refine wp_iconst (nx := 12) dX9_clear_11 rfl (i32 (by decide)) ?_
  refine wp_putIe (kk := 2) 2 (nx := 15) clsX9 dX9_clear_12 rfl kF_X9_46 (by decide) (fo_30 F) (ft_30 F) rfl rfl (fz_of (Or.inl rfl)) rfl ?_
  exact wp_return dX9_clear_15 rfl h
theorem b_X9_begin_0 {d mc ms : Nat} {l1 l2 : Int} {S : MS} {C : MC} {Q : Int → MS → MC → Prop} (F : Fix S) (h : ((l1 < 0 → Q 0 S C) ∧ (¬ l1 < 0 → ((l1 < 12 → ((0 : Int) ≤ l1 ∧ l1 < 12) ∧ ((0 : Int) ≤ l1 ∧ l1 < 12) ∧ ((0 : Int) ≤ l1 ∧ l1 < 12) ∧ ((0 : Int) ≤ l1 ∧ l1 < 12) ∧ ((0 : Int) ≤ l1 ∧ l1 < 12) ∧ Q 0 S (upC (upC (upC (upC (upC (upC C 30 0 (w32 (l1 + 1))) 31 l1 l2) 32 l1 1) 33 l1 (-1)) 34 l1 (-1)) 35 l1 (-1))) ∧ (¬ l1 < 12 → Q 0 S C))))) : K_X9_begin_0 d mc ms l1 l2 S C Q := by
  show Wp d mc ms M_X9_begin 0 [cA 30, cI l1, cI l2] [] S C Q
  refine wp_iload_n (nx := 1) dX9_begin_0 rfl rfl ?_
  refine wp_if_lt (nx := 4) (tg := 13) dX9_begin_1 rfl rfl (fun hc => ?_) (fun hc => ?_)
  · have h := h.1 hc
    exact wp_return dX9_begin_13 rfl h
  · have h := h.2 hc
    refine wp_iload_n (nx := 5) dX9_begin_4 rfl rfl ?_
    refine wp_aload_n (nx := 6) dX9_begin_5 rfl rfl ?_
    refine wp_getAe (kk := 3) (nx := 9) clsX9 dX9_begin_6 rfl kF_X9_15 (by decide) (fo_30 F) (ft_30 F) rfl (fp_30_3 F) ?_
    refine wp_alenE (nx := 10) dX9_begin_9 rfl (fo_31 F) (fl_31 F) (by rw [(ft_31 F)]; decide) ?_
    refine wp_icmp_lt (nx := 13) (tg := 14) dX9_begin_10 rfl rfl (fun hc => ?_) (fun hc => ?_)
    · have h := h.1 hc
      refine wp_aload_n (nx := 15) dX9_begin_14 rfl rfl ?_
      refine wp_iload_n (nx := 16) dX9_begin_15 rfl rfl ?_
      refine wp_iconst (nx := 17) dX9_begin_16 rfl (i32 (by decide)) ?_
      refine wp_iadd (nx := 18) dX9_begin_17 rfl ?_
      refine wp_putIe (kk := 0) 0 (nx := 21) clsX9 dX9_begin_18 rfl kF_X9_36 (by decide) (fo_30 F) (ft_30 F) rfl rfl ⟨rfl, rfl⟩ rfl ?_
      refine wp_aload_n (nx := 22) dX9_begin_21 rfl rfl ?_
      refine wp_getAe (kk := 3) (nx := 25) clsX9 dX9_begin_22 rfl kF_X9_15 (by decide) (fo_30 F) (ft_30 F) rfl (fp_30_3 F) ?_
      refine wp_iload_n (nx := 26) dX9_begin_25 rfl rfl ?_
      refine wp_iload_n (nx := 27) dX9_begin_26 rfl rfl ?_
      obtain ⟨hi, h⟩ := h
      refine wp_iastoreE (nx := 28) dX9_begin_27 rfl (fo_31 F) (fl_31 F) hi (ft_31 F) ?_
      refine wp_aload_n (nx := 29) dX9_begin_28 rfl rfl ?_
      refine wp_getAe (kk := 4) (nx := 32) clsX9 dX9_begin_29 rfl kF_X9_21 (by decide) (fo_30 F) (ft_30 F) rfl (fp_30_4 F) ?_
      refine wp_iload_n (nx := 33) dX9_begin_32 rfl rfl ?_
      refine wp_iconst (nx := 34) dX9_begin_33 rfl (i32 (by decide)) ?_
      obtain ⟨hi, h⟩ := h
      refine wp_iastoreE (nx := 35) dX9_begin_34 rfl (fo_32 F) (fl_32 F) hi (ft_32 F) ?_
      refine wp_aload_n (nx := 36) dX9_begin_35 rfl rfl ?_
      refine wp_getAe (kk := 5) (nx := 39) clsX9 dX9_begin_36 rfl kF_X9_24 (by decide) (fo_30 F) (ft_30 F) rfl (fp_30_5 F) ?_
      refine wp_iload_n (nx := 40) dX9_begin_39 rfl rfl ?_
      refine wp_iconst (nx := 41) dX9_begin_40 rfl (i32 (by decide)) ?_
      obtain ⟨hi, h⟩ := h
      refine wp_iastoreE (nx := 42) dX9_begin_41 rfl (fo_33 F) (fl_33 F) hi (ft_33 F) ?_
      refine wp_aload_n (nx := 43) dX9_begin_42 rfl rfl ?_
      refine wp_getAe (kk := 6) (nx := 46) clsX9 dX9_begin_43 rfl kF_X9_27 (by decide) (fo_30 F) (ft_30 F) rfl (fp_30_6 F) ?_
      refine wp_iload_n (nx := 47) dX9_begin_46 rfl rfl ?_
      refine wp_iconst (nx := 48) dX9_begin_47 rfl (i32 (by decide)) ?_
      obtain ⟨hi, h⟩ := h
      refine wp_iastoreE (nx := 49) dX9_begin_48 rfl (fo_34 F) (fl_34 F) hi (ft_34 F) ?_
      refine wp_aload_n (nx := 50) dX9_begin_49 rfl rfl ?_
      refine wp_getAe (kk := 7) (nx := 53) clsX9 dX9_begin_50 rfl kF_X9_30 (by decide) (fo_30 F) (ft_30 F) rfl (fp_30_7 F) ?_
      refine wp_iload_n (nx := 54) dX9_begin_53 rfl rfl ?_
      refine wp_iconst (nx := 55) dX9_begin_54 rfl (i32 (by decide)) ?_
      obtain ⟨hi, h⟩ := h
      refine wp_iastoreE (nx := 56) dX9_begin_55 rfl (fo_35 F) (fl_35 F) hi (ft_35 F) ?_
      exact wp_return dX9_begin_56 rfl h
    · have h := h.2 hc
      exact wp_return dX9_begin_13 rfl h
theorem b_X9_emit_0 {d mc ms : Nat} {l1 l2 : Int} {S : MS} {C : MC} {Q : Int → MS → MC → Prop} (F : Fix S) (h : ((400 ≤ C 30 1 → Q 0 S C) ∧ (¬ 400 ≤ C 30 1 → ((0 : Int) ≤ C 30 1 ∧ C 30 1 < 400) ∧ Q 0 S (upC (upC C 36 (C 30 1) (iOr (iShl l2 4) l1)) 30 1 (w32 ((C 30 1) + 1)))))) : K_X9_emit_0 d mc ms l1 l2 S C Q := by
  show Wp d mc ms M_X9_emit 0 [cA 30, cI l1, cI l2] [] S C Q
  refine wp_aload_n (nx := 1) dX9_emit_0 rfl rfl ?_
  refine wp_getIe (kk := 1) 1 (nx := 4) clsX9 dX9_emit_1 rfl kF_X9_40 (by decide) (fo_30 F) (ft_30 F) rfl rfl rfl ?_
  refine wp_aload_n (nx := 5) dX9_emit_4 rfl rfl ?_
  refine wp_getAe (kk := 8) (nx := 8) clsX9 dX9_emit_5 rfl kF_X9_33 (by decide) (fo_30 F) (ft_30 F) rfl (fp_30_8 F) ?_
  refine wp_alenE (nx := 9) dX9_emit_8 rfl (fo_36 F) (fl_36 F) (by rw [(ft_36 F)]; decide) ?_
  refine wp_icmp_ge (nx := 12) (tg := 36) dX9_emit_9 rfl rfl (fun hc => ?_) (fun hc => ?_)
  · have h := h.1 hc
    exact wp_return dX9_emit_36 rfl h
  · have h := h.2 hc
    refine wp_aload_n (nx := 13) dX9_emit_12 rfl rfl ?_
    refine wp_getAe (kk := 8) (nx := 16) clsX9 dX9_emit_13 rfl kF_X9_33 (by decide) (fo_30 F) (ft_30 F) rfl (fp_30_8 F) ?_
    refine wp_aload_n (nx := 17) dX9_emit_16 rfl rfl ?_
    refine wp_getIe (kk := 1) 1 (nx := 20) clsX9 dX9_emit_17 rfl kF_X9_40 (by decide) (fo_30 F) (ft_30 F) rfl rfl rfl ?_
    refine wp_iload_n (nx := 21) dX9_emit_20 rfl rfl ?_
    refine wp_iconst (nx := 22) dX9_emit_21 rfl (i32 (by decide)) ?_
    refine wp_ishl (nx := 23) dX9_emit_22 rfl ?_
    refine wp_iload_n (nx := 24) dX9_emit_23 rfl rfl ?_
    refine wp_ior (nx := 25) dX9_emit_24 rfl ?_
    obtain ⟨hi, h⟩ := h
    refine wp_iastoreE (nx := 26) dX9_emit_25 rfl (fo_36 F) (fl_36 F) hi (ft_36 F) ?_
    refine wp_aload_n (nx := 27) dX9_emit_26 rfl rfl ?_
    refine wp_dup (nx := 28) dX9_emit_27 rfl (k1A _) ?_
    refine wp_getIe (kk := 1) 1 (nx := 31) clsX9 dX9_emit_28 rfl kF_X9_40 (by decide) (fo_30 F) (ft_30 F) rfl rfl (upC_sA (by decide)) ?_
    refine wp_iconst (nx := 32) dX9_emit_31 rfl (i32 (by decide)) ?_
    refine wp_iadd (nx := 33) dX9_emit_32 rfl ?_
    refine wp_putIe (kk := 1) 1 (nx := 36) clsX9 dX9_emit_33 rfl kF_X9_40 (by decide) (fo_30 F) (ft_30 F) rfl rfl ⟨rfl, rfl⟩ rfl ?_
    exact wp_return dX9_emit_36 rfl h
theorem b_X9_landHere_0 {d mc ms : Nat} {l1 : Int} {S : MS} {C : MC} {Q : Int → MS → MC → Prop} (F : Fix S) (h : ((l1 < 0 → Q 0 S C) ∧ (¬ l1 < 0 → ((C 30 1 ≤ l1 → Q 0 S C) ∧ (¬ C 30 1 ≤ l1 → ((0 : Int) ≤ l1 ∧ l1 < 400) ∧ ((0 : Int) ≤ l1 ∧ l1 < 400) ∧ Q 0 S (upC C 36 l1 (iOr (C 36 l1) (iShl (C 30 1) 4)))))))) : K_X9_landHere_0 d mc ms l1 S C Q := by
  show Wp d mc ms M_X9_landHere 0 [cA 30, cI l1] [] S C Q
  refine wp_iload_n (nx := 1) dX9_landHere_0 rfl rfl ?_
  refine wp_if_lt (nx := 4) (tg := 27) dX9_landHere_1 rfl rfl (fun hc => ?_) (fun hc => ?_)
  · have h := h.1 hc
    exact wp_return dX9_landHere_27 rfl h
  · have h := h.2 hc
    refine wp_iload_n (nx := 5) dX9_landHere_4 rfl rfl ?_
    refine wp_aload_n (nx := 6) dX9_landHere_5 rfl rfl ?_
    refine wp_getIe (kk := 1) 1 (nx := 9) clsX9 dX9_landHere_6 rfl kF_X9_40 (by decide) (fo_30 F) (ft_30 F) rfl rfl rfl ?_
    refine wp_icmp_ge (nx := 12) (tg := 27) dX9_landHere_9 rfl rfl (fun hc => ?_) (fun hc => ?_)
    · have h := h.1 hc
      exact wp_return dX9_landHere_27 rfl h
    · have h := h.2 hc
      refine wp_aload_n (nx := 13) dX9_landHere_12 rfl rfl ?_
      refine wp_getAe (kk := 8) (nx := 16) clsX9 dX9_landHere_13 rfl kF_X9_33 (by decide) (fo_30 F) (ft_30 F) rfl (fp_30_8 F) ?_
      refine wp_iload_n (nx := 17) dX9_landHere_16 rfl rfl ?_
      refine wp_dup2 (nx := 18) dX9_landHere_17 rfl (k1I _) (k1A _) ?_
      obtain ⟨hi, h⟩ := h
      refine wp_ialoadE (nx := 19) dX9_landHere_18 rfl (fo_36 F) (fl_36 F) hi (ft_36 F) rfl ?_
      refine wp_aload_n (nx := 20) dX9_landHere_19 rfl rfl ?_
      refine wp_getIe (kk := 1) 1 (nx := 23) clsX9 dX9_landHere_20 rfl kF_X9_40 (by decide) (fo_30 F) (ft_30 F) rfl rfl rfl ?_
      refine wp_iconst (nx := 24) dX9_landHere_23 rfl (i32 (by decide)) ?_
      refine wp_ishl (nx := 25) dX9_landHere_24 rfl ?_
      refine wp_ior (nx := 26) dX9_landHere_25 rfl ?_
      obtain ⟨hi, h⟩ := h
      refine wp_iastoreE (nx := 27) dX9_landHere_26 rfl (fo_36 F) (fl_36 F) hi (ft_36 F) ?_
      exact wp_return dX9_landHere_27 rfl h
theorem b_X8_add_0 {d mc ms : Nat} {l1 : Int} {S : MS} {C : MC} {Q : Int → MS → MC → Prop} (F : Fix S) (h : K_X8_add_3 d mc ms l1 24 S C Q) : K_X8_add_0 d mc ms l1 S C Q := by
  show Wp d mc ms M_X8_add 0 [cA 27, cI l1, cU] [] S C Q
  refine wp_bipush (nx := 2) dX8_add_0 rfl ⟨by decide, i32 (by decide)⟩ ?_
  refine wp_istore_n (nx := 3) dX8_add_2 rfl (by decide) ?_
  refine wp_ls (ls2 := [cA 27, cI l1, cI 24]) rfl ?_
  exact h
theorem b_X8_add_3 {d mc ms : Nat} {l1 l2 : Int} {S : MS} {C : MC} {Q : Int → MS → MC → Prop} (F : Fix S) (h : ((l2 < 0 → Q 0 S C) ∧ (¬ l2 < 0 → ((400 ≤ C 27 1 → Q 0 S C) ∧ (¬ 400 ≤ C 27 1 → ((0 : Int) ≤ C 27 1 ∧ C 27 1 < 400) ∧ K_X8_add_3 d mc ms l1 (w32 (l2 + (-8))) S (upC (upC C 28 (C 27 1) (nB (i2b (iShr l1 l2)))) 27 1 (w32 ((C 27 1) + 1))) Q))))) : K_X8_add_3 d mc ms l1 l2 S C Q := by
  show Wp d mc ms M_X8_add 3 [cA 27, cI l1, cI l2] [] S C Q
  refine wp_iload_n (nx := 4) dX8_add_3 rfl rfl ?_
  refine wp_if_lt (nx := 7) (tg := 46) dX8_add_4 rfl rfl (fun hc => ?_) (fun hc => ?_)
  · have h := h.1 hc
    exact wp_return dX8_add_46 rfl h
  · have h := h.2 hc
    refine wp_aload_n (nx := 8) dX8_add_7 rfl rfl ?_
    refine wp_getIe (kk := 1) 1 (nx := 11) clsX8 dX8_add_8 rfl kF_X8_15 (by decide) (fo_27 F) (ft_27 F) rfl rfl rfl ?_
    refine wp_sipush (nx := 14) dX8_add_11 rfl ⟨by decide, i32 (by decide)⟩ ?_
    refine wp_icmp_ge (nx := 17) (tg := 46) dX8_add_14 rfl rfl (fun hc => ?_) (fun hc => ?_)
    · have h := h.1 hc
      exact wp_return dX8_add_46 rfl h
    · have h := h.2 hc
      refine wp_aload_n (nx := 18) dX8_add_17 rfl rfl ?_
      refine wp_getAe (kk := 0) (nx := 21) clsX8 dX8_add_18 rfl kF_X8_9 (by decide) (fo_27 F) (ft_27 F) rfl (fp_27_0 F) ?_
      refine wp_aload_n (nx := 22) dX8_add_21 rfl rfl ?_
      refine wp_getIe (kk := 1) 1 (nx := 25) clsX8 dX8_add_22 rfl kF_X8_15 (by decide) (fo_27 F) (ft_27 F) rfl rfl rfl ?_
      refine wp_iload_n (nx := 26) dX8_add_25 rfl rfl ?_
      refine wp_iload_n (nx := 27) dX8_add_26 rfl rfl ?_
      refine wp_ishr (nx := 28) dX8_add_27 rfl ?_
      refine wp_i2b (nx := 29) dX8_add_28 rfl ?_
      obtain ⟨hi, h⟩ := h
      refine wp_bastoreE (nx := 30) dX8_add_29 rfl (fo_28 F) (fl_28 F) hi (ft_28 F) ?_
      refine wp_aload_n (nx := 31) dX8_add_30 rfl rfl ?_
      refine wp_dup (nx := 32) dX8_add_31 rfl (k1A _) ?_
      refine wp_getIe (kk := 1) 1 (nx := 35) clsX8 dX8_add_32 rfl kF_X8_15 (by decide) (fo_27 F) (ft_27 F) rfl rfl (upC_sA (by decide)) ?_
      refine wp_iconst (nx := 36) dX8_add_35 rfl (i32 (by decide)) ?_
      refine wp_iadd (nx := 37) dX8_add_36 rfl ?_
      refine wp_putIe (kk := 1) 1 (nx := 40) clsX8 dX8_add_37 rfl kF_X8_15 (by decide) (fo_27 F) (ft_27 F) rfl rfl ⟨rfl, rfl⟩ rfl ?_
      refine wp_iinc (nx := 43) dX8_add_40 rfl rfl (by decide) ?_
      refine wp_ls (ls2 := [cA 27, cI l1, cI (w32 (l2 + (-8)))]) rfl ?_
      refine wp_goto (nx := 3) dX8_add_43 rfl ?_
      exact h
theorem b_X8_byteAt_0 {d mc ms : Nat} {l1 : Int} {S : MS} {C : MC} {Q : Int → MS → MC → Prop} (F : Fix S) (h : ((l1 < 0 → Q (-1) S C) ∧ (¬ l1 < 0 → ((C 27 1 ≤ l1 → Q (-1) S C) ∧ (¬ C 27 1 ≤ l1 → ((0 : Int) ≤ l1 ∧ l1 < 400) ∧ Q (iAnd (C 28 l1) 255) S C))))) : K_X8_byteAt_0 d mc ms l1 S C Q := by
  show Wp d mc ms M_X8_byteAt 0 [cA 27, cI l1] [] S C Q
  refine wp_iload_n (nx := 1) dX8_byteAt_0 rfl rfl ?_
  refine wp_if_lt (nx := 4) (tg := 25) dX8_byteAt_1 rfl rfl (fun hc => ?_) (fun hc => ?_)
  · have h := h.1 hc
    refine wp_iconst (nx := 26) dX8_byteAt_25 rfl (i32 (by decide)) ?_
    exact wp_ireturn dX8_byteAt_26 rfl rfl rfl h
  · have h := h.2 hc
    refine wp_iload_n (nx := 5) dX8_byteAt_4 rfl rfl ?_
    refine wp_aload_n (nx := 6) dX8_byteAt_5 rfl rfl ?_
    refine wp_getIe (kk := 1) 1 (nx := 9) clsX8 dX8_byteAt_6 rfl kF_X8_15 (by decide) (fo_27 F) (ft_27 F) rfl rfl rfl ?_
    refine wp_icmp_ge (nx := 12) (tg := 25) dX8_byteAt_9 rfl rfl (fun hc => ?_) (fun hc => ?_)
    · have h := h.1 hc
      refine wp_iconst (nx := 26) dX8_byteAt_25 rfl (i32 (by decide)) ?_
      exact wp_ireturn dX8_byteAt_26 rfl rfl rfl h
    · have h := h.2 hc
      refine wp_aload_n (nx := 13) dX8_byteAt_12 rfl rfl ?_
      refine wp_getAe (kk := 0) (nx := 16) clsX8 dX8_byteAt_13 rfl kF_X8_9 (by decide) (fo_27 F) (ft_27 F) rfl (fp_27_0 F) ?_
      refine wp_iload_n (nx := 17) dX8_byteAt_16 rfl rfl ?_
      obtain ⟨hi, h⟩ := h
      refine wp_baloadE (nx := 18) dX8_byteAt_17 rfl (fo_28 F) (fl_28 F) hi (ft_28 F) rfl ?_
      refine wp_sipush (nx := 21) dX8_byteAt_18 rfl ⟨by decide, i32 (by decide)⟩ ?_
      refine wp_iand (nx := 22) dX8_byteAt_21 rfl ?_
      refine wp_goto (nx := 26) dX8_byteAt_22 rfl ?_
      exact wp_ireturn dX8_byteAt_26 rfl rfl rfl h
theorem b_X8_tokenEnd_0 {d mc ms : Nat} {l1 : Int} {S : MS} {C : MC} {Q : Int → MS → MC → Prop} (F : Fix S) (h : K_X8_byteAt_0 d 0 0 l1 S C (fun r1 Sq C2 => Sq = S ∧ K_X10_isLetter_0 d 0 0 r1 S C2 (fun r3 Sq C4 => Sq = S ∧ ((r3 = 0 → K_X8_byteAt_0 d 0 0 l1 S C4 (fun r5 Sq C6 => Sq = S ∧ K_X10_isDigit_0 d 0 0 r5 S C6 (fun r7 Sq C8 => Sq = S ∧ ((r7 = 0 → Q (w32 (l1 + 1)) S C8) ∧ (¬ r7 = 0 → K_X8_tokenEnd_51 (d + 1) mc ms (w32 (l1 + 1)) S C8 Q))))) ∧ (¬ r3 = 0 → K_X8_tokenEnd_15 (d + 1) mc ms (w32 (l1 + 1)) S C4 Q))))) : K_X8_tokenEnd_0 (d + 1) mc ms l1 S C Q := by
  show Wp (d + 1) mc ms M_X8_tokenEnd 0 [cA 27, cI l1, cU] [] S C Q
  refine wp_iload_n (nx := 1) dX8_tokenEnd_0 rfl rfl ?_
  refine wp_iconst (nx := 2) dX8_tokenEnd_1 rfl (i32 (by decide)) ?_
  refine wp_iadd (nx := 3) dX8_tokenEnd_2 rfl ?_
  refine wp_istore_n (nx := 4) dX8_tokenEnd_3 rfl (by decide) ?_
  refine wp_ls (ls2 := [cA 27, cI l1, cI (w32 (l1 + 1))]) rfl ?_
  refine wp_aload_n (nx := 5) dX8_tokenEnd_4 rfl rfl ?_
  refine wp_iload_n (nx := 6) dX8_tokenEnd_5 rfl rfl ?_
  refine wp_invV (nx := 9) (N := M_X8_byteAt) (as := [cI l1]) (st := []) (mc := 0) (ms := 0) (mc' := mc) (ms' := ms) (a := 27) clsX8 dX8_tokenEnd_6 rfl mok_X8_byteAt kM_X8_19 ki_X8_byteAt ke_X8_byteAt (fo_27 F) (ft_27 F) rfl rfl (leB rfl) (leB rfl) (z0 _) (z0 _) (Wp.mono h ?_)
  intro r1 Sq C2 h
  obtain ⟨e9, h⟩ := h
  rw [e9]
  show Wp (d + 1) mc ms M_X8_tokenEnd 9 [cA 27, cI l1, cI (w32 (l1 + 1))] [cI r1] S C2 Q
  refine wp_invN (nx := 12) (N := M_X10_isLetter) (as := [cI r1]) (st := []) (mc := 0) (ms := 0) (mc' := mc) (ms' := ms) dX8_tokenEnd_9 rfl mok_X10_isLetter kN_X8_23 ks_X10_isLetter rfl rfl (leB rfl) (leB rfl) (z0 _) (z0 _) (Wp.mono h ?_)
  intro r3 Sq C4 h
  obtain ⟨e9, h⟩ := h
  rw [e9]
  show Wp (d + 1) mc ms M_X8_tokenEnd 12 [cA 27, cI l1, cI (w32 (l1 + 1))] [cI r3] S C4 Q
  refine wp_if_eq (nx := 15) (tg := 40) dX8_tokenEnd_12 rfl rfl (fun hc => ?_) (fun hc => ?_)
  · have h := h.1 hc
    refine wp_aload_n (nx := 41) dX8_tokenEnd_40 rfl rfl ?_
    refine wp_iload_n (nx := 42) dX8_tokenEnd_41 rfl rfl ?_
    refine wp_invV (nx := 45) (N := M_X8_byteAt) (as := [cI l1]) (st := []) (mc := 0) (ms := 0) (mc' := mc) (ms' := ms) (a := 27) clsX8 dX8_tokenEnd_42 rfl mok_X8_byteAt kM_X8_19 ki_X8_byteAt ke_X8_byteAt (fo_27 F) (ft_27 F) rfl rfl (leB rfl) (leB rfl) (z0 _) (z0 _) (Wp.mono h ?_)
    intro r5 Sq C6 h
    obtain ⟨e9, h⟩ := h
    rw [e9]
    show Wp (d + 1) mc ms M_X8_tokenEnd 45 [cA 27, cI l1, cI (w32 (l1 + 1))] [cI r5] S C6 Q
    refine wp_invN (nx := 48) (N := M_X10_isDigit) (as := [cI r5]) (st := []) (mc := 0) (ms := 0) (mc' := mc) (ms' := ms) dX8_tokenEnd_45 rfl mok_X10_isDigit kN_X8_27 ks_X10_isDigit rfl rfl (leB rfl) (leB rfl) (z0 _) (z0 _) (Wp.mono h ?_)
    intro r7 Sq C8 h
    obtain ⟨e9, h⟩ := h
    rw [e9]
    show Wp (d + 1) mc ms M_X8_tokenEnd 48 [cA 27, cI l1, cI (w32 (l1 + 1))] [cI r7] S C8 Q
    refine wp_if_eq (nx := 51) (tg := 76) dX8_tokenEnd_48 rfl rfl (fun hc => ?_) (fun hc => ?_)
    · have h := h.1 hc
      refine wp_iload_n (nx := 77) dX8_tokenEnd_76 rfl rfl ?_
      exact wp_ireturn dX8_tokenEnd_77 rfl rfl rfl h
    · have h := h.2 hc
      refine wp_fg [true, false, true] (ls2 := [cA 27, cU, cI (w32 (l1 + 1))]) rfl ?_
      exact h
  · have h := h.2 hc
    refine wp_fg [true, false, true] (ls2 := [cA 27, cU, cI (w32 (l1 + 1))]) rfl ?_
    exact h
theorem b_X8_tokenEnd_51 {d mc ms : Nat} {l2 : Int} {S : MS} {C : MC} {Q : Int → MS → MC → Prop} (F : Fix S) (h : ((C 27 1 ≤ l2 → Q l2 S C) ∧ (¬ C 27 1 ≤ l2 → K_X8_byteAt_0 d 0 0 l2 S C (fun r1 Sq C2 => Sq = S ∧ K_X10_isDigit_0 d 0 0 r1 S C2 (fun r3 Sq C4 => Sq = S ∧ ((r3 = 0 → Q l2 S C4) ∧ (¬ r3 = 0 → K_X8_tokenEnd_51 (d + 1) mc ms (w32 (l2 + 1)) S C4 Q))))))) : K_X8_tokenEnd_51 (d + 1) mc ms l2 S C Q := by
  show Wp (d + 1) mc ms M_X8_tokenEnd 51 [cA 27, cU, cI l2] [] S C Q
  refine wp_iload_n (nx := 52) dX8_tokenEnd_51 rfl rfl ?_
  refine wp_aload_n (nx := 53) dX8_tokenEnd_52 rfl rfl ?_
  refine wp_getIe (kk := 1) 1 (nx := 56) clsX8 dX8_tokenEnd_53 rfl kF_X8_15 (by decide) (fo_27 F) (ft_27 F) rfl rfl rfl ?_
  refine wp_icmp_ge (nx := 59) (tg := 76) dX8_tokenEnd_56 rfl rfl (fun hc => ?_) (fun hc => ?_)
  · have h := h.1 hc
    refine wp_iload_n (nx := 77) dX8_tokenEnd_76 rfl rfl ?_
    exact wp_ireturn dX8_tokenEnd_77 rfl rfl rfl h
  · have h := h.2 hc
    refine wp_aload_n (nx := 60) dX8_tokenEnd_59 rfl rfl ?_
    refine wp_iload_n (nx := 61) dX8_tokenEnd_60 rfl rfl ?_
    refine wp_invV (nx := 64) (N := M_X8_byteAt) (as := [cI l2]) (st := []) (mc := 0) (ms := 0) (mc' := mc) (ms' := ms) (a := 27) clsX8 dX8_tokenEnd_61 rfl mok_X8_byteAt kM_X8_19 ki_X8_byteAt ke_X8_byteAt (fo_27 F) (ft_27 F) rfl rfl (leB rfl) (leB rfl) (z0 _) (z0 _) (Wp.mono h ?_)
    intro r1 Sq C2 h
    obtain ⟨e9, h⟩ := h
    rw [e9]
    show Wp (d + 1) mc ms M_X8_tokenEnd 64 [cA 27, cU, cI l2] [cI r1] S C2 Q
    refine wp_invN (nx := 67) (N := M_X10_isDigit) (as := [cI r1]) (st := []) (mc := 0) (ms := 0) (mc' := mc) (ms' := ms) dX8_tokenEnd_64 rfl mok_X10_isDigit kN_X8_27 ks_X10_isDigit rfl rfl (leB rfl) (leB rfl) (z0 _) (z0 _) (Wp.mono h ?_)
    intro r3 Sq C4 h
    obtain ⟨e9, h⟩ := h
    rw [e9]
    show Wp (d + 1) mc ms M_X8_tokenEnd 67 [cA 27, cU, cI l2] [cI r3] S C4 Q
    refine wp_if_eq (nx := 70) (tg := 76) dX8_tokenEnd_67 rfl rfl (fun hc => ?_) (fun hc => ?_)
    · have h := h.1 hc
      refine wp_iload_n (nx := 77) dX8_tokenEnd_76 rfl rfl ?_
      exact wp_ireturn dX8_tokenEnd_77 rfl rfl rfl h
    · have h := h.2 hc
      refine wp_iinc (nx := 73) dX8_tokenEnd_70 rfl rfl (by decide) ?_
      refine wp_ls (ls2 := [cA 27, cU, cI (w32 (l2 + 1))]) rfl ?_
      refine wp_goto (nx := 51) dX8_tokenEnd_73 rfl ?_
      exact h
theorem b_X8_tokenEnd_15 {d mc ms : Nat} {l2 : Int} {S : MS} {C : MC} {Q : Int → MS → MC → Prop} (F : Fix S) (h : ((C 27 1 ≤ l2 → Q l2 S C) ∧ (¬ C 27 1 ≤ l2 → K_X8_byteAt_0 d 0 0 l2 S C (fun r1 Sq C2 => Sq = S ∧ K_X10_isLetter_0 d 0 0 r1 S C2 (fun r3 Sq C4 => Sq = S ∧ ((r3 = 0 → Q l2 S C4) ∧ (¬ r3 = 0 → K_X8_tokenEnd_15 (d + 1) mc ms (w32 (l2 + 1)) S C4 Q))))))) : K_X8_tokenEnd_15 (d + 1) mc ms l2 S C Q := by
  show Wp (d + 1) mc ms M_X8_tokenEnd 15 [cA 27, cU, cI l2] [] S C Q
  refine wp_iload_n (nx := 16) dX8_tokenEnd_15 rfl rfl ?_
  refine wp_aload_n (nx := 17) dX8_tokenEnd_16 rfl rfl ?_
  refine wp_getIe (kk := 1) 1 (nx := 20) clsX8 dX8_tokenEnd_17 rfl kF_X8_15 (by decide) (fo_27 F) (ft_27 F) rfl rfl rfl ?_
  refine wp_icmp_ge (nx := 23) (tg := 76) dX8_tokenEnd_20 rfl rfl (fun hc => ?_) (fun hc => ?_)
  · have h := h.1 hc
    refine wp_iload_n (nx := 77) dX8_tokenEnd_76 rfl rfl ?_
    exact wp_ireturn dX8_tokenEnd_77 rfl rfl rfl h
  · have h := h.2 hc
    refine wp_aload_n (nx := 24) dX8_tokenEnd_23 rfl rfl ?_
    refine wp_iload_n (nx := 25) dX8_tokenEnd_24 rfl rfl ?_
    refine wp_invV (nx := 28) (N := M_X8_byteAt) (as := [cI l2]) (st := []) (mc := 0) (ms := 0) (mc' := mc) (ms' := ms) (a := 27) clsX8 dX8_tokenEnd_25 rfl mok_X8_byteAt kM_X8_19 ki_X8_byteAt ke_X8_byteAt (fo_27 F) (ft_27 F) rfl rfl (leB rfl) (leB rfl) (z0 _) (z0 _) (Wp.mono h ?_)
    intro r1 Sq C2 h
    obtain ⟨e9, h⟩ := h
    rw [e9]
    show Wp (d + 1) mc ms M_X8_tokenEnd 28 [cA 27, cU, cI l2] [cI r1] S C2 Q
    refine wp_invN (nx := 31) (N := M_X10_isLetter) (as := [cI r1]) (st := []) (mc := 0) (ms := 0) (mc' := mc) (ms' := ms) dX8_tokenEnd_28 rfl mok_X10_isLetter kN_X8_23 ks_X10_isLetter rfl rfl (leB rfl) (leB rfl) (z0 _) (z0 _) (Wp.mono h ?_)
    intro r3 Sq C4 h
    obtain ⟨e9, h⟩ := h
    rw [e9]
    show Wp (d + 1) mc ms M_X8_tokenEnd 31 [cA 27, cU, cI l2] [cI r3] S C4 Q
    refine wp_if_eq (nx := 34) (tg := 76) dX8_tokenEnd_31 rfl rfl (fun hc => ?_) (fun hc => ?_)
    · have h := h.1 hc
      refine wp_iload_n (nx := 77) dX8_tokenEnd_76 rfl rfl ?_
      exact wp_ireturn dX8_tokenEnd_77 rfl rfl rfl h
    · have h := h.2 hc
      refine wp_iinc (nx := 37) dX8_tokenEnd_34 rfl rfl (by decide) ?_
      refine wp_ls (ls2 := [cA 27, cU, cI (w32 (l2 + 1))]) rfl ?_
      refine wp_goto (nx := 15) dX8_tokenEnd_37 rfl ?_
      exact h
theorem b_X8_numberAt_0 {d mc ms : Nat} {l1 l2 : Int} {S : MS} {C : MC} {Q : Int → MS → MC → Prop} (F : Fix S) (h : K_X8_numberAt_5 (d + 1) mc ms l2 0 l1 S C Q) : K_X8_numberAt_0 (d + 1) mc ms l1 l2 S C Q := by
  show Wp (d + 1) mc ms M_X8_numberAt 0 [cA 27, cI l1, cI l2, cU, cU] [] S C Q
  refine wp_iconst (nx := 1) dX8_numberAt_0 rfl (i32 (by decide)) ?_
  refine wp_istore_n (nx := 2) dX8_numberAt_1 rfl (by decide) ?_
  refine wp_ls (ls2 := [cA 27, cI l1, cI l2, cI 0, cU]) rfl ?_
  refine wp_iload_n (nx := 3) dX8_numberAt_2 rfl rfl ?_
  refine wp_istore (nx := 5) dX8_numberAt_3 rfl (by decide) ?_
  refine wp_ls (ls2 := [cA 27, cI l1, cI l2, cI 0, cI l1]) rfl ?_
  refine wp_fg [true, false, true, true, true] (ls2 := [cA 27, cU, cI l2, cI 0, cI l1]) rfl ?_
  exact h
theorem b_X8_numberAt_5 {d mc ms : Nat} {l2 l3 l4 : Int} {S : MS} {C : MC} {Q : Int → MS → MC → Prop} (F : Fix S) (h : ((l2 ≤ l4 → Q l3 S C) ∧ (¬ l2 ≤ l4 → K_X8_byteAt_0 d 0 0 l4 S C (fun r1 Sq C2 => Sq = S ∧ K_X8_numberAt_5 (d + 1) mc ms l2 (min (w32 ((w32 ((w32 (l3 * 10)) + r1)) - 48)) 1001) (w32 (l4 + 1)) S C2 Q)))) : K_X8_numberAt_5 (d + 1) mc ms l2 l3 l4 S C Q := by
  show Wp (d + 1) mc ms M_X8_numberAt 5 [cA 27, cU, cI l2, cI l3, cI l4] [] S C Q
  refine wp_iload (nx := 7) dX8_numberAt_5 rfl rfl ?_
  refine wp_iload_n (nx := 8) dX8_numberAt_7 rfl rfl ?_
  refine wp_icmp_ge (nx := 11) (tg := 38) dX8_numberAt_8 rfl rfl (fun hc => ?_) (fun hc => ?_)
  · have h := h.1 hc
    refine wp_iload_n (nx := 39) dX8_numberAt_38 rfl rfl ?_
    exact wp_ireturn dX8_numberAt_39 rfl rfl rfl h
  · have h := h.2 hc
    refine wp_iload_n (nx := 12) dX8_numberAt_11 rfl rfl ?_
    refine wp_bipush (nx := 14) dX8_numberAt_12 rfl ⟨by decide, i32 (by decide)⟩ ?_
    refine wp_imul (nx := 15) dX8_numberAt_14 rfl ?_
    refine wp_aload_n (nx := 16) dX8_numberAt_15 rfl rfl ?_
    refine wp_iload (nx := 18) dX8_numberAt_16 rfl rfl ?_
    refine wp_invV (nx := 21) (N := M_X8_byteAt) (as := [cI l4]) (st := [cI (w32 (l3 * 10))]) (mc := 0) (ms := 0) (mc' := mc) (ms' := ms) (a := 27) clsX8 dX8_numberAt_18 rfl mok_X8_byteAt kM_X8_19 ki_X8_byteAt ke_X8_byteAt (fo_27 F) (ft_27 F) rfl rfl (leB rfl) (leB rfl) (z0 _) (z0 _) (Wp.mono h ?_)
    intro r1 Sq C2 h
    obtain ⟨e9, h⟩ := h
    rw [e9]
    show Wp (d + 1) mc ms M_X8_numberAt 21 [cA 27, cU, cI l2, cI l3, cI l4] [cI r1, cI (w32 (l3 * 10))] S C2 Q
    refine wp_iadd (nx := 22) dX8_numberAt_21 rfl ?_
    refine wp_bipush (nx := 24) dX8_numberAt_22 rfl ⟨by decide, i32 (by decide)⟩ ?_
    refine wp_isub (nx := 25) dX8_numberAt_24 rfl ?_
    refine wp_sipush (nx := 28) dX8_numberAt_25 rfl ⟨by decide, i32 (by decide)⟩ ?_
    refine wp_mminI (nx := 31) dX8_numberAt_28 rfl kM_X8_30 (leB rfl) ?_
    refine wp_istore_n (nx := 32) dX8_numberAt_31 rfl (by decide) ?_
    refine wp_ls (ls2 := [cA 27, cU, cI l2, cI (min (w32 ((w32 ((w32 (l3 * 10)) + r1)) - 48)) 1001), cI l4]) rfl ?_
    refine wp_iinc (nx := 35) dX8_numberAt_32 rfl rfl (by decide) ?_
    refine wp_ls (ls2 := [cA 27, cU, cI l2, cI (min (w32 ((w32 ((w32 (l3 * 10)) + r1)) - 48)) 1001), cI (w32 (l4 + 1))]) rfl ?_
    refine wp_goto (nx := 5) dX8_numberAt_35 rfl ?_
    exact h
theorem b_X8_wordAt_0 {d mc ms : Nat} {l1 l2 : Int} {S : MS} {C : MC} {Q : Int → MS → MC → Prop} (F : Fix S) (h : K_X8_wordAt_10 (d + 6) mc ms l1 l2 256 0 0 S C Q) : K_X8_wordAt_0 (d + 6) mc ms l1 l2 S C Q := by
  show Wp (d + 6) mc ms M_X8_wordAt 0 [cA 27, cI l1, cI l2, cU, cU, cU] [] S C Q
  refine wp_sipush (nx := 3) dX8_wordAt_0 rfl ⟨by decide, i32 (by decide)⟩ ?_
  refine wp_istore_n (nx := 4) dX8_wordAt_3 rfl (by decide) ?_
  refine wp_ls (ls2 := [cA 27, cI l1, cI l2, cI 256, cU, cU]) rfl ?_
  refine wp_iconst (nx := 5) dX8_wordAt_4 rfl (i32 (by decide)) ?_
  refine wp_istore (nx := 7) dX8_wordAt_5 rfl (by decide) ?_
  refine wp_ls (ls2 := [cA 27, cI l1, cI l2, cI 256, cI 0, cU]) rfl ?_
  refine wp_iconst (nx := 8) dX8_wordAt_7 rfl (i32 (by decide)) ?_
  refine wp_istore (nx := 10) dX8_wordAt_8 rfl (by decide) ?_
  refine wp_ls (ls2 := [cA 27, cI l1, cI l2, cI 256, cI 0, cI 0]) rfl ?_
  exact h
theorem b_X8_wordAt_10 {d mc ms : Nat} {l1 l2 l3 l4 l5 : Int} {S : MS} {C : MC} {Q : Int → MS → MC → Prop} (F : Fix S) (h : ((136 ≤ l5 → Q 283 S C) ∧ (¬ 136 ≤ l5 → (0 ≤ l5 ∧ l5 < 136) ∧ ((¬ wrdC l5 = 32 → K_X8_wordAt_10 (d + 6) mc ms l1 l2 l3 l4 (w32 (l5 + 1)) S C Q) ∧ (wrdC l5 = 32 → ((¬ w32 (l5 - l4) = w32 (l2 - l1) → K_X8_wordAt_10 (d + 6) mc ms l1 l2 (w32 (l3 + 1)) (w32 (l5 + 1)) (w32 (l5 + 1)) S C Q) ∧ (w32 (l5 - l4) = w32 (l2 - l1) → K_X8_sameSigns_0 (d + 5) 0 0 l1 l4 l5 S C (fun r1 Sq C2 => Sq = S ∧ ((r1 = 0 → K_X8_wordAt_10 (d + 6) mc ms l1 l2 (w32 (l3 + 1)) (w32 (l5 + 1)) (w32 (l5 + 1)) S C2 Q) ∧ (¬ r1 = 0 → Q l3 S C2)))))))))) : K_X8_wordAt_10 (d + 6) mc ms l1 l2 l3 l4 l5 S C Q := by
  show Wp (d + 6) mc ms M_X8_wordAt 10 [cA 27, cI l1, cI l2, cI l3, cI l4, cI l5] [] S C Q
  refine wp_iload (nx := 12) dX8_wordAt_10 rfl rfl ?_
  refine wp_ldcS (nx := 14) dX8_wordAt_12 rfl rfl ?_
  refine wp_strlen (nx := 17) dX8_wordAt_14 rfl kM_X8_38 (leB rfl) ?_
  refine wp_icmp_ge (nx := 20) (tg := 72) dX8_wordAt_17 rfl rfl (fun hc => ?_) (fun hc => ?_)
  · have h := h.1 hc
    refine wp_sipush (nx := 75) dX8_wordAt_72 rfl ⟨by decide, i32 (by decide)⟩ ?_
    exact wp_ireturn dX8_wordAt_75 rfl rfl rfl h
  · have h := h.2 hc
    refine wp_ldcS (nx := 22) dX8_wordAt_20 rfl rfl ?_
    refine wp_iload (nx := 24) dX8_wordAt_22 rfl rfl ?_
    obtain ⟨hi, h⟩ := h
    refine wp_charAt (nx := 27) dX8_wordAt_24 rfl kM_X8_43 hi (leB rfl) ?_
    refine wp_bipush (nx := 29) dX8_wordAt_27 rfl ⟨by decide, i32 (by decide)⟩ ?_
    refine wp_icmp_ne (nx := 32) (tg := 66) dX8_wordAt_29 rfl rfl (fun hc => ?_) (fun hc => ?_)
    · have h := h.1 hc
      refine wp_iinc (nx := 69) dX8_wordAt_66 rfl rfl (by decide) ?_
      refine wp_ls (ls2 := [cA 27, cI l1, cI l2, cI l3, cI l4, cI (w32 (l5 + 1))]) rfl ?_
      refine wp_goto (nx := 10) dX8_wordAt_69 rfl ?_
      exact h
    · have h := h.2 hc
      refine wp_iload (nx := 34) dX8_wordAt_32 rfl rfl ?_
      refine wp_iload (nx := 36) dX8_wordAt_34 rfl rfl ?_
      refine wp_isub (nx := 37) dX8_wordAt_36 rfl ?_
      refine wp_iload_n (nx := 38) dX8_wordAt_37 rfl rfl ?_
      refine wp_iload_n (nx := 39) dX8_wordAt_38 rfl rfl ?_
      refine wp_isub (nx := 40) dX8_wordAt_39 rfl ?_
      refine wp_icmp_ne (nx := 43) (tg := 57) dX8_wordAt_40 rfl rfl (fun hc => ?_) (fun hc => ?_)
      · have h := h.1 hc
        refine wp_iinc (nx := 60) dX8_wordAt_57 rfl rfl (by decide) ?_
        refine wp_ls (ls2 := [cA 27, cI l1, cI l2, cI (w32 (l3 + 1)), cI l4, cI l5]) rfl ?_
        refine wp_iload (nx := 62) dX8_wordAt_60 rfl rfl ?_
        refine wp_iconst (nx := 63) dX8_wordAt_62 rfl (i32 (by decide)) ?_
        refine wp_iadd (nx := 64) dX8_wordAt_63 rfl ?_
        refine wp_istore (nx := 66) dX8_wordAt_64 rfl (by decide) ?_
        refine wp_ls (ls2 := [cA 27, cI l1, cI l2, cI (w32 (l3 + 1)), cI (w32 (l5 + 1)), cI l5]) rfl ?_
        refine wp_iinc (nx := 69) dX8_wordAt_66 rfl rfl (by decide) ?_
        refine wp_ls (ls2 := [cA 27, cI l1, cI l2, cI (w32 (l3 + 1)), cI (w32 (l5 + 1)), cI (w32 (l5 + 1))]) rfl ?_
        refine wp_goto (nx := 10) dX8_wordAt_69 rfl ?_
        exact h
      · have h := h.2 hc
        refine wp_aload_n (nx := 44) dX8_wordAt_43 rfl rfl ?_
        refine wp_iload_n (nx := 45) dX8_wordAt_44 rfl rfl ?_
        refine wp_iload (nx := 47) dX8_wordAt_45 rfl rfl ?_
        refine wp_iload (nx := 49) dX8_wordAt_47 rfl rfl ?_
        refine wp_invV (nx := 52) (N := M_X8_sameSigns) (as := [cI l1, cI l4, cI l5]) (st := []) (mc := 0) (ms := 0) (mc' := mc) (ms' := ms) (a := 27) clsX8 dX8_wordAt_49 rfl mok_X8_sameSigns kM_X8_47 ki_X8_sameSigns ke_X8_sameSigns (fo_27 F) (ft_27 F) rfl rfl (leB rfl) (leB rfl) (z0 _) (z0 _) (Wp.mono h ?_)
        intro r1 Sq C2 h
        obtain ⟨e9, h⟩ := h
        rw [e9]
        show Wp (d + 6) mc ms M_X8_wordAt 52 [cA 27, cI l1, cI l2, cI l3, cI l4, cI l5] [cI r1] S C2 Q
        refine wp_if_eq (nx := 55) (tg := 57) dX8_wordAt_52 rfl rfl (fun hc => ?_) (fun hc => ?_)
        · have h := h.1 hc
          refine wp_iinc (nx := 60) dX8_wordAt_57 rfl rfl (by decide) ?_
          refine wp_ls (ls2 := [cA 27, cI l1, cI l2, cI (w32 (l3 + 1)), cI l4, cI l5]) rfl ?_
          refine wp_iload (nx := 62) dX8_wordAt_60 rfl rfl ?_
          refine wp_iconst (nx := 63) dX8_wordAt_62 rfl (i32 (by decide)) ?_
          refine wp_iadd (nx := 64) dX8_wordAt_63 rfl ?_
          refine wp_istore (nx := 66) dX8_wordAt_64 rfl (by decide) ?_
          refine wp_ls (ls2 := [cA 27, cI l1, cI l2, cI (w32 (l3 + 1)), cI (w32 (l5 + 1)), cI l5]) rfl ?_
          refine wp_iinc (nx := 69) dX8_wordAt_66 rfl rfl (by decide) ?_
          refine wp_ls (ls2 := [cA 27, cI l1, cI l2, cI (w32 (l3 + 1)), cI (w32 (l5 + 1)), cI (w32 (l5 + 1))]) rfl ?_
          refine wp_goto (nx := 10) dX8_wordAt_69 rfl ?_
          exact h
        · have h := h.2 hc
          refine wp_iload_n (nx := 56) dX8_wordAt_55 rfl rfl ?_
          exact wp_ireturn dX8_wordAt_56 rfl rfl rfl h
theorem b_X8_sameSigns_0 {d mc ms : Nat} {l1 l2 l3 : Int} {S : MS} {C : MC} {Q : Int → MS → MC → Prop} (F : Fix S) (h : K_X8_sameSigns_3 (d + 6) mc ms l1 l2 l3 l2 S C Q) : K_X8_sameSigns_0 (d + 6) mc ms l1 l2 l3 S C Q := by
  show Wp (d + 6) mc ms M_X8_sameSigns 0 [cA 27, cI l1, cI l2, cI l3, cU] [] S C Q
  refine wp_iload_n (nx := 1) dX8_sameSigns_0 rfl rfl ?_
  refine wp_istore (nx := 3) dX8_sameSigns_1 rfl (by decide) ?_
  refine wp_ls (ls2 := [cA 27, cI l1, cI l2, cI l3, cI l2]) rfl ?_
  exact h
theorem b_X8_sameSigns_3 {d mc ms : Nat} {l1 l2 l3 l4 : Int} {S : MS} {C : MC} {Q : Int → MS → MC → Prop} (F : Fix S) (h : ((l3 ≤ l4 → Q 1 S C) ∧ (¬ l3 ≤ l4 → K_X8_byteAt_0 (d + 5) 0 0 (w32 ((w32 (l1 + l4)) - l2)) S C (fun r1 Sq C2 => Sq = S ∧ (0 ≤ l4 ∧ l4 < 136) ∧ ((r1 = wrdC l4 → K_X8_sameSigns_3 (d + 6) mc ms l1 l2 l3 (w32 (l4 + 1)) S C2 Q) ∧ (¬ r1 = wrdC l4 → Q 0 S C2)))))) : K_X8_sameSigns_3 (d + 6) mc ms l1 l2 l3 l4 S C Q := by
  show Wp (d + 6) mc ms M_X8_sameSigns 3 [cA 27, cI l1, cI l2, cI l3, cI l4] [] S C Q
  refine wp_iload (nx := 5) dX8_sameSigns_3 rfl rfl ?_
  refine wp_iload_n (nx := 6) dX8_sameSigns_5 rfl rfl ?_
  refine wp_icmp_ge (nx := 9) (tg := 37) dX8_sameSigns_6 rfl rfl (fun hc => ?_) (fun hc => ?_)
  · have h := h.1 hc
    refine wp_iconst (nx := 38) dX8_sameSigns_37 rfl (i32 (by decide)) ?_
    exact wp_ireturn dX8_sameSigns_38 rfl rfl (nz_of (Or.inr rfl)) h
  · have h := h.2 hc
    refine wp_aload_n (nx := 10) dX8_sameSigns_9 rfl rfl ?_
    refine wp_iload_n (nx := 11) dX8_sameSigns_10 rfl rfl ?_
    refine wp_iload (nx := 13) dX8_sameSigns_11 rfl rfl ?_
    refine wp_iadd (nx := 14) dX8_sameSigns_13 rfl ?_
    refine wp_iload_n (nx := 15) dX8_sameSigns_14 rfl rfl ?_
    refine wp_isub (nx := 16) dX8_sameSigns_15 rfl ?_
    refine wp_invV (nx := 19) (N := M_X8_byteAt) (as := [cI (w32 ((w32 (l1 + l4)) - l2))]) (st := []) (mc := 0) (ms := 0) (mc' := mc) (ms' := ms) (a := 27) clsX8 dX8_sameSigns_16 rfl mok_X8_byteAt kM_X8_19 ki_X8_byteAt ke_X8_byteAt (fo_27 F) (ft_27 F) rfl rfl (leB rfl) (leB rfl) (z0 _) (z0 _) (Wp.mono h ?_)
    intro r1 Sq C2 h
    obtain ⟨e9, h⟩ := h
    rw [e9]
    show Wp (d + 6) mc ms M_X8_sameSigns 19 [cA 27, cI l1, cI l2, cI l3, cI l4] [cI r1] S C2 Q
    refine wp_ldcS (nx := 21) dX8_sameSigns_19 rfl rfl ?_
    refine wp_iload (nx := 23) dX8_sameSigns_21 rfl rfl ?_
    obtain ⟨hi, h⟩ := h
    refine wp_charAt (nx := 26) dX8_sameSigns_23 rfl kM_X8_43 hi (leB rfl) ?_
    refine wp_icmp_eq (nx := 29) (tg := 31) dX8_sameSigns_26 rfl rfl (fun hc => ?_) (fun hc => ?_)
    · have h := h.1 hc
      refine wp_iinc (nx := 34) dX8_sameSigns_31 rfl rfl (by decide) ?_
      refine wp_ls (ls2 := [cA 27, cI l1, cI l2, cI l3, cI (w32 (l4 + 1))]) rfl ?_
      refine wp_goto (nx := 3) dX8_sameSigns_34 rfl ?_
      exact h
    · have h := h.2 hc
      refine wp_iconst (nx := 30) dX8_sameSigns_29 rfl (i32 (by decide)) ?_
      exact wp_ireturn dX8_sameSigns_30 rfl rfl (nz_of (Or.inl rfl)) h
theorem b_X2_ask_0 {d mc ms : Nat} {l1 l2 l3 l4 l5 : Int} {S : MS} {C : MC} {Q : Int → MS → MC → Prop} (F : Fix S) (hs_l1 : isSt l1) (h : ((0 : Int) ≤ l3 ∧ l3 < 8) ∧ ((¬ (upC C 40 2 1) (l1 + 3) l3 = l2 → K_X7_lawInForce_0 d 0 0 l1 S ((upC (upC C 40 2 1) 40 3 0)) (fun r1 Sq C2 => Sq = S ∧ ((¬ r1 = -1 → K_X2_tellWords_0 d 0 0 l1 l2 l3 l4 S C2 (fun r3 Sq C4 => Sq = S ∧ K_X2_ask_51 (d + 1) mc ms l5 r1 0 0 S C4 Q)) ∧ (r1 = -1 → Q 0 S C2)))) ∧ ((upC C 40 2 1) (l1 + 3) l3 = l2 → K_X7_lawInForce_0 d 0 0 l1 S ((upC (upC C 40 2 1) 40 3 1)) (fun r5 Sq C6 => Sq = S ∧ ((¬ r5 = -1 → K_X2_tellWords_0 d 0 0 l1 l2 l3 l4 S C6 (fun r7 Sq C8 => Sq = S ∧ K_X2_ask_51 (d + 1) mc ms l5 r5 0 0 S C8 Q)) ∧ (r5 = -1 → Q 0 S C6)))))) : K_X2_ask_0 (d + 1) mc ms l1 l2 l3 l4 l5 S C Q := by
  show Wp (d + 1) mc ms M_X2_ask 0 [cA 40, cA l1, cI l2, cI l3, cI l4, cI l5, cU, cU, cU, cU, cU, cU, cU] [] S C Q
  refine wp_aload_n (nx := 1) dX2_ask_0 rfl rfl ?_
  refine wp_iconst (nx := 2) dX2_ask_1 rfl (i32 (by decide)) ?_
  refine wp_putIe (kk := 2) 2 (nx := 5) clsX2 dX2_ask_2 rfl kF_X2_22 (by decide) (fo_40 F) (ft_40 F) rfl rfl ⟨rfl, rfl⟩ rfl ?_
  refine wp_aload_n (nx := 6) dX2_ask_5 rfl rfl ?_
  refine wp_aload_n (nx := 7) dX2_ask_6 rfl rfl ?_
  refine wp_getAe (kk := 3) (nx := 10) clsX7 dX2_ask_7 rfl kF_X2_26 (by decide) (st_b0 F hs_l1) (st_t0 F hs_l1) rfl (st_p3 F hs_l1) ?_
  refine wp_iload_n (nx := 11) dX2_ask_10 rfl rfl ?_
  obtain ⟨hi, h⟩ := h
  refine wp_ialoadE (nx := 12) dX2_ask_11 rfl (st_b3 F hs_l1) (st_l3 F hs_l1) hi (st_t3 F hs_l1) rfl ?_
  refine wp_iload_n (nx := 13) dX2_ask_12 rfl rfl ?_
  refine wp_icmp_ne (nx := 16) (tg := 20) dX2_ask_13 rfl rfl (fun hc => ?_) (fun hc => ?_)
  · have h := h.1 hc
    refine wp_iconst (nx := 21) dX2_ask_20 rfl (i32 (by decide)) ?_
    refine wp_putIe (kk := 3) 3 (nx := 24) clsX2 dX2_ask_21 rfl kF_X2_31 (by decide) (fo_40 F) (ft_40 F) rfl rfl (fz_of (Or.inl rfl)) rfl ?_
    refine wp_aload_n (nx := 25) dX2_ask_24 rfl rfl ?_
    refine wp_invV (nx := 28) (N := M_X7_lawInForce) (as := []) (st := []) (mc := 0) (ms := 0) (mc' := mc) (ms' := ms) (a := l1) clsX7 dX2_ask_25 rfl mok_X7_lawInForce kM_X2_35 ki_X7_lawInForce ke_X7_lawInForce (st_b0 F hs_l1) (st_t0 F hs_l1) rfl rfl (leB rfl) (leB rfl) (z0 _) (z0 _) (Wp.mono h ?_)
    intro r1 Sq C2 h
    obtain ⟨e9, h⟩ := h
    rw [e9]
    show Wp (d + 1) mc ms M_X2_ask 28 [cA 40, cA l1, cI l2, cI l3, cI l4, cI l5, cU, cU, cU, cU, cU, cU, cU] [cA r1] S C2 Q
    refine wp_astore (nx := 30) dX2_ask_28 rfl (by decide) ?_
    refine wp_ls (ls2 := [cA 40, cA l1, cI l2, cI l3, cI l4, cI l5, cA r1, cU, cU, cU, cU, cU, cU]) rfl ?_
    refine wp_aload (nx := 32) dX2_ask_30 rfl rfl ?_
    refine wp_ifnonnull (nx := 35) (tg := 36) dX2_ask_32 rfl rfl (fun hc => ?_) (fun hc => ?_)
    · have h := h.1 hc
      refine wp_aload_n (nx := 37) dX2_ask_36 rfl rfl ?_
      refine wp_aload_n (nx := 38) dX2_ask_37 rfl rfl ?_
      refine wp_iload_n (nx := 39) dX2_ask_38 rfl rfl ?_
      refine wp_iload_n (nx := 40) dX2_ask_39 rfl rfl ?_
      refine wp_iload (nx := 42) dX2_ask_40 rfl rfl ?_
      refine wp_invV (nx := 45) (N := M_X2_tellWords) (as := [cA l1, cI l2, cI l3, cI l4]) (st := []) (mc := 0) (ms := 0) (mc' := mc) (ms' := ms) (a := 40) clsX2 dX2_ask_42 rfl mok_X2_tellWords kM_X2_39 ki_X2_tellWords ke_X2_tellWords (fo_40 F) (ft_40 F) rfl rfl (leB rfl) (leB rfl) (z0 _) (z0 _) (Wp.mono h ?_)
      intro r3 Sq C4 h
      obtain ⟨e9, h⟩ := h
      rw [e9]
      show Wp (d + 1) mc ms M_X2_ask 45 [cA 40, cA l1, cI l2, cI l3, cI l4, cI l5, cA r1, cU, cU, cU, cU, cU, cU] [] S C4 Q
      refine wp_iconst (nx := 46) dX2_ask_45 rfl (i32 (by decide)) ?_
      refine wp_istore (nx := 48) dX2_ask_46 rfl (by decide) ?_
      refine wp_ls (ls2 := [cA 40, cA l1, cI l2, cI l3, cI l4, cI l5, cA r1, cI 0, cU, cU, cU, cU, cU]) rfl ?_
      refine wp_iconst (nx := 49) dX2_ask_48 rfl (i32 (by decide)) ?_
      refine wp_istore (nx := 51) dX2_ask_49 rfl (by decide) ?_
      refine wp_ls (ls2 := [cA 40, cA l1, cI l2, cI l3, cI l4, cI l5, cA r1, cI 0, cI 0, cU, cU, cU, cU]) rfl ?_
      refine wp_fg [true, false, false, false, false, true, true, true, true, false, false, false, false] (ls2 := [cA 40, cU, cU, cU, cU, cI l5, cA r1, cI 0, cI 0, cU, cU, cU, cU]) rfl ?_
      exact h
    · have h := h.2 hc
      exact wp_return dX2_ask_35 rfl h
  · have h := h.2 hc
    refine wp_iconst (nx := 17) dX2_ask_16 rfl (i32 (by decide)) ?_
    refine wp_goto (nx := 21) dX2_ask_17 rfl ?_
    refine wp_putIe (kk := 3) 3 (nx := 24) clsX2 dX2_ask_21 rfl kF_X2_31 (by decide) (fo_40 F) (ft_40 F) rfl rfl (fz_of (Or.inr rfl)) rfl ?_
    refine wp_aload_n (nx := 25) dX2_ask_24 rfl rfl ?_
    refine wp_invV (nx := 28) (N := M_X7_lawInForce) (as := []) (st := []) (mc := 0) (ms := 0) (mc' := mc) (ms' := ms) (a := l1) clsX7 dX2_ask_25 rfl mok_X7_lawInForce kM_X2_35 ki_X7_lawInForce ke_X7_lawInForce (st_b0 F hs_l1) (st_t0 F hs_l1) rfl rfl (leB rfl) (leB rfl) (z0 _) (z0 _) (Wp.mono h ?_)
    intro r5 Sq C6 h
    obtain ⟨e9, h⟩ := h
    rw [e9]
    show Wp (d + 1) mc ms M_X2_ask 28 [cA 40, cA l1, cI l2, cI l3, cI l4, cI l5, cU, cU, cU, cU, cU, cU, cU] [cA r5] S C6 Q
    refine wp_astore (nx := 30) dX2_ask_28 rfl (by decide) ?_
    refine wp_ls (ls2 := [cA 40, cA l1, cI l2, cI l3, cI l4, cI l5, cA r5, cU, cU, cU, cU, cU, cU]) rfl ?_
    refine wp_aload (nx := 32) dX2_ask_30 rfl rfl ?_
    refine wp_ifnonnull (nx := 35) (tg := 36) dX2_ask_32 rfl rfl (fun hc => ?_) (fun hc => ?_)
    · have h := h.1 hc
      refine wp_aload_n (nx := 37) dX2_ask_36 rfl rfl ?_
      refine wp_aload_n (nx := 38) dX2_ask_37 rfl rfl ?_
      refine wp_iload_n (nx := 39) dX2_ask_38 rfl rfl ?_
      refine wp_iload_n (nx := 40) dX2_ask_39 rfl rfl ?_
      refine wp_iload (nx := 42) dX2_ask_40 rfl rfl ?_
      refine wp_invV (nx := 45) (N := M_X2_tellWords) (as := [cA l1, cI l2, cI l3, cI l4]) (st := []) (mc := 0) (ms := 0) (mc' := mc) (ms' := ms) (a := 40) clsX2 dX2_ask_42 rfl mok_X2_tellWords kM_X2_39 ki_X2_tellWords ke_X2_tellWords (fo_40 F) (ft_40 F) rfl rfl (leB rfl) (leB rfl) (z0 _) (z0 _) (Wp.mono h ?_)
      intro r7 Sq C8 h
      obtain ⟨e9, h⟩ := h
      rw [e9]
      show Wp (d + 1) mc ms M_X2_ask 45 [cA 40, cA l1, cI l2, cI l3, cI l4, cI l5, cA r5, cU, cU, cU, cU, cU, cU] [] S C8 Q
      refine wp_iconst (nx := 46) dX2_ask_45 rfl (i32 (by decide)) ?_
      refine wp_istore (nx := 48) dX2_ask_46 rfl (by decide) ?_
      refine wp_ls (ls2 := [cA 40, cA l1, cI l2, cI l3, cI l4, cI l5, cA r5, cI 0, cU, cU, cU, cU, cU]) rfl ?_
      refine wp_iconst (nx := 49) dX2_ask_48 rfl (i32 (by decide)) ?_
      refine wp_istore (nx := 51) dX2_ask_49 rfl (by decide) ?_
      refine wp_ls (ls2 := [cA 40, cA l1, cI l2, cI l3, cI l4, cI l5, cA r5, cI 0, cI 0, cU, cU, cU, cU]) rfl ?_
      refine wp_fg [true, false, false, false, false, true, true, true, true, false, false, false, false] (ls2 := [cA 40, cU, cU, cU, cU, cI l5, cA r5, cI 0, cI 0, cU, cU, cU, cU]) rfl ?_
      exact h
    · have h := h.2 hc
      exact wp_return dX2_ask_35 rfl h
theorem b_X2_ask_51 {d mc ms : Nat} {l5 l6 l7 l8 : Int} {S : MS} {C : MC} {Q : Int → MS → MC → Prop} (F : Fix S) (h : TxO S l6 ∧ ((C l6 0 ≤ l8 → ((C 40 3 = 0 → Q 0 S (upC C 40 3 0)) ∧ (¬ C 40 3 = 0 → ((¬ l7 = 0 → Q 0 S (upC C 40 3 0)) ∧ (l7 = 0 → Q 0 S (upC C 40 3 1)))))) ∧ (¬ C l6 0 ≤ l8 → ((0 : Int) ≤ l8 ∧ l8 < S.2.2.1 (l6 + 1)) ∧ ((¬ C (l6 + 1) l8 = 4 → ((0 : Int) ≤ l8 ∧ l8 < S.2.2.1 (l6 + 5)) ∧ ((¬ C (l6 + 5) l8 = (-1) → ((0 : Int) ≤ l8 ∧ l8 < S.2.2.1 (l6 + 5)) ∧ K_X5_reckon_0 d 0 0 41 (l6 + 6) (C (l6 + 5) l8) 43 S C (fun r2 Sq C3 => Sq = S ∧ K_X2_ask_121 (d + 1) mc ms l5 l6 l7 l8 r2 S C3 Q)) ∧ (C (l6 + 5) l8 = (-1) → K_X2_ask_121 (d + 1) mc ms l5 l6 l7 l8 1 S C Q))) ∧ (C (l6 + 1) l8 = 4 → ((¬ l5 = 0 → ((0 : Int) ≤ l8 ∧ l8 < S.2.2.1 (l6 + 5)) ∧ ((¬ C (l6 + 5) l8 = (-1) → ((0 : Int) ≤ l8 ∧ l8 < S.2.2.1 (l6 + 5)) ∧ K_X5_reckon_0 d 0 0 41 (l6 + 6) (C (l6 + 5) l8) 43 S C (fun r4 Sq C5 => Sq = S ∧ K_X2_ask_121 (d + 1) mc ms l5 l6 l7 l8 r4 S C5 Q)) ∧ (C (l6 + 5) l8 = (-1) → K_X2_ask_121 (d + 1) mc ms l5 l6 l7 l8 1 S C Q))) ∧ (l5 = 0 → K_X2_ask_51 (d + 1) mc ms l5 l6 l7 (w32 (l8 + 1)) S C Q))))))) : K_X2_ask_51 (d + 1) mc ms l5 l6 l7 l8 S C Q := by
  show Wp (d + 1) mc ms M_X2_ask 51 [cA 40, cU, cU, cU, cU, cI l5, cA l6, cI l7, cI l8, cU, cU, cU, cU] [] S C Q
  refine wp_iload (nx := 53) dX2_ask_51 rfl rfl ?_
  refine wp_aload (nx := 55) dX2_ask_53 rfl rfl ?_
  obtain ⟨ht1, h⟩ := h
  refine wp_getIe (kk := 0) 0 (nx := 58) clsX9 dX2_ask_55 rfl kF_X2_43 (by decide) (tx_b0 ht1) (tx_t0 ht1) rfl rfl rfl ?_
  refine wp_icmp_ge (nx := 61) (tg := 245) dX2_ask_58 rfl rfl (fun hc => ?_) (fun hc => ?_)
  · have h := h.1 hc
    refine wp_aload_n (nx := 246) dX2_ask_245 rfl rfl ?_
    refine wp_aload_n (nx := 247) dX2_ask_246 rfl rfl ?_
    refine wp_getIe (kk := 3) 3 (nx := 250) clsX2 dX2_ask_247 rfl kF_X2_31 (by decide) (fo_40 F) (ft_40 F) rfl rfl rfl ?_
    refine wp_if_eq (nx := 253) (tg := 262) dX2_ask_250 rfl rfl (fun hc => ?_) (fun hc => ?_)
    · have h := h.1 hc
      refine wp_iconst (nx := 263) dX2_ask_262 rfl (i32 (by decide)) ?_
      refine wp_putIe (kk := 3) 3 (nx := 266) clsX2 dX2_ask_263 rfl kF_X2_31 (by decide) (fo_40 F) (ft_40 F) rfl rfl (fz_of (Or.inl rfl)) rfl ?_
      exact wp_return dX2_ask_266 rfl h
    · have h := h.2 hc
      refine wp_iload (nx := 255) dX2_ask_253 rfl rfl ?_
      refine wp_if_ne (nx := 258) (tg := 262) dX2_ask_255 rfl rfl (fun hc => ?_) (fun hc => ?_)
      · have h := h.1 hc
        refine wp_iconst (nx := 263) dX2_ask_262 rfl (i32 (by decide)) ?_
        refine wp_putIe (kk := 3) 3 (nx := 266) clsX2 dX2_ask_263 rfl kF_X2_31 (by decide) (fo_40 F) (ft_40 F) rfl rfl (fz_of (Or.inl rfl)) rfl ?_
        exact wp_return dX2_ask_266 rfl h
      · have h := h.2 hc
        refine wp_iconst (nx := 259) dX2_ask_258 rfl (i32 (by decide)) ?_
        refine wp_goto (nx := 263) dX2_ask_259 rfl ?_
        refine wp_putIe (kk := 3) 3 (nx := 266) clsX2 dX2_ask_263 rfl kF_X2_31 (by decide) (fo_40 F) (ft_40 F) rfl rfl (fz_of (Or.inr rfl)) rfl ?_
        exact wp_return dX2_ask_266 rfl h
  · have h := h.2 hc
    refine wp_aload (nx := 63) dX2_ask_61 rfl rfl ?_
    refine wp_getAe (kk := 3) (nx := 66) clsX9 dX2_ask_63 rfl kF_X2_48 (by decide) (tx_b0 ht1) (tx_t0 ht1) rfl (tx_p3 ht1) ?_
    refine wp_iload (nx := 68) dX2_ask_66 rfl rfl ?_
    obtain ⟨hi, h⟩ := h
    refine wp_ialoadE (nx := 69) dX2_ask_68 rfl (tx_b1 ht1) rfl hi (tx_t1 ht1) rfl ?_
    refine wp_iconst (nx := 70) dX2_ask_69 rfl (i32 (by decide)) ?_
    refine wp_icmp_ne (nx := 73) (tg := 81) dX2_ask_70 rfl rfl (fun hc => ?_) (fun hc => ?_)
    · have h := h.1 hc
      refine wp_aload (nx := 83) dX2_ask_81 rfl rfl ?_
      refine wp_getAe (kk := 7) (nx := 86) clsX9 dX2_ask_83 rfl kF_X2_51 (by decide) (tx_b0 ht1) (tx_t0 ht1) rfl (tx_p7 ht1) ?_
      refine wp_iload (nx := 88) dX2_ask_86 rfl rfl ?_
      obtain ⟨hi, h⟩ := h
      refine wp_ialoadE (nx := 89) dX2_ask_88 rfl (tx_b5 ht1) rfl hi (tx_t5 ht1) rfl ?_
      refine wp_iconst (nx := 90) dX2_ask_89 rfl (i32 (by decide)) ?_
      refine wp_icmp_ne (nx := 93) (tg := 97) dX2_ask_90 rfl rfl (fun hc => ?_) (fun hc => ?_)
      · have h := h.1 hc
        refine wp_aload_n (nx := 98) dX2_ask_97 rfl rfl ?_
        refine wp_getAe (kk := 0) (nx := 101) clsX2 dX2_ask_98 rfl kF_X2_12 (by decide) (fo_40 F) (ft_40 F) rfl (fp_40_0 F) ?_
        refine wp_aload (nx := 103) dX2_ask_101 rfl rfl ?_
        refine wp_getAe (kk := 8) (nx := 106) clsX9 dX2_ask_103 rfl kF_X2_54 (by decide) (tx_b0 ht1) (tx_t0 ht1) rfl (tx_p8 ht1) ?_
        refine wp_aload (nx := 108) dX2_ask_106 rfl rfl ?_
        refine wp_getAe (kk := 7) (nx := 111) clsX9 dX2_ask_108 rfl kF_X2_51 (by decide) (tx_b0 ht1) (tx_t0 ht1) rfl (tx_p7 ht1) ?_
        refine wp_iload (nx := 113) dX2_ask_111 rfl rfl ?_
        obtain ⟨hi, h⟩ := h
        refine wp_ialoadE (nx := 114) dX2_ask_113 rfl (tx_b5 ht1) rfl hi (tx_t5 ht1) rfl ?_
        refine wp_aload_n (nx := 115) dX2_ask_114 rfl rfl ?_
        refine wp_getAe (kk := 1) (nx := 118) clsX2 dX2_ask_115 rfl kF_X2_18 (by decide) (fo_40 F) (ft_40 F) rfl (fp_40_1 F) ?_
        refine wp_invV (nx := 121) (N := M_X5_reckon) (as := [cA (l6 + 6), cI (C (l6 + 5) l8), cA 43]) (st := []) (mc := 0) (ms := 0) (mc' := mc) (ms' := ms) (a := 41) clsX5 dX2_ask_118 rfl mok_X5_reckon kM_X2_57 ki_X5_reckon ke_X5_reckon (fo_41 F) (ft_41 F) rfl rfl (leB rfl) (leB rfl) (z0 _) (z0 _) (Wp.mono h ?_)
        intro r2 Sq C3 h
        obtain ⟨e9, h⟩ := h
        rw [e9]
        show Wp (d + 1) mc ms M_X2_ask 121 [cA 40, cU, cU, cU, cU, cI l5, cA l6, cI l7, cI l8, cU, cU, cU, cU] [cJ r2] S C3 Q
        exact h
      · have h := h.2 hc
        refine wp_lconst (nx := 94) (v := 1) dX2_ask_93 rfl ⟨by decide, i64 (by decide)⟩ ?_
        refine wp_goto (nx := 121) dX2_ask_94 rfl ?_
        exact h
    · have h := h.2 hc
      refine wp_iload (nx := 75) dX2_ask_73 rfl rfl ?_
      refine wp_if_ne (nx := 78) (tg := 81) dX2_ask_75 rfl rfl (fun hc => ?_) (fun hc => ?_)
      · have h := h.1 hc
        refine wp_aload (nx := 83) dX2_ask_81 rfl rfl ?_
        refine wp_getAe (kk := 7) (nx := 86) clsX9 dX2_ask_83 rfl kF_X2_51 (by decide) (tx_b0 ht1) (tx_t0 ht1) rfl (tx_p7 ht1) ?_
        refine wp_iload (nx := 88) dX2_ask_86 rfl rfl ?_
        obtain ⟨hi, h⟩ := h
        refine wp_ialoadE (nx := 89) dX2_ask_88 rfl (tx_b5 ht1) rfl hi (tx_t5 ht1) rfl ?_
        refine wp_iconst (nx := 90) dX2_ask_89 rfl (i32 (by decide)) ?_
        refine wp_icmp_ne (nx := 93) (tg := 97) dX2_ask_90 rfl rfl (fun hc => ?_) (fun hc => ?_)
        · have h := h.1 hc
          refine wp_aload_n (nx := 98) dX2_ask_97 rfl rfl ?_
          refine wp_getAe (kk := 0) (nx := 101) clsX2 dX2_ask_98 rfl kF_X2_12 (by decide) (fo_40 F) (ft_40 F) rfl (fp_40_0 F) ?_
          refine wp_aload (nx := 103) dX2_ask_101 rfl rfl ?_
          refine wp_getAe (kk := 8) (nx := 106) clsX9 dX2_ask_103 rfl kF_X2_54 (by decide) (tx_b0 ht1) (tx_t0 ht1) rfl (tx_p8 ht1) ?_
          refine wp_aload (nx := 108) dX2_ask_106 rfl rfl ?_
          refine wp_getAe (kk := 7) (nx := 111) clsX9 dX2_ask_108 rfl kF_X2_51 (by decide) (tx_b0 ht1) (tx_t0 ht1) rfl (tx_p7 ht1) ?_
          refine wp_iload (nx := 113) dX2_ask_111 rfl rfl ?_
          obtain ⟨hi, h⟩ := h
          refine wp_ialoadE (nx := 114) dX2_ask_113 rfl (tx_b5 ht1) rfl hi (tx_t5 ht1) rfl ?_
          refine wp_aload_n (nx := 115) dX2_ask_114 rfl rfl ?_
          refine wp_getAe (kk := 1) (nx := 118) clsX2 dX2_ask_115 rfl kF_X2_18 (by decide) (fo_40 F) (ft_40 F) rfl (fp_40_1 F) ?_
          refine wp_invV (nx := 121) (N := M_X5_reckon) (as := [cA (l6 + 6), cI (C (l6 + 5) l8), cA 43]) (st := []) (mc := 0) (ms := 0) (mc' := mc) (ms' := ms) (a := 41) clsX5 dX2_ask_118 rfl mok_X5_reckon kM_X2_57 ki_X5_reckon ke_X5_reckon (fo_41 F) (ft_41 F) rfl rfl (leB rfl) (leB rfl) (z0 _) (z0 _) (Wp.mono h ?_)
          intro r4 Sq C5 h
          obtain ⟨e9, h⟩ := h
          rw [e9]
          show Wp (d + 1) mc ms M_X2_ask 121 [cA 40, cU, cU, cU, cU, cI l5, cA l6, cI l7, cI l8, cU, cU, cU, cU] [cJ r4] S C5 Q
          exact h
        · have h := h.2 hc
          refine wp_lconst (nx := 94) (v := 1) dX2_ask_93 rfl ⟨by decide, i64 (by decide)⟩ ?_
          refine wp_goto (nx := 121) dX2_ask_94 rfl ?_
          exact h
      · have h := h.2 hc
        refine wp_goto (nx := 239) dX2_ask_78 rfl ?_
        refine wp_iinc (nx := 242) dX2_ask_239 rfl rfl (by decide) ?_
        refine wp_ls (ls2 := [cA 40, cU, cU, cU, cU, cI l5, cA l6, cI l7, cI (w32 (l8 + 1)), cU, cU, cU, cU]) rfl ?_
        refine wp_goto (nx := 51) dX2_ask_242 rfl ?_
        exact h
theorem b_X2_ask_121 {d mc ms : Nat} {l5 l6 l7 l8 s0 : Int} {S : MS} {C : MC} {Q : Int → MS → MC → Prop} (F : Fix S) (htx_l6 : TxO S l6) (h : ((lCmp s0 (-1152921504606846976) = 0 → K_X2_ask_51 (d + 1) mc ms l5 l6 l7 (w32 (l8 + 1)) S C Q) ∧ (¬ lCmp s0 (-1152921504606846976) = 0 → ((¬ lCmp s0 0 = 0 → ((0 : Int) ≤ l8 ∧ l8 < S.2.2.1 (l6 + 1)) ∧ ((¬ C (l6 + 1) l8 = 4 → ((0 : Int) ≤ l8 ∧ l8 < S.2.2.1 (l6 + 1)) ∧ ((¬ C (l6 + 1) l8 = 5 → K_X2_ask_51 (d + 1) mc ms l5 l6 1 (w32 (l8 + 1)) S C Q) ∧ (C (l6 + 1) l8 = 5 → K_X2_ask_51 (d + 1) mc ms l5 l6 l7 (w32 (l8 + 1)) S (upC C 40 3 1) Q))) ∧ (C (l6 + 1) l8 = 4 → ((0 : Int) ≤ l8 ∧ l8 < S.2.2.1 (l6 + 3)) ∧ K_X5_reckon_0 d 0 0 41 (l6 + 6) (C (l6 + 3) l8) 43 S C (fun r1 Sq C2 => Sq = S ∧ ((¬ lCmp r1 (-1152921504606846976) = 0 → K_X2_ask_51 (d + 1) mc ms l5 l6 l7 (w32 (l8 + 1)) S (upC C2 40 2 (w32 (max 0 (min 99 r1)))) Q) ∧ (lCmp r1 (-1152921504606846976) = 0 → K_X2_ask_51 (d + 1) mc ms l5 l6 l7 (w32 (l8 + 1)) S (upC C2 40 2 (C2 40 2)) Q)))))) ∧ (lCmp s0 0 = 0 → K_X2_ask_51 (d + 1) mc ms l5 l6 l7 (w32 (l8 + 1)) S C Q))))) : K_X2_ask_121 (d + 1) mc ms l5 l6 l7 l8 s0 S C Q := by
  show Wp (d + 1) mc ms M_X2_ask 121 [cA 40, cU, cU, cU, cU, cI l5, cA l6, cI l7, cI l8, cU, cU, cU, cU] [cJ s0] S C Q
  refine wp_lstore (nx := 123) dX2_ask_121 rfl (by decide) ?_
  refine wp_ls (ls2 := [cA 40, cU, cU, cU, cU, cI l5, cA l6, cI l7, cI l8, cJ s0, cU, cU, cU]) rfl ?_
  refine wp_lload (nx := 125) dX2_ask_123 rfl rfl ?_
  refine wp_ldc2 (nx := 128) dX2_ask_125 rfl kJ_X2_61 (i64 (by decide)) ?_
  refine wp_lcmp (nx := 129) dX2_ask_128 rfl ?_
  refine wp_if_eq (nx := 132) (tg := 239) dX2_ask_129 rfl rfl (fun hc => ?_) (fun hc => ?_)
  · have h := h.1 hc
    refine wp_iinc (nx := 242) dX2_ask_239 rfl rfl (by decide) ?_
    refine wp_ls (ls2 := [cA 40, cU, cU, cU, cU, cI l5, cA l6, cI l7, cI (w32 (l8 + 1)), cJ s0, cU, cU, cU]) rfl ?_
    refine wp_goto (nx := 51) dX2_ask_242 rfl ?_
    refine wp_fg [true, false, false, false, false, true, true, true, true, false, false, false, false] (ls2 := [cA 40, cU, cU, cU, cU, cI l5, cA l6, cI l7, cI (w32 (l8 + 1)), cU, cU, cU, cU]) rfl ?_
    exact h
  · have h := h.2 hc
    refine wp_lload (nx := 134) dX2_ask_132 rfl rfl ?_
    refine wp_lconst (nx := 135) (v := 0) dX2_ask_134 rfl ⟨by decide, i64 (by decide)⟩ ?_
    refine wp_lcmp (nx := 136) dX2_ask_135 rfl ?_
    refine wp_if_ne (nx := 139) (tg := 142) dX2_ask_136 rfl rfl (fun hc => ?_) (fun hc => ?_)
    · have h := h.1 hc
      refine wp_aload (nx := 144) dX2_ask_142 rfl rfl ?_
      refine wp_getAe (kk := 3) (nx := 147) clsX9 dX2_ask_144 rfl kF_X2_48 (by decide) (tx_b0 htx_l6) (tx_t0 htx_l6) rfl (tx_p3 htx_l6) ?_
      refine wp_iload (nx := 149) dX2_ask_147 rfl rfl ?_
      obtain ⟨hi, h⟩ := h
      refine wp_ialoadE (nx := 150) dX2_ask_149 rfl (tx_b1 htx_l6) rfl hi (tx_t1 htx_l6) rfl ?_
      refine wp_iconst (nx := 151) dX2_ask_150 rfl (i32 (by decide)) ?_
      refine wp_icmp_ne (nx := 154) (tg := 216) dX2_ask_151 rfl rfl (fun hc => ?_) (fun hc => ?_)
      · have h := h.1 hc
        refine wp_aload (nx := 218) dX2_ask_216 rfl rfl ?_
        refine wp_getAe (kk := 3) (nx := 221) clsX9 dX2_ask_218 rfl kF_X2_48 (by decide) (tx_b0 htx_l6) (tx_t0 htx_l6) rfl (tx_p3 htx_l6) ?_
        refine wp_iload (nx := 223) dX2_ask_221 rfl rfl ?_
        obtain ⟨hi, h⟩ := h
        refine wp_ialoadE (nx := 224) dX2_ask_223 rfl (tx_b1 htx_l6) rfl hi (tx_t1 htx_l6) rfl ?_
        refine wp_iconst (nx := 225) dX2_ask_224 rfl (i32 (by decide)) ?_
        refine wp_icmp_ne (nx := 228) (tg := 236) dX2_ask_225 rfl rfl (fun hc => ?_) (fun hc => ?_)
        · have h := h.1 hc
          refine wp_iconst (nx := 237) dX2_ask_236 rfl (i32 (by decide)) ?_
          refine wp_istore (nx := 239) dX2_ask_237 rfl (by decide) ?_
          refine wp_ls (ls2 := [cA 40, cU, cU, cU, cU, cI l5, cA l6, cI 1, cI l8, cJ s0, cU, cU, cU]) rfl ?_
          refine wp_iinc (nx := 242) dX2_ask_239 rfl rfl (by decide) ?_
          refine wp_ls (ls2 := [cA 40, cU, cU, cU, cU, cI l5, cA l6, cI 1, cI (w32 (l8 + 1)), cJ s0, cU, cU, cU]) rfl ?_
          refine wp_goto (nx := 51) dX2_ask_242 rfl ?_
          refine wp_fg [true, false, false, false, false, true, true, true, true, false, false, false, false] (ls2 := [cA 40, cU, cU, cU, cU, cI l5, cA l6, cI 1, cI (w32 (l8 + 1)), cU, cU, cU, cU]) rfl ?_
          exact h
        · have h := h.2 hc
          refine wp_aload_n (nx := 229) dX2_ask_228 rfl rfl ?_
          refine wp_iconst (nx := 230) dX2_ask_229 rfl (i32 (by decide)) ?_
          refine wp_putIe (kk := 3) 3 (nx := 233) clsX2 dX2_ask_230 rfl kF_X2_31 (by decide) (fo_40 F) (ft_40 F) rfl rfl (fz_of (Or.inr rfl)) rfl ?_
          refine wp_goto (nx := 239) dX2_ask_233 rfl ?_
          refine wp_iinc (nx := 242) dX2_ask_239 rfl rfl (by decide) ?_
          refine wp_ls (ls2 := [cA 40, cU, cU, cU, cU, cI l5, cA l6, cI l7, cI (w32 (l8 + 1)), cJ s0, cU, cU, cU]) rfl ?_
          refine wp_goto (nx := 51) dX2_ask_242 rfl ?_
          refine wp_fg [true, false, false, false, false, true, true, true, true, false, false, false, false] (ls2 := [cA 40, cU, cU, cU, cU, cI l5, cA l6, cI l7, cI (w32 (l8 + 1)), cU, cU, cU, cU]) rfl ?_
          exact h
      · have h := h.2 hc
        refine wp_aload_n (nx := 155) dX2_ask_154 rfl rfl ?_
        refine wp_getAe (kk := 0) (nx := 158) clsX2 dX2_ask_155 rfl kF_X2_12 (by decide) (fo_40 F) (ft_40 F) rfl (fp_40_0 F) ?_
        refine wp_aload (nx := 160) dX2_ask_158 rfl rfl ?_
        refine wp_getAe (kk := 8) (nx := 163) clsX9 dX2_ask_160 rfl kF_X2_54 (by decide) (tx_b0 htx_l6) (tx_t0 htx_l6) rfl (tx_p8 htx_l6) ?_
        refine wp_aload (nx := 165) dX2_ask_163 rfl rfl ?_
        refine wp_getAe (kk := 5) (nx := 168) clsX9 dX2_ask_165 rfl kF_X2_63 (by decide) (tx_b0 htx_l6) (tx_t0 htx_l6) rfl (tx_p5 htx_l6) ?_
        refine wp_iload (nx := 170) dX2_ask_168 rfl rfl ?_
        obtain ⟨hi, h⟩ := h
        refine wp_ialoadE (nx := 171) dX2_ask_170 rfl (tx_b3 htx_l6) rfl hi (tx_t3 htx_l6) rfl ?_
        refine wp_aload_n (nx := 172) dX2_ask_171 rfl rfl ?_
        refine wp_getAe (kk := 1) (nx := 175) clsX2 dX2_ask_172 rfl kF_X2_18 (by decide) (fo_40 F) (ft_40 F) rfl (fp_40_1 F) ?_
        refine wp_invV (nx := 178) (N := M_X5_reckon) (as := [cA (l6 + 6), cI (C (l6 + 3) l8), cA 43]) (st := []) (mc := 0) (ms := 0) (mc' := mc) (ms' := ms) (a := 41) clsX5 dX2_ask_175 rfl mok_X5_reckon kM_X2_57 ki_X5_reckon ke_X5_reckon (fo_41 F) (ft_41 F) rfl rfl (leB rfl) (leB rfl) (z0 _) (z0 _) (Wp.mono h ?_)
        intro r1 Sq C2 h
        obtain ⟨e9, h⟩ := h
        rw [e9]
        show Wp (d + 1) mc ms M_X2_ask 178 [cA 40, cU, cU, cU, cU, cI l5, cA l6, cI l7, cI l8, cJ s0, cU, cU, cU] [cJ r1] S C2 Q
        refine wp_lstore (nx := 180) dX2_ask_178 rfl (by decide) ?_
        refine wp_ls (ls2 := [cA 40, cU, cU, cU, cU, cI l5, cA l6, cI l7, cI l8, cJ s0, cU, cJ r1, cU]) rfl ?_
        refine wp_aload_n (nx := 181) dX2_ask_180 rfl rfl ?_
        refine wp_lload (nx := 183) dX2_ask_181 rfl rfl ?_
        refine wp_ldc2 (nx := 186) dX2_ask_183 rfl kJ_X2_61 (i64 (by decide)) ?_
        refine wp_lcmp (nx := 187) dX2_ask_186 rfl ?_
        refine wp_if_ne (nx := 190) (tg := 197) dX2_ask_187 rfl rfl (fun hc => ?_) (fun hc => ?_)
        · have h := h.1 hc
          refine wp_lconst (nx := 198) (v := 0) dX2_ask_197 rfl ⟨by decide, i64 (by decide)⟩ ?_
          refine wp_ldc2 (nx := 201) dX2_ask_198 rfl kJ_X2_66 (i64 (by decide)) ?_
          refine wp_lload (nx := 203) dX2_ask_201 rfl rfl ?_
          refine wp_mminJ (nx := 206) dX2_ask_203 rfl kM_X2_68 (leB rfl) ?_
          refine wp_mmaxJ (nx := 209) dX2_ask_206 rfl kM_X2_74 (leB rfl) ?_
          refine wp_l2i (nx := 210) dX2_ask_209 rfl ?_
          refine wp_putIe (kk := 2) 2 (nx := 213) clsX2 dX2_ask_210 rfl kF_X2_22 (by decide) (fo_40 F) (ft_40 F) rfl rfl ⟨rfl, rfl⟩ rfl ?_
          refine wp_goto (nx := 239) dX2_ask_213 rfl ?_
          refine wp_iinc (nx := 242) dX2_ask_239 rfl rfl (by decide) ?_
          refine wp_ls (ls2 := [cA 40, cU, cU, cU, cU, cI l5, cA l6, cI l7, cI (w32 (l8 + 1)), cJ s0, cU, cJ r1, cU]) rfl ?_
          refine wp_goto (nx := 51) dX2_ask_242 rfl ?_
          refine wp_fg [true, false, false, false, false, true, true, true, true, false, false, false, false] (ls2 := [cA 40, cU, cU, cU, cU, cI l5, cA l6, cI l7, cI (w32 (l8 + 1)), cU, cU, cU, cU]) rfl ?_
          exact h
        · have h := h.2 hc
          refine wp_aload_n (nx := 191) dX2_ask_190 rfl rfl ?_
          refine wp_getIe (kk := 2) 2 (nx := 194) clsX2 dX2_ask_191 rfl kF_X2_22 (by decide) (fo_40 F) (ft_40 F) rfl rfl rfl ?_
          refine wp_goto (nx := 210) dX2_ask_194 rfl ?_
          refine wp_putIe (kk := 2) 2 (nx := 213) clsX2 dX2_ask_210 rfl kF_X2_22 (by decide) (fo_40 F) (ft_40 F) rfl rfl ⟨rfl, rfl⟩ rfl ?_
          refine wp_goto (nx := 239) dX2_ask_213 rfl ?_
          refine wp_iinc (nx := 242) dX2_ask_239 rfl rfl (by decide) ?_
          refine wp_ls (ls2 := [cA 40, cU, cU, cU, cU, cI l5, cA l6, cI l7, cI (w32 (l8 + 1)), cJ s0, cU, cJ r1, cU]) rfl ?_
          refine wp_goto (nx := 51) dX2_ask_242 rfl ?_
          refine wp_fg [true, false, false, false, false, true, true, true, true, false, false, false, false] (ls2 := [cA 40, cU, cU, cU, cU, cI l5, cA l6, cI l7, cI (w32 (l8 + 1)), cU, cU, cU, cU]) rfl ?_
          exact h
    · have h := h.2 hc
      refine wp_goto (nx := 239) dX2_ask_139 rfl ?_
      refine wp_iinc (nx := 242) dX2_ask_239 rfl rfl (by decide) ?_
      refine wp_ls (ls2 := [cA 40, cU, cU, cU, cU, cI l5, cA l6, cI l7, cI (w32 (l8 + 1)), cJ s0, cU, cU, cU]) rfl ?_
      refine wp_goto (nx := 51) dX2_ask_242 rfl ?_
      refine wp_fg [true, false, false, false, false, true, true, true, true, false, false, false, false] (ls2 := [cA 40, cU, cU, cU, cU, cI l5, cA l6, cI l7, cI (w32 (l8 + 1)), cU, cU, cU, cU]) rfl ?_
      exact h
theorem b_X2_tellWords_0 {d mc ms : Nat} {l1 l2 l3 l4 : Int} {S : MS} {C : MC} {Q : Int → MS → MC → Prop} (F : Fix S) (hs_l1 : isSt l1) (h : ((0 : Int) ≤ l3 ∧ l3 < 8) ∧ ((0 : Int) ≤ l2 ∧ l2 < 6) ∧ ((0 : Int) ≤ l2 ∧ l2 < 6) ∧ Q 0 S (upC (upC (upC (upC (upC (upC (upC (upC C 43 0 l2) 43 1 l3) 43 2 ((upC (upC C 43 0 l2) 43 1 l3) (l1 + 3) l3)) 43 3 l4) 43 4 ((upC (upC (upC (upC C 43 0 l2) 43 1 l3) 43 2 ((upC (upC C 43 0 l2) 43 1 l3) (l1 + 3) l3)) 43 3 l4) (l1 + 1) l2)) 43 5 ((upC (upC (upC (upC (upC C 43 0 l2) 43 1 l3) 43 2 ((upC (upC C 43 0 l2) 43 1 l3) (l1 + 3) l3)) 43 3 l4) 43 4 ((upC (upC (upC (upC C 43 0 l2) 43 1 l3) 43 2 ((upC (upC C 43 0 l2) 43 1 l3) (l1 + 3) l3)) 43 3 l4) (l1 + 1) l2)) (l1 + 2) l2)) 43 6 ((upC (upC (upC (upC (upC (upC C 43 0 l2) 43 1 l3) 43 2 ((upC (upC C 43 0 l2) 43 1 l3) (l1 + 3) l3)) 43 3 l4) 43 4 ((upC (upC (upC (upC C 43 0 l2) 43 1 l3) 43 2 ((upC (upC C 43 0 l2) 43 1 l3) (l1 + 3) l3)) 43 3 l4) (l1 + 1) l2)) 43 5 ((upC (upC (upC (upC (upC C 43 0 l2) 43 1 l3) 43 2 ((upC (upC C 43 0 l2) 43 1 l3) (l1 + 3) l3)) 43 3 l4) 43 4 ((upC (upC (upC (upC C 43 0 l2) 43 1 l3) 43 2 ((upC (upC C 43 0 l2) 43 1 l3) (l1 + 3) l3)) 43 3 l4) (l1 + 1) l2)) (l1 + 2) l2)) (l1 + 7) 0)) 43 7 ((upC (upC (upC (upC (upC (upC (upC C 43 0 l2) 43 1 l3) 43 2 ((upC (upC C 43 0 l2) 43 1 l3) (l1 + 3) l3)) 43 3 l4) 43 4 ((upC (upC (upC (upC C 43 0 l2) 43 1 l3) 43 2 ((upC (upC C 43 0 l2) 43 1 l3) (l1 + 3) l3)) 43 3 l4) (l1 + 1) l2)) 43 5 ((upC (upC (upC (upC (upC C 43 0 l2) 43 1 l3) 43 2 ((upC (upC C 43 0 l2) 43 1 l3) (l1 + 3) l3)) 43 3 l4) 43 4 ((upC (upC (upC (upC C 43 0 l2) 43 1 l3) 43 2 ((upC (upC C 43 0 l2) 43 1 l3) (l1 + 3) l3)) 43 3 l4) (l1 + 1) l2)) (l1 + 2) l2)) 43 6 ((upC (upC (upC (upC (upC (upC C 43 0 l2) 43 1 l3) 43 2 ((upC (upC C 43 0 l2) 43 1 l3) (l1 + 3) l3)) 43 3 l4) 43 4 ((upC (upC (upC (upC C 43 0 l2) 43 1 l3) 43 2 ((upC (upC C 43 0 l2) 43 1 l3) (l1 + 3) l3)) 43 3 l4) (l1 + 1) l2)) 43 5 ((upC (upC (upC (upC (upC C 43 0 l2) 43 1 l3) 43 2 ((upC (upC C 43 0 l2) 43 1 l3) (l1 + 3) l3)) 43 3 l4) 43 4 ((upC (upC (upC (upC C 43 0 l2) 43 1 l3) 43 2 ((upC (upC C 43 0 l2) 43 1 l3) (l1 + 3) l3)) 43 3 l4) (l1 + 1) l2)) (l1 + 2) l2)) (l1 + 7) 0)) (l1 + 7) 2))) : K_X2_tellWords_0 d mc ms l1 l2 l3 l4 S C Q := by
  show Wp d mc ms M_X2_tellWords 0 [cA 40, cA l1, cI l2, cI l3, cI l4] [] S C Q
  refine wp_aload_n (nx := 1) dX2_tellWords_0 rfl rfl ?_
  refine wp_getAe (kk := 1) (nx := 4) clsX2 dX2_tellWords_1 rfl kF_X2_18 (by decide) (fo_40 F) (ft_40 F) rfl (fp_40_1 F) ?_
  refine wp_iconst (nx := 5) dX2_tellWords_4 rfl (i32 (by decide)) ?_
  refine wp_iload_n (nx := 6) dX2_tellWords_5 rfl rfl ?_
  refine wp_iastoreE (nx := 7) dX2_tellWords_6 rfl (fo_43 F) (fl_43 F) (by decide) (ft_43 F) ?_
  refine wp_aload_n (nx := 8) dX2_tellWords_7 rfl rfl ?_
  refine wp_getAe (kk := 1) (nx := 11) clsX2 dX2_tellWords_8 rfl kF_X2_18 (by decide) (fo_40 F) (ft_40 F) rfl (fp_40_1 F) ?_
  refine wp_iconst (nx := 12) dX2_tellWords_11 rfl (i32 (by decide)) ?_
  refine wp_iload_n (nx := 13) dX2_tellWords_12 rfl rfl ?_
  refine wp_iastoreE (nx := 14) dX2_tellWords_13 rfl (fo_43 F) (fl_43 F) (by decide) (ft_43 F) ?_
  refine wp_aload_n (nx := 15) dX2_tellWords_14 rfl rfl ?_
  refine wp_getAe (kk := 1) (nx := 18) clsX2 dX2_tellWords_15 rfl kF_X2_18 (by decide) (fo_40 F) (ft_40 F) rfl (fp_40_1 F) ?_
  refine wp_iconst (nx := 19) dX2_tellWords_18 rfl (i32 (by decide)) ?_
  refine wp_aload_n (nx := 20) dX2_tellWords_19 rfl rfl ?_
  refine wp_getAe (kk := 3) (nx := 23) clsX7 dX2_tellWords_20 rfl kF_X2_26 (by decide) (st_b0 F hs_l1) (st_t0 F hs_l1) rfl (st_p3 F hs_l1) ?_
  refine wp_iload_n (nx := 24) dX2_tellWords_23 rfl rfl ?_
  obtain ⟨hi, h⟩ := h
  refine wp_ialoadE (nx := 25) dX2_tellWords_24 rfl (st_b3 F hs_l1) (st_l3 F hs_l1) hi (st_t3 F hs_l1) rfl ?_
  refine wp_iastoreE (nx := 26) dX2_tellWords_25 rfl (fo_43 F) (fl_43 F) (by decide) (ft_43 F) ?_
  refine wp_aload_n (nx := 27) dX2_tellWords_26 rfl rfl ?_
  refine wp_getAe (kk := 1) (nx := 30) clsX2 dX2_tellWords_27 rfl kF_X2_18 (by decide) (fo_40 F) (ft_40 F) rfl (fp_40_1 F) ?_
  refine wp_iconst (nx := 31) dX2_tellWords_30 rfl (i32 (by decide)) ?_
  refine wp_iload (nx := 33) dX2_tellWords_31 rfl rfl ?_
  refine wp_iastoreE (nx := 34) dX2_tellWords_33 rfl (fo_43 F) (fl_43 F) (by decide) (ft_43 F) ?_
  refine wp_aload_n (nx := 35) dX2_tellWords_34 rfl rfl ?_
  refine wp_getAe (kk := 1) (nx := 38) clsX2 dX2_tellWords_35 rfl kF_X2_18 (by decide) (fo_40 F) (ft_40 F) rfl (fp_40_1 F) ?_
  refine wp_iconst (nx := 39) dX2_tellWords_38 rfl (i32 (by decide)) ?_
  refine wp_aload_n (nx := 40) dX2_tellWords_39 rfl rfl ?_
  refine wp_getAe (kk := 1) (nx := 43) clsX7 dX2_tellWords_40 rfl kF_X2_77 (by decide) (st_b0 F hs_l1) (st_t0 F hs_l1) rfl (st_p1 F hs_l1) ?_
  refine wp_iload_n (nx := 44) dX2_tellWords_43 rfl rfl ?_
  obtain ⟨hi, h⟩ := h
  refine wp_ialoadE (nx := 45) dX2_tellWords_44 rfl (st_b1 F hs_l1) (st_l1 F hs_l1) hi (st_t1 F hs_l1) rfl ?_
  refine wp_iastoreE (nx := 46) dX2_tellWords_45 rfl (fo_43 F) (fl_43 F) (by decide) (ft_43 F) ?_
  refine wp_aload_n (nx := 47) dX2_tellWords_46 rfl rfl ?_
  refine wp_getAe (kk := 1) (nx := 50) clsX2 dX2_tellWords_47 rfl kF_X2_18 (by decide) (fo_40 F) (ft_40 F) rfl (fp_40_1 F) ?_
  refine wp_iconst (nx := 51) dX2_tellWords_50 rfl (i32 (by decide)) ?_
  refine wp_aload_n (nx := 52) dX2_tellWords_51 rfl rfl ?_
  refine wp_getAe (kk := 2) (nx := 55) clsX7 dX2_tellWords_52 rfl kF_X2_80 (by decide) (st_b0 F hs_l1) (st_t0 F hs_l1) rfl (st_p2 F hs_l1) ?_
  refine wp_iload_n (nx := 56) dX2_tellWords_55 rfl rfl ?_
  obtain ⟨hi, h⟩ := h
  refine wp_ialoadE (nx := 57) dX2_tellWords_56 rfl (st_b2 F hs_l1) (st_l2 F hs_l1) hi (st_t2 F hs_l1) rfl ?_
  refine wp_iastoreE (nx := 58) dX2_tellWords_57 rfl (fo_43 F) (fl_43 F) (by decide) (ft_43 F) ?_
  refine wp_aload_n (nx := 59) dX2_tellWords_58 rfl rfl ?_
  refine wp_getAe (kk := 1) (nx := 62) clsX2 dX2_tellWords_59 rfl kF_X2_18 (by decide) (fo_40 F) (ft_40 F) rfl (fp_40_1 F) ?_
  refine wp_bipush (nx := 64) dX2_tellWords_62 rfl ⟨by decide, i32 (by decide)⟩ ?_
  refine wp_aload_n (nx := 65) dX2_tellWords_64 rfl rfl ?_
  refine wp_getAe (kk := 10) (nx := 68) clsX7 dX2_tellWords_65 rfl kF_X2_83 (by decide) (st_b0 F hs_l1) (st_t0 F hs_l1) rfl (st_p10 F hs_l1) ?_
  refine wp_iconst (nx := 69) dX2_tellWords_68 rfl (i32 (by decide)) ?_
  refine wp_ialoadE (nx := 70) dX2_tellWords_69 rfl (st_b7 F hs_l1) (st_l7 F hs_l1) (by decide) (st_t7 F hs_l1) rfl ?_
  refine wp_iastoreE (nx := 71) dX2_tellWords_70 rfl (fo_43 F) (fl_43 F) (by decide) (ft_43 F) ?_
  refine wp_aload_n (nx := 72) dX2_tellWords_71 rfl rfl ?_
  refine wp_getAe (kk := 1) (nx := 75) clsX2 dX2_tellWords_72 rfl kF_X2_18 (by decide) (fo_40 F) (ft_40 F) rfl (fp_40_1 F) ?_
  refine wp_bipush (nx := 77) dX2_tellWords_75 rfl ⟨by decide, i32 (by decide)⟩ ?_
  refine wp_aload_n (nx := 78) dX2_tellWords_77 rfl rfl ?_
  refine wp_getAe (kk := 10) (nx := 81) clsX7 dX2_tellWords_78 rfl kF_X2_83 (by decide) (st_b0 F hs_l1) (st_t0 F hs_l1) rfl (st_p10 F hs_l1) ?_
  refine wp_iconst (nx := 82) dX2_tellWords_81 rfl (i32 (by decide)) ?_
  refine wp_ialoadE (nx := 83) dX2_tellWords_82 rfl (st_b7 F hs_l1) (st_l7 F hs_l1) (by decide) (st_t7 F hs_l1) rfl ?_
  refine wp_iastoreE (nx := 84) dX2_tellWords_83 rfl (fo_43 F) (fl_43 F) (by decide) (ft_43 F) ?_
  exact wp_return dX2_tellWords_84 rfl h
