/-! 09s.str: the text constant -/
theorem dJ0_length_8abf5_0 : decode cJ0_length_8abf5 0 = .ok (.aload_n 0, 1) := by decide +kernel
theorem dJ0_length_8abf5_1 : decode cJ0_length_8abf5 1 = .ok (.getfield 9, 3) := by decide +kernel
theorem dJ0_length_8abf5_4 : decode cJ0_length_8abf5 4 = .ok (.arraylength, 1) := by decide +kernel
theorem dJ0_length_8abf5_5 : decode cJ0_length_8abf5 5 = .ok (.aload_n 0, 1) := by decide +kernel
theorem dJ0_length_8abf5_6 : decode cJ0_length_8abf5 6 = .ok (.invokevirtual 335, 3) := by decide +kernel
theorem dJ0_length_8abf5_9 : decode cJ0_length_8abf5 9 = .ok (.ishr, 1) := by decide +kernel
theorem dJ0_length_8abf5_10 : decode cJ0_length_8abf5 10 = .ok (.ireturn, 1) := by decide +kernel
theorem dJ0_coder_7d493_0 : decode cJ0_coder_7d493 0 = .ok (.getstatic 38, 3) := by decide +kernel
theorem dJ0_coder_7d493_3 : decode cJ0_coder_7d493 3 = .ok (.ifCond .eq 10, 3) := by decide +kernel
theorem dJ0_coder_7d493_6 : decode cJ0_coder_7d493 6 = .ok (.aload_n 0, 1) := by decide +kernel
theorem dJ0_coder_7d493_7 : decode cJ0_coder_7d493 7 = .ok (.getfield 15, 3) := by decide +kernel
theorem dJ0_coder_7d493_10 : decode cJ0_coder_7d493 10 = .ok (.goto 4, 3) := by decide +kernel
theorem dJ0_coder_7d493_13 : decode cJ0_coder_7d493 13 = .ok (.iconst 1, 1) := by decide +kernel
theorem dJ0_coder_7d493_14 : decode cJ0_coder_7d493 14 = .ok (.ireturn, 1) := by decide +kernel
theorem dJ0_charAt_5068e_0 : decode cJ0_charAt_5068e 0 = .ok (.aload_n 0, 1) := by decide +kernel
theorem dJ0_charAt_5068e_1 : decode cJ0_charAt_5068e 1 = .ok (.invokevirtual 492, 3) := by decide +kernel
theorem dJ0_charAt_5068e_4 : decode cJ0_charAt_5068e 4 = .ok (.ifCond .eq 12, 3) := by decide +kernel
theorem dJ0_charAt_5068e_7 : decode cJ0_charAt_5068e 7 = .ok (.aload_n 0, 1) := by decide +kernel
theorem dJ0_charAt_5068e_8 : decode cJ0_charAt_5068e 8 = .ok (.getfield 9, 3) := by decide +kernel
theorem dJ0_charAt_5068e_11 : decode cJ0_charAt_5068e 11 = .ok (.iload_n 1, 1) := by decide +kernel
theorem dJ0_charAt_5068e_12 : decode cJ0_charAt_5068e 12 = .ok (.invokestatic 495, 3) := by decide +kernel
theorem dJ0_charAt_5068e_15 : decode cJ0_charAt_5068e 15 = .ok (.ireturn, 1) := by decide +kernel
theorem dJ0_charAt_5068e_16 : decode cJ0_charAt_5068e 16 = .ok (.aload_n 0, 1) := by decide +kernel
theorem dJ0_charAt_5068e_17 : decode cJ0_charAt_5068e 17 = .ok (.getfield 9, 3) := by decide +kernel
theorem dJ0_charAt_5068e_20 : decode cJ0_charAt_5068e 20 = .ok (.iload_n 1, 1) := by decide +kernel
theorem dJ0_charAt_5068e_21 : decode cJ0_charAt_5068e 21 = .ok (.invokestatic 498, 3) := by decide +kernel
theorem dJ0_charAt_5068e_24 : decode cJ0_charAt_5068e 24 = .ok (.ireturn, 1) := by decide +kernel
theorem dJ0_isLatin1_aae02_0 : decode cJ0_isLatin1_aae02 0 = .ok (.getstatic 38, 3) := by decide +kernel
theorem dJ0_isLatin1_aae02_3 : decode cJ0_isLatin1_aae02 3 = .ok (.ifCond .eq 14, 3) := by decide +kernel
theorem dJ0_isLatin1_aae02_6 : decode cJ0_isLatin1_aae02 6 = .ok (.aload_n 0, 1) := by decide +kernel
theorem dJ0_isLatin1_aae02_7 : decode cJ0_isLatin1_aae02 7 = .ok (.getfield 15, 3) := by decide +kernel
theorem dJ0_isLatin1_aae02_10 : decode cJ0_isLatin1_aae02 10 = .ok (.ifCond .ne 7, 3) := by decide +kernel
theorem dJ0_isLatin1_aae02_13 : decode cJ0_isLatin1_aae02 13 = .ok (.iconst 1, 1) := by decide +kernel
theorem dJ0_isLatin1_aae02_14 : decode cJ0_isLatin1_aae02 14 = .ok (.goto 4, 3) := by decide +kernel
theorem dJ0_isLatin1_aae02_17 : decode cJ0_isLatin1_aae02 17 = .ok (.iconst 0, 1) := by decide +kernel
theorem dJ0_isLatin1_aae02_18 : decode cJ0_isLatin1_aae02 18 = .ok (.ireturn, 1) := by decide +kernel
theorem dJ0_checkIndex_df160_0 : decode cJ0_checkIndex_df160 0 = .ok (.iload_n 0, 1) := by decide +kernel
theorem dJ0_checkIndex_df160_1 : decode cJ0_checkIndex_df160 1 = .ok (.iload_n 1, 1) := by decide +kernel
theorem dJ0_checkIndex_df160_2 : decode cJ0_checkIndex_df160 2 = .ok (.getstatic 1053, 3) := by decide +kernel
theorem dJ0_checkIndex_df160_5 : decode cJ0_checkIndex_df160 5 = .ok (.invokestatic 1059, 3) := by decide +kernel
theorem dJ0_checkIndex_df160_8 : decode cJ0_checkIndex_df160 8 = .ok (.pop, 1) := by decide +kernel
theorem dJ0_checkIndex_df160_9 : decode cJ0_checkIndex_df160 9 = .ok (.return_, 1) := by decide +kernel
theorem dJ1_charAt_3b067_0 : decode cJ1_charAt_3b067 0 = .ok (.iload_n 1, 1) := by decide +kernel
theorem dJ1_charAt_3b067_1 : decode cJ1_charAt_3b067 1 = .ok (.aload_n 0, 1) := by decide +kernel
theorem dJ1_charAt_3b067_2 : decode cJ1_charAt_3b067 2 = .ok (.arraylength, 1) := by decide +kernel
theorem dJ1_charAt_3b067_3 : decode cJ1_charAt_3b067 3 = .ok (.invokestatic 9, 3) := by decide +kernel
theorem dJ1_charAt_3b067_6 : decode cJ1_charAt_3b067 6 = .ok (.aload_n 0, 1) := by decide +kernel
theorem dJ1_charAt_3b067_7 : decode cJ1_charAt_3b067 7 = .ok (.iload_n 1, 1) := by decide +kernel
theorem dJ1_charAt_3b067_8 : decode cJ1_charAt_3b067 8 = .ok (.baload, 1) := by decide +kernel
theorem dJ1_charAt_3b067_9 : decode cJ1_charAt_3b067 9 = .ok (.sipush 255, 3) := by decide +kernel
theorem dJ1_charAt_3b067_12 : decode cJ1_charAt_3b067 12 = .ok (.iand, 1) := by decide +kernel
theorem dJ1_charAt_3b067_13 : decode cJ1_charAt_3b067 13 = .ok (.i2c, 1) := by decide +kernel
theorem dJ1_charAt_3b067_14 : decode cJ1_charAt_3b067 14 = .ok (.ireturn, 1) := by decide +kernel
theorem dJ3_checkIndex_8e157_0 : decode cJ3_checkIndex_8e157 0 = .ok (.iload_n 0, 1) := by decide +kernel
theorem dJ3_checkIndex_8e157_1 : decode cJ3_checkIndex_8e157 1 = .ok (.ifCond .lt 8, 3) := by decide +kernel
theorem dJ3_checkIndex_8e157_4 : decode cJ3_checkIndex_8e157 4 = .ok (.iload_n 0, 1) := by decide +kernel
theorem dJ3_checkIndex_8e157_5 : decode cJ3_checkIndex_8e157 5 = .ok (.iload_n 1, 1) := by decide +kernel
theorem dJ3_checkIndex_8e157_6 : decode cJ3_checkIndex_8e157 6 = .ok (.if_icmp .lt 10, 3) := by decide +kernel
theorem dJ3_checkIndex_8e157_9 : decode cJ3_checkIndex_8e157 9 = .ok (.aload_n 2, 1) := by decide +kernel
theorem dJ3_checkIndex_8e157_10 : decode cJ3_checkIndex_8e157 10 = .ok (.iload_n 0, 1) := by decide +kernel
theorem dJ3_checkIndex_8e157_11 : decode cJ3_checkIndex_8e157 11 = .ok (.iload_n 1, 1) := by decide +kernel
theorem dJ3_checkIndex_8e157_12 : decode cJ3_checkIndex_8e157 12 = .ok (.invokestatic 95, 3) := by decide +kernel
theorem dJ3_checkIndex_8e157_15 : decode cJ3_checkIndex_8e157 15 = .ok (.athrow, 1) := by decide +kernel
theorem dJ3_checkIndex_8e157_16 : decode cJ3_checkIndex_8e157 16 = .ok (.iload_n 0, 1) := by decide +kernel
theorem dJ3_checkIndex_8e157_17 : decode cJ3_checkIndex_8e157 17 = .ok (.ireturn, 1) := by decide +kernel
theorem wp_eqI {d mc ms : Nat} {M : MD} {pc : Nat} {ls st : List MV} {S : MS} {C : MC} {x : Int} {Q : Int → MS → MC → Prop} (x2 : Int) (h : x = x2) (k : Wp d mc ms M pc ls (cI x2 :: st) S C Q) : Wp d mc ms M pc ls (cI x :: st) S C Q := h ▸ k
theorem eV_n2 (ad : Int → Nat) : eV ad (cA (-2)) = .ref (ad (-2)) := (if_neg (by decide) : (if (-2 : Int) = -1 then Value.null else .ref (ad (-2))) = .ref (ad (-2)))
theorem eV_n4 (ad : Int → Nat) : eV ad (cA (-4)) = .ref (ad (-4)) := (if_neg (by decide) : (if (-4 : Int) = -1 then Value.null else .ref (ad (-4))) = .ref (ad (-4)))
theorem eV_n5 (ad : Int → Nat) : eV ad (cA (-5)) = .ref (ad (-5)) := (if_neg (by decide) : (if (-5 : Int) = -1 then Value.null else .ref (ad (-5))) = .ref (ad (-5)))
theorem eV_n1 (ad : Int → Nat) : eV ad (cA (-1)) = .null := (if_pos rfl : (if (-1 : Int) = -1 then Value.null else .ref (ad (-1))) = .null)
theorem wp_ldcS {d mc ms : Nat} {M : MD} {pc nx : Nat} {ls st : List MV} {S : MS} {C : MC} {Q : Int → MS → MC → Prop} (hd : decode M.2.1 pc = .ok (.ldc 36, 2)) (hx : pc + 2 = nx) (hM : M.1.cls = "KeyHouses$Tape") (k : Wp d mc ms M nx ls (cA (-2) :: st) S C Q) : Wp d mc ms M pc ls st S C Q := by
  intro p l e s m args below meth c R D A n0 ad0 sc0 QQ ad cls tys H locs cells slots jls G
  obtain ⟨hc, hr, ha, hR, hL, hst, hE⟩ := G
  subst hx
  obtain ⟨x1, x2, x3, x4, x5, x6, x7⟩ := hR.2.2.2.2.2.2.2.2.2.2
  have h0n := hR.2.2.2.2.2.1.1
  have kk := k p l e s m args below meth c R D A n0 ad0 sc0 QQ ad cls tys H locs cells slots jls ⟨hc, hr, ha, hR, hL, List.forall_mem_cons.mpr ⟨⟨by decide, by show (-2 : Int) < S.1; omega⟩, hst⟩, hE⟩
  rw [List.map_cons, eV_n2] at kk
  exact va_ldcS hc.1 hc.2.1 (hM ▸ hc.2.2.2.1) x1 hd kk
theorem wp_strV {d mc ms : Nat} {M : MD} {pc nx : Nat} {ls st : List MV} {S : MS} {C : MC} {Q : Int → MS → MC → Prop} (hd : decode M.2.1 pc = .ok (.getfield 9, 3)) (hx : pc + 3 = nx) (hM : M.1.cls = "java/lang/String") (k : Wp d mc ms M nx ls (cA (-4) :: st) S C Q) : Wp d mc ms M pc ls (cA (-2) :: st) S C Q := by
  intro p l e s m args below meth c R D A n0 ad0 sc0 QQ ad cls tys H locs cells slots jls G
  obtain ⟨hc, hr, ha, hR, hL, hst, hE⟩ := G
  subst hx
  obtain ⟨x1, x2, x3, x4, x5, x6, x7⟩ := hR.2.2.2.2.2.2.2.2.2.2
  have h0n := hR.2.2.2.2.2.1.1
  have ho := List.forall_mem_cons.mp hst
  have kk := k p l e s m args below meth c R D A n0 ad0 sc0 QQ ad cls tys H locs cells slots jls ⟨hc, hr, ha, hR, hL, List.forall_mem_cons.mpr ⟨⟨by decide, by show (-4 : Int) < S.1; omega⟩, ho.2⟩, hE⟩
  rw [List.map_cons, eV_n4] at kk
  rw [List.map_cons, eV_n2]
  exact vk_getf hc.1 hc.2.1 x4 hR.2.2.2.1 (hM ▸ hc.2.2.2.1) (hc.2.2.2.2.1 _ kF_J0_9) (fun _ h => h) hd kk
theorem wp_strC {d mc ms : Nat} {M : MD} {pc nx : Nat} {ls st : List MV} {S : MS} {C : MC} {Q : Int → MS → MC → Prop} (hd : decode M.2.1 pc = .ok (.getfield 15, 3)) (hx : pc + 3 = nx) (hM : M.1.cls = "java/lang/String") (k : Wp d mc ms M nx ls (cI 0 :: st) S C Q) : Wp d mc ms M pc ls (cA (-2) :: st) S C Q := by
  intro p l e s m args below meth c R D A n0 ad0 sc0 QQ ad cls tys H locs cells slots jls G
  obtain ⟨hc, hr, ha, hR, hL, hst, hE⟩ := G
  subst hx
  obtain ⟨x1, x2, x3, x4, x5, x6, x7⟩ := hR.2.2.2.2.2.2.2.2.2.2
  have h0n := hR.2.2.2.2.2.1.1
  have ho := List.forall_mem_cons.mp hst
  have kk := k p l e s m args below meth c R D A n0 ad0 sc0 QQ ad cls tys H locs cells slots jls ⟨hc, hr, ha, hR, hL, List.forall_mem_cons.mpr ⟨in32_0, ho.2⟩, hE⟩
  rw [List.map_cons, eV_n2]
  exact vk_getf hc.1 hc.2.1 x3 hR.2.2.2.1 (hM ▸ hc.2.2.2.1) (hc.2.2.2.2.1 _ kF_J0_15) (fun _ h => h) hd kk
theorem wp_gsC {d mc ms : Nat} {M : MD} {pc nx : Nat} {ls st : List MV} {S : MS} {C : MC} {Q : Int → MS → MC → Prop} (hd : decode M.2.1 pc = .ok (.getstatic 38, 3)) (hx : pc + 3 = nx) (hM : M.1.cls = "java/lang/String") (k : Wp d mc ms M nx ls (cI 1 :: st) S C Q) : Wp d mc ms M pc ls st S C Q := by
  intro p l e s m args below meth c R D A n0 ad0 sc0 QQ ad cls tys H locs cells slots jls G
  obtain ⟨hc, hr, ha, hR, hL, hst, hE⟩ := G
  subst hx
  obtain ⟨x1, x2, x3, x4, x5, x6, x7⟩ := hR.2.2.2.2.2.2.2.2.2.2
  have h0n := hR.2.2.2.2.2.1.1
  have kk := k p l e s m args below meth c R D A n0 ad0 sc0 QQ ad cls tys H locs cells slots jls ⟨hc, hr, ha, hR, hL, List.forall_mem_cons.mpr ⟨i32 (by decide), hst⟩, hE⟩
  exact va_gets hc.1 hc.2.1 x6 hR.2.2.2.1 (hM ▸ hc.2.2.2.1) (hc.2.2.2.2.1 _ kF_J0_38) (fun _ h => h) hd kk
theorem wp_gsF {d mc ms : Nat} {M : MD} {pc nx : Nat} {ls st : List MV} {S : MS} {C : MC} {Q : Int → MS → MC → Prop} (hd : decode M.2.1 pc = .ok (.getstatic 1053, 3)) (hx : pc + 3 = nx) (hM : M.1.cls = "java/lang/String") (k : ∀ x : Int, Wp d mc ms M nx ls (cA x :: st) S C Q) : Wp d mc ms M pc ls st S C Q := by
  intro p l e s m args below meth c R D A n0 ad0 sc0 QQ ad cls tys H locs cells slots jls G
  obtain ⟨hc, hr, ha, hR, hL, hst, hE⟩ := G
  subst hx
  obtain ⟨x1, x2, x3, x4, x5, x6, x7⟩ := hR.2.2.2.2.2.2.2.2.2.2
  have h0n := hR.2.2.2.2.2.1.1
  rcases x7 with x7 | x7
  · have k := k (-1)
    have kk := k p l e s m args below meth c R D A n0 ad0 sc0 QQ ad cls tys H locs cells slots jls ⟨hc, hr, ha, hR, hL, List.forall_mem_cons.mpr ⟨(show (-6 : Int) < -1 ∧ (-1 : Int) < S.1 from ⟨by decide, by omega⟩), hst⟩, hE⟩
    rw [List.map_cons, eV_n1] at kk
    exact va_gets hc.1 hc.2.1 x7 hR.2.2.2.1 (hM ▸ hc.2.2.2.1) (hc.2.2.2.2.1 _ kF_J0_1053) (fun _ h => h) hd kk
  · have k := k (-5)
    have kk := k p l e s m args below meth c R D A n0 ad0 sc0 QQ ad cls tys H locs cells slots jls ⟨hc, hr, ha, hR, hL, List.forall_mem_cons.mpr ⟨(show (-6 : Int) < -5 ∧ (-5 : Int) < S.1 from ⟨by decide, by omega⟩), hst⟩, hE⟩
    rw [List.map_cons, eV_n5] at kk
    exact va_gets hc.1 hc.2.1 x7 hR.2.2.2.1 (hM ▸ hc.2.2.2.1) (hc.2.2.2.2.1 _ kF_J0_1053) (fun _ h => h) hd kk
theorem wp_sblen {d mc ms : Nat} {M : MD} {pc nx : Nat} {ls st : List MV} {S : MS} {C : MC} {Q : Int → MS → MC → Prop} (hd : decode M.2.1 pc = .ok (.arraylength, 1)) (hx : pc + 1 = nx) (k : Wp d mc ms M nx ls (cI 136 :: st) S C Q) : Wp d mc ms M pc ls (cA (-4) :: st) S C Q := by
  intro p l e s m args below meth c R D A n0 ad0 sc0 QQ ad cls tys H locs cells slots jls G
  obtain ⟨hc, hr, ha, hR, hL, hst, hE⟩ := G
  subst hx
  obtain ⟨x1, x2, x3, x4, x5, x6, x7⟩ := hR.2.2.2.2.2.2.2.2.2.2
  have h0n := hR.2.2.2.2.2.1.1
  have ho := List.forall_mem_cons.mp hst
  have kk := k p l e s m args below meth c R D A n0 ad0 sc0 QQ ad cls tys H locs cells slots jls ⟨hc, hr, ha, hR, hL, List.forall_mem_cons.mpr ⟨i32 (by decide), ho.2⟩, hE⟩
  rw [List.map_cons, eV_n4]
  exact va_tlen hc.1 hc.2.1 x5 hR.2.2.2.1 (v := Int32.ofInt 136) rfl hd kk
theorem wrd_in (i : Int) : in32 (wrdC i) := by
  unfold wrdC
  have h : ∀ x ∈ wrdL, 0 ≤ x ∧ x < 128 := by decide +kernel
  rw [List.getD_eq_getElem?_getD]
  cases hg : wrdL[i.toNat]? with
  | none => exact in32_0
  | some x => have := h x (List.mem_of_getElem? hg); exact i32 (by simp; omega)
theorem wp_sbld {d mc ms : Nat} {M : MD} {pc nx : Nat} {ls st : List MV} {S : MS} {C : MC} {Q : Int → MS → MC → Prop} {i : Int} (hd : decode M.2.1 pc = .ok (.baload, 1)) (hx : pc + 1 = nx) (hi : 0 ≤ i ∧ i < 136) (k : Wp d mc ms M nx ls (cI (wrdC i) :: st) S C Q) : Wp d mc ms M pc ls (cI i :: cA (-4) :: st) S C Q := by
  intro p l e s m args below meth c R D A n0 ad0 sc0 QQ ad cls tys H locs cells slots jls G
  obtain ⟨hc, hr, ha, hR, hL, hst, hE⟩ := G
  subst hx
  obtain ⟨x1, x2, x3, x4, x5, x6, x7⟩ := hR.2.2.2.2.2.2.2.2.2.2
  have h0n := hR.2.2.2.2.2.1.1
  have ho := List.forall_mem_cons.mp hst
  have ho2 := List.forall_mem_cons.mp ho.2
  have hii : in32 i := ho.1
  have kk := k p l e s m args below meth c R D A n0 ad0 sc0 QQ ad cls tys H locs cells slots jls ⟨hc, hr, ha, hR, hL, List.forall_mem_cons.mpr ⟨wrd_in i, ho2.2⟩, hE⟩
  rw [List.map_cons, List.map_cons, eV_n4]
  have hv : (((Int32.ofInt i).toNatClampNeg : Nat) : Int) = i := by rw [clampI hii, Int.toNat_of_nonneg hi.1]
  refine va_tb hc.1 hc.2.1 x5 hR.2.2.2.1 (vpin hii hi.1 hi.2) (v := .int (Int32.ofInt (wrdC i))) ?_ hd kk
  show Value.int (Int32.ofInt (wrdC (((Int32.ofInt i).toNatClampNeg : Nat) : Int))) = _
  rw [hv]
def i2c (x : Int) : Int := ((Int32.ofInt x).toUInt32 % 65536).toInt32.toInt
theorem wp_i2c {d mc ms : Nat} {M : MD} {pc nx : Nat} {ls st : List MV} {S : MS} {C : MC} {Q : Int → MS → MC → Prop} {x : Int} (hd : decode M.2.1 pc = .ok (.i2c, 1)) (hx : pc + 1 = nx) (k : Wp d mc ms M nx ls (cI (i2c x) :: st) S C Q) : Wp d mc ms M pc ls (cI x :: st) S C Q := by
  intro p l e s m args below meth c R D A n0 ad0 sc0 QQ ad cls tys H locs cells slots jls G
  obtain ⟨hc, hr, ha, hR, hL, hst, hE⟩ := G
  subst hx
  obtain ⟨x1, x2, x3, x4, x5, x6, x7⟩ := hR.2.2.2.2.2.2.2.2.2.2
  have h0n := hR.2.2.2.2.2.1.1
  have ho := List.forall_mem_cons.mp hst
  refine lv_i2c hc.1 hc.2.1 hd (v := Int32.ofInt (i2c x)) (by unfold i2c; rw [Int32.ofInt_toInt]) ?_
  exact k p l e s m args below meth c R D A n0 ad0 sc0 QQ ad cls tys H locs cells slots jls ⟨hc, hr, ha, hR, hL, List.forall_mem_cons.mpr ⟨in32_toInt _, ho.2⟩, hE⟩
theorem wp_invVS {d mc ms : Nat} {M N : MD} {pc nx idx : Nat} {as : List MV} {ls st ls0 stk : List MV} {S : MS} {C : MC} {Q : Int → MS → MC → Prop} (hd : decode M.2.1 pc = .ok (.invokevirtual idx, 3)) (hx : pc + 3 = nx) (hNc : N.1.cls = "java/lang/String") (hN : MOk N as.length) (hlk : Cond.methodLink M.1.cls idx N.1 ∈ T0) (hi0 : Cond.instanceMethod N.1 ∈ T0) (hse : Cond.selects N.1.cls N.1 N.1 ∈ T0)
    (hs : stk = as.reverse ++ cA (-2) :: st) (hl0 : eL (cA (-2) :: as) N.2.2.1 = ls0) (hlen : (xL (cA (-2) :: as)).length ≤ N.2.2.1) (hsum : sumK st ≤ 8)
    (k : Wp d 0 0 N 0 ls0 [] S C (fun x S' C' => Wp (d + 1) mc ms M nx ls (pR N x ++ st) S' C' Q)) : Wp (d + 1) mc ms M pc ls stk S C Q := by
  intro p l e s m args below meth c R D A n0 ad0 sc0 QQ ad cls tys H locs cells slots jls G
  obtain ⟨hc, hr, ha, hR, hL, hst, hE⟩ := G
  obtain ⟨x1, x2, x3, x4, x5, x6, x7⟩ := hR.2.2.2.2.2.2.2.2.2.2
  subst hs
  subst hl0
  have hoks : ∀ v ∈ st, okV S.1 v := fun v hv => hst v (List.mem_append_right _ (List.mem_cons_of_mem _ hv))
  have hoka : ∀ v ∈ cA (-2) :: as, okV S.1 v := fun v hv => by
    rcases List.mem_cons.mp hv with e | hv
    · rw [e]; exact hst _ (List.mem_append_right _ List.mem_cons_self)
    · exact hst v (List.mem_append_left _ (List.mem_reverse.mpr hv))
  have hM := met_of_wp hN hlen k hoka l D A ad cls tys
  rw [List.map_cons, eV_n2] at hM
  have hrec : ∃ cell : Cell, H[ad (-2)]? = some cell ∧ cell.vm.isStatics = false ∧ s.vm.findClass N.1.cls = some cell.cls := by
    obtain ⟨cell, y1, y2, y3, y4⟩ := x2.kept (fun q h1 h2 => hR.2.2.2.1.2.1 q h1 h2)
    exact ⟨cell, y1, y2, hNc ▸ y3⟩
  have hpre := pre_call hR (.ref (ad (-2)) :: as.map (eV ad))
  have hrun := va_runV (p := p) (l := l) (e := e) (R := R) (s := s) (m := m) (args := args) (below := below) (meth := meth) (c := c) (H := H) (locs := locs) (cells := cells) (slots := slots) (Ts := T0) (own := M.1.cls) (C := N.1.cls) (index := idx) (b := ad (-2)) (g := F0 m pc jls ((as.reverse ++ cA (-2) :: st).map (eV ad))) (rest := st.map (eV ad)) (As := as.map (eV ad)) (nL := M.2.2.1)
    ⟨hc.1, hc.2.1, hc.2.2.1, hc.2.2.2.1, hc.2.2.2.2.1⟩ hM ⟨callB_of as.length hc.2.2.2.2.1 (good_ws hN) rfl rfl rfl (hc.2.2.2.2.1 _ hN.2.2.2.1) (hc.2.2.2.2.1 _ hlk) hN.2.2.1 ⟨by show d + 1 ≤ R.frames; omega, by have := hN.2.2.2.2; show 8 + (N.2.2.1 + 11) + 60 * d ≤ R.locals; omega⟩, hc.2.2.2.2.1 _ hi0, hc.2.2.2.2.1 _ hse⟩
    ⟨hpre.1, hrec, hpre.2⟩ rfl (List.length_map _) hL.1.1 (by rw [← List.map_reverse, List.map_append, List.map_cons, eV_n2]) (lv_room (by rw [sumK_eq st hoks]; exact hsum)) hd ⟨by omega, by omega⟩
  exact Wp.behind hrun hx hc ⟨hr.1, hr.2.1, by omega, by omega⟩ ha hR hL hoks hE
theorem wp_strlen {d mc ms : Nat} {M : MD} {pc nx : Nat} {ls st : List MV} {S : MS} {C : MC} {Q : Int → MS → MC → Prop} {idx : Nat} (hd : decode M.2.1 pc = .ok (.invokevirtual idx, 3)) (hx : pc + 3 = nx) (hlk : Cond.methodLink M.1.cls idx yJ0_length_8abf5 ∈ T0) (hsum : sumK st ≤ 8) (k : Wp (d + 6) mc ms M nx ls (cI 136 :: st) S C Q) : Wp (d + 6) mc ms M pc ls (cA (-2) :: st) S C Q := by
  refine wp_invVS (N := M_J0_length_8abf5) (as := []) (st := st) hd hx rfl mok_J0_length_8abf5 hlk ki_J0_length_8abf5 ke_J0_length_8abf5 rfl rfl (leB rfl) hsum ?_
  refine wp_aload_n (nx := 1) dJ0_length_8abf5_0 rfl rfl ?_
  refine wp_strV (nx := 4) dJ0_length_8abf5_1 rfl rfl ?_
  refine wp_sblen (nx := 5) dJ0_length_8abf5_4 rfl ?_
  refine wp_aload_n (nx := 6) dJ0_length_8abf5_5 rfl rfl ?_
  refine wp_invVS (nx := 9) (N := M_J0_coder_7d493) (as := []) (st := [cI 136]) dJ0_length_8abf5_6 rfl rfl mok_J0_coder_7d493 kM_J0_335 ki_J0_coder_7d493 ke_J0_coder_7d493 rfl rfl (leB rfl) (leB rfl) ?_
  refine wp_gsC (nx := 3) dJ0_coder_7d493_0 rfl rfl ?_
  refine wp_if_eq (nx := 6) (tg := 13) dJ0_coder_7d493_3 rfl rfl (fun hc => absurd hc (by decide)) (fun hc => ?_)
  refine wp_aload_n (nx := 7) dJ0_coder_7d493_6 rfl rfl ?_
  refine wp_strC (nx := 10) dJ0_coder_7d493_7 rfl rfl ?_
  refine wp_goto (nx := 14) dJ0_coder_7d493_10 rfl ?_
  refine wp_ireturn dJ0_coder_7d493_14 rfl rfl (by decide) ?_
  show Wp _ _ _ M_J0_length_8abf5 9 [cA (-2)] [cI 0, cI 136] S C _
  refine wp_ishr (nx := 10) dJ0_length_8abf5_9 rfl ?_
  refine wp_eqI 136 (by decide) ?_
  refine wp_ireturn dJ0_length_8abf5_10 rfl rfl rfl ?_
  exact k
theorem i2c_wrd {i : Int} : i2c (iAnd (wrdC i) 255) = wrdC i := by
  have h : ∀ x ∈ wrdL, i2c (iAnd x 255) = x := by decide +kernel
  unfold wrdC
  rw [List.getD_eq_getElem?_getD]
  cases hg : wrdL[i.toNat]? with
  | none => decide
  | some x => exact h x (List.mem_of_getElem? hg)
theorem wrd_narrow {i : Int} : narrow .char (.int (Int32.ofInt (wrdC i))) = .int (Int32.ofInt (wrdC i)) := by
  have h : ∀ x ∈ wrdL, narrow .char (.int (Int32.ofInt x)) = .int (Int32.ofInt x) := by decide +kernel
  unfold wrdC
  rw [List.getD_eq_getElem?_getD]
  cases hg : wrdL[i.toNat]? with
  | none => decide
  | some x => exact h x (List.mem_of_getElem? hg)
theorem wp_charAt {d mc ms : Nat} {M : MD} {pc nx : Nat} {ls st : List MV} {S : MS} {C : MC} {Q : Int → MS → MC → Prop} {idx : Nat} {i : Int} (hd : decode M.2.1 pc = .ok (.invokevirtual idx, 3)) (hx : pc + 3 = nx) (hlk : Cond.methodLink M.1.cls idx yJ0_charAt_5068e ∈ T0) (hi : 0 ≤ i ∧ i < 136) (hsum : sumK st ≤ 8) (k : Wp (d + 6) mc ms M nx ls (cI (wrdC i) :: st) S C Q) : Wp (d + 6) mc ms M pc ls (cI i :: cA (-2) :: st) S C Q := by
  refine wp_invVS (N := M_J0_charAt_5068e) (as := [cI i]) (st := st) hd hx rfl mok_J0_charAt_5068e hlk ki_J0_charAt_5068e ke_J0_charAt_5068e rfl rfl (leB rfl) hsum ?_
  refine wp_aload_n (nx := 1) dJ0_charAt_5068e_0 rfl rfl ?_
  refine wp_invVS (nx := 4) (N := M_J0_isLatin1_aae02) (as := []) (st := []) dJ0_charAt_5068e_1 rfl rfl mok_J0_isLatin1_aae02 kM_J0_492 ki_J0_isLatin1_aae02 ke_J0_isLatin1_aae02 rfl rfl (leB rfl) (leB rfl) ?_
  refine wp_gsC (nx := 3) dJ0_isLatin1_aae02_0 rfl rfl ?_
  refine wp_if_eq (nx := 6) (tg := 17) dJ0_isLatin1_aae02_3 rfl rfl (fun hc => absurd hc (by decide)) (fun hc => ?_)
  refine wp_aload_n (nx := 7) dJ0_isLatin1_aae02_6 rfl rfl ?_
  refine wp_strC (nx := 10) dJ0_isLatin1_aae02_7 rfl rfl ?_
  refine wp_if_ne (nx := 13) (tg := 17) dJ0_isLatin1_aae02_10 rfl rfl (fun hc => absurd rfl hc) (fun hc => ?_)
  refine wp_iconst (nx := 14) dJ0_isLatin1_aae02_13 rfl (i32 (by decide)) ?_
  refine wp_goto (nx := 18) dJ0_isLatin1_aae02_14 rfl ?_
  refine wp_ireturn dJ0_isLatin1_aae02_18 rfl rfl (nz_of (Or.inr rfl)) ?_
  show Wp _ _ _ M_J0_charAt_5068e 4 [cA (-2), cI i] [cI 1] S C _
  refine wp_if_eq (nx := 7) (tg := 16) dJ0_charAt_5068e_4 rfl rfl (fun hc => absurd hc (by decide)) (fun hc => ?_)
  refine wp_aload_n (nx := 8) dJ0_charAt_5068e_7 rfl rfl ?_
  refine wp_strV (nx := 11) dJ0_charAt_5068e_8 rfl rfl ?_
  refine wp_iload_n (nx := 12) dJ0_charAt_5068e_11 rfl rfl ?_
  refine wp_invS (nx := 15) (N := M_J1_charAt_3b067) (as := [cA (-4), cI i]) (st := []) (mc := 0) (ms := 0) (mc' := 0) (ms' := 0) dJ0_charAt_5068e_12 rfl mok_J1_charAt_3b067 kM_J0_495 ks_J1_charAt_3b067 rfl rfl (leB rfl) (leB rfl) (z0 _) (z0 _) ?_
  refine wp_iload_n (nx := 1) dJ1_charAt_3b067_0 rfl rfl ?_
  refine wp_aload_n (nx := 2) dJ1_charAt_3b067_1 rfl rfl ?_
  refine wp_sblen (nx := 3) dJ1_charAt_3b067_2 rfl ?_
  refine wp_invS (nx := 6) (N := M_J0_checkIndex_df160) (as := [cI i, cI 136]) (st := []) (mc := 0) (ms := 0) (mc' := 0) (ms' := 0) dJ1_charAt_3b067_3 rfl mok_J0_checkIndex_df160 kM_J1_9 ks_J0_checkIndex_df160 rfl rfl (leB rfl) (leB rfl) (z0 _) (z0 _) ?_
  refine wp_iload_n (nx := 1) dJ0_checkIndex_df160_0 rfl rfl ?_
  refine wp_iload_n (nx := 2) dJ0_checkIndex_df160_1 rfl rfl ?_
  refine wp_gsF (nx := 5) dJ0_checkIndex_df160_2 rfl rfl (fun x => ?_)
  refine wp_invS (nx := 8) (N := M_J3_checkIndex_8e157) (as := [cI i, cI 136, cA x]) (st := []) (mc := 0) (ms := 0) (mc' := 0) (ms' := 0) dJ0_checkIndex_df160_5 rfl mok_J3_checkIndex_8e157 kM_J0_1059 ks_J3_checkIndex_8e157 rfl rfl (leB rfl) (leB rfl) (z0 _) (z0 _) ?_
  refine wp_iload_n (nx := 1) dJ3_checkIndex_8e157_0 rfl rfl ?_
  refine wp_if_lt (nx := 4) (tg := 9) dJ3_checkIndex_8e157_1 rfl rfl (fun hc => absurd hc (by omega)) (fun hc => ?_)
  refine wp_iload_n (nx := 5) dJ3_checkIndex_8e157_4 rfl rfl ?_
  refine wp_iload_n (nx := 6) dJ3_checkIndex_8e157_5 rfl rfl ?_
  refine wp_icmp_lt (nx := 9) (tg := 16) dJ3_checkIndex_8e157_6 rfl rfl (fun hc => ?_) (fun hc => absurd hi.2 hc)
  refine wp_iload_n (nx := 17) dJ3_checkIndex_8e157_16 rfl rfl ?_
  refine wp_ireturn dJ3_checkIndex_8e157_17 rfl rfl rfl ?_
  show Wp _ _ _ M_J0_checkIndex_df160 8 [cI i, cI 136] [cI i] S C _
  refine wp_pop (nx := 9) dJ0_checkIndex_df160_8 rfl (k1I _) ?_
  refine wp_return dJ0_checkIndex_df160_9 rfl ?_
  show Wp _ _ _ M_J1_charAt_3b067 6 [cA (-4), cI i] [] S C _
  refine wp_aload_n (nx := 7) dJ1_charAt_3b067_6 rfl rfl ?_
  refine wp_iload_n (nx := 8) dJ1_charAt_3b067_7 rfl rfl ?_
  refine wp_sbld (nx := 9) dJ1_charAt_3b067_8 rfl hi ?_
  refine wp_sipush (nx := 12) dJ1_charAt_3b067_9 rfl ⟨by decide, i32 (by decide)⟩ ?_
  refine wp_iand (nx := 13) dJ1_charAt_3b067_12 rfl ?_
  refine wp_i2c (nx := 14) dJ1_charAt_3b067_13 rfl ?_
  refine wp_eqI (wrdC i) i2c_wrd ?_
  refine wp_ireturn dJ1_charAt_3b067_14 rfl rfl wrd_narrow ?_
  show Wp _ _ _ M_J0_charAt_5068e 15 [cA (-2), cI i] [cI (wrdC i)] S C _
  refine wp_ireturn dJ0_charAt_5068e_15 rfl rfl wrd_narrow ?_
  exact k
