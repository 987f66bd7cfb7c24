/-! 04.rules: one rule an instruction -/
def iAnd (x y : Int) : Int := (Int32.ofInt x &&& Int32.ofInt y).toInt
def iOr (x y : Int) : Int := (Int32.ofInt x ||| Int32.ofInt y).toInt
def iXor (x y : Int) : Int := (Int32.ofInt x ^^^ Int32.ofInt y).toInt
def iShl (x y : Int) : Int := (Int32.ofInt x <<< (Int32.ofInt y &&& 31)).toInt
def iShr (x y : Int) : Int := (Int32.ofInt x >>> (Int32.ofInt y &&& 31)).toInt
def iUshr (x y : Int) : Int := ((Int32.ofInt x).toUInt32 >>> ((Int32.ofInt y).toUInt32 &&& Int32.toUInt32 31)).toInt32.toInt
def i2b (x : Int) : Int := (Int32.ofInt x).toInt8.toInt32.toInt
def lShl (x y : Int) : Int := (Int64.ofInt x <<< ((Int32.ofInt y).toInt64 &&& 63)).toInt
def lShr (x y : Int) : Int := (Int64.ofInt x >>> ((Int32.ofInt y).toInt64 &&& 63)).toInt
def lCmp (x y : Int) : Int := if x < y then -1 else if x = y then 0 else 1
theorem ofI_add (x y : Int) : Int32.ofInt (w32 (x + y)) = Int32.ofInt x + Int32.ofInt y := by rw [ofI_w32, Int32.ofInt_add]
theorem ofI_sub (x y : Int) : Int32.ofInt (w32 (x - y)) = Int32.ofInt x - Int32.ofInt y := by rw [ofI_w32, Int32.ofInt_sub]
theorem ofI_mul (x y : Int) : Int32.ofInt (w32 (x * y)) = Int32.ofInt x * Int32.ofInt y := by rw [ofI_w32, Int32.ofInt_mul]
theorem ofI_neg (x : Int) : Int32.ofInt (w32 (-x)) = - Int32.ofInt x := by rw [ofI_w32, Int32.ofInt_neg]
theorem ofL_add (x y : Int) : Int64.ofInt (w64 (x + y)) = Int64.ofInt x + Int64.ofInt y := by rw [ofI_w64, Int64.ofInt_add]
theorem ofL_sub (x y : Int) : Int64.ofInt (w64 (x - y)) = Int64.ofInt x - Int64.ofInt y := by rw [ofI_w64, Int64.ofInt_sub]
theorem ofL_mul (x y : Int) : Int64.ofInt (w64 (x * y)) = Int64.ofInt x * Int64.ofInt y := by rw [ofI_w64, Int64.ofInt_mul]
theorem ofI_div0 {x y : Int} (hx : in32 x) (hy : in32 y) : Int32.ofInt (x.tdiv y) = Int32.ofInt x / Int32.ofInt y := by
  apply Int32.toInt_inj.mp
  rw [Int32.toInt_div, toI32 hx, toI32 hy, Int32.toInt_ofInt]
theorem ofL_div0 {x y : Int} (hx : in64 x) (hy : in64 y) : Int64.ofInt (x.tdiv y) = Int64.ofInt x / Int64.ofInt y := by
  apply Int64.toInt_inj.mp
  rw [Int64.toInt_div, toI64 hx, toI64 hy, Int64.toInt_ofInt]
theorem ofI_div {x y : Int} (hx : in32 x) (hy : in32 y) : Int32.ofInt (w32 (x.tdiv y)) = Int32.ofInt x / Int32.ofInt y := by rw [ofI_w32, ofI_div0 hx hy]
theorem ofL_div {x y : Int} (hx : in64 x) (hy : in64 y) : Int64.ofInt (w64 (x.tdiv y)) = Int64.ofInt x / Int64.ofInt y := by rw [ofI_w64, ofL_div0 hx hy]
theorem ofI_rem {x y : Int} (hx : in32 x) (hy : in32 y) : Int32.ofInt (w32 (x.tmod y)) = Int32.ofInt x - Int32.ofInt x / Int32.ofInt y * Int32.ofInt y := by
  rw [ofI_w32, ← ofI_div0 hx hy, ← Int32.ofInt_mul, ← Int32.ofInt_sub, Int.tmod_def, Int.mul_comm]
theorem ofL_rem {x y : Int} (hx : in64 x) (hy : in64 y) : Int64.ofInt (w64 (x.tmod y)) = Int64.ofInt x - Int64.ofInt x / Int64.ofInt y * Int64.ofInt y := by
  rw [ofI_w64, ← ofL_div0 hx hy, ← Int64.ofInt_mul, ← Int64.ofInt_sub, Int.tmod_def, Int.mul_comm]
theorem ofI_ne0 {y : Int} (hy : in32 y) (h : y ≠ 0) : ¬ Int32.ofInt y = 0 := fun e => h ((ofI_inj hy in32_0).mp e)
theorem in64_0 : in64 0 := by unfold in64; omega
theorem ofL_inj {x y : Int} (hx : in64 x) (hy : in64 y) : Int64.ofInt x = Int64.ofInt y ↔ x = y := by
  constructor
  · intro h
    have := congrArg Int64.toInt h
    rwa [toI64 hx, toI64 hy] at this
  · intro h; rw [h]
theorem ofL_lt {x y : Int} (hx : in64 x) (hy : in64 y) : Int64.ofInt x < Int64.ofInt y ↔ x < y := by
  rw [Int64.lt_iff_toInt_lt, toI64 hx, toI64 hy]
theorem ofL_ne0 {y : Int} (hy : in64 y) (h : y ≠ 0) : ¬ Int64.ofInt y = 0 := fun e => h ((ofL_inj hy in64_0).mp e)
theorem lCmp_in (x y : Int) : in32 (lCmp x y) := by unfold lCmp in32; split <;> (try split) <;> omega
theorem ofI_lcmp {x y : Int} (hx : in64 x) (hy : in64 y) : Int32.ofInt (lCmp x y) = lg_cmp (Int64.ofInt x) (Int64.ofInt y) := by
  unfold lg_cmp lCmp
  have h1 : (Int64.ofInt x > Int64.ofInt y) ↔ y < x := ofL_lt hy hx
  have h2 := ofL_inj hx hy
  by_cases a : x < y
  · rw [if_pos a, if_neg (by rw [h1]; omega), if_neg (by rw [h2]; omega)]; rfl
  · by_cases b : x = y
    · rw [if_neg a, if_pos b, if_neg (by rw [h1]; omega), if_pos (by rw [h2]; exact b)]; rfl
    · rw [if_neg a, if_neg b, if_pos (by rw [h1]; omega)]; rfl
theorem i2l_eq {x : Int} (hx : in32 x) : (Int32.ofInt x).toInt64 = Int64.ofInt x := by
  apply Int64.toInt_inj.mp
  rw [Int32.toInt_toInt64, toI32 hx, toI64 (by unfold in32 at hx; unfold in64; omega)]
theorem l2i_eq {x : Int} (hx : in64 x) : (Int64.ofInt x).toInt32 = Int32.ofInt (w32 x) := by
  apply Int32.toInt_inj.mp
  rw [Int64.toInt_toInt32, toI64 hx, toI32 (w32_in x), ← toI_w32, Int32.toInt_ofInt]
theorem k3I (x : Int) : (cI x).1 < 3 := by show (0 : Nat) < 3; decide
theorem k3J (x : Int) : (cJ x).1 < 3 := by show (1 : Nat) < 3; decide
theorem k3A (x : Int) : (cA x).1 < 3 := by show (2 : Nat) < 3; decide
theorem wp_iconst {d mc ms : Nat} {M : MD} {pc nx : Nat} {ls st : List MV} {S : MS} {C : MC} {Q : Int → MS → MC → Prop} {n : Int} (hd : decode M.2.1 pc = .ok (.iconst n, 1)) (hx : pc + 1 = nx) (hn : in32 n) (k : Wp d mc ms M nx ls (cI n :: st) S C Q) : Wp d mc ms M pc ls (st) S C Q := by
  intro p l e s m args below meth c R D A n0 ad0 sc0 QQ ad cls tys H locs cells slots jls G
  obtain ⟨hc, hr, ha, hR, hL, hst, hE⟩ := G
  subst hx
  exact lv_iconst hc.1 hc.2.1 hd rfl (k p l e s m args below meth c R D A n0 ad0 sc0 QQ ad cls tys H locs cells slots jls ⟨hc, hr, ha, hR, hL, List.forall_mem_cons.mpr ⟨hn, hst⟩, hE⟩)
theorem wp_bipush {d mc ms : Nat} {M : MD} {pc nx : Nat} {ls st : List MV} {S : MS} {C : MC} {Q : Int → MS → MC → Prop} {n : Int} (hd : decode M.2.1 pc = .ok (.bipush n, 2)) (hx : pc + 2 = nx) (hn : (Int8.ofInt n).toInt32 = Int32.ofInt n ∧ in32 n) (k : Wp d mc ms M nx ls (cI n :: st) S C Q) : Wp d mc ms M pc ls (st) S C Q := by
  intro p l e s m args below meth c R D A n0 ad0 sc0 QQ ad cls tys H locs cells slots jls G
  obtain ⟨hc, hr, ha, hR, hL, hst, hE⟩ := G
  subst hx
  exact lv_bipush hc.1 hc.2.1 hd hn.1 (k p l e s m args below meth c R D A n0 ad0 sc0 QQ ad cls tys H locs cells slots jls ⟨hc, hr, ha, hR, hL, List.forall_mem_cons.mpr ⟨hn.2, hst⟩, hE⟩)
theorem wp_sipush {d mc ms : Nat} {M : MD} {pc nx : Nat} {ls st : List MV} {S : MS} {C : MC} {Q : Int → MS → MC → Prop} {n : Int} (hd : decode M.2.1 pc = .ok (.sipush n, 3)) (hx : pc + 3 = nx) (hn : (Int16.ofInt n).toInt32 = Int32.ofInt n ∧ in32 n) (k : Wp d mc ms M nx ls (cI n :: st) S C Q) : Wp d mc ms M pc ls (st) S C Q := by
  intro p l e s m args below meth c R D A n0 ad0 sc0 QQ ad cls tys H locs cells slots jls G
  obtain ⟨hc, hr, ha, hR, hL, hst, hE⟩ := G
  subst hx
  exact lv_sipush hc.1 hc.2.1 hd hn.1 (k p l e s m args below meth c R D A n0 ad0 sc0 QQ ad cls tys H locs cells slots jls ⟨hc, hr, ha, hR, hL, List.forall_mem_cons.mpr ⟨hn.2, hst⟩, hE⟩)
theorem wp_lconst {d mc ms : Nat} {M : MD} {pc nx : Nat} {ls st : List MV} {S : MS} {C : MC} {Q : Int → MS → MC → Prop} {n : Fin 2} {v : Int} (hd : decode M.2.1 pc = .ok (.lconst n, 1)) (hx : pc + 1 = nx) (hn : Int64.ofNat (n : Nat) = Int64.ofInt v ∧ in64 v) (k : Wp d mc ms M nx ls (cJ v :: st) S C Q) : Wp d mc ms M pc ls (st) S C Q := by
  intro p l e s m args below meth c R D A n0 ad0 sc0 QQ ad cls tys H locs cells slots jls G
  obtain ⟨hc, hr, ha, hR, hL, hst, hE⟩ := G
  subst hx
  exact lv_lconst hc.1 hc.2.1 hd hn.1 (k p l e s m args below meth c R D A n0 ad0 sc0 QQ ad cls tys H locs cells slots jls ⟨hc, hr, ha, hR, hL, List.forall_mem_cons.mpr ⟨hn.2, hst⟩, hE⟩)
theorem wp_ldc {d mc ms : Nat} {M : MD} {pc nx : Nat} {ls st : List MV} {S : MS} {C : MC} {Q : Int → MS → MC → Prop} {i : Nat} {v : Int} (hd : decode M.2.1 pc = .ok (.ldc i, 2)) (hx : pc + 2 = nx) (hw : Cond.constant M.1.cls i (Int32.ofInt v) ∈ T0) (hn : in32 v) (k : Wp d mc ms M nx ls (cI v :: st) S C Q) : Wp d mc ms M pc ls (st) S C Q := by
  intro p l e s m args below meth c R D A n0 ad0 sc0 QQ ad cls tys H locs cells slots jls G
  obtain ⟨hc, hr, ha, hR, hL, hst, hE⟩ := G
  subst hx
  exact lv_ldc hc.1 hc.2.1 hc.2.2.2.1 (hc.2.2.2.2.1 _ hw) hd (k p l e s m args below meth c R D A n0 ad0 sc0 QQ ad cls tys H locs cells slots jls ⟨hc, hr, ha, hR, hL, List.forall_mem_cons.mpr ⟨hn, hst⟩, hE⟩)
theorem wp_ldc_w {d mc ms : Nat} {M : MD} {pc nx : Nat} {ls st : List MV} {S : MS} {C : MC} {Q : Int → MS → MC → Prop} {i : Nat} {v : Int} (hd : decode M.2.1 pc = .ok (.ldc_w i, 3)) (hx : pc + 3 = nx) (hw : Cond.constant M.1.cls i (Int32.ofInt v) ∈ T0) (hn : in32 v) (k : Wp d mc ms M nx ls (cI v :: st) S C Q) : Wp d mc ms M pc ls (st) S C Q := by
  intro p l e s m args below meth c R D A n0 ad0 sc0 QQ ad cls tys H locs cells slots jls G
  obtain ⟨hc, hr, ha, hR, hL, hst, hE⟩ := G
  subst hx
  exact lv_ldcw hc.1 hc.2.1 hc.2.2.2.1 (hc.2.2.2.2.1 _ hw) hd (k p l e s m args below meth c R D A n0 ad0 sc0 QQ ad cls tys H locs cells slots jls ⟨hc, hr, ha, hR, hL, List.forall_mem_cons.mpr ⟨hn, hst⟩, hE⟩)
theorem wp_ldc2 {d mc ms : Nat} {M : MD} {pc nx : Nat} {ls st : List MV} {S : MS} {C : MC} {Q : Int → MS → MC → Prop} {i : Nat} {v : Int} (hd : decode M.2.1 pc = .ok (.ldc2_w i, 3)) (hx : pc + 3 = nx) (hw : Cond.constantLong M.1.cls i (Int64.ofInt v) ∈ T0) (hn : in64 v) (k : Wp d mc ms M nx ls (cJ v :: st) S C Q) : Wp d mc ms M pc ls (st) S C Q := by
  intro p l e s m args below meth c R D A n0 ad0 sc0 QQ ad cls tys H locs cells slots jls G
  obtain ⟨hc, hr, ha, hR, hL, hst, hE⟩ := G
  subst hx
  exact lv_ldc2 hc.1 hc.2.1 hc.2.2.2.1 (hc.2.2.2.2.1 _ hw) hd (k p l e s m args below meth c R D A n0 ad0 sc0 QQ ad cls tys H locs cells slots jls ⟨hc, hr, ha, hR, hL, List.forall_mem_cons.mpr ⟨hn, hst⟩, hE⟩)
theorem wp_null {d mc ms : Nat} {M : MD} {pc nx : Nat} {ls st : List MV} {S : MS} {C : MC} {Q : Int → MS → MC → Prop} (hd : decode M.2.1 pc = .ok (.aconst_null, 1)) (hx : pc + 1 = nx) (k : Wp d mc ms M nx ls (cA (-1) :: st) S C Q) : Wp d mc ms M pc ls (st) S C Q := by
  intro p l e s m args below meth c R D A n0 ad0 sc0 QQ ad cls tys H locs cells slots jls G
  obtain ⟨hc, hr, ha, hR, hL, hst, hE⟩ := G
  subst hx
  have h0 := hR.2.2.2.2.2.1.1
  exact lv_null hc.1 hc.2.1 hd (k p l e s m args below meth c R D A n0 ad0 sc0 QQ ad cls tys H locs cells slots jls ⟨hc, hr, ha, hR, hL, List.forall_mem_cons.mpr ⟨⟨by decide, by show (-1 : Int) < S.1; omega⟩, hst⟩, hE⟩)
theorem lr_at {ad : Int → Nat} {jls : Array Slot} {nL : Nat} {ls : List MV} (h : lv_has jls nL (lP ad 0 ls)) {k : Nat} {v : MV} (hk : ls[k]? = some v) (hv : v.1 < 3) : jls[k]? = some (.val (eV ad v)) := by
  have h1 := lP_mem (ad := ad) hv ls 0 k hk
  rw [Nat.zero_add] at h1
  exact h.2.2 _ h1
theorem wp_iload_n {d mc ms : Nat} {M : MD} {pc nx : Nat} {ls st : List MV} {S : MS} {C : MC} {Q : Int → MS → MC → Prop} {i : Fin 4} {x : Int} (hd : decode M.2.1 pc = .ok (.iload_n i, 1)) (hx : pc + 1 = nx) (hl : ls[(i : Nat)]? = some (cI x)) (k : Wp d mc ms M nx ls (cI x :: st) S C Q) : Wp d mc ms M pc ls (st) S C Q := by
  intro p l e s m args below meth c R D A n0 ad0 sc0 QQ ad cls tys H locs cells slots jls G
  obtain ⟨hc, hr, ha, hR, hL, hst, hE⟩ := G
  subst hx
  exact lv_iload_n hc.1 hc.2.1 hd rfl (lr_at hL.1 hl (k3I x)) (k p l e s m args below meth c R D A n0 ad0 sc0 QQ ad cls tys H locs cells slots jls ⟨hc, hr, ha, hR, hL, List.forall_mem_cons.mpr ⟨hL.2 _ (List.mem_of_getElem? hl) (k3I x), hst⟩, hE⟩)
theorem wp_iload {d mc ms : Nat} {M : MD} {pc nx : Nat} {ls st : List MV} {S : MS} {C : MC} {Q : Int → MS → MC → Prop} {i : Nat} {x : Int} (hd : decode M.2.1 pc = .ok (.iload i, 2)) (hx : pc + 2 = nx) (hl : ls[i]? = some (cI x)) (k : Wp d mc ms M nx ls (cI x :: st) S C Q) : Wp d mc ms M pc ls (st) S C Q := by
  intro p l e s m args below meth c R D A n0 ad0 sc0 QQ ad cls tys H locs cells slots jls G
  obtain ⟨hc, hr, ha, hR, hL, hst, hE⟩ := G
  subst hx
  exact lv_iload hc.1 hc.2.1 hd (lr_at hL.1 hl (k3I x)) (k p l e s m args below meth c R D A n0 ad0 sc0 QQ ad cls tys H locs cells slots jls ⟨hc, hr, ha, hR, hL, List.forall_mem_cons.mpr ⟨hL.2 _ (List.mem_of_getElem? hl) (k3I x), hst⟩, hE⟩)
theorem wp_lload_n {d mc ms : Nat} {M : MD} {pc nx : Nat} {ls st : List MV} {S : MS} {C : MC} {Q : Int → MS → MC → Prop} {i : Fin 4} {x : Int} (hd : decode M.2.1 pc = .ok (.lload_n i, 1)) (hx : pc + 1 = nx) (hl : ls[(i : Nat)]? = some (cJ x)) (k : Wp d mc ms M nx ls (cJ x :: st) S C Q) : Wp d mc ms M pc ls (st) S C Q := by
  intro p l e s m args below meth c R D A n0 ad0 sc0 QQ ad cls tys H locs cells slots jls G
  obtain ⟨hc, hr, ha, hR, hL, hst, hE⟩ := G
  subst hx
  exact lv_lload_n hc.1 hc.2.1 hd rfl (lr_at hL.1 hl (k3J x)) (k p l e s m args below meth c R D A n0 ad0 sc0 QQ ad cls tys H locs cells slots jls ⟨hc, hr, ha, hR, hL, List.forall_mem_cons.mpr ⟨hL.2 _ (List.mem_of_getElem? hl) (k3J x), hst⟩, hE⟩)
theorem wp_lload {d mc ms : Nat} {M : MD} {pc nx : Nat} {ls st : List MV} {S : MS} {C : MC} {Q : Int → MS → MC → Prop} {i : Nat} {x : Int} (hd : decode M.2.1 pc = .ok (.lload i, 2)) (hx : pc + 2 = nx) (hl : ls[i]? = some (cJ x)) (k : Wp d mc ms M nx ls (cJ x :: st) S C Q) : Wp d mc ms M pc ls (st) S C Q := by
  intro p l e s m args below meth c R D A n0 ad0 sc0 QQ ad cls tys H locs cells slots jls G
  obtain ⟨hc, hr, ha, hR, hL, hst, hE⟩ := G
  subst hx
  exact lv_lload hc.1 hc.2.1 hd (lr_at hL.1 hl (k3J x)) (k p l e s m args below meth c R D A n0 ad0 sc0 QQ ad cls tys H locs cells slots jls ⟨hc, hr, ha, hR, hL, List.forall_mem_cons.mpr ⟨hL.2 _ (List.mem_of_getElem? hl) (k3J x), hst⟩, hE⟩)
theorem wp_aload_n {d mc ms : Nat} {M : MD} {pc nx : Nat} {ls st : List MV} {S : MS} {C : MC} {Q : Int → MS → MC → Prop} {i : Fin 4} {x : Int} (hd : decode M.2.1 pc = .ok (.aload_n i, 1)) (hx : pc + 1 = nx) (hl : ls[(i : Nat)]? = some (cA x)) (k : Wp d mc ms M nx ls (cA x :: st) S C Q) : Wp d mc ms M pc ls (st) S C Q := by
  intro p l e s m args below meth c R D A n0 ad0 sc0 QQ ad cls tys H locs cells slots jls G
  obtain ⟨hc, hr, ha, hR, hL, hst, hE⟩ := G
  subst hx
  have kk := k p l e s m args below meth c R D A n0 ad0 sc0 QQ ad cls tys H locs cells slots jls ⟨hc, hr, ha, hR, hL, List.forall_mem_cons.mpr ⟨hL.2 _ (List.mem_of_getElem? hl) (k3A x), hst⟩, hE⟩
  have hj := lr_at hL.1 hl (k3A x)
  by_cases h : x = -1
  · have e : eV ad (cA x) = .null := if_pos h
    rw [e] at hj
    rw [List.map_cons, e] at kk
    exact lv_aload_nN hc.1 hc.2.1 hd rfl hj kk
  · have e : eV ad (cA x) = .ref (ad x) := if_neg h
    rw [e] at hj
    rw [List.map_cons, e] at kk
    exact lv_aload_n hc.1 hc.2.1 hd rfl hj kk
theorem wp_aload {d mc ms : Nat} {M : MD} {pc nx : Nat} {ls st : List MV} {S : MS} {C : MC} {Q : Int → MS → MC → Prop} {i : Nat} {x : Int} (hd : decode M.2.1 pc = .ok (.aload i, 2)) (hx : pc + 2 = nx) (hl : ls[i]? = some (cA x)) (k : Wp d mc ms M nx ls (cA x :: st) S C Q) : Wp d mc ms M pc ls (st) S C Q := by
  intro p l e s m args below meth c R D A n0 ad0 sc0 QQ ad cls tys H locs cells slots jls G
  obtain ⟨hc, hr, ha, hR, hL, hst, hE⟩ := G
  subst hx
  have kk := k p l e s m args below meth c R D A n0 ad0 sc0 QQ ad cls tys H locs cells slots jls ⟨hc, hr, ha, hR, hL, List.forall_mem_cons.mpr ⟨hL.2 _ (List.mem_of_getElem? hl) (k3A x), hst⟩, hE⟩
  have hj := lr_at hL.1 hl (k3A x)
  by_cases h : x = -1
  · have e : eV ad (cA x) = .null := if_pos h
    rw [e] at hj
    rw [List.map_cons, e] at kk
    exact lv_aloadN hc.1 hc.2.1 hd hj kk
  · have e : eV ad (cA x) = .ref (ad x) := if_neg h
    rw [e] at hj
    rw [List.map_cons, e] at kk
    exact lv_aload hc.1 hc.2.1 hd hj kk
theorem lv_st1 {ad : Int → Nat} {jls' : Array Slot} {nL k : Nat} {ls : List MV} {v : MV} (h : lv_has jls' nL ((k, eV ad v) :: (lP ad 0 ls).filter (fun q => !(q.1 == k) && !(q.1 + 1 == k && q.2.category == 2)))) : lv_has jls' nL (lP ad 0 (stI k v ls)) := by
  refine ⟨h.1, h.2.1, fun q hq => ?_⟩
  rcases lP_stI k 0 ls hq with e | ⟨h1, h2, h3⟩
  · rw [Nat.zero_add] at e
    exact h.2.2 q (by rw [e]; exact List.mem_cons_self)
  · rw [Nat.zero_add] at h2 h3
    exact h.2.2 q (List.mem_cons_of_mem _ (List.mem_filter.mpr ⟨h1, by
      by_cases a : q.1 + 1 = k
      · have b : ¬ q.2.category = 2 := fun b => h3 ⟨a, b⟩
        simp [h2, b]
      · simp [h2, a]⟩))
theorem lv_st2 {ad : Int → Nat} {jls' : Array Slot} {nL k : Nat} {ls : List MV} {v : MV} (h : lv_has jls' nL ((k, eV ad v) :: (lP ad 0 ls).filter (fun q => !(q.1 == k) && (!(q.1 == k + 1) && !(q.1 + 1 == k && q.2.category == 2))))) : lv_has jls' nL (lP ad 0 (stJ k v ls)) := by
  refine ⟨h.1, h.2.1, fun q hq => ?_⟩
  rcases lP_stJ k 0 ls hq with e | ⟨h1, h2, h2', h3⟩
  · rw [Nat.zero_add] at e
    exact h.2.2 q (by rw [e]; exact List.mem_cons_self)
  · rw [Nat.zero_add] at h2 h2' h3
    exact h.2.2 q (List.mem_cons_of_mem _ (List.mem_filter.mpr ⟨h1, by
      by_cases a : q.1 + 1 = k
      · have b : ¬ q.2.category = 2 := fun b => h3 ⟨a, b⟩
        simp [h2, h2', b]
      · simp [h2, h2', a]⟩))
theorem wp_istore_n {d mc ms : Nat} {M : MD} {pc nx : Nat} {ls st : List MV} {S : MS} {C : MC} {Q : Int → MS → MC → Prop} {i : Fin 4} {x : Int} (hd : decode M.2.1 pc = .ok (.istore_n i, 1)) (hx : pc + 1 = nx) (hb : (i : Nat) < M.2.2.1) (k : Wp d mc ms M nx (stI (i : Nat) (cI x) ls) (st) S C Q) : Wp d mc ms M pc ls (cI x :: st) S C Q := by
  intro p l e s m args below meth c R D A n0 ad0 sc0 QQ ad cls tys H locs cells slots jls G
  obtain ⟨hc, hr, ha, hR, hL, hst, hE⟩ := G
  subst hx
  exact lv_istore_n hc.1 hc.2.1 hd rfl hL.1 hb rfl (fun jls2 h2 => k p l e s m args below meth c R D A n0 ad0 sc0 QQ ad cls tys H locs cells slots jls2 ⟨hc, hr, ha, hR, ⟨lv_st1 h2, stI_ok (hst _ List.mem_cons_self) _ ls hL.2⟩, fun v hv => hst v (List.mem_cons_of_mem _ hv), hE⟩)
theorem wp_istore {d mc ms : Nat} {M : MD} {pc nx : Nat} {ls st : List MV} {S : MS} {C : MC} {Q : Int → MS → MC → Prop} {i : Nat} {x : Int} (hd : decode M.2.1 pc = .ok (.istore i, 2)) (hx : pc + 2 = nx) (hb : i < M.2.2.1) (k : Wp d mc ms M nx (stI i (cI x) ls) (st) S C Q) : Wp d mc ms M pc ls (cI x :: st) S C Q := by
  intro p l e s m args below meth c R D A n0 ad0 sc0 QQ ad cls tys H locs cells slots jls G
  obtain ⟨hc, hr, ha, hR, hL, hst, hE⟩ := G
  subst hx
  exact lv_istore hc.1 hc.2.1 hd hL.1 hb rfl (fun jls2 h2 => k p l e s m args below meth c R D A n0 ad0 sc0 QQ ad cls tys H locs cells slots jls2 ⟨hc, hr, ha, hR, ⟨lv_st1 h2, stI_ok (hst _ List.mem_cons_self) _ ls hL.2⟩, fun v hv => hst v (List.mem_cons_of_mem _ hv), hE⟩)
theorem wp_lstore_n {d mc ms : Nat} {M : MD} {pc nx : Nat} {ls st : List MV} {S : MS} {C : MC} {Q : Int → MS → MC → Prop} {i : Fin 4} {x : Int} (hd : decode M.2.1 pc = .ok (.lstore_n i, 1)) (hx : pc + 1 = nx) (hb : (i : Nat) + 1 < M.2.2.1) (k : Wp d mc ms M nx (stJ (i : Nat) (cJ x) ls) (st) S C Q) : Wp d mc ms M pc ls (cJ x :: st) S C Q := by
  intro p l e s m args below meth c R D A n0 ad0 sc0 QQ ad cls tys H locs cells slots jls G
  obtain ⟨hc, hr, ha, hR, hL, hst, hE⟩ := G
  subst hx
  exact lv_lstore_n hc.1 hc.2.1 hd rfl hL.1 hb rfl (fun jls2 h2 => k p l e s m args below meth c R D A n0 ad0 sc0 QQ ad cls tys H locs cells slots jls2 ⟨hc, hr, ha, hR, ⟨lv_st2 h2, stJ_ok (hst _ List.mem_cons_self) _ ls hL.2⟩, fun v hv => hst v (List.mem_cons_of_mem _ hv), hE⟩)
theorem wp_lstore {d mc ms : Nat} {M : MD} {pc nx : Nat} {ls st : List MV} {S : MS} {C : MC} {Q : Int → MS → MC → Prop} {i : Nat} {x : Int} (hd : decode M.2.1 pc = .ok (.lstore i, 2)) (hx : pc + 2 = nx) (hb : i + 1 < M.2.2.1) (k : Wp d mc ms M nx (stJ i (cJ x) ls) (st) S C Q) : Wp d mc ms M pc ls (cJ x :: st) S C Q := by
  intro p l e s m args below meth c R D A n0 ad0 sc0 QQ ad cls tys H locs cells slots jls G
  obtain ⟨hc, hr, ha, hR, hL, hst, hE⟩ := G
  subst hx
  exact lv_lstore hc.1 hc.2.1 hd hL.1 hb rfl (fun jls2 h2 => k p l e s m args below meth c R D A n0 ad0 sc0 QQ ad cls tys H locs cells slots jls2 ⟨hc, hr, ha, hR, ⟨lv_st2 h2, stJ_ok (hst _ List.mem_cons_self) _ ls hL.2⟩, fun v hv => hst v (List.mem_cons_of_mem _ hv), hE⟩)
theorem wp_astore_n {d mc ms : Nat} {M : MD} {pc nx : Nat} {ls st : List MV} {S : MS} {C : MC} {Q : Int → MS → MC → Prop} {i : Fin 4} {x : Int} (hd : decode M.2.1 pc = .ok (.astore_n i, 1)) (hx : pc + 1 = nx) (hb : (i : Nat) < M.2.2.1) (k : Wp d mc ms M nx (stI (i : Nat) (cA x) ls) (st) S C Q) : Wp d mc ms M pc ls (cA x :: st) S C Q := by
  intro p l e s m args below meth c R D A n0 ad0 sc0 QQ ad cls tys H locs cells slots jls G
  obtain ⟨hc, hr, ha, hR, hL, hst, hE⟩ := G
  subst hx
  have kk := fun jls2 (h2 : lv_has jls2 M.2.2.1 ((((i : Nat)), eV ad (cA x)) :: (lP ad 0 ls).filter (fun q => !(q.1 == (i : Nat)) && !(q.1 + 1 == (i : Nat) && q.2.category == 2)))) => k p l e s m args below meth c R D A n0 ad0 sc0 QQ ad cls tys H locs cells slots jls2 ⟨hc, hr, ha, hR, ⟨lv_st1 h2, stI_ok (hst _ List.mem_cons_self) _ ls hL.2⟩, fun v hv => hst v (List.mem_cons_of_mem _ hv), hE⟩
  rw [List.map_cons]
  by_cases h : x = -1
  · have e : eV ad (cA x) = .null := if_pos h
    rw [e] at kk ⊢
    exact lv_astore_nN hc.1 hc.2.1 hd rfl hL.1 hb rfl kk
  · have e : eV ad (cA x) = .ref (ad x) := if_neg h
    rw [e] at kk ⊢
    exact lv_astore_n hc.1 hc.2.1 hd rfl hL.1 hb rfl kk
theorem wp_astore {d mc ms : Nat} {M : MD} {pc nx : Nat} {ls st : List MV} {S : MS} {C : MC} {Q : Int → MS → MC → Prop} {i : Nat} {x : Int} (hd : decode M.2.1 pc = .ok (.astore i, 2)) (hx : pc + 2 = nx) (hb : i < M.2.2.1) (k : Wp d mc ms M nx (stI i (cA x) ls) (st) S C Q) : Wp d mc ms M pc ls (cA x :: st) S C Q := by
  intro p l e s m args below meth c R D A n0 ad0 sc0 QQ ad cls tys H locs cells slots jls G
  obtain ⟨hc, hr, ha, hR, hL, hst, hE⟩ := G
  subst hx
  have kk := fun jls2 (h2 : lv_has jls2 M.2.2.1 (((i), eV ad (cA x)) :: (lP ad 0 ls).filter (fun q => !(q.1 == i) && !(q.1 + 1 == i && q.2.category == 2)))) => k p l e s m args below meth c R D A n0 ad0 sc0 QQ ad cls tys H locs cells slots jls2 ⟨hc, hr, ha, hR, ⟨lv_st1 h2, stI_ok (hst _ List.mem_cons_self) _ ls hL.2⟩, fun v hv => hst v (List.mem_cons_of_mem _ hv), hE⟩
  rw [List.map_cons]
  by_cases h : x = -1
  · have e : eV ad (cA x) = .null := if_pos h
    rw [e] at kk ⊢
    exact lv_astoreN hc.1 hc.2.1 hd hL.1 hb rfl kk
  · have e : eV ad (cA x) = .ref (ad x) := if_neg h
    rw [e] at kk ⊢
    exact lv_astore hc.1 hc.2.1 hd hL.1 hb rfl kk
theorem wp_iinc {d mc ms : Nat} {M : MD} {pc nx : Nat} {ls st : List MV} {S : MS} {C : MC} {Q : Int → MS → MC → Prop} {i : Nat} {n x : Int} (hd : decode M.2.1 pc = .ok (.iinc i n, 3)) (hx : pc + 3 = nx) (hl : ls[i]? = some (cI x)) (hb : i < M.2.2.1) (k : Wp d mc ms M nx (stI i (cI (w32 (x + n))) ls) (st) S C Q) : Wp d mc ms M pc ls (st) S C Q := by
  intro p l e s m args below meth c R D A n0 ad0 sc0 QQ ad cls tys H locs cells slots jls G
  obtain ⟨hc, hr, ha, hR, hL, hst, hE⟩ := G
  subst hx
  obtain ⟨kx, hkx⟩ := List.mem_iff_getElem?.mp (lP_mem (ad := ad) (v := cI x) (k3I x) ls 0 i hl)
  rw [Nat.zero_add] at hkx
  exact lv_iinc hc.1 hc.2.1 hd hL.1 hkx (ofI_add x n).symm hb rfl (fun jls2 h2 => k p l e s m args below meth c R D A n0 ad0 sc0 QQ ad cls tys H locs cells slots jls2 ⟨hc, hr, ha, hR, ⟨lv_st1 (v := cI (w32 (x + n))) h2, stI_ok (v := cI (w32 (x + n))) (w32_in _) _ ls hL.2⟩, hst, hE⟩)
theorem wp_iadd {d mc ms : Nat} {M : MD} {pc nx : Nat} {ls st : List MV} {S : MS} {C : MC} {Q : Int → MS → MC → Prop} {x y : Int} (hd : decode M.2.1 pc = .ok (.iadd, 1)) (hx : pc + 1 = nx) (k : Wp d mc ms M nx ls (cI (w32 (x + y)) :: st) S C Q) : Wp d mc ms M pc ls (cI y :: cI x :: st) S C Q := by
  intro p l e s m args below meth c R D A n0 ad0 sc0 QQ ad cls tys H locs cells slots jls G
  obtain ⟨hc, hr, ha, hR, hL, hst, hE⟩ := G
  subst hx
  have ho := List.forall_mem_cons.mp hst
  have ho2 := List.forall_mem_cons.mp ho.2
  have hy := ho.1
  have hxx := ho2.1
  have kk := k p l e s m args below meth c R D A n0 ad0 sc0 QQ ad cls tys H locs cells slots jls ⟨hc, hr, ha, hR, hL, List.forall_mem_cons.mpr ⟨w32_in _, ho2.2⟩, hE⟩
  refine lv_iadd hc.1 hc.2.1 hd ?_
  rw [← ofI_add]
  exact kk
theorem wp_isub {d mc ms : Nat} {M : MD} {pc nx : Nat} {ls st : List MV} {S : MS} {C : MC} {Q : Int → MS → MC → Prop} {x y : Int} (hd : decode M.2.1 pc = .ok (.isub, 1)) (hx : pc + 1 = nx) (k : Wp d mc ms M nx ls (cI (w32 (x - y)) :: st) S C Q) : Wp d mc ms M pc ls (cI y :: cI x :: st) S C Q := by
  intro p l e s m args below meth c R D A n0 ad0 sc0 QQ ad cls tys H locs cells slots jls G
  obtain ⟨hc, hr, ha, hR, hL, hst, hE⟩ := G
  subst hx
  have ho := List.forall_mem_cons.mp hst
  have ho2 := List.forall_mem_cons.mp ho.2
  have hy := ho.1
  have hxx := ho2.1
  have kk := k p l e s m args below meth c R D A n0 ad0 sc0 QQ ad cls tys H locs cells slots jls ⟨hc, hr, ha, hR, hL, List.forall_mem_cons.mpr ⟨w32_in _, ho2.2⟩, hE⟩
  refine lv_isub hc.1 hc.2.1 hd ?_
  rw [← ofI_sub]
  exact kk
theorem wp_imul {d mc ms : Nat} {M : MD} {pc nx : Nat} {ls st : List MV} {S : MS} {C : MC} {Q : Int → MS → MC → Prop} {x y : Int} (hd : decode M.2.1 pc = .ok (.imul, 1)) (hx : pc + 1 = nx) (k : Wp d mc ms M nx ls (cI (w32 (x * y)) :: st) S C Q) : Wp d mc ms M pc ls (cI y :: cI x :: st) S C Q := by
  intro p l e s m args below meth c R D A n0 ad0 sc0 QQ ad cls tys H locs cells slots jls G
  obtain ⟨hc, hr, ha, hR, hL, hst, hE⟩ := G
  subst hx
  have ho := List.forall_mem_cons.mp hst
  have ho2 := List.forall_mem_cons.mp ho.2
  have hy := ho.1
  have hxx := ho2.1
  have kk := k p l e s m args below meth c R D A n0 ad0 sc0 QQ ad cls tys H locs cells slots jls ⟨hc, hr, ha, hR, hL, List.forall_mem_cons.mpr ⟨w32_in _, ho2.2⟩, hE⟩
  refine lv_imul hc.1 hc.2.1 hd ?_
  rw [← ofI_mul]
  exact kk
theorem wp_idiv {d mc ms : Nat} {M : MD} {pc nx : Nat} {ls st : List MV} {S : MS} {C : MC} {Q : Int → MS → MC → Prop} {x y : Int} (hd : decode M.2.1 pc = .ok (.idiv, 1)) (hx : pc + 1 = nx) (h0 : y ≠ 0) (k : Wp d mc ms M nx ls (cI (w32 (x.tdiv y)) :: st) S C Q) : Wp d mc ms M pc ls (cI y :: cI x :: st) S C Q := by
  intro p l e s m args below meth c R D A n0 ad0 sc0 QQ ad cls tys H locs cells slots jls G
  obtain ⟨hc, hr, ha, hR, hL, hst, hE⟩ := G
  subst hx
  have ho := List.forall_mem_cons.mp hst
  have ho2 := List.forall_mem_cons.mp ho.2
  have hy := ho.1
  have hxx := ho2.1
  have kk := k p l e s m args below meth c R D A n0 ad0 sc0 QQ ad cls tys H locs cells slots jls ⟨hc, hr, ha, hR, hL, List.forall_mem_cons.mpr ⟨w32_in _, ho2.2⟩, hE⟩
  refine lv_idiv hc.1 hc.2.1 hd (ofI_ne0 hy h0) ?_
  rw [← ofI_div hxx hy]
  exact kk
theorem wp_irem {d mc ms : Nat} {M : MD} {pc nx : Nat} {ls st : List MV} {S : MS} {C : MC} {Q : Int → MS → MC → Prop} {x y : Int} (hd : decode M.2.1 pc = .ok (.irem, 1)) (hx : pc + 1 = nx) (h0 : y ≠ 0) (k : Wp d mc ms M nx ls (cI (w32 (x.tmod y)) :: st) S C Q) : Wp d mc ms M pc ls (cI y :: cI x :: st) S C Q := by
  intro p l e s m args below meth c R D A n0 ad0 sc0 QQ ad cls tys H locs cells slots jls G
  obtain ⟨hc, hr, ha, hR, hL, hst, hE⟩ := G
  subst hx
  have ho := List.forall_mem_cons.mp hst
  have ho2 := List.forall_mem_cons.mp ho.2
  have hy := ho.1
  have hxx := ho2.1
  have kk := k p l e s m args below meth c R D A n0 ad0 sc0 QQ ad cls tys H locs cells slots jls ⟨hc, hr, ha, hR, hL, List.forall_mem_cons.mpr ⟨w32_in _, ho2.2⟩, hE⟩
  refine lv_irem hc.1 hc.2.1 hd (ofI_ne0 hy h0) ?_
  rw [← ofI_rem hxx hy]
  exact kk
theorem wp_iand {d mc ms : Nat} {M : MD} {pc nx : Nat} {ls st : List MV} {S : MS} {C : MC} {Q : Int → MS → MC → Prop} {x y : Int} (hd : decode M.2.1 pc = .ok (.iand, 1)) (hx : pc + 1 = nx) (k : Wp d mc ms M nx ls (cI (iAnd x y) :: st) S C Q) : Wp d mc ms M pc ls (cI y :: cI x :: st) S C Q := by
  intro p l e s m args below meth c R D A n0 ad0 sc0 QQ ad cls tys H locs cells slots jls G
  obtain ⟨hc, hr, ha, hR, hL, hst, hE⟩ := G
  subst hx
  have ho := List.forall_mem_cons.mp hst
  have ho2 := List.forall_mem_cons.mp ho.2
  have hy := ho.1
  have hxx := ho2.1
  have kk := k p l e s m args below meth c R D A n0 ad0 sc0 QQ ad cls tys H locs cells slots jls ⟨hc, hr, ha, hR, hL, List.forall_mem_cons.mpr ⟨in32_toInt _, ho2.2⟩, hE⟩
  refine lv_iand hc.1 hc.2.1 hd ?_
  have kk2 := kk
  rw [List.map_cons] at kk2
  rw [show eV ad (cI (iAnd x y)) = _ from congrArg Value.int (Int32.ofInt_toInt _)] at kk2
  exact kk2
theorem wp_ior {d mc ms : Nat} {M : MD} {pc nx : Nat} {ls st : List MV} {S : MS} {C : MC} {Q : Int → MS → MC → Prop} {x y : Int} (hd : decode M.2.1 pc = .ok (.ior, 1)) (hx : pc + 1 = nx) (k : Wp d mc ms M nx ls (cI (iOr x y) :: st) S C Q) : Wp d mc ms M pc ls (cI y :: cI x :: st) S C Q := by
  intro p l e s m args below meth c R D A n0 ad0 sc0 QQ ad cls tys H locs cells slots jls G
  obtain ⟨hc, hr, ha, hR, hL, hst, hE⟩ := G
  subst hx
  have ho := List.forall_mem_cons.mp hst
  have ho2 := List.forall_mem_cons.mp ho.2
  have hy := ho.1
  have hxx := ho2.1
  have kk := k p l e s m args below meth c R D A n0 ad0 sc0 QQ ad cls tys H locs cells slots jls ⟨hc, hr, ha, hR, hL, List.forall_mem_cons.mpr ⟨in32_toInt _, ho2.2⟩, hE⟩
  refine lv_ior hc.1 hc.2.1 hd ?_
  have kk2 := kk
  rw [List.map_cons] at kk2
  rw [show eV ad (cI (iOr x y)) = _ from congrArg Value.int (Int32.ofInt_toInt _)] at kk2
  exact kk2
theorem wp_ixor {d mc ms : Nat} {M : MD} {pc nx : Nat} {ls st : List MV} {S : MS} {C : MC} {Q : Int → MS → MC → Prop} {x y : Int} (hd : decode M.2.1 pc = .ok (.ixor, 1)) (hx : pc + 1 = nx) (k : Wp d mc ms M nx ls (cI (iXor x y) :: st) S C Q) : Wp d mc ms M pc ls (cI y :: cI x :: st) S C Q := by
  intro p l e s m args below meth c R D A n0 ad0 sc0 QQ ad cls tys H locs cells slots jls G
  obtain ⟨hc, hr, ha, hR, hL, hst, hE⟩ := G
  subst hx
  have ho := List.forall_mem_cons.mp hst
  have ho2 := List.forall_mem_cons.mp ho.2
  have hy := ho.1
  have hxx := ho2.1
  have kk := k p l e s m args below meth c R D A n0 ad0 sc0 QQ ad cls tys H locs cells slots jls ⟨hc, hr, ha, hR, hL, List.forall_mem_cons.mpr ⟨in32_toInt _, ho2.2⟩, hE⟩
  refine lv_ixor hc.1 hc.2.1 hd ?_
  have kk2 := kk
  rw [List.map_cons] at kk2
  rw [show eV ad (cI (iXor x y)) = _ from congrArg Value.int (Int32.ofInt_toInt _)] at kk2
  exact kk2
theorem wp_ishl {d mc ms : Nat} {M : MD} {pc nx : Nat} {ls st : List MV} {S : MS} {C : MC} {Q : Int → MS → MC → Prop} {x y : Int} (hd : decode M.2.1 pc = .ok (.ishl, 1)) (hx : pc + 1 = nx) (k : Wp d mc ms M nx ls (cI (iShl x y) :: st) S C Q) : Wp d mc ms M pc ls (cI y :: cI x :: st) S C Q := by
  intro p l e s m args below meth c R D A n0 ad0 sc0 QQ ad cls tys H locs cells slots jls G
  obtain ⟨hc, hr, ha, hR, hL, hst, hE⟩ := G
  subst hx
  have ho := List.forall_mem_cons.mp hst
  have ho2 := List.forall_mem_cons.mp ho.2
  have hy := ho.1
  have hxx := ho2.1
  have kk := k p l e s m args below meth c R D A n0 ad0 sc0 QQ ad cls tys H locs cells slots jls ⟨hc, hr, ha, hR, hL, List.forall_mem_cons.mpr ⟨in32_toInt _, ho2.2⟩, hE⟩
  refine lv_ishl hc.1 hc.2.1 hd ?_
  have kk2 := kk
  rw [List.map_cons] at kk2
  rw [show eV ad (cI (iShl x y)) = _ from congrArg Value.int (Int32.ofInt_toInt _)] at kk2
  exact kk2
theorem wp_ishr {d mc ms : Nat} {M : MD} {pc nx : Nat} {ls st : List MV} {S : MS} {C : MC} {Q : Int → MS → MC → Prop} {x y : Int} (hd : decode M.2.1 pc = .ok (.ishr, 1)) (hx : pc + 1 = nx) (k : Wp d mc ms M nx ls (cI (iShr x y) :: st) S C Q) : Wp d mc ms M pc ls (cI y :: cI x :: st) S C Q := by
  intro p l e s m args below meth c R D A n0 ad0 sc0 QQ ad cls tys H locs cells slots jls G
  obtain ⟨hc, hr, ha, hR, hL, hst, hE⟩ := G
  subst hx
  have ho := List.forall_mem_cons.mp hst
  have ho2 := List.forall_mem_cons.mp ho.2
  have hy := ho.1
  have hxx := ho2.1
  have kk := k p l e s m args below meth c R D A n0 ad0 sc0 QQ ad cls tys H locs cells slots jls ⟨hc, hr, ha, hR, hL, List.forall_mem_cons.mpr ⟨in32_toInt _, ho2.2⟩, hE⟩
  refine lv_ishr hc.1 hc.2.1 hd ?_
  have kk2 := kk
  rw [List.map_cons] at kk2
  rw [show eV ad (cI (iShr x y)) = _ from congrArg Value.int (Int32.ofInt_toInt _)] at kk2
  exact kk2
theorem wp_iushr {d mc ms : Nat} {M : MD} {pc nx : Nat} {ls st : List MV} {S : MS} {C : MC} {Q : Int → MS → MC → Prop} {x y : Int} (hd : decode M.2.1 pc = .ok (.iushr, 1)) (hx : pc + 1 = nx) (k : Wp d mc ms M nx ls (cI (iUshr x y) :: st) S C Q) : Wp d mc ms M pc ls (cI y :: cI x :: st) S C Q := by
  intro p l e s m args below meth c R D A n0 ad0 sc0 QQ ad cls tys H locs cells slots jls G
  obtain ⟨hc, hr, ha, hR, hL, hst, hE⟩ := G
  subst hx
  have ho2 := List.forall_mem_cons.mp (List.forall_mem_cons.mp hst).2
  refine lv_iushr hc.1 hc.2.1 hd (v := Int32.ofInt (iUshr x y)) (by unfold iUshr; rw [Int32.ofInt_toInt]) ?_
  exact k p l e s m args below meth c R D A n0 ad0 sc0 QQ ad cls tys H locs cells slots jls ⟨hc, hr, ha, hR, hL, List.forall_mem_cons.mpr ⟨in32_toInt _, ho2.2⟩, hE⟩
theorem wp_ladd {d mc ms : Nat} {M : MD} {pc nx : Nat} {ls st : List MV} {S : MS} {C : MC} {Q : Int → MS → MC → Prop} {x y : Int} (hd : decode M.2.1 pc = .ok (.ladd, 1)) (hx : pc + 1 = nx) (k : Wp d mc ms M nx ls (cJ (w64 (x + y)) :: st) S C Q) : Wp d mc ms M pc ls (cJ y :: cJ x :: st) S C Q := by
  intro p l e s m args below meth c R D A n0 ad0 sc0 QQ ad cls tys H locs cells slots jls G
  obtain ⟨hc, hr, ha, hR, hL, hst, hE⟩ := G
  subst hx
  have ho := List.forall_mem_cons.mp hst
  have ho2 := List.forall_mem_cons.mp ho.2
  have hy := ho.1
  have hxx := ho2.1
  have kk := k p l e s m args below meth c R D A n0 ad0 sc0 QQ ad cls tys H locs cells slots jls ⟨hc, hr, ha, hR, hL, List.forall_mem_cons.mpr ⟨w64_in _, ho2.2⟩, hE⟩
  refine lv_ladd hc.1 hc.2.1 hd ?_
  rw [← ofL_add]
  exact kk
theorem wp_lsub {d mc ms : Nat} {M : MD} {pc nx : Nat} {ls st : List MV} {S : MS} {C : MC} {Q : Int → MS → MC → Prop} {x y : Int} (hd : decode M.2.1 pc = .ok (.lsub, 1)) (hx : pc + 1 = nx) (k : Wp d mc ms M nx ls (cJ (w64 (x - y)) :: st) S C Q) : Wp d mc ms M pc ls (cJ y :: cJ x :: st) S C Q := by
  intro p l e s m args below meth c R D A n0 ad0 sc0 QQ ad cls tys H locs cells slots jls G
  obtain ⟨hc, hr, ha, hR, hL, hst, hE⟩ := G
  subst hx
  have ho := List.forall_mem_cons.mp hst
  have ho2 := List.forall_mem_cons.mp ho.2
  have hy := ho.1
  have hxx := ho2.1
  have kk := k p l e s m args below meth c R D A n0 ad0 sc0 QQ ad cls tys H locs cells slots jls ⟨hc, hr, ha, hR, hL, List.forall_mem_cons.mpr ⟨w64_in _, ho2.2⟩, hE⟩
  refine lv_lsub hc.1 hc.2.1 hd ?_
  rw [← ofL_sub]
  exact kk
theorem wp_lmul {d mc ms : Nat} {M : MD} {pc nx : Nat} {ls st : List MV} {S : MS} {C : MC} {Q : Int → MS → MC → Prop} {x y : Int} (hd : decode M.2.1 pc = .ok (.lmul, 1)) (hx : pc + 1 = nx) (k : Wp d mc ms M nx ls (cJ (w64 (x * y)) :: st) S C Q) : Wp d mc ms M pc ls (cJ y :: cJ x :: st) S C Q := by
  intro p l e s m args below meth c R D A n0 ad0 sc0 QQ ad cls tys H locs cells slots jls G
  obtain ⟨hc, hr, ha, hR, hL, hst, hE⟩ := G
  subst hx
  have ho := List.forall_mem_cons.mp hst
  have ho2 := List.forall_mem_cons.mp ho.2
  have hy := ho.1
  have hxx := ho2.1
  have kk := k p l e s m args below meth c R D A n0 ad0 sc0 QQ ad cls tys H locs cells slots jls ⟨hc, hr, ha, hR, hL, List.forall_mem_cons.mpr ⟨w64_in _, ho2.2⟩, hE⟩
  refine lv_lmul hc.1 hc.2.1 hd ?_
  rw [← ofL_mul]
  exact kk
theorem wp_ldiv {d mc ms : Nat} {M : MD} {pc nx : Nat} {ls st : List MV} {S : MS} {C : MC} {Q : Int → MS → MC → Prop} {x y : Int} (hd : decode M.2.1 pc = .ok (.ldiv, 1)) (hx : pc + 1 = nx) (h0 : y ≠ 0) (k : Wp d mc ms M nx ls (cJ (w64 (x.tdiv y)) :: st) S C Q) : Wp d mc ms M pc ls (cJ y :: cJ x :: st) S C Q := by
  intro p l e s m args below meth c R D A n0 ad0 sc0 QQ ad cls tys H locs cells slots jls G
  obtain ⟨hc, hr, ha, hR, hL, hst, hE⟩ := G
  subst hx
  have ho := List.forall_mem_cons.mp hst
  have ho2 := List.forall_mem_cons.mp ho.2
  have hy := ho.1
  have hxx := ho2.1
  have kk := k p l e s m args below meth c R D A n0 ad0 sc0 QQ ad cls tys H locs cells slots jls ⟨hc, hr, ha, hR, hL, List.forall_mem_cons.mpr ⟨w64_in _, ho2.2⟩, hE⟩
  refine lv_ldiv hc.1 hc.2.1 hd (ofL_ne0 hy h0) ?_
  rw [← ofL_div hxx hy]
  exact kk
theorem wp_lrem {d mc ms : Nat} {M : MD} {pc nx : Nat} {ls st : List MV} {S : MS} {C : MC} {Q : Int → MS → MC → Prop} {x y : Int} (hd : decode M.2.1 pc = .ok (.lrem, 1)) (hx : pc + 1 = nx) (h0 : y ≠ 0) (k : Wp d mc ms M nx ls (cJ (w64 (x.tmod y)) :: st) S C Q) : Wp d mc ms M pc ls (cJ y :: cJ x :: st) S C Q := by
  intro p l e s m args below meth c R D A n0 ad0 sc0 QQ ad cls tys H locs cells slots jls G
  obtain ⟨hc, hr, ha, hR, hL, hst, hE⟩ := G
  subst hx
  have ho := List.forall_mem_cons.mp hst
  have ho2 := List.forall_mem_cons.mp ho.2
  have hy := ho.1
  have hxx := ho2.1
  have kk := k p l e s m args below meth c R D A n0 ad0 sc0 QQ ad cls tys H locs cells slots jls ⟨hc, hr, ha, hR, hL, List.forall_mem_cons.mpr ⟨w64_in _, ho2.2⟩, hE⟩
  refine lv_lrem hc.1 hc.2.1 hd (ofL_ne0 hy h0) ?_
  rw [← ofL_rem hxx hy]
  exact kk
theorem wp_lcmp {d mc ms : Nat} {M : MD} {pc nx : Nat} {ls st : List MV} {S : MS} {C : MC} {Q : Int → MS → MC → Prop} {x y : Int} (hd : decode M.2.1 pc = .ok (.lcmp, 1)) (hx : pc + 1 = nx) (k : Wp d mc ms M nx ls (cI (lCmp x y) :: st) S C Q) : Wp d mc ms M pc ls (cJ y :: cJ x :: st) S C Q := by
  intro p l e s m args below meth c R D A n0 ad0 sc0 QQ ad cls tys H locs cells slots jls G
  obtain ⟨hc, hr, ha, hR, hL, hst, hE⟩ := G
  subst hx
  have ho := List.forall_mem_cons.mp hst
  have ho2 := List.forall_mem_cons.mp ho.2
  have hy := ho.1
  have hxx := ho2.1
  have kk := k p l e s m args below meth c R D A n0 ad0 sc0 QQ ad cls tys H locs cells slots jls ⟨hc, hr, ha, hR, hL, List.forall_mem_cons.mpr ⟨lCmp_in _ _, ho2.2⟩, hE⟩
  refine W.lcmp hc.1 hc.2.1 hd ?_
  rw [← ofI_lcmp hxx hy]
  exact kk
theorem wp_lshl {d mc ms : Nat} {M : MD} {pc nx : Nat} {ls st : List MV} {S : MS} {C : MC} {Q : Int → MS → MC → Prop} {x y : Int} (hd : decode M.2.1 pc = .ok (.lshl, 1)) (hx : pc + 1 = nx) (k : Wp d mc ms M nx ls (cJ (lShl x y) :: st) S C Q) : Wp d mc ms M pc ls (cI y :: cJ x :: st) S C Q := by
  intro p l e s m args below meth c R D A n0 ad0 sc0 QQ ad cls tys H locs cells slots jls G
  obtain ⟨hc, hr, ha, hR, hL, hst, hE⟩ := G
  subst hx
  have ho2 := List.forall_mem_cons.mp (List.forall_mem_cons.mp hst).2
  refine lv_lshl hc.1 hc.2.1 hd (v := Int64.ofInt (lShl x y)) (by unfold lShl; rw [Int64.ofInt_toInt]) ?_
  exact k p l e s m args below meth c R D A n0 ad0 sc0 QQ ad cls tys H locs cells slots jls ⟨hc, hr, ha, hR, hL, List.forall_mem_cons.mpr ⟨in64_toInt _, ho2.2⟩, hE⟩
theorem wp_lshr {d mc ms : Nat} {M : MD} {pc nx : Nat} {ls st : List MV} {S : MS} {C : MC} {Q : Int → MS → MC → Prop} {x y : Int} (hd : decode M.2.1 pc = .ok (.lshr, 1)) (hx : pc + 1 = nx) (k : Wp d mc ms M nx ls (cJ (lShr x y) :: st) S C Q) : Wp d mc ms M pc ls (cI y :: cJ x :: st) S C Q := by
  intro p l e s m args below meth c R D A n0 ad0 sc0 QQ ad cls tys H locs cells slots jls G
  obtain ⟨hc, hr, ha, hR, hL, hst, hE⟩ := G
  subst hx
  have ho2 := List.forall_mem_cons.mp (List.forall_mem_cons.mp hst).2
  refine lv_lshr hc.1 hc.2.1 hd (v := Int64.ofInt (lShr x y)) (by unfold lShr; rw [Int64.ofInt_toInt]) ?_
  exact k p l e s m args below meth c R D A n0 ad0 sc0 QQ ad cls tys H locs cells slots jls ⟨hc, hr, ha, hR, hL, List.forall_mem_cons.mpr ⟨in64_toInt _, ho2.2⟩, hE⟩
theorem wp_ineg {d mc ms : Nat} {M : MD} {pc nx : Nat} {ls st : List MV} {S : MS} {C : MC} {Q : Int → MS → MC → Prop} {x : Int} (hd : decode M.2.1 pc = .ok (.ineg, 1)) (hx : pc + 1 = nx) (k : Wp d mc ms M nx ls (cI (w32 (-x)) :: st) S C Q) : Wp d mc ms M pc ls (cI x :: st) S C Q := by
  intro p l e s m args below meth c R D A n0 ad0 sc0 QQ ad cls tys H locs cells slots jls G
  obtain ⟨hc, hr, ha, hR, hL, hst, hE⟩ := G
  subst hx
  have ho := List.forall_mem_cons.mp hst
  have kk := k p l e s m args below meth c R D A n0 ad0 sc0 QQ ad cls tys H locs cells slots jls ⟨hc, hr, ha, hR, hL, List.forall_mem_cons.mpr ⟨w32_in _, ho.2⟩, hE⟩
  refine lv_ineg hc.1 hc.2.1 hd ?_
  rw [← ofI_neg]
  exact kk
theorem wp_i2l {d mc ms : Nat} {M : MD} {pc nx : Nat} {ls st : List MV} {S : MS} {C : MC} {Q : Int → MS → MC → Prop} {x : Int} (hd : decode M.2.1 pc = .ok (.i2l, 1)) (hx : pc + 1 = nx) (k : Wp d mc ms M nx ls (cJ x :: st) S C Q) : Wp d mc ms M pc ls (cI x :: st) S C Q := by
  intro p l e s m args below meth c R D A n0 ad0 sc0 QQ ad cls tys H locs cells slots jls G
  obtain ⟨hc, hr, ha, hR, hL, hst, hE⟩ := G
  subst hx
  have ho := List.forall_mem_cons.mp hst
  have hxx : in32 x := ho.1
  exact lv_i2l hc.1 hc.2.1 hd (i2l_eq hxx) (k p l e s m args below meth c R D A n0 ad0 sc0 QQ ad cls tys H locs cells slots jls ⟨hc, hr, ha, hR, hL, List.forall_mem_cons.mpr ⟨(by unfold in32 at hxx; show in64 x; unfold in64; omega), ho.2⟩, hE⟩)
theorem wp_l2i {d mc ms : Nat} {M : MD} {pc nx : Nat} {ls st : List MV} {S : MS} {C : MC} {Q : Int → MS → MC → Prop} {x : Int} (hd : decode M.2.1 pc = .ok (.l2i, 1)) (hx : pc + 1 = nx) (k : Wp d mc ms M nx ls (cI (w32 x) :: st) S C Q) : Wp d mc ms M pc ls (cJ x :: st) S C Q := by
  intro p l e s m args below meth c R D A n0 ad0 sc0 QQ ad cls tys H locs cells slots jls G
  obtain ⟨hc, hr, ha, hR, hL, hst, hE⟩ := G
  subst hx
  have ho := List.forall_mem_cons.mp hst
  exact lv_l2i hc.1 hc.2.1 hd (l2i_eq ho.1) (k p l e s m args below meth c R D A n0 ad0 sc0 QQ ad cls tys H locs cells slots jls ⟨hc, hr, ha, hR, hL, List.forall_mem_cons.mpr ⟨w32_in _, ho.2⟩, hE⟩)
theorem wp_i2b {d mc ms : Nat} {M : MD} {pc nx : Nat} {ls st : List MV} {S : MS} {C : MC} {Q : Int → MS → MC → Prop} {x : Int} (hd : decode M.2.1 pc = .ok (.i2b, 1)) (hx : pc + 1 = nx) (k : Wp d mc ms M nx ls (cI (i2b x) :: st) S C Q) : Wp d mc ms M pc ls (cI x :: st) S C Q := by
  intro p l e s m args below meth c R D A n0 ad0 sc0 QQ ad cls tys H locs cells slots jls G
  obtain ⟨hc, hr, ha, hR, hL, hst, hE⟩ := G
  subst hx
  have ho := List.forall_mem_cons.mp hst
  refine lv_i2b hc.1 hc.2.1 hd (v := Int32.ofInt (i2b x)) (by unfold i2b; rw [Int32.ofInt_toInt]) ?_
  exact k p l e s m args below meth c R D A n0 ad0 sc0 QQ ad cls tys H locs cells slots jls ⟨hc, hr, ha, hR, hL, List.forall_mem_cons.mpr ⟨in32_toInt _, ho.2⟩, hE⟩
theorem eV_c1 {ad : Int → Nat} {n : Int} {v : MV} (h : okV n v) (hv : v.1 ≠ 1) : (eV ad v).category = 1 := by
  obtain ⟨t, x⟩ := v
  match t with
  | 0 => rfl
  | 1 => exact absurd rfl hv
  | 2 => exact eV_cat2 ad x
  | t + 3 => exact absurd h (by simp [okV])
theorem wp_dup {d mc ms : Nat} {M : MD} {pc nx : Nat} {ls st : List MV} {S : MS} {C : MC} {Q : Int → MS → MC → Prop} {v : MV} (hd : decode M.2.1 pc = .ok (.dup, 1)) (hx : pc + 1 = nx) (hv : v.1 ≠ 1) (k : Wp d mc ms M nx ls (v :: v :: st) S C Q) : Wp d mc ms M pc ls (v :: st) S C Q := by
  intro p l e s m args below meth c R D A n0 ad0 sc0 QQ ad cls tys H locs cells slots jls G
  obtain ⟨hc, hr, ha, hR, hL, hst, hE⟩ := G
  subst hx
  have ho := List.forall_mem_cons.mp hst
  exact lv_dup hc.1 hc.2.1 hd (eV_c1 ho.1 hv) (k p l e s m args below meth c R D A n0 ad0 sc0 QQ ad cls tys H locs cells slots jls ⟨hc, hr, ha, hR, hL, List.forall_mem_cons.mpr ⟨ho.1, hst⟩, hE⟩)
theorem wp_pop {d mc ms : Nat} {M : MD} {pc nx : Nat} {ls st : List MV} {S : MS} {C : MC} {Q : Int → MS → MC → Prop} {v : MV} (hd : decode M.2.1 pc = .ok (.pop, 1)) (hx : pc + 1 = nx) (hv : v.1 ≠ 1) (k : Wp d mc ms M nx ls (st) S C Q) : Wp d mc ms M pc ls (v :: st) S C Q := by
  intro p l e s m args below meth c R D A n0 ad0 sc0 QQ ad cls tys H locs cells slots jls G
  obtain ⟨hc, hr, ha, hR, hL, hst, hE⟩ := G
  subst hx
  have ho := List.forall_mem_cons.mp hst
  exact lv_pop hc.1 hc.2.1 hd (eV_c1 ho.1 hv) (k p l e s m args below meth c R D A n0 ad0 sc0 QQ ad cls tys H locs cells slots jls ⟨hc, hr, ha, hR, hL, ho.2, hE⟩)
theorem wp_dup2 {d mc ms : Nat} {M : MD} {pc nx : Nat} {ls st : List MV} {S : MS} {C : MC} {Q : Int → MS → MC → Prop} {v w : MV} (hd : decode M.2.1 pc = .ok (.dup2, 1)) (hx : pc + 1 = nx) (hv : v.1 ≠ 1) (hw : w.1 ≠ 1) (k : Wp d mc ms M nx ls (v :: w :: v :: w :: st) S C Q) : Wp d mc ms M pc ls (v :: w :: st) S C Q := by
  intro p l e s m args below meth c R D A n0 ad0 sc0 QQ ad cls tys H locs cells slots jls G
  obtain ⟨hc, hr, ha, hR, hL, hst, hE⟩ := G
  subst hx
  have ho := List.forall_mem_cons.mp hst
  have ho2 := List.forall_mem_cons.mp ho.2
  exact lv_dup2_11 hc.1 hc.2.1 hd (eV_c1 ho.1 hv) (eV_c1 ho2.1 hw) (k p l e s m args below meth c R D A n0 ad0 sc0 QQ ad cls tys H locs cells slots jls ⟨hc, hr, ha, hR, hL, List.forall_mem_cons.mpr ⟨ho.1, List.forall_mem_cons.mpr ⟨ho2.1, hst⟩⟩, hE⟩)
theorem wp_dup_x1 {d mc ms : Nat} {M : MD} {pc nx : Nat} {ls st : List MV} {S : MS} {C : MC} {Q : Int → MS → MC → Prop} {v w : MV} (hd : decode M.2.1 pc = .ok (.dup_x1, 1)) (hx : pc + 1 = nx) (hv : v.1 ≠ 1) (hw : w.1 ≠ 1) (k : Wp d mc ms M nx ls (v :: w :: v :: st) S C Q) : Wp d mc ms M pc ls (v :: w :: st) S C Q := by
  intro p l e s m args below meth c R D A n0 ad0 sc0 QQ ad cls tys H locs cells slots jls G
  obtain ⟨hc, hr, ha, hR, hL, hst, hE⟩ := G
  subst hx
  have ho := List.forall_mem_cons.mp hst
  have ho2 := List.forall_mem_cons.mp ho.2
  exact lv_dup_x1 hc.1 hc.2.1 hd (eV_c1 ho.1 hv) (eV_c1 ho2.1 hw) (k p l e s m args below meth c R D A n0 ad0 sc0 QQ ad cls tys H locs cells slots jls ⟨hc, hr, ha, hR, hL, List.forall_mem_cons.mpr ⟨ho.1, List.forall_mem_cons.mpr ⟨ho2.1, List.forall_mem_cons.mpr ⟨ho.1, ho2.2⟩⟩⟩, hE⟩)
theorem wp_if_eq {d mc ms : Nat} {M : MD} {pc nx : Nat} {ls st : List MV} {S : MS} {C : MC} {Q : Int → MS → MC → Prop} {x off : Int} {tg : Nat} (hd : decode M.2.1 pc = .ok (.ifCond .eq off, 3)) (hx : pc + 3 = nx) (ht : (pc : Int) + off = (tg : Int)) (kt : x = 0 → Wp d mc ms M tg ls (st) S C Q) (kf : ¬ x = 0 → Wp d mc ms M nx ls (st) S C Q) : Wp d mc ms M pc ls (cI x :: st) S C Q := by
  intro p l e s m args below meth c R D A n0 ad0 sc0 QQ ad cls tys H locs cells slots jls G
  obtain ⟨hc, hr, ha, hR, hL, hst, hE⟩ := G
  subst hx
  have ho := List.forall_mem_cons.mp hst
  have hxx : in32 x := ho.1
  refine lv_if_eq hc.1 hc.2.1 hd ht (fun h => ?_) (fun h => ?_)
  · exact kt ((ofI_inj hxx in32_0).mp h) p l e s m args below meth c R D A n0 ad0 sc0 QQ ad cls tys H locs cells slots jls ⟨hc, hr, ha, hR, hL, ho.2, hE⟩
  · exact kf (fun z => h ((ofI_inj hxx in32_0).mpr z)) p l e s m args below meth c R D A n0 ad0 sc0 QQ ad cls tys H locs cells slots jls ⟨hc, hr, ha, hR, hL, ho.2, hE⟩
theorem wp_icmp_eq {d mc ms : Nat} {M : MD} {pc nx : Nat} {ls st : List MV} {S : MS} {C : MC} {Q : Int → MS → MC → Prop} {x y off : Int} {tg : Nat} (hd : decode M.2.1 pc = .ok (.if_icmp .eq off, 3)) (hx : pc + 3 = nx) (ht : (pc : Int) + off = (tg : Int)) (kt : x = y → Wp d mc ms M tg ls (st) S C Q) (kf : ¬ x = y → Wp d mc ms M nx ls (st) S C Q) : Wp d mc ms M pc ls (cI y :: cI x :: st) S C Q := by
  intro p l e s m args below meth c R D A n0 ad0 sc0 QQ ad cls tys H locs cells slots jls G
  obtain ⟨hc, hr, ha, hR, hL, hst, hE⟩ := G
  subst hx
  have ho := List.forall_mem_cons.mp hst
  have ho2 := List.forall_mem_cons.mp ho.2
  have hy : in32 y := ho.1
  have hxx : in32 x := ho2.1
  refine lv_icmp_eq hc.1 hc.2.1 hd ht (fun h => ?_) (fun h => ?_)
  · exact kt ((ofI_inj hxx hy).mp h) p l e s m args below meth c R D A n0 ad0 sc0 QQ ad cls tys H locs cells slots jls ⟨hc, hr, ha, hR, hL, ho2.2, hE⟩
  · exact kf (fun z => h ((ofI_inj hxx hy).mpr z)) p l e s m args below meth c R D A n0 ad0 sc0 QQ ad cls tys H locs cells slots jls ⟨hc, hr, ha, hR, hL, ho2.2, hE⟩
theorem wp_if_lt {d mc ms : Nat} {M : MD} {pc nx : Nat} {ls st : List MV} {S : MS} {C : MC} {Q : Int → MS → MC → Prop} {x off : Int} {tg : Nat} (hd : decode M.2.1 pc = .ok (.ifCond .lt off, 3)) (hx : pc + 3 = nx) (ht : (pc : Int) + off = (tg : Int)) (kt : x < 0 → Wp d mc ms M tg ls (st) S C Q) (kf : ¬ x < 0 → Wp d mc ms M nx ls (st) S C Q) : Wp d mc ms M pc ls (cI x :: st) S C Q := by
  intro p l e s m args below meth c R D A n0 ad0 sc0 QQ ad cls tys H locs cells slots jls G
  obtain ⟨hc, hr, ha, hR, hL, hst, hE⟩ := G
  subst hx
  have ho := List.forall_mem_cons.mp hst
  have hxx : in32 x := ho.1
  refine lv_if_lt hc.1 hc.2.1 hd ht (fun h => ?_) (fun h => ?_)
  · exact kt ((ofI_lt hxx in32_0).mp h) p l e s m args below meth c R D A n0 ad0 sc0 QQ ad cls tys H locs cells slots jls ⟨hc, hr, ha, hR, hL, ho.2, hE⟩
  · exact kf (fun z => h ((ofI_lt hxx in32_0).mpr z)) p l e s m args below meth c R D A n0 ad0 sc0 QQ ad cls tys H locs cells slots jls ⟨hc, hr, ha, hR, hL, ho.2, hE⟩
theorem wp_icmp_lt {d mc ms : Nat} {M : MD} {pc nx : Nat} {ls st : List MV} {S : MS} {C : MC} {Q : Int → MS → MC → Prop} {x y off : Int} {tg : Nat} (hd : decode M.2.1 pc = .ok (.if_icmp .lt off, 3)) (hx : pc + 3 = nx) (ht : (pc : Int) + off = (tg : Int)) (kt : x < y → Wp d mc ms M tg ls (st) S C Q) (kf : ¬ x < y → Wp d mc ms M nx ls (st) S C Q) : Wp d mc ms M pc ls (cI y :: cI x :: st) S C Q := by
  intro p l e s m args below meth c R D A n0 ad0 sc0 QQ ad cls tys H locs cells slots jls G
  obtain ⟨hc, hr, ha, hR, hL, hst, hE⟩ := G
  subst hx
  have ho := List.forall_mem_cons.mp hst
  have ho2 := List.forall_mem_cons.mp ho.2
  have hy : in32 y := ho.1
  have hxx : in32 x := ho2.1
  refine lv_icmp_lt hc.1 hc.2.1 hd ht (fun h => ?_) (fun h => ?_)
  · exact kt ((ofI_lt hxx hy).mp h) p l e s m args below meth c R D A n0 ad0 sc0 QQ ad cls tys H locs cells slots jls ⟨hc, hr, ha, hR, hL, ho2.2, hE⟩
  · exact kf (fun z => h ((ofI_lt hxx hy).mpr z)) p l e s m args below meth c R D A n0 ad0 sc0 QQ ad cls tys H locs cells slots jls ⟨hc, hr, ha, hR, hL, ho2.2, hE⟩
theorem wp_if_ge {d mc ms : Nat} {M : MD} {pc nx : Nat} {ls st : List MV} {S : MS} {C : MC} {Q : Int → MS → MC → Prop} {x off : Int} {tg : Nat} (hd : decode M.2.1 pc = .ok (.ifCond .ge off, 3)) (hx : pc + 3 = nx) (ht : (pc : Int) + off = (tg : Int)) (kt : 0 ≤ x → Wp d mc ms M tg ls (st) S C Q) (kf : ¬ 0 ≤ x → Wp d mc ms M nx ls (st) S C Q) : Wp d mc ms M pc ls (cI x :: st) S C Q := by
  intro p l e s m args below meth c R D A n0 ad0 sc0 QQ ad cls tys H locs cells slots jls G
  obtain ⟨hc, hr, ha, hR, hL, hst, hE⟩ := G
  subst hx
  have ho := List.forall_mem_cons.mp hst
  have hxx : in32 x := ho.1
  refine lv_if_ge hc.1 hc.2.1 hd ht (fun h => ?_) (fun h => ?_)
  · exact kt ((ofI_le in32_0 hxx).mp h) p l e s m args below meth c R D A n0 ad0 sc0 QQ ad cls tys H locs cells slots jls ⟨hc, hr, ha, hR, hL, ho.2, hE⟩
  · exact kf (fun z => h ((ofI_le in32_0 hxx).mpr z)) p l e s m args below meth c R D A n0 ad0 sc0 QQ ad cls tys H locs cells slots jls ⟨hc, hr, ha, hR, hL, ho.2, hE⟩
theorem wp_icmp_ge {d mc ms : Nat} {M : MD} {pc nx : Nat} {ls st : List MV} {S : MS} {C : MC} {Q : Int → MS → MC → Prop} {x y off : Int} {tg : Nat} (hd : decode M.2.1 pc = .ok (.if_icmp .ge off, 3)) (hx : pc + 3 = nx) (ht : (pc : Int) + off = (tg : Int)) (kt : y ≤ x → Wp d mc ms M tg ls (st) S C Q) (kf : ¬ y ≤ x → Wp d mc ms M nx ls (st) S C Q) : Wp d mc ms M pc ls (cI y :: cI x :: st) S C Q := by
  intro p l e s m args below meth c R D A n0 ad0 sc0 QQ ad cls tys H locs cells slots jls G
  obtain ⟨hc, hr, ha, hR, hL, hst, hE⟩ := G
  subst hx
  have ho := List.forall_mem_cons.mp hst
  have ho2 := List.forall_mem_cons.mp ho.2
  have hy : in32 y := ho.1
  have hxx : in32 x := ho2.1
  refine lv_icmp_ge hc.1 hc.2.1 hd ht (fun h => ?_) (fun h => ?_)
  · exact kt ((ofI_le hy hxx).mp h) p l e s m args below meth c R D A n0 ad0 sc0 QQ ad cls tys H locs cells slots jls ⟨hc, hr, ha, hR, hL, ho2.2, hE⟩
  · exact kf (fun z => h ((ofI_le hy hxx).mpr z)) p l e s m args below meth c R D A n0 ad0 sc0 QQ ad cls tys H locs cells slots jls ⟨hc, hr, ha, hR, hL, ho2.2, hE⟩
theorem wp_if_gt {d mc ms : Nat} {M : MD} {pc nx : Nat} {ls st : List MV} {S : MS} {C : MC} {Q : Int → MS → MC → Prop} {x off : Int} {tg : Nat} (hd : decode M.2.1 pc = .ok (.ifCond .gt off, 3)) (hx : pc + 3 = nx) (ht : (pc : Int) + off = (tg : Int)) (kt : 0 < x → Wp d mc ms M tg ls (st) S C Q) (kf : ¬ 0 < x → Wp d mc ms M nx ls (st) S C Q) : Wp d mc ms M pc ls (cI x :: st) S C Q := by
  intro p l e s m args below meth c R D A n0 ad0 sc0 QQ ad cls tys H locs cells slots jls G
  obtain ⟨hc, hr, ha, hR, hL, hst, hE⟩ := G
  subst hx
  have ho := List.forall_mem_cons.mp hst
  have hxx : in32 x := ho.1
  refine lv_if_gt hc.1 hc.2.1 hd ht (fun h => ?_) (fun h => ?_)
  · exact kt ((ofI_lt in32_0 hxx).mp h) p l e s m args below meth c R D A n0 ad0 sc0 QQ ad cls tys H locs cells slots jls ⟨hc, hr, ha, hR, hL, ho.2, hE⟩
  · exact kf (fun z => h ((ofI_lt in32_0 hxx).mpr z)) p l e s m args below meth c R D A n0 ad0 sc0 QQ ad cls tys H locs cells slots jls ⟨hc, hr, ha, hR, hL, ho.2, hE⟩
theorem wp_icmp_gt {d mc ms : Nat} {M : MD} {pc nx : Nat} {ls st : List MV} {S : MS} {C : MC} {Q : Int → MS → MC → Prop} {x y off : Int} {tg : Nat} (hd : decode M.2.1 pc = .ok (.if_icmp .gt off, 3)) (hx : pc + 3 = nx) (ht : (pc : Int) + off = (tg : Int)) (kt : y < x → Wp d mc ms M tg ls (st) S C Q) (kf : ¬ y < x → Wp d mc ms M nx ls (st) S C Q) : Wp d mc ms M pc ls (cI y :: cI x :: st) S C Q := by
  intro p l e s m args below meth c R D A n0 ad0 sc0 QQ ad cls tys H locs cells slots jls G
  obtain ⟨hc, hr, ha, hR, hL, hst, hE⟩ := G
  subst hx
  have ho := List.forall_mem_cons.mp hst
  have ho2 := List.forall_mem_cons.mp ho.2
  have hy : in32 y := ho.1
  have hxx : in32 x := ho2.1
  refine lv_icmp_gt hc.1 hc.2.1 hd ht (fun h => ?_) (fun h => ?_)
  · exact kt ((ofI_lt hy hxx).mp h) p l e s m args below meth c R D A n0 ad0 sc0 QQ ad cls tys H locs cells slots jls ⟨hc, hr, ha, hR, hL, ho2.2, hE⟩
  · exact kf (fun z => h ((ofI_lt hy hxx).mpr z)) p l e s m args below meth c R D A n0 ad0 sc0 QQ ad cls tys H locs cells slots jls ⟨hc, hr, ha, hR, hL, ho2.2, hE⟩
theorem wp_if_le {d mc ms : Nat} {M : MD} {pc nx : Nat} {ls st : List MV} {S : MS} {C : MC} {Q : Int → MS → MC → Prop} {x off : Int} {tg : Nat} (hd : decode M.2.1 pc = .ok (.ifCond .le off, 3)) (hx : pc + 3 = nx) (ht : (pc : Int) + off = (tg : Int)) (kt : x ≤ 0 → Wp d mc ms M tg ls (st) S C Q) (kf : ¬ x ≤ 0 → Wp d mc ms M nx ls (st) S C Q) : Wp d mc ms M pc ls (cI x :: st) S C Q := by
  intro p l e s m args below meth c R D A n0 ad0 sc0 QQ ad cls tys H locs cells slots jls G
  obtain ⟨hc, hr, ha, hR, hL, hst, hE⟩ := G
  subst hx
  have ho := List.forall_mem_cons.mp hst
  have hxx : in32 x := ho.1
  refine lv_if_le hc.1 hc.2.1 hd ht (fun h => ?_) (fun h => ?_)
  · exact kt ((ofI_le hxx in32_0).mp h) p l e s m args below meth c R D A n0 ad0 sc0 QQ ad cls tys H locs cells slots jls ⟨hc, hr, ha, hR, hL, ho.2, hE⟩
  · exact kf (fun z => h ((ofI_le hxx in32_0).mpr z)) p l e s m args below meth c R D A n0 ad0 sc0 QQ ad cls tys H locs cells slots jls ⟨hc, hr, ha, hR, hL, ho.2, hE⟩
theorem wp_icmp_le {d mc ms : Nat} {M : MD} {pc nx : Nat} {ls st : List MV} {S : MS} {C : MC} {Q : Int → MS → MC → Prop} {x y off : Int} {tg : Nat} (hd : decode M.2.1 pc = .ok (.if_icmp .le off, 3)) (hx : pc + 3 = nx) (ht : (pc : Int) + off = (tg : Int)) (kt : x ≤ y → Wp d mc ms M tg ls (st) S C Q) (kf : ¬ x ≤ y → Wp d mc ms M nx ls (st) S C Q) : Wp d mc ms M pc ls (cI y :: cI x :: st) S C Q := by
  intro p l e s m args below meth c R D A n0 ad0 sc0 QQ ad cls tys H locs cells slots jls G
  obtain ⟨hc, hr, ha, hR, hL, hst, hE⟩ := G
  subst hx
  have ho := List.forall_mem_cons.mp hst
  have ho2 := List.forall_mem_cons.mp ho.2
  have hy : in32 y := ho.1
  have hxx : in32 x := ho2.1
  refine lv_icmp_le hc.1 hc.2.1 hd ht (fun h => ?_) (fun h => ?_)
  · exact kt ((ofI_le hxx hy).mp h) p l e s m args below meth c R D A n0 ad0 sc0 QQ ad cls tys H locs cells slots jls ⟨hc, hr, ha, hR, hL, ho2.2, hE⟩
  · exact kf (fun z => h ((ofI_le hxx hy).mpr z)) p l e s m args below meth c R D A n0 ad0 sc0 QQ ad cls tys H locs cells slots jls ⟨hc, hr, ha, hR, hL, ho2.2, hE⟩
theorem wp_if_ne {d mc ms : Nat} {M : MD} {pc nx : Nat} {ls st : List MV} {S : MS} {C : MC} {Q : Int → MS → MC → Prop} {x off : Int} {tg : Nat} (hd : decode M.2.1 pc = .ok (.ifCond .ne off, 3)) (hx : pc + 3 = nx) (ht : (pc : Int) + off = (tg : Int)) (kt : ¬ x = 0 → Wp d mc ms M tg ls (st) S C Q) (kf : x = 0 → Wp d mc ms M nx ls (st) S C Q) : Wp d mc ms M pc ls (cI x :: st) S C Q := by
  intro p l e s m args below meth c R D A n0 ad0 sc0 QQ ad cls tys H locs cells slots jls G
  obtain ⟨hc, hr, ha, hR, hL, hst, hE⟩ := G
  subst hx
  have ho := List.forall_mem_cons.mp hst
  have hxx : in32 x := ho.1
  refine lv_if_ne hc.1 hc.2.1 hd ht (fun h => ?_) (fun h => ?_)
  · exact kt (fun z => h ((ofI_inj hxx in32_0).mpr z)) p l e s m args below meth c R D A n0 ad0 sc0 QQ ad cls tys H locs cells slots jls ⟨hc, hr, ha, hR, hL, ho.2, hE⟩
  · exact kf ((ofI_inj hxx in32_0).mp h) p l e s m args below meth c R D A n0 ad0 sc0 QQ ad cls tys H locs cells slots jls ⟨hc, hr, ha, hR, hL, ho.2, hE⟩
theorem wp_icmp_ne {d mc ms : Nat} {M : MD} {pc nx : Nat} {ls st : List MV} {S : MS} {C : MC} {Q : Int → MS → MC → Prop} {x y off : Int} {tg : Nat} (hd : decode M.2.1 pc = .ok (.if_icmp .ne off, 3)) (hx : pc + 3 = nx) (ht : (pc : Int) + off = (tg : Int)) (kt : ¬ x = y → Wp d mc ms M tg ls (st) S C Q) (kf : x = y → Wp d mc ms M nx ls (st) S C Q) : Wp d mc ms M pc ls (cI y :: cI x :: st) S C Q := by
  intro p l e s m args below meth c R D A n0 ad0 sc0 QQ ad cls tys H locs cells slots jls G
  obtain ⟨hc, hr, ha, hR, hL, hst, hE⟩ := G
  subst hx
  have ho := List.forall_mem_cons.mp hst
  have ho2 := List.forall_mem_cons.mp ho.2
  have hy : in32 y := ho.1
  have hxx : in32 x := ho2.1
  refine lv_icmp_ne hc.1 hc.2.1 hd ht (fun h => ?_) (fun h => ?_)
  · exact kt (fun z => h ((ofI_inj hxx hy).mpr z)) p l e s m args below meth c R D A n0 ad0 sc0 QQ ad cls tys H locs cells slots jls ⟨hc, hr, ha, hR, hL, ho2.2, hE⟩
  · exact kf ((ofI_inj hxx hy).mp h) p l e s m args below meth c R D A n0 ad0 sc0 QQ ad cls tys H locs cells slots jls ⟨hc, hr, ha, hR, hL, ho2.2, hE⟩
theorem wp_goto {d mc ms : Nat} {M : MD} {pc nx : Nat} {ls st : List MV} {S : MS} {C : MC} {Q : Int → MS → MC → Prop} {off : Int} (hd : decode M.2.1 pc = .ok (.goto off, 3)) (hx : (pc : Int) + off = (nx : Int)) (k : Wp d mc ms M nx ls (st) S C Q) : Wp d mc ms M pc ls st S C Q := by
  intro p l e s m args below meth c R D A n0 ad0 sc0 QQ ad cls tys H locs cells slots jls G
  exact lv_goto G.1.1 G.1.2.1 hd hx (k p l e s m args below meth c R D A n0 ad0 sc0 QQ ad cls tys H locs cells slots jls G)
theorem wp_ifnonnull {d mc ms : Nat} {M : MD} {pc nx : Nat} {ls st : List MV} {S : MS} {C : MC} {Q : Int → MS → MC → Prop} {x off : Int} {tg : Nat} (hd : decode M.2.1 pc = .ok (.ifnonnull off, 3)) (hx : pc + 3 = nx) (ht : (pc : Int) + off = (tg : Int)) (kt : ¬ x = -1 → Wp d mc ms M tg ls (st) S C Q) (kf : x = -1 → Wp d mc ms M nx ls (st) S C Q) : Wp d mc ms M pc ls (cA x :: st) S C Q := by
  intro p l e s m args below meth c R D A n0 ad0 sc0 QQ ad cls tys H locs cells slots jls G
  obtain ⟨hc, hr, ha, hR, hL, hst, hE⟩ := G
  subst hx
  have ho := List.forall_mem_cons.mp hst
  rw [List.map_cons]
  by_cases h : x = -1
  · rw [show eV ad (cA x) = .null from if_pos h]
    exact lv_ifnonnullN hc.1 hc.2.1 hd (kf h p l e s m args below meth c R D A n0 ad0 sc0 QQ ad cls tys H locs cells slots jls ⟨hc, hr, ha, hR, hL, ho.2, hE⟩)
  · rw [show eV ad (cA x) = .ref (ad x) from if_neg h]
    exact lv_ifnonnull hc.1 hc.2.1 hd ht (kt h p l e s m args below meth c R D A n0 ad0 sc0 QQ ad cls tys H locs cells slots jls ⟨hc, hr, ha, hR, hL, ho.2, hE⟩)
theorem wp_tableOut {d mc ms : Nat} {M : MD} {pc : Nat} {ls st : List MV} {S : MS} {C : MC} {Q : Int → MS → MC → Prop} {dflt lo hi x : Int} {offs : Array Int} {len tg : Nat} (hd : decode M.2.1 pc = .ok (.tableswitch dflt lo hi offs, len)) (h : x < lo ∨ hi < x) (ht : (pc : Int) + dflt = (tg : Int)) (k : Wp d mc ms M tg ls (st) S C Q) : Wp d mc ms M pc ls (cI x :: st) S C Q := by
  intro p l e s m args below meth c R D A n0 ad0 sc0 QQ ad cls tys H locs cells slots jls G
  obtain ⟨hc, hr, ha, hR, hL, hst, hE⟩ := G
  have ho := List.forall_mem_cons.mp hst
  have hxx : in32 x := ho.1
  exact lv_tableOut hc.1 hc.2.1 hd (by rw [toI32 hxx]; exact h) ht (k p l e s m args below meth c R D A n0 ad0 sc0 QQ ad cls tys H locs cells slots jls ⟨hc, hr, ha, hR, hL, ho.2, hE⟩)
theorem wp_tableIn {d mc ms : Nat} {M : MD} {pc : Nat} {ls st : List MV} {S : MS} {C : MC} {Q : Int → MS → MC → Prop} {dflt lo hi x off : Int} {offs : Array Int} {len tg : Nat} (hd : decode M.2.1 pc = .ok (.tableswitch dflt lo hi offs, len)) (h1 : ¬ x < lo) (h2 : ¬ hi < x) (ho : offs[(x - lo).toNat]? = some off) (ht : (pc : Int) + off = (tg : Int)) (k : Wp d mc ms M tg ls (st) S C Q) : Wp d mc ms M pc ls (cI x :: st) S C Q := by
  intro p l e s m args below meth c R D A n0 ad0 sc0 QQ ad cls tys H locs cells slots jls G
  obtain ⟨hc, hr, ha, hR, hL, hst, hE⟩ := G
  have ho' := List.forall_mem_cons.mp hst
  have hxx : in32 x := ho'.1
  exact lv_tableIn hc.1 hc.2.1 hd (by rw [toI32 hxx]; exact h1) (by rw [toI32 hxx]; exact h2) (by rw [toI32 hxx]; exact ho) ht (k p l e s m args below meth c R D A n0 ad0 sc0 QQ ad cls tys H locs cells slots jls ⟨hc, hr, ha, hR, hL, ho'.2, hE⟩)
theorem wp_lookup {d mc ms : Nat} {M : MD} {pc : Nat} {ls st : List MV} {S : MS} {C : MC} {Q : Int → MS → MC → Prop} {dflt x off : Int} {ps : Array (Int × Int)} {len tg : Nat} (hd : decode M.2.1 pc = .ok (.lookupswitch dflt ps, len)) (hp : (ps.toList.zip (ps.toList.drop 1)).all (fun (a, next) => a.1 < next.1) = true) (ho : Op.lookupswitch.offset ps.toList dflt x = off) (ht : (pc : Int) + off = (tg : Int)) (k : Wp d mc ms M tg ls (st) S C Q) : Wp d mc ms M pc ls (cI x :: st) S C Q := by
  intro p l e s m args below meth c R D A n0 ad0 sc0 QQ ad cls tys H locs cells slots jls G
  obtain ⟨hc, hr, ha, hR, hL, hst, hE⟩ := G
  have ho' := List.forall_mem_cons.mp hst
  have hxx : in32 x := ho'.1
  exact lv_lookup hc.1 hc.2.1 hd hp (by rw [toI32 hxx]; exact ho) ht (k p l e s m args below meth c R D A n0 ad0 sc0 QQ ad cls tys H locs cells slots jls ⟨hc, hr, ha, hR, hL, ho'.2, hE⟩)
theorem wp_ireturn {d mc ms : Nat} {M : MD} {pc : Nat} {ls : List MV} {S : MS} {C : MC} {Q : Int → MS → MC → Prop} {x : Int} {ty : FieldType} (hd : decode M.2.1 pc = .ok (.ireturn, 1)) (hM : M.2.2.2 = some ty) (hk : kd ty = 0) (hn : narrow ty (.int (Int32.ofInt x)) = .int (Int32.ofInt x)) (k : Q x S C) : Wp d mc ms M pc ls [cI x] S C Q := by
  intro p l e s m args below meth c R D A n0 ad0 sc0 QQ ad cls tys H locs cells slots jls G
  obtain ⟨hc, hr, ha, hR, hL, hst, hE⟩ := G
  refine hE ad cls tys H locs cells slots pc jls _ x S C k hR ha.1 ha.2 (by omega) (by omega) ?_
  unfold Rt
  rw [hM]
  refine ⟨by rw [hk]; rfl, by rw [hk]; exact hst _ List.mem_cons_self, fun _ => ⟨hd, hn⟩, fun h => (by rw [hk] at h; cases h), fun h => (by rw [hk] at h; cases h)⟩
theorem wp_lreturn {d mc ms : Nat} {M : MD} {pc : Nat} {ls : List MV} {S : MS} {C : MC} {Q : Int → MS → MC → Prop} {x : Int} (hd : decode M.2.1 pc = .ok (.lreturn, 1)) (hM : M.2.2.2 = some .long) (k : Q x S C) : Wp d mc ms M pc ls [cJ x] S C Q := by
  intro p l e s m args below meth c R D A n0 ad0 sc0 QQ ad cls tys H locs cells slots jls G
  obtain ⟨hc, hr, ha, hR, hL, hst, hE⟩ := G
  refine hE ad cls tys H locs cells slots pc jls _ x S C k hR ha.1 ha.2 (by omega) (by omega) ?_
  unfold Rt
  rw [hM]
  exact ⟨rfl, hst _ List.mem_cons_self, fun h => (by cases h), fun _ => hd, fun h => (by cases h)⟩
theorem wp_areturn {d mc ms : Nat} {M : MD} {pc : Nat} {ls : List MV} {S : MS} {C : MC} {Q : Int → MS → MC → Prop} {x : Int} {ty : FieldType} (hd : decode M.2.1 pc = .ok (.areturn, 1)) (hM : M.2.2.2 = some ty) (hk : kd ty = 2) (k : Q x S C) : Wp d mc ms M pc ls [cA x] S C Q := by
  intro p l e s m args below meth c R D A n0 ad0 sc0 QQ ad cls tys H locs cells slots jls G
  obtain ⟨hc, hr, ha, hR, hL, hst, hE⟩ := G
  refine hE ad cls tys H locs cells slots pc jls _ x S C k hR ha.1 ha.2 (by omega) (by omega) ?_
  unfold Rt
  rw [hM]
  exact ⟨by rw [hk]; rfl, by rw [hk]; exact hst _ List.mem_cons_self, fun h => (by rw [hk] at h; cases h), fun h => (by rw [hk] at h; cases h), fun _ => hd⟩
theorem wp_return {d mc ms : Nat} {M : MD} {pc : Nat} {ls : List MV} {S : MS} {C : MC} {Q : Int → MS → MC → Prop} (hd : decode M.2.1 pc = .ok (.return_, 1)) (hM : M.2.2.2 = none) (k : Q 0 S C) : Wp d mc ms M pc ls [] S C Q := by
  intro p l e s m args below meth c R D A n0 ad0 sc0 QQ ad cls tys H locs cells slots jls G
  obtain ⟨hc, hr, ha, hR, hL, hst, hE⟩ := G
  refine hE ad cls tys H locs cells slots pc jls _ 0 S C k hR ha.1 ha.2 (by omega) (by omega) ?_
  unfold Rt
  rw [hM]
  exact ⟨hd, rfl⟩
theorem Wp.mono {d mc ms : Nat} {M : MD} {pc : Nat} {ls st : List MV} {S : MS} {C : MC} {Q Q' : Int → MS → MC → Prop} (h : Wp d mc ms M pc ls st S C Q) (hQ : ∀ x S' C', Q x S' C' → Q' x S' C') : Wp d mc ms M pc ls st S C Q' := by
  intro p l e s m args below meth c R D A n0 ad0 sc0 QQ ad cls tys H locs cells slots jls G
  obtain ⟨hc, hr, ha, hR, hL, hst, hE⟩ := G
  exact h p l e s m args below meth c R D A n0 ad0 sc0 QQ ad cls tys H locs cells slots jls ⟨hc, hr, ha, hR, hL, hst, fun ad' cls' tys' H' locs' cells' slots' pc' jls' st' x S' C' hq => hE ad' cls' tys' H' locs' cells' slots' pc' jls' st' x S' C' (hQ x S' C' hq)⟩
theorem Wp.deep {d d' mc mc' ms ms' : Nat} {M : MD} {pc : Nat} {ls st : List MV} {S : MS} {C : MC} {Q : Int → MS → MC → Prop} (h : Wp d mc ms M pc ls st S C Q) (hd : d ≤ d') (hm : mc ≤ mc') (hs : ms ≤ ms') : Wp d' mc' ms' M pc ls st S C Q := by
  intro p l e s m args below meth c R D A n0 ad0 sc0 QQ ad cls tys H locs cells slots jls G
  obtain ⟨hc, hr, ha, hR, hL, hst, hE⟩ := G
  exact h p l e s m args below meth c R D A n0 ad0 sc0 QQ ad cls tys H locs cells slots jls ⟨hc, ⟨by omega, by omega, by omega, by omega⟩, ha, hR, hL, hst, hE⟩
