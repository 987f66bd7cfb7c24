/-! 15.top: the law from its start to its loop -/
theorem mem_tbl {w : Cond} (h : w ∈ T0) : w ∈ lw_tbl := (List.mem_filter.mp h).1
theorem law_wp {d mc ms : Nat} {sc : Int × (Int → Int)} {Q : Int → MS → MC → Prop} (h : K_L_law_18 (d + 5) mc ms 0 (Sn 108 p_108 sc) (apU u_200 C0z) Q) : Wp (d + 5) (mc + 108) (ms + 43976) M_L_law 0 [cA (-3), cU, cU, cU] [] (Sn 0 p_0 sc) (apU u_0 C0z) Q := by
  refine wp_new (nx := 3) (mc := mc + 107) (ms := ms + 43959) clsX10 (hdfX (by decide +kernel)) dL_law_0 rfl kC_L_7 kin_X10 kz_X10 (by omega) (by omega) ?_
  refine wp_heap (nw_Sn (m2 := 1) (by decide) (by decide) (by decide) (by decide) (by decide +kernel)) (nw_C (by decide +kernel)) ?_
  show Wp _ _ _ _ 3 [cA (-3), cU, cU, cU] [cA 0] (Sn 1 p_0 sc) (apU u_0 C0z) _
  refine wp_dup (nx := 4) dL_law_3 rfl (k1A _) ?_
  refine wp_invI (nx := 7) (d := d + 4) (N := M_X10_init) (as := []) (st := [cA 0]) (a := 0) (mc := 80) (ms := 4349) (mc' := mc + 27) (ms' := ms + 39610) dL_law_4 rfl mok_X10_init kM_L_9 ki_X10_init rfl rfl (sn_b (by decide)) rfl rfl (leB rfl) (leB rfl) (by omega) (by omega) ?_
  refine ct_21 ?_
  show Wp _ _ _ _ 7 [cA (-3), cU, cU, cU] [cA 0] (Sn 81 p_82 sc) (apU u_52 C0z) _
  refine wp_astore_n (nx := 8) dL_law_7 rfl (by decide) ?_
  refine wp_ls (ls2 := [cA (-3), cA 0, cU, cU]) rfl ?_
  refine wp_new (nx := 11) (mc := mc + 26) (ms := ms + 39557) clsX11 (hdfX (by decide +kernel)) dL_law_8 rfl kC_L_10 kin_X11 kz_X11 (by omega) (by omega) ?_
  refine wp_heap (nw_Sn (m2 := 82) (by decide) (by decide) (by decide) (by decide) (by decide +kernel)) (nw_C (by decide +kernel)) ?_
  show Wp _ _ _ _ 11 [cA (-3), cA 0, cU, cU] [cA 81] (Sn 82 p_82 sc) (apU u_52 C0z) _
  refine wp_dup (nx := 12) dL_law_11 rfl (k1A _) ?_
  refine wp_invI (nx := 15) (d := d + 4) (N := M_X11_init) (as := []) (st := [cA 81]) (a := 81) (mc := 26) (ms := 39557) (mc' := mc) (ms' := ms) dL_law_12 rfl mok_X11_init kM_L_12 ki_X11_init rfl rfl (sn_b (by decide)) rfl rfl (leB rfl) (leB rfl) (by omega) (by omega) ?_
  refine Wp.deep (d := d + 1) (ct_22 ?_) (by omega) (Nat.le_refl _) (Nat.le_refl _)
  show Wp _ _ _ _ 15 [cA (-3), cA 0, cU, cU] [cA 81] (Sn 108 p_108 sc) (apU u_200 C0z) _
  refine wp_astore_n (nx := 16) dL_law_15 rfl (by decide) ?_
  refine wp_ls (ls2 := [cA (-3), cA 0, cA 81, cU]) rfl ?_
  refine wp_iconst (nx := 17) dL_law_16 rfl (i32 (by decide)) ?_
  refine wp_istore_n (nx := 18) dL_law_17 rfl (by decide) ?_
  refine wp_ls (ls2 := [cA (-3), cA 0, cA 81, cI 0]) rfl ?_
  exact h
/-! THE CLAIM OUT OF ONE WALK OF THE LAW'S BODY. Your part is whole_start (and what it stands on); all else here is the same for every law, but numbers. -/
def R_law : String := "KeyHousesLaw"
def lw_P (b : Addr) (xs : List Int32) (args : Array Value) (s : State) : Prop := args = #[.ref b] ∧ s.IntsAt b xs ∧ xs.length ≤ 3072 ∧ (Jvm.Cond.and given_1 narrow_1).before args s = true
def lw_Q (_ : Array Value) (s : State) (o : Outcome) (t : State) : Prop := o = .returned (some (.int 1)) ∧ Framed s o t [] 600000 7302249
def lw_Z (below : List Frame) (a : Array Value) (s : State) : State → Prop := fun t => ∃ o, t.status = .running ∧ Ended t below o ∧ lw_Q a s o t
/-- the law's own end, with 1 on the stack, nothing written that was there before, its room as the claim has it -/
theorem lw_ret {p : Program} {l : Launch} {e : Env} {s : State} {m : MethodId} {below : List Frame} {meth : Method} {c : Code} {b : Nat} (hx : p.tables.exec = Jvm.exec) (hb : c.code = code) (hr : meth.sig.returnType = ret) (hlocks : meth.locks = false) {pc : Nat} {H : Heap} {ls : Array Slot} (hdg : decode code pc = .ok (.ireturn, 1)) : W p l e room_1 s m #[Value.ref b] below meth c H [] 600000 7302249 (lw_Z below #[Value.ref b] s) (F0 m pc ls [.int 1]) := by
  intro T hT X
  obtain ⟨fs, hret, hrun, hended, hW, hframe⟩ := X.leave (v := some (.int 1)) (hlocks := hlocks) (fun h => by rw [hr] at h; cases h)
  have hmeth' : T.vm.method? m = some meth := X.method'
  refine ⟨T.setFrames fs, ?_, .returned (some (.int 1)), hrun, hended, rfl, ⟨_, rfl⟩, hW, hframe⟩
  jvm_step X.here [X.here.top, hx, hb, hdg, hmeth', hr, ret, narrow_b1]
  (try refine ⟨rfl, ?_⟩); (try refine ⟨rfl, ?_⟩)
  first | (intro acts; rw [hret _ acts rfl rfl rfl]) | rw [hret _ _ rfl rfl rfl]
  exact Steps.refl _
/-- what holds at the law's entry: the machine, the code, the tables' words (any of lw_tbl by 'hts w (by decide +kernel)'), the script of L ints xs at the cell b, what the Statement gives of the start (any of its parts by flat_of_before) -/
def lw_At (p : Program) (s : State) (m : MethodId) (meth : Method) (c : Code) (b L : Nat) (xs : Nat → Int32) : Prop :=
  p.tables.exec = Jvm.exec ∧ c.code = code ∧ meth.sig.returnType = ret ∧ c.maxLocals = 4 ∧ s.vm.findClass R_law = some m.cls ∧ (∀ w ∈ lw_tbl, w.before #[Value.ref b] s = true) ∧ va_X b L xs s s.heap ∧ b < s.heap.size ∧ meth.locks = false ∧ (Jvm.Cond.and given_1 narrow_1).before #[Value.ref b] s = true ∧ meth.name = "law"

theorem lt1 {w : Cond} (h : w ∈ tables_1) : w ∈ lw_tbl := List.mem_append_right _ h
theorem ltb1 {w : Cond} (h : w ∈ tables_1_1) : w ∈ lw_tbl := lt1 (List.mem_append_left _ h)
theorem ltb2 {w : Cond} (h : w ∈ tables_1_2) : w ∈ lw_tbl := lt1 (List.mem_append_right _ (List.mem_append_left _ h))
theorem ltb3 {w : Cond} (h : w ∈ tables_1_3) : w ∈ lw_tbl := lt1 (List.mem_append_right _ (List.mem_append_right _ (List.mem_append_left _ h)))
theorem ltb4 {w : Cond} (h : w ∈ tables_1_4) : w ∈ lw_tbl := lt1 (List.mem_append_right _ (List.mem_append_right _ (List.mem_append_right _ (List.mem_append_left _ h))))
theorem ltb5 {w : Cond} (h : w ∈ tables_1_5) : w ∈ lw_tbl := lt1 (List.mem_append_right _ (List.mem_append_right _ (List.mem_append_right _ (List.mem_append_right _ (List.mem_append_left _ h)))))
theorem ltb6 {w : Cond} (h : w ∈ tables_1_6) : w ∈ lw_tbl := lt1 (List.mem_append_right _ (List.mem_append_right _ (List.mem_append_right _ (List.mem_append_right _ (List.mem_append_right _ (List.mem_append_left _ h))))))
theorem ltb7 {w : Cond} (h : w ∈ tables_1_7) : w ∈ lw_tbl := lt1 (List.mem_append_right _ (List.mem_append_right _ (List.mem_append_right _ (List.mem_append_right _ (List.mem_append_right _ (List.mem_append_right _ (List.mem_append_left _ h)))))))
theorem ltb8 {w : Cond} (h : w ∈ tables_1_8) : w ∈ lw_tbl := lt1 (List.mem_append_right _ (List.mem_append_right _ (List.mem_append_right _ (List.mem_append_right _ (List.mem_append_right _ (List.mem_append_right _ (List.mem_append_right _ (h))))))))
set_option maxRecDepth 100000 in
theorem str_all {args : Array Value} {s : State} (hs : ∀ c ∈ flatC (Jvm.Cond.and given_1 narrow_1), c.before args s = true) : ∀ j : Nat, j < 136 → (Cond.eq (.elem (.field (.string "KeyHouses$Tape" 36) "java/lang/String" "value" "[B") (.int (Int32.ofNat j))) (.int (Int32.ofInt (wrdC j)))).before args s = true := by
  have hall : (List.range 136).all (fun j => decide ((Cond.eq (.elem (.field (.string "KeyHouses$Tape" 36) "java/lang/String" "value" "[B") (.int (Int32.ofNat j))) (.int (Int32.ofInt (wrdC j)))) ∈ flatC (Jvm.Cond.and given_1 narrow_1))) = true := by decide +kernel
  intro j hj
  exact hs _ (of_decide_eq_true (List.all_eq_true.mp hall j (List.mem_range.mpr hj)))
set_option maxRecDepth 100000 in
theorem ex_start {s : State} {b L : Nat} {xs : Nat → Int32} (hts : ∀ w ∈ lw_tbl, w.before #[Value.ref b] s = true) (hX : va_X b L xs s s.heap) (hbl : b < s.heap.size) (hgv : (Jvm.Cond.and given_1 narrow_1).before #[Value.ref b] s = true) :
    ∃ ad : Int → Nat, ad (-3) = b ∧ Ex ad ((L : Int), fun j => (xs j.toNat).toInt) (fun q => s.heap.size ≤ q) s s.heap := by
  have hA : ∀ a : Nat, a < s.heap.size → ¬ (fun q => s.heap.size ≤ q) a := fun a h1 h2 => absurd h1 (Nat.not_lt.mpr h2)
  have hs := flat_of_before _ hgv
  have hex : (Cond.exactly (.string "KeyHouses$Tape" 36) "java/lang/String").before #[Value.ref b] s = true := hs _ (by decide +kernel)
  have hco : (Cond.eq (.field (.string "KeyHouses$Tape" 36) "java/lang/String" "coder" "B") (.int 0)).before #[Value.ref b] s = true := hs _ (by decide +kernel)
  have har : (Cond.arrayOf (.field (.string "KeyHouses$Tape" 36) "java/lang/String" "value" "[B") .byte).before #[Value.ref b] s = true := hs _ (by decide +kernel)
  have hle : (Cond.eq (.length (.field (.string "KeyHouses$Tape" 36) "java/lang/String" "value" "[B")) (.int (Int32.ofNat 136))).before #[Value.ref b] s = true := hs _ (by decide +kernel)
  have hcs : (Cond.eq (.static "java/lang/String" "COMPACT_STRINGS" "Z") (.int 1)).before #[Value.ref b] s = true := hs _ (by decide +kernel)
  have hfm : (Cond.isRef (.static "jdk/internal/util/Preconditions" "SIOOBE_FORMATTER" "Ljava/util/function/BiFunction;")).before #[Value.ref b] s = true := hs _ (by decide +kernel)
  obtain ⟨a, c, cA, kA, q1, q2, q3, q4, q5, q6, -⟩ := Cond.exactly_spec (args := #[Value.ref b]) (first := s) (o := none) (s := s) (idx := []) (t := .string "KeyHouses$Tape" 36) (cls := "java/lang/String") hex
  obtain ⟨t, ht, hT⟩ := va_Tof (f := fun j : Nat => .int (Int32.ofInt (wrdC j))) (A := fun q => s.heap.size ≤ q) (N := 136) (by decide) har (va_eqt hle) (fun j hj => va_eqt (str_all hs j hj)) hA
  have hZ := va_Zof (v := .int 1) (hts _ (ltb3 (List.mem_of_getElem? (i := 84) (by decide +kernel)))) (hts _ (mem_tbl kz_J0)) (va_eqi hcs) hA
  have hF := va_Zqof (hts _ (ltb3 (List.mem_of_getElem? (i := 100) (by decide +kernel)))) (hts _ (ltb1 (List.mem_of_getElem? (i := 17) (by decide +kernel)))) hfm hA
  have hR : vk_R "KeyHouses$Tape" 36 wrdT a s := vk_R.of (hts _ (ltb3 (List.mem_of_getElem? (i := 74) (by decide +kernel)))) q1
  have hN : ∀ w ∈ N0, va_Nw w s := by
    intro w hw
    have hb := hts w (List.mem_filter.mp hw).1
    obtain ⟨o, i, x, hh, rfl⟩ := nest_form hw
    exact va_Nw.of rfl hb
  have hO : va_AO RX7 s ∧ va_AO RX9 s := ⟨va_AO.of (hts _ (ltb1 (List.mem_of_getElem? (i := 101) (by decide +kernel)))), va_AO.of (hts _ (ltb1 (List.mem_of_getElem? (i := 36) (by decide +kernel))))⟩
  have hSc : va_T .int b L (fun j : Nat => .int (Int32.ofInt ((xs ((j : Int)).toNat).toInt))) (fun q => s.heap.size ≤ q) s s.heap := by
    obtain ⟨scr, x1, x2, x3, x4, x5⟩ := hX
    refine ⟨scr, x1, x2, x3, by omega, by rw [x4], fun j hj => ?_, hA b hbl⟩
    rw [x5 j hj]
    show some (Value.int (xs j)) = some (Value.int (Int32.ofInt (xs ((j : Int)).toNat).toInt))
    rw [Int32.ofInt_toInt, Int.toNat_natCast]
  obtain ⟨tF, hF2⟩ : ∃ tF : Nat, va_Z "jdk/internal/util/Preconditions" "SIOOBE_FORMATTER" "Ljava/util/function/BiFunction;" .null (fun q => s.heap.size ≤ q) s s.heap ∨ va_Z "jdk/internal/util/Preconditions" "SIOOBE_FORMATTER" "Ljava/util/function/BiFunction;" (.ref tF) (fun q => s.heap.size ≤ q) s s.heap := by
    rcases hF with h | ⟨tF, h⟩
    · exact ⟨0, Or.inl h⟩
    · exact ⟨tF, Or.inr h⟩
  refine ⟨fun k => if k = -2 then a else if k = -3 then b else if k = -4 then t else tF, rfl, hN, hO, ⟨Int.natCast_nonneg L, fun j => in32_toInt _, ?_⟩, ?_⟩
  · show va_T .int b ((L : Int)).toNat _ _ s s.heap
    rw [Int.toNat_natCast]
    exact hSc
  · exact ⟨hR, ⟨cA, q3, q5, by rw [q6]; exact q2, hA a (Array.getElem?_eq_some_iff.mp q3).1⟩, vk_OFof q1 (va_eqt hco) hA, vk_OFof q1 ht hA, hT, hZ, hF2⟩
theorem K_start {s : State} {args : Array Value} (hts : ∀ w ∈ lw_tbl, w.before args s = true) : ∃ D : va_G, va_K D kCl [] s := by

  obtain ⟨c0, i0, h0⟩ := u_known hts (fun w hw => mem_tbl (inT0X0 w hw)) (hts _ (mem_tbl kin_X0))
  obtain ⟨c1, i1, h1⟩ := u_known hts (fun w hw => mem_tbl (inT0X1 w hw)) (hts _ (mem_tbl kin_X1))
  obtain ⟨c2, i2, h2⟩ := u_known hts (fun w hw => mem_tbl (inT0X2 w hw)) (hts _ (mem_tbl kin_X2))
  obtain ⟨c3, i3, h3⟩ := u_known hts (fun w hw => mem_tbl (inT0X3 w hw)) (hts _ (mem_tbl kin_X3))
  obtain ⟨c4, i4, h4⟩ := u_known hts (fun w hw => mem_tbl (inT0X4 w hw)) (hts _ (mem_tbl kin_X4))
  obtain ⟨c5, i5, h5⟩ := u_known hts (fun w hw => mem_tbl (inT0X5 w hw)) (hts _ (mem_tbl kin_X5))
  obtain ⟨c6, i6, h6⟩ := u_known hts (fun w hw => mem_tbl (inT0X6 w hw)) (hts _ (mem_tbl kin_X6))
  obtain ⟨c7, i7, h7⟩ := u_known hts (fun w hw => mem_tbl (inT0X7 w hw)) (hts _ (mem_tbl kin_X7))
  obtain ⟨c8, i8, h8⟩ := u_known hts (fun w hw => mem_tbl (inT0X8 w hw)) (hts _ (mem_tbl kin_X8))
  obtain ⟨c9, i9, h9⟩ := u_known hts (fun w hw => mem_tbl (inT0X9 w hw)) (hts _ (mem_tbl kin_X9))
  obtain ⟨c10, i10, h10⟩ := u_known hts (fun w hw => mem_tbl (inT0X10 w hw)) (hts _ (mem_tbl kin_X10))
  obtain ⟨c11, i11, h11⟩ := u_known hts (fun w hw => mem_tbl (inT0X11 w hw)) (hts _ (mem_tbl kin_X11))
  refine ⟨(fun k => match k with | 0 => c0 | 1 => c1 | 2 => c2 | 3 => c3 | 4 => c4 | 5 => c5 | 6 => c6 | 7 => c7 | 8 => c8 | 9 => c9 | 10 => c10 | _ => c11, fun k => match k with | 0 => i0 | 1 => i1 | 2 => i2 | 3 => i3 | 4 => i4 | 5 => i5 | 6 => i6 | 7 => i7 | 8 => i8 | 9 => i9 | 10 => i10 | _ => i11), fun c q hq => ?_, fun k q hk => (by simp at hk)⟩
  match c, q, hq with
  | 0, q, h => cases h; exact h0
  | 1, q, h => cases h; exact h1
  | 2, q, h => cases h; exact h2
  | 3, q, h => cases h; exact h3
  | 4, q, h => cases h; exact h4
  | 5, q, h => cases h; exact h5
  | 6, q, h => cases h; exact h6
  | 7, q, h => cases h; exact h7
  | 8, q, h => cases h; exact h8
  | 9, q, h => cases h; exact h9
  | 10, q, h => cases h; exact h10
  | 11, q, h => cases h; exact h11
  | c + 12, q, h => exact absurd h (by simp [kCl])
/-- what is wanted of the loop: every script brings it to its end with 1 -/
def LoopOK : Prop := ∀ sc : Int × (Int → Int), 0 ≤ sc.1 → sc.1 ≤ 3072 → K_L_law_18 (1000 + 5) 4000 300000 0 (Sn 108 p_108 sc) (apU u_200 C0z) (fun x _ _ => x = 1)
theorem start_open (hloop : LoopOK) {p : Program} {e : Env} {s : State} {m : MethodId} {below : List Frame} {meth : Method} {c : Code} (l : Launch) {b L : Nat} {xs : Nat → Int32} (hL : L ≤ 3072) (C0 : lw_At p s m meth c b L xs) : W p l e room_1 s m #[Value.ref b] below meth c s.heap [] 0 0 (lw_Z below #[Value.ref b] s) (entryFrame m ([Value.ref b] : List Value).toArray 4) := by
  obtain ⟨hx, hb, hr, hml, hown, hts, hX, hbl, hlk, hgv, hnm⟩ := C0
  obtain ⟨ad, had, hEx⟩ := ex_start hts hX hbl hgv
  obtain ⟨D, hK⟩ := K_start hts
  have hq := hloop ((L : Int), fun j => (xs j.toNat).toInt) (Int.natCast_nonneg L) (by show (L : Int) ≤ 3072; omega)
  have hW := law_wp hq
  have hent := lv_entry ([.ref b] : List Value) (n := 4) (Nat.le_of_ble_eq_true rfl)
  rw [lg_entry_eq]
  refine hW p l e s m #[Value.ref b] below meth c room_1 D (fun q => s.heap.size ≤ q) 0 ad _ (lw_Z below #[Value.ref b] s) ad (fun _ => 0) [] s.heap [] 0 0 _ ⟨⟨hx, hb, hml, hown, fun w hw => hts w (mem_tbl hw), hr, hlk, hnm⟩, ⟨by decide, by decide, by decide, by decide⟩, ⟨⟨Int.le_refl _, rfl⟩, fun _ _ => rfl⟩, ?_, ⟨?_, ?_⟩, fun v hv => (by cases hv), ?_⟩
  · refine ⟨hK, fun k q h => (by simp [eW, Sn] at h), ⟨fun i j p q h => (by simp [eW, Sn] at h), fun k q h => (by simp [eW, Sn] at h)⟩, va_S.rf, fun a h0 h1 => absurd h1 (by show ¬ a < 0; omega), ⟨Int.le_refl _, fun a j => ?_, fun a j => ?_, fun a => ?_⟩, fun q h => h, hEx⟩
    · have e1 : (Sn 0 p_0 ((L : Int), fun j => (xs j.toNat).toInt)).2.1 a = 0 := if_neg (by omega)
      rw [e1, if_neg (by decide)]
      exact in32_0
    · show -1 ≤ (-1 : Int) ∧ (-1 : Int) < 0
      decide
    · have e1 : (Sn 0 p_0 ((L : Int), fun j => (xs j.toNat).toInt)).2.2.1 a = 0 := if_neg (by omega)
      rw [e1]
      decide
  · refine ⟨hent.1, hent.2.1, fun q hq => hent.2.2 q ?_⟩
    have e1 : lP ad 0 [cA (-3), cU, cU, cU] = [(0, .ref b)] := by
      show [(0, eV ad (cA (-3)))] = _
      rw [show eV ad (cA (-3)) = .ref (ad (-3)) from (if_neg (by decide) : (if (-3 : Int) = -1 then Value.null else .ref (ad (-3))) = .ref (ad (-3))), had]
    rw [e1] at hq
    exact hq
  · intro v hv h3
    rcases List.mem_cons.mp hv with rfl | hv
    · exact ⟨by decide, by show (-3 : Int) < 0; decide⟩
    · have : v = cU := by simp at hv; exact hv
      rw [this] at h3
      exact absurd h3 (by decide)
  · intro ad' cls' tys' H' locs' cells' slots' pc' jls' st' x S' C' hq2 hR' hn hag hce hsl hRt
    have hq2 : x = 1 := hq2
    subst hq2
    obtain ⟨h1, h2, h3, h4, h5⟩ := hRt
    rw [h1]
    refine va_forget (fun q hq => hR'.2.2.2.1.2.2 q hq) (W.widen (k := 600000) (n := 7302249) hce hsl ?_)
    exact lw_ret hx hb hr hlk (h3 rfl).1
