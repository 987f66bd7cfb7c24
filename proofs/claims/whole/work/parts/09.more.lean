/-! 09.more: rules with the facts -/
theorem wp_ls {d mc ms : Nat} {M : MD} {pc : Nat} {ls st : List MV} {S : MS} {C : MC} {Q : Int → MS → MC → Prop} {ls2 : List MV} (h : ls = ls2) (k : Wp d mc ms M pc ls2 st S C Q) : Wp d mc ms M pc ls st S C Q := h ▸ k
theorem wp_getAe {d mc ms : Nat} {M : MD} {pc nx : Nat} {ls st : List MV} {S : MS} {C : MC} {Q : Int → MS → MC → Prop} {ci kk idx : Nat} {Cn : String} {T : u_T} {N : Nat} {ty : Nat → FieldType} {a r : Int} (hcl : Cls ci Cn T N ty) (hd : decode M.2.1 pc = .ok (.getfield idx, 3)) (hx : pc + 3 = nx) (hlk : Cond.fieldLink M.1.cls idx (T kk).1 (T kk).2.1 (T kk).2.2.1 ∈ T0) (hk : kk < N) (hb : 0 ≤ a ∧ a < S.1) (ht : S.2.1 a = ci) (hkd : kd (ty kk) = 2) (hp : S.2.2.2.1 a (kk : Int) = r) (k : Wp d mc ms M nx ls (cA r :: st) S C Q) : Wp d mc ms M pc ls (cA a :: st) S C Q := wp_getA hcl hd hx hlk hk hb ht hkd (hp ▸ k)
theorem wp_getIe {d mc ms : Nat} {M : MD} {pc nx : Nat} {ls st : List MV} {S : MS} {C : MC} {Q : Int → MS → MC → Prop} {ci kk idx : Nat} {Cn : String} {T : u_T} {N : Nat} {ty : Nat → FieldType} {a v : Int} (ki : Int) (hcl : Cls ci Cn T N ty) (hd : decode M.2.1 pc = .ok (.getfield idx, 3)) (hx : pc + 3 = nx) (hlk : Cond.fieldLink M.1.cls idx (T kk).1 (T kk).2.1 (T kk).2.2.1 ∈ T0) (hk : kk < N) (hb : 0 ≤ a ∧ a < S.1) (ht : S.2.1 a = ci) (hkd : kd (ty kk) = 0) (hki : (kk : Int) = ki) (hv : C a ki = v) (k : Wp d mc ms M nx ls (cI v :: st) S C Q) : Wp d mc ms M pc ls (cA a :: st) S C Q := wp_getI hcl hd hx hlk hk hb ht hkd (by rw [hki, hv]; exact k)
theorem wp_putIe {d mc ms : Nat} {M : MD} {pc nx : Nat} {ls st : List MV} {S : MS} {C : MC} {Q : Int → MS → MC → Prop} {ci kk idx : Nat} {Cn : String} {T : u_T} {N : Nat} {ty : Nat → FieldType} {a v : Int} (ki : Int) (hcl : Cls ci Cn T N ty) (hd : decode M.2.1 pc = .ok (.putfield idx, 3)) (hx : pc + 3 = nx) (hlk : Cond.fieldLink M.1.cls idx (T kk).1 (T kk).2.1 (T kk).2.2.1 ∈ T0) (hk : kk < N) (hb : 0 ≤ a ∧ a < S.1) (ht : S.2.1 a = ci) (hkd : kd (ty kk) = 0) (hf : (T kk).2.2.2 = false) (hn : narrow (ty kk) (.int (Int32.ofInt v)) = .int (Int32.ofInt v) ∧ fits (ty kk) (.int (Int32.ofInt v)) = true) (hki : (kk : Int) = ki) (k : Wp d mc ms M nx ls st S (upC C a ki v) Q) : Wp d mc ms M pc ls (cI v :: cA a :: st) S C Q := wp_putI hcl hd hx hlk hk hb ht hkd hf hn (by rw [hki]; exact k)
theorem upC_sA {C : MC} {a k v b j : Int} (h : b ≠ a) : upC C a k v b j = C b j := by rw [upC_ne h]
theorem upC_sK {C : MC} {a k v b j : Int} (h : j ≠ k) : upC C a k v b j = C b j := by rw [upC_get, if_neg (fun z => h z.2)]
theorem upC_h {C : MC} {a k v : Int} : upC C a k v a k = v := upC_at C a k v
theorem wp_aaloadE {d mc ms : Nat} {M : MD} {pc nx : Nat} {ls st : List MV} {S : MS} {C : MC} {Q : Int → MS → MC → Prop} {a i n r : Int} {t : Nat} (hd : decode M.2.1 pc = .ok (.aaload, 1)) (hx : pc + 1 = nx) (hb : 0 ≤ a ∧ a < S.1) (hl : S.2.2.1 a = n) (hi : 0 ≤ i ∧ i < n) (ht : S.2.1 a = t) (h24 : 24 ≤ t) (hr : S.2.2.2.1 a i = r) (k : Wp d mc ms M nx ls (cA r :: st) S C Q) : Wp d mc ms M pc ls (cI i :: cA a :: st) S C Q := wp_aaload hd hx hb (hl ▸ hi) ht h24 (hr ▸ k)
theorem wp_aastoreG {d mc ms : Nat} {M : MD} {pc nx : Nat} {ls st : List MV} {S : MS} {C : MC} {Q : Int → MS → MC → Prop} {a i n v : Int} {ci t : Nat} {Cn : String} {T : u_T} {N : Nat} {ty : Nat → FieldType} (hcl : Cls ci Cn T N ty) (hd : decode M.2.1 pc = .ok (.aastore, 1)) (hx : pc + 1 = nx) (hb : 0 ≤ a ∧ a < S.1) (hl : S.2.2.1 a = n) (hi : 0 ≤ i ∧ i < n) (ht : S.2.1 a = t) (ht2 : t = 24 + ci) (hty : aTy t = .object Cn) (hv : v = -1 ∨ ((0 ≤ v ∧ v < S.1) ∧ S.2.1 v = ci)) (k : Wp d mc ms M nx ls st (upP S a i v) C Q) : Wp d mc ms M pc ls (cA v :: cI i :: cA a :: st) S C Q := by
  rcases hv with e | ⟨h1, h2⟩
  · subst e
    exact wp_aastoreN hd hx hb (hl ▸ hi) ht (by omega) hty k
  · exact wp_aastore hcl hd hx hb (hl ▸ hi) ht ht2 hty h1 h2 k
theorem img_p {S : MS} (F : Fix S) {i : Int} (h : 0 ≤ i ∧ i < 2) : S.2.2.2.1 25 i = 65 + 8 * i := by
  rcases (show i = 0 ∨ i = 1 by omega) with rfl | rfl
  · exact fp_25_0 F
  · exact fp_25_1 F
theorem img_s {i : Int} (h : 0 ≤ i ∧ i < 2) : isSt (65 + 8 * i) := by
  rcases (show i = 0 ∨ i = 1 by omega) with rfl | rfl
  · exact Or.inr (Or.inr (Or.inr (Or.inl rfl)))
  · exact Or.inr (Or.inr (Or.inr (Or.inr rfl)))
theorem wp_alenE {d mc ms : Nat} {M : MD} {pc nx : Nat} {ls st : List MV} {S : MS} {C : MC} {Q : Int → MS → MC → Prop} {a n : Int} (hd : decode M.2.1 pc = .ok (.arraylength, 1)) (hx : pc + 1 = nx) (hb : 0 ≤ a ∧ a < S.1) (hl : S.2.2.1 a = n) (ht : 20 ≤ S.2.1 a) (k : Wp d mc ms M nx ls (cI n :: st) S C Q) : Wp d mc ms M pc ls (cA a :: st) S C Q := wp_alen hd hx hb ht (hl ▸ k)
theorem wp_copyE {d mc ms : Nat} {M : MD} {pc nx : Nat} {ls : List MV} {S : MS} {C : MC} {Q : Int → MS → MC → Prop} {idx : Nat} {a b sp dp n la lb : Int} (hd : decode M.2.1 pc = .ok (.invokestatic idx, 3)) (hx : pc + 3 = nx) (h1 : Cond.methodLink M.1.cls idx arraycopyName ∈ T0) (ha : 0 ≤ a ∧ a < S.1) (hb : 0 ≤ b ∧ b < S.1) (hta : S.2.1 a = 20) (htb : S.2.1 b = 20) (hla : S.2.2.1 a = la) (hlb : S.2.2.1 b = lb) (hs : (0 ≤ sp ∧ 0 ≤ dp ∧ 0 ≤ n) ∧ sp + n ≤ la ∧ dp + n ≤ lb) (k : Wp (d + 1) mc ms M nx ls [] S (cpC C a sp b dp n) Q) : Wp (d + 1) mc ms M pc ls [cI n, cI dp, cA b, cI sp, cA a] S C Q :=
  wp_copyI hd hx h1 knat ks_arraycopy kz_J10 ha hb hta htb hs.1 (hla ▸ hs.2.1) (hlb ▸ hs.2.2) rfl k
theorem wp_ialoadE {d mc ms : Nat} {M : MD} {pc nx : Nat} {ls st : List MV} {S : MS} {C : MC} {Q : Int → MS → MC → Prop} {a i n v : Int} (hd : decode M.2.1 pc = .ok (.iaload, 1)) (hx : pc + 1 = nx) (hb : 0 ≤ a ∧ a < S.1) (hl : S.2.2.1 a = n) (hi : 0 ≤ i ∧ i < n) (ht : S.2.1 a = 20) (hv : C a i = v) (k : Wp d mc ms M nx ls (cI v :: st) S C Q) : Wp d mc ms M pc ls (cI i :: cA a :: st) S C Q := wp_iaload hd hx hb (hl ▸ hi) ht (hv ▸ k)
theorem wp_baloadE {d mc ms : Nat} {M : MD} {pc nx : Nat} {ls st : List MV} {S : MS} {C : MC} {Q : Int → MS → MC → Prop} {a i n v : Int} (hd : decode M.2.1 pc = .ok (.baload, 1)) (hx : pc + 1 = nx) (hb : 0 ≤ a ∧ a < S.1) (hl : S.2.2.1 a = n) (hi : 0 ≤ i ∧ i < n) (ht : S.2.1 a = 22) (hv : C a i = v) (k : Wp d mc ms M nx ls (cI v :: st) S C Q) : Wp d mc ms M pc ls (cI i :: cA a :: st) S C Q := wp_baload hd hx hb (hl ▸ hi) ht (hv ▸ k)
theorem wp_zaloadE {d mc ms : Nat} {M : MD} {pc nx : Nat} {ls st : List MV} {S : MS} {C : MC} {Q : Int → MS → MC → Prop} {a i n v : Int} (hd : decode M.2.1 pc = .ok (.baload, 1)) (hx : pc + 1 = nx) (hb : 0 ≤ a ∧ a < S.1) (hl : S.2.2.1 a = n) (hi : 0 ≤ i ∧ i < n) (ht : S.2.1 a = 23) (hv : C a i = v) (k : Wp d mc ms M nx ls (cI v :: st) S C Q) : Wp d mc ms M pc ls (cI i :: cA a :: st) S C Q := wp_zaload hd hx hb (hl ▸ hi) ht (hv ▸ k)
theorem wp_laloadE {d mc ms : Nat} {M : MD} {pc nx : Nat} {ls st : List MV} {S : MS} {C : MC} {Q : Int → MS → MC → Prop} {a i n v : Int} (hd : decode M.2.1 pc = .ok (.laload, 1)) (hx : pc + 1 = nx) (hb : 0 ≤ a ∧ a < S.1) (hl : S.2.2.1 a = n) (hi : 0 ≤ i ∧ i < n) (ht : S.2.1 a = 21) (hv : C a i = v) (k : Wp d mc ms M nx ls (cJ v :: st) S C Q) : Wp d mc ms M pc ls (cI i :: cA a :: st) S C Q := wp_laload hd hx hb (hl ▸ hi) ht (hv ▸ k)
theorem wp_iastoreE {d mc ms : Nat} {M : MD} {pc nx : Nat} {ls st : List MV} {S : MS} {C : MC} {Q : Int → MS → MC → Prop} {a i n v : Int} (hd : decode M.2.1 pc = .ok (.iastore, 1)) (hx : pc + 1 = nx) (hb : 0 ≤ a ∧ a < S.1) (hl : S.2.2.1 a = n) (hi : 0 ≤ i ∧ i < n) (ht : S.2.1 a = 20) (k : Wp d mc ms M nx ls st S (upC C a i v) Q) : Wp d mc ms M pc ls (cI v :: cI i :: cA a :: st) S C Q := wp_iastore hd hx hb (hl ▸ hi) ht k
theorem wp_bastoreE {d mc ms : Nat} {M : MD} {pc nx : Nat} {ls st : List MV} {S : MS} {C : MC} {Q : Int → MS → MC → Prop} {a i n v : Int} (hd : decode M.2.1 pc = .ok (.bastore, 1)) (hx : pc + 1 = nx) (hb : 0 ≤ a ∧ a < S.1) (hl : S.2.2.1 a = n) (hi : 0 ≤ i ∧ i < n) (ht : S.2.1 a = 22) (k : Wp d mc ms M nx ls st S (upC C a i (nB v)) Q) : Wp d mc ms M pc ls (cI v :: cI i :: cA a :: st) S C Q := wp_bastore hd hx hb (hl ▸ hi) ht k
theorem wp_zastoreE {d mc ms : Nat} {M : MD} {pc nx : Nat} {ls st : List MV} {S : MS} {C : MC} {Q : Int → MS → MC → Prop} {a i n v : Int} (hd : decode M.2.1 pc = .ok (.bastore, 1)) (hx : pc + 1 = nx) (hb : 0 ≤ a ∧ a < S.1) (hl : S.2.2.1 a = n) (hi : 0 ≤ i ∧ i < n) (ht : S.2.1 a = 23) (k : Wp d mc ms M nx ls st S (upC C a i (nZ v)) Q) : Wp d mc ms M pc ls (cI v :: cI i :: cA a :: st) S C Q := wp_zastore hd hx hb (hl ▸ hi) ht k
theorem wp_lastoreE {d mc ms : Nat} {M : MD} {pc nx : Nat} {ls st : List MV} {S : MS} {C : MC} {Q : Int → MS → MC → Prop} {a i n v : Int} (hd : decode M.2.1 pc = .ok (.lastore, 1)) (hx : pc + 1 = nx) (hb : 0 ≤ a ∧ a < S.1) (hl : S.2.2.1 a = n) (hi : 0 ≤ i ∧ i < n) (ht : S.2.1 a = 21) (k : Wp d mc ms M nx ls st S (upC C a i v) Q) : Wp d mc ms M pc ls (cJ v :: cI i :: cA a :: st) S C Q := wp_lastore hd hx hb (hl ▸ hi) ht k
def fgL : List Bool → List MV → List MV
  | b :: m, v :: r => (if b = true then v else (9, 0)) :: fgL m r
  | _, _ => []
theorem fgL_sub {ad : Int → Nat} {q : Nat × Value} : ∀ (m : List Bool) (ls : List MV) (i : Nat), q ∈ lP ad i (fgL m ls) → q ∈ lP ad i ls
  | [], ls, i, h => by cases ls <;> (simp [fgL, lP] at h)
  | b :: m, [], i, h => by simp [fgL, lP] at h
  | b :: m, v :: r, i, h => by
    unfold fgL at h
    have up : q ∈ lP ad (i + 1) (fgL m r) → q ∈ lP ad i (v :: r) := by
      intro h
      have h2 := fgL_sub m r (i + 1) h
      unfold lP
      split
      · exact List.mem_cons_of_mem _ h2
      · exact h2
    cases b with
    | false =>
      rw [if_neg (show ¬ (false = true) by decide)] at h
      unfold lP at h
      rw [if_neg (show ¬ ((9 : Nat) < 3) by decide)] at h
      exact up h
    | true =>
      rw [if_pos rfl] at h
      unfold lP at h
      by_cases h3 : v.1 < 3
      · rw [if_pos h3] at h
        rcases List.mem_cons.mp h with h | h
        · unfold lP
          rw [if_pos h3, h]
          exact List.mem_cons_self
        · exact up h
      · rw [if_neg h3] at h
        exact up h
theorem fgL_ok {n : Int} : ∀ (m : List Bool) (ls : List MV), (∀ u ∈ ls, u.1 < 3 → okV n u) → ∀ u ∈ fgL m ls, u.1 < 3 → okV n u
  | [], ls, _, u, hu => by cases ls <;> cases hu
  | b :: m, [], _, u, hu => by cases hu
  | b :: m, v :: r, h, u, hu => by
    unfold fgL at hu
    rcases List.mem_cons.mp hu with e | hu
    · rw [e]
      cases b with
      | false => rw [if_neg (show ¬ (false = true) by decide)]; intro z; exact absurd z (by decide)
      | true => exact h v List.mem_cons_self
    · exact fgL_ok m r (fun x hx => h x (List.mem_cons_of_mem _ hx)) u hu
/-- locals that are not looked at any more -/
theorem wp_fg {d mc ms : Nat} {M : MD} {pc : Nat} {ls st ls2 : List MV} {S : MS} {C : MC} {Q : Int → MS → MC → Prop} (m : List Bool) (h : fgL m ls = ls2) (k : Wp d mc ms M pc ls2 st S C Q) : Wp d mc ms M pc ls st S C Q := by
  intro p l e s mm args below meth c R D A n0 ad0 sc0 QQ ad cls tys H locs cells slots jls G
  obtain ⟨hc, hr, ha, hR, hL, hst, hE⟩ := G
  subst h
  exact k p l e s mm args below meth c R D A n0 ad0 sc0 QQ ad cls tys H locs cells slots jls ⟨hc, hr, ha, hR, ⟨⟨hL.1.1, hL.1.2.1, fun q hq => hL.1.2.2 q (fgL_sub m ls 0 hq)⟩, fgL_ok m ls hL.2⟩, hst, hE⟩
theorem nz_of {x : Int} (h : x = 0 ∨ x = 1) : narrow .boolean (.int (Int32.ofInt x)) = .int (Int32.ofInt x) := by rcases h with rfl | rfl <;> decide
theorem fz_of {x : Int} (h : x = 0 ∨ x = 1) : narrow .boolean (.int (Int32.ofInt x)) = .int (Int32.ofInt x) ∧ fits .boolean (.int (Int32.ofInt x)) = true := by rcases h with rfl | rfl <;> exact ⟨by decide, by decide⟩
theorem i32 {n : Int} (h : -2147483648 ≤ n ∧ n < 2147483648) : in32 n := h
theorem i64 {n : Int} (h : -9223372036854775808 ≤ n ∧ n < 9223372036854775808) : in64 n := h
theorem k1I (x : Int) : (cI x).1 ≠ 1 := by show (0 : Nat) ≠ 1; decide
theorem k1A (x : Int) : (cA x).1 ≠ 1 := by show (2 : Nat) ≠ 1; decide
theorem leB {a b : Nat} (h : Nat.ble a b = true) : a ≤ b := Nat.le_of_ble_eq_true h
theorem fix_of {S S' : MS} (F : Fix S) (h1 : S'.1 = S.1) (h2 : S'.2.1 = S.2.1) (h3 : S'.2.2.1 = S.2.2.1) (h4 : ∀ a k, fxP a k ≠ -9 → S'.2.2.2.1 a k = S.2.2.2.1 a k) : Fix S' := by
  refine ⟨by rw [h1]; exact F.1, fun a x0 x1 => by rw [h2, h3]; exact F.2.1 a x0 x1, fun a k x0 x1 x2 x3 => ?_⟩
  rw [h4 a k x3]
  exact F.2.2 a k x0 x1 x2 x3
theorem fix_up {S : MS} (F : Fix S) {a k v : Int} (h : fxP a k = -9) : Fix (upP S a k v) := by
  refine fix_of F rfl rfl rfl (fun b j hb => ?_)
  show upC S.2.2.2.1 a k v b j = _
  rw [upC_get, if_neg]
  rintro ⟨rfl, rfl⟩
  exact hb h
theorem fix_street {S : MS} (F : Fix S) {v : Int} : Fix (upP S 44 8 v) := fix_up F (by decide)
theorem fix_laws {S : MS} (F : Fix S) {a i v : Int} (h : isSt a) : Fix (upP S (a + 6) i v) := by
  refine fix_up F ?_
  rcases h with rfl | rfl | rfl | rfl | rfl <;> rfl
theorem z0 (n : Nat) : 0 + n ≤ n := Nat.le_of_eq (Nat.zero_add n)
theorem in64_lit : True := trivial
theorem kmc_mmaxI : Cond.code Lib.Math.max.name Lib.Math.max.code 2 (some .int) ∈ T0 := tb1 (List.mem_of_getElem? (i := 133) rfl) rfl
theorem wp_mmaxI {d mc ms : Nat} {M : MD} {pc nx : Nat} {ls st : List MV} {S : MS} {C : MC} {Q : Int → MS → MC → Prop} {idx : Nat} {x y : Int} (hd : decode M.2.1 pc = .ok (.invokestatic idx, 3)) (hx : pc + 3 = nx) (hlk : Cond.methodLink M.1.cls idx yJ9_max_7cf53 ∈ T0) (hsum : sumK st ≤ 8) (k : Wp (d + 1) mc ms M nx ls (cI (max x y) :: st) S C Q) : Wp (d + 1) mc ms M pc ls (cI y :: cI x :: st) S C Q := by
  intro p l e s m args below meth c R D A n0 ad0 sc0 QQ ad cls tys H locs cells slots jls G
  obtain ⟨hc, hr, ha, hR, hL, hst, hE⟩ := G
  subst hx
  have ho := List.forall_mem_cons.mp hst
  have ho2 := List.forall_mem_cons.mp ho.2
  have hy : in32 y := ho.1
  have hxx : in32 x := ho2.1
  have kk := k p l e s m args below meth c R D A n0 ad0 sc0 QQ ad cls tys H locs cells slots jls ⟨hc, hr, ha, hR, hL, List.forall_mem_cons.mpr ⟨(by show in32 (max x y); unfold in32 at hy hxx ⊢; omega), ho2.2⟩, hE⟩
  refine va_mmax hc.1 hc.2.1 (hc.2.2.1.trans hL.1.1.symm) hc.2.2.2.1 (hc.2.2.2.2.1 _ hlk) (hc.2.2.2.2.1 _ ks_J9_max_7cf53) (hc.2.2.2.2.1 _ kz_J9) (hc.2.2.2.2.1 _ kmc_mmaxI) (by omega) (by rw [sumK_eq st ho2.2]; omega) (by omega) (by omega) hd ?_
  have e : (if Int32.ofInt x < Int32.ofInt y then Int32.ofInt y else Int32.ofInt x) = Int32.ofInt (max x y) := by
    by_cases z : x < y
    · rw [if_pos ((ofI_lt hxx hy).mpr z)]
      congr 1
      omega
    · rw [if_neg (fun q => z ((ofI_lt hxx hy).mp q))]
      congr 1
      omega
  rw [e]
  exact kk
theorem kmc_mminI : Cond.code Lib.Math.min.name Lib.Math.min.code 2 (some .int) ∈ T0 := tb3 (List.mem_of_getElem? (i := 68) rfl) rfl
theorem wp_mminI {d mc ms : Nat} {M : MD} {pc nx : Nat} {ls st : List MV} {S : MS} {C : MC} {Q : Int → MS → MC → Prop} {idx : Nat} {x y : Int} (hd : decode M.2.1 pc = .ok (.invokestatic idx, 3)) (hx : pc + 3 = nx) (hlk : Cond.methodLink M.1.cls idx yJ9_min_7cf53 ∈ T0) (hsum : sumK st ≤ 8) (k : Wp (d + 1) mc ms M nx ls (cI (min x y) :: st) S C Q) : Wp (d + 1) mc ms M pc ls (cI y :: cI x :: st) S C Q := by
  intro p l e s m args below meth c R D A n0 ad0 sc0 QQ ad cls tys H locs cells slots jls G
  obtain ⟨hc, hr, ha, hR, hL, hst, hE⟩ := G
  subst hx
  have ho := List.forall_mem_cons.mp hst
  have ho2 := List.forall_mem_cons.mp ho.2
  have hy : in32 y := ho.1
  have hxx : in32 x := ho2.1
  have kk := k p l e s m args below meth c R D A n0 ad0 sc0 QQ ad cls tys H locs cells slots jls ⟨hc, hr, ha, hR, hL, List.forall_mem_cons.mpr ⟨(by show in32 (min x y); unfold in32 at hy hxx ⊢; omega), ho2.2⟩, hE⟩
  refine va_mmin hc.1 hc.2.1 (hc.2.2.1.trans hL.1.1.symm) hc.2.2.2.1 (hc.2.2.2.2.1 _ hlk) (hc.2.2.2.2.1 _ ks_J9_min_7cf53) (hc.2.2.2.2.1 _ kz_J9) (hc.2.2.2.2.1 _ kmc_mminI) (by omega) (by rw [sumK_eq st ho2.2]; omega) (by omega) (by omega) hd ?_
  have e : (if Int32.ofInt y < Int32.ofInt x then Int32.ofInt y else Int32.ofInt x) = Int32.ofInt (min x y) := by
    by_cases z : y < x
    · rw [if_pos ((ofI_lt hy hxx).mpr z)]
      congr 1
      omega
    · rw [if_neg (fun q => z ((ofI_lt hy hxx).mp q))]
      congr 1
      omega
  rw [e]
  exact kk
theorem kmc_mmaxJ : Cond.code Lib.MathLoose.max_long.x Lib.MathLoose.max_long.code 4 (some .long) ∈ T0 := tb3 (List.mem_of_getElem? (i := 1) rfl) rfl
theorem wp_mmaxJ {d mc ms : Nat} {M : MD} {pc nx : Nat} {ls st : List MV} {S : MS} {C : MC} {Q : Int → MS → MC → Prop} {idx : Nat} {x y : Int} (hd : decode M.2.1 pc = .ok (.invokestatic idx, 3)) (hx : pc + 3 = nx) (hlk : Cond.methodLink M.1.cls idx yJ9_max_f86c9 ∈ T0) (hsum : sumK st ≤ 8) (k : Wp (d + 1) mc ms M nx ls (cJ (max x y) :: st) S C Q) : Wp (d + 1) mc ms M pc ls (cJ y :: cJ x :: st) S C Q := by
  intro p l e s m args below meth c R D A n0 ad0 sc0 QQ ad cls tys H locs cells slots jls G
  obtain ⟨hc, hr, ha, hR, hL, hst, hE⟩ := G
  subst hx
  have ho := List.forall_mem_cons.mp hst
  have ho2 := List.forall_mem_cons.mp ho.2
  have hy : in64 y := ho.1
  have hxx : in64 x := ho2.1
  have kk := k p l e s m args below meth c R D A n0 ad0 sc0 QQ ad cls tys H locs cells slots jls ⟨hc, hr, ha, hR, hL, List.forall_mem_cons.mpr ⟨(by show in64 (max x y); unfold in64 at hy hxx ⊢; omega), ho2.2⟩, hE⟩
  refine va_mmax_long hc.1 hc.2.1 (hc.2.2.1.trans hL.1.1.symm) hc.2.2.2.1 (hc.2.2.2.2.1 _ hlk) (hc.2.2.2.2.1 _ ks_J9_max_f86c9) (hc.2.2.2.2.1 _ kz_J9) (hc.2.2.2.2.1 _ kmc_mmaxJ) (by omega) (by rw [sumK_eq st ho2.2]; omega) (by omega) (by omega) hd ?_
  have e : (if Int64.ofInt y < Int64.ofInt x then Int64.ofInt x else Int64.ofInt y) = Int64.ofInt (max x y) := by
    by_cases z : y < x
    · rw [if_pos ((ofL_lt hy hxx).mpr z)]
      congr 1
      omega
    · rw [if_neg (fun q => z ((ofL_lt hy hxx).mp q))]
      congr 1
      omega
  rw [e]
  exact kk
theorem kmc_mminJ : Cond.code Lib.MathLoose.min_long.x Lib.MathLoose.min_long.code 4 (some .long) ∈ T0 := tb2 (List.mem_of_getElem? (i := 238) rfl) rfl
theorem wp_mminJ {d mc ms : Nat} {M : MD} {pc nx : Nat} {ls st : List MV} {S : MS} {C : MC} {Q : Int → MS → MC → Prop} {idx : Nat} {x y : Int} (hd : decode M.2.1 pc = .ok (.invokestatic idx, 3)) (hx : pc + 3 = nx) (hlk : Cond.methodLink M.1.cls idx yJ9_min_f86c9 ∈ T0) (hsum : sumK st ≤ 8) (k : Wp (d + 1) mc ms M nx ls (cJ (min x y) :: st) S C Q) : Wp (d + 1) mc ms M pc ls (cJ y :: cJ x :: st) S C Q := by
  intro p l e s m args below meth c R D A n0 ad0 sc0 QQ ad cls tys H locs cells slots jls G
  obtain ⟨hc, hr, ha, hR, hL, hst, hE⟩ := G
  subst hx
  have ho := List.forall_mem_cons.mp hst
  have ho2 := List.forall_mem_cons.mp ho.2
  have hy : in64 y := ho.1
  have hxx : in64 x := ho2.1
  have kk := k p l e s m args below meth c R D A n0 ad0 sc0 QQ ad cls tys H locs cells slots jls ⟨hc, hr, ha, hR, hL, List.forall_mem_cons.mpr ⟨(by show in64 (min x y); unfold in64 at hy hxx ⊢; omega), ho2.2⟩, hE⟩
  refine va_mmin_long hc.1 hc.2.1 (hc.2.2.1.trans hL.1.1.symm) hc.2.2.2.1 (hc.2.2.2.2.1 _ hlk) (hc.2.2.2.2.1 _ ks_J9_min_f86c9) (hc.2.2.2.2.1 _ kz_J9) (hc.2.2.2.2.1 _ kmc_mminJ) (by omega) (by rw [sumK_eq st ho2.2]; omega) (by omega) (by omega) hd ?_
  have e : (if Int64.ofInt y < Int64.ofInt x then Int64.ofInt y else Int64.ofInt x) = Int64.ofInt (min x y) := by
    by_cases z : y < x
    · rw [if_pos ((ofL_lt hy hxx).mpr z)]
      congr 1
      omega
    · rw [if_neg (fun q => z ((ofL_lt hy hxx).mp q))]
      congr 1
      omega
  rw [e]
  exact kk
