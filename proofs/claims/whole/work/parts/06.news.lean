/-! 06.news: new cells, arraycopy -/
def nwT (S : MS) (t : Nat) (n : Int) : MS := (S.1 + 1, (fun a => if a = S.1 then t else S.2.1 a), (fun a => if a = S.1 then n else S.2.2.1 a), (fun a k => if a = S.1 then -1 else S.2.2.2.1 a k), S.2.2.2.2)
def nwC (S : MS) (C : MC) : MC := fun a k => if a = S.1 then 0 else C a k
theorem kd_lt (ty : FieldType) : kd ty < 3 := by cases ty <;> simp [kd]
theorem eV_kd {ad ad' : Int → Nat} {ty : FieldType} {x : Int} (h : kd ty ≠ 2) : eV ad' (kd ty, x) = eV ad (kd ty, x) := by
  have h3 := kd_lt ty
  generalize kd ty = kk at h h3
  match kk, h, h3 with
  | 0, _, _ => rfl
  | 1, _, _ => rfl
  | 2, h, _ => exact absurd rfl h
theorem eC_nw {ad ad' : Int → Nat} {cls cls' : Nat → ClassId} {S : MS} {C : MC} {t : Nat} {n a : Int} (hW : wfS S C) (ha : a < S.1) (hag : ∀ k : Int, k < S.1 → ad' k = ad k) (hcl : 20 ≤ S.2.1 a → cls' (S.2.1 a) = cls (S.2.1 a)) : eC ad' cls' (nwT S t n) (nwC S C) a = eC ad cls S C a := by
  have e1 : (nwT S t n).2.1 a = S.2.1 a := if_neg (by omega)
  have e2 : (nwT S t n).2.2.1 a = S.2.2.1 a := if_neg (by omega)
  have e3 : ∀ k, (nwT S t n).2.2.2.1 a k = S.2.2.2.1 a k := fun k => if_neg (by omega)
  have e4 : ∀ k, nwC S C a k = C a k := fun k => if_neg (by omega)
  have e5 : ∀ k, ad' (S.2.2.2.1 a k) = ad (S.2.2.2.1 a k) := fun k => hag _ (hW.2.2.1 a k).2
  have e6 : ∀ k : Nat, eV ad' (fV (nwT S t n) (nwC S C) a k) = eV ad (fV S C a k) := by
    intro k
    have e7 : fV (nwT S t n) (nwC S C) a k = fV S C a k := by unfold fV; rw [e1, e3, e4]
    rw [e7]
    by_cases hk : kd (fT (S.2.1 a) k) = 2
    · have h2 : fV S C a k = (2, S.2.2.2.1 a k) := by unfold fV; rw [hk, if_pos rfl]
      rw [h2]
      show (if S.2.2.2.1 a k = -1 then Value.null else .ref (ad' (S.2.2.2.1 a k))) = (if S.2.2.2.1 a k = -1 then Value.null else .ref (ad (S.2.2.2.1 a k)))
      rw [e5]
    · have h2 : fV S C a k = (kd (fT (S.2.1 a) k), C a k) := by unfold fV; rw [if_neg hk]
      rw [h2]
      exact eV_kd hk
  unfold eC
  rw [e1]
  by_cases h20 : S.2.1 a < 20
  · rw [if_pos h20, if_pos h20]
    congr 3
    funext k
    exact e6 k
  · rw [if_neg h20, if_neg h20, hcl (by omega), e2]
    simp only [e3, e4, e5]
theorem eW_nw {ad ad' : Int → Nat} {cls cls' : Nat → ClassId} {S : MS} {C : MC} {t : Nat} {n : Int} (hW : wfS S C) (hag : ∀ k : Int, k < S.1 → ad' k = ad k) (hcl : ∀ a, 0 ≤ a → a < S.1 → 20 ≤ S.2.1 a → cls' (S.2.1 a) = cls (S.2.1 a)) : eW ad' cls' (nwT S t n) (nwC S C) = eW ad cls S C ++ [(ad' S.1, eC ad' cls' (nwT S t n) (nwC S C) S.1)] := by
  have h0 := hW.1
  unfold eW
  have e : (nwT S t n).1.toNat = S.1.toNat + 1 := by show (S.1 + 1).toNat = _; omega
  rw [e, List.range_succ, List.map_append]
  congr 1
  · apply List.map_congr_left
    intro k hk
    have hk' : (k : Int) < S.1 := by have := List.mem_range.mp hk; omega
    rw [hag _ hk', eC_nw hW hk' hag (hcl k (by omega) hk')]
  · simp only [List.map_cons, List.map_nil, Int.toNat_of_nonneg h0]
theorem wf_nw {S : MS} {C : MC} {t : Nat} {n : Int} (h : wfS S C) (hn : 0 ≤ n ∧ n < 2147483648) : wfS (nwT S t n) (nwC S C) := by
  have h0 := h.1
  refine ⟨by show 0 ≤ S.1 + 1; omega, fun a j => ?_, fun a j => ?_, fun a => ?_⟩
  · show if (if a = S.1 then t else S.2.1 a) = 21 then in64 (if a = S.1 then 0 else C a j) else in32 (if a = S.1 then 0 else C a j)
    by_cases ha : a = S.1
    · rw [if_pos ha, if_pos ha]
      split
      · exact in64_0
      · exact in32_0
    · rw [if_neg ha, if_neg ha]
      exact h.2.1 a j
  · show -1 ≤ (if a = S.1 then -1 else S.2.2.2.1 a j) ∧ (if a = S.1 then -1 else S.2.2.2.1 a j) < S.1 + 1
    have := h.2.2.1 a j
    split <;> omega
  · show 0 ≤ (if a = S.1 then n else S.2.2.1 a) ∧ (if a = S.1 then n else S.2.2.1 a) < 2147483648
    split
    · exact hn
    · exact h.2.2.2 a
theorem RA_uniq {U : State} {a b : ClassId} {ty : FieldType} (h1 : va_RA U a ty) (h2 : va_RA U b ty) : a = b := by
  cases ty with
  | object Cq =>
    obtain ⟨k1, c1, x1, x2, x3, x4⟩ := h1
    obtain ⟨k2, c2, y1, y2, y3, y4⟩ := h2
    exact Option.some.inj (x4.symm.trans y4)
  | _ => exact Option.some.inj (Eq.trans (Eq.symm h1) h2)
theorem tys_last {tys : List (ClassId × FieldType)} {x : ClassId × FieldType} : (tys ++ [x])[tys.length]? = some x := by simp
theorem tys_old {tys : List (ClassId × FieldType)} {x y : ClassId × FieldType} {t0 : Nat} (h : tys[t0]? = some y) : (tys ++ [x])[t0]? = some y := by
  rw [List.getElem?_append_left (List.getElem?_eq_some_iff.mp h).1]
  exact h
theorem wp_new {d mc ms tc ts : Nat} {M : MD} {pc nx : Nat} {ls st : List MV} {S : MS} {C : MC} {Q : Int → MS → MC → Prop} {ci idx : Nat} {Cn : String} {T : u_T} {N : Nat} {ty : Nat → FieldType} (hcl : Cls ci Cn T N ty) (hdf : ∀ j, j < N → defaultValue (ty j) = eV (fun _ => 0) (kd (ty j), if kd (ty j) = 2 then -1 else 0)) (hd : decode M.2.1 pc = .ok (.new idx, 3)) (hx : pc + 3 = nx) (hlk : Cond.classLink M.1.cls idx Cn ∈ T0) (hin : Cond.instantiable Cn N ∈ T0) (hini : Cond.initialized Cn ∈ T0) (hm1 : mc + 1 ≤ tc) (hm2 : ms + N ≤ ts)
    (k : Wp d mc ms M nx ls (cA S.1 :: st) (nwT S ci 0) (nwC S C) Q) : Wp d tc ts M pc ls st S C Q := by
  intro p l e s m args below meth c R D A n0 ad0 sc0 QQ ad cls tys H locs cells slots jls G
  obtain ⟨hc, hr, ha, hR, hL, hst, hE⟩ := G
  obtain ⟨rK, rP, rD, rS, rT, rW, rA, rE⟩ := hR
  subst hx
  obtain ⟨c1, c2, c3, c4, c5, c6, c7⟩ := hcl
  have h0 := rW.1
  have e0 : ∀ (a : Int → Nat) (j : Nat), j < N → eV a (fV (nwT S ci 0) (nwC S C) S.1 j) = defaultValue (ty j) := by
    intro a j hj
    have e1 : (nwT S ci 0).2.1 S.1 = ci := if_pos rfl
    have e2 : (nwT S ci 0).2.2.2.1 S.1 j = -1 := if_pos rfl
    have e3 : nwC S C S.1 j = 0 := if_pos rfl
    rw [hdf j hj]
    unfold fV
    rw [e1, e2, e3, c4]
    by_cases hk : kd (ty j) = 2
    · rw [if_pos hk, hk]; rfl
    · rw [if_neg hk]; exact eV_kd hk
  have hfs : ∀ j, j < N → defaultValue (ty j) = vp_V ((List.range N).map (fun j => eV ad (fV (nwT S ci 0) (nwC S C) S.1 j))) j := by
    intro j hj
    unfold vp_V
    rw [List.getD_eq_getElem?_getD, List.getElem?_map, List.getElem?_range hj]
    exact (e0 ad j hj).symm
  refine va_new hc.1 hc.2.1 hc.2.2.2.2.1 c5 ty c6 hc.2.2.2.1 (hc.2.2.2.2.1 _ hlk) (hc.2.2.2.2.1 _ hin) (hc.2.2.2.2.1 _ hini) rK rP rD rS rA c2 hfs (by omega) (by omega) hd (fun q H1 hP1 hD1 hS1 => ?_)
  obtain ⟨ad', hq, hag⟩ : ∃ ad' : Int → Nat, ad' S.1 = q ∧ ∀ k : Int, k < S.1 → ad' k = ad k := ⟨fun k => if k = S.1 then q else ad k, if_pos rfl, fun k hk => if_neg (by omega)⟩
  have hset : eW ad cls S C ++ [(q, .inr (ci, (List.range N).map (fun j => eV ad (fV (nwT S ci 0) (nwC S C) S.1 j))))] = eW ad' cls (nwT S ci 0) (nwC S C) := by
    have hm : (List.range N).map (fun j => eV ad (fV (nwT S ci 0) (nwC S C) S.1 j)) = (List.range N).map (fun j => eV ad' (fV (nwT S ci 0) (nwC S C) S.1 j)) := by
      apply List.map_congr_left
      intro j hj
      rw [e0 _ j (List.mem_range.mp hj), e0 _ j (List.mem_range.mp hj)]
    rw [eW_nw rW hag (fun _ _ _ _ => rfl), hq, eC_obj (ci := ci) (if_pos rfl) c1, c3, hm]
  have hP2 := hset ▸ hP1
  have hD2 := hset ▸ hD1
  have kk := k p l e s m args below meth c R D A n0 ad0 sc0 QQ ad' cls tys H1 locs (cells + 1) (slots + N) jls ⟨hc, ⟨hr.1, hr.2.1, by omega, by omega⟩, ⟨⟨by show n0 ≤ S.1 + 1; omega, ha.1.2⟩, fun k hk => (hag k (by omega)).trans (ha.2 k hk)⟩,
    ⟨rK, hP2, hD2, hS1, fun a ha0 ha1 ha2 => (by
      have ha1 : a < S.1 + 1 := ha1
      by_cases z : a = S.1
      · have e1 : (nwT S ci 0).2.1 a = ci := if_pos z
        omega
      · have e1 : (nwT S ci 0).2.1 a = S.2.1 a := if_neg z
        rw [e1] at ha2 ⊢
        exact rT a ha0 (by omega) ha2), wf_nw rW ⟨by decide, by decide⟩, rA, Ex_ag (fun k hk => hag k (by omega)) rE⟩,
    ⟨by rw [lP_ag ls 0 hL.2 hag]; exact hL.1, fun v hv hv3 => okV_mono (by show S.1 ≤ S.1 + 1; omega) (hL.2 v hv hv3)⟩,
    List.forall_mem_cons.mpr ⟨⟨by show (-6 : Int) < S.1; omega, by show S.1 < S.1 + 1; omega⟩, fun v hv => okV_mono (by show S.1 ≤ S.1 + 1; omega) (hst v hv)⟩, hE⟩
  rw [List.map_cons, map_ag hst hag, show eV ad' (cA S.1) = .ref q from (if_neg (by show ¬ S.1 = -1; omega)).trans (congrArg Value.ref hq)] at kk
  exact kk
theorem wp_newI {d mc ms tc ts : Nat} {M : MD} {pc nx : Nat} {ls st : List MV} {S : MS} {C : MC} {Q : Int → MS → MC → Prop}  {n : Int} (hd : decode M.2.1 pc = .ok (.newarray .int, 2)) (hx : pc + 2 = nx) (hlk : Cond.arrayClass (newarray.typeOf .int) ∈ T0) (h0n : 0 ≤ n) (hby : n.toNat * componentBytes (newarray.typeOf .int) ≤ 536870912) (hm1 : mc + 1 ≤ tc) (hm2 : ms + n.toNat ≤ ts)
    (k : Wp d mc ms M nx ls (cA S.1 :: st) (nwT S 20 n) (nwC S C) Q) : Wp d tc ts M pc ls (cI n :: st) S C Q := by
  intro p l e s m args below meth c R D A n0 ad0 sc0 QQ ad cls tys H locs cells slots jls G
  obtain ⟨hc, hr, ha, hR, hL, hst, hE⟩ := G
  obtain ⟨rK, rP, rD, rS, rT, rW, rA, rE⟩ := hR
  subst hx
  have ho := List.forall_mem_cons.mp hst
  have hnn : in32 n := ho.1
  have hn0 : ¬ n < 0 := by omega
  have h0 := rW.1
  refine va_newa hc.1 hc.2.1 (hc.2.2.2.2.1 _ hlk) (ty := newarray.typeOf .int) rfl rK rP rD rS rA (N' := n.toNat) (a0 := (n.toNat, .inl (fun _ => 0))) (fun qcA => rfl) (fun z => hn0 ((ofI_lt hnn in32_0).mp z)) (clampI hnn) hby (by omega) (by omega) hd (fun q qcA H1 hK1 hP1 hD1 hS1 => ?_)
  obtain ⟨ad', hq, hag⟩ : ∃ ad' : Int → Nat, ad' S.1 = q ∧ ∀ k : Int, k < S.1 → ad' k = ad k := ⟨fun k => if k = S.1 then q else ad k, if_pos rfl, fun k hk => if_neg (by omega)⟩
  have haty2 : aTy 20 = (newarray.typeOf .int) := rfl
  have hcA : ∀ a, 0 ≤ a → a < S.1 → S.2.1 a = 20 → cls 20 = qcA := by
    intro a x0 x1 x2
    obtain ⟨t0, ht0⟩ := rT a x0 x1 (by omega)
    rw [x2, haty2] at ht0
    exact RA_uniq (rK.2 t0 _ ht0).2 (hK1.2 _ _ tys_last).2
  obtain ⟨cls', hcT, hcl'⟩ : ∃ cls' : Nat → ClassId, cls' 20 = qcA ∧ ∀ a, 0 ≤ a → a < S.1 → 20 ≤ S.2.1 a → cls' (S.2.1 a) = cls (S.2.1 a) := by
    refine ⟨fun t => if t = 20 then qcA else cls t, if_pos rfl, fun a x0 x1 x2 => ?_⟩
    show (if S.2.1 a = 20 then qcA else cls (S.2.1 a)) = _
    by_cases z : S.2.1 a = 20
    · rw [if_pos z, z]
      exact (hcA a x0 x1 z).symm
    · exact if_neg z
  have hlen : (nwT S 20 n).2.2.1 S.1 = n := if_pos rfl
  have hset := eW_nw (ad := ad) (ad' := ad') (cls := cls) (cls' := cls') (t := 20) (n := n) rW hag hcl'
  rw [hq, eC_arr (t := 20) (if_pos rfl) (by decide) (by decide) (by decide), hlen, hcT] at hset
  have hz : (fun j : Nat => Int32.ofInt (nwC S C S.1 j)) = (fun _ => (0 : Int32)) := by
    funext j
    rw [show nwC S C S.1 j = 0 from if_pos rfl]
    rfl
  rw [hz] at hset
  have hP2 := hset ▸ hP1
  have hD2 := hset ▸ hD1
  have kk := k p l e s m args below meth c R D A n0 ad0 sc0 QQ ad' cls' (tys ++ [(qcA, (newarray.typeOf .int))]) H1 locs (cells + 1) (slots + n.toNat) jls ⟨hc, ⟨hr.1, hr.2.1, by omega, by omega⟩, ⟨⟨by show n0 ≤ S.1 + 1; omega, ha.1.2⟩, fun k hk => (hag k (by omega)).trans (ha.2 k hk)⟩,
    ⟨hK1, hP2, hD2, hS1, fun a ha0 ha1 ha2 => (by
      have ha1 : a < S.1 + 1 := ha1
      by_cases z : a = S.1
      · have e1 : (nwT S 20 n).2.1 a = 20 := if_pos z
        rw [e1, haty2, hcT]
        exact ⟨_, tys_last⟩
      · have e1 : (nwT S 20 n).2.1 a = S.2.1 a := if_neg z
        rw [e1] at ha2 ⊢
        obtain ⟨t0, ht0⟩ := rT a ha0 (by omega) ha2
        rw [hcl' a ha0 (by omega) ha2]
        exact ⟨t0, tys_old ht0⟩), wf_nw rW ⟨h0n, by unfold in32 at hnn; omega⟩, rA, Ex_ag (fun k hk => hag k (by omega)) rE⟩,
    ⟨by rw [lP_ag ls 0 hL.2 hag]; exact hL.1, fun v hv hv3 => okV_mono (by show S.1 ≤ S.1 + 1; omega) (hL.2 v hv hv3)⟩,
    List.forall_mem_cons.mpr ⟨⟨by show (-6 : Int) < S.1; omega, by show S.1 < S.1 + 1; omega⟩, fun v hv => okV_mono (by show S.1 ≤ S.1 + 1; omega) (ho.2 v hv)⟩, hE⟩
  rw [List.map_cons, map_ag ho.2 hag, show eV ad' ((2, S.1) : MV) = .ref q from (if_neg (by show ¬ S.1 = -1; omega)).trans (congrArg Value.ref hq)] at kk
  exact kk
theorem wp_newJ {d mc ms tc ts : Nat} {M : MD} {pc nx : Nat} {ls st : List MV} {S : MS} {C : MC} {Q : Int → MS → MC → Prop}  {n : Int} (hd : decode M.2.1 pc = .ok (.newarray .long, 2)) (hx : pc + 2 = nx) (hlk : Cond.arrayClass (newarray.typeOf .long) ∈ T0) (h0n : 0 ≤ n) (hby : n.toNat * componentBytes (newarray.typeOf .long) ≤ 536870912) (hm1 : mc + 1 ≤ tc) (hm2 : ms + n.toNat ≤ ts)
    (k : Wp d mc ms M nx ls (cA S.1 :: st) (nwT S 21 n) (nwC S C) Q) : Wp d tc ts M pc ls (cI n :: st) S C Q := by
  intro p l e s m args below meth c R D A n0 ad0 sc0 QQ ad cls tys H locs cells slots jls G
  obtain ⟨hc, hr, ha, hR, hL, hst, hE⟩ := G
  obtain ⟨rK, rP, rD, rS, rT, rW, rA, rE⟩ := hR
  subst hx
  have ho := List.forall_mem_cons.mp hst
  have hnn : in32 n := ho.1
  have hn0 : ¬ n < 0 := by omega
  have h0 := rW.1
  refine va_newa hc.1 hc.2.1 (hc.2.2.2.2.1 _ hlk) (ty := newarray.typeOf .long) rfl rK rP rD rS rA (N' := n.toNat) (a0 := (n.toNat, .inr (.inl (fun _ => 0)))) (fun qcA => rfl) (fun z => hn0 ((ofI_lt hnn in32_0).mp z)) (clampI hnn) hby (by omega) (by omega) hd (fun q qcA H1 hK1 hP1 hD1 hS1 => ?_)
  obtain ⟨ad', hq, hag⟩ : ∃ ad' : Int → Nat, ad' S.1 = q ∧ ∀ k : Int, k < S.1 → ad' k = ad k := ⟨fun k => if k = S.1 then q else ad k, if_pos rfl, fun k hk => if_neg (by omega)⟩
  have haty2 : aTy 21 = (newarray.typeOf .long) := rfl
  have hcA : ∀ a, 0 ≤ a → a < S.1 → S.2.1 a = 21 → cls 21 = qcA := by
    intro a x0 x1 x2
    obtain ⟨t0, ht0⟩ := rT a x0 x1 (by omega)
    rw [x2, haty2] at ht0
    exact RA_uniq (rK.2 t0 _ ht0).2 (hK1.2 _ _ tys_last).2
  obtain ⟨cls', hcT, hcl'⟩ : ∃ cls' : Nat → ClassId, cls' 21 = qcA ∧ ∀ a, 0 ≤ a → a < S.1 → 20 ≤ S.2.1 a → cls' (S.2.1 a) = cls (S.2.1 a) := by
    refine ⟨fun t => if t = 21 then qcA else cls t, if_pos rfl, fun a x0 x1 x2 => ?_⟩
    show (if S.2.1 a = 21 then qcA else cls (S.2.1 a)) = _
    by_cases z : S.2.1 a = 21
    · rw [if_pos z, z]
      exact (hcA a x0 x1 z).symm
    · exact if_neg z
  have hlen : (nwT S 21 n).2.2.1 S.1 = n := if_pos rfl
  have hset := eW_nw (ad := ad) (ad' := ad') (cls := cls) (cls' := cls') (t := 21) (n := n) rW hag hcl'
  rw [hq, eC_arrL (if_pos rfl), hlen, hcT] at hset
  have hz : (fun j : Nat => Int64.ofInt (nwC S C S.1 j)) = (fun _ => (0 : Int64)) := by
    funext j
    rw [show nwC S C S.1 j = 0 from if_pos rfl]
    rfl
  rw [hz] at hset
  have hP2 := hset ▸ hP1
  have hD2 := hset ▸ hD1
  have kk := k p l e s m args below meth c R D A n0 ad0 sc0 QQ ad' cls' (tys ++ [(qcA, (newarray.typeOf .long))]) H1 locs (cells + 1) (slots + n.toNat) jls ⟨hc, ⟨hr.1, hr.2.1, by omega, by omega⟩, ⟨⟨by show n0 ≤ S.1 + 1; omega, ha.1.2⟩, fun k hk => (hag k (by omega)).trans (ha.2 k hk)⟩,
    ⟨hK1, hP2, hD2, hS1, fun a ha0 ha1 ha2 => (by
      have ha1 : a < S.1 + 1 := ha1
      by_cases z : a = S.1
      · have e1 : (nwT S 21 n).2.1 a = 21 := if_pos z
        rw [e1, haty2, hcT]
        exact ⟨_, tys_last⟩
      · have e1 : (nwT S 21 n).2.1 a = S.2.1 a := if_neg z
        rw [e1] at ha2 ⊢
        obtain ⟨t0, ht0⟩ := rT a ha0 (by omega) ha2
        rw [hcl' a ha0 (by omega) ha2]
        exact ⟨t0, tys_old ht0⟩), wf_nw rW ⟨h0n, by unfold in32 at hnn; omega⟩, rA, Ex_ag (fun k hk => hag k (by omega)) rE⟩,
    ⟨by rw [lP_ag ls 0 hL.2 hag]; exact hL.1, fun v hv hv3 => okV_mono (by show S.1 ≤ S.1 + 1; omega) (hL.2 v hv hv3)⟩,
    List.forall_mem_cons.mpr ⟨⟨by show (-6 : Int) < S.1; omega, by show S.1 < S.1 + 1; omega⟩, fun v hv => okV_mono (by show S.1 ≤ S.1 + 1; omega) (ho.2 v hv)⟩, hE⟩
  rw [List.map_cons, map_ag ho.2 hag, show eV ad' ((2, S.1) : MV) = .ref q from (if_neg (by show ¬ S.1 = -1; omega)).trans (congrArg Value.ref hq)] at kk
  exact kk
theorem wp_newB {d mc ms tc ts : Nat} {M : MD} {pc nx : Nat} {ls st : List MV} {S : MS} {C : MC} {Q : Int → MS → MC → Prop}  {n : Int} (hd : decode M.2.1 pc = .ok (.newarray .byte, 2)) (hx : pc + 2 = nx) (hlk : Cond.arrayClass (newarray.typeOf .byte) ∈ T0) (h0n : 0 ≤ n) (hby : n.toNat * componentBytes (newarray.typeOf .byte) ≤ 536870912) (hm1 : mc + 1 ≤ tc) (hm2 : ms + n.toNat ≤ ts)
    (k : Wp d mc ms M nx ls (cA S.1 :: st) (nwT S 22 n) (nwC S C) Q) : Wp d tc ts M pc ls (cI n :: st) S C Q := by
  intro p l e s m args below meth c R D A n0 ad0 sc0 QQ ad cls tys H locs cells slots jls G
  obtain ⟨hc, hr, ha, hR, hL, hst, hE⟩ := G
  obtain ⟨rK, rP, rD, rS, rT, rW, rA, rE⟩ := hR
  subst hx
  have ho := List.forall_mem_cons.mp hst
  have hnn : in32 n := ho.1
  have hn0 : ¬ n < 0 := by omega
  have h0 := rW.1
  refine va_newa hc.1 hc.2.1 (hc.2.2.2.2.1 _ hlk) (ty := newarray.typeOf .byte) rfl rK rP rD rS rA (N' := n.toNat) (a0 := (n.toNat, .inl (fun _ => 0))) (fun qcA => rfl) (fun z => hn0 ((ofI_lt hnn in32_0).mp z)) (clampI hnn) hby (by omega) (by omega) hd (fun q qcA H1 hK1 hP1 hD1 hS1 => ?_)
  obtain ⟨ad', hq, hag⟩ : ∃ ad' : Int → Nat, ad' S.1 = q ∧ ∀ k : Int, k < S.1 → ad' k = ad k := ⟨fun k => if k = S.1 then q else ad k, if_pos rfl, fun k hk => if_neg (by omega)⟩
  have haty2 : aTy 22 = (newarray.typeOf .byte) := rfl
  have hcA : ∀ a, 0 ≤ a → a < S.1 → S.2.1 a = 22 → cls 22 = qcA := by
    intro a x0 x1 x2
    obtain ⟨t0, ht0⟩ := rT a x0 x1 (by omega)
    rw [x2, haty2] at ht0
    exact RA_uniq (rK.2 t0 _ ht0).2 (hK1.2 _ _ tys_last).2
  obtain ⟨cls', hcT, hcl'⟩ : ∃ cls' : Nat → ClassId, cls' 22 = qcA ∧ ∀ a, 0 ≤ a → a < S.1 → 20 ≤ S.2.1 a → cls' (S.2.1 a) = cls (S.2.1 a) := by
    refine ⟨fun t => if t = 22 then qcA else cls t, if_pos rfl, fun a x0 x1 x2 => ?_⟩
    show (if S.2.1 a = 22 then qcA else cls (S.2.1 a)) = _
    by_cases z : S.2.1 a = 22
    · rw [if_pos z, z]
      exact (hcA a x0 x1 z).symm
    · exact if_neg z
  have hlen : (nwT S 22 n).2.2.1 S.1 = n := if_pos rfl
  have hset := eW_nw (ad := ad) (ad' := ad') (cls := cls) (cls' := cls') (t := 22) (n := n) rW hag hcl'
  rw [hq, eC_arr (t := 22) (if_pos rfl) (by decide) (by decide) (by decide), hlen, hcT] at hset
  have hz : (fun j : Nat => Int32.ofInt (nwC S C S.1 j)) = (fun _ => (0 : Int32)) := by
    funext j
    rw [show nwC S C S.1 j = 0 from if_pos rfl]
    rfl
  rw [hz] at hset
  have hP2 := hset ▸ hP1
  have hD2 := hset ▸ hD1
  have kk := k p l e s m args below meth c R D A n0 ad0 sc0 QQ ad' cls' (tys ++ [(qcA, (newarray.typeOf .byte))]) H1 locs (cells + 1) (slots + n.toNat) jls ⟨hc, ⟨hr.1, hr.2.1, by omega, by omega⟩, ⟨⟨by show n0 ≤ S.1 + 1; omega, ha.1.2⟩, fun k hk => (hag k (by omega)).trans (ha.2 k hk)⟩,
    ⟨hK1, hP2, hD2, hS1, fun a ha0 ha1 ha2 => (by
      have ha1 : a < S.1 + 1 := ha1
      by_cases z : a = S.1
      · have e1 : (nwT S 22 n).2.1 a = 22 := if_pos z
        rw [e1, haty2, hcT]
        exact ⟨_, tys_last⟩
      · have e1 : (nwT S 22 n).2.1 a = S.2.1 a := if_neg z
        rw [e1] at ha2 ⊢
        obtain ⟨t0, ht0⟩ := rT a ha0 (by omega) ha2
        rw [hcl' a ha0 (by omega) ha2]
        exact ⟨t0, tys_old ht0⟩), wf_nw rW ⟨h0n, by unfold in32 at hnn; omega⟩, rA, Ex_ag (fun k hk => hag k (by omega)) rE⟩,
    ⟨by rw [lP_ag ls 0 hL.2 hag]; exact hL.1, fun v hv hv3 => okV_mono (by show S.1 ≤ S.1 + 1; omega) (hL.2 v hv hv3)⟩,
    List.forall_mem_cons.mpr ⟨⟨by show (-6 : Int) < S.1; omega, by show S.1 < S.1 + 1; omega⟩, fun v hv => okV_mono (by show S.1 ≤ S.1 + 1; omega) (ho.2 v hv)⟩, hE⟩
  rw [List.map_cons, map_ag ho.2 hag, show eV ad' ((2, S.1) : MV) = .ref q from (if_neg (by show ¬ S.1 = -1; omega)).trans (congrArg Value.ref hq)] at kk
  exact kk
theorem wp_newZ {d mc ms tc ts : Nat} {M : MD} {pc nx : Nat} {ls st : List MV} {S : MS} {C : MC} {Q : Int → MS → MC → Prop}  {n : Int} (hd : decode M.2.1 pc = .ok (.newarray .boolean, 2)) (hx : pc + 2 = nx) (hlk : Cond.arrayClass (newarray.typeOf .boolean) ∈ T0) (h0n : 0 ≤ n) (hby : n.toNat * componentBytes (newarray.typeOf .boolean) ≤ 536870912) (hm1 : mc + 1 ≤ tc) (hm2 : ms + n.toNat ≤ ts)
    (k : Wp d mc ms M nx ls (cA S.1 :: st) (nwT S 23 n) (nwC S C) Q) : Wp d tc ts M pc ls (cI n :: st) S C Q := by
  intro p l e s m args below meth c R D A n0 ad0 sc0 QQ ad cls tys H locs cells slots jls G
  obtain ⟨hc, hr, ha, hR, hL, hst, hE⟩ := G
  obtain ⟨rK, rP, rD, rS, rT, rW, rA, rE⟩ := hR
  subst hx
  have ho := List.forall_mem_cons.mp hst
  have hnn : in32 n := ho.1
  have hn0 : ¬ n < 0 := by omega
  have h0 := rW.1
  refine va_newa hc.1 hc.2.1 (hc.2.2.2.2.1 _ hlk) (ty := newarray.typeOf .boolean) rfl rK rP rD rS rA (N' := n.toNat) (a0 := (n.toNat, .inl (fun _ => 0))) (fun qcA => rfl) (fun z => hn0 ((ofI_lt hnn in32_0).mp z)) (clampI hnn) hby (by omega) (by omega) hd (fun q qcA H1 hK1 hP1 hD1 hS1 => ?_)
  obtain ⟨ad', hq, hag⟩ : ∃ ad' : Int → Nat, ad' S.1 = q ∧ ∀ k : Int, k < S.1 → ad' k = ad k := ⟨fun k => if k = S.1 then q else ad k, if_pos rfl, fun k hk => if_neg (by omega)⟩
  have haty2 : aTy 23 = (newarray.typeOf .boolean) := rfl
  have hcA : ∀ a, 0 ≤ a → a < S.1 → S.2.1 a = 23 → cls 23 = qcA := by
    intro a x0 x1 x2
    obtain ⟨t0, ht0⟩ := rT a x0 x1 (by omega)
    rw [x2, haty2] at ht0
    exact RA_uniq (rK.2 t0 _ ht0).2 (hK1.2 _ _ tys_last).2
  obtain ⟨cls', hcT, hcl'⟩ : ∃ cls' : Nat → ClassId, cls' 23 = qcA ∧ ∀ a, 0 ≤ a → a < S.1 → 20 ≤ S.2.1 a → cls' (S.2.1 a) = cls (S.2.1 a) := by
    refine ⟨fun t => if t = 23 then qcA else cls t, if_pos rfl, fun a x0 x1 x2 => ?_⟩
    show (if S.2.1 a = 23 then qcA else cls (S.2.1 a)) = _
    by_cases z : S.2.1 a = 23
    · rw [if_pos z, z]
      exact (hcA a x0 x1 z).symm
    · exact if_neg z
  have hlen : (nwT S 23 n).2.2.1 S.1 = n := if_pos rfl
  have hset := eW_nw (ad := ad) (ad' := ad') (cls := cls) (cls' := cls') (t := 23) (n := n) rW hag hcl'
  rw [hq, eC_arr (t := 23) (if_pos rfl) (by decide) (by decide) (by decide), hlen, hcT] at hset
  have hz : (fun j : Nat => Int32.ofInt (nwC S C S.1 j)) = (fun _ => (0 : Int32)) := by
    funext j
    rw [show nwC S C S.1 j = 0 from if_pos rfl]
    rfl
  rw [hz] at hset
  have hP2 := hset ▸ hP1
  have hD2 := hset ▸ hD1
  have kk := k p l e s m args below meth c R D A n0 ad0 sc0 QQ ad' cls' (tys ++ [(qcA, (newarray.typeOf .boolean))]) H1 locs (cells + 1) (slots + n.toNat) jls ⟨hc, ⟨hr.1, hr.2.1, by omega, by omega⟩, ⟨⟨by show n0 ≤ S.1 + 1; omega, ha.1.2⟩, fun k hk => (hag k (by omega)).trans (ha.2 k hk)⟩,
    ⟨hK1, hP2, hD2, hS1, fun a ha0 ha1 ha2 => (by
      have ha1 : a < S.1 + 1 := ha1
      by_cases z : a = S.1
      · have e1 : (nwT S 23 n).2.1 a = 23 := if_pos z
        rw [e1, haty2, hcT]
        exact ⟨_, tys_last⟩
      · have e1 : (nwT S 23 n).2.1 a = S.2.1 a := if_neg z
        rw [e1] at ha2 ⊢
        obtain ⟨t0, ht0⟩ := rT a ha0 (by omega) ha2
        rw [hcl' a ha0 (by omega) ha2]
        exact ⟨t0, tys_old ht0⟩), wf_nw rW ⟨h0n, by unfold in32 at hnn; omega⟩, rA, Ex_ag (fun k hk => hag k (by omega)) rE⟩,
    ⟨by rw [lP_ag ls 0 hL.2 hag]; exact hL.1, fun v hv hv3 => okV_mono (by show S.1 ≤ S.1 + 1; omega) (hL.2 v hv hv3)⟩,
    List.forall_mem_cons.mpr ⟨⟨by show (-6 : Int) < S.1; omega, by show S.1 < S.1 + 1; omega⟩, fun v hv => okV_mono (by show S.1 ≤ S.1 + 1; omega) (ho.2 v hv)⟩, hE⟩
  rw [List.map_cons, map_ag ho.2 hag, show eV ad' ((2, S.1) : MV) = .ref q from (if_neg (by show ¬ S.1 = -1; omega)).trans (congrArg Value.ref hq)] at kk
  exact kk
theorem wp_newA {d mc ms tc ts : Nat} {M : MD} {pc nx : Nat} {ls st : List MV} {S : MS} {C : MC} {Q : Int → MS → MC → Prop} {ci idx : Nat} {Cn : String} {n : Int} (hd : decode M.2.1 pc = .ok (.anewarray idx, 3)) (hx : pc + 3 = nx) (hlk : Cond.classLink M.1.cls idx Cn ∈ T0) (hov : Cn = RX7 ∨ Cn = RX9) (haty : aTy (24 + ci) = .object Cn) (h0n : 0 ≤ n) (hby : n.toNat * 4 ≤ 536870912) (hm1 : mc + 1 ≤ tc) (hm2 : ms + n.toNat ≤ ts)
    (k : Wp d mc ms M nx ls (cA S.1 :: st) (nwT S (24 + ci) n) (nwC S C) Q) : Wp d tc ts M pc ls (cI n :: st) S C Q := by
  intro p l e s m args below meth c R D A n0 ad0 sc0 QQ ad cls tys H locs cells slots jls G
  obtain ⟨hc, hr, ha, hR, hL, hst, hE⟩ := G
  obtain ⟨rK, rP, rD, rS, rT, rW, rA, rE⟩ := hR
  subst hx
  have ho := List.forall_mem_cons.mp hst
  have hnn : in32 n := ho.1
  have hn0 : ¬ n < 0 := by omega
  have h0 := rW.1
  refine va_newq hc.1 hc.2.1 hc.2.2.2.1 (hc.2.2.2.2.1 _ hlk) (hov.elim (fun e => e ▸ rE.2.1.1) (fun e => e ▸ rE.2.1.2)) rK rP rD rS rA (N' := n.toNat) (fun z => hn0 ((ofI_lt hnn in32_0).mp z)) (clampI hnn) hby (by omega) (by omega) hd (fun q qcA H1 hK1 hP1 hD1 hS1 => ?_)
  obtain ⟨ad', hq, hag⟩ : ∃ ad' : Int → Nat, ad' S.1 = q ∧ ∀ k : Int, k < S.1 → ad' k = ad k := ⟨fun k => if k = S.1 then q else ad k, if_pos rfl, fun k hk => if_neg (by omega)⟩
  have haty2 : aTy (24 + ci) = (.object Cn) := haty
  have hcA : ∀ a, 0 ≤ a → a < S.1 → S.2.1 a = (24 + ci) → cls (24 + ci) = qcA := by
    intro a x0 x1 x2
    obtain ⟨t0, ht0⟩ := rT a x0 x1 (by omega)
    rw [x2, haty2] at ht0
    exact RA_uniq (rK.2 t0 _ ht0).2 (hK1.2 _ _ tys_last).2
  obtain ⟨cls', hcT, hcl'⟩ : ∃ cls' : Nat → ClassId, cls' (24 + ci) = qcA ∧ ∀ a, 0 ≤ a → a < S.1 → 20 ≤ S.2.1 a → cls' (S.2.1 a) = cls (S.2.1 a) := by
    refine ⟨fun t => if t = (24 + ci) then qcA else cls t, if_pos rfl, fun a x0 x1 x2 => ?_⟩
    show (if S.2.1 a = (24 + ci) then qcA else cls (S.2.1 a)) = _
    by_cases z : S.2.1 a = (24 + ci)
    · rw [if_pos z, z]
      exact (hcA a x0 x1 z).symm
    · exact if_neg z
  have hlen : (nwT S (24 + ci) n).2.2.1 S.1 = n := if_pos rfl
  have hset := eW_nw (ad := ad) (ad' := ad') (cls := cls) (cls' := cls') (t := (24 + ci)) (n := n) rW hag hcl'
  rw [hq, eC_arrA (t := 24 + ci) (if_pos rfl) (by omega), hlen, hcT] at hset
  have hz : (fun j : Nat => if (nwT S (24 + ci) n).2.2.2.1 S.1 j = -1 then none else some (ad' ((nwT S (24 + ci) n).2.2.2.1 S.1 j))) = (fun _ => none) := by
    funext j
    rw [show (nwT S (24 + ci) n).2.2.2.1 S.1 j = -1 from if_pos rfl, if_pos rfl]
  rw [hz] at hset
  have hP2 := hset ▸ hP1
  have hD2 := hset ▸ hD1
  have kk := k p l e s m args below meth c R D A n0 ad0 sc0 QQ ad' cls' (tys ++ [(qcA, (.object Cn))]) H1 locs (cells + 1) (slots + n.toNat) jls ⟨hc, ⟨hr.1, hr.2.1, by omega, by omega⟩, ⟨⟨by show n0 ≤ S.1 + 1; omega, ha.1.2⟩, fun k hk => (hag k (by omega)).trans (ha.2 k hk)⟩,
    ⟨hK1, hP2, hD2, hS1, fun a ha0 ha1 ha2 => (by
      have ha1 : a < S.1 + 1 := ha1
      by_cases z : a = S.1
      · have e1 : (nwT S (24 + ci) n).2.1 a = (24 + ci) := if_pos z
        rw [e1, haty2, hcT]
        exact ⟨_, tys_last⟩
      · have e1 : (nwT S (24 + ci) n).2.1 a = S.2.1 a := if_neg z
        rw [e1] at ha2 ⊢
        obtain ⟨t0, ht0⟩ := rT a ha0 (by omega) ha2
        rw [hcl' a ha0 (by omega) ha2]
        exact ⟨t0, tys_old ht0⟩), wf_nw rW ⟨h0n, by unfold in32 at hnn; omega⟩, rA, Ex_ag (fun k hk => hag k (by omega)) rE⟩,
    ⟨by rw [lP_ag ls 0 hL.2 hag]; exact hL.1, fun v hv hv3 => okV_mono (by show S.1 ≤ S.1 + 1; omega) (hL.2 v hv hv3)⟩,
    List.forall_mem_cons.mpr ⟨⟨by show (-6 : Int) < S.1; omega, by show S.1 < S.1 + 1; omega⟩, fun v hv => okV_mono (by show S.1 ≤ S.1 + 1; omega) (ho.2 v hv)⟩, hE⟩
  rw [List.map_cons, map_ag ho.2 hag, show eV ad' ((2, S.1) : MV) = .ref q from (if_neg (by show ¬ S.1 = -1; omega)).trans (congrArg Value.ref hq)] at kk
  exact kk
def cpC (C : MC) (a sp b dp n : Int) : MC := fun x j => if x = b ∧ dp ≤ j ∧ j < dp + n then C a (sp + (j - dp)) else C x j
theorem eC_cp {ad : Int → Nat} {cls : Nat → ClassId} {S : MS} {C : MC} {a b sp dp n : Int} (ht : S.2.1 b = 20) (h1 : 0 ≤ sp) (h2 : 0 ≤ dp) (h3 : 0 ≤ n) : eC ad cls S (cpC C a sp b dp n) b = .inl (cls 20, (S.2.2.1 b).toNat, .inl (va_cpy (fun j : Nat => Int32.ofInt (C a j)) (fun j : Nat => Int32.ofInt (C b j)) sp.toNat dp.toNat n.toNat)) := by
  rw [eC_arr ht (by decide) (by decide) (by decide)]
  congr 4
  funext j
  unfold va_cpy cpC
  by_cases hj : dp.toNat ≤ j ∧ j < dp.toNat + n.toNat
  · rw [if_pos hj, if_pos ⟨rfl, by omega, by omega⟩]
    congr 2
    omega
  · rw [if_neg hj, if_neg (fun z => hj ⟨by omega, by omega⟩)]
theorem wp_copyI {d mc ms : Nat} {M : MD} {pc nx : Nat} {ls st : List MV} {S : MS} {C : MC} {Q : Int → MS → MC → Prop} {idx : Nat} {a b sp dp n : Int} (hd : decode M.2.1 pc = .ok (.invokestatic idx, 3)) (hx : pc + 3 = nx) (h1 : Cond.methodLink M.1.cls idx arraycopyName ∈ T0) (h2 : Cond.native arraycopyName ∈ T0) (h3 : Cond.static arraycopyName ∈ T0) (h4 : Cond.initialized "java/lang/System" ∈ T0)
    (ha : 0 ≤ a ∧ a < S.1) (hb : 0 ≤ b ∧ b < S.1) (hta : S.2.1 a = 20) (htb : S.2.1 b = 20) (hs : 0 ≤ sp ∧ 0 ≤ dp ∧ 0 ≤ n) (hs1 : sp + n ≤ S.2.2.1 a) (hs2 : dp + n ≤ S.2.2.1 b) (hrm : st = []) (k : Wp (d + 1) mc ms M nx ls st S (cpC C a sp b dp n) Q) : Wp (d + 1) mc ms M pc ls (cI n :: cI dp :: cA b :: cI sp :: cA a :: st) S C Q := by
  intro p l e s m args below meth c R D A n0 ad0 sc0 QQ ad cls tys H locs cells slots jls G
  obtain ⟨hc, hr, hag, hR, hL, hst, hE⟩ := G
  obtain ⟨rK, rP, rD, rS, rT, rW, rA, rE⟩ := hR
  subst hx
  subst hrm
  have o1 := List.forall_mem_cons.mp hst
  have o2 := List.forall_mem_cons.mp o1.2
  have o3 := List.forall_mem_cons.mp o2.2
  have o4 := List.forall_mem_cons.mp o3.2
  have o5 := List.forall_mem_cons.mp o4.2
  have i1 : in32 n := o1.1
  have i2 : in32 dp := o2.1
  have i4 : in32 sp := o4.1
  obtain ⟨t0, ht0⟩ := rT a ha.1 ha.2 (by omega)
  obtain ⟨t1, ht1⟩ := rT b hb.1 hb.2 (by omega)
  rw [hta] at ht0
  rw [htb] at ht1
  have he := eW_at (ad := ad) (cls := cls) (C := C) ha
  rw [eC_arr hta (by decide) (by decide) (by decide)] at he
  have hf := eW_at (ad := ad) (cls := cls) (C := C) hb
  rw [eC_arr htb (by decide) (by decide) (by decide)] at hf
  have hla := rW.2.2.2 a
  have hlb := rW.2.2.2 b
  rw [List.map_cons, List.map_cons, List.map_cons, List.map_cons, List.map_cons, show eV ad (cA a) = .ref (ad a) from if_neg (show ¬ a = -1 by omega), show eV ad (cA b) = .ref (ad b) from if_neg (show ¬ b = -1 by omega)]
  refine va_copyi hc.1 hc.2.1 (hc.2.2.1.trans hL.1.1.symm) hc.2.2.2.1 (hc.2.2.2.2.1 _ h1) (hc.2.2.2.2.1 _ h2) (hc.2.2.2.2.1 _ h3) (hc.2.2.2.2.1 _ h4) rK rP rD rS a.toNat b.toNat t0 t1 he hf ht0 ht1 rfl (fun z => by have := (ofI_lt i4 in32_0).mp z; omega) (fun z => by have := (ofI_lt i2 in32_0).mp z; omega) (fun z => by have := (ofI_lt i1 in32_0).mp z; omega)
    (by rw [clampI i4, clampI i1]; omega) (by rw [clampI i2, clampI i1]; omega) (fun i _ => rfl) (by omega) (by
      have : nativeFrameWords "java/lang/System" "arraycopy" 5 + 11 ≤ 60 := by decide
      simp only [List.map_nil, List.sum_nil]
      omega) hd (fun H1 locs1 hP1 hD1 hS1 => ?_)
  rw [clampI i4, clampI i2, clampI i1] at hP1 hD1
  have hset : (eW ad cls S C).set b.toNat (ad b, .inl (cls 20, (S.2.2.1 b).toNat, .inl (va_cpy (fun j : Nat => Int32.ofInt (C a j)) (fun j : Nat => Int32.ofInt (C b j)) sp.toNat dp.toNat n.toNat))) = eW ad cls S (cpC C a sp b dp n) := by
    refine eW_set hb rfl (eC_cp htb hs.1 hs.2.1 hs.2.2) (fun z hne => ?_)
    have e : cpC C a sp b dp n z = C z := by funext j; unfold cpC; rw [if_neg (fun y => hne y.1)]
    unfold eC fV
    rw [e]
  have hP2 := hset ▸ hP1
  have hD2 := hset ▸ hD1
  have hw : wfS S (cpC C a sp b dp n) := by
    refine ⟨rW.1, fun x j => ?_, rW.2.2⟩
    unfold cpC
    by_cases z : x = b ∧ dp ≤ j ∧ j < dp + n
    · rw [if_pos z, z.1, if_neg (by omega)]
      have := rW.2.1 a (sp + (j - dp))
      rw [if_neg (by omega)] at this
      exact this
    · rw [if_neg z]; exact rW.2.1 x j
  exact k p l e s m args below meth c R D A n0 ad0 sc0 QQ ad cls tys H1 locs1 cells slots jls ⟨hc, hr, hag, ⟨rK, hP2, hD2, hS1, rT, hw, rA, rE⟩, hL, o5.2, hE⟩
