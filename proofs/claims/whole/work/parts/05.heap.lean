/-! 05.heap: fields, arrays, new cells -/
def Cls (ci : Nat) (Cn : String) (T : u_T) (N : Nat) (ty : Nat → FieldType) : Prop :=
  ci < 20 ∧ kCl[ci]? = some (Cn, T, N) ∧ nF ci = N ∧ (∀ k, fT ci k = ty k) ∧ (∀ w ∈ u_ws Cn T N, w ∈ T0) ∧ (∀ k, k < N → parseFieldDescriptor (T k).2.2.1 = some (ty k)) ∧ (∀ a, a < N → ∀ b, b < N → a ≠ b → (T a).2.1 ≠ (T b).2.1)
def upC (C : MC) (a k v : Int) : MC := fun a' k' => if a' = a ∧ k' = k then v else C a' k'
theorem upC_ne {C : MC} {a k v b : Int} (h : b ≠ a) : upC C a k v b = C b := by
  funext j
  unfold upC
  rw [if_neg (fun z => h z.1)]
theorem upC_at (C : MC) (a k v : Int) : upC C a k v a k = v := by unfold upC; rw [if_pos ⟨rfl, rfl⟩]
theorem upC_get (C : MC) (a k v b j : Int) : upC C a k v b j = if b = a ∧ j = k then v else C b j := rfl
theorem eW_at {ad : Int → Nat} {cls : Nat → ClassId} {S : MS} {C : MC} {a : Int} (h : 0 ≤ a ∧ a < S.1) : (eW ad cls S C)[a.toNat]? = some (ad a, eC ad cls S C a) := by
  unfold eW
  rw [List.getElem?_map, List.getElem?_range (by omega)]
  simp [Int.toNat_of_nonneg h.1]
theorem eW_set {ad : Int → Nat} {cls : Nat → ClassId} {S S' : MS} {C C' : MC} {a : Int} {E : va_E} (h : 0 ≤ a ∧ a < S.1) (h1 : S'.1 = S.1) (hE : eC ad cls S' C' a = E) (ho : ∀ b : Int, b ≠ a → eC ad cls S' C' b = eC ad cls S C b) : (eW ad cls S C).set a.toNat (ad a, E) = eW ad cls S' C' := by
  apply List.ext_getElem?
  intro i
  rw [List.getElem?_set]
  by_cases hi : a.toNat = i
  · rw [if_pos hi]
    subst hi
    rw [if_pos (by unfold eW; simp; omega), eW_at (by rw [h1]; exact h), hE]
  · rw [if_neg hi]
    unfold eW
    rw [List.getElem?_map, List.getElem?_map, h1]
    by_cases hl : i < S.1.toNat
    · rw [List.getElem?_range hl]
      simp only [Option.map_some]
      rw [ho (i : Int) (by omega)]
    · rw [List.getElem?_eq_none (by simp; omega)]
      rfl
theorem eC_conN {ad : Int → Nat} {cls : Nat → ClassId} {S : MS} {C : MC} {a k v b : Int} (h : b ≠ a) : eC ad cls S (upC C a k v) b = eC ad cls S C b := by
  unfold eC fV
  rw [upC_ne h]
def upP (S : MS) (a k v : Int) : MS := (S.1, S.2.1, S.2.2.1, upC S.2.2.2.1 a k v, S.2.2.2.2)
theorem eC_ptrN {ad : Int → Nat} {cls : Nat → ClassId} {S : MS} {C : MC} {a k v b : Int} (h : b ≠ a) : eC ad cls (upP S a k v) C b = eC ad cls S C b := by
  have e : (upP S a k v).2.2.2.1 b = S.2.2.2.1 b := upC_ne h
  unfold eC fV
  rw [e]
  rfl
theorem eC_obj {ad : Int → Nat} {cls : Nat → ClassId} {S : MS} {C : MC} {a : Int} {ci : Nat} (ht : S.2.1 a = ci) (h : ci < 20) : eC ad cls S C a = .inr (ci, (List.range (nF ci)).map (fun k => eV ad (fV S C a k))) := by
  unfold eC
  rw [if_pos (by omega), ht]
theorem eC_objU {ad : Int → Nat} {cls : Nat → ClassId} {S : MS} {C : MC} {a v : Int} {ci k : Nat} (ht : S.2.1 a = ci) (h : ci < 20) (hk : k < nF ci) (hd : kd (fT ci k) ≠ 2) :
    eC ad cls S (upC C a k v) a = .inr (ci, ((List.range (nF ci)).map (fun k => eV ad (fV S C a k))).set k (eV ad (kd (fT ci k), v))) := by
  rw [eC_obj ht h]
  congr 2
  apply List.ext_getElem?
  intro i
  rw [List.getElem?_set]
  by_cases hi : k = i
  · subst hi
    rw [if_pos rfl, if_pos (by simp; omega), List.getElem?_map, List.getElem?_range hk]
    simp only [Option.map_some, fV, ht, if_neg hd, upC_at]
  · rw [if_neg hi, List.getElem?_map, List.getElem?_map]
    by_cases hl : i < nF ci
    · rw [List.getElem?_range hl]
      have e : upC C a k v a i = C a i := by rw [upC_get, if_neg (fun z => hi (by have := z.2; omega))]
      simp only [Option.map_some, fV, ht, e]
    · rw [List.getElem?_eq_none (by simp; omega)]
      rfl
theorem eC_objP {ad : Int → Nat} {cls : Nat → ClassId} {S : MS} {C : MC} {a v : Int} {ci k : Nat} (ht : S.2.1 a = ci) (h : ci < 20) (hk : k < nF ci) (hd : kd (fT ci k) = 2) :
    eC ad cls (upP S a k v) C a = .inr (ci, ((List.range (nF ci)).map (fun k => eV ad (fV S C a k))).set k (eV ad (kd (fT ci k), v))) := by
  rw [eC_obj (S := upP S a k v) ht h]
  congr 2
  apply List.ext_getElem?
  intro i
  rw [List.getElem?_set]
  by_cases hi : k = i
  · subst hi
    rw [if_pos rfl, if_pos (by simp; omega), List.getElem?_map, List.getElem?_range hk]
    simp only [Option.map_some, fV, upP, ht, if_pos hd, upC_at]
  · rw [if_neg hi, List.getElem?_map, List.getElem?_map]
    by_cases hl : i < nF ci
    · rw [List.getElem?_range hl]
      have e : upC S.2.2.2.1 a k v a i = S.2.2.2.1 a i := by rw [upC_get, if_neg (fun z => hi (by have := z.2; omega))]
      simp only [Option.map_some, fV, upP, ht, e]
    · rw [List.getElem?_eq_none (by simp; omega)]
      rfl
theorem eC_arr {ad : Int → Nat} {cls : Nat → ClassId} {S : MS} {C : MC} {a : Int} {t : Nat} (ht : S.2.1 a = t) (h : 20 ≤ t) (h1 : t ≠ 21) (h2 : t < 24) : eC ad cls S C a = .inl (cls t, (S.2.2.1 a).toNat, .inl (fun j => Int32.ofInt (C a j))) := by
  unfold eC
  rw [if_neg (by omega), if_neg (by omega), if_pos (by omega), ht]
theorem eC_arrL {ad : Int → Nat} {cls : Nat → ClassId} {S : MS} {C : MC} {a : Int} (ht : S.2.1 a = 21) : eC ad cls S C a = .inl (cls 21, (S.2.2.1 a).toNat, .inr (.inl (fun j => Int64.ofInt (C a j)))) := by
  unfold eC
  rw [if_neg (by omega), if_pos (by omega), ht]
theorem eC_arrA {ad : Int → Nat} {cls : Nat → ClassId} {S : MS} {C : MC} {a : Int} {t : Nat} (ht : S.2.1 a = t) (h : 24 ≤ t) : eC ad cls S C a = .inl (cls t, (S.2.2.1 a).toNat, .inr (.inr (.inr (.inr (fun j => if S.2.2.2.1 a j = -1 then none else some (ad (S.2.2.2.1 a j))))))) := by
  unfold eC
  rw [if_neg (by omega), if_neg (by omega), if_neg (by omega), ht]
theorem eC_arrU {ad : Int → Nat} {cls : Nat → ClassId} {S : MS} {C : MC} {a i v : Int} {t : Nat} (ht : S.2.1 a = t) (h : 20 ≤ t) (h1 : t ≠ 21) (h2 : t < 24) (h0 : 0 ≤ i) : eC ad cls S (upC C a i v) a = .inl (cls t, (S.2.2.1 a).toNat, .inl (upd (fun j => Int32.ofInt (C a j)) i.toNat (Int32.ofInt v))) := by
  rw [eC_arr ht h h1 h2]
  congr 4
  funext j
  unfold upd
  rw [upC_get]
  by_cases hj : j = i.toNat
  · rw [if_pos hj, if_pos ⟨rfl, by omega⟩]
  · rw [if_neg hj, if_neg (fun z => hj (by omega))]
theorem eC_arrLU {ad : Int → Nat} {cls : Nat → ClassId} {S : MS} {C : MC} {a i v : Int} (ht : S.2.1 a = 21) (h0 : 0 ≤ i) : eC ad cls S (upC C a i v) a = .inl (cls 21, (S.2.2.1 a).toNat, .inr (.inl (vp_updL (fun j => Int64.ofInt (C a j)) i.toNat (Int64.ofInt v)))) := by
  rw [eC_arrL ht]
  congr 5
  funext j
  unfold vp_updL
  rw [upC_get]
  by_cases hj : j = i.toNat
  · rw [if_pos hj, if_pos ⟨rfl, by omega⟩]
  · rw [if_neg hj, if_neg (fun z => hj (by omega))]
theorem eC_arrAU {ad : Int → Nat} {cls : Nat → ClassId} {S : MS} {C : MC} {a i v : Int} {t : Nat} (ht : S.2.1 a = t) (h : 24 ≤ t) (h0 : 0 ≤ i) (hv : v ≠ -1) : eC ad cls (upP S a i v) C a = .inl (cls t, (S.2.2.1 a).toNat, .inr (.inr (.inr (.inr (va_up (fun j : Nat => if S.2.2.2.1 a j = -1 then none else some (ad (S.2.2.2.1 a j))) i.toNat (some (ad v))))))) := by
  rw [eC_arrA (S := upP S a i v) ht h]
  congr 7
  funext j
  show (if upC S.2.2.2.1 a i v a j = -1 then none else some (ad (upC S.2.2.2.1 a i v a j))) = va_up _ _ _ j
  unfold va_up
  by_cases hj : j = i.toNat
  · have e : upC S.2.2.2.1 a i v a j = v := by rw [upC_get, if_pos ⟨rfl, by omega⟩]
    rw [if_pos hj, e, if_neg hv]
  · have e : upC S.2.2.2.1 a i v a j = S.2.2.2.1 a j := by rw [upC_get, if_neg (fun z => hj (by have := z.2; omega))]
    rw [if_neg hj, e]
theorem wf_con {S : MS} {C : MC} {a k v : Int} (h : wfS S C) (hv : if S.2.1 a = 21 then in64 v else in32 v) : wfS S (upC C a k v) := by
  refine ⟨h.1, fun b j => ?_, h.2.2.1, h.2.2.2⟩
  rw [upC_get]
  by_cases z : b = a ∧ j = k
  · rw [if_pos z, z.1]; exact hv
  · rw [if_neg z]; exact h.2.1 b j
theorem wf_ptr {S : MS} {C : MC} {a k v : Int} (h : wfS S C) (hv : -1 ≤ v ∧ v < S.1) : wfS (upP S a k v) C := by
  refine ⟨h.1, h.2.1, fun b j => ?_, h.2.2.2⟩
  show -1 ≤ upC S.2.2.2.1 a k v b j ∧ upC S.2.2.2.1 a k v b j < S.1
  rw [upC_get]
  split
  · exact hv
  · exact h.2.2.1 b j
theorem wp_getI {d mc ms : Nat} {M : MD} {pc nx : Nat} {ls st : List MV} {S : MS} {C : MC} {Q : Int → MS → MC → Prop} {ci kk idx : Nat} {Cn : String} {T : u_T} {N : Nat} {ty : Nat → FieldType} {a : Int} (hcl : Cls ci Cn T N ty) (hd : decode M.2.1 pc = .ok (.getfield idx, 3)) (hx : pc + 3 = nx) (hlk : Cond.fieldLink M.1.cls idx (T kk).1 (T kk).2.1 (T kk).2.2.1 ∈ T0) (hk : kk < N) (hb : 0 ≤ a ∧ a < S.1) (ht : S.2.1 a = ci) (hkd : kd (ty kk) = 0) (k : Wp d mc ms M nx ls (cI (C a kk) :: st) S C Q) : Wp d mc ms M pc ls (cA a :: st) S C Q := by
  intro p l e s m args below meth c R D A n0 ad0 sc0 QQ ad cls tys H locs cells slots jls G
  obtain ⟨hc, hr, ha, hR, hL, hst, hE⟩ := G
  obtain ⟨rK, rP, rD, rS, rT, rW, rA, rE⟩ := hR
  subst hx
  obtain ⟨c1, c2, c3, c4, c5, c6, c7⟩ := hcl
  have ho := List.forall_mem_cons.mp hst
  rw [List.map_cons, show eV ad (cA a) = .ref (ad a) from if_neg (show ¬ a = -1 by omega)]
  have he : (eW ad cls S C)[a.toNat]? = some (ad a, .inr (ci, (List.range (nF ci)).map (fun k => eV ad (fV S C a k)))) := by rw [eW_at hb, eC_obj ht c1]
  refine va_get hc.1 hc.2.1 hc.2.2.2.2.1 c5 hc.2.2.2.1 rK rP a.toNat he c2 _ hk (hc.2.2.2.2.1 _ hlk) (fun _ h => h) (v := eV ad (cI (C a kk))) ?_ hd ?_
  · rw [List.getElem?_map, List.getElem?_range (by omega)]
    simp only [Option.map_some, fV, ht, c4, hkd]
    rfl
  · exact k p l e s m args below meth c R D A n0 ad0 sc0 QQ ad cls tys H locs cells slots jls ⟨hc, hr, ha, ⟨rK, rP, rD, rS, rT, rW, rA, rE⟩, hL, List.forall_mem_cons.mpr ⟨(by have h21 := rW.2.1 a kk; rw [if_neg (by omega)] at h21; exact h21), ho.2⟩, hE⟩
theorem wp_getA {d mc ms : Nat} {M : MD} {pc nx : Nat} {ls st : List MV} {S : MS} {C : MC} {Q : Int → MS → MC → Prop} {ci kk idx : Nat} {Cn : String} {T : u_T} {N : Nat} {ty : Nat → FieldType} {a : Int} (hcl : Cls ci Cn T N ty) (hd : decode M.2.1 pc = .ok (.getfield idx, 3)) (hx : pc + 3 = nx) (hlk : Cond.fieldLink M.1.cls idx (T kk).1 (T kk).2.1 (T kk).2.2.1 ∈ T0) (hk : kk < N) (hb : 0 ≤ a ∧ a < S.1) (ht : S.2.1 a = ci) (hkd : kd (ty kk) = 2) (k : Wp d mc ms M nx ls (cA (S.2.2.2.1 a kk) :: st) S C Q) : Wp d mc ms M pc ls (cA a :: st) S C Q := by
  intro p l e s m args below meth c R D A n0 ad0 sc0 QQ ad cls tys H locs cells slots jls G
  obtain ⟨hc, hr, ha, hR, hL, hst, hE⟩ := G
  obtain ⟨rK, rP, rD, rS, rT, rW, rA, rE⟩ := hR
  subst hx
  obtain ⟨c1, c2, c3, c4, c5, c6, c7⟩ := hcl
  have ho := List.forall_mem_cons.mp hst
  rw [List.map_cons, show eV ad (cA a) = .ref (ad a) from if_neg (show ¬ a = -1 by omega)]
  have he : (eW ad cls S C)[a.toNat]? = some (ad a, .inr (ci, (List.range (nF ci)).map (fun k => eV ad (fV S C a k)))) := by rw [eW_at hb, eC_obj ht c1]
  refine va_get hc.1 hc.2.1 hc.2.2.2.2.1 c5 hc.2.2.2.1 rK rP a.toNat he c2 _ hk (hc.2.2.2.2.1 _ hlk) (fun _ h => h) (v := eV ad (cA (S.2.2.2.1 a kk))) ?_ hd ?_
  · rw [List.getElem?_map, List.getElem?_range (by omega)]
    simp only [Option.map_some, fV, ht, c4, hkd]
    rfl
  · exact k p l e s m args below meth c R D A n0 ad0 sc0 QQ ad cls tys H locs cells slots jls ⟨hc, hr, ha, ⟨rK, rP, rD, rS, rT, rW, rA, rE⟩, hL, List.forall_mem_cons.mpr ⟨(by have h21 := rW.2.2.1 a kk; exact ⟨(by show (-6 : Int) < S.2.2.2.1 a kk; omega), h21.2⟩), ho.2⟩, hE⟩
theorem wp_putI {d mc ms : Nat} {M : MD} {pc nx : Nat} {ls st : List MV} {S : MS} {C : MC} {Q : Int → MS → MC → Prop} {ci kk idx : Nat} {Cn : String} {T : u_T} {N : Nat} {ty : Nat → FieldType} {a : Int} (hcl : Cls ci Cn T N ty) {v : Int} (hd : decode M.2.1 pc = .ok (.putfield idx, 3)) (hx : pc + 3 = nx) (hlk : Cond.fieldLink M.1.cls idx (T kk).1 (T kk).2.1 (T kk).2.2.1 ∈ T0) (hk : kk < N) (hb : 0 ≤ a ∧ a < S.1) (ht : S.2.1 a = ci) (hkd : kd (ty kk) = 0) (hf : (T kk).2.2.2 = false) (hn : narrow (ty kk) (.int (Int32.ofInt v)) = .int (Int32.ofInt v) ∧ fits (ty kk) (.int (Int32.ofInt v)) = true) (k : Wp d mc ms M nx ls st S (upC C a kk v) Q) : Wp d mc ms M pc ls (cI v :: cA a :: st) S C Q := by
  intro p l e s m args below meth c R D A n0 ad0 sc0 QQ ad cls tys H locs cells slots jls G
  obtain ⟨hc, hr, ha, hR, hL, hst, hE⟩ := G
  obtain ⟨rK, rP, rD, rS, rT, rW, rA, rE⟩ := hR
  subst hx
  obtain ⟨c1, c2, c3, c4, c5, c6, c7⟩ := hcl
  have ho := List.forall_mem_cons.mp hst
  have ho2 := List.forall_mem_cons.mp ho.2
  rw [List.map_cons, List.map_cons, show eV ad (cA a) = .ref (ad a) from if_neg (show ¬ a = -1 by omega)]
  have he : (eW ad cls S C)[a.toNat]? = some (ad a, .inr (ci, (List.range (nF ci)).map (fun k => eV ad (fV S C a k)))) := by rw [eW_at hb, eC_obj ht c1]
  refine va_put hc.1 hc.2.1 hc.2.2.2.2.1 c5 ty c6 c7 hc.2.2.2.1 rK rP rD rS a.toNat he c2 _ hk (hc.2.2.2.2.1 _ hlk) (fun _ h => h) hf (c6 _ hk) hn.1 hn.2 (by simp; omega) hd (fun H1 locs1 hP1 hD1 hS1 => ?_)
  have hset : (eW ad cls S C).set a.toNat (ad a, .inr (ci, ((List.range (nF ci)).map (fun k => eV ad (fV S C a k))).set kk (eV ad (cI v)))) = eW ad cls S (upC C a kk v) := by
    refine eW_set hb rfl ?_ (fun b hne => eC_conN hne)
    rw [eC_objU ht c1 (by omega) (by rw [c4, hkd]; decide), c4, hkd]
  have hP2 : va_P D kCl (eW ad cls S (upC C a kk v)) H1 := hset ▸ hP1
  have hD2 : va_D A (eW ad cls S (upC C a kk v)) := hset ▸ hD1
  exact k p l e s m args below meth c R D A n0 ad0 sc0 QQ ad cls tys H1 locs1 cells slots jls ⟨hc, hr, ha, ⟨rK, hP2, hD2, hS1, rT, wf_con rW (by rw [if_neg (by omega)]; exact ho.1), rA, rE⟩, hL, ho2.2, hE⟩
theorem wp_putIF {d mc ms : Nat} {M : MD} {pc nx : Nat} {ls st : List MV} {S : MS} {C : MC} {Q : Int → MS → MC → Prop} {ci kk idx : Nat} {Cn : String} {T : u_T} {N : Nat} {ty : Nat → FieldType} {a : Int} (hcl : Cls ci Cn T N ty) {v : Int} (hd : decode M.2.1 pc = .ok (.putfield idx, 3)) (hx : pc + 3 = nx) (hlk : Cond.fieldLink M.1.cls idx (T kk).1 (T kk).2.1 (T kk).2.2.1 ∈ T0) (hk : kk < N) (hb : 0 ≤ a ∧ a < S.1) (ht : S.2.1 a = ci) (hkd : kd (ty kk) = 0) (hf : (T kk).2.2.2 = true) (hin : M.1.name = "<init>") (hde : (T kk).1 = M.1.cls) (hn : narrow (ty kk) (.int (Int32.ofInt v)) = .int (Int32.ofInt v) ∧ fits (ty kk) (.int (Int32.ofInt v)) = true) (k : Wp d mc ms M nx ls st S (upC C a kk v) Q) : Wp d mc ms M pc ls (cI v :: cA a :: st) S C Q := by
  intro p l e s m args below meth c R D A n0 ad0 sc0 QQ ad cls tys H locs cells slots jls G
  obtain ⟨hc, hr, ha, hR, hL, hst, hE⟩ := G
  obtain ⟨rK, rP, rD, rS, rT, rW, rA, rE⟩ := hR
  subst hx
  obtain ⟨c1, c2, c3, c4, c5, c6, c7⟩ := hcl
  have ho := List.forall_mem_cons.mp hst
  have ho2 := List.forall_mem_cons.mp ho.2
  rw [List.map_cons, List.map_cons, show eV ad (cA a) = .ref (ad a) from if_neg (show ¬ a = -1 by omega)]
  have he : (eW ad cls S C)[a.toNat]? = some (ad a, .inr (ci, (List.range (nF ci)).map (fun k => eV ad (fV S C a k)))) := by rw [eW_at hb, eC_obj ht c1]
  refine va_putF hc.1 hc.2.1 hc.2.2.2.2.1 c5 ty c6 c7 hc.2.2.2.1 rK rP rD rS a.toNat he c2 _ hk (hc.2.2.2.2.1 _ hlk) (fun _ h => h) hf (hc.2.2.2.2.2.2.2.trans hin) hde (c6 _ hk) hn.1 hn.2 (by simp; omega) hd (fun H1 locs1 hP1 hD1 hS1 => ?_)
  have hset : (eW ad cls S C).set a.toNat (ad a, .inr (ci, ((List.range (nF ci)).map (fun k => eV ad (fV S C a k))).set kk (eV ad (cI v)))) = eW ad cls S (upC C a kk v) := by
    refine eW_set hb rfl ?_ (fun b hne => eC_conN hne)
    rw [eC_objU ht c1 (by omega) (by rw [c4, hkd]; decide), c4, hkd]
  have hP2 : va_P D kCl (eW ad cls S (upC C a kk v)) H1 := hset ▸ hP1
  have hD2 : va_D A (eW ad cls S (upC C a kk v)) := hset ▸ hD1
  exact k p l e s m args below meth c R D A n0 ad0 sc0 QQ ad cls tys H1 locs1 cells slots jls ⟨hc, hr, ha, ⟨rK, hP2, hD2, hS1, rT, wf_con rW (by rw [if_neg (by omega)]; exact ho.1), rA, rE⟩, hL, ho2.2, hE⟩
theorem wp_putA {d mc ms : Nat} {M : MD} {pc nx : Nat} {ls st : List MV} {S : MS} {C : MC} {Q : Int → MS → MC → Prop} {ci kk idx : Nat} {Cn : String} {T : u_T} {N : Nat} {ty : Nat → FieldType} {a : Int} (hcl : Cls ci Cn T N ty) {v : Int} (hd : decode M.2.1 pc = .ok (.putfield idx, 3)) (hx : pc + 3 = nx) (hlk : Cond.fieldLink M.1.cls idx (T kk).1 (T kk).2.1 (T kk).2.2.1 ∈ T0) (hk : kk < N) (hb : 0 ≤ a ∧ a < S.1) (ht : S.2.1 a = ci) (hkd : kd (ty kk) = 2) (hf : (T kk).2.2.2 = false) (hv1 : -1 ≤ v) (k : Wp d mc ms M nx ls st (upP S a kk v) C Q) : Wp d mc ms M pc ls (cA v :: cA a :: st) S C Q := by
  intro p l e s m args below meth c R D A n0 ad0 sc0 QQ ad cls tys H locs cells slots jls G
  obtain ⟨hc, hr, ha, hR, hL, hst, hE⟩ := G
  obtain ⟨rK, rP, rD, rS, rT, rW, rA, rE⟩ := hR
  subst hx
  obtain ⟨c1, c2, c3, c4, c5, c6, c7⟩ := hcl
  have ho := List.forall_mem_cons.mp hst
  have ho2 := List.forall_mem_cons.mp ho.2
  rw [List.map_cons, List.map_cons, show eV ad (cA a) = .ref (ad a) from if_neg (show ¬ a = -1 by omega)]
  have he : (eW ad cls S C)[a.toNat]? = some (ad a, .inr (ci, (List.range (nF ci)).map (fun k => eV ad (fV S C a k)))) := by rw [eW_at hb, eC_obj ht c1]
  have hnar : narrow (ty kk) (eV ad (cA v)) = eV ad (cA v) := by
    show narrow (ty kk) (if v = -1 then .null else .ref (ad v)) = (if v = -1 then .null else .ref (ad v))
    generalize ty kk = tt at hkd
    cases tt <;> first | (simp [kd] at hkd; done) | (split <;> rfl)
  have hfit : fits (ty kk) (eV ad (cA v)) = true := by
    show fits (ty kk) (if v = -1 then .null else .ref (ad v)) = true
    generalize ty kk = tt at hkd
    cases tt <;> first | (simp [kd] at hkd; done) | (split <;> rfl)
  refine va_put hc.1 hc.2.1 hc.2.2.2.2.1 c5 ty c6 c7 hc.2.2.2.1 rK rP rD rS a.toNat he c2 _ hk (hc.2.2.2.2.1 _ hlk) (fun _ h => h) hf (c6 _ hk) hnar hfit (by simp; omega) hd (fun H1 locs1 hP1 hD1 hS1 => ?_)
  have hset : (eW ad cls S C).set a.toNat (ad a, .inr (ci, ((List.range (nF ci)).map (fun k => eV ad (fV S C a k))).set kk (eV ad (cA v)))) = eW ad cls (upP S a kk v) C := by
    refine eW_set hb rfl ?_ (fun b hne => eC_ptrN hne)
    rw [eC_objP ht c1 (by omega) (by rw [c4, hkd]), c4, hkd]
  have hP2 : va_P D kCl (eW ad cls (upP S a kk v) C) H1 := hset ▸ hP1
  have hD2 : va_D A (eW ad cls (upP S a kk v) C) := hset ▸ hD1
  exact k p l e s m args below meth c R D A n0 ad0 sc0 QQ ad cls tys H1 locs1 cells slots jls ⟨hc, hr, ha, ⟨rK, hP2, hD2, hS1, rT, wf_ptr rW ⟨hv1, ho.1.2⟩, rA, rE⟩, hL, ho2.2, hE⟩
theorem wp_putAF {d mc ms : Nat} {M : MD} {pc nx : Nat} {ls st : List MV} {S : MS} {C : MC} {Q : Int → MS → MC → Prop} {ci kk idx : Nat} {Cn : String} {T : u_T} {N : Nat} {ty : Nat → FieldType} {a : Int} (hcl : Cls ci Cn T N ty) {v : Int} (hd : decode M.2.1 pc = .ok (.putfield idx, 3)) (hx : pc + 3 = nx) (hlk : Cond.fieldLink M.1.cls idx (T kk).1 (T kk).2.1 (T kk).2.2.1 ∈ T0) (hk : kk < N) (hb : 0 ≤ a ∧ a < S.1) (ht : S.2.1 a = ci) (hkd : kd (ty kk) = 2) (hf : (T kk).2.2.2 = true) (hin : M.1.name = "<init>") (hde : (T kk).1 = M.1.cls) (hv1 : -1 ≤ v) (k : Wp d mc ms M nx ls st (upP S a kk v) C Q) : Wp d mc ms M pc ls (cA v :: cA a :: st) S C Q := by
  intro p l e s m args below meth c R D A n0 ad0 sc0 QQ ad cls tys H locs cells slots jls G
  obtain ⟨hc, hr, ha, hR, hL, hst, hE⟩ := G
  obtain ⟨rK, rP, rD, rS, rT, rW, rA, rE⟩ := hR
  subst hx
  obtain ⟨c1, c2, c3, c4, c5, c6, c7⟩ := hcl
  have ho := List.forall_mem_cons.mp hst
  have ho2 := List.forall_mem_cons.mp ho.2
  rw [List.map_cons, List.map_cons, show eV ad (cA a) = .ref (ad a) from if_neg (show ¬ a = -1 by omega)]
  have he : (eW ad cls S C)[a.toNat]? = some (ad a, .inr (ci, (List.range (nF ci)).map (fun k => eV ad (fV S C a k)))) := by rw [eW_at hb, eC_obj ht c1]
  have hnar : narrow (ty kk) (eV ad (cA v)) = eV ad (cA v) := by
    show narrow (ty kk) (if v = -1 then .null else .ref (ad v)) = (if v = -1 then .null else .ref (ad v))
    generalize ty kk = tt at hkd
    cases tt <;> first | (simp [kd] at hkd; done) | (split <;> rfl)
  have hfit : fits (ty kk) (eV ad (cA v)) = true := by
    show fits (ty kk) (if v = -1 then .null else .ref (ad v)) = true
    generalize ty kk = tt at hkd
    cases tt <;> first | (simp [kd] at hkd; done) | (split <;> rfl)
  refine va_putF hc.1 hc.2.1 hc.2.2.2.2.1 c5 ty c6 c7 hc.2.2.2.1 rK rP rD rS a.toNat he c2 _ hk (hc.2.2.2.2.1 _ hlk) (fun _ h => h) hf (hc.2.2.2.2.2.2.2.trans hin) hde (c6 _ hk) hnar hfit (by simp; omega) hd (fun H1 locs1 hP1 hD1 hS1 => ?_)
  have hset : (eW ad cls S C).set a.toNat (ad a, .inr (ci, ((List.range (nF ci)).map (fun k => eV ad (fV S C a k))).set kk (eV ad (cA v)))) = eW ad cls (upP S a kk v) C := by
    refine eW_set hb rfl ?_ (fun b hne => eC_ptrN hne)
    rw [eC_objP ht c1 (by omega) (by rw [c4, hkd]), c4, hkd]
  have hP2 : va_P D kCl (eW ad cls (upP S a kk v) C) H1 := hset ▸ hP1
  have hD2 : va_D A (eW ad cls (upP S a kk v) C) := hset ▸ hD1
  exact k p l e s m args below meth c R D A n0 ad0 sc0 QQ ad cls tys H1 locs1 cells slots jls ⟨hc, hr, ha, ⟨rK, hP2, hD2, hS1, rT, wf_ptr rW ⟨hv1, ho.1.2⟩, rA, rE⟩, hL, ho2.2, hE⟩
def nB (x : Int) : Int := (vp_nar .byte (Int32.ofInt x)).toInt
def nZ (x : Int) : Int := (vp_nar .boolean (Int32.ofInt x)).toInt
theorem wp_iaload {d mc ms : Nat} {M : MD} {pc nx : Nat} {ls st : List MV} {S : MS} {C : MC} {Q : Int → MS → MC → Prop} {a i : Int} (hd : decode M.2.1 pc = .ok (.iaload, 1)) (hx : pc + 1 = nx) (hb : 0 ≤ a ∧ a < S.1) (hi : 0 ≤ i ∧ i < S.2.2.1 a) (ht : S.2.1 a = 20) (k : Wp d mc ms M nx ls (cI (C a i) :: st) S C Q) : Wp d mc ms M pc ls (cI i :: cA a :: st) S C Q := by
  intro p l e s m args below meth c R D A n0 ad0 sc0 QQ ad cls tys H locs cells slots jls G
  obtain ⟨hc, hr, ha, hR, hL, hst, hE⟩ := G
  obtain ⟨rK, rP, rD, rS, rT, rW, rA, rE⟩ := hR
  subst hx
  have ho := List.forall_mem_cons.mp hst
  have ho2 := List.forall_mem_cons.mp ho.2
  have hii : in32 i := ho.1
  rw [List.map_cons, List.map_cons, show eV ad (cA a) = .ref (ad a) from if_neg (show ¬ a = -1 by omega)]
  obtain ⟨t0, ht0⟩ := rT a hb.1 hb.2 (by omega)
  rw [ht] at ht0
  have he := eW_at (ad := ad) (cls := cls) (C := C) hb
  rw [eC_arr ht (by decide) (by decide) (by decide)] at he
  refine va_iald hc.1 hc.2.1 rK rP a.toNat t0 he ht0 (vpin hii hi.1 hi.2) hd ?_
  have hv : (((Int32.ofInt i).toNatClampNeg : Nat) : Int) = i := by rw [clampI hii, Int.toNat_of_nonneg hi.1]
  show W p l e R s m args below meth c H locs cells slots QQ (F0 m (pc + 1) jls (Value.int (Int32.ofInt (C a (((Int32.ofInt i).toNatClampNeg : Nat) : Int))) :: st.map (eV ad)))
  rw [hv]
  exact k p l e s m args below meth c R D A n0 ad0 sc0 QQ ad cls tys H locs cells slots jls ⟨hc, hr, ha, ⟨rK, rP, rD, rS, rT, rW, rA, rE⟩, hL, List.forall_mem_cons.mpr ⟨(by have h21 := rW.2.1 a i; rw [if_neg (by omega)] at h21; exact h21), ho2.2⟩, hE⟩
theorem wp_baload {d mc ms : Nat} {M : MD} {pc nx : Nat} {ls st : List MV} {S : MS} {C : MC} {Q : Int → MS → MC → Prop} {a i : Int} (hd : decode M.2.1 pc = .ok (.baload, 1)) (hx : pc + 1 = nx) (hb : 0 ≤ a ∧ a < S.1) (hi : 0 ≤ i ∧ i < S.2.2.1 a) (ht : S.2.1 a = 22) (k : Wp d mc ms M nx ls (cI (C a i) :: st) S C Q) : Wp d mc ms M pc ls (cI i :: cA a :: st) S C Q := by
  intro p l e s m args below meth c R D A n0 ad0 sc0 QQ ad cls tys H locs cells slots jls G
  obtain ⟨hc, hr, ha, hR, hL, hst, hE⟩ := G
  obtain ⟨rK, rP, rD, rS, rT, rW, rA, rE⟩ := hR
  subst hx
  have ho := List.forall_mem_cons.mp hst
  have ho2 := List.forall_mem_cons.mp ho.2
  have hii : in32 i := ho.1
  rw [List.map_cons, List.map_cons, show eV ad (cA a) = .ref (ad a) from if_neg (show ¬ a = -1 by omega)]
  obtain ⟨t0, ht0⟩ := rT a hb.1 hb.2 (by omega)
  rw [ht] at ht0
  have he := eW_at (ad := ad) (cls := cls) (C := C) hb
  rw [eC_arr ht (by decide) (by decide) (by decide)] at he
  refine va_bald hc.1 hc.2.1 rK rP a.toNat t0 he ht0 (vpin hii hi.1 hi.2) hd ?_
  have hv : (((Int32.ofInt i).toNatClampNeg : Nat) : Int) = i := by rw [clampI hii, Int.toNat_of_nonneg hi.1]
  show W p l e R s m args below meth c H locs cells slots QQ (F0 m (pc + 1) jls (Value.int (Int32.ofInt (C a (((Int32.ofInt i).toNatClampNeg : Nat) : Int))) :: st.map (eV ad)))
  rw [hv]
  exact k p l e s m args below meth c R D A n0 ad0 sc0 QQ ad cls tys H locs cells slots jls ⟨hc, hr, ha, ⟨rK, rP, rD, rS, rT, rW, rA, rE⟩, hL, List.forall_mem_cons.mpr ⟨(by have h21 := rW.2.1 a i; rw [if_neg (by omega)] at h21; exact h21), ho2.2⟩, hE⟩
theorem wp_zaload {d mc ms : Nat} {M : MD} {pc nx : Nat} {ls st : List MV} {S : MS} {C : MC} {Q : Int → MS → MC → Prop} {a i : Int} (hd : decode M.2.1 pc = .ok (.baload, 1)) (hx : pc + 1 = nx) (hb : 0 ≤ a ∧ a < S.1) (hi : 0 ≤ i ∧ i < S.2.2.1 a) (ht : S.2.1 a = 23) (k : Wp d mc ms M nx ls (cI (C a i) :: st) S C Q) : Wp d mc ms M pc ls (cI i :: cA a :: st) S C Q := by
  intro p l e s m args below meth c R D A n0 ad0 sc0 QQ ad cls tys H locs cells slots jls G
  obtain ⟨hc, hr, ha, hR, hL, hst, hE⟩ := G
  obtain ⟨rK, rP, rD, rS, rT, rW, rA, rE⟩ := hR
  subst hx
  have ho := List.forall_mem_cons.mp hst
  have ho2 := List.forall_mem_cons.mp ho.2
  have hii : in32 i := ho.1
  rw [List.map_cons, List.map_cons, show eV ad (cA a) = .ref (ad a) from if_neg (show ¬ a = -1 by omega)]
  obtain ⟨t0, ht0⟩ := rT a hb.1 hb.2 (by omega)
  rw [ht] at ht0
  have he := eW_at (ad := ad) (cls := cls) (C := C) hb
  rw [eC_arr ht (by decide) (by decide) (by decide)] at he
  refine va_zald hc.1 hc.2.1 rK rP a.toNat t0 he ht0 (vpin hii hi.1 hi.2) hd ?_
  have hv : (((Int32.ofInt i).toNatClampNeg : Nat) : Int) = i := by rw [clampI hii, Int.toNat_of_nonneg hi.1]
  show W p l e R s m args below meth c H locs cells slots QQ (F0 m (pc + 1) jls (Value.int (Int32.ofInt (C a (((Int32.ofInt i).toNatClampNeg : Nat) : Int))) :: st.map (eV ad)))
  rw [hv]
  exact k p l e s m args below meth c R D A n0 ad0 sc0 QQ ad cls tys H locs cells slots jls ⟨hc, hr, ha, ⟨rK, rP, rD, rS, rT, rW, rA, rE⟩, hL, List.forall_mem_cons.mpr ⟨(by have h21 := rW.2.1 a i; rw [if_neg (by omega)] at h21; exact h21), ho2.2⟩, hE⟩
theorem wp_laload {d mc ms : Nat} {M : MD} {pc nx : Nat} {ls st : List MV} {S : MS} {C : MC} {Q : Int → MS → MC → Prop} {a i : Int} (hd : decode M.2.1 pc = .ok (.laload, 1)) (hx : pc + 1 = nx) (hb : 0 ≤ a ∧ a < S.1) (hi : 0 ≤ i ∧ i < S.2.2.1 a) (ht : S.2.1 a = 21) (k : Wp d mc ms M nx ls (cJ (C a i) :: st) S C Q) : Wp d mc ms M pc ls (cI i :: cA a :: st) S C Q := by
  intro p l e s m args below meth c R D A n0 ad0 sc0 QQ ad cls tys H locs cells slots jls G
  obtain ⟨hc, hr, ha, hR, hL, hst, hE⟩ := G
  obtain ⟨rK, rP, rD, rS, rT, rW, rA, rE⟩ := hR
  subst hx
  have ho := List.forall_mem_cons.mp hst
  have ho2 := List.forall_mem_cons.mp ho.2
  have hii : in32 i := ho.1
  rw [List.map_cons, List.map_cons, show eV ad (cA a) = .ref (ad a) from if_neg (show ¬ a = -1 by omega)]
  obtain ⟨t0, ht0⟩ := rT a hb.1 hb.2 (by omega)
  rw [ht] at ht0
  have he := eW_at (ad := ad) (cls := cls) (C := C) hb
  rw [eC_arrL ht] at he
  refine va_lald hc.1 hc.2.1 rK rP a.toNat t0 he ht0 (vpin hii hi.1 hi.2) hd ?_
  have hv : (((Int32.ofInt i).toNatClampNeg : Nat) : Int) = i := by rw [clampI hii, Int.toNat_of_nonneg hi.1]
  show W p l e R s m args below meth c H locs cells slots QQ (F0 m (pc + 1) jls (Value.long (Int64.ofInt (C a (((Int32.ofInt i).toNatClampNeg : Nat) : Int))) :: st.map (eV ad)))
  rw [hv]
  exact k p l e s m args below meth c R D A n0 ad0 sc0 QQ ad cls tys H locs cells slots jls ⟨hc, hr, ha, ⟨rK, rP, rD, rS, rT, rW, rA, rE⟩, hL, List.forall_mem_cons.mpr ⟨(by have h21 := rW.2.1 a i; rw [if_pos ht] at h21; exact h21), ho2.2⟩, hE⟩
theorem wp_aaload {d mc ms : Nat} {M : MD} {pc nx : Nat} {ls st : List MV} {S : MS} {C : MC} {Q : Int → MS → MC → Prop} {a i : Int} {t : Nat} (hd : decode M.2.1 pc = .ok (.aaload, 1)) (hx : pc + 1 = nx) (hb : 0 ≤ a ∧ a < S.1) (hi : 0 ≤ i ∧ i < S.2.2.1 a) (ht : S.2.1 a = t) (h24 : 24 ≤ t) (k : Wp d mc ms M nx ls (cA (S.2.2.2.1 a i) :: st) S C Q) : Wp d mc ms M pc ls (cI i :: cA a :: st) S C Q := by
  intro p l e s m args below meth c R D A n0 ad0 sc0 QQ ad cls tys H locs cells slots jls G
  obtain ⟨hc, hr, ha, hR, hL, hst, hE⟩ := G
  obtain ⟨rK, rP, rD, rS, rT, rW, rA, rE⟩ := hR
  subst hx
  have ho := List.forall_mem_cons.mp hst
  have ho2 := List.forall_mem_cons.mp ho.2
  have hii : in32 i := ho.1
  rw [List.map_cons, List.map_cons, show eV ad (cA a) = .ref (ad a) from if_neg (show ¬ a = -1 by omega)]
  obtain ⟨t0, ht0⟩ := rT a hb.1 hb.2 (by omega)
  rw [ht] at ht0
  have hty : ∃ Cq, aTy t = .object Cq := by
    unfold aTy
    split <;> first | omega | exact ⟨_, rfl⟩
  obtain ⟨Cq, hCq⟩ := hty
  rw [hCq] at ht0
  have he := eW_at (ad := ad) (cls := cls) (C := C) hb
  rw [eC_arrA ht h24] at he
  refine va_aldq hc.1 hc.2.1 rK rP a.toNat t0 he ht0 (vpin hii hi.1 hi.2) hd ?_
  have hv : va_rf ((fun j : Nat => if S.2.2.2.1 a j = -1 then none else some (ad (S.2.2.2.1 a j))) (Int32.ofInt i).toNatClampNeg) = eV ad (cA (S.2.2.2.1 a i)) := by
    rw [clampI hii]
    show va_rf (if S.2.2.2.1 a ((i.toNat : Nat) : Int) = -1 then none else some (ad (S.2.2.2.1 a ((i.toNat : Nat) : Int)))) = (if S.2.2.2.1 a i = -1 then .null else .ref (ad (S.2.2.2.1 a i)))
    rw [Int.toNat_of_nonneg hi.1]
    split <;> rfl
  rw [hv]
  have h21 := rW.2.2.1 a i
  exact k p l e s m args below meth c R D A n0 ad0 sc0 QQ ad cls tys H locs cells slots jls ⟨hc, hr, ha, ⟨rK, rP, rD, rS, rT, rW, rA, rE⟩, hL, List.forall_mem_cons.mpr ⟨⟨(by show (-6 : Int) < S.2.2.2.1 a i; omega), h21.2⟩, ho2.2⟩, hE⟩
theorem wp_iastore {d mc ms : Nat} {M : MD} {pc nx : Nat} {ls st : List MV} {S : MS} {C : MC} {Q : Int → MS → MC → Prop} {a i : Int} {v : Int} (hd : decode M.2.1 pc = .ok (.iastore, 1)) (hx : pc + 1 = nx) (hb : 0 ≤ a ∧ a < S.1) (hi : 0 ≤ i ∧ i < S.2.2.1 a) (ht : S.2.1 a = 20) (k : Wp d mc ms M nx ls st S (upC C a i v) Q) : Wp d mc ms M pc ls (cI v :: cI i :: cA a :: st) S C Q := by
  intro p l e s m args below meth c R D A n0 ad0 sc0 QQ ad cls tys H locs cells slots jls G
  obtain ⟨hc, hr, ha, hR, hL, hst, hE⟩ := G
  obtain ⟨rK, rP, rD, rS, rT, rW, rA, rE⟩ := hR
  subst hx
  have ho := List.forall_mem_cons.mp hst
  have ho2 := List.forall_mem_cons.mp ho.2
  have ho3 := List.forall_mem_cons.mp ho2.2
  have hii : in32 i := ho2.1
  rw [List.map_cons, List.map_cons, List.map_cons, show eV ad (cA a) = .ref (ad a) from if_neg (show ¬ a = -1 by omega)]
  obtain ⟨t0, ht0⟩ := rT a hb.1 hb.2 (by omega)
  rw [ht] at ht0
  have he := eW_at (ad := ad) (cls := cls) (C := C) hb
  rw [eC_arr ht (by decide) (by decide) (by decide)] at he
  refine va_iast hc.1 hc.2.1 rK rP rD rS a.toNat t0 he ht0 (vpin hii hi.1 hi.2) hd (fun H1 locs1 hP1 hD1 hS1 => ?_)
  rw [clampI hii] at hP1 hD1
  have hset : (eW ad cls S C).set a.toNat (ad a, .inl (cls 20, (S.2.2.1 a).toNat, .inl (upd (fun j : Nat => Int32.ofInt (C a j)) i.toNat (Int32.ofInt v)))) = eW ad cls S (upC C a i v) := by
    refine eW_set hb rfl ?_ (fun b hne => eC_conN hne)
    rw [eC_arrU ht (by decide) (by decide) (by decide) hi.1]
  have hP2 : va_P D kCl (eW ad cls S (upC C a i v)) H1 := hset ▸ hP1
  have hD2 : va_D A (eW ad cls S (upC C a i v)) := hset ▸ hD1
  exact k p l e s m args below meth c R D A n0 ad0 sc0 QQ ad cls tys H1 locs1 cells slots jls ⟨hc, hr, ha, ⟨rK, hP2, hD2, hS1, rT, wf_con rW (by rw [if_neg (by omega)]; exact ho.1), rA, rE⟩, hL, ho3.2, hE⟩
theorem wp_bastore {d mc ms : Nat} {M : MD} {pc nx : Nat} {ls st : List MV} {S : MS} {C : MC} {Q : Int → MS → MC → Prop} {a i : Int} {v : Int} (hd : decode M.2.1 pc = .ok (.bastore, 1)) (hx : pc + 1 = nx) (hb : 0 ≤ a ∧ a < S.1) (hi : 0 ≤ i ∧ i < S.2.2.1 a) (ht : S.2.1 a = 22) (k : Wp d mc ms M nx ls st S (upC C a i (nB v)) Q) : Wp d mc ms M pc ls (cI v :: cI i :: cA a :: st) S C Q := by
  intro p l e s m args below meth c R D A n0 ad0 sc0 QQ ad cls tys H locs cells slots jls G
  obtain ⟨hc, hr, ha, hR, hL, hst, hE⟩ := G
  obtain ⟨rK, rP, rD, rS, rT, rW, rA, rE⟩ := hR
  subst hx
  have ho := List.forall_mem_cons.mp hst
  have ho2 := List.forall_mem_cons.mp ho.2
  have ho3 := List.forall_mem_cons.mp ho2.2
  have hii : in32 i := ho2.1
  rw [List.map_cons, List.map_cons, List.map_cons, show eV ad (cA a) = .ref (ad a) from if_neg (show ¬ a = -1 by omega)]
  obtain ⟨t0, ht0⟩ := rT a hb.1 hb.2 (by omega)
  rw [ht] at ht0
  have he := eW_at (ad := ad) (cls := cls) (C := C) hb
  rw [eC_arr ht (by decide) (by decide) (by decide)] at he
  refine va_bast hc.1 hc.2.1 rK rP rD rS a.toNat t0 he ht0 (vpin hii hi.1 hi.2) hd (fun H1 locs1 hP1 hD1 hS1 => ?_)
  rw [clampI hii] at hP1 hD1
  have hset : (eW ad cls S C).set a.toNat (ad a, .inl (cls 22, (S.2.2.1 a).toNat, .inl (upd (fun j : Nat => Int32.ofInt (C a j)) i.toNat (vp_nar .byte (Int32.ofInt v))))) = eW ad cls S (upC C a i (nB v)) := by
    refine eW_set hb rfl ?_ (fun b hne => eC_conN hne)
    rw [eC_arrU ht (by decide) (by decide) (by decide) hi.1]
    unfold nB
    rw [Int32.ofInt_toInt]
  have hP2 : va_P D kCl (eW ad cls S (upC C a i (nB v))) H1 := hset ▸ hP1
  have hD2 : va_D A (eW ad cls S (upC C a i (nB v))) := hset ▸ hD1
  exact k p l e s m args below meth c R D A n0 ad0 sc0 QQ ad cls tys H1 locs1 cells slots jls ⟨hc, hr, ha, ⟨rK, hP2, hD2, hS1, rT, wf_con rW (by rw [if_neg (by omega)]; exact in32_toInt _), rA, rE⟩, hL, ho3.2, hE⟩
theorem wp_zastore {d mc ms : Nat} {M : MD} {pc nx : Nat} {ls st : List MV} {S : MS} {C : MC} {Q : Int → MS → MC → Prop} {a i : Int} {v : Int} (hd : decode M.2.1 pc = .ok (.bastore, 1)) (hx : pc + 1 = nx) (hb : 0 ≤ a ∧ a < S.1) (hi : 0 ≤ i ∧ i < S.2.2.1 a) (ht : S.2.1 a = 23) (k : Wp d mc ms M nx ls st S (upC C a i (nZ v)) Q) : Wp d mc ms M pc ls (cI v :: cI i :: cA a :: st) S C Q := by
  intro p l e s m args below meth c R D A n0 ad0 sc0 QQ ad cls tys H locs cells slots jls G
  obtain ⟨hc, hr, ha, hR, hL, hst, hE⟩ := G
  obtain ⟨rK, rP, rD, rS, rT, rW, rA, rE⟩ := hR
  subst hx
  have ho := List.forall_mem_cons.mp hst
  have ho2 := List.forall_mem_cons.mp ho.2
  have ho3 := List.forall_mem_cons.mp ho2.2
  have hii : in32 i := ho2.1
  rw [List.map_cons, List.map_cons, List.map_cons, show eV ad (cA a) = .ref (ad a) from if_neg (show ¬ a = -1 by omega)]
  obtain ⟨t0, ht0⟩ := rT a hb.1 hb.2 (by omega)
  rw [ht] at ht0
  have he := eW_at (ad := ad) (cls := cls) (C := C) hb
  rw [eC_arr ht (by decide) (by decide) (by decide)] at he
  refine va_zast hc.1 hc.2.1 rK rP rD rS a.toNat t0 he ht0 (vpin hii hi.1 hi.2) hd (fun H1 locs1 hP1 hD1 hS1 => ?_)
  rw [clampI hii] at hP1 hD1
  have hset : (eW ad cls S C).set a.toNat (ad a, .inl (cls 23, (S.2.2.1 a).toNat, .inl (upd (fun j : Nat => Int32.ofInt (C a j)) i.toNat (vp_nar .boolean (Int32.ofInt v))))) = eW ad cls S (upC C a i (nZ v)) := by
    refine eW_set hb rfl ?_ (fun b hne => eC_conN hne)
    rw [eC_arrU ht (by decide) (by decide) (by decide) hi.1]
    unfold nZ
    rw [Int32.ofInt_toInt]
  have hP2 : va_P D kCl (eW ad cls S (upC C a i (nZ v))) H1 := hset ▸ hP1
  have hD2 : va_D A (eW ad cls S (upC C a i (nZ v))) := hset ▸ hD1
  exact k p l e s m args below meth c R D A n0 ad0 sc0 QQ ad cls tys H1 locs1 cells slots jls ⟨hc, hr, ha, ⟨rK, hP2, hD2, hS1, rT, wf_con rW (by rw [if_neg (by omega)]; exact in32_toInt _), rA, rE⟩, hL, ho3.2, hE⟩
theorem wp_lastore {d mc ms : Nat} {M : MD} {pc nx : Nat} {ls st : List MV} {S : MS} {C : MC} {Q : Int → MS → MC → Prop} {a i : Int} {v : Int} (hd : decode M.2.1 pc = .ok (.lastore, 1)) (hx : pc + 1 = nx) (hb : 0 ≤ a ∧ a < S.1) (hi : 0 ≤ i ∧ i < S.2.2.1 a) (ht : S.2.1 a = 21) (k : Wp d mc ms M nx ls st S (upC C a i v) Q) : Wp d mc ms M pc ls (cJ v :: cI i :: cA a :: st) S C Q := by
  intro p l e s m args below meth c R D A n0 ad0 sc0 QQ ad cls tys H locs cells slots jls G
  obtain ⟨hc, hr, ha, hR, hL, hst, hE⟩ := G
  obtain ⟨rK, rP, rD, rS, rT, rW, rA, rE⟩ := hR
  subst hx
  have ho := List.forall_mem_cons.mp hst
  have ho2 := List.forall_mem_cons.mp ho.2
  have ho3 := List.forall_mem_cons.mp ho2.2
  have hii : in32 i := ho2.1
  rw [List.map_cons, List.map_cons, List.map_cons, show eV ad (cA a) = .ref (ad a) from if_neg (show ¬ a = -1 by omega)]
  obtain ⟨t0, ht0⟩ := rT a hb.1 hb.2 (by omega)
  rw [ht] at ht0
  have he := eW_at (ad := ad) (cls := cls) (C := C) hb
  rw [eC_arrL ht] at he
  refine va_last hc.1 hc.2.1 rK rP rD rS a.toNat t0 he ht0 (vpin hii hi.1 hi.2) hd (fun H1 locs1 hP1 hD1 hS1 => ?_)
  rw [clampI hii] at hP1 hD1
  have hset : (eW ad cls S C).set a.toNat (ad a, .inl (cls 21, (S.2.2.1 a).toNat, .inr (.inl (vp_updL (fun j : Nat => Int64.ofInt (C a j)) i.toNat (Int64.ofInt v))))) = eW ad cls S (upC C a i v) := by
    refine eW_set hb rfl ?_ (fun b hne => eC_conN hne)
    rw [eC_arrLU ht hi.1]
  have hP2 : va_P D kCl (eW ad cls S (upC C a i v)) H1 := hset ▸ hP1
  have hD2 : va_D A (eW ad cls S (upC C a i v)) := hset ▸ hD1
  exact k p l e s m args below meth c R D A n0 ad0 sc0 QQ ad cls tys H1 locs1 cells slots jls ⟨hc, hr, ha, ⟨rK, hP2, hD2, hS1, rT, wf_con rW (by rw [if_pos ht]; exact ho.1), rA, rE⟩, hL, ho3.2, hE⟩
theorem wp_aastore {d mc ms : Nat} {M : MD} {pc nx : Nat} {ls st : List MV} {S : MS} {C : MC} {Q : Int → MS → MC → Prop} {a i : Int} {v : Int} {ci t : Nat} {Cn : String} {T : u_T} {N : Nat} {ty : Nat → FieldType} (hcl : Cls ci Cn T N ty) (hd : decode M.2.1 pc = .ok (.aastore, 1)) (hx : pc + 1 = nx) (hb : 0 ≤ a ∧ a < S.1) (hi : 0 ≤ i ∧ i < S.2.2.1 a) (ht : S.2.1 a = t) (ht2 : t = 24 + ci) (hty : aTy t = .object Cn) (hv : 0 ≤ v ∧ v < S.1) (hvt : S.2.1 v = ci) (k : Wp d mc ms M nx ls st (upP S a i v) C Q) : Wp d mc ms M pc ls (cA v :: cI i :: cA a :: st) S C Q := by
  intro p l e s m args below meth c R D A n0 ad0 sc0 QQ ad cls tys H locs cells slots jls G
  obtain ⟨hc, hr, ha, hR, hL, hst, hE⟩ := G
  obtain ⟨rK, rP, rD, rS, rT, rW, rA, rE⟩ := hR
  subst hx
  obtain ⟨c1, c2, c3, c4, c5, c6, c7⟩ := hcl
  have ho := List.forall_mem_cons.mp hst
  have ho2 := List.forall_mem_cons.mp ho.2
  have ho3 := List.forall_mem_cons.mp ho2.2
  have hii : in32 i := ho2.1
  rw [List.map_cons, List.map_cons, List.map_cons, show eV ad (cA a) = .ref (ad a) from if_neg (show ¬ a = -1 by omega), show eV ad (cA v) = .ref (ad v) from if_neg (show ¬ v = -1 by omega)]
  obtain ⟨t0, ht0⟩ := rT a hb.1 hb.2 (by omega)
  rw [ht, hty] at ht0
  have he := eW_at (ad := ad) (cls := cls) (C := C) hb
  rw [eC_arrA ht (by omega)] at he
  have hev := eW_at (ad := ad) (cls := cls) (C := C) hv
  rw [eC_obj hvt c1] at hev
  refine va_astq (r := (Cn, T, N)) hc.1 hc.2.1 rK rP rD rS a.toNat t0 v.toNat ci he ht0 hev c2 (vpin hii hi.1 hi.2) hd (fun H1 locs1 hP1 hD1 hS1 => ?_)
  rw [clampI hii] at hP1 hD1
  have hset : (eW ad cls S C).set a.toNat (ad a, .inl (cls t, (S.2.2.1 a).toNat, .inr (.inr (.inr (.inr (va_up (fun j : Nat => if S.2.2.2.1 a j = -1 then none else some (ad (S.2.2.2.1 a j))) i.toNat (some (ad v)))))))) = eW ad cls (upP S a i v) C := by
    refine eW_set hb rfl ?_ (fun b hne => eC_ptrN hne)
    rw [eC_arrAU ht (by omega) hi.1 (by omega)]
  have hP2 : va_P D kCl (eW ad cls (upP S a i v) C) H1 := hset ▸ hP1
  have hD2 : va_D A (eW ad cls (upP S a i v) C) := hset ▸ hD1
  exact k p l e s m args below meth c R D A n0 ad0 sc0 QQ ad cls tys H1 locs1 cells slots jls ⟨hc, hr, ha, ⟨rK, hP2, hD2, hS1, rT, wf_ptr rW ⟨(by omega), hv.2⟩, rA, rE⟩, hL, ho3.2, hE⟩
theorem wp_aastoreN {d mc ms : Nat} {M : MD} {pc nx : Nat} {ls st : List MV} {S : MS} {C : MC} {Q : Int → MS → MC → Prop} {a i : Int} {t : Nat} {Cn : String} (hd : decode M.2.1 pc = .ok (.aastore, 1)) (hx : pc + 1 = nx) (hb : 0 ≤ a ∧ a < S.1) (hi : 0 ≤ i ∧ i < S.2.2.1 a) (ht : S.2.1 a = t) (ht2 : 24 ≤ t) (hty : aTy t = .object Cn) (k : Wp d mc ms M nx ls st (upP S a i (-1)) C Q) : Wp d mc ms M pc ls (cA (-1) :: cI i :: cA a :: st) S C Q := by
  intro p l e s m args below meth c R D A n0 ad0 sc0 QQ ad cls tys H locs cells slots jls G
  obtain ⟨hc, hr, ha, hR, hL, hst, hE⟩ := G
  obtain ⟨rK, rP, rD, rS, rT, rW, rA, rE⟩ := hR
  subst hx
  have ho := List.forall_mem_cons.mp hst
  have ho2 := List.forall_mem_cons.mp ho.2
  have ho3 := List.forall_mem_cons.mp ho2.2
  have hii : in32 i := ho2.1
  rw [List.map_cons, List.map_cons, List.map_cons, show eV ad (cA a) = .ref (ad a) from if_neg (show ¬ a = -1 by omega), show eV ad (cA (-1)) = .null from (if_pos rfl : (if (-1 : Int) = -1 then Value.null else .ref (ad (-1))) = .null)]
  obtain ⟨t0, ht0⟩ := rT a hb.1 hb.2 (by omega)
  rw [ht, hty] at ht0
  have he := eW_at (ad := ad) (cls := cls) (C := C) hb
  rw [eC_arrA ht (by omega)] at he
  refine va_astqN hc.1 hc.2.1 rK rP rD rS a.toNat t0 he ht0 (vpin hii hi.1 hi.2) hd (fun H1 locs1 hP1 hD1 hS1 => ?_)
  rw [clampI hii] at hP1 hD1
  have hset : (eW ad cls S C).set a.toNat (ad a, .inl (cls t, (S.2.2.1 a).toNat, .inr (.inr (.inr (.inr (va_up (fun j : Nat => if S.2.2.2.1 a j = -1 then none else some (ad (S.2.2.2.1 a j))) i.toNat none)))))) = eW ad cls (upP S a i (-1)) C := by
    refine eW_set hb rfl ?_ (fun b hne => eC_ptrN hne)
    rw [eC_arrA (S := upP S a i (-1)) ht (by omega)]
    congr 7
    funext j
    show (if upC S.2.2.2.1 a i (-1) a j = -1 then none else some (ad (upC S.2.2.2.1 a i (-1) a j))) = va_up _ _ _ j
    unfold va_up
    by_cases hj : j = i.toNat
    · have e : upC S.2.2.2.1 a i (-1) a j = -1 := by rw [upC_get, if_pos ⟨rfl, by omega⟩]
      rw [if_pos hj, e, if_pos rfl]
    · have e : upC S.2.2.2.1 a i (-1) a j = S.2.2.2.1 a j := by rw [upC_get, if_neg (fun z => hj (by have := z.2; omega))]
      rw [if_neg hj, e]
  have hP2 : va_P D kCl (eW ad cls (upP S a i (-1)) C) H1 := hset ▸ hP1
  have hD2 : va_D A (eW ad cls (upP S a i (-1)) C) := hset ▸ hD1
  have h0n := rW.1
  exact k p l e s m args below meth c R D A n0 ad0 sc0 QQ ad cls tys H1 locs1 cells slots jls ⟨hc, hr, ha, ⟨rK, hP2, hD2, hS1, rT, wf_ptr rW ⟨(by omega), (by omega)⟩, rA, rE⟩, hL, ho3.2, hE⟩
theorem wp_alen {d mc ms : Nat} {M : MD} {pc nx : Nat} {ls st : List MV} {S : MS} {C : MC} {Q : Int → MS → MC → Prop} {a : Int} (hd : decode M.2.1 pc = .ok (.arraylength, 1)) (hx : pc + 1 = nx) (hb : 0 ≤ a ∧ a < S.1) (ht : 20 ≤ S.2.1 a) (k : Wp d mc ms M nx ls (cI (S.2.2.1 a) :: st) S C Q) : Wp d mc ms M pc ls (cA a :: st) S C Q := by
  intro p l e s m args below meth c R D A n0 ad0 sc0 QQ ad cls tys H locs cells slots jls G
  obtain ⟨hc, hr, ha, hR, hL, hst, hE⟩ := G
  obtain ⟨rK, rP, rD, rS, rT, rW, rA, rE⟩ := hR
  subst hx
  have ho := List.forall_mem_cons.mp hst
  rw [List.map_cons, show eV ad (cA a) = .ref (ad a) from if_neg (show ¬ a = -1 by omega)]
  obtain ⟨t0, ht0⟩ := rT a hb.1 hb.2 ht
  have he := eW_at (ad := ad) (cls := cls) (C := C) hb
  have hl := rW.2.2.2 a
  have hx : ∃ x : vp_A, eC ad cls S C a = .inl (cls (S.2.1 a), x) ∧ x.1 = (S.2.2.1 a).toNat := by
    unfold eC
    rw [if_neg (by omega)]
    exact ⟨_, rfl, rfl⟩
  obtain ⟨x, hx1, hx2⟩ := hx
  rw [hx1] at he
  refine va_alen hc.1 hc.2.1 rK rP a.toNat t0 he ht0 (v := Int32.ofInt (S.2.2.1 a)) ?_ hd ?_
  · rw [hx2, ← Int32.ofInt_eq_ofNat, Int.toNat_of_nonneg hl.1]
  · exact k p l e s m args below meth c R D A n0 ad0 sc0 QQ ad cls tys H locs cells slots jls ⟨hc, hr, ha, ⟨rK, rP, rD, rS, rT, rW, rA, rE⟩, hL, List.forall_mem_cons.mpr ⟨(by show in32 (S.2.2.1 a); unfold in32; omega), ho.2⟩, hE⟩
