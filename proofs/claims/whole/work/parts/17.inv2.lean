/-! 17.inv2: the whole invariant -/
/-- a text's rows are of one length -/
def LnT (S : MS) (t : Int) : Prop := S.2.2.1 (t + 2) = S.2.2.1 (t + 1) ∧ S.2.2.1 (t + 3) = S.2.2.1 (t + 1) ∧ S.2.2.1 (t + 4) = S.2.2.1 (t + 1) ∧ S.2.2.1 (t + 5) = S.2.2.1 (t + 1)
def LawRel (S : MS) (C : MC) (t : Int) (κ : Int → Int) (i : Int) : Prop := (TxO S t ∧ 108 ≤ t) ∧ (0 ≤ κ (49 + i) ∧ κ (49 + i) ≤ 400) ∧ LawSem (fun a : Nat => C (t + a)) (S.2.2.1 (t + 1)) (S.2.2.1 (t + 6)) (toks κ i) ∧ LnT S t
/-- laws -/
def Re (S : MS) (C : MC) (a : Int) (κ : Int → Int) : Prop := (C a 8 = κ 47 ∧ 0 ≤ κ 47 ∧ κ 47 ≤ 6) ∧ (C a 9 = κ 48 ∧ -1 ≤ κ 48 ∧ κ 48 < κ 47) ∧ (∀ t, 0 ≤ t → t < 6 → S.2.2.2.1 (a + 6) t = -1 ∨ (TxO S (S.2.2.2.1 (a + 6) t) ∧ 108 ≤ S.2.2.2.1 (a + 6) t)) ∧ ∀ t, 0 ≤ t → t < κ 47 → LawRel S C (S.2.2.2.1 (a + 6) t) κ t
def lwI (j : Int) : Prop := (49 ≤ j ∧ j < 55) ∨ (56 ≤ j ∧ j < 2456) ∨ (2856 ≤ j ∧ j < 5256)
theorem toks_cong {κ κ' : Int → Int} {i : Int} (hz : κ (49 + i) ≤ 400) (hi : 0 ≤ i ∧ i < 6) (hk : ∀ j, lwI j → κ' j = κ j) : toks κ' i = toks κ i := by
  unfold toks
  unfold lwI at hk
  rw [hk (49 + i) (by omega)]
  apply List.map_congr_left
  intro j hj
  have := List.mem_range.mp hj
  rw [hk _ (by omega), hk _ (by omega)]
theorem LawRel_cong {S : MS} {C C' : MC} {t i : Int} {κ κ' : Int → Int} (h : LawRel S C t κ i) (hi : 0 ≤ i ∧ i < 6) (hc : ∀ a, 108 ≤ a → C' a = C a) (hk : ∀ j, lwI j → κ' j = κ j) : LawRel S C' t κ' i := by
  obtain ⟨h1, h3, h2⟩ := h
  unfold LawRel
  rw [toks_cong h3.2 hi hk, hk (49 + i) (by unfold lwI; omega)]
  have e : (fun a : Nat => C' (t + a)) = (fun a : Nat => C (t + a)) := funext fun a => hc _ (by omega)
  rw [e]
  exact ⟨h1, h3, h2⟩
theorem Re_cong {S : MS} {C C' : MC} {a : Int} {κ κ' : Int → Int} (h : Re S C a κ) (h0 : C' a 8 = C a 8) (h1 : C' a 9 = C a 9) (hc : ∀ b, 108 ≤ b → C' b = C b) (hk : ∀ i, i = 47 ∨ i = 48 ∨ lwI i → κ' i = κ i) : Re S C' a κ' := by
  unfold Re at h ⊢
  rw [h0, h1, hk 47 (by omega), hk 48 (by omega)]
  refine ⟨h.1, h.2.1, h.2.2.1, fun t x0 x1 => LawRel_cong (h.2.2.2 t x0 x1) ⟨x0, by omega⟩ hc (fun j hj => hk j (Or.inr (Or.inr hj)))⟩
def RS (S : MS) (C : MC) (a : Int) (κ : Int → Int) : Prop := Ra C a κ ∧ Rb C a κ ∧ Rc C a κ ∧ Rd C a κ ∧ Re S C a κ ∧ Rf C a κ
theorem RS_cong {S : MS} {C C' : MC} {a : Int} {κ κ' : Int → Int} (h : RS S C a κ) (h0 : ∀ j, 0 ≤ j → j < 8 → C' (a + j) = C (a + j)) (hc : ∀ b, 108 ≤ b → C' b = C b) (hk : ∀ i, κ' i = κ i) : RS S C' a κ' := by
  have e0 : C' a = C a := by have := h0 0 (by omega) (by omega); rwa [Int.add_zero] at this
  obtain ⟨h1, h2, h3, h4, h5, h6⟩ := h
  exact ⟨Ra_cong h1 (by rw [e0]) (h0 1 (by omega) (by omega)) (h0 2 (by omega) (by omega)) (fun i _ => hk i), Rb_cong h2 (h0 3 (by omega) (by omega)) (fun i _ => hk i), Rc_cong h3 (h0 4 (by omega) (by omega)) (fun i _ => hk i), Rd_cong h4 (by rw [e0]) (h0 5 (by omega) (by omega)) (fun i _ => hk i), Re_cong h5 (by rw [e0]) (by rw [e0]) hc (fun i _ => hk i), Rf_cong h6 (h0 7 (by omega) (by omega)) (fun i _ => hk i)⟩
/-- images -/
def IvI (S : MS) (C : MC) : Prop := ∀ k, 0 ≤ k → k < 2 → (C 26 k = C 85 k ∧ (C 26 k = 0 ∨ C 26 k = 1)) ∧ (C 26 k = 1 → RS S C (65 + 8 * k) (fun i => C 84 (5656 * k + i)))
theorem IvI_cong {S : MS} {C C' : MC} (h : IvI S C) (h1 : C' 26 = C 26) (h2 : C' 85 = C 85) (h3 : C' 84 = C 84) (h4 : ∀ b, 65 ≤ b → b < 81 → C' b = C b) (hc : ∀ b, 108 ≤ b → C' b = C b) : IvI S C' := by
  intro k x0 x1
  rw [h1, h2]
  refine ⟨(h k x0 x1).1, fun e => RS_cong ((h k x0 x1).2 e) (fun j y0 y1 => h4 _ (by omega) (by omega)) hc (fun i => by rw [h3])⟩
/-- one change and the state ahead of it -/
def UStep (kind f g : Int) (now was : Int → Int) : Prop :=
  (kind = 0 ∧ (0 ≤ f ∧ f < 8) ∧ (0 ≤ g ∧ g < 16) ∧ was (8 + g) = iXor (now (8 + g)) (iShl 1 f) ∧ ∀ i, 0 ≤ i → i < 25 → i ≠ 8 + g → was i = now i) ∨
  (kind = 1 ∧ (0 ≤ f ∧ f < 8) ∧ was f = g ∧ ∀ i, 0 ≤ i → i < 25 → i ≠ f → was i = now i) ∨
  (kind = 2 ∧ (-7 ≤ f ∧ f ≤ 7 ∧ f ≠ 0) ∧ (∀ b, 0 ≤ b → b < 16 → (f < 0 → was (8 + b) = iShl (now (8 + b)) (-f)) ∧ (0 < f → was (8 + b) = iShr (now (8 + b)) f) ∧ (f < 0 → iShl (now (8 + b)) (-f) ≤ 255) ∧ (0 < f → iShl (iShr (now (8 + b)) f) f = now (8 + b))) ∧ ∀ i, 0 ≤ i → i < 25 → i < 8 ∨ 24 ≤ i → was i = now i) ∨
  (kind = 3 ∧ was 24 = now 24 - 1 ∧ ∀ i, 0 ≤ i → i < 24 → was i = now i)
/-- a state that may stand among those to be gone back to -/
def UOk (many : Int) (w : Int → Int) : Prop := (∀ k, 0 ≤ k → k < 8 → -1 ≤ w k ∧ w k < many) ∧ (∀ b, 8 ≤ b → b < 24 → 0 ≤ w b ∧ w b ≤ 255) ∧ 0 ≤ w 24 ∧ w 24 ≤ 999
def uSt (C : MC) (n j : Int) : Int → Int := fun i => if j = n then C 83 i else C 104 (26 * j + i)
/-- what can be undone -/
def IvU (C : MC) : Prop := C 55 3 = C 81 42 ∧ (0 ≤ C 55 3 ∧ C 55 3 ≤ 16) ∧ ∀ j, 0 ≤ j → j < C 55 3 → C 104 (26 * j + 25) = C 56 j ∧ UStep (C 56 j) (C 57 j) (C 58 j) (uSt C (C 55 3) (j + 1)) (uSt C (C 55 3) j) ∧ UOk (C 83 45) (uSt C (C 55 3) j)
theorem uSt_cong {C C' : MC} {n j : Int} (h1 : ∀ i, 0 ≤ i → i < 25 → C' 83 i = C 83 i) (h2 : C' 104 = C 104) : ∀ i, 0 ≤ i → i < 25 → uSt C' n j i = uSt C n j i := by
  intro i x0 x1
  unfold uSt
  rw [h1 i x0 x1, h2]
theorem UStep_cong {kind f g : Int} {now was now' was' : Int → Int} (h : UStep kind f g now was) (h1 : ∀ i, 0 ≤ i → i < 25 → now' i = now i) (h2 : ∀ i, 0 ≤ i → i < 25 → was' i = was i) : UStep kind f g now' was' := by
  rcases h with ⟨a, b, c, e, q⟩ | ⟨a, b, e, q⟩ | ⟨a, b, e, q⟩ | ⟨a, e, q⟩
  · refine Or.inl ⟨a, b, c, by rw [h1 _ (by omega) (by omega), h2 _ (by omega) (by omega)]; exact e, fun i x0 x1 x2 => by rw [h1 i x0 x1, h2 i x0 x1]; exact q i x0 x1 x2⟩
  · refine Or.inr (Or.inl ⟨a, b, by rw [h2 _ (by omega) (by omega)]; exact e, fun i x0 x1 x2 => by rw [h1 i x0 x1, h2 i x0 x1]; exact q i x0 x1 x2⟩)
  · refine Or.inr (Or.inr (Or.inl ⟨a, b, fun b x0 x1 => by rw [h1 _ (by omega) (by omega), h2 _ (by omega) (by omega)]; exact e b x0 x1, fun i x0 x1 x2 => by rw [h1 i x0 x1, h2 i x0 x1]; exact q i x0 x1 x2⟩))
  · refine Or.inr (Or.inr (Or.inr ⟨a, by rw [h1 _ (by omega) (by omega), h2 _ (by omega) (by omega)]; exact e, fun i x0 x1 => by rw [h1 i x0 (by omega), h2 i x0 (by omega)]; exact q i x0 x1⟩))
theorem UOk_cong {m : Int} {w w' : Int → Int} (h : UOk m w) (h1 : ∀ i, 0 ≤ i → i < 25 → w' i = w i) : UOk m w' :=
  ⟨fun k x0 x1 => by rw [h1 k x0 (by omega)]; exact h.1 k x0 x1, fun b x0 x1 => by rw [h1 b (by omega) (by omega)]; exact h.2.1 b x0 x1, by rw [h1 24 (by omega) (by omega)]; exact h.2.2⟩
theorem IvU_cong {C C' : MC} (h : IvU C) (h1 : C' 55 3 = C 55 3) (h2 : C' 81 42 = C 81 42) (h3 : ∀ i, (0 ≤ i ∧ i < 25) ∨ i = 45 → C' 83 i = C 83 i) (h4 : C' 104 = C 104) (h5 : C' 56 = C 56) (h6 : C' 57 = C 57) (h7 : C' 58 = C 58) : IvU C' := by
  unfold IvU at h ⊢
  rw [h1, h2, h4, h5, h6, h7, h3 45 (Or.inr rfl)]
  refine ⟨h.1, h.2.1, fun j x0 x1 => ?_⟩
  obtain ⟨a, b, c⟩ := h.2.2 j x0 x1
  have q : ∀ n j i, 0 ≤ i → i < 25 → uSt C' n j i = uSt C n j i := fun n j => uSt_cong (fun i y0 y1 => h3 i (Or.inl ⟨y0, y1⟩)) h4
  exact ⟨a, UStep_cong b (q _ _) (q _ _), UOk_cong c (q _ _)⟩
theorem IvU_none {C : MC} (h1 : C 55 3 = 0) (h2 : C 81 42 = 0) : IvU C := ⟨by rw [h1, h2], by omega, fun j x0 x1 => by omega⟩
/-- the reference's words -/
def wmL : List Int := [109, 105, 110, 100, 115, 32, 108, 101, 110, 100, 115, 32, 98, 97, 114, 115, 32, 105, 102, 32, 111, 114, 32, 97, 110, 100, 32, 110, 111, 116, 32, 104, 111, 117, 115, 101, 32, 107, 101, 121, 32, 98, 101, 97, 116, 32, 104, 97, 110, 100, 115, 32, 114, 101, 97, 99, 104, 32, 109, 111, 111, 100, 32, 111, 119, 110, 101, 114, 32, 100, 97, 121, 32, 100, 111, 110, 101, 32, 108, 97, 116, 101, 115, 116, 32, 100, 114, 105, 108, 108, 32, 110, 111, 116, 101, 115, 32, 109, 117, 115, 105, 99, 32, 110, 111, 116, 101, 32, 97, 116, 32, 103, 105, 118, 101, 32, 116, 111, 32, 115, 104, 105, 102, 116, 32, 112, 97, 115, 115, 32, 116, 105, 109, 101, 115, 32]
def IvW (C : MC) : Prop := ∀ i, 0 ≤ i → i < 136 → C 87 i = wmL.getD i.toNat 0
def Inv (S : MS) (C : MC) : Prop := Fix S ∧ RS S C 1 (C 83) ∧ IvI S C ∧ IvR C ∧ IvT C ∧ IvX C ∧ IvU C ∧ IvE C ∧ IvW C
theorem IvR_cong {C C' : MC} (h : IvR C) (h1 : C' 0 16 = C 0 16) (h2 : C' 81 0 = C 81 0) (h3 : C' 64 = C 64) (h4 : C' 82 = C 82) : IvR C' := by unfold IvR at h ⊢; rw [h1, h2, h3, h4]; exact h
theorem IvT_cong {C C' : MC} (h : IvT C) (h1 : C' 27 1 = C 27 1) (h2 : C' 81 13 = C 81 13) (h3 : C' 28 = C 28) (h4 : C' 88 = C 88) : IvT C' := by unfold IvT at h ⊢; rw [h1, h2, h3, h4]; exact h
theorem IvX_cong {C C' : MC} (h : IvX C) (h1 : C' 0 15 = C 0 15) (h2 : C' 81 6 = C 81 6) (h3 : C' 29 11 = C 29 11) (h4 : C' 81 14 = C 81 14) (h5 : C' 59 4 = C 59 4) (h6 : C' 81 43 = C 81 43) : IvX C' := by unfold IvX at h ⊢; rw [h1, h2, h3, h4, h5, h6]; exact h
theorem IvE_cong {C C' : MC} (h : IvE C) (h1 : C' 0 14 = C 0 14) (h2 : C' 81 51 = C 81 51) (h3 : C' 20 = C 20) (h4 : C' 21 = C 21) (h5 : C' 107 = C 107) : IvE C' := by unfold IvE at h ⊢; rw [h1, h2, h3, h4, h5]; exact h
theorem IvW_cong {C C' : MC} (h : IvW C) (h1 : C' 87 = C 87) : IvW C' := by unfold IvW at h ⊢; rw [h1]; exact h
