/-! 16.inv: how the class's cells and the reference's agree -/
abbrev Qt : Type := Int → MS → MC → Prop
theorem Wp.wf {d mc ms : Nat} {M : MD} {pc : Nat} {ls st : List MV} {S : MS} {C : MC} {Q : Qt} (h : wfS S C → (∀ v ∈ ls, v.1 < 3 → okV S.1 v) → Wp d mc ms M pc ls st S C Q) : Wp d mc ms M pc ls st S C Q := by
  intro p l e s m args below meth c R D A n0 ad0 sc0 QQ ad cls tys H locs cells slots jls G
  exact h G.2.2.2.1.2.2.2.2.2.1 G.2.2.2.2.1.2 p l e s m args below meth c R D A n0 ad0 sc0 QQ ad cls tys H locs cells slots jls G
theorem wf32 {S : MS} {C : MC} (h : wfS S C) {a : Int} (ha : S.2.1 a ≠ 21) (j : Int) : in32 (C a j) := by have := h.2.1 a j; rwa [if_neg ha] at this
theorem wf64 {S : MS} {C : MC} (h : wfS S C) {a : Int} (ha : S.2.1 a = 21) (j : Int) : in64 (C a j) := by have := h.2.1 a j; rwa [if_pos ha] at this
/-- houses, hands, reach -/
def Ra (C : MC) (a : Int) (κ : Int → Int) : Prop := C a 0 = κ 45 ∧ (0 ≤ κ 45 ∧ κ 45 ≤ 6) ∧ ∀ j, 0 ≤ j → j < 6 → C (a + 1) j = κ (25 + j) ∧ C (a + 2) j = κ (31 + j) ∧ (j < κ 45 → (1 ≤ κ (25 + j) ∧ κ (25 + j) ≤ 8) ∧ 0 ≤ κ (31 + j) ∧ κ (31 + j) ≤ 7)
/-- owners -/
def Rb (C : MC) (a : Int) (κ : Int → Int) : Prop := ∀ k, 0 ≤ k → k < 8 → C (a + 3) k = κ k ∧ -1 ≤ κ k ∧ κ k < κ 45
/-- music -/
def Rc (C : MC) (a : Int) (κ : Int → Int) : Prop := ∀ b, 0 ≤ b → b < 16 → C (a + 4) b = κ (8 + b) ∧ 0 ≤ κ (8 + b) ∧ κ (8 + b) ≤ 255
/-- the motif -/
def Rd (C : MC) (a : Int) (κ : Int → Int) : Prop := C a 6 = κ 46 ∧ (0 ≤ κ 46 ∧ κ 46 ≤ 6) ∧ ∀ i, 0 ≤ i → i < 6 → C (a + 5) i = κ (37 + i) ∧ 0 ≤ κ (37 + i) ∧ κ (37 + i) ≤ 255
/-- terms -/
def Rf (C : MC) (a : Int) (κ : Int → Int) : Prop := (C (a + 7) 0 = κ 24 ∧ 0 ≤ κ 24 ∧ κ 24 ≤ 999) ∧ (C (a + 7) 1 = κ 43 ∧ 0 ≤ κ 43 ∧ κ 43 ≤ 10) ∧ (C (a + 7) 2 = κ 44 ∧ 0 ≤ κ 44 ∧ κ 44 ≤ 9)
theorem Ra_cong {C C' : MC} {a : Int} {κ κ' : Int → Int} (h : Ra C a κ) (h0 : C' a 0 = C a 0) (h1 : C' (a + 1) = C (a + 1)) (h2 : C' (a + 2) = C (a + 2)) (hk : ∀ i, (25 ≤ i ∧ i < 37) ∨ i = 45 → κ' i = κ i) : Ra C' a κ' := by
  unfold Ra at h ⊢
  rw [h0, h1, h2, hk 45 (Or.inr rfl)]
  refine ⟨h.1, h.2.1, fun j x0 x1 => ?_⟩
  rw [hk (25 + j) (by omega), hk (31 + j) (by omega)]
  exact h.2.2 j x0 x1
theorem Rb_cong {C C' : MC} {a : Int} {κ κ' : Int → Int} (h : Rb C a κ) (h1 : C' (a + 3) = C (a + 3)) (hk : ∀ i, (0 ≤ i ∧ i < 8) ∨ i = 45 → κ' i = κ i) : Rb C' a κ' := by
  intro k x0 x1
  rw [h1, hk k (Or.inl ⟨x0, x1⟩), hk 45 (Or.inr rfl)]
  exact h k x0 x1
theorem Rc_cong {C C' : MC} {a : Int} {κ κ' : Int → Int} (h : Rc C a κ) (h1 : C' (a + 4) = C (a + 4)) (hk : ∀ i, (8 ≤ i ∧ i < 24) → κ' i = κ i) : Rc C' a κ' := by
  intro k x0 x1
  rw [h1, hk (8 + k) (by omega)]
  exact h k x0 x1
theorem Rd_cong {C C' : MC} {a : Int} {κ κ' : Int → Int} (h : Rd C a κ) (h0 : C' a 6 = C a 6) (h1 : C' (a + 5) = C (a + 5)) (hk : ∀ i, (37 ≤ i ∧ i < 43) ∨ i = 46 → κ' i = κ i) : Rd C' a κ' := by
  unfold Rd at h ⊢
  rw [h0, h1, hk 46 (Or.inr rfl)]
  refine ⟨h.1, h.2.1, fun j x0 x1 => ?_⟩
  rw [hk (37 + j) (by omega)]
  exact h.2.2 j x0 x1
theorem Rf_cong {C C' : MC} {a : Int} {κ κ' : Int → Int} (h : Rf C a κ) (h1 : C' (a + 7) = C (a + 7)) (hk : ∀ i, i = 24 ∨ i = 43 ∨ i = 44 → κ' i = κ i) : Rf C' a κ' := by
  unfold Rf at h ⊢
  rw [h1, hk 24 (Or.inl rfl), hk 43 (Or.inr (Or.inl rfl)), hk 44 (Or.inr (Or.inr rfl))]
  exact h
/-- refusals and the latest status -/
def IvR (C : MC) : Prop := C 0 16 = C 81 0 ∧ C 64 0 = C 82 1 ∧ C 64 1 = C 82 2 ∧ C 64 2 = C 82 3 ∧ C 64 3 = C 82 5 ∧ C 64 4 = C 82 6
/-- the tape -/
def IvT (C : MC) : Prop := C 27 1 = C 81 13 ∧ (0 ≤ C 27 1 ∧ C 27 1 ≤ 400) ∧ ∀ i, 0 ≤ i → i < C 27 1 → C 28 i = C 88 i ∧ -128 ≤ C 28 i ∧ C 28 i ≤ 127
/-- creaks, fault, stopped -/
def IvX (C : MC) : Prop := C 0 15 = C 81 6 ∧ C 29 11 = C 81 14 ∧ C 59 4 = C 81 43
/-- the latest evenings -/
def IvE (C : MC) : Prop := C 0 14 = C 81 51 ∧ (C 0 14 = 0 ∨ C 0 14 = 1) ∧ (C 0 14 = 1 → (∀ k, 0 ≤ k → k < 8 → C 20 k = C 107 k) ∧ ∀ b, 0 ≤ b → b < 16 → C 21 b = C 107 (8 + b))
/-- calls that only read -/
theorem q_creaks {d : Nat} {S : MS} {C : MC} {P : Int → Int → MC → Prop} (F : Fix S) (h : IvX C) (k : P (C 0 15) (C 0 15) C) : K_X10_creaks_0 d 0 0 S C (fun r Sq C2 => Sq = S ∧ K_X11_creaks_0 d 0 0 S C2 (fun r2 Sq C3 => Sq = S ∧ P r r2 C3)) :=
  b_X10_creaks_0 F ⟨rfl, b_X11_creaks_0 F ⟨rfl, by rw [← h.1]; exact k⟩⟩
theorem q_fault {d : Nat} {S : MS} {C : MC} {P : Int → Int → MC → Prop} (F : Fix S) (h : IvX C) (k : ∀ r, P r r C) : K_X10_fault_0 d 0 0 S C (fun r Sq C2 => Sq = S ∧ K_X11_fault_0 d 0 0 S C2 (fun r2 Sq C3 => Sq = S ∧ P r r2 C3)) :=
  b_X10_fault_0 F ⟨rfl, b_X11_fault_0 F ⟨rfl, by rw [h.2.1]; exact k _⟩⟩
theorem q_stopped {d : Nat} {S : MS} {C : MC} {P : Int → Int → MC → Prop} (F : Fix S) (h : IvX C) (k : ∀ r, P r r C) : K_X10_stopped_0 d 0 0 S C (fun r Sq C2 => Sq = S ∧ K_X11_stopped_0 d 0 0 S C2 (fun r2 Sq C3 => Sq = S ∧ P r r2 C3)) :=
  b_X10_stopped_0 F ⟨rfl, b_X11_stopped_0 F ⟨rfl, by rw [h.2.2]; exact k _⟩⟩
theorem q_status {d : Nat} {S : MS} {C : MC} {P : Int → Int → MC → Prop} (F : Fix S) (h : IvR C) (k : ∀ r, P r r C) : K_X10_status_0 d 0 0 S C (fun r Sq C2 => Sq = S ∧ K_X11_status_0 d 0 0 S C2 (fun r2 Sq C3 => Sq = S ∧ P r r2 C3)) :=
  b_X10_status_0 F ⟨rfl, b_X11_status_0 F ⟨rfl, by rw [h.1]; exact k _⟩⟩
