/-! 20.frame: what a list of changed places leaves as it was -/
abbrev ChL : Type := List (Int × Option Int)
def chg (L : ChL) (a k : Int) : Bool := L.any (fun p => decide (p.1 = a) && (match p.2 with | none => true | some j => decide (j = k)))
def Fr (L : ChL) (C C' : MC) : Prop := ∀ a k, chg L a k = false → C' a k = C a k
theorem Fr_rf {L : ChL} {C : MC} : Fr L C C := fun _ _ _ => rfl
theorem Fr_up {L : ChL} {C C' : MC} {a k v : Int} (hc : chg L a k = true) (h : Fr L C C') : Fr L C (upC C' a k v) := by
  intro b j hb
  rw [upC_get, if_neg (fun z => by rw [z.1, z.2, hc] at hb; cases hb)]
  exact h b j hb
theorem Fr_tr {L : ChL} {C C' C'' : MC} (h : Fr L C C') (h2 : Fr L C' C'') : Fr L C C'' := fun a k hc => (h2 a k hc).trans (h a k hc)
def fR (L : ChL) (a : Int) : Bool := L.all (fun p => decide (p.1 ≠ a))
theorem chg_fR {L : ChL} {a : Int} (h : fR L a = true) (k : Int) : chg L a k = false := by
  unfold chg
  rw [List.any_eq_false]
  intro p hp
  have := of_decide_eq_true (List.all_eq_true.mp h p hp)
  simp [this]
theorem fr_row {L : ChL} {C C' : MC} {a : Int} (h : Fr L C C') (hd : fR L a = true) : C' a = C a := funext fun k => h a k (chg_fR hd k)
def fRs (L : ChL) (lo : Int) (n : Nat) : Bool := (List.range n).all (fun j => fR L (lo + j))
theorem fr_rows {L : ChL} {C C' : MC} {lo : Int} {n : Nat} (h : Fr L C C') (hd : fRs L lo n = true) (b : Int) (h0 : lo ≤ b) (h1 : b < lo + n) : C' b = C b := by
  have := List.all_eq_true.mp hd (b - lo).toNat (List.mem_range.mpr (by omega))
  rw [show lo + (((b - lo).toNat : Nat) : Int) = b by omega] at this
  exact fr_row h this
def fLo (L : ChL) : Bool := L.all (fun p => decide (p.1 < 108))
theorem fr_lo {L : ChL} {C C' : MC} (h : Fr L C C') (hd : fLo L = true) : Lo C C' := by
  intro b hb
  refine fr_row h ?_
  unfold fR
  rw [List.all_eq_true]
  intro p hp
  have := of_decide_eq_true (List.all_eq_true.mp hd p hp)
  exact decide_eq_true (by omega)
def fK (L : ChL) (a lo : Int) (n : Nat) : Bool := (List.range n).all (fun j => !chg L a (lo + j))
theorem fr_k {L : ChL} {C C' : MC} {a lo : Int} {n : Nat} (h : Fr L C C') (hd : fK L a lo n = true) (i : Int) (h0 : lo ≤ i) (h1 : i < lo + n) : C' a i = C a i := by
  have := List.all_eq_true.mp hd (i - lo).toNat (List.mem_range.mpr (by omega))
  rw [show lo + (((i - lo).toNat : Nat) : Int) = i by omega] at this
  exact h a i (by simpa using this)
/-- changes of row 83 stay below 49, or the row is free -/
def fHi (L : ChL) (m : Int) : Bool := L.all (fun p => decide (p.1 ≠ 83) || (match p.2 with | none => false | some j => decide (j < m)))
theorem fr_hi {L : ChL} {C C' : MC} {m : Int} (h : Fr L C C') (hd : fHi L m = true) (i : Int) (h0 : m ≤ i) : C' 83 i = C 83 i := by
  refine h 83 i ?_
  unfold chg
  rw [List.any_eq_false]
  intro p hp
  have := List.all_eq_true.mp hd p hp
  simp only [Bool.or_eq_true, decide_eq_true_eq] at this
  rcases this with e | e
  · simp [e]
  · cases hq : p.2 with
    | none => rw [hq] at e; simp at e
    | some j => rw [hq] at e; simp at e; simp; intro _; omega
theorem Ra_fr {L : ChL} {C C' : MC} (a : Ra C 1 (C 83)) (h : Fr L C C') (hd : (!chg L 1 0 && fR L 2 && fR L 3 && fK L 83 25 12 && !chg L 83 45) = true) : Ra C' 1 (C' 83) := by
  simp only [Bool.and_eq_true, Bool.not_eq_true'] at hd
  obtain ⟨⟨⟨⟨h1, h2⟩, h3⟩, h4⟩, h5⟩ := hd
  exact Ra_cong a (h _ _ h1) (fr_row h h2) (fr_row h h3) (fun i hi => hi.elim (fun hi => fr_k h h4 i hi.1 hi.2) (fun e => by rw [e]; exact h _ _ h5))
theorem Rb_fr {L : ChL} {C C' : MC} (a : Rb C 1 (C 83)) (h : Fr L C C') (hd : (fR L 4 && fK L 83 0 8 && !chg L 83 45) = true) : Rb C' 1 (C' 83) := by
  simp only [Bool.and_eq_true, Bool.not_eq_true'] at hd
  obtain ⟨⟨h1, h2⟩, h3⟩ := hd
  exact Rb_cong a (fr_row h h1) (fun i hi => hi.elim (fun hi => fr_k h h2 i hi.1 hi.2) (fun e => by rw [e]; exact h _ _ h3))
theorem Rc_fr {L : ChL} {C C' : MC} (a : Rc C 1 (C 83)) (h : Fr L C C') (hd : (fR L 5 && fK L 83 8 16) = true) : Rc C' 1 (C' 83) := by
  simp only [Bool.and_eq_true] at hd
  exact Rc_cong a (fr_row h hd.1) (fun i hi => fr_k h hd.2 i hi.1 hi.2)
theorem Rd_fr {L : ChL} {C C' : MC} (a : Rd C 1 (C 83)) (h : Fr L C C') (hd : (!chg L 1 6 && fR L 6 && fK L 83 37 6 && !chg L 83 46) = true) : Rd C' 1 (C' 83) := by
  simp only [Bool.and_eq_true, Bool.not_eq_true'] at hd
  obtain ⟨⟨⟨h1, h2⟩, h3⟩, h4⟩ := hd
  exact Rd_cong a (h _ _ h1) (fr_row h h2) (fun i hi => hi.elim (fun hi => fr_k h h3 i hi.1 hi.2) (fun e => by rw [e]; exact h _ _ h4))
theorem Re_fr {L : ChL} {S : MS} {C C' : MC} (a : Re S C 1 (C 83)) (h : Fr L C C') (hd : (!chg L 1 8 && !chg L 1 9 && fLo L && fHi L 47) = true) : Re S C' 1 (C' 83) := by
  simp only [Bool.and_eq_true, Bool.not_eq_true'] at hd
  obtain ⟨⟨⟨h1, h2⟩, h3⟩, h4⟩ := hd
  exact Re_cong a (h _ _ h1) (h _ _ h2) (fr_lo h h3) (fun i hi => fr_hi h h4 i hi)
theorem Rf_fr {L : ChL} {C C' : MC} (a : Rf C 1 (C 83)) (h : Fr L C C') (hd : (fR L 8 && !chg L 83 24 && !chg L 83 43 && !chg L 83 44) = true) : Rf C' 1 (C' 83) := by
  simp only [Bool.and_eq_true, Bool.not_eq_true'] at hd
  obtain ⟨⟨⟨h1, h2⟩, h3⟩, h4⟩ := hd
  exact Rf_cong a (fr_row h h1) (fun i hi => hi.elim (fun e => by rw [e]; exact h _ _ h2) (fun hi => hi.elim (fun e => by rw [e]; exact h _ _ h3) (fun e => by rw [e]; exact h _ _ h4)))
theorem IvR_fr {L : ChL} {C C' : MC} (a : IvR C) (h : Fr L C C') (hd : (!chg L 0 16 && !chg L 81 0 && fR L 64 && fR L 82) = true) : IvR C' := by
  simp only [Bool.and_eq_true, Bool.not_eq_true'] at hd
  obtain ⟨⟨⟨h1, h2⟩, h3⟩, h4⟩ := hd
  exact IvR_cong a (h _ _ h1) (h _ _ h2) (fr_row h h3) (fr_row h h4)
theorem IvR_ac {L : ChL} {C C' : MC} (a : IvR C) (h : Fr L C C') (h1 : C' 0 16 = 0) (h2 : C' 81 0 = 0) (hd : (fR L 64 && fR L 82) = true) : IvR C' := by
  simp only [Bool.and_eq_true] at hd
  exact IvR_acc a h1 h2 (fr_row h hd.1) (fr_row h hd.2)
theorem IvT_fr {L : ChL} {C C' : MC} (a : IvT C) (h : Fr L C C') (hd : (!chg L 27 1 && !chg L 81 13 && fR L 28 && fR L 88) = true) : IvT C' := by
  simp only [Bool.and_eq_true, Bool.not_eq_true'] at hd
  obtain ⟨⟨⟨h1, h2⟩, h3⟩, h4⟩ := hd
  exact IvT_cong a (h _ _ h1) (h _ _ h2) (fr_row h h3) (fr_row h h4)
theorem IvX_fr {L : ChL} {C C' : MC} (a : IvX C) (h : Fr L C C') (hd : (!chg L 0 15 && !chg L 81 6 && !chg L 29 11 && !chg L 81 14 && !chg L 59 4 && !chg L 81 43) = true) : IvX C' := by
  simp only [Bool.and_eq_true, Bool.not_eq_true'] at hd
  obtain ⟨⟨⟨⟨⟨h1, h2⟩, h3⟩, h4⟩, h5⟩, h6⟩ := hd
  exact IvX_cong a (h _ _ h1) (h _ _ h2) (h _ _ h3) (h _ _ h4) (h _ _ h5) (h _ _ h6)
theorem IvU_fr {L : ChL} {C C' : MC} (a : IvU C) (h : Fr L C C') (hd : (!chg L 55 3 && !chg L 81 42 && fK L 83 0 25 && !chg L 83 45 && fR L 104 && fR L 56 && fR L 57 && fR L 58) = true) : IvU C' := by
  simp only [Bool.and_eq_true, Bool.not_eq_true'] at hd
  obtain ⟨⟨⟨⟨⟨⟨⟨h1, h2⟩, h3⟩, h4⟩, h5⟩, h6⟩, h7⟩, h8⟩ := hd
  exact IvU_cong a (h _ _ h1) (h _ _ h2) (fun i hi => hi.elim (fun hi => fr_k h h3 i hi.1 hi.2) (fun e => by rw [e]; exact h _ _ h4)) (fr_row h h5) (fr_row h h6) (fr_row h h7) (fr_row h h8)
theorem Inv_fr {L : ChL} {S : MS} {C C' : MC} (I : Inv S C) (h : Fr L C C') (hd : (fLo L && fR L 26 && fR L 85 && fR L 84 && fRs L 65 16 && !chg L 0 14 && !chg L 81 51 && fR L 20 && fR L 21 && fR L 107 && fR L 87) = true) (hN : RS S C' 1 (C' 83)) (hR : IvR C') (hT : IvT C') (hX : IvX C') (hU : IvU C') : Inv S C' := by
  simp only [Bool.and_eq_true, Bool.not_eq_true'] at hd
  obtain ⟨⟨⟨⟨⟨⟨⟨⟨⟨⟨h1, h2⟩, h3⟩, h4⟩, h5⟩, h6⟩, h7⟩, h8⟩, h9⟩, h10⟩, h11⟩ := hd
  exact Inv_mk I (fr_lo h h1) hN hR hT hX hU ⟨fr_row h h2, fr_row h h3, fr_row h h4, fun b x0 x1 => fr_rows h h5 b x0 x1⟩ ⟨h _ _ h6, h _ _ h7, fr_row h h8, fr_row h h9, fr_row h h10⟩ (fr_row h h11)
