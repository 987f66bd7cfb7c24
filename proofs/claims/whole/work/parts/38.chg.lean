/-! 38.chg: changes, as pure mathematics, in the class and in the reference -/
def updF (w : Int → Int) (i v : Int) : Int → Int := fun j => if j = i then v else w j
theorem updF_at (w : Int → Int) (i v : Int) : updF w i v i = v := if_pos rfl
theorem updF_ne {w : Int → Int} {i v j : Int} (h : j ≠ i) : updF w i v j = w j := if_neg h
def canSh (w : Int → Int) (f : Int) : Prop := ∀ b : Int, 0 ≤ b → b < 16 → shN (w (8 + b)) f ≠ -1
def shW (w : Int → Int) (f : Int) : Int → Int := fun i => if 8 ≤ i ∧ i < 24 then shN (w i) f else w i
/-- what a change tells, or by what it is refused -/
def Tld (m kind f g : Int) (w : Int → Int) (t : Int) : Prop :=
  (kind = 0 ∧ (((0 ≤ f ∧ f < 8) ∧ 0 ≤ g ∧ g < 16) ∧ t = iXor (w (8 + g)) (iShl 1 f) ∨ ¬ ((0 ≤ f ∧ f < 8) ∧ 0 ≤ g ∧ g < 16) ∧ t = -1)) ∨
  (kind = 1 ∧ ((0 ≤ f ∧ f < 8) ∧ ((g = -1 ∨ 0 ≤ g ∧ g < m) ∧ (w f = g ∧ t = -3 ∨ ¬ w f = g ∧ (w f = -1 ∧ t = 6 ∨ ¬ w f = -1 ∧ t = w f)) ∨ ¬ (g = -1 ∨ 0 ≤ g ∧ g < m) ∧ t = -2) ∨ ¬ (0 ≤ f ∧ f < 8) ∧ t = -1)) ∨
  (kind = 2 ∧ ((-7 ≤ f ∧ f ≤ 7 ∧ f ≠ 0) ∧ (canSh w f ∧ t = ntn (fun b => shN (w (8 + b)) f) 16 ∨ ¬ canSh w f ∧ t = -3) ∨ ¬ (-7 ≤ f ∧ f ≤ 7 ∧ f ≠ 0) ∧ t = -1)) ∨
  (kind = 3 ∧ (w 24 < 999 ∧ t = w 24 + 1 ∨ ¬ w 24 < 999 ∧ t = -3))
def chW (kind f g : Int) (w : Int → Int) : Int → Int :=
  if kind = 0 then updF w (8 + g) (iXor (w (8 + g)) (iShl 1 f)) else if kind = 1 then updF w f g else if kind = 2 then shW w f else updF w 24 (w 24 + 1)
theorem Tld_uniq {m kind f g t t' : Int} {w : Int → Int} (h : Tld m kind f g w t) (h' : Tld m kind f g w t') : t = t' := by
  unfold Tld at h h'
  rcases h with ⟨k, h⟩ | ⟨k, h⟩ | ⟨k, h⟩ | ⟨k, h⟩ <;> rcases h' with ⟨k', h'⟩ | ⟨k', h'⟩ | ⟨k', h'⟩ | ⟨k', h'⟩ <;> first | omega | skip
  rcases h with ⟨_, ⟨a, h⟩ | ⟨a, h⟩⟩ | ⟨_, h⟩ <;> rcases h' with ⟨_, ⟨a', h'⟩ | ⟨a', h'⟩⟩ | ⟨_, h'⟩ <;> first | exact absurd a a' | exact absurd a' a | omega
set_option maxRecDepth 100000 in
theorem xor_all : ∀ a : Nat, a < 256 → ∀ k : Nat, k < 8 → (0 ≤ iXor (a : Int) (iShl 1 (k : Int)) ∧ iXor (a : Int) (iShl 1 (k : Int)) ≤ 255) ∧ iXor (iXor (a : Int) (iShl 1 (k : Int))) (iShl 1 (k : Int)) = a := by decide +kernel
theorem xor_ok {x k : Int} (hx : 0 ≤ x ∧ x ≤ 255) (hk : 0 ≤ k ∧ k < 8) : (0 ≤ iXor x (iShl 1 k) ∧ iXor x (iShl 1 k) ≤ 255) ∧ iXor (iXor x (iShl 1 k)) (iShl 1 k) = x := by
  have := xor_all x.toNat (by omega) k.toNat (by omega)
  rwa [Int.toNat_of_nonneg hx.1, Int.toNat_of_nonneg hk.1] at this
def shT (x f : Int) : Bool := shN x f == -1 || (decide (0 ≤ shN x f) && decide (shN x f ≤ 255) && shN (shN x f) (-f) == x && (decide (0 ≤ f) || (x == iShl (shN x f) (-f) && decide (iShl (shN x f) (-f) ≤ 255))) && (decide (f ≤ 0) || (x == iShr (shN x f) f && iShl (iShr (shN x f) f) f == shN x f)))
set_option maxRecDepth 100000 in
theorem shT_all : ∀ a : Nat, a < 256 → ∀ j : Nat, j < 15 → shT (a : Int) ((j : Int) - 7) = true := by decide +kernel
theorem shN_ok {x f : Int} (hx : 0 ≤ x ∧ x ≤ 255) (hf : -7 ≤ f ∧ f ≤ 7) (h : shN x f ≠ -1) : (0 ≤ shN x f ∧ shN x f ≤ 255) ∧ shN (shN x f) (-f) = x ∧ (f < 0 → x = iShl (shN x f) (-f) ∧ iShl (shN x f) (-f) ≤ 255) ∧ (0 < f → x = iShr (shN x f) f ∧ iShl (iShr (shN x f) f) f = shN x f) := by
  have := shT_all x.toNat (by omega) (f + 7).toNat (by omega)
  rw [Int.toNat_of_nonneg hx.1, Int.toNat_of_nonneg (by omega : 0 ≤ f + 7), show f + 7 - 7 = f by omega] at this
  unfold shT at this
  simp only [Bool.or_eq_true, Bool.and_eq_true, beq_iff_eq, decide_eq_true_eq] at this
  rcases this with q | ⟨⟨⟨⟨q1, q2⟩, q3⟩, q4⟩, q5⟩
  · exact absurd q h
  · refine ⟨⟨q1, q2⟩, q3, fun z => ?_, fun z => ?_⟩
    · rcases q4 with q | q
      · omega
      · exact q
    · rcases q5 with q | q
      · omega
      · exact q
/-- what the class stores of a change -/
theorem ch_step {m kind f g t : Int} {w : Int → Int} (hw : UOk m w) (h : Tld m kind f g w t) (ht : 0 ≤ t) : UStep kind (if kind = 3 then 0 else f) (if kind = 0 then g else if kind = 1 then w f else 0) (chW kind f g w) w ∧ UOk m (chW kind f g w) := by
  obtain ⟨w1, w2, w3, w4⟩ := hw
  rcases h with ⟨k, h⟩ | ⟨k, h⟩ | ⟨k, h⟩ | ⟨k, h⟩ <;> subst k
  · rcases h with ⟨⟨a, b⟩, h⟩ | ⟨_, h⟩
    · have e : chW 0 f g w = updF w (8 + g) (iXor (w (8 + g)) (iShl 1 f)) := rfl
      have x := xor_ok (w2 (8 + g) (by omega) (by omega)) a
      rw [e]
      refine ⟨Or.inl ⟨rfl, by simpa using a, by simpa using b, ?_, fun i x0 x1 x2 => ?_⟩, fun k x0 x1 => ?_, fun b x0 x1 => ?_, ?_⟩
      · show w (8 + g) = iXor (updF w (8 + g) _ (8 + g)) (iShl 1 f)
        rw [updF_at]; exact x.2.symm
      · rw [updF_ne (by simpa using x2)]
      · rw [updF_ne (by omega)]; exact w1 k x0 x1
      · unfold updF; split
        · exact x.1
        · exact w2 b x0 x1
      · rw [updF_ne (by omega)]; exact ⟨w3, w4⟩
    · omega
  · rcases h with ⟨a, ⟨b, h⟩ | ⟨_, h⟩⟩ | ⟨_, h⟩
    · have e : chW 1 f g w = updF w f g := rfl
      rw [e]
      refine ⟨Or.inr (Or.inl ⟨rfl, by simpa using a, rfl, fun i x0 x1 x2 => ?_⟩), fun k x0 x1 => ?_, fun b x0 x1 => ?_, ?_⟩
      · rw [updF_ne (by simpa using x2)]
      · have w10 := w1 0 (by omega) (by omega)
        unfold updF; split
        · omega
        · exact w1 k x0 x1
      · rw [updF_ne (by omega)]; exact w2 b x0 x1
      · rw [updF_ne (by omega)]; exact ⟨w3, w4⟩
    · omega
    · omega
  · rcases h with ⟨a, ⟨b, h⟩ | ⟨_, h⟩⟩ | ⟨_, h⟩
    · have e : chW 2 f g w = shW w f := rfl
      rw [e]
      have q : ∀ b, 0 ≤ b → b < 16 → shW w f (8 + b) = shN (w (8 + b)) f := fun b x0 x1 => if_pos (by omega)
      refine ⟨Or.inr (Or.inr (Or.inl ⟨rfl, by simpa using a, fun j x0 x1 => ?_, fun i x0 x1 x2 => ?_⟩)), fun k x0 x1 => ?_, fun j x0 x1 => ?_, ?_⟩
      · have z := shN_ok (w2 (8 + j) (by omega) (by omega)) ⟨a.1, a.2.1⟩ (b j x0 x1)
        rw [q j x0 x1]
        exact ⟨fun y => (z.2.2.1 y).1, fun y => (z.2.2.2 y).1, fun y => (z.2.2.1 y).2, fun y => (z.2.2.2 y).2⟩
      · show w i = shW w f i
        unfold shW; rw [if_neg (by omega)]
      · unfold shW; rw [if_neg (by omega)]; exact w1 k x0 x1
      · unfold shW; rw [if_pos (by omega)]
        have z := b (j - 8) (by omega) (by omega)
        rw [show 8 + (j - 8) = j by omega] at z
        exact (shN_ok (w2 j x0 x1) ⟨a.1, a.2.1⟩ z).1
      · unfold shW; rw [if_neg (by omega)]; exact ⟨w3, w4⟩
    · omega
    · omega
  · rcases h with ⟨a, h⟩ | ⟨_, h⟩
    · have e : chW 3 f g w = updF w 24 (w 24 + 1) := rfl
      rw [e]
      refine ⟨Or.inr (Or.inr (Or.inr ⟨rfl, by rw [updF_at]; omega, fun i x0 x1 => by rw [updF_ne (by omega)]⟩)), fun k x0 x1 => ?_, fun b x0 x1 => ?_, ?_⟩
      · rw [updF_ne (by omega)]; exact w1 k x0 x1
      · rw [updF_ne (by omega)]; exact w2 b x0 x1
      · rw [updF_at]; omega
    · omega
/-- the class's street is at w -/
def StC (C : MC) (w : Int → Int) : Prop := (∀ k, 0 ≤ k → k < 8 → C 4 k = w k) ∧ (∀ b, 0 ≤ b → b < 16 → C 5 b = w (8 + b)) ∧ C 8 0 = w 24
/-- cells that a change of the class touches -/
def chF (n : Int) (a k : Int) : Prop := a = 4 ∨ a = 5 ∨ (a = 8 ∧ k = 0) ∨ (a = 55 ∧ k = 3) ∨ ((a = 56 ∨ a = 57 ∨ a = 58) ∧ k = n)
def MkC (C C' : MC) (n kind : Int) (w w' : Int → Int) : Prop := Fp (chF n) C C' ∧ StC C' w' ∧ C' 55 3 = n + 1 ∧ C' 56 n = kind ∧ UStep kind (C' 57 n) (C' 58 n) w' w
theorem s_keep {d mc ms : Nat} {k f g n : Int} {S : MS} {C : MC} {Q : Qt} (F : Fix S) (hn : C 55 3 = n) (hn2 : 0 ≤ n ∧ n < 256) (h : Q 0 S (upC (upC (upC (upC C 56 n k) 57 n f) 58 n g) 55 3 (n + 1))) : K_X0_keep_0 (d + 1) mc ms k f g S C Q := by
  subst hn
  refine b_X0_keep_0 F ⟨fun _ => ⟨hn2, hn2, hn2, ?_⟩, fun z => by omega⟩
  rw [w32_lit (x := C 55 3 + 1) (by omega)]
  exact h
theorem kp_facts {C0 C : MC} {n k f g : Int} (hf : Fp (fun a k => a = 4 ∨ a = 5 ∨ (a = 8 ∧ k = 0)) C0 C) : Fp (chF n) C0 (upC (upC (upC (upC C 56 n k) 57 n f) 58 n g) 55 3 (n + 1)) ∧ (∀ a j, a < 55 → upC (upC (upC (upC C 56 n k) 57 n f) 58 n g) 55 3 (n + 1) a j = C a j) ∧ upC (upC (upC (upC C 56 n k) 57 n f) 58 n g) 55 3 (n + 1) 55 3 = n + 1 ∧ upC (upC (upC (upC C 56 n k) 57 n f) 58 n g) 55 3 (n + 1) 56 n = k ∧ upC (upC (upC (upC C 56 n k) 57 n f) 58 n g) 55 3 (n + 1) 57 n = f ∧ upC (upC (upC (upC C 56 n k) 57 n f) 58 n g) 55 3 (n + 1) 58 n = g := by
  refine ⟨Fp_up (by unfold chF; omega) (Fp_up (by unfold chF; omega) (Fp_up (by unfold chF; omega) (Fp_up (by unfold chF; omega) (Fp_mono hf (fun a k h => by unfold chF; omega))))), fun a j ha => ?_, upC_at _ _ _ _, ?_, ?_, ?_⟩
  · rw [upC_ne (by omega), upC_ne (by omega), upC_ne (by omega), upC_ne (by omega)]
  · rw [upC_ne (by decide), upC_ne (by decide), upC_ne (by decide), upC_at]
  · rw [upC_ne (by decide), upC_ne (by decide), upC_at]
  · rw [upC_ne (by decide), upC_at]
theorem s_changeNote {d : Nat} {f g n : Int} {S : MS} {C : MC} {w : Int → Int} {Q : Qt} (F : Fix S) (hs : StC C w) (hw : UOk (C 1 0) w) (hn : C 55 3 = n) (hn2 : 0 ≤ n ∧ n < 256) (h : ∀ t C', Tld (C 1 0) 0 f g w t → (0 ≤ t → MkC C C' n 0 w (chW 0 f g w)) → (t < 0 → C' = C) → Q t S C') : K_X0_changeNote_0 (d + 2) 0 0 f g S C Q := by
  have bad : ¬ ((0 ≤ f ∧ f < 8) ∧ 0 ≤ g ∧ g < 16) → Q (-1) S C := fun hb => h (-1) C (Or.inl ⟨rfl, Or.inr ⟨hb, rfl⟩⟩) (fun z => by omega) (fun _ => rfl)
  refine b_X0_changeNote_0 F (s_isKeyC F fun r hr => ⟨rfl, fun z => bad (by omega), fun z => s_isBeatC F fun r2 hr2 => ⟨rfl, fun z2 => ⟨by omega, by omega, ?_⟩, fun z2 => bad (by omega)⟩⟩)
  have hT : Tld (C 1 0) 0 f g w (iXor (w (8 + g)) (iShl 1 f)) := Or.inl ⟨rfl, Or.inl ⟨by omega, rfl⟩⟩
  have e5 := hs.2.1 g (by omega) (by omega)
  have hst := ch_step hw hT (xor_ok (hw.2.1 (8 + g) (by omega) (by omega)) (by omega)).1.1
  refine s_keep F (by rw [upC_ne (by decide)]; exact hn) hn2 ⟨rfl, by omega, ?_⟩
  obtain ⟨q1, q2, q3, q4, q5, q6⟩ := kp_facts (C0 := C) (C := upC C 5 g (iXor (C 5 g) (iShl 1 f))) (n := n) (k := 0) (f := f) (g := g) (Fp_up (Or.inr (Or.inl rfl)) Fp_rf)
  rw [q2 5 g (by decide), upC_at, e5]
  refine h _ _ hT (fun _ => ⟨by rw [e5] at q1; exact q1, ⟨fun k x0 x1 => ?_, fun b x0 x1 => ?_, ?_⟩, by rw [e5] at q3; exact q3, by rw [e5] at q4; exact q4, ?_⟩) (fun z => ?_)
  · rw [e5] at q2; rw [q2 4 k (by decide), upC_ne (by decide), hs.1 k x0 x1]
    show _ = updF w (8 + g) _ k
    rw [updF_ne (by omega)]
  · rw [e5] at q2; rw [q2 5 b (by decide), upC_get]
    show _ = updF w (8 + g) _ (8 + b)
    by_cases e : b = g
    · rw [if_pos ⟨rfl, e⟩, e, updF_at]
    · rw [if_neg (fun z => e z.2), updF_ne (by omega)]; exact hs.2.1 b x0 x1
  · rw [e5] at q2; rw [q2 8 0 (by decide), upC_ne (by decide), hs.2.2]
    show _ = updF w (8 + g) _ 24
    rw [updF_ne (by omega)]
  · rw [e5] at q5 q6; rw [q5, q6]
    have := hst.1
    simpa using this
  · have := (xor_ok (hw.2.1 (8 + g) (by omega) (by omega)) (k := f) (by omega)).1.1
    omega
theorem s_giveKey {d : Nat} {f g n : Int} {S : MS} {C : MC} {w : Int → Int} {Q : Qt} (F : Fix S) (hs : StC C w) (hw : UOk (C 1 0) w) (hn : C 55 3 = n) (hn2 : 0 ≤ n ∧ n < 256) (h : ∀ t C', Tld (C 1 0) 1 f g w t → (0 ≤ t → MkC C C' n 1 w (chW 1 f g w)) → (t < 0 → C' = C) → Q t S C') : K_X0_giveKey_0 (d + 2) 0 0 f g S C Q := by
  have k25 : (0 ≤ f ∧ f < 8) → (g = -1 ∨ 0 ≤ g ∧ g < C 1 0) → K_X0_giveKey_25 (d + 2) 0 0 f g S C Q := by
    intro hf hg
    have e4 := hs.1 f hf.1 hf.2
    refine b_X0_giveKey_25 F ⟨hf, fun z => ⟨hf, ?_⟩, fun z => h (-3) C (Or.inr (Or.inl ⟨rfl, Or.inl ⟨hf, Or.inl ⟨hg, Or.inl ⟨by omega, rfl⟩⟩⟩⟩)) (fun z => by omega) (fun _ => rfl)⟩
    have mk : ∀ t, Tld (C 1 0) 1 f g w t → 0 ≤ t → MkC C (upC (upC (upC (upC (upC C 4 f g) 56 n 1) 57 n f) 58 n (C 4 f)) 55 3 (n + 1)) n 1 w (chW 1 f g w) := by
      intro t hT ht
      have hst := ch_step hw hT ht
      obtain ⟨q1, q2, q3, q4, q5, q6⟩ := kp_facts (C0 := C) (C := upC C 4 f g) (n := n) (k := 1) (f := f) (g := C 4 f) (Fp_up (Or.inl rfl) Fp_rf)
      refine ⟨q1, ⟨fun k x0 x1 => ?_, fun b x0 x1 => ?_, ?_⟩, q3, q4, ?_⟩
      · rw [q2 4 k (by decide), upC_get]
        show _ = updF w f g k
        by_cases e : k = f
        · rw [if_pos ⟨rfl, e⟩, e, updF_at]
        · rw [if_neg (fun z => e z.2), updF_ne e]; exact hs.1 k x0 x1
      · rw [q2 5 b (by decide), upC_ne (by decide), hs.2.1 b x0 x1]
        show _ = updF w f g (8 + b)
        rw [updF_ne (by omega)]
      · rw [q2 8 0 (by decide), upC_ne (by decide), hs.2.2]
        show _ = updF w f g 24
        rw [updF_ne (by omega)]
      · rw [q5, q6, e4]
        have := hst.1
        simpa using this
    have w1 := hw.1 f hf.1 hf.2
    refine s_keep F (by rw [upC_ne (by decide)]; exact hn) hn2 ⟨rfl, fun z2 => ?_, fun z2 => ?_⟩
    · have hT : Tld (C 1 0) 1 f g w (C 4 f) := Or.inr (Or.inl ⟨rfl, Or.inl ⟨hf, Or.inl ⟨hg, Or.inr ⟨by omega, Or.inr ⟨by omega, e4⟩⟩⟩⟩⟩)
      exact h _ _ hT (fun ht => mk _ hT ht) (fun z => by omega)
    · have hT : Tld (C 1 0) 1 f g w 6 := Or.inr (Or.inl ⟨rfl, Or.inl ⟨hf, Or.inl ⟨hg, Or.inr ⟨by omega, Or.inl ⟨by omega, rfl⟩⟩⟩⟩⟩)
      exact h _ _ hT (fun ht => mk _ hT ht) (fun z => by omega)
  refine b_X0_giveKey_0 F (s_isKeyC F fun r hr => ⟨rfl, fun z => ⟨fun z2 => k25 (by omega) (by omega), fun z2 => s_hasHouse F isSt1 fun r2 hr2 => ⟨rfl, fun z3 => k25 (by omega) (by omega), fun z3 => h (-2) C (Or.inr (Or.inl ⟨rfl, Or.inl ⟨by omega, Or.inr ⟨by omega, rfl⟩⟩⟩)) (fun z => by omega) (fun _ => rfl)⟩⟩, fun z => h (-1) C (Or.inr (Or.inl ⟨rfl, Or.inr ⟨by omega, rfl⟩⟩)) (fun z => by omega) (fun _ => rfl)⟩)
theorem s_passDay {d : Nat} {f g n : Int} {S : MS} {C : MC} {w : Int → Int} {Q : Qt} (F : Fix S) (hs : StC C w) (hw : UOk (C 1 0) w) (hn : C 55 3 = n) (hn2 : 0 ≤ n ∧ n < 256) (h : ∀ t C', Tld (C 1 0) 3 f g w t → (0 ≤ t → MkC C C' n 3 w (chW 3 f g w)) → (t < 0 → C' = C) → Q t S C') : K_X0_passDay_0 (d + 2) 0 0 S C Q := by
  have e8 := hs.2.2
  have hw3 := hw.2.2
  refine b_X0_passDay_0 F ⟨fun z => ?_, fun z => h (-3) C (Or.inr (Or.inr (Or.inr ⟨rfl, Or.inr ⟨by omega, rfl⟩⟩))) (fun z => by omega) (fun _ => rfl)⟩
  have hT : Tld (C 1 0) 3 f g w (w 24 + 1) := Or.inr (Or.inr (Or.inr ⟨rfl, Or.inl ⟨by omega, rfl⟩⟩))
  have hst := ch_step hw hT (by omega)
  rw [e8, w32_lit (x := w 24 + 1) (by omega)]
  obtain ⟨q1, q2, q3, q4, q5, q6⟩ := kp_facts (C0 := C) (C := upC C 8 0 (w 24 + 1)) (n := n) (k := 3) (f := 0) (g := 0) (Fp_up (Or.inr (Or.inr ⟨rfl, rfl⟩)) Fp_rf)
  refine s_keep F (by rw [upC_ne (by decide)]; exact hn) hn2 ⟨rfl, ?_⟩
  rw [q2 8 0 (by decide), upC_at]
  refine h _ _ hT (fun _ => ⟨q1, ⟨fun k x0 x1 => ?_, fun b x0 x1 => ?_, ?_⟩, q3, q4, ?_⟩) (fun z => by omega)
  · rw [q2 4 k (by decide), upC_ne (by decide), hs.1 k x0 x1]
    show _ = updF w 24 _ k
    rw [updF_ne (by omega)]
  · rw [q2 5 b (by decide), upC_ne (by decide), hs.2.1 b x0 x1]
    show _ = updF w 24 _ (8 + b)
    rw [updF_ne (by omega)]
  · rw [q2 8 0 (by decide), upC_at]
    exact (updF_at w 24 (w 24 + 1)).symm
  · rw [q5, q6]
    have := hst.1
    simpa using this
theorem s_canShift {d mc ms : Nat} {a f : Int} {S : MS} {C : MC} {Q : Qt} (F : Fix S) (ha : isSt a) (hf : -7 ≤ f ∧ f ≤ 7) (h : ∀ r, (r = 1 ∧ (∀ b : Int, 0 ≤ b → b < 16 → shN (C (a + 4) b) f ≠ -1) ∨ r = 0 ∧ ¬ (∀ b : Int, 0 ≤ b → b < 16 → shN (C (a + 4) b) f ≠ -1)) → Q r S C) : K_X7_canShift_0 (d + 1) mc ms a f S C Q := by
  refine b_X7_canShift_0 F ha ?_
  refine up_ind (α := Unit) (P := fun k _ => ∀ b : Int, 0 ≤ b → b < k → shN (C (a + 4) b) f ≠ -1) (K := fun k _ => K_X7_canShift_2 (d + 1) mc ms a f (k : Int) S C Q) 16 ?_ ?_ 0 (by omega) () (fun b x0 x1 => by omega)
  · intro _ hP
    exact b_X7_canShift_2 F ha ⟨fun _ => h 1 (Or.inl ⟨rfl, hP⟩), fun z => absurd (by decide) z⟩
  · intro k _ hk hP ih
    refine b_X7_canShift_2 F ha ⟨fun z => by omega, fun _ => ⟨by omega, s_shiftedC F hf ⟨rfl, fun z => ?_, fun z => ?_⟩⟩⟩
    · rw [w32_succ (by omega)]
      refine ih () (fun b x0 x1 => ?_)
      by_cases e : b = k
      · rw [e]; exact z
      · exact hP b x0 (by omega)
    · exact h 0 (Or.inr ⟨rfl, fun q => q k (by omega) (by omega) z⟩)
theorem s_shiftBy {d mc ms : Nat} {a f : Int} {S : MS} {C : MC} {Q : Qt} (F : Fix S) (ha : isSt a) (hf : -7 ≤ f ∧ f ≤ 7) (h : ∀ C', Fp (fun x _ => x = a + 4) C C' → (∀ b : Int, 0 ≤ b → b < 16 → C' (a + 4) b = shN (C (a + 4) b) f) → Q 0 S C') : K_X7_shiftBy_0 (d + 1) mc ms a f S C Q := by
  refine b_X7_shiftBy_0 F ha ?_
  refine up_ind (α := MC) (P := fun k C' => Fp (fun x _ => x = a + 4) C C' ∧ ∀ b : Int, 0 ≤ b → b < 16 → C' (a + 4) b = if b < k then shN (C (a + 4) b) f else C (a + 4) b) (K := fun k C' => K_X7_shiftBy_2 (d + 1) mc ms a f (k : Int) S C' Q) 16 ?_ ?_ 0 (by omega) C ⟨Fp_rf, fun b x0 x1 => by rw [if_neg (by omega)]⟩
  · intro C' hP
    refine b_X7_shiftBy_2 F ha ⟨fun _ => h C' hP.1 (fun b x0 x1 => ?_), fun z => absurd (by decide) z⟩
    rw [hP.2 b x0 x1, if_pos (by omega)]
  · intro k C' hk hP ih
    have e := hP.2 k (by omega) (by omega)
    rw [if_neg (by omega)] at e
    refine b_X7_shiftBy_2 F ha ⟨fun z => by omega, fun _ => ⟨by omega, s_shiftedC F hf ⟨rfl, by omega, ?_⟩⟩⟩
    rw [w32_succ (by omega), e]
    refine ih _ ⟨Fp_up rfl hP.1, fun b x0 x1 => ?_⟩
    by_cases q : b = k
    · rw [q, upC_at, if_pos (by omega)]
    · rw [upC_sK q, hP.2 b x0 x1]
      by_cases q2 : b < k
      · rw [if_pos q2, if_pos (by omega)]
      · rw [if_neg q2, if_neg (by omega)]
theorem s_shiftMusic {d : Nat} {f g n : Int} {S : MS} {C : MC} {w : Int → Int} {Q : Qt} (F : Fix S) (hs : StC C w) (hw : UOk (C 1 0) w) (hn : C 55 3 = n) (hn2 : 0 ≤ n ∧ n < 256) (h : ∀ t C', Tld (C 1 0) 2 f g w t → (0 ≤ t → MkC C C' n 2 w (chW 2 f g w)) → (t < 0 → C' = C) → Q t S C') : K_X0_shiftMusic_0 (d + 2) 0 0 f S C Q := by
  have bad : ¬ (-7 ≤ f ∧ f ≤ 7 ∧ f ≠ 0) → Q (-1) S C := fun hb => h (-1) C (Or.inr (Or.inr (Or.inl ⟨rfl, Or.inr ⟨hb, rfl⟩⟩))) (fun z => by omega) (fun _ => rfl)
  refine b_X0_shiftMusic_0 F ⟨fun z => bad (by omega), fun z => ⟨fun z2 => bad (by omega), fun z2 => ⟨fun z3 => ?_, fun z3 => bad (by omega)⟩⟩⟩
  have hf : -7 ≤ f ∧ f ≤ 7 ∧ f ≠ 0 := by omega
  have hcs : (∀ b : Int, 0 ≤ b → b < 16 → shN (C (1 + 4) b) f ≠ -1) ↔ canSh w f := by
    constructor
    · intro q b x0 x1
      have := q b x0 x1
      rwa [show (1 + 4 : Int) = 5 from rfl, hs.2.1 b x0 x1] at this
    · intro q b x0 x1
      rw [show (1 + 4 : Int) = 5 from rfl, hs.2.1 b x0 x1]
      exact q b x0 x1
  refine s_canShift F isSt1 ⟨hf.1, hf.2.1⟩ fun r hr => ⟨rfl, fun z4 => ?_, fun z4 => h (-3) C (Or.inr (Or.inr (Or.inl ⟨rfl, Or.inl ⟨hf, Or.inr ⟨fun q => ?_, rfl⟩⟩⟩))) (fun z => by omega) (fun _ => rfl)⟩
  · have hc : canSh w f := by
      rcases hr with ⟨_, q⟩ | ⟨q, _⟩
      · exact hcs.mp q
      · omega
    refine s_shiftBy F isSt1 ⟨hf.1, hf.2.1⟩ (fun C1 f1 g1 => ⟨rfl, s_keep F (by rw [f1 55 3 (by decide)]; exact hn) hn2 ⟨rfl, ?_⟩⟩)
    obtain ⟨q1, q2, q3, q4, q5, q6⟩ := kp_facts (C0 := C) (C := C1) (n := n) (k := 2) (f := f) (g := 0) (Fp_mono f1 (fun a k h => Or.inr (Or.inl h)))
    have e5 : ∀ b : Int, 0 ≤ b → b < 16 → upC (upC (upC (upC C1 56 n 2) 57 n f) 58 n 0) 55 3 (n + 1) 5 b = shN (w (8 + b)) f := fun b x0 x1 => by
      rw [q2 5 b (by decide)]
      have := g1 b x0 x1
      rw [show (1 + 4 : Int) = 5 from rfl] at this
      rw [this, hs.2.1 b x0 x1]
    have bd : ∀ b : Int, 0 ≤ b → b < 16 → 0 ≤ shN (w (8 + b)) f ∧ shN (w (8 + b)) f ≤ 255 := fun b x0 x1 => (shN_ok (hw.2.1 (8 + b) (by omega) (by omega)) ⟨hf.1, hf.2.1⟩ (hc b x0 x1)).1
    have hT : Tld (C 1 0) 2 f g w (ntn (fun b => shN (w (8 + b)) f) 16) := Or.inr (Or.inr (Or.inl ⟨rfl, Or.inl ⟨hf, Or.inl ⟨hc, rfl⟩⟩⟩))
    have ht := (ntn_bd bd 16 (Nat.le_refl _)).1
    have hst := ch_step hw hT ht
    have en : ntn (upC (upC (upC (upC C1 56 n 2) 57 n f) 58 n 0) 55 3 (n + 1) (1 + 4)) 16 = ntn (fun b => shN (w (8 + b)) f) 16 := ntn_cong (fun b x0 x1 => e5 b x0 x1) 16 (Nat.le_refl _)
    refine s_countNotes F isSt1 (fun b x0 x1 => ?_) ⟨rfl, ?_⟩
    · rw [show (1 + 4 : Int) = 5 from rfl, e5 b x0 x1]; exact bd b x0 x1
    · rw [en]
      refine h _ _ hT (fun _ => ⟨q1, ⟨fun k x0 x1 => ?_, fun b x0 x1 => ?_, ?_⟩, q3, q4, ?_⟩) (fun z => by omega)
      · rw [q2 4 k (by decide), f1 4 k (by omega), hs.1 k x0 x1]
        show _ = shW w f k
        unfold shW; rw [if_neg (by omega)]
      · rw [e5 b x0 x1]
        show _ = shW w f (8 + b)
        unfold shW; rw [if_pos (by omega)]
      · rw [q2 8 0 (by decide), f1 8 0 (by decide), hs.2.2]
        show _ = shW w f 24
        unfold shW; rw [if_neg (by omega)]
      · rw [q5, q6]
        have := hst.1
        simpa using this
  · rcases hr with ⟨q2, _⟩ | ⟨_, q2⟩
    · omega
    · exact q2 (hcs.mpr q)
theorem s_make {d : Nat} {kind f g n : Int} {S : MS} {C : MC} {w : Int → Int} {Q : Qt} (F : Fix S) (hk : 0 ≤ kind ∧ kind ≤ 3) (hs : StC C w) (hw : UOk (C 1 0) w) (hn : C 55 3 = n) (hn2 : 0 ≤ n ∧ n < 256) (h : ∀ t C', Tld (C 1 0) kind f g w t → (0 ≤ t → MkC C C' n kind w (chW kind f g w)) → (t < 0 → C' = C) → Q t S C') : K_X0_make_0 (d + 3) 0 0 kind f g S C Q := by
  refine b_X0_make_0 F ⟨fun z => ?_, fun z => ?_, fun z => ?_, fun z => ?_⟩
  · have : kind = 3 := by omega
    subst this
    exact s_passDay (f := f) (g := g) F hs hw hn hn2 (fun t C' h1 h2 h3 => ⟨rfl, h t C' h1 h2 h3⟩)
  · subst z; exact s_changeNote F hs hw hn hn2 (fun t C' h1 h2 h3 => ⟨rfl, h t C' h1 h2 h3⟩)
  · subst z; exact s_giveKey F hs hw hn hn2 (fun t C' h1 h2 h3 => ⟨rfl, h t C' h1 h2 h3⟩)
  · subst z; exact s_shiftMusic (g := g) F hs hw hn hn2 (fun t C' h1 h2 h3 => ⟨rfl, h t C' h1 h2 h3⟩)
/-- the class takes the latest change back -/
theorem s_takeBack {d n : Nat} {S : MS} {C : MC} {w w' : Int → Int} {Q : Qt} (F : Fix S) (hn : C 55 3 = ((n + 1 : Nat) : Int)) (hn2 : n < 256) (hs : StC C w) (hw' : UOk (C 1 0) w') (hu : UStep (C 56 n) (C 57 n) (C 58 n) w w') (h : ∀ C', Fp (fun a k => a = 4 ∨ a = 5 ∨ (a = 8 ∧ k = 0) ∨ (a = 55 ∧ k = 3)) C C' → C' 55 3 = n → StC C' w' → Q (C 56 n) S C') : K_X0_takeBack_0 (d + 2) 0 0 S C Q := by
  refine b_X0_takeBack_0 F ⟨fun _ => ?_, fun z => by omega⟩
  have e : w32 (C 55 3 - 1) = n := by rw [hn, w32_lit (by omega)]; omega
  rw [e]
  have b : (0 : Int) ≤ n ∧ (n : Int) < 256 := by omega
  rcases hu with ⟨k, u1, u2, u3, u4⟩ | ⟨k, u1, u2, u3⟩ | ⟨k, u1, u2, u3⟩ | ⟨k, u1, u2⟩
  · rw [k] at h ⊢
    refine ⟨b, b, b, fun z => by omega, fun _ => ⟨u2, u2, b, ?_⟩, fun z => by omega, fun z => by omega⟩
    refine h _ (Fp_up (by omega) (Fp_up (by omega) Fp_rf)) (by rw [upC_ne (by decide), upC_at]) ⟨fun j x0 x1 => ?_, fun j x0 x1 => ?_, ?_⟩
    · rw [upC_ne (by decide), upC_ne (by decide), hs.1 j x0 x1, u4 j x0 (by omega) (by omega)]
    · rw [upC_get]
      by_cases q : j = C 58 n
      · rw [if_pos ⟨rfl, q⟩, hs.2.1 _ u2.1 u2.2, q, u3]
      · rw [if_neg (fun z => q z.2), upC_ne (by decide), hs.2.1 j x0 x1, u4 (8 + j) (by omega) (by omega) (by omega)]
    · rw [upC_ne (by decide), upC_ne (by decide), hs.2.2, u4 24 (by omega) (by omega) (by omega)]
  · rw [k] at h ⊢
    refine ⟨b, b, b, fun z => by omega, fun z => by omega, fun _ => ⟨u1, b, ?_⟩, fun z => by omega⟩
    refine h _ (Fp_up (by omega) (Fp_up (by omega) Fp_rf)) (by rw [upC_ne (by decide), upC_at]) ⟨fun j x0 x1 => ?_, fun j x0 x1 => ?_, ?_⟩
    · rw [upC_get]
      by_cases q : j = C 57 n
      · rw [if_pos ⟨rfl, q⟩, q, u2]
      · rw [if_neg (fun z => q z.2), upC_ne (by decide), hs.1 j x0 x1, u3 j x0 (by omega) q]
    · rw [upC_ne (by decide), upC_ne (by decide), hs.2.1 j x0 x1, u3 (8 + j) (by omega) (by omega) (by omega)]
    · rw [upC_ne (by decide), upC_ne (by decide), hs.2.2, u3 24 (by omega) (by omega) (by omega)]
  · rw [k] at h ⊢
    refine ⟨b, b, b, fun z => by omega, fun z => by omega, fun z => by omega, fun _ => ?_⟩
    rw [w32_lit (x := -C 57 n) (by omega)]
    refine s_shiftBy F isSt1 (by omega) (fun C1 f1 g1 => ⟨rfl, ?_⟩)
    have e3 : C1 55 3 = n := by rw [f1 55 3 (by decide), upC_at]
    rw [e3, f1 56 n (by omega), upC_ne (by decide), k]
    refine ⟨b, h _ (Fp_tr (Fp_up (by omega) Fp_rf) (Fp_mono f1 (fun a k h => by omega))) e3 ⟨fun j x0 x1 => ?_, fun j x0 x1 => ?_, ?_⟩⟩
    · rw [f1 4 j (by omega), upC_ne (by decide), hs.1 j x0 x1, u3 j x0 (by omega) (by omega)]
    · have g2 := g1 j x0 x1
      rw [show (1 + 4 : Int) = 5 from rfl, upC_ne (by decide), hs.2.1 j x0 x1] at g2
      rw [g2]
      obtain ⟨v1, v2, v3, v4⟩ := u2 j x0 x1
      unfold shN
      rcases (by omega : C 57 n < 0 ∨ 0 < C 57 n) with q | q
      · rw [if_neg (by omega), if_pos (v3 q), v1 q]
      · rw [if_pos (by omega), Int.neg_neg, if_pos (v4 q), v2 q]
    · rw [f1 8 0 (by decide), upC_ne (by decide), hs.2.2, u3 24 (by omega) (by omega) (by omega)]
  · rw [k] at h ⊢
    refine ⟨b, b, b, fun _ => ⟨b, ?_⟩, fun z => by omega, fun z => by omega, fun z => by omega⟩
    have hw3 := hw'.2.2
    refine h _ (Fp_up (by omega) (Fp_up (by omega) Fp_rf)) (by rw [upC_ne (by decide), upC_at]) ⟨fun j x0 x1 => ?_, fun j x0 x1 => ?_, ?_⟩
    · rw [upC_ne (by decide), upC_ne (by decide), hs.1 j x0 x1, u2 j x0 (by omega)]
    · rw [upC_ne (by decide), upC_ne (by decide), hs.2.1 j x0 x1, u2 (8 + j) (by omega) (by omega)]
    · rw [upC_at, hs.2.2, w32_lit (by omega)]; exact u1.symm
