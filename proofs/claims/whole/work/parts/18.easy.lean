/-! 18.easy: leaves, refusals, calls that read -/
theorem s_lies {d mc ms : Nat} {l0 l1 l2 : Int} {S : MS} {C : MC} {Q : Qt} (F : Fix S) (h : ∀ r, (r = 1 ∧ l1 ≤ l0 ∧ l0 ≤ l2 ∨ r = 0 ∧ ¬ (l1 ≤ l0 ∧ l0 ≤ l2)) → Q r S C) : K_X11_lies_0 d mc ms l0 l1 l2 S C Q :=
  b_X11_lies_0 F ⟨fun a => h 0 (by omega), fun a => ⟨fun b => h 0 (by omega), fun b => h 1 (by omega)⟩⟩
theorem s_isKeyC {d mc ms : Nat} {l : Int} {S : MS} {C : MC} {Q : Qt} (F : Fix S) (h : ∀ r, (r = 1 ∧ 0 ≤ l ∧ l < 8 ∨ r = 0 ∧ ¬ (0 ≤ l ∧ l < 8)) → Q r S C) : K_X10_isKey_0 d mc ms l S C Q :=
  b_X10_isKey_0 F ⟨fun a => h 0 (by omega), fun a => ⟨fun b => h 0 (by omega), fun b => h 1 (by omega)⟩⟩
theorem s_isBeatC {d mc ms : Nat} {l : Int} {S : MS} {C : MC} {Q : Qt} (F : Fix S) (h : ∀ r, (r = 1 ∧ 0 ≤ l ∧ l < 16 ∨ r = 0 ∧ ¬ (0 ≤ l ∧ l < 16)) → Q r S C) : K_X10_isBeat_0 d mc ms l S C Q :=
  b_X10_isBeat_0 F ⟨fun a => h 0 (by omega), fun a => ⟨fun b => h 0 (by omega), fun b => h 1 (by omega)⟩⟩
theorem s_isKeyM {d mc ms : Nat} {l : Int} {S : MS} {C : MC} {Q : Qt} (F : Fix S) (h : ∀ r, (r = 1 ∧ 0 ≤ l ∧ l < 8 ∨ r = 0 ∧ ¬ (0 ≤ l ∧ l < 8)) → Q r S C) : K_X11_isKey_0 (d + 1) mc ms l S C Q :=
  b_X11_isKey_0 F (s_lies F fun r hr => ⟨rfl, by omega, h r (by omega)⟩)
theorem s_isBeatM {d mc ms : Nat} {l : Int} {S : MS} {C : MC} {Q : Qt} (F : Fix S) (h : ∀ r, (r = 1 ∧ 0 ≤ l ∧ l < 16 ∨ r = 0 ∧ ¬ (0 ≤ l ∧ l < 16)) → Q r S C) : K_X11_isBeat_0 (d + 1) mc ms l S C Q :=
  b_X11_isBeat_0 F (s_lies F fun r hr => ⟨rfl, by omega, h r (by omega)⟩)
theorem s_hasHouse {d mc ms : Nat} {a l : Int} {S : MS} {C : MC} {Q : Qt} (F : Fix S) (ha : isSt a) (h : ∀ r, (r = 1 ∧ 0 ≤ l ∧ l < C a 0 ∨ r = 0 ∧ ¬ (0 ≤ l ∧ l < C a 0)) → Q r S C) : K_X7_hasHouse_0 d mc ms a l S C Q :=
  b_X7_hasHouse_0 F ha ⟨fun a => h 0 (by omega), fun a => ⟨fun b => h 0 (by omega), fun b => h 1 (by omega)⟩⟩
theorem s_hasLaw {d mc ms : Nat} {a l : Int} {S : MS} {C : MC} {Q : Qt} (F : Fix S) (ha : isSt a) (h : ∀ r, (r = 1 ∧ 0 ≤ l ∧ l < C a 8 ∨ r = 0 ∧ ¬ (0 ≤ l ∧ l < C a 8)) → Q r S C) : K_X7_hasLaw_0 d mc ms a l S C Q :=
  b_X7_hasLaw_0 F ha ⟨fun a => h 0 (by omega), fun a => ⟨fun b => h 0 (by omega), fun b => h 1 (by omega)⟩⟩
theorem w32_lit {x : Int} (h : -2147483648 ≤ x ∧ x < 2147483648) : w32 x = x := w32_of h
theorem isSt1 : isSt 1 := Or.inl rfl
theorem s_isHouse {d mc ms : Nat} {l : Int} {S : MS} {C : MC} {Q : Qt} (F : Fix S) (hm : 0 ≤ C 83 45 ∧ C 83 45 ≤ 6) (h : ∀ r, (r = 1 ∧ 0 ≤ l ∧ l < C 83 45 ∨ r = 0 ∧ ¬ (0 ≤ l ∧ l < C 83 45)) → Q r S C) : K_X11_isHouse_0 (d + 1) mc ms l S C Q := by
  refine b_X11_isHouse_0 F (b_X11_many_0 F ⟨rfl, ?_⟩)
  rw [w32_lit (by omega)]
  exact s_lies F fun r hr => ⟨rfl, by omega, h r (by omega)⟩
theorem s_isLaw {d mc ms : Nat} {l : Int} {S : MS} {C : MC} {Q : Qt} (F : Fix S) (hm : 0 ≤ C 83 47 ∧ C 83 47 ≤ 6) (h : ∀ r, (r = 1 ∧ -1 ≤ l ∧ l < C 83 47 ∨ r = 0 ∧ ¬ (-1 ≤ l ∧ l < C 83 47)) → Q r S C) : K_X11_isLaw_0 (d + 1) mc ms l S C Q := by
  refine b_X11_isLaw_0 F ?_
  rw [w32_lit (by omega)]
  exact s_lies F fun r hr => ⟨rfl, by omega, h r (by omega)⟩
theorem s_musicAt {d mc ms : Nat} {l : Int} {S : MS} {C : MC} {Q : Qt} (F : Fix S) (hl : 0 ≤ l ∧ l < 16) (h : Q (C 83 (8 + l)) S C) : K_X11_musicAt_0 d mc ms l S C Q := by
  refine b_X11_musicAt_0 F ?_
  rw [w32_lit (by omega)]
  exact ⟨by omega, h⟩
/-! refusals -/
def rfI (x : Int) : Int := if x = -1 then 0 else if x = -2 then 1 else if x = -3 then 2 else if x = -5 then 3 else 4
def rfC (C : MC) (x : Int) : MC := upC (upC C 0 16 x) 64 (rfI x) (w32 (C 64 (rfI x) + 1))
def rfM (C : MC) (x : Int) : MC := upC (upC C 81 0 x) 82 (-x) (w32 (C 82 (-x) + 1))
def okR (x : Int) : Prop := x = -1 ∨ x = -2 ∨ x = -3 ∨ x = -5 ∨ x = -6
theorem s_refuse {d mc ms : Nat} {x : Int} {S : MS} {C : MC} {Q : Qt} (F : Fix S) (hx : okR x) (h : Q x S (rfC C x)) : K_X10_refuse_0 d mc ms x S C Q := by
  refine b_X10_refuse_0 F ?_
  rcases hx with rfl | rfl | rfl | rfl | rfl
  · exact ⟨fun e => by omega, fun e => by omega, fun e => by omega, fun e => by omega, fun e => by omega, fun _ => h⟩
  · exact ⟨fun e => by omega, fun e => by omega, fun e => by omega, fun e => by omega, fun _ => h, fun e => by omega⟩
  · exact ⟨fun e => by omega, fun e => by omega, fun e => by omega, fun _ => h, fun e => by omega, fun e => by omega⟩
  · exact ⟨fun e => by omega, fun _ => h, fun e => by omega, fun e => by omega, fun e => by omega, fun e => by omega⟩
  · exact ⟨fun _ => h, fun e => by omega, fun e => by omega, fun e => by omega, fun e => by omega, fun e => by omega⟩
theorem s_refuses {d mc ms : Nat} {x : Int} {S : MS} {C : MC} {Q : Qt} (F : Fix S) (hx : okR x) (h : Q x S (rfM C x)) : K_X11_refuses_0 d mc ms x S C Q := by
  refine b_X11_refuses_0 F ?_
  unfold okR at hx
  rw [w32_lit (x := -x) (by omega)]
  exact ⟨by omega, by omega, h⟩
def Lo (C C' : MC) : Prop := ∀ b, 108 ≤ b → C' b = C b
theorem Lo_rf (C : MC) : Lo C C := fun _ _ => rfl
theorem Lo_up {C C' : MC} {a k v : Int} (h : a < 108) (hl : Lo C C') : Lo C (upC C' a k v) := fun b hb => by rw [upC_ne (by omega)]; exact hl b hb
/-- a refusal of both, of the same -/
theorem Inv_refuse {S : MS} {C : MC} {x : Int} (hx : okR x) (I : Inv S C) : Inv S (rfM (rfC C x) x) := by
  obtain ⟨F, iN, iI, iR, iT, iX, iU, iE, iW⟩ := I
  have hlo : Lo C (rfM (rfC C x) x) := Lo_up (by decide) (Lo_up (by decide) (Lo_up (by decide) (Lo_up (by decide) (Lo_rf C))))
  have hrow : ∀ b, b ≠ 0 → b ≠ 64 → b ≠ 81 → b ≠ 82 → rfM (rfC C x) x b = C b := fun b h0 h1 h2 h3 => by
    unfold rfM rfC
    rw [upC_ne h3, upC_ne h2, upC_ne h1, upC_ne h0]
  have h0 : ∀ k, k ≠ 16 → rfM (rfC C x) x 0 k = C 0 k := fun k hk => by
    unfold rfM rfC
    rw [upC_ne (by decide), upC_ne (by decide), upC_ne (by decide), upC_sK hk]
  have h81 : ∀ k, k ≠ 0 → rfM (rfC C x) x 81 k = C 81 k := fun k hk => by
    unfold rfM rfC
    rw [upC_ne (by decide), upC_sK hk, upC_ne (by decide), upC_ne (by decide)]
  refine ⟨F, RS_cong iN (fun j x0 x1 => hrow _ (by omega) (by omega) (by omega) (by omega)) hlo (fun i => by rw [hrow 83 (by decide) (by decide) (by decide) (by decide)]), IvI_cong iI (hrow _ (by decide) (by decide) (by decide) (by decide)) (hrow _ (by decide) (by decide) (by decide) (by decide)) (hrow _ (by decide) (by decide) (by decide) (by decide)) (fun b x0 x1 => hrow _ (by omega) (by omega) (by omega) (by omega)) hlo, ?_, IvT_cong iT (by rw [hrow _ (by decide) (by decide) (by decide) (by decide)]) (h81 _ (by decide)) (hrow _ (by decide) (by decide) (by decide) (by decide)) (hrow _ (by decide) (by decide) (by decide) (by decide)), IvX_cong iX (h0 _ (by decide)) (h81 _ (by decide)) (by rw [hrow _ (by decide) (by decide) (by decide) (by decide)]) (h81 _ (by decide)) (by rw [hrow _ (by decide) (by decide) (by decide) (by decide)]) (h81 _ (by decide)),
    IvU_cong iU (by rw [hrow _ (by decide) (by decide) (by decide) (by decide)]) (h81 _ (by decide)) (fun i _ => by rw [hrow _ (by decide) (by decide) (by decide) (by decide)]) (hrow _ (by decide) (by decide) (by decide) (by decide)) (hrow _ (by decide) (by decide) (by decide) (by decide)) (hrow _ (by decide) (by decide) (by decide) (by decide)) (hrow _ (by decide) (by decide) (by decide) (by decide)),
    IvE_cong iE (h0 _ (by decide)) (h81 _ (by decide)) (hrow _ (by decide) (by decide) (by decide) (by decide)) (hrow _ (by decide) (by decide) (by decide) (by decide)) (hrow _ (by decide) (by decide) (by decide) (by decide)), IvW_cong iW (hrow _ (by decide) (by decide) (by decide) (by decide))⟩
  obtain ⟨r0, r1, r2, r3, r4, r5⟩ := iR
  unfold IvR
  rcases hx with rfl | rfl | rfl | rfl | rfl <;> simp [rfM, rfC, rfI, upC, r1, r2, r3, r4, r5]
/-- an acceptance of both -/
def acC (C : MC) : MC := upC (upC C 0 16 0) 81 0 0
theorem Inv_accept {S : MS} {C : MC} (I : Inv S C) : Inv S (acC C) := by
  obtain ⟨F, iN, iI, iR, iT, iX, iU, iE, iW⟩ := I
  have hlo : Lo C (acC C) := Lo_up (by decide) (Lo_up (by decide) (Lo_rf C))
  have hrow : ∀ b, b ≠ 0 → b ≠ 81 → acC C b = C b := fun b h0 h2 => by
    unfold acC
    rw [upC_ne h2, upC_ne h0]
  have h0 : ∀ k, k ≠ 16 → acC C 0 k = C 0 k := fun k hk => by
    unfold acC
    rw [upC_ne (by decide), upC_sK hk]
  have h81 : ∀ k, k ≠ 0 → acC C 81 k = C 81 k := fun k hk => by
    unfold acC
    rw [upC_sK hk, upC_ne (by decide)]
  refine ⟨F, RS_cong iN (fun j x0 x1 => hrow _ (by omega) (by omega)) hlo (fun i => by rw [hrow 83 (by decide) (by decide)]), IvI_cong iI (hrow _ (by decide) (by decide)) (hrow _ (by decide) (by decide)) (hrow _ (by decide) (by decide)) (fun b x0 x1 => hrow _ (by omega) (by omega)) hlo, ?_, IvT_cong iT (by rw [hrow _ (by decide) (by decide)]) (h81 _ (by decide)) (hrow _ (by decide) (by decide)) (hrow _ (by decide) (by decide)), IvX_cong iX (h0 _ (by decide)) (h81 _ (by decide)) (by rw [hrow _ (by decide) (by decide)]) (h81 _ (by decide)) (by rw [hrow _ (by decide) (by decide)]) (h81 _ (by decide)),
    IvU_cong iU (by rw [hrow _ (by decide) (by decide)]) (h81 _ (by decide)) (fun i _ => by rw [hrow _ (by decide) (by decide)]) (hrow _ (by decide) (by decide)) (hrow _ (by decide) (by decide)) (hrow _ (by decide) (by decide)) (hrow _ (by decide) (by decide)),
    IvE_cong iE (h0 _ (by decide)) (h81 _ (by decide)) (hrow _ (by decide) (by decide)) (hrow _ (by decide) (by decide)) (hrow _ (by decide) (by decide)), IvW_cong iW (hrow _ (by decide) (by decide))⟩
  obtain ⟨r0, r1, r2, r3, r4, r5⟩ := iR
  unfold IvR
  simp [acC, upC, r1, r2, r3, r4, r5]
/-! pairs -/
theorem q_owner {d : Nat} {l : Int} {S : MS} {C : MC} {P : Int → Int → MC → Prop} (I : Inv S C) (k : ∀ r, P r r C) : K_X10_owner_0 (d + 2) 0 0 l S C (fun r Sq C2 => Sq = S ∧ K_X11_owner_0 (d + 2) 0 0 l S C2 (fun r2 Sq C3 => Sq = S ∧ P r r2 C3)) := by
  have F := I.1
  refine b_X10_owner_0 F (s_isKeyC F fun r hr => ⟨rfl, fun e => ⟨rfl, ?_⟩, fun e => ⟨by omega, rfl, ?_⟩⟩)
  · exact b_X11_owner_0 F (s_isKeyM F fun r2 hr2 => ⟨rfl, fun e2 => ⟨rfl, k _⟩, fun e2 => by omega⟩)
  · refine b_X11_owner_0 F (s_isKeyM F fun r2 hr2 => ⟨rfl, fun e2 => by omega, fun e2 => ?_⟩)
    rw [w32_lit (by omega), Int.zero_add]
    refine ⟨by omega, rfl, ?_⟩
    have := (I.2.1.2.1 l (by omega) (by omega)).1
    rw [show (4 : Int) = 1 + 3 by rfl, this]
    exact k _
theorem q_music {d : Nat} {l : Int} {S : MS} {C : MC} {P : Int → Int → MC → Prop} (I : Inv S C) (k : ∀ r, P r r C) : K_X10_music_0 (d + 2) 0 0 l S C (fun r Sq C2 => Sq = S ∧ K_X11_music_0 (d + 2) 0 0 l S C2 (fun r2 Sq C3 => Sq = S ∧ P r r2 C3)) := by
  have F := I.1
  refine b_X10_music_0 F (s_isBeatC F fun r hr => ⟨rfl, fun e => ⟨rfl, ?_⟩, fun e => ⟨by omega, rfl, ?_⟩⟩)
  · exact b_X11_music_0 F (s_isBeatM F fun r2 hr2 => ⟨rfl, fun e2 => ⟨rfl, k _⟩, fun e2 => by omega⟩)
  · refine b_X11_music_0 F (s_isBeatM F fun r2 hr2 => ⟨rfl, fun e2 => by omega, fun e2 => s_musicAt F (by omega) ⟨rfl, rfl, ?_⟩⟩)
    have := (I.2.1.2.2.1 l (by omega) (by omega)).1
    rw [show (5 : Int) = 1 + 4 by rfl, this]
    exact k _
