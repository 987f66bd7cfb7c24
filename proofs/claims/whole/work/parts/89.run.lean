/-! 89.run: the run of orders, as pure mathematics -/
def kpW (κ w : Int → Int) : Int → Int := fun i => if 0 ≤ i ∧ i < 25 then w i else κ i
def wdO (w : Int → Int) (dn lt dv : Int) : Wd := fun i => if i = 0 then w 24 else if i = 1 then dn else if i = 2 then lt else if i = 3 then dv else if i = 4 then ntn (fun b => w (8 + b)) 16 else if 5 ≤ i ∧ i < 21 then w (8 + (i - 5)) else if 21 ≤ i ∧ i < 29 then w (i - 21) else 0
def DrR (n : Nat) (κ : Int → Int) (r : Int) : Prop := Fst (hadA n (hdK κ) (rcK κ) (mxK κ) (cnK κ)) r
noncomputable def dvF (n : Nat) (κ : Int → Int) : Int := Classical.epsilon (fun r => DrR n κ r)
noncomputable def tlF (m kind f g : Int) (w : Int → Int) : Int := Classical.epsilon (fun t => Tld m kind f g w t)
theorem tlF_eq {m kind f g t : Int} {w : Int → Int} (h : Tld m kind f g w t) : tlF m kind f g w = t := Tld_uniq (Classical.epsilon_spec (p := fun t => Tld m kind f g w t) ⟨t, h⟩) h
theorem dvF_eq {n : Nat} {κ : Int → Int} {r : Int} (h : DrR n κ r) : dvF n κ = r := Fst_uniq (fun _ _ => Iff.rfl) (Classical.epsilon_spec (p := fun r => DrR n κ r) ⟨r, h⟩) h
theorem prt_in {a : Nat → Nat} {X h k : Nat} (hX : X < 256) (hk : (prt a X h).testBit k = true) : X.testBit k = true := by
  rw [prt_bit hX] at hk
  cases hx : X.testBit k with
  | true => rfl
  | false => rw [hx] at hk; cases hk
theorem law_cong {κ κ' : Int → Int} (hK : KOk κ) (hk : ∀ i, ktI i → κ' i = κ i) : lawOf κ' = lawOf κ := by
  have h48 := hK.2.2.2.2.2.2.2.1
  have h47 := hK.2.2.2.2.2.2.1
  unfold lawOf
  rw [hk 48 (by unfold ktI; omega)]
  by_cases z : κ 48 = -1
  · rw [if_pos z, if_pos z]
  · rw [if_neg z, if_neg z]
    have := (hK.2.2.2.2.2.2.2.2 (κ 48) (by omega) (by omega)).1
    rw [toks_cong this.2 (by omega) (fun j hj => hk j (by unfold lwI at hj; unfold ktI; omega))]
theorem cn_cong {κ κ' : Int → Int} {b h k : Nat} (hK : KOk κ) (hk : ∀ i, ktI i → κ' i = κ i) (hh : h < 6) (hk8 : k < 8) : cnK κ' b h k = cnK κ b h k := by
  unfold cnK
  have ew : lawW κ' b h k = lawW κ b h k := by
    funext i
    unfold lawW
    rw [hk k (by unfold ktI; omega), hk (25 + h) (by unfold ktI; omega), hk (31 + h) (by unfold ktI; omega), hk 24 (by unfold ktI; omega), hk 44 (by unfold ktI; omega)]
  rw [ew, law_cong hK hk, hk k (by unfold ktI; omega)]
theorem dr_cong {n : Nat} {κ κ' : Int → Int} {r : Int} (hK : KOk κ) (hK' : KOk κ') (hn : κ 45 = n) (hk : ∀ i, ktI i → κ' i = κ i) (h : DrR n κ r) : DrR n κ' r := by
  have hn6 : n ≤ 6 := by have := hK.1; omega
  have one : ∀ {κ κ' : Int → Int}, KOk κ → KOk κ' → (∀ i, ktI i → κ' i = κ i) → ∀ b, b < 16 → hadA n (hdK κ) (rcK κ) (mxK κ) (cnK κ) b → hadA n (hdK κ') (rcK κ') (mxK κ') (cnK κ') b := by
    intro κ κ' hK hK' hk b hb ⟨a, v1, v2⟩
    have em : mxK κ' b = mxK κ b := by unfold mxK; rw [hk _ (by unfold ktI; omega)]
    refine ⟨a, ?_, ?_⟩
    · rw [em]; exact v1
    · rw [em]
      intro h hh
      obtain ⟨w1, w2⟩ := v2 h hh
      have hh' : h < n := hh
      refine ⟨fun k hk2 => ?_, ?_⟩
      · rw [cn_cong hK hk (by omega) (bit_lt8 (mxK_ok hK hb).2 (prt_in (mxK_ok hK hb).2 hk2))]; exact w1 k hk2
      · have e1 : hdK κ' h = hdK κ h := hk _ (by unfold ktI; omega)
        have e2 : rcK κ' h = rcK κ h := hk _ (by unfold ktI; omega)
        rw [e1, e2]; exact w2
  have iff : ∀ b, b < 16 → (hadA n (hdK κ) (rcK κ) (mxK κ) (cnK κ) b ↔ hadA n (hdK κ') (rcK κ') (mxK κ') (cnK κ') b) := fun b hb => ⟨one hK hK' hk b hb, one hK' hK (fun i hi => (hk i hi).symm) b hb⟩
  rcases h with ⟨e, h⟩ | ⟨b, e1, e2, e3, e4⟩
  · exact Or.inl ⟨e, fun b hb => (iff b hb).mp (h b hb)⟩
  · exact Or.inr ⟨b, e1, e2, fun z => e3 ((iff b e2).mpr z), fun j hj => (iff j (by omega)).mp (e4 j hj)⟩
/-- far from all that a change may take -/
def farI (x : Int) : Prop := x < -1000 ∨ 1000 < x
theorem Tld_far {m kind f g f' g' t : Int} {w : Int → Int} (hm : m ≤ 6) (hf : f' = f ∨ farI f ∧ farI f') (hg : g' = g ∨ farI g ∧ farI g') (h : Tld m kind f' g' w t) : Tld m kind f g w t ∧ (0 ≤ t → UOk m w → chW kind f' g' w = chW kind f g w) := by
  have nn : ∀ x, farI x → ¬ (0 ≤ x ∧ x < 8) ∧ ¬ (0 ≤ x ∧ x < 16) ∧ ¬ (x = -1 ∨ 0 ≤ x ∧ x < m) ∧ ¬ (-7 ≤ x ∧ x ≤ 7 ∧ x ≠ 0) := fun x hx => by unfold farI at hx; omega
  rcases hf with rfl | ⟨hf, hf'⟩
  · rcases hg with rfl | ⟨hg, hg'⟩
    · exact ⟨h, fun _ _ => rfl⟩
    · have n1 := nn g hg
      have n2 := nn g' hg'
      rcases h with ⟨k, h⟩ | ⟨k, h⟩ | ⟨k, h⟩ | ⟨k, h⟩
      · rcases h with h | h
        · exact absurd h.1.2 n2.2.1
        · exact ⟨Or.inl ⟨k, Or.inr ⟨fun z => n1.2.1 z.2, h.2⟩⟩, fun z _ => by omega⟩
      · rcases h with ⟨h1, h⟩ | h
        · rcases h with h | h
          · exact absurd h.1 n2.2.2.1
          · exact ⟨Or.inr (Or.inl ⟨k, Or.inl ⟨h1, Or.inr ⟨n1.2.2.1, h.2⟩⟩⟩), fun z _ => by omega⟩
        · exact ⟨Or.inr (Or.inl ⟨k, Or.inr h⟩), fun z _ => by omega⟩
      · refine ⟨Or.inr (Or.inr (Or.inl ⟨k, h⟩)), fun _ _ => ?_⟩
        unfold chW
        simp [k]
      · refine ⟨Or.inr (Or.inr (Or.inr ⟨k, h⟩)), fun _ _ => ?_⟩
        unfold chW
        simp [k]
  · have n1 := nn f hf
    have n2 := nn f' hf'
    rcases h with ⟨k, h⟩ | ⟨k, h⟩ | ⟨k, h⟩ | ⟨k, h⟩
    · rcases h with h | h
      · exact absurd h.1.1 n2.1
      · exact ⟨Or.inl ⟨k, Or.inr ⟨fun z => n1.1 z.1, h.2⟩⟩, fun z _ => by omega⟩
    · rcases h with h | h
      · exact absurd h.1 n2.1
      · exact ⟨Or.inr (Or.inl ⟨k, Or.inr ⟨n1.1, h.2⟩⟩), fun z _ => by omega⟩
    · rcases h with h | h
      · exact absurd h.1 n2.2.2.2
      · exact ⟨Or.inr (Or.inr (Or.inl ⟨k, Or.inr ⟨n1.2.2.2, h.2⟩⟩)), fun z _ => by omega⟩
    · refine ⟨Or.inr (Or.inr (Or.inr ⟨k, h⟩)), fun _ _ => ?_⟩
      unfold chW
      simp [k]
theorem w32_far {f : Int} (h : Bd f) : w32 f = f ∨ farI f ∧ farI (w32 f) := by
  unfold Bd at h
  by_cases z : f = 2147483648
  · right
    rw [z]
    unfold farI w32
    omega
  · left
    exact w32_lit (by omega)
def smV (x : Int) : Int := if x < -1000000 ∨ 1000000 < x then 1000001 else x
theorem smV_far {f : Int} : smV f = f ∨ farI f ∧ farI (smV f) := by
  unfold smV farI
  split
  · right; omega
  · left; rfl
/-! how many, the worlds, the kinds, what the latest shift told -/
abbrev RX : Type := Nat × (Nat → Int → Int) × (Nat → Int) × Int
noncomputable def wdR (κ : Int → Int) (nn n0 : Nat) (hd : Bool) (x : RX) : Wd := wdO (x.2.1 x.1) ((x.1 - n0 : Nat) : Int) x.2.2.2 (if hd then dvF nn (kpW κ (x.2.1 x.1)) else 0)
def nxR (kind f g t : Int) (x : RX) : RX := (x.1 + 1, sucW x.2.1 x.1 (chW kind f g (x.2.1 x.1)), (fun j => if j < x.1 then x.2.2.1 j else kind), if kind = 2 then t else x.2.2.2)
noncomputable def stF (m : Int) (wd : Wd) (c : Cla) (x : RX) : Option RX :=
  if holdsC c wd = true then (match c.2.2.1 wd, c.2.2.2.1 wd with
    | some f, some g => if 0 ≤ tlF m c.1.1 f g (x.2.1 x.1) then some (nxR c.1.1 f g (tlF m c.1.1 f g (x.2.1 x.1)) x) else none
    | _, _ => none) else some x
noncomputable def tmF (m : Int) (κ : Int → Int) (nn n0 : Nat) (c : Cla × Bool) : Nat → RX → Option RX
  | 0, x => some x
  | k + 1, x => match stF m (wdR κ nn n0 c.2 x) c.1 x with
    | none => none
    | some y => tmF m κ nn n0 c k y
noncomputable def alF (m : Int) (κ : Int → Int) (nn n0 : Nat) : List (Cla × Bool) → Nat → RX → Sum Nat RX
  | [], _, x => .inr x
  | c :: l, i, x => match tmF m κ nn n0 c c.1.1.2.toNat x with
    | none => .inl i
    | some y => alF m κ nn n0 l (i + 1) y
theorem stF_no {m : Int} {wd : Wd} {c : Cla} {x : RX} (h : holdsC c wd = false) : stF m wd c x = some x := by unfold stF; rw [h]; rfl
theorem stF_br {m : Int} {wd : Wd} {c : Cla} {x : RX} (h : holdsC c wd = true) (h2 : c.2.2.1 wd = none ∨ c.2.2.2.1 wd = none) : stF m wd c x = none := by
  unfold stF
  rw [if_pos h]
  rcases h2 with h2 | h2
  · rw [h2]
  · rw [h2]
    cases c.2.2.1 wd <;> rfl
theorem stF_so {m : Int} {wd : Wd} {c : Cla} {x : RX} {f g t : Int} (h : holdsC c wd = true) (hf : c.2.2.1 wd = some f) (hg : c.2.2.2.1 wd = some g) (ht : Tld m c.1.1 f g (x.2.1 x.1) t) : stF m wd c x = if 0 ≤ t then some (nxR c.1.1 f g t x) else none := by
  unfold stF
  rw [if_pos h, hf, hg]
  simp only [tlF_eq ht]
/-- a step has one change more at most -/
theorem stF_n {m : Int} {wd : Wd} {c : Cla} {x y : RX} (h : stF m wd c x = some y) : (y.1 = x.1 ∨ y.1 = x.1 + 1) ∧ (∀ j, j ≤ x.1 → y.2.1 j = x.2.1 j) ∧ ∀ j, j < x.1 → y.2.2.1 j = x.2.2.1 j := by
  unfold stF at h
  split at h
  · split at h
    · split at h
      · cases h
        exact ⟨Or.inr rfl, fun j hj => sucW_le hj, fun j hj => if_pos hj⟩
      · cases h
    · cases h
  · cases h
    exact ⟨Or.inl rfl, fun _ _ => rfl, fun _ _ => rfl⟩
