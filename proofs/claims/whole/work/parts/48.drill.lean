/-! 48.drill: drill, least, compare, best -/
theorem lShr_nat {m k : Nat} (hm : m < 4611686018427387904) (hk : k < 25) : lShr (m : Int) (k : Int) = ((m >>> k : Nat) : Int) := by
  have hs : ∀ k : Nat, k < 25 → (((Int32.ofInt (k : Int)).toInt64 &&& 63).toBitVec.smod 64).toNat = k := by decide +kernel
  unfold lShr
  rw [Int64.ofInt_eq_ofNat]
  show ((Int64.ofNat m) >>> ((Int32.ofInt (k : Int)).toInt64 &&& 63)).toBitVec.toInt = _
  rw [Int64.toBitVec_shiftRight]
  show ((BitVec.ofNat 64 m).sshiftRight (((Int32.ofInt (k : Int)).toInt64 &&& 63).toBitVec.smod 64).toNat).toInt = _
  rw [hs k hk]
  have hn : (BitVec.ofNat 64 m).toNat = m := by rw [BitVec.toNat_ofNat, Nat.mod_eq_of_lt (by omega)]
  have hmsb : (BitVec.ofNat 64 m).msb = false := by rw [BitVec.msb_eq_decide, hn]; simp; omega
  rw [BitVec.sshiftRight_eq_of_msb_false hmsb]
  have h2 : ((BitVec.ofNat 64 m) >>> k).toNat = m >>> k := by rw [BitVec.toNat_ushiftRight, hn]
  rw [BitVec.toInt_eq_toNat_of_lt (by rw [h2]; have := Nat.shiftRight_le m k; omega), h2]
theorem lShr24 {x : Int} (h : 0 ≤ x ∧ x < 4611686018427387904) : lShr x 24 = x / 16777216 := by
  obtain ⟨m, rfl⟩ : ∃ m : Nat, x = m := ⟨x.toNat, by omega⟩
  have := lShr_nat (m := m) (k := 24) (by omega) (by decide)
  rw [Nat.shiftRight_eq_div_pow] at this
  rw [show (24 : Int) = ((24 : Nat) : Int) from rfl, this]
  rfl
theorem and7 {m : Nat} : iAnd (w32 (m : Int)) 7 = ((m % 8 : Nat) : Int) := by
  unfold iAnd
  rw [ofI_w32, Int32.ofInt_eq_ofNat]
  have e : (Int32.ofNat m &&& Int32.ofInt 7).toBitVec.toNat = m % 8 := by
    rw [Int32.toBitVec_and, BitVec.toNat_and]
    show (BitVec.ofNat 32 m).toNat &&& 7 = _
    rw [BitVec.toNat_ofNat, show (7 : Nat) = 2 ^ 3 - 1 from rfl, Nat.and_two_pow_sub_one_eq_mod]
    omega
  show (Int32.ofNat m &&& Int32.ofInt 7).toBitVec.toInt = _
  rw [bvI (by rw [e]; omega), e]
/-- what a lightest weight says -/
theorem Lst_v {ok : Nat → Nat → Prop} {md : Nat → Nat → Int} {n X : Nat} {v : Int} (hn : n ≤ 6) (hmd : ∀ h k, 0 ≤ md h k ∧ md h k ≤ 99) (h : Lst ok (wC md) NV 0 (fun h => h < n) X v) (hv : v < NV) : ∃ a, Vd ok (fun h => h < n) X a ∧ v = wt md X a * 16777216 + wt rowW X a ∧ (0 ≤ wt md X a ∧ wt md X a ≤ 792) ∧ 0 ≤ wt rowW X a ∧ wt rowW X a < 16777216 := by
  obtain ⟨a, va, e⟩ := h.2.1 hv
  have h8 : ∀ k, k < 8 → X.testBit k = true → a k < 8 := fun k _ hx => by
    have : a k < n := va.1 k hx
    omega
  refine ⟨a, va, ?_, sm_bd (b := 99) (by decide) (fun k _ => hmd _ k), row_bd h8⟩
  rw [← @wt_wC md X a]
  omega
theorem lCmp_lt {x y : Int} : lCmp x y < 0 ↔ x < y := by
  unfold lCmp
  by_cases h : x < y
  · rw [if_pos h]; simp [h]
  · rw [if_neg h]
    split <;> simp [h]
theorem lCmp_ge {x y : Int} : 0 ≤ lCmp x y ↔ y ≤ x := by
  have := @lCmp_lt x y
  omega
/-- least minded of a beat, as the class tells it -/
def MinB (n : Nat) (hd rc : Nat → Int) (X : Nat) (cn : Nat → Nat → Bool) (md : Nat → Nat → Int) (v : Int) : Prop := Lst (okP cn hd rc) (wC md) NV 0 (fun h => h < n) X v
def mndV (v : Int) : Int := if v < NV then v / 16777216 else -1
theorem s_mindedAt {d b n : Nat} {a : Int} {S : MS} {C : MC} {hd rc : Nat → Int} {X : Nat → Nat} {cn : Nat → Nat → Nat → Bool} {md : Nat → Nat → Nat → Int} {Q : Qt} (F : Fix S) (h : SpC S C a n hd rc X cn md) (hb : b < 16) (hk : ∀ v S' C', S44 S S' → Fp plx C C' → MinB n hd rc (X b) (cn b) (md b) v → Q (mndV v) S' C') : K_X3_mindedAt_0 (d + 9) 0 0 a b S C Q := by
  obtain ⟨ha, h1, h2, h3, h4⟩ := h
  refine b_X3_mindedAt_0 F ha (s_lightestWay F ha hb h1 (h2 b hb).1 (h2 b hb).2 (h3 b) (h4 b 1 hb (Or.inr rfl) _ (S44_up F a)) (fun C1 v f1 l1 _ _ => ⟨fix_street F, fun z => ?_, fun z => ?_⟩))
  · rw [lCmp_ge] at z
    have := hk v _ _ (S44_up F a) f1 l1
    unfold mndV at this
    rw [if_neg (by unfold NV; omega)] at this
    exact this
  · rw [lCmp_ge] at z
    have hv : v < NV := by unfold NV; omega
    obtain ⟨w, _, e, e1, e2⟩ := Lst_v h1.1 (h3 b) l1 hv
    have := hk v _ _ (S44_up F a) f1 l1
    unfold mndV at this
    rw [if_pos hv] at this
    rw [lShr24 (by omega), w32_lit (by omega)]
    exact this
def MinC (n : Nat) (hd rc : Nat → Int) (X : Nat → Nat) (cn : Nat → Nat → Nat → Bool) (md : Nat → Nat → Nat → Int) (r : Int) : Prop := (r = -1 ∧ ∃ b v, b < 16 ∧ MinB n hd rc (X b) (cn b) (md b) v ∧ ¬ v < NV) ∨ (∃ V : Nat → Int, (∀ b, b < 16 → MinB n hd rc (X b) (cn b) (md b) (V b) ∧ V b < NV) ∧ r = sumR (fun b => V b / 16777216) 16)
theorem s_mindedInAll {d n : Nat} {a : Int} {S : MS} {C : MC} {hd rc : Nat → Int} {X : Nat → Nat} {cn : Nat → Nat → Nat → Bool} {md : Nat → Nat → Nat → Int} {Q : Qt} (F : Fix S) (h : SpC S C a n hd rc X cn md) (hk : ∀ r S' C', S44 S S' → Fp plx C C' → MinC n hd rc X cn md r → Q r S' C') : K_X3_mindedInAll_0 (d + 9) 0 0 a S C Q := by
  have ha := h.1
  refine b_X3_mindedInAll_0 F ha ?_
  refine up_ind (α := (MS × MC) × Int) (P := fun m D => S44 S D.1.1 ∧ Fp plx C D.1.2 ∧ (0 ≤ D.2 ∧ D.2 ≤ 792 * m) ∧ ∃ V : Nat → Int, (∀ b, b < m → MinB n hd rc (X b) (cn b) (md b) (V b) ∧ V b < NV) ∧ D.2 = sumR (fun b => V b / 16777216) m) (K := fun m D => K_X3_mindedInAll_4 (d + 9) 0 0 a D.2 (m : Int) D.1.1 D.1.2 Q) 16 ?_ ?_ 0 (by omega) ((S, C), 0) ⟨S44_rf F, Fp_rf, by simp, fun _ => 0, fun b hb => absurd hb (Nat.not_lt_zero b), rfl⟩
  · intro D ⟨p1, p2, p3, V, p4, p5⟩
    exact b_X3_mindedInAll_4 p1.1 ha ⟨fun _ => hk _ _ _ p1 p2 (Or.inr ⟨V, p4, p5⟩), fun z => absurd (by decide) z⟩
  · intro m D hm ⟨p1, p2, p3, V, p4, p5⟩ ih
    obtain ⟨-, h1, h2, h3, h4⟩ := SpC_keep h p1 p2
    refine b_X3_mindedInAll_4 p1.1 ha ⟨fun z => by omega, fun _ => s_lightestWay p1.1 ha hm h1 (h2 m hm).1 (h2 m hm).2 (h3 m) (h4 m 1 hm (Or.inr rfl) _ (S44_up p1.1 a)) (fun C1 v f1 l1 _ _ => ⟨fix_street p1.1, fun z => ?_, fun z => ?_⟩)⟩
    · rw [lCmp_lt] at z
      have hv : v < NV := z
      obtain ⟨w, _, e, e1, e2⟩ := Lst_v h1.1 (h3 m) l1 hv
      rw [lShr24 (by omega), w32_lit (x := v / 16777216) (by omega), w32_lit (x := D.2 + v / 16777216) (by omega), w32_succ (by omega)]
      refine ih ((upP D.1.1 44 8 a, C1), D.2 + v / 16777216) ⟨S44_tr p1 (S44_up p1.1 a), Fp_tr p2 f1, by show 0 ≤ D.2 + v / 16777216 ∧ D.2 + v / 16777216 ≤ 792 * ((m + 1 : Nat) : Int); omega, fun b => if b = m then v else V b, fun b hb => ?_, ?_⟩
      · show MinB n hd rc (X b) (cn b) (md b) (if b = m then v else V b) ∧ (if b = m then v else V b) < NV
        by_cases q : b = m
        · subst q; rw [if_pos rfl]; exact ⟨l1, hv⟩
        · rw [if_neg q]; exact p4 b (by omega)
      · show D.2 + v / 16777216 = sumR (fun b => (if b = m then v else V b) / 16777216) m + (if m = m then v else V m) / 16777216
        rw [if_pos rfl, p5]
        congr 1
        exact sumR_cong m (fun b hb => by rw [if_neg (by omega)])
    · rw [lCmp_lt] at z
      exact hk _ _ _ (S44_tr p1 (S44_up p1.1 a)) (Fp_tr p2 f1) (Or.inl ⟨rfl, m, v, hm, l1, z⟩)
/-! what the class's judge tells, of a street that stands for a kept row -/
def AskCls : Prop := ∀ (S : MS) (C : MC) (a : Int) (κ : Int → Int) (b n : Nat) (mi : Int), Fix S → isSt a → RS S C a κ → κ 45 = n → b < 16 → (mi = 0 ∨ mi = 1) → AskC S C a b n mi (cnK κ b) (mdK κ b)
theorem TxK_44 {S S1 : MS} (h : S44 S S1) : TxK S S1 := TxK_ss (S44_Ss h)
theorem SpC_of {S : MS} {C : MC} {a : Int} {κ : Int → Int} {n : Nat} (hA : AskCls) (ha : isSt a) (h : RS S C a κ) (hn : κ 45 = n) : SpC S C a n (hdK κ) (rcK κ) (mxK κ) (cnK κ) (mdK κ) := by
  have hK := KOk_of h
  obtain ⟨a1, a2, a3, a4, a5, a6⟩ := h
  have hn6 : n ≤ 6 := by have := a1.2.1; omega
  refine ⟨ha, ⟨hn6, by rw [a1.1]; exact hn, fun j hj => ?_⟩, fun b hb => ?_, fun b h k => mdK_bd κ b h k, fun b mi hb hmi S1 hS1 => ?_⟩
  · have q := a1.2.2 j (by omega) (by omega)
    have q2 := q.2.2 (by omega)
    exact ⟨q.1, q.2.1, q2.1, q2.2⟩
  · obtain ⟨m1, m2⟩ := mxK_ok hK hb
    refine ⟨m2, ?_⟩
    rw [(a3 b (by omega) (by omega)).1]; exact m1
  · refine hA S1 C a κ b n mi hS1.1 ha (RS_S ⟨a1, a2, a3, a4, a5, a6⟩ (TxK_44 hS1) (fun i _ _ => hS1.2.2.2.2.2 _ i ?_)) hn hb hmi
    rcases ha with z | z | z | z | z <;> omega
/-! the reference -/
theorem s_drillM {d n : Nat} {S : MS} {C : MC} {Q : Qt} (F : Fix S) (hA : AskMod) (hK : KOk (C 83)) (hn : C 83 45 = n) (hk : ∀ r C', Fp mpx C C' → Fst (hadA n (hdK (C 83)) (rcK (C 83)) (mxK (C 83)) (cnK (C 83))) r → Q r S C') : K_X11_drill_0 (d + 104) 0 0 S C Q := by
  generalize hκ : C 83 = κ at hK hn hk
  have k83 : ∀ C', Fp mpx C C' → C' 83 = κ := fun C' hf => by rw [← hκ]; exact funext fun j => hf 83 j (by unfold mpx asx; omega)
  refine b_X11_drill_0 F ?_
  refine up_ind (α := MC) (P := fun b C' => Fp mpx C C' ∧ ∀ j, j < b → hadA n (hdK κ) (rcK κ) (mxK κ) (cnK κ) j) (K := fun b C' => K_X11_drill_2 (d + 104) 0 0 (b : Int) S C' Q) 16 ?_ ?_ 0 (by omega) C ⟨Fp_rf, fun j hj => absurd hj (Nat.not_lt_zero j)⟩
  · intro C1 ⟨c1, c2⟩
    exact b_X11_drill_2 F ⟨fun _ => hk 16 C1 c1 (Or.inl ⟨rfl, c2⟩), fun z => absurd (by decide) z⟩
  · intro b C1 hb ⟨c1, c2⟩ ih
    have e83 := k83 C1 c1
    refine b_X11_drill_2 F ⟨fun z => by omega, fun _ => s_leastAt F hA (by rw [e83]; exact hK) (by rw [e83]; exact hn) hb (fun C2 v f2 _ _ l2 => ⟨rfl, fun z => ?_, fun z => ?_⟩)⟩
    all_goals
      rw [e83] at l2
      have hc : v < 1000001 ↔ hadA n (hdK κ) (rcK κ) (mxK κ) (cnK κ) b := Lst_cov l2 (fun w _ => by
        have := sm_bd (f := fun k => mdK κ b (w k) k) (X := mxK κ b) (b := 99) (by decide) (fun k _ => mdK_bd κ b _ k)
        have e : wt (mdK κ b) (mxK κ b) w = sm (fun k => mdK κ b (w k) k) (mxK κ b) := rfl
        omega)
    · exact hk b C2 (Fp_tr c1 f2) (Or.inr ⟨b, rfl, hb, fun q => by have := hc.mpr q; omega, c2⟩)
    · rw [w32_succ (by omega)]
      refine ih C2 ⟨Fp_tr c1 f2, fun j hj => ?_⟩
      by_cases q : j = b
      · rw [q]; exact hc.mp (by omega)
      · exact c2 j (by omega)
def plS (a k : Int) : Prop := plx a k ∨ mpx a k
theorem plS_scr : ∀ a k, plS a k → scr a k := fun a k h => by unfold plS plx mpx asx at h; unfold scr; omega
theorem Inv_pl {S S' : MS} {C C1 C2 : MC} (I : Inv S C) (hs : S44 S S') (h1 : Fp plx C C1) (h2 : Fp mpx C1 C2) : Inv S' C2 := Inv_sc I hs.1 (S44_Ss hs) (Fp_mono (Fp_tr (Fp_mono h1 (fun _ _ q => Or.inl q)) (Fp_mono h2 (fun _ _ q => Or.inr q))) plS_scr)
theorem pl83 {C C1 : MC} (h : Fp plx C C1) : C1 83 = C 83 := funext fun j => h 83 j (by unfold plx; omega)
theorem q_drill {d : Nat} {S : MS} {C : MC} {P : Int → Int → MS → MC → Prop} (hAC : AskCls) (hAM : AskMod) (I : Inv S C) (k : PS S P) : K_X10_drill_0 (d + 104) 0 0 S C (fun r S2 C2 => Fix S2 ∧ S2.2.2.2.2 = S.2.2.2.2 ∧ K_X11_drill_0 (d + 104) 0 0 S2 C2 (fun r2 Sq C3 => Sq = S2 ∧ P r r2 S2 C3)) := by
  have F := I.1
  obtain ⟨n, hn⟩ : ∃ n : Nat, C 83 45 = n := ⟨(C 83 45).toNat, by have := I.2.1.1.2.1; omega⟩
  have hK := KOk_of I.2.1
  refine b_X10_drill_0 F (s_firstLost (d := d + 83) F (SpC_of hAC isSt1 I.2.1 hn) (fun r S2 C2 h1 h2 h3 => ⟨h1.1, h1.1, h1.2.2.2.2.1, ?_⟩))
  have e83 := pl83 h2
  refine s_drillM h1.1 hAM (by rw [e83]; exact hK) (by rw [e83]; exact hn) (fun r2 C3 f3 h4 => ⟨rfl, ?_⟩)
  rw [e83] at h4
  rw [← Fst_uniq (fun _ _ => Iff.rfl) h3 h4]
  exact k _ _ _ (Inv_pl I h1 h2 f3) h1.2.2.2.2.1
/-- a beat's least, in both -/
theorem Min_eq {κ : Int → Int} {b n : Nat} {v u : Int} (hn : n ≤ 6) (h1 : MinB n (hdK κ) (rcK κ) (mxK κ b) (cnK κ b) (mdK κ b) v) (h2 : Lst (okK κ b) (mdK κ b) 1000001 0 (fun h => h < n) (mxK κ b) u) : mndV v = if u = 1000001 then -1 else u := by
  obtain ⟨l1, l2⟩ := Lst_lex hn (fun h k _ => mdK_bd κ b h k) h1 h2
  unfold mndV
  by_cases hv : v < NV
  · obtain ⟨hu, a, _, ha, e⟩ := l1 hv
    obtain ⟨w, vw, e2, e3, e4⟩ := Lst_v hn (fun h k => mdK_bd κ b h k) h1 hv
    have h8 : ∀ k, k < 8 → (mxK κ b).testBit k = true → a k < 8 := fun k _ hx => by
      have : a k < n := (l1 hv).2.choose_spec.1.1 k hx |> fun _ => by
        have := ‹Vd _ _ _ a›.1 k hx
        exact this
      omega
    have r1 := row_bd h8
    rw [if_pos hv, if_neg (by omega), e]
    omega
  · rw [if_neg hv, if_pos (l2 hv).1]
