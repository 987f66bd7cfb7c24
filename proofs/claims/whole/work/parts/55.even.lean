/-! 55.even: evenings -/
def stir (x : Int) : Int := (1103 * x + 12345) % 1000003
theorem stir_bd (x : Int) : 0 ≤ stir x ∧ stir x < 1000003 := by unfold stir; omega
theorem s_stir {d mc ms : Nat} {x : Int} {S : MS} {C : MC} {Q : Qt} (F : Fix S) (hx : 0 ≤ x ∧ x < 1000003) (h : Q (stir x) S C) : K_X10_stir_0 d mc ms x S C Q := by
  refine b_X10_stir_0 F ?_
  rw [w32_lit (x := x * 1103) (by omega), w32_lit (x := x * 1103 + 12345) (by omega), Int.tmod_eq_emod_of_nonneg (by omega), w32_lit (by omega)]
  have e : (x * 1103 + 12345) % 1000003 = stir x := by unfold stir; rw [Int.mul_comm]
  rw [e]
  exact h
theorem s_draws {d mc ms : Nat} {x m : Int} {S : MS} {C : MC} {Q : Qt} (F : Fix S) (h52 : C 81 52 = x) (hx : 0 ≤ x ∧ x < 1000003) (hm : 0 < m ∧ m < 100) (h : Q (stir x % m) S (upC C 81 52 (stir x))) : K_X11_draws_0 d mc ms m S C Q := by
  refine b_X11_draws_0 F ?_
  have hb := stir_bd x
  rw [h52, w64_of (x := 1103 * x) (by unfold in64; omega), w64_of (x := 1103 * x + 12345) (by unfold in64; omega), Int.tmod_eq_emod_of_nonneg (a := 1103 * x + 12345) (by omega), show (1103 * x + 12345) % 1000003 = stir x from rfl, w64_of (x := stir x) (by unfold in64; omega), w32_lit (x := stir x) (by omega), Int.tmod_eq_emod_of_nonneg hb.1]
  have h1 : 0 ≤ stir x % m := Int.emod_nonneg _ (by omega)
  have h2 : stir x % m < m := Int.emod_lt_of_pos _ hm.1
  rw [w32_lit (x := stir x % m) (by omega)]
  exact ⟨by omega, h⟩
/-- one evening -/
def evK (n s : Int) (κ : Int → Int) : Int → Int :=
  updF (if stir (stir (stir (stir s))) % 3 = 0 then updF κ (8 + stir s % 16) (iXor (κ (8 + stir s % 16)) (iShl 1 (stir (stir s) % 8))) else if stir (stir (stir (stir s))) % 3 = 1 then updF κ (stir (stir s) % 8) (stir (stir (stir s)) % n) else κ) 24 (κ 24 + 1)
def s4 (s : Int) : Int := stir (stir (stir (stir s)))
theorem evK_hi {n s : Int} {κ : Int → Int} {i : Int} (hi : 25 ≤ i) : evK n s κ i = κ i := by
  unfold evK
  rw [updF_ne (by omega)]
  have h1 : 0 ≤ stir s % 16 ∧ stir s % 16 < 16 := ⟨Int.emod_nonneg _ (by decide), Int.emod_lt_of_pos _ (by decide)⟩
  have h2 : 0 ≤ stir (stir s) % 8 ∧ stir (stir s) % 8 < 8 := ⟨Int.emod_nonneg _ (by decide), Int.emod_lt_of_pos _ (by decide)⟩
  split
  · rw [updF_ne (by omega)]
  · split
    · rw [updF_ne (by omega)]
    · rfl
theorem isSt17 : isSt 17 := Or.inr (Or.inr (Or.inl rfl))
def evx (a k : Int) : Prop := (17 ≤ a ∧ a < 25) ∨ plx a k
theorem RS_ev {S : MS} {C C' : MC} {κ κ' : Int → Int} (h : RS S C 17 κ) (hf : Fp (fun a k => a = 20 ∨ a = 21 ∨ (a = 24 ∧ k = 0)) C C') (h1 : ∀ k, 0 ≤ k → k < 8 → C' 20 k = κ' k ∧ -1 ≤ κ' k ∧ κ' k < κ 45) (h2 : ∀ b, 0 ≤ b → b < 16 → C' 21 b = κ' (8 + b) ∧ 0 ≤ κ' (8 + b) ∧ κ' (8 + b) ≤ 255) (h3 : C' 24 0 = κ' 24 ∧ 0 ≤ κ' 24 ∧ κ' 24 ≤ 999) (hi : ∀ i, 25 ≤ i → κ' i = κ i) : RS S C' 17 κ' := by
  obtain ⟨a1, a2, a3, a4, a5, a6⟩ := h
  have row : ∀ x, x ≠ 20 → x ≠ 21 → x ≠ 24 → C' x = C x := fun x h1 h2 h3 => funext fun q => hf x q (by omega)
  refine ⟨Ra_cong a1 (by rw [row _ (by decide) (by decide) (by decide)]) (row _ (by decide) (by decide) (by decide)) (row _ (by decide) (by decide) (by decide)) (fun i q => hi i (by omega)), fun k x0 x1 => ?_, fun b x0 x1 => h2 b x0 x1, Rd_cong a4 (by rw [row _ (by decide) (by decide) (by decide)]) (row _ (by decide) (by decide) (by decide)) (fun i q => hi i (by omega)), Re_cong a5 (by rw [row _ (by decide) (by decide) (by decide)]) (by rw [row _ (by decide) (by decide) (by decide)]) (fun b hb => row b (by omega) (by omega) (by omega)) (fun i q => hi i (by unfold lwI at q; omega)), ?_⟩
  · rw [hi 45 (by decide)]; exact h1 k x0 x1
  · refine ⟨h3, ?_, ?_⟩
    · show C' 24 1 = κ' 43 ∧ _
      rw [hf 24 1 (by omega), hi 43 (by decide)]; exact a6.2.1
    · show C' 24 2 = κ' 44 ∧ _
      rw [hf 24 2 (by omega), hi 44 (by decide)]; exact a6.2.2
theorem s_spendEvening {d n : Nat} {s : Int} {S : MS} {C : MC} {κ : Int → Int} {Q : Qt} (F : Fix S) (hR : RS S C 17 κ) (hn : κ 45 = n) (hn0 : n ≠ 0) (hday : κ 24 < 999) (hs : 0 ≤ s ∧ s < 1000003) (hk : ∀ C', Fp (fun a k => a = 20 ∨ a = 21 ∨ (a = 24 ∧ k = 0)) C C' → RS S C' 17 (evK n s κ) → Q (s4 s) S C') : K_X10_spendEvening_0 (d + 1) 0 0 s S C Q := by
  have b1 := stir_bd s
  have b2 := stir_bd (stir s)
  have b3 := stir_bd (stir (stir s))
  have hK := KOk_of hR
  have hn6 : n ≤ 6 := by have := hK.1; omega
  have e17 : C 17 0 = n := by rw [hR.1.1]; exact hn
  have m1 : 0 ≤ stir s % 16 ∧ stir s % 16 < 16 := ⟨Int.emod_nonneg _ (by decide), Int.emod_lt_of_pos _ (by decide)⟩
  have m2 : 0 ≤ stir (stir s) % 8 ∧ stir (stir s) % 8 < 8 := ⟨Int.emod_nonneg _ (by decide), Int.emod_lt_of_pos _ (by decide)⟩
  have m3 : 0 ≤ stir (stir (stir s)) % n ∧ stir (stir (stir s)) % n < n := ⟨Int.emod_nonneg _ (by omega), Int.emod_lt_of_pos _ (by omega)⟩
  have m4 : 0 ≤ stir (stir (stir (stir s))) % 3 ∧ stir (stir (stir (stir s))) % 3 < 3 := ⟨Int.emod_nonneg _ (by decide), Int.emod_lt_of_pos _ (by decide)⟩
  have hd0 := hK.2.2.2.2.1
  have e24 : C 24 0 = κ 24 := hR.2.2.2.2.2.1.1
  refine b_X10_spendEvening_0 F (s_stir F hs ⟨rfl, s_stir F b1 ⟨rfl, s_stir F b2 ⟨rfl, ?_⟩⟩⟩)
  rw [e17, Int.tmod_eq_emod_of_nonneg b1.1, Int.tmod_eq_emod_of_nonneg b2.1, Int.tmod_eq_emod_of_nonneg b3.1, w32_lit (x := stir s % 16) (by omega), w32_lit (x := stir (stir s) % 8) (by omega), w32_lit (x := stir (stir (stir s)) % n) (by omega)]
  refine ⟨fun z => by omega, fun _ => ⟨by omega, b_X10_spendEvening_49 F (s_stir F b3 ⟨rfl, ?_⟩)⟩⟩
  rw [Int.tmod_eq_emod_of_nonneg (stir_bd _).1, w32_lit (x := stir (stir (stir (stir s))) % 3) (by omega), e24, w32_lit (x := κ 24 + 1) (by omega)]
  have mus : ∀ b, 0 ≤ b → b < 16 → C 21 b = κ (8 + b) := fun b x0 x1 => (hR.2.2.1 b x0 x1).1
  have own : ∀ k, 0 ≤ k → k < 8 → C 20 k = κ k := fun k x0 x1 => (hR.2.1 k x0 x1).1
  have ob := hK.2.2.1
  have mb := hK.2.2.2.1
  refine ⟨fun z => ⟨fun z2 => ?_, fun z2 => ⟨m2, ?_⟩⟩, fun z => ⟨m1, m1, ?_⟩⟩
  · have e : evK n s κ = updF κ 24 (κ 24 + 1) := by unfold evK; rw [if_neg z, if_neg z2]
    refine hk _ (Fp_up (by omega) Fp_rf) (RS_ev hR (Fp_up (by omega) Fp_rf) (fun k x0 x1 => ?_) (fun b x0 x1 => ?_) ?_ (fun i hi => evK_hi hi))
    · rw [e, updF_ne (by omega), upC_ne (by decide)]; exact ⟨own k x0 x1, ob k x0 x1⟩
    · rw [e, updF_ne (by omega), upC_ne (by decide)]; exact ⟨mus b x0 x1, mb b x0 x1⟩
    · rw [e, updF_at, upC_at]; omega
  · have e : evK n s κ = updF (updF κ (stir (stir s) % 8) (stir (stir (stir s)) % n)) 24 (κ 24 + 1) := by unfold evK; rw [if_neg z, if_pos z2]
    refine hk _ (Fp_up (by omega) (Fp_up (by omega) Fp_rf)) (RS_ev hR (Fp_up (by omega) (Fp_up (by omega) Fp_rf)) (fun k x0 x1 => ?_) (fun b x0 x1 => ?_) ?_ (fun i hi => evK_hi hi))
    · rw [e, updF_ne (by omega), upC_ne (by decide), upC_get]
      unfold updF
      by_cases q : k = stir (stir s) % 8
      · rw [if_pos ⟨rfl, q⟩, if_pos q]; omega
      · rw [if_neg (fun y => q y.2), if_neg q]; exact ⟨own k x0 x1, ob k x0 x1⟩
    · rw [e, updF_ne (by omega), updF_ne (by omega), upC_ne (by decide), upC_ne (by decide)]; exact ⟨mus b x0 x1, mb b x0 x1⟩
    · rw [e, updF_at, upC_at]; omega
  · have e : evK n s κ = updF (updF κ (8 + stir s % 16) (iXor (κ (8 + stir s % 16)) (iShl 1 (stir (stir s) % 8)))) 24 (κ 24 + 1) := by unfold evK; rw [if_pos z]
    have hx := (xor_ok (mb (stir s % 16) m1.1 m1.2) m2).1
    refine hk _ (Fp_up (by omega) (Fp_up (by omega) Fp_rf)) (RS_ev hR (Fp_up (by omega) (Fp_up (by omega) Fp_rf)) (fun k x0 x1 => ?_) (fun b x0 x1 => ?_) ?_ (fun i hi => evK_hi hi))
    · rw [e, updF_ne (by omega), updF_ne (by omega), upC_ne (by decide), upC_ne (by decide)]; exact ⟨own k x0 x1, ob k x0 x1⟩
    · rw [e, updF_ne (by omega), upC_ne (by decide), upC_get]
      unfold updF
      by_cases q : b = stir s % 16
      · rw [if_pos ⟨rfl, q⟩, if_pos (by omega), mus _ m1.1 m1.2]; exact ⟨rfl, hx⟩
      · rw [if_neg (fun y => q y.2), if_neg (by omega)]; exact ⟨mus b x0 x1, mb b x0 x1⟩
    · rw [e, updF_at, upC_at]; omega
theorem s_happens {d n : Nat} {s : Int} {S : MS} {C : MC} {Q : Qt} (F : Fix S) (hn : C 83 45 = n) (hn6 : n ≤ 6) (hn0 : n ≠ 0) (h52 : C 81 52 = s) (hs : 0 ≤ s ∧ s < 1000003) (hk : ∀ C', Fp (fun a k => (a = 81 ∧ k = 52) ∨ (a = 83 ∧ 0 ≤ k ∧ k < 25)) C C' → C' 81 52 = s4 s → updF (C' 83) 24 (C 83 24 + 1) = evK n s (C 83) → C' 83 24 = C 83 24 → Q 0 S C') : K_X11_happens_0 (d + 1) 0 0 S C Q := by
  have b1 := stir_bd s
  have b2 := stir_bd (stir s)
  have b3 := stir_bd (stir (stir s))
  have m1 : 0 ≤ stir s % 16 ∧ stir s % 16 < 16 := ⟨Int.emod_nonneg _ (by decide), Int.emod_lt_of_pos _ (by decide)⟩
  have m2 : 0 ≤ stir (stir s) % 8 ∧ stir (stir s) % 8 < 8 := ⟨Int.emod_nonneg _ (by decide), Int.emod_lt_of_pos _ (by decide)⟩
  have m3 : 0 ≤ stir (stir (stir s)) % n ∧ stir (stir (stir s)) % n < n := ⟨Int.emod_nonneg _ (by omega), Int.emod_lt_of_pos _ (by omega)⟩
  refine b_X11_happens_0 F (s_draws F h52 hs (by omega) ⟨rfl, s_draws F (upC_at _ _ _ _) b1 (by omega) ⟨rfl, s_many F ⟨rfl, ?_⟩⟩⟩)
  rw [upC_ne (by decide), upC_ne (by decide), hn]
  refine s_draws F (upC_at _ _ _ _) b2 (by omega) ⟨rfl, s_draws F (upC_at _ _ _ _) b3 (by omega) ⟨rfl, ?_⟩⟩
  generalize hD : upC (upC (upC (upC C 81 52 (stir s)) 81 52 (stir (stir s))) 81 52 (stir (stir (stir s)))) 81 52 (stir (stir (stir (stir s)))) = D
  have fD : Fp (fun a k => (a = 81 ∧ k = 52) ∨ (a = 83 ∧ 0 ≤ k ∧ k < 25)) C D := by rw [← hD]; exact Fp_up (by omega) (Fp_up (by omega) (Fp_up (by omega) (Fp_up (by omega) Fp_rf)))
  have d83 : D 83 = C 83 := by rw [← hD, upC_ne (by decide), upC_ne (by decide), upC_ne (by decide), upC_ne (by decide)]
  have d52 : D 81 52 = s4 s := by rw [← hD, upC_at]; rfl
  have row : ∀ (i v : Int), upC D 83 i v 83 = updF (C 83) i v := fun i v => funext fun j => by
    rw [upC_get, d83]
    unfold updF
    by_cases q : j = i
    · rw [if_pos ⟨rfl, q⟩, if_pos q]
    · rw [if_neg (fun y => q y.2), if_neg q]
  rw [w32_lit (x := 8 + stir s % 16) (by omega), w32_lit (x := 0 + stir (stir s) % 8) (by omega), Int.zero_add]
  refine ⟨fun z => ⟨fun z2 => ?_, fun z2 => ⟨by omega, ?_⟩⟩, fun z => ⟨by omega, by omega, fun z2 => ?_, fun z2 => by omega⟩⟩
  · refine hk D fD d52 ?_ (by rw [d83])
    rw [d83]; unfold evK; rw [if_neg z, if_neg z2]
  · refine hk _ (Fp_up (by omega) fD) (by rw [upC_ne (by decide)]; exact d52) ?_ (by rw [row, updF_ne (by omega)])
    rw [row]; unfold evK; rw [if_neg z, if_pos z2]
  · refine hk _ (Fp_up (by omega) fD) (by rw [upC_ne (by decide)]; exact d52) ?_ (by rw [row, updF_ne (by omega)])
    rw [row, d83]; unfold evK; rw [if_pos z]
/-- cells that the reference's evenings touch on the way -/
def emx (a k : Int) : Prop := mpx a k ∨ (a = 81 ∧ k = 52) ∨ (a = 83 ∧ 0 ≤ k ∧ k < 25)
theorem even_main {d n : Nat} {l2 : Int} {S : MS} {C : MC} (hAC : AskCls) (hAM : AskMod) (hn6 : n ≤ 6) (hn0 : n ≠ 0) (hl2 : 1 ≤ l2 ∧ l2 ≤ 60) : ∀ (g : Nat) (i : Int), i + g = l2 → 0 ≤ i → ∀ (S1 : MS) (C1 : MC) (κ : Int → Int) (s l4 : Int), S44 S S1 → Fp evx C C1 → RS S1 C1 17 κ → κ 45 = n → (0 ≤ s ∧ s < 1000003) → (0 ≤ l4 ∧ l4 ≤ i) →
    K_X10_evenings_69 (d + 106) 0 0 l2 s l4 i S1 C1 (fun r S2 C2 => ∃ κ' : Int → Int, S44 S S2 ∧ (∃ C9, Fp evx C C9 ∧ C2 = upC C9 0 16 0) ∧ RS S2 C2 17 κ' ∧ (∀ i, 25 ≤ i → κ' i = κ i) ∧ ∀ (S3 : MS) (C3 : MC) (Q : Qt), Fix S3 → C3 83 = κ → C3 81 52 = s → (∀ C4, Fp emx C3 C4 → C4 83 = κ' → K_X11_evenings_120 (d + 106) 0 0 r 0 S3 C4 Q) → K_X11_evenings_60 (d + 106) 0 0 l2 l4 i S3 C3 Q) := by
  intro g
  induction g with
  | zero =>
    intro i hi hi0 S1 C1 κ s l4 hs hf hR hn hsb hl4
    refine b_X10_evenings_69 hs.1 ⟨fun _ => b_X10_accept_0 hs.1 ⟨rfl, κ, hs, ⟨C1, hf, rfl⟩, RS_cong hR (fun j x0 x1 => upC_ne (by omega)) (fun b hb => upC_ne (by omega)) (fun _ => rfl), fun _ _ => rfl, fun S3 C3 Q F3 e3 e52 hQ => b_X11_evenings_60 F3 ⟨fun _ => hQ C3 Fp_rf e3, fun y => by omega⟩⟩, fun z => by omega⟩
  | succ g ih =>
    intro i hi hi0 S1 C1 κ s l4 hs hf hR hn hsb hl4
    have e24 : C1 24 0 = κ 24 := hR.2.2.2.2.2.1.1
    have e1 : w32 (i + 1) = i + 1 := w32_lit (by omega)
    have hK := KOk_of hR
    refine b_X10_evenings_69 hs.1 ⟨fun z => by omega, fun _ => ⟨fun z => b_X10_accept_0 hs.1 ⟨rfl, κ, hs, ⟨C1, hf, rfl⟩, RS_cong hR (fun j x0 x1 => upC_ne (by omega)) (fun b hb => upC_ne (by omega)) (fun _ => rfl), fun _ _ => rfl, fun S3 C3 Q F3 e3 e52 hQ => b_X11_evenings_60 F3 ⟨fun _ => hQ C3 Fp_rf e3, fun y => ⟨fun _ => hQ C3 Fp_rf e3, fun y2 => by rw [e3] at y2; omega⟩⟩⟩, fun z => ?_⟩⟩
    refine s_spendEvening (d := d + 104) hs.1 hR hn hn0 (by omega) hsb (fun C2 f2 hR2 => ⟨rfl, ?_⟩)
    have hn2 : evK n s κ 45 = n := by rw [evK_hi (by decide)]; exact hn
    have hK2 := KOk_of hR2
    have f2' : Fp evx C C2 := Fp_tr hf (Fp_mono f2 (fun a k q => by unfold evx; omega))
    refine s_firstLost (d := d + 85) hs.1 (SpC_of hAC isSt17 hR2 hn2) (fun r S3 C3 h1 h2 h3 => ⟨h1.1, ?_⟩)
    have hs3 := S44_tr hs h1
    have f3 : Fp evx C C3 := Fp_tr f2' (Fp_mono h2 (fun a k q => Or.inr q))
    have hR3 : RS S3 C3 17 (evK n s κ) := RS_cong (RS_S hR2 (TxK_44 h1) (fun i _ _ => h1.2.2.2.2.2 _ i (by omega))) (fun j x0 x1 => funext fun q => h2 _ q (by unfold plx; omega)) (fun b hb => funext fun q => h2 b q (by unfold plx; omega)) (fun _ => rfl)
    have hs4 : 0 ≤ s4 s ∧ s4 s < 1000003 := stir_bd _
    rw [e1]
    -- the reference's evening
    have mod : ∀ (l4n : Int) (κf : Int → Int) (rf : Int), (r = 16 → l4n = w32 (l4 + 1)) → (r ≠ 16 → l4n = w32 (l4 + 0)) → (∀ (S3 : MS) (C3 : MC) (Q : Qt), Fix S3 → C3 83 = evK n s κ → C3 81 52 = s4 s → (∀ C4, Fp emx C3 C4 → C4 83 = κf → K_X11_evenings_120 (d + 106) 0 0 rf 0 S3 C4 Q) → K_X11_evenings_60 (d + 106) 0 0 l2 l4n (i + 1) S3 C3 Q) → ∀ (S3 : MS) (C3 : MC) (Q : Qt), Fix S3 → C3 83 = κ → C3 81 52 = s → (∀ C4, Fp emx C3 C4 → C4 83 = κf → K_X11_evenings_120 (d + 106) 0 0 rf 0 S3 C4 Q) → K_X11_evenings_60 (d + 106) 0 0 l2 l4 i S3 C3 Q := by
      intro l4n κf rf hl1 hl0 hnext S5 C5 Q F5 e5 e52 hQ
      refine b_X11_evenings_60 F5 ⟨fun y => by omega, fun _ => ⟨fun y => by rw [e5] at y; omega, fun _ => ?_⟩⟩
      refine s_happens (d := d + 104) F5 (by rw [e5]; exact hn) hn6 hn0 e52 hsb (fun C6 f6 g6 e6 e6b => ⟨rfl, ?_⟩)
      have hd := hK.2.2.2.2.1
      rw [e5] at e6 e6b
      rw [e6b, w32_lit (x := κ 24 + 1) (by omega)]
      have row : upC C6 83 24 (κ 24 + 1) 83 = evK n s κ := by
        rw [← e6]
        funext j
        rw [upC_get]
        unfold updF
        by_cases q : j = 24
        · rw [if_pos ⟨rfl, q⟩, if_pos q]
        · rw [if_neg (fun y => q y.2), if_neg q]
      refine s_drillM (d := d + 1) F5 hAM (by rw [row]; exact hK2) (by rw [row]; exact hn2) (fun r2 C7 f7 h7 => ⟨rfl, ?_⟩)
      rw [row] at h7
      have er := Fst_uniq (fun _ _ => Iff.rfl) h3 h7
      have e7 : C7 83 = evK n s κ := by rw [← row]; exact funext fun j => f7 83 j (by unfold mpx asx; omega)
      have e752 : C7 81 52 = s4 s := by rw [f7 81 52 (by unfold mpx asx; omega), upC_ne (by decide)]; exact g6
      have f7' : Fp emx C5 C7 := Fp_tr (Fp_tr (Fp_mono f6 (fun a k q => by unfold emx; omega)) (Fp_up (by unfold emx; omega) Fp_rf)) (Fp_mono f7 (fun a k q => Or.inl q))
      have hn3 := hnext S5 C7 Q F5 e7 e752 (fun C8 f8 e8 => hQ C8 (Fp_tr f7' f8) e8)
      rw [e1]
      refine ⟨fun y => ?_, fun y => ?_⟩
      · rw [hl0 (by omega)] at hn3; exact hn3
      · rw [hl1 (by omega)] at hn3; exact hn3
    have e40 : w32 (l4 + 0) = l4 := by rw [Int.add_zero]; exact w32_lit (by omega)
    have e41 : w32 (l4 + 1) = l4 + 1 := w32_lit (by omega)
    refine ⟨fun y => ?_, fun y => ?_⟩
    · refine (ih (i + 1) (by omega) (by omega) S3 C3 (evK n s κ) (s4 s) l4 hs3 f3 hR3 hn2 hs4 (by omega)).mono (fun rf S4 C4 hq => ?_)
      obtain ⟨κ', q1, q2, q3, q4, q5⟩ := hq
      exact ⟨κ', q1, q2, q3, fun i hi => by rw [q4 i hi, evK_hi hi], mod _ κ' rf (fun q => absurd q y) (fun _ => e40.symm) q5⟩
    · refine (ih (i + 1) (by omega) (by omega) S3 C3 (evK n s κ) (s4 s) (w32 (l4 + 1)) hs3 f3 hR3 hn2 hs4 (by omega)).mono (fun rf S4 C4 hq => ?_)
      obtain ⟨κ', q1, q2, q3, q4, q5⟩ := hq
      exact ⟨κ', q1, q2, q3, fun i hi => by rw [q4 i hi, evK_hi hi], mod _ κ' rf (fun _ => rfl) (fun q => absurd y q) q5⟩
