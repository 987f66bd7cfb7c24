/-! 61.reckon: the class runs its code -/
theorem iShr_nat {m k : Nat} (hm : m < 2147483648) (hk : k < 32) : iShr (m : Int) (k : Int) = ((m >>> k : Nat) : Int) := by
  have hs : ∀ k : Nat, k < 32 → ((Int32.ofInt (k : Int) &&& 31).toBitVec.smod 32).toNat = k := by decide +kernel
  unfold iShr
  rw [Int32.ofInt_eq_ofNat]
  show ((Int32.ofNat m) >>> (Int32.ofInt (k : Int) &&& 31)).toBitVec.toInt = _
  rw [Int32.toBitVec_shiftRight]
  show ((BitVec.ofNat 32 m).sshiftRight ((Int32.ofInt (k : Int) &&& 31).toBitVec.smod 32).toNat).toInt = _
  rw [hs k hk]
  have hn : (BitVec.ofNat 32 m).toNat = m := by rw [BitVec.toNat_ofNat, Nat.mod_eq_of_lt (by omega)]
  have hmsb : (BitVec.ofNat 32 m).msb = false := by rw [BitVec.msb_eq_decide, hn]; simp; omega
  rw [BitVec.sshiftRight_eq_of_msb_false hmsb]
  have h2 : ((BitVec.ofNat 32 m) >>> k).toNat = m >>> k := by rw [BitVec.toNat_ushiftRight, hn]
  rw [BitVec.toInt_eq_toNat_of_lt (by rw [h2]; have := Nat.shiftRight_le m k; omega), h2]
theorem cw_and {v t : Nat} (hv : v < 1024) (ht : t < 16) : iAnd (16 * (v : Int) + (t : Int)) 15 = t := by
  have e : 16 * (v : Int) + (t : Int) = ((16 * v + t : Nat) : Int) := by omega
  rw [e, show (15 : Int) = ((15 : Nat) : Int) from rfl, iAnd_nat (by omega) (by omega), show (15 : Nat) = 2 ^ 4 - 1 from rfl, Nat.and_two_pow_sub_one_eq_mod]
  omega
theorem cw_shr {v t : Nat} (hv : v < 1024) (ht : t < 16) : iShr (16 * (v : Int) + (t : Int)) 4 = v := by
  have e : 16 * (v : Int) + (t : Int) = ((16 * v + t : Nat) : Int) := by omega
  rw [e, show (4 : Int) = ((4 : Nat) : Int) from rfl, iShr_nat (by omega) (by omega), Nat.shiftRight_eq_div_pow]
  omega
theorem cw_and0 {t : Nat} (ht : t < 16) : iAnd (t : Int) 15 = t := by
  have e := cw_and (v := 0) (t := t) (by decide) ht
  rwa [show 16 * ((0 : Nat) : Int) + (t : Int) = t by simp] at e
theorem cw_shr0 {t : Nat} (ht : t < 16) : iShr (t : Int) 4 = 0 := by
  have e := cw_shr (v := 0) (t := t) (by decide) ht
  rwa [show 16 * ((0 : Nat) : Int) + (t : Int) = t by simp] at e
def NANi : Int := -1152921504606846976
/-- where the class reckons -/
def RkC (l0 A W : Int) (S : MS) (w : Wd) (o : Bool) (C : MC) : Prop := (∀ i : Int, 0 ≤ i → i < (if o then 29 else 8) → i < S.2.2.1 W ∧ C W i = w i)
def RkF (l0 A W : Int) (S : MS) (w : Wd) : Prop := isRk l0 ∧ Arr S A 20 ∧ Arr S W 20 ∧ A ≠ l0 + 1 ∧ W ≠ l0 + 1 ∧ S.2.2.1 A ≤ 400 ∧ ∀ i, Bd (w i)
def Sk (l0 : Int) (s : Nat) (C C' : MC) : Prop := Fp (fun a k => a = l0 + 1 ∧ (s : Int) ≤ k) C C'
theorem Sk_up {l0 v : Int} {s k : Nat} {C C' : MC} (h : Sk l0 s C C') (hk : s ≤ k) : Sk l0 s C (upC C' (l0 + 1) (k : Int) v) := Fp_up ⟨rfl, by omega⟩ h
theorem Sk_rf {l0 : Int} {s : Nat} {C : MC} : Sk l0 s C C := Fp_rf
theorem Sk_tr {l0 : Int} {s : Nat} {C C1 C2 : MC} (h : Sk l0 s C C1) (g : Sk l0 s C1 C2) : Sk l0 s C C2 := Fp_tr h g
theorem Sk_le {l0 : Int} {s s' : Nat} {C C1 : MC} (h : Sk l0 s C C1) (hs : s' ≤ s) : Sk l0 s' C C1 := Fp_mono h (fun a k q => ⟨q.1, by omega⟩)
theorem Sk_row {l0 a : Int} {s : Nat} {C C1 : MC} (h : Sk l0 s C C1) (ha : a ≠ l0 + 1) : C1 a = C a := fp_row h (fun k q => ha q.1)
theorem RkC_sk {l0 A W : Int} {S : MS} {w : Wd} {o : Bool} {C C1 : MC} {s : Nat} (h : RkC l0 A W S w o C) (hW : W ≠ l0 + 1) (hs : Sk l0 s C C1) : RkC l0 A W S w o C1 := by
  intro i x0 x1
  rw [Sk_row hs hW]
  exact h i x0 x1
def cAt (C : MC) (A : Int) (c0 : Nat) (cd : List Int) : Prop := ∀ j x, cd[j]? = some x → C A ((c0 + j : Nat) : Int) = x
theorem cAt_l {C : MC} {A : Int} {c0 : Nat} {a b : List Int} (h : cAt C A c0 (a ++ b)) : cAt C A c0 a := fun j x hj => h j x (by
  rw [List.getElem?_append_left (List.getElem?_eq_some_iff.mp hj).1]; exact hj)
theorem cAt_r {C : MC} {A : Int} {c0 : Nat} {a b : List Int} (h : cAt C A c0 (a ++ b)) : cAt C A (c0 + a.length) b := fun j x hj => by
  have := h (a.length + j) x (by rw [List.getElem?_append_right (by omega), Nat.add_sub_cancel_left]; exact hj)
  rw [show c0 + a.length + j = c0 + (a.length + j) by omega]
  exact this
theorem cAt_c {C : MC} {A : Int} {c0 : Nat} {x : Int} {b : List Int} (h : cAt C A c0 (x :: b)) : C A (c0 : Int) = x ∧ cAt C A (c0 + 1) b := ⟨h 0 x rfl, fun j y hj => by
  have := h (j + 1) y hj
  rw [show c0 + 1 + j = c0 + (j + 1) by omega]
  exact this⟩
theorem cAt_sk {l0 A : Int} {s c0 : Nat} {C C1 : MC} {cd : List Int} (h : cAt C A c0 cd) (hA : A ≠ l0 + 1) (hs : Sk l0 s C C1) : cAt C1 A c0 cd := fun j x hj => by rw [Sk_row hs hA]; exact h j x hj
