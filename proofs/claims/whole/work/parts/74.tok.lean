/-! 74.tok: tokens, as pure mathematics -/
def smB (x : Int) : Bool := decide (97 ≤ x ∧ x ≤ 122)
def dgB (x : Int) : Bool := decide (48 ≤ x ∧ x ≤ 57)
def ub (x : Int) : Int := if x < 0 then x + 256 else x
/-- how far a run of P goes -/
def runT (P : Int → Bool) (B : Nat → Int) (N : Nat) : Nat → Nat → Nat
  | 0, k => k
  | n + 1, k => if k < N ∧ P (B k) = true then runT P B N n (k + 1) else k
def endT (B : Nat → Int) (N k : Nat) : Nat := if smB (B k) = true then runT smB B N 400 (k + 1) else if dgB (B k) = true then runT dgB B N 400 (k + 1) else k + 1
def tkL (B : Nat → Int) (N : Nat) : Nat → Nat → List (Nat × Nat)
  | 0, _ => []
  | n + 1, k => if N ≤ k then [] else if B k = 32 then tkL B N n (k + 1) else (k, endT B N k) :: tkL B N n (endT B N k)
def sl (B : Nat → Int) (f t : Nat) : List Int := (List.range (t - f)).map (fun j => B (f + j))
def spW : List Int → List Int → List (List Int)
  | [], _ => []
  | c :: l, w => if c = 32 then w.reverse :: spW l [] else spW l (c :: w)
def WL : List (List Int) := spW wrdL []
def WM : List (List Int) := spW wmL []
def ixOf (s : List Int) : List (List Int) → Nat → Option Nat
  | [], _ => none
  | w :: ws, i => if s = w then some i else ixOf s ws (i + 1)
def kWord (s : List Int) : Int := match ixOf s WL 0 with
  | some i => 256 + i
  | none => 283
def cWord (s : List Int) : Int := match ixOf s WM 1 with
  | some i => i
  | none => 0
def mcW : List Int := [8, 9, 14, 10, 11, 12, 15, 13, 16, 17, 18, 19, 20, 1, 2, 3, 21, 23, 25, 26, 22, 24, 27, 4, 6, 5, 7]
/-- a kind of the class's to a code of the reference's -/
def mcK (k : Int) : Int := if k < 256 then 100 + k else if k < 283 then mcW.getD (k - 256).toNat 0 else if k = 284 then 50 else 0
theorem words_all : ∀ w ∈ WL, mcK (kWord w) = cWord w := by decide +kernel
theorem words_sub : ∀ w ∈ WM, w ∈ WL := by decide +kernel
theorem ixOf_none {s : List Int} : ∀ (ws : List (List Int)) (i : Nat), s ∉ ws → ixOf s ws i = none
  | [], _, _ => rfl
  | w :: ws, i, h => by
    unfold ixOf
    rw [if_neg (fun z => h (by rw [z]; exact List.mem_cons_self))]
    exact ixOf_none ws (i + 1) (fun z => h (List.mem_cons_of_mem _ z))
theorem ixOf_lt {s : List Int} : ∀ (ws : List (List Int)) (i j : Nat), ixOf s ws i = some j → i ≤ j ∧ j < i + ws.length
  | [], _, _, h => by cases h
  | w :: ws, i, j, h => by
    unfold ixOf at h
    split at h
    · cases h; rw [List.length_cons]; omega
    · have := ixOf_lt ws (i + 1) j h
      rw [List.length_cons]; omega
theorem word_rel (s : List Int) : mcK (kWord s) = cWord s := by
  by_cases h : s ∈ WL
  · exact words_all s h
  · have e1 : kWord s = 283 := by unfold kWord; rw [ixOf_none _ _ h]
    have e2 : cWord s = 0 := by unfold cWord; rw [ixOf_none _ _ (fun z => h (words_sub s z))]
    rw [e1, e2]
    decide
theorem WL_len : WL.length = 27 := by decide +kernel
theorem kWord_bd (s : List Int) : 256 ≤ kWord s ∧ kWord s ≤ 283 := by
  unfold kWord
  cases h : ixOf s WL 0 with
  | none => exact ⟨by decide, by decide⟩
  | some i =>
    have := ixOf_lt _ _ _ h
    rw [WL_len] at this
    show 256 ≤ 256 + (i : Int) ∧ 256 + (i : Int) ≤ 283
    omega
def numC (B : Nat → Int) (f : Nat) : Nat → Int
  | 0 => 0
  | n + 1 => min (10 * numC B f n + B (f + n) - 48) 1001
def numM (B : Nat → Int) (f : Nat) : Nat → Int
  | 0 => 0
  | n + 1 => if numM B f n ≤ 1000000 then 10 * numM B f n + B (f + n) - 48 else numM B f n
def NumR (a v : Int) : Prop := (0 ≤ v ∧ v ≤ 10000009) ∧ (v ≤ 1000 → a = v) ∧ (1000 < v → a = 1001)
theorem num_rel {B : Nat → Int} {f : Nat} : ∀ n : Nat, (∀ j, j < n → 48 ≤ B (f + j) ∧ B (f + j) ≤ 57) → NumR (numC B f n) (numM B f n)
  | 0, _ => ⟨by unfold numM; decide, fun _ => rfl, fun h => by unfold numM at h; omega⟩
  | n + 1, h => by
    have ih := num_rel n (fun j hj => h j (by omega))
    have hd := h n (by omega)
    unfold NumR at ih ⊢
    unfold numC numM
    generalize numC B f n = a at ih
    generalize numM B f n = v at ih
    generalize B (f + n) = x at hd
    split
    · refine ⟨by omega, fun z => ?_, fun z => ?_⟩
      · have : a = v := ih.2.1 (by omega)
        omega
      · by_cases q : v ≤ 1000
        · have := ih.2.1 q; omega
        · have := ih.2.2 (by omega); omega
    · refine ⟨ih.1, fun z => by omega, fun z => ?_⟩
      have := ih.2.2 z
      omega
/-- kind, number, code, value of a token -/
def kdC (B : Nat → Int) (f t : Nat) : Int := if dgB (B f) = true then 284 else if smB (B f) = true then kWord (sl B f t) else ub (B f)
def cdM (B : Nat → Int) (f t : Nat) : Int := if smB (B f) = true then cWord (sl B f t) else if dgB (B f) = true then 50 else 100 + ub (B f)
def vlM (B : Nat → Int) (f t : Nat) : Int := if dgB (B f) = true then numM B f (t - f) else 0
theorem smB_iff {x : Int} : smB x = true ↔ 97 ≤ x ∧ x ≤ 122 := by unfold smB; exact decide_eq_true_iff
theorem dgB_iff {x : Int} : dgB x = true ↔ 48 ≤ x ∧ x ≤ 57 := by unfold dgB; exact decide_eq_true_iff
theorem kd_rel {B : Nat → Int} {f t : Nat} (h : -128 ≤ B f ∧ B f ≤ 127) : cdM B f t = mcK (kdC B f t) ∧ (0 ≤ kdC B f t ∧ kdC B f t ≤ 284) ∧ (kdC B f t = 284 ↔ dgB (B f) = true) := by
  by_cases q1 : dgB (B f) = true
  · have q2 : ¬ smB (B f) = true := by rw [smB_iff]; rw [dgB_iff] at q1; omega
    have ek : kdC B f t = 284 := by unfold kdC; rw [if_pos q1]
    have ec : cdM B f t = 50 := by unfold cdM; rw [if_neg q2, if_pos q1]
    rw [ek, ec]
    exact ⟨by decide, by decide, fun _ => q1, fun _ => rfl⟩
  · by_cases q2 : smB (B f) = true
    · have ek : kdC B f t = kWord (sl B f t) := by unfold kdC; rw [if_neg q1, if_pos q2]
      have ec : cdM B f t = cWord (sl B f t) := by unfold cdM; rw [if_pos q2]
      rw [ek, ec]
      have := kWord_bd (sl B f t)
      exact ⟨(word_rel _).symm, by omega, fun z => by omega, fun z => absurd z q1⟩
    · have ek : kdC B f t = ub (B f) := by unfold kdC; rw [if_neg q1, if_neg q2]
      have ec : cdM B f t = 100 + ub (B f) := by unfold cdM; rw [if_neg q2, if_neg q1]
      rw [ek, ec]
      have hu : 0 ≤ ub (B f) ∧ ub (B f) ≤ 255 := by unfold ub; split <;> omega
      refine ⟨?_, by omega, fun z => by omega, fun z => absurd z q1⟩
      unfold mcK
      rw [if_pos (by omega)]
theorem runT_bd {P : Int → Bool} {B : Nat → Int} {N : Nat} : ∀ (n k : Nat), k ≤ N → k ≤ runT P B N n k ∧ runT P B N n k ≤ N ∧ (∀ j, k ≤ j → j < runT P B N n k → P (B j) = true) ∧ (N ≤ k + n → runT P B N n k = N ∨ P (B (runT P B N n k)) = false)
  | 0, k, h => by
    unfold runT
    exact ⟨Nat.le_refl _, h, fun j h1 h2 => absurd h1 (by omega), fun h2 => Or.inl (by omega)⟩
  | n + 1, k, h => by
    unfold runT
    split
    · rename_i z
      obtain ⟨a1, a2, a3, a4⟩ := runT_bd (P := P) (B := B) (N := N) n (k + 1) z.1
      refine ⟨by omega, a2, fun j h1 h2 => ?_, fun h2 => a4 (by omega)⟩
      by_cases q : j = k
      · rw [q]; exact z.2
      · exact a3 j (by omega) h2
    · rename_i z
      refine ⟨Nat.le_refl _, h, fun j h1 h2 => absurd h1 (by omega), fun _ => ?_⟩
      by_cases q : k = N
      · exact Or.inl q
      · refine Or.inr ?_
        cases hp : P (B k) with
        | false => rfl
        | true => exact absurd ⟨by omega, hp⟩ z
theorem endT_bd {B : Nat → Int} {N k : Nat} (hk : k < N) : k < endT B N k ∧ endT B N k ≤ N := by
  unfold endT
  split
  · have := runT_bd (P := smB) (B := B) 400 (k + 1) hk; omega
  split
  · have := runT_bd (P := dgB) (B := B) 400 (k + 1) hk; omega
  · omega
theorem endT_dig {B : Nat → Int} {N k : Nat} (hk : k < N) (hd : dgB (B k) = true) : ∀ j, k ≤ j → j < endT B N k → dgB (B j) = true := by
  have q2 : ¬ smB (B k) = true := by rw [smB_iff]; rw [dgB_iff] at hd; omega
  unfold endT
  rw [if_neg q2, if_pos hd]
  intro j h1 h2
  by_cases q : j = k
  · rw [q]; exact hd
  · exact (runT_bd (P := dgB) (B := B) 400 (k + 1) hk).2.2.1 j (by omega) h2
theorem tkL_len {B : Nat → Int} {N : Nat} : ∀ (n k : Nat), (tkL B N n k).length + k ≤ N ∨ tkL B N n k = []
  | 0, k => Or.inr rfl
  | n + 1, k => by
    unfold tkL
    split
    · exact Or.inr rfl
    · rename_i z
      split
      · rcases tkL_len (B := B) (N := N) n (k + 1) with h | h
        · left; omega
        · exact Or.inr h
      · have := endT_bd (B := B) (N := N) (k := k) (by omega)
        left
        rw [List.length_cons]
        rcases tkL_len (B := B) (N := N) n (endT B N k) with h | h
        · omega
        · rw [h]; simp; omega
theorem tkL_mem {B : Nat → Int} {N : Nat} : ∀ (n k : Nat) (x : Nat × Nat), x ∈ tkL B N n k → x.1 < N ∧ x.2 = endT B N x.1
  | 0, k, x, h => by unfold tkL at h; cases h
  | n + 1, k, x, h => by
    unfold tkL at h
    split at h
    · cases h
    · split at h
      · exact tkL_mem n _ x h
      · rcases List.mem_cons.mp h with z | z
        · rw [z]; exact ⟨by omega, rfl⟩
        · exact tkL_mem n _ x z
/-- the tokens -/
def tkT (B : Nat → Int) (l : List (Nat × Nat)) : Tks := l.map (fun x => (cdM B x.1 x.2, vlM B x.1 x.2))
theorem tkT_len (B : Nat → Int) (l : List (Nat × Nat)) : (tkT B l).length = l.length := by unfold tkT; rw [List.length_map]
theorem tkT_at {B : Nat → Int} {l : List (Nat × Nat)} {j : Nat} {x : Nat × Nat} (h : l[j]? = some x) : tc (tkT B l) j = cdM B x.1 x.2 ∧ tv (tkT B l) j = vlM B x.1 x.2 := by
  unfold tc tv tkT
  rw [List.getD_eq_getElem?_getD, List.getElem?_map, h]
  exact ⟨rfl, rfl⟩
/-- a tape in the class's cells, in the reference's -/
def BtC (B : Nat → Int) (N : Nat) (C : MC) : Prop := C 27 1 = N ∧ N ≤ 400 ∧ ∀ i : Nat, i < N → C 28 i = B i ∧ -128 ≤ B i ∧ B i ≤ 127
def BtM (B : Nat → Int) (N : Nat) (C : MC) : Prop := N ≤ 400 ∧ ∀ i : Nat, i < N → C 88 i = B i ∧ -128 ≤ B i ∧ B i ≤ 127
theorem sl_eq {B : Nat → Int} {f t : Nat} {w : List Int} : sl B f t = w ↔ t - f = w.length ∧ ∀ j, j < w.length → B (f + j) = w.getD j 0 := by
  constructor
  · intro h
    rw [← h]
    unfold sl
    refine ⟨by simp, fun j hj => ?_⟩
    rw [List.length_map, List.length_range] at hj
    rw [List.getD_eq_getElem?_getD, List.getElem?_map, List.getElem?_range hj]
    rfl
  · intro h
    apply List.ext_getElem?
    intro j
    unfold sl
    by_cases q : j < w.length
    · rw [List.getElem?_map, List.getElem?_range (by omega)]
      show some (B (f + j)) = _
      rw [h.2 j q, List.getD_eq_getElem?_getD, List.getElem?_eq_getElem q]
      rfl
    · rw [List.getElem?_eq_none (l := w) (by omega), List.getElem?_eq_none (by rw [List.length_map, List.length_range]; omega)]
