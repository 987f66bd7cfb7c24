/-! 03.core: a small calculus over the kit's W. A state is (method, pc, locals, stack, S, C): values are (kind, Int), kind 0 int, 1 long, 2 reference;
    S = (how many cells, tags, lengths, references held, the script), C = whole numbers held. Cells are numbered 0, 1, 2 .. as they are made; -1 null, -2 the text constant, -3 the script. -/
abbrev MV : Type := Nat × Int
abbrev MS : Type := Int × (Int → Nat) × (Int → Int) × (Int → Int → Int) × (Int × (Int → Int))
abbrev MC : Type := Int → Int → Int
abbrev MD : Type := MethodName × ByteArray × Nat × Option FieldType
abbrev cI (x : Int) : MV := (0, x)
abbrev cJ (x : Int) : MV := (1, x)
abbrev cA (x : Int) : MV := (2, x)
abbrev cU : MV := (9, 0)
def T0 : List Cond := lw_tbl.filter goodWord
def in32 (x : Int) : Prop := -2147483648 ≤ x ∧ x < 2147483648
def in64 (x : Int) : Prop := -9223372036854775808 ≤ x ∧ x < 9223372036854775808
def w32 (x : Int) : Int := (x + 2147483648) % 4294967296 - 2147483648
def w64 (x : Int) : Int := (x + 9223372036854775808) % 18446744073709551616 - 9223372036854775808
def kd : FieldType → Nat
  | .long => 1
  | .object _ => 2
  | .array _ => 2
  | _ => 0
def nF (ci : Nat) : Nat := (kCl.getD ci ("", fun _ => ("", "", "", false), 0)).2.2
def fT (ci k : Nat) : FieldType := (kTy.getD ci (fun _ => .int)) k
def aTy (t : Nat) : FieldType := match t with
  | 20 => .int
  | 21 => .long
  | 22 => .byte
  | 23 => .boolean
  | t => .object ((kCl.getD (t - 24) ("", fun _ => ("", "", "", false), 0)).1)
def eV (ad : Int → Nat) (v : MV) : Value := match v.1 with
  | 0 => .int (Int32.ofInt v.2)
  | 1 => .long (Int64.ofInt v.2)
  | _ => if v.2 = -1 then .null else .ref (ad v.2)
def okV (n : Int) (v : MV) : Prop := match v.1 with
  | 0 => in32 v.2
  | 1 => in64 v.2
  | 2 => -6 < v.2 ∧ v.2 < n
  | _ => False
def fV (S : MS) (C : MC) (a : Int) (k : Nat) : MV := (kd (fT (S.2.1 a) k), if kd (fT (S.2.1 a) k) = 2 then S.2.2.2.1 a k else C a k)
def eC (ad : Int → Nat) (cls : Nat → ClassId) (S : MS) (C : MC) (a : Int) : va_E :=
  if S.2.1 a < 20 then .inr (S.2.1 a, (List.range (nF (S.2.1 a))).map (fun k => eV ad (fV S C a k)))
  else .inl (cls (S.2.1 a), (S.2.2.1 a).toNat,
    if S.2.1 a = 21 then .inr (.inl (fun j => Int64.ofInt (C a j)))
    else if S.2.1 a < 24 then .inl (fun j => Int32.ofInt (C a j))
    else .inr (.inr (.inr (.inr (fun j => if S.2.2.2.1 a j = -1 then none else some (ad (S.2.2.2.1 a j)))))))
def eW (ad : Int → Nat) (cls : Nat → ClassId) (S : MS) (C : MC) : va_W := (List.range S.1.toNat).map (fun k : Nat => (ad (k : Int), eC ad cls S C (k : Int)))
def wfS (S : MS) (C : MC) : Prop := 0 ≤ S.1 ∧ (∀ a j, if S.2.1 a = 21 then in64 (C a j) else in32 (C a j)) ∧ (∀ a j, -1 ≤ S.2.2.2.1 a j ∧ S.2.2.2.1 a j < S.1) ∧ (∀ a, 0 ≤ S.2.2.1 a ∧ S.2.2.1 a < 2147483648)
def isNest : Cond → Bool
  | .methodLinkNest .. => true
  | _ => false
def N0 : List Cond := lw_tbl.filter isNest
def wrdL : List Int := [104, 111, 117, 115, 101, 32, 107, 101, 121, 32, 111, 119, 110, 101, 114, 32, 98, 101, 97, 116, 32, 104, 97, 110, 100, 115, 32, 114, 101, 97, 99, 104, 32, 100, 97, 121, 32, 109, 111, 111, 100, 32, 100, 111, 110, 101, 32, 108, 97, 116, 101, 115, 116, 32, 100, 114, 105, 108, 108, 32, 110, 111, 116, 101, 115, 32, 109, 117, 115, 105, 99, 32, 109, 105, 110, 100, 115, 32, 108, 101, 110, 100, 115, 32, 98, 97, 114, 115, 32, 110, 111, 116, 101, 32, 103, 105, 118, 101, 32, 115, 104, 105, 102, 116, 32, 112, 97, 115, 115, 32, 97, 116, 32, 116, 111, 32, 116, 105, 109, 101, 115, 32, 105, 102, 32, 97, 110, 100, 32, 111, 114, 32, 110, 111, 116, 32]
/-- the signs of the text constant -/
def wrdC (i : Int) : Int := wrdL.getD i.toNat 0
def wrdT : String := "house key owner beat hands reach day mood done latest drill notes music minds lends bars note give shift pass at to times if and or not "
/-- the text constant and what its members look at -/
def ExS (tS tB tF : Nat) (A : Nat → Prop) (s : State) (H : Heap) : Prop :=
  vk_R "KeyHouses$Tape" 36 wrdT tS s ∧ va_O "java/lang/String" tS A s H ∧ va_OF "java/lang/String" "coder" "B" (.int 0) tS A s H ∧ va_OF "java/lang/String" "value" "[B" (.ref tB) tS A s H ∧ va_T .byte tB 136 (fun j : Nat => .int (Int32.ofInt (wrdC j))) A s H ∧
  va_Z "java/lang/String" "COMPACT_STRINGS" "Z" (.int 1) A s H ∧ (va_Z "jdk/internal/util/Preconditions" "SIOOBE_FORMATTER" "Ljava/util/function/BiFunction;" .null A s H ∨ va_Z "jdk/internal/util/Preconditions" "SIOOBE_FORMATTER" "Ljava/util/function/BiFunction;" (.ref tF) A s H)
/-- what lies outside: words of nest mates, arrays of own classes, the text constant, the script -/
def Ex (ad : Int → Nat) (sc : Int × (Int → Int)) (A : Nat → Prop) (s : State) (H : Heap) : Prop :=
  (∀ w ∈ N0, va_Nw w s) ∧ (va_AO RX7 s ∧ va_AO RX9 s) ∧ (0 ≤ sc.1 ∧ (∀ j, in32 (sc.2 j)) ∧ va_T .int (ad (-3)) sc.1.toNat (fun j : Nat => .int (Int32.ofInt (sc.2 j))) A s H) ∧ ExS (ad (-2)) (ad (-4)) (ad (-5)) A s H
theorem Ex_ag {ad ad' : Int → Nat} {sc : Int × (Int → Int)} {A : Nat → Prop} {s : State} {H : Heap} (h : ∀ k : Int, k < 0 → ad' k = ad k) (hE : Ex ad sc A s H) : Ex ad' sc A s H := by
  unfold Ex
  rw [h (-3) (by decide), h (-2) (by decide), h (-4) (by decide), h (-5) (by decide)]
  exact hE
def tyOK (cls : Nat → ClassId) (tys : List (ClassId × FieldType)) (S : MS) : Prop := ∀ a, 0 ≤ a → a < S.1 → 20 ≤ S.2.1 a → ∃ t0 : Nat, tys[t0]? = some (cls (S.2.1 a), aTy (S.2.1 a))
def Rl (D : va_G) (ad : Int → Nat) (cls : Nat → ClassId) (tys : List (ClassId × FieldType)) (S : MS) (C : MC) (A : Nat → Prop) (H : Heap) (locs : List Loc) (s : State) : Prop :=
  va_K D kCl tys s ∧ va_P D kCl (eW ad cls S C) H ∧ va_D A (eW ad cls S C) ∧ va_S A s.heap H locs ∧ tyOK cls tys S ∧ wfS S C ∧ (∀ q : Nat, s.heap.size ≤ q → A q) ∧ Ex ad S.2.2.2.2 A s s.heap
def lP (ad : Int → Nat) : Nat → List MV → List (Nat × Value)
  | _, [] => []
  | i, v :: r => if v.1 < 3 then (i, eV ad v) :: lP ad (i + 1) r else lP ad (i + 1) r
def rV (M : MD) (ad : Int → Nat) (x : Int) : Option Value := match M.2.2.2 with
  | none => none
  | some ty => some (eV ad (kd ty, x))
/-- a return: which instruction, what lies on the stack -/
def Rt (M : MD) (n : Int) (ad : Int → Nat) (pc : Nat) (st : List Value) (x : Int) : Prop := match M.2.2.2 with
  | none => decode M.2.1 pc = .ok (.return_, 1) ∧ st = []
  | some ty => st = [eV ad (kd ty, x)] ∧ okV n (kd ty, x) ∧ (kd ty = 0 → decode M.2.1 pc = .ok (.ireturn, 1) ∧ narrow ty (.int (Int32.ofInt x)) = .int (Int32.ofInt x)) ∧ (kd ty = 1 → decode M.2.1 pc = .ok (.lreturn, 1)) ∧ (kd ty = 2 → decode M.2.1 pc = .ok (.areturn, 1))
def Cx (p : Program) (s : State) (m : MethodId) (args : Array Value) (meth : Method) (c : Code) (M : MD) : Prop :=
  p.tables.exec = Jvm.exec ∧ c.code = M.2.1 ∧ c.maxLocals = M.2.2.1 ∧ s.vm.findClass M.1.cls = some m.cls ∧ (∀ w ∈ T0, w.before args s = true) ∧ meth.sig.returnType = M.2.2.2 ∧ meth.locks = false ∧ meth.name = M.1.name
/-- what the machine has at a state of the calculus; behind the bar: the end of the method -/
def Gx (p : Program) (l : Launch) (e : Env) (s : State) (m : MethodId) (args : Array Value) (below : List Frame) (meth : Method) (c : Code) (R : Room) (D : va_G) (A : Nat → Prop) (n0 : Int) (ad0 : Int → Nat) (sc0 : Int × (Int → Int)) (QQ : State → Prop) (M : MD) (Q : Int → MS → MC → Prop)
    (d mc ms : Nat) (ad : Int → Nat) (cls : Nat → ClassId) (tys : List (ClassId × FieldType)) (H : Heap) (locs : List Loc) (cells slots : Nat) (jls : Array Slot) (ls st : List MV) (S : MS) (C : MC) : Prop :=
  Cx p s m args meth c M ∧ (d ≤ R.frames ∧ 60 * d ≤ R.locals ∧ cells + mc ≤ R.cells ∧ slots + ms ≤ R.slots) ∧ ((n0 ≤ S.1 ∧ S.2.2.2.2 = sc0) ∧ ∀ k : Int, k < n0 → ad k = ad0 k) ∧ Rl D ad cls tys S C A H locs s ∧
  (lv_has jls M.2.2.1 (lP ad 0 ls) ∧ ∀ v ∈ ls, v.1 < 3 → okV S.1 v) ∧ (∀ v ∈ st, okV S.1 v) ∧
  (∀ (ad' : Int → Nat) (cls' : Nat → ClassId) (tys' : List (ClassId × FieldType)) (H' : Heap) (locs' : List Loc) (cells' slots' pc' : Nat) (jls' : Array Slot) (st' : List Value) (x : Int) (S' : MS) (C' : MC),
    Q x S' C' → Rl D ad' cls' tys' S' C' A H' locs' s → (n0 ≤ S'.1 ∧ S'.2.2.2.2 = sc0) → (∀ k : Int, k < n0 → ad' k = ad0 k) → cells' ≤ R.cells → slots' ≤ R.slots → Rt M S'.1 ad' pc' st' x →
    W p l e R s m args below meth c H' locs' cells' slots' QQ (F0 m pc' jls' st'))
/-- from this state the method returns with an answer and a heap of which Q holds, d frames deep at most, mc cells of ms slots made at most -/
def Wp (d mc ms : Nat) (M : MD) (pc : Nat) (ls st : List MV) (S : MS) (C : MC) (Q : Int → MS → MC → Prop) : Prop :=
  ∀ (p : Program) (l : Launch) (e : Env) (s : State) (m : MethodId) (args : Array Value) (below : List Frame) (meth : Method) (c : Code) (R : Room) (D : va_G) (A : Nat → Prop) (n0 : Int) (ad0 : Int → Nat) (sc0 : Int × (Int → Int)) (QQ : State → Prop)
    (ad : Int → Nat) (cls : Nat → ClassId) (tys : List (ClassId × FieldType)) (H : Heap) (locs : List Loc) (cells slots : Nat) (jls : Array Slot),
    Gx p l e s m args below meth c R D A n0 ad0 sc0 QQ M Q d mc ms ad cls tys H locs cells slots jls ls st S C →
    W p l e R s m args below meth c H locs cells slots QQ (F0 m pc jls (st.map (eV ad)))
/-! numbers -/
theorem w32_of {x : Int} (h : in32 x) : w32 x = x := by unfold in32 at h; unfold w32; omega
theorem w64_of {x : Int} (h : in64 x) : w64 x = x := by unfold in64 at h; unfold w64; omega
theorem w32_in (x : Int) : in32 (w32 x) := by unfold in32 w32; omega
theorem w64_in (x : Int) : in64 (w64 x) := by unfold in64 w64; omega
theorem toI_w32 (x : Int) : (Int32.ofInt x).toInt = w32 x := by
  rw [Int32.toInt_ofInt, Int.bmod_def]
  show (if x % (4294967296 : Nat) < ((4294967296 : Nat) + 1) / 2 then x % (4294967296 : Nat) else x % (4294967296 : Nat) - (4294967296 : Nat)) = _
  unfold w32
  split <;> omega
theorem toI_w64 (x : Int) : (Int64.ofInt x).toInt = w64 x := by
  rw [Int64.toInt_ofInt, Int.bmod_def]
  show (if x % (18446744073709551616 : Nat) < ((18446744073709551616 : Nat) + 1) / 2 then x % (18446744073709551616 : Nat) else x % (18446744073709551616 : Nat) - (18446744073709551616 : Nat)) = _
  unfold w64
  split <;> omega
theorem toI32 {x : Int} (h : in32 x) : (Int32.ofInt x).toInt = x := by rw [toI_w32, w32_of h]
theorem toI64 {x : Int} (h : in64 x) : (Int64.ofInt x).toInt = x := by rw [toI_w64, w64_of h]
theorem in32_toInt (v : Int32) : in32 v.toInt := by
  have h := toI_w32 v.toInt
  rw [Int32.ofInt_toInt] at h
  rw [h]; exact w32_in _
theorem in64_toInt (v : Int64) : in64 v.toInt := by
  have h := toI_w64 v.toInt
  rw [Int64.ofInt_toInt] at h
  rw [h]; exact w64_in _
theorem ofI_w32 (x : Int) : Int32.ofInt (w32 x) = Int32.ofInt x := by rw [← toI_w32, Int32.ofInt_toInt]
theorem ofI_w64 (x : Int) : Int64.ofInt (w64 x) = Int64.ofInt x := by rw [← toI_w64, Int64.ofInt_toInt]
theorem ofI_inj {x y : Int} (hx : in32 x) (hy : in32 y) : Int32.ofInt x = Int32.ofInt y ↔ x = y := by
  constructor
  · intro h
    have := congrArg Int32.toInt h
    rwa [toI32 hx, toI32 hy] at this
  · intro h; rw [h]
theorem ofI_lt {x y : Int} (hx : in32 x) (hy : in32 y) : Int32.ofInt x < Int32.ofInt y ↔ x < y := by
  rw [Int32.lt_iff_toInt_lt, toI32 hx, toI32 hy]
theorem ofI_le {x y : Int} (hx : in32 x) (hy : in32 y) : Int32.ofInt x ≤ Int32.ofInt y ↔ x ≤ y := by
  rw [Int32.le_iff_toInt_le, toI32 hx, toI32 hy]
theorem clampI {x : Int} (hx : in32 x) : (Int32.ofInt x).toNatClampNeg = x.toNat := by
  show (Int32.ofInt x).toInt.toNat = x.toNat
  rw [toI32 hx]
theorem in32_0 : in32 0 := by unfold in32; omega
theorem vpin {x n : Int} (hx : in32 x) (h0 : 0 ≤ x) (h1 : x < n) : vp_in (Int32.ofInt x) n.toNat := by
  intro h
  rcases h with h | h
  · have h2 : Int32.ofInt x < Int32.ofInt 0 := h
    rw [ofI_lt hx in32_0] at h2
    omega
  · rw [clampI hx] at h
    omega
/-! values, locals -/
theorem eV_ag {ad ad' : Int → Nat} {n : Int} {v : MV} (h : okV n v) (hag : ∀ k : Int, k < n → ad' k = ad k) : eV ad' v = eV ad v := by
  obtain ⟨t, x⟩ := v
  match t with
  | 0 => rfl
  | 1 => rfl
  | 2 => show (if x = -1 then Value.null else .ref (ad' x)) = (if x = -1 then Value.null else .ref (ad x)); rw [hag x h.2]
  | t + 3 => exact absurd h (by simp [okV])
theorem eV_cat0 (ad : Int → Nat) (x : Int) : (eV ad (0, x)).category = 1 := rfl
theorem eV_cat1 (ad : Int → Nat) (x : Int) : (eV ad (1, x)).category = 2 := rfl
theorem eV_cat2 (ad : Int → Nat) (x : Int) : (eV ad (2, x)).category = 1 := by
  show (if x = -1 then Value.null else .ref (ad x)).category = 1
  split <;> rfl
theorem okV_mono {n n' : Int} (h : n ≤ n') {v : MV} (hv : okV n v) : okV n' v := by
  obtain ⟨t, x⟩ := v
  match t with
  | 0 => exact hv
  | 1 => exact hv
  | 2 => exact ⟨hv.1, Int.lt_of_lt_of_le hv.2 h⟩
  | t + 3 => exact hv
theorem map_ag {ad ad' : Int → Nat} {n : Int} {st : List MV} (h : ∀ v ∈ st, okV n v) (hag : ∀ k : Int, k < n → ad' k = ad k) : st.map (eV ad') = st.map (eV ad) := by
  apply List.map_congr_left
  intro v hv
  exact eV_ag (h v hv) hag
theorem lP_ag {ad ad' : Int → Nat} {n : Int} : ∀ (ls : List MV) (i : Nat), (∀ v ∈ ls, v.1 < 3 → okV n v) → (∀ k : Int, k < n → ad' k = ad k) → lP ad' i ls = lP ad i ls
  | [], _, _, _ => rfl
  | v :: r, i, h, hag => by
    unfold lP
    rw [lP_ag r (i + 1) (fun u hu => h u (List.mem_cons_of_mem _ hu)) hag]
    by_cases hv : v.1 < 3
    · rw [if_pos hv, if_pos hv, eV_ag (h v List.mem_cons_self hv) hag]
    · rw [if_neg hv, if_neg hv]
theorem lP_mem {ad : Int → Nat} {v : MV} (hv : v.1 < 3) : ∀ (ls : List MV) (i k : Nat), ls[k]? = some v → (i + k, eV ad v) ∈ lP ad i ls
  | [], _, _, h => by simp at h
  | u :: r, i, 0, h => by
    simp at h
    subst h
    unfold lP
    rw [if_pos hv]
    exact List.mem_cons_self
  | u :: r, i, k + 1, h => by
    simp at h
    have := lP_mem (ad := ad) hv r (i + 1) k h
    have e : i + (k + 1) = i + 1 + k := by omega
    rw [e]
    unfold lP
    split
    · exact List.mem_cons_of_mem _ this
    · exact this
/-- a value of one slot is put into the locals -/
def stI : Nat → MV → List MV → List MV
  | _, _, [] => []
  | 0, v, _ :: r => v :: r
  | k + 1, v, u :: r => (if k = 0 ∧ u.1 = 1 then (9, 0) else u) :: stI k v r
/-- a long -/
def stJ : Nat → MV → List MV → List MV
  | _, _, [] => []
  | 0, v, _ :: r => v :: stU r
  | k + 1, v, u :: r => (if k = 0 ∧ u.1 = 1 then (9, 0) else u) :: stJ k v r
where stU : List MV → List MV
  | [] => []
  | _ :: r => (9, 0) :: r
theorem eV_long {ad : Int → Nat} {v : MV} (h : (eV ad v).category = 2) (hv : v.1 < 3) : v.1 = 1 := by
  obtain ⟨t, x⟩ := v
  match t, hv with
  | 0, _ => exact absurd h (by rw [eV_cat0]; decide)
  | 1, _ => rfl
  | 2, _ => exact absurd h (by rw [eV_cat2]; decide)
theorem lP_low {ad : Int → Nat} {q : Nat × Value} : ∀ (ls : List MV) (i : Nat), q ∈ lP ad i ls → i ≤ q.1
  | [], _, h => by cases h
  | v :: r, i, h => by
    unfold lP at h
    split at h
    · rcases List.mem_cons.mp h with h | h
      · rw [h]; exact Nat.le_refl _
      · have := lP_low r (i + 1) h; omega
    · have := lP_low r (i + 1) h; omega
theorem lP_stI {ad : Int → Nat} {v : MV} {q : Nat × Value} : ∀ (k i : Nat) (ls : List MV), q ∈ lP ad i (stI k v ls) → q = (i + k, eV ad v) ∨ (q ∈ lP ad i ls ∧ q.1 ≠ i + k ∧ ¬ (q.1 + 1 = i + k ∧ q.2.category = 2))
  | _, _, [], h => by simp [stI, lP] at h
  | 0, i, u :: r, h => by
    unfold stI at h
    have hr : q ∈ lP ad (i + 1) r → (q ∈ lP ad i (u :: r) ∧ q.1 ≠ i + 0 ∧ ¬ (q.1 + 1 = i + 0 ∧ q.2.category = 2)) := by
      intro h
      have := lP_low r (i + 1) h
      refine ⟨?_, by omega, fun z => by omega⟩
      unfold lP
      split
      · exact List.mem_cons_of_mem _ h
      · exact h
    unfold lP at h
    split at h
    · rcases List.mem_cons.mp h with h | h
      · exact Or.inl h
      · exact Or.inr (hr h)
    · exact Or.inr (hr h)
  | k + 1, i, u :: r, h => by
    unfold stI at h
    have ih : q ∈ lP ad (i + 1) (stI k v r) → q = (i + (k + 1), eV ad v) ∨ (q ∈ lP ad i (u :: r) ∧ q.1 ≠ i + (k + 1) ∧ ¬ (q.1 + 1 = i + (k + 1) ∧ q.2.category = 2)) := by
      intro h
      have e : i + (k + 1) = i + 1 + k := by omega
      rw [e]
      rcases lP_stI k (i + 1) r h with h | ⟨h1, h2, h3⟩
      · exact Or.inl h
      · refine Or.inr ⟨?_, h2, h3⟩
        unfold lP
        split
        · exact List.mem_cons_of_mem _ h1
        · exact h1
    by_cases hc : k = 0 ∧ u.1 = 1
    · rw [if_pos hc] at h
      unfold lP at h
      rw [if_neg (by decide)] at h
      exact ih h
    · rw [if_neg hc] at h
      unfold lP at h
      by_cases hk : u.1 < 3
      · rw [if_pos hk] at h
        rcases List.mem_cons.mp h with h | h
        · refine Or.inr ?_
          subst h
          refine ⟨?_, by simp, fun z => ?_⟩
          · unfold lP
            rw [if_pos hk]
            exact List.mem_cons_self
          · have h2 := eV_long z.2 hk
            have h3 : i + 1 = i + (k + 1) := z.1
            exact hc ⟨by omega, h2⟩
        · exact ih h
      · rw [if_neg hk] at h
        exact ih h
theorem lP_stJ {ad : Int → Nat} {v : MV} {q : Nat × Value} : ∀ (k i : Nat) (ls : List MV), q ∈ lP ad i (stJ k v ls) → q = (i + k, eV ad v) ∨ (q ∈ lP ad i ls ∧ q.1 ≠ i + k ∧ q.1 ≠ i + k + 1 ∧ ¬ (q.1 + 1 = i + k ∧ q.2.category = 2))
  | _, _, [], h => by simp [stJ, lP] at h
  | 0, i, u :: r, h => by
    unfold stJ at h
    have hr : q ∈ lP ad (i + 1) (stJ.stU r) → (q ∈ lP ad i (u :: r) ∧ q.1 ≠ i + 0 ∧ q.1 ≠ i + 0 + 1 ∧ ¬ (q.1 + 1 = i + 0 ∧ q.2.category = 2)) := by
      intro h
      cases r with
      | nil => cases h
      | cons w r =>
        unfold stJ.stU lP at h
        rw [if_neg (by decide)] at h
        have hl := lP_low r (i + 1 + 1) h
        have h1 : q ∈ lP ad (i + 1) (w :: r) := by
          unfold lP
          split
          · exact List.mem_cons_of_mem _ h
          · exact h
        refine ⟨?_, by omega, by omega, fun z => by omega⟩
        unfold lP
        split
        · exact List.mem_cons_of_mem _ h1
        · exact h1
    unfold lP at h
    split at h
    · rcases List.mem_cons.mp h with h | h
      · exact Or.inl h
      · exact Or.inr (hr h)
    · exact Or.inr (hr h)
  | k + 1, i, u :: r, h => by
    unfold stJ at h
    have ih : q ∈ lP ad (i + 1) (stJ k v r) → q = (i + (k + 1), eV ad v) ∨ (q ∈ lP ad i (u :: r) ∧ q.1 ≠ i + (k + 1) ∧ q.1 ≠ i + (k + 1) + 1 ∧ ¬ (q.1 + 1 = i + (k + 1) ∧ q.2.category = 2)) := by
      intro h
      have e : i + (k + 1) = i + 1 + k := by omega
      rw [e]
      rcases lP_stJ k (i + 1) r h with h | ⟨h1, h2, h3⟩
      · exact Or.inl h
      · refine Or.inr ⟨?_, h2, h3⟩
        unfold lP
        split
        · exact List.mem_cons_of_mem _ h1
        · exact h1
    by_cases hc : k = 0 ∧ u.1 = 1
    · rw [if_pos hc] at h
      unfold lP at h
      rw [if_neg (by decide)] at h
      exact ih h
    · rw [if_neg hc] at h
      unfold lP at h
      by_cases hk : u.1 < 3
      · rw [if_pos hk] at h
        rcases List.mem_cons.mp h with h | h
        · refine Or.inr ?_
          subst h
          refine ⟨?_, by simp, by show i ≠ _; omega, fun z => ?_⟩
          · unfold lP
            rw [if_pos hk]
            exact List.mem_cons_self
          · have h2 := eV_long z.2 hk
            have h3 : i + 1 = i + (k + 1) := z.1
            exact hc ⟨by omega, h2⟩
        · exact ih h
      · rw [if_neg hk] at h
        exact ih h
theorem stI_ok {n : Int} {v : MV} (hv : okV n v) : ∀ (k : Nat) (ls : List MV), (∀ u ∈ ls, u.1 < 3 → okV n u) → ∀ u ∈ stI k v ls, u.1 < 3 → okV n u
  | _, [], _, u, hu => by simp [stI] at hu
  | 0, w :: r, h, u, hu => by
    unfold stI at hu
    rcases List.mem_cons.mp hu with e | hu
    · rw [e]; exact fun _ => hv
    · exact h u (List.mem_cons_of_mem _ hu)
  | k + 1, w :: r, h, u, hu => by
    unfold stI at hu
    rcases List.mem_cons.mp hu with e | hu
    · rw [e]
      split
      · intro z; exact absurd z (by decide)
      · exact h w List.mem_cons_self
    · exact stI_ok hv k r (fun x hx => h x (List.mem_cons_of_mem _ hx)) u hu
theorem stJ_ok {n : Int} {v : MV} (hv : okV n v) : ∀ (k : Nat) (ls : List MV), (∀ u ∈ ls, u.1 < 3 → okV n u) → ∀ u ∈ stJ k v ls, u.1 < 3 → okV n u
  | _, [], _, u, hu => by simp [stJ] at hu
  | 0, w :: r, h, u, hu => by
    unfold stJ at hu
    rcases List.mem_cons.mp hu with e | hu
    · rw [e]; exact fun _ => hv
    · cases r with
      | nil => cases hu
      | cons x r =>
        unfold stJ.stU at hu
        rcases List.mem_cons.mp hu with e | hu
        · rw [e]; intro z; exact absurd z (by decide)
        · exact h u (List.mem_cons_of_mem _ (List.mem_cons_of_mem _ hu))
  | k + 1, w :: r, h, u, hu => by
    unfold stJ at hu
    rcases List.mem_cons.mp hu with e | hu
    · rw [e]
      split
      · intro z; exact absurd z (by decide)
      · exact h w List.mem_cons_self
    · exact stJ_ok hv k r (fun x hx => h x (List.mem_cons_of_mem _ hx)) u hu
