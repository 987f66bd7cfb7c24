/-! 16b.parse: the two languages, as pure mathematics: what is read, what it means, what code the class lays -/
abbrev Tks : Type := List (Int × Int)
def tc (τ : Tks) (p : Nat) : Int := (τ.getD p (0, 0)).1
def tv (τ : Tks) (p : Nat) : Int := (τ.getD p (0, 0)).2
abbrev Wd : Type := Int → Int
abbrev Sem : Type := Wd → Option Int
abbrev TSem : Type := Wd → Option Bool
/-- a fault at a token, or: the meaning, the next token, the leaves so far, the code -/
abbrev PR (α : Type) : Type := Sum Nat (α × Nat × Nat × List Int)
abbrev Rdr (α : Type) : Type := Nat → Nat → Nat → PR α
def bnd (x : Int) : Option Int := if 1000000000 < x ∨ x < -1000000000 then none else some x
def joinS (c a b : Int) : Option Int := if c = 143 then bnd (a + b) else if c = 145 then bnd (a - b) else if c = 142 then bnd (a * b) else if b = 0 then none else if c = 147 then bnd (Int.tdiv a b) else bnd (Int.tmod a b)
def opS (c : Int) (f g : Sem) : Sem := fun w => match f w with
  | none => none
  | some a => match g w with
    | none => none
    | some b => joinS c a b
def opC (c : Int) : Int := if c = 143 then 3 else if c = 145 then 4 else if c = 142 then 5 else if c = 147 then 6 else 7
/-- a word of the laws: the reference's number to the class's -/
def lwW (c : Int) : Int := if c = 8 then 0 else if c = 9 then 1 else if c = 10 then 3 else if c = 11 then 4 else if c = 12 then 5 else if c = 13 then 7 else if c = 14 then 2 else 6
def leafP (f : Sem) (p lv : Nat) (x : Int) : PR Sem := .inr (f, p, lv + 1, [x])
def wordP (τ : Tks) (o : Bool) (p lv : Nat) : PR Sem :=
  if o then
    if tc τ p = 14 then (if tc τ (p + 1) = 50 ∧ 0 ≤ tv τ (p + 1) ∧ tv τ (p + 1) ≤ 7 then leafP (fun w => some (w (21 + tv τ (p + 1)))) (p + 2) lv (16 * (21 + tv τ (p + 1)) + 2) else .inl (p + 1))
    else if tc τ p = 20 then (if tc τ (p + 1) = 50 ∧ 0 ≤ tv τ (p + 1) ∧ tv τ (p + 1) ≤ 15 then leafP (fun w => some (w (5 + tv τ (p + 1)))) (p + 2) lv (16 * (5 + tv τ (p + 1)) + 2) else .inl (p + 1))
    else if 15 ≤ tc τ p ∧ tc τ p ≤ 19 then leafP (fun w => some (w (tc τ p - 15))) (p + 1) lv (16 * (tc τ p - 15) + 2)
    else .inl p
  else if 8 ≤ tc τ p ∧ tc τ p ≤ 15 then leafP (fun w => some (w (lwW (tc τ p)))) (p + 1) lv (16 * lwW (tc τ p) + 2)
  else .inl p
/-- what stands in brackets; inner: what may stand there, if they aren't too deep -/
def brP {α : Type} (τ : Tks) (c : Int) (inner : Option (Rdr α)) : Rdr α := fun p lv c0 => match inner with
  | none => .inl p
  | some s => match s (p + 1) lv c0 with
    | .inl q => .inl q
    | .inr (f, q, lv', cd) => if tc τ q = c then .inr (f, q + 1, lv', cd) else .inl q
def partP (τ : Tks) (o : Bool) (inner : Option (Rdr Sem)) : Rdr Sem := fun p lv c0 =>
  if tc τ p = 191 then brP τ 193 inner p lv c0
  else if 50 ≤ lv then .inl p
  else if tc τ p = 50 ∧ 0 ≤ tv τ p ∧ tv τ p ≤ 1000 then leafP (fun _ => some (tv τ p)) (p + 1) lv (16 * tv τ p + 1)
  else wordP τ o p lv
/-- a row of pt with signs between them of which is tells -/
def rowP (τ : Tks) (is : Int → Bool) (pt : Rdr Sem) : Nat → Sem → Nat → Nat → Nat → List Int → PR Sem
  | 0, f, p, lv, _, cd => .inr (f, p, lv, cd)
  | n + 1, f, p, lv, c0, cd => if is (tc τ p) then (match pt (p + 1) lv (c0 + cd.length) with
      | .inl q => .inl q
      | .inr (g, q, lv', cd') => rowP τ is pt n (opS (tc τ p) f g) q lv' c0 (cd ++ (cd' ++ [opC (tc τ p)]))) else .inr (f, p, lv, cd)
def seqP (τ : Tks) (is : Int → Bool) (pt : Rdr Sem) : Rdr Sem := fun p lv c0 => match pt p lv c0 with
  | .inl q => .inl q
  | .inr (f, q, lv', cd) => rowP τ is pt 400 f q lv' c0 cd
def isMul (c : Int) : Bool := c == 142 || c == 147 || c == 137
def isAdd (c : Int) : Bool := c == 143 || c == 145
def sumP (τ : Tks) (pt : Rdr Sem) : Rdr Sem := seqP τ isAdd (seqP τ isMul pt)
/-- a part, with so many brackets still allowed -/
def ptP (τ : Tks) (o : Bool) : Nat → Rdr Sem
  | 0 => partP τ o none
  | g + 1 => partP τ o (some (sumP τ (ptP τ o g)))
/-! tests -/
def cmpS (c : Int) (f g : Sem) : TSem := fun w => match f w with
  | none => none
  | some a => match g w with
    | none => none
    | some b => some (if c = 160 then decide (a < b) else if c = 162 then decide (b < a) else decide (a = b))
def cmpC (c : Int) : Int := if c = 160 then 8 else if c = 162 then 9 else 10
def isCmp (c : Int) : Bool := c == 160 || c == 162 || c == 161
def cmprP (τ : Tks) (su : Rdr Sem) : Nat → Nat → Nat → PR TSem := fun p lv c0 => match su p lv c0 with
  | .inl q => .inl q
  | .inr (f, q, lv', cd) => if isCmp (tc τ q) then (match su (q + 1) lv' (c0 + cd.length) with
      | .inl r => .inl r
      | .inr (g, r, lv2, cd2) => .inr (cmpS (tc τ q) f g, r, lv2, cd ++ (cd2 ++ [cmpC (tc τ q)]))) else .inl q
def notS (b : Bool) (f : TSem) : TSem := fun w => match f w with
  | none => none
  | some x => some (x != b)
/-- "not" again and again: whether they are odd, and the token behind -/
def notP (τ : Tks) : Nat → Nat → Bool → Bool × Nat
  | 0, p, b => (b, p)
  | n + 1, p, b => if tc τ p = 7 then notP τ n (p + 1) (!b) else (b, p)
def posP (τ : Tks) (su : Rdr Sem) (inner : Option (Rdr TSem)) : Rdr TSem := fun p lv c0 => if tc τ p = 140 then brP τ 141 inner p lv c0 else cmprP τ su p lv c0
def plainP (τ : Tks) (su : Rdr Sem) (inner : Option (Rdr TSem)) : Rdr TSem := fun p lv c0 => match posP τ su inner (notP τ 400 p false).2 lv c0 with
  | .inl q => .inl q
  | .inr (f, q, lv', cd) => .inr (notS (notP τ 400 p false).1 f, q, lv', if (notP τ 400 p false).1 then cd ++ [11] else cd)
/-- stop: the value at which the rest isn't reckoned -/
def lazS (stop : Bool) (f g : TSem) : TSem := fun w => match f w with
  | none => none
  | some x => if x = stop then some x else g w
def lazP (τ : Tks) (c : Int) (op : Int) (stop : Bool) (pt : Rdr TSem) : Nat → TSem → Nat → Nat → Nat → List Int → PR TSem
  | 0, f, p, lv, _, cd => .inr (f, p, lv, cd)
  | n + 1, f, p, lv, c0, cd => if tc τ p = c then (match pt (p + 1) lv (c0 + (cd.length + 1)) with
      | .inl q => .inl q
      | .inr (g, q, lv', cd') => lazP τ c op stop pt n (lazS stop f g) q lv' c0 (cd ++ ((16 * ((c0 + (cd.length + 1) + cd'.length : Nat) : Int) + op) :: cd'))) else .inr (f, p, lv, cd)
def lazyP (τ : Tks) (c op : Int) (stop : Bool) (pt : Rdr TSem) : Rdr TSem := fun p lv c0 => match pt p lv c0 with
  | .inl q => .inl q
  | .inr (f, q, lv', cd) => lazP τ c op stop pt 400 f q lv' c0 cd
def testP (τ : Tks) (pl : Rdr TSem) : Rdr TSem := lazyP τ 5 13 true (lazyP τ 6 12 false pl)
def plP (τ : Tks) (o : Bool) : Nat → Rdr TSem
  | 0 => plainP τ (sumP τ (ptP τ o 0)) none
  | g + 1 => plainP τ (sumP τ (ptP τ o (g + 1))) (some (testP τ (plP τ o g)))
def sum8 (τ : Tks) (o : Bool) : Rdr Sem := sumP τ (ptP τ o 8)
def test8 (τ : Tks) (o : Bool) : Rdr TSem := testP τ (plP τ o 8)
/-! clauses: verb, times, where first, second, test begin (-1: none), their meanings -/
abbrev Cla : Type := (Int × Int) × (Int × Int × Int) × (Sem × Sem × TSem)
def condP (τ : Tks) (o : Bool) (k : Int → TSem → Cla) : Rdr Cla := fun p lv c0 => if tc τ p = 4 then (match test8 τ o (p + 1) lv c0 with
    | .inl q => .inl q
    | .inr (f, q, lv', cd) => .inr (k c0 f, q, lv', cd ++ [0])) else .inr (k (-1) (fun _ => some true), p, lv, [])
def ruleP (τ : Tks) : Rdr Cla := fun p lv c0 =>
  if tc τ p = 1 then (match sum8 τ false (p + 1) lv c0 with
    | .inl q => .inl q
    | .inr (f, q, lv', cd) => (match condP τ false (fun i t => ((4, 1), (c0, -1, i), (f, fun _ => some 0, t))) q lv' (c0 + (cd.length + 1)) with
      | .inl r => .inl r
      | .inr (cl, r, lv2, cd2) => .inr (cl, r, lv2, cd ++ (0 :: cd2))))
  else if tc τ p = 2 then condP τ false (fun i t => ((5, 1), (-1, -1, i), (fun _ => some 0, fun _ => some 0, t))) (p + 1) lv c0
  else if tc τ p = 3 then condP τ false (fun i t => ((6, 1), (-1, -1, i), (fun _ => some 0, fun _ => some 0, t))) (p + 1) lv c0
  else .inl p
def timesP (τ : Tks) (k : Int → Rdr Cla) : Rdr Cla := fun p lv c0 => if tc τ p = 27 then (if tc τ (p + 1) = 50 ∧ 1 ≤ tv τ (p + 1) ∧ tv τ (p + 1) ≤ 20 then k (tv τ (p + 1)) (p + 2) lv c0 else .inl (p + 1)) else k 1 p lv c0
def appP {α : Type} (cd : List Int) : PR α → PR α
  | .inl q => .inl q
  | .inr (x, p, lv, cd2) => .inr (x, p, lv, cd ++ cd2)
def tailP (τ : Tks) (v i j : Int) (f g : Sem) : Rdr Cla := timesP τ (fun n => condP τ true (fun k t => ((v, n), (i, j, k), (f, g, t))))
/-- two sums with a word between them -/
def twoP (τ : Tks) (v c : Int) : Rdr Cla := fun p lv c0 => match sum8 τ true p lv c0 with
  | .inl q => .inl q
  | .inr (f, q, lv', cd) => if tc τ q = c then (match sum8 τ true (q + 1) lv' (c0 + (cd.length + 1)) with
      | .inl r => .inl r
      | .inr (g, r, lv2, cd2) => appP (cd ++ (0 :: (cd2 ++ [0]))) (tailP τ v c0 ((c0 + (cd.length + 1) : Nat) : Int) f g r lv2 (c0 + (cd.length + 1) + (cd2.length + 1)))) else .inl q
def orderP (τ : Tks) : Rdr Cla := fun p lv c0 =>
  if tc τ p = 21 then twoP τ 0 22 (p + 1) lv c0
  else if tc τ p = 23 then twoP τ 1 24 (p + 1) lv c0
  else if tc τ p = 25 then (match sum8 τ true (p + 1) lv c0 with
    | .inl q => .inl q
    | .inr (f, q, lv', cd) => appP (cd ++ [0]) (tailP τ 2 c0 (-1) f (fun _ => some 0) q lv' (c0 + (cd.length + 1))))
  else if tc τ p = 26 then tailP τ 3 (-1) (-1) (fun _ => some 0) (fun _ => some 0) (p + 1) lv c0
  else .inl p
/-- clauses with ';' between them, n more at most -/
def textP (τ : Tks) (one : Rdr Cla) : Nat → Nat → Nat → Nat → Sum Nat (List Cla × List Int)
  | 0, p, _, _ => .inl p
  | n + 1, p, lv, c0 => match one p lv c0 with
    | .inl q => .inl q
    | .inr (cl, q, lv', cd) => if q = τ.length then .inr ([cl], cd) else if tc τ q = 159 then (match textP τ one n (q + 1) lv' (c0 + cd.length) with
        | .inl r => .inl r
        | .inr (cls, cd2) => .inr (cl :: cls, cd ++ cd2)) else .inl q
def lawP (τ : Tks) : Sum Nat (List Cla × List Int) := textP τ (ruleP τ) 12 0 0 0
def ordP (τ : Tks) : Sum Nat (List Cla × List Int) := textP τ (orderP τ) 12 0 0 0
/-! what a law tells -/
def holdsC (c : Cla) (w : Wd) : Bool := c.2.2.2.2 w == some true
def mindS : List Cla → Wd → Int → Int
  | [], _, m => m
  | c :: l, w, m => mindS l w (if c.1.1 = 4 ∧ holdsC c w = true then (match c.2.2.1 w with | none => m | some x => max 0 (min 99 x)) else m)
def hasS (v : Int) (l : List Cla) (w : Wd) : Bool := l.any (fun c => c.1.1 == v && holdsC c w)
/-- the words of a house, a key and a beat (the class's numbers) -/
def lawW (κ : Int → Int) (b h k : Nat) : Wd := fun i => if i = 0 then h else if i = 1 then k else if i = 2 then κ k else if i = 3 then b else if i = 4 then κ (25 + h) else if i = 5 then κ (31 + h) else if i = 6 then κ 24 else κ 44
/-- the tokens that the reference keeps of law i -/
def toks (κ : Int → Int) (i : Int) : Tks := (List.range (κ (49 + i)).toNat).map (fun j : Nat => (κ (56 + 400 * i + j), κ (2856 + 400 * i + j)))
def clsOf (τ : Tks) : List Cla := match lawP τ with
  | .inl _ => []
  | .inr (l, _) => l
def lawOf (κ : Int → Int) : List Cla := if κ 48 = -1 then [] else clsOf (toks κ (κ 48))
def cnK (κ : Int → Int) (b h k : Nat) : Bool := (decide (κ k = h) || hasS 5 (lawOf κ) (lawW κ b h k)) && !(hasS 6 (lawOf κ) (lawW κ b h k))
def mdK (κ : Int → Int) (b h k : Nat) : Int := mindS (lawOf κ) (lawW κ b h k) 1
theorem mindS_bd : ∀ (l : List Cla) (w : Wd) (m : Int), 0 ≤ m ∧ m ≤ 99 → 0 ≤ mindS l w m ∧ mindS l w m ≤ 99
  | [], _, _, h => h
  | c :: l, w, m, h => by
    refine mindS_bd l w _ ?_
    split
    · split
      · exact h
      · omega
    · exact h
theorem mdK_bd (κ : Int → Int) (b h k : Nat) : 0 ≤ mdK κ b h k ∧ mdK κ b h k ≤ 99 := mindS_bd _ _ _ (by omega)
/-- a text that can be kept as a law -/
def TokOK (τ : Tks) : Prop := τ.length ≤ 400 ∧ ∃ l cd, lawP τ = .inr (l, cd)
/-- the rows T 0 .. T 6 of a text of the class are these clauses, this code -/
def TxtIs (T : Nat → Int → Int) (l : List Cla) (cd : List Int) : Prop := T 0 0 = l.length ∧ T 0 1 = cd.length ∧ (∀ j : Nat, j < l.length → ∀ c, l[j]? = some c → T 1 j = c.1.1 ∧ T 2 j = c.1.2 ∧ T 3 j = c.2.1.1 ∧ T 4 j = c.2.1.2.1 ∧ T 5 j = c.2.1.2.2) ∧ ∀ j : Nat, ∀ x, cd[j]? = some x → T 6 j = x
/-- a text of the class (rows T 0 .. T 6, n clauses' room, m code's room) says what these tokens say -/
def LawSem (T : Nat → Int → Int) (n m : Int) (τ : Tks) : Prop := τ.length ≤ 400 ∧ ∃ l cd, lawP τ = .inr (l, cd) ∧ TxtIs T l cd ∧ n = l.length ∧ m = cd.length
