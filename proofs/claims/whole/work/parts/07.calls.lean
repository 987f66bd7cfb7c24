/-! 07.calls: a method's contract out of Wp; the call rules -/
def xL : List MV → List MV
  | [] => []
  | v :: r => if v.1 = 1 then v :: (9, 0) :: xL r else v :: xL r
def eL (args : List MV) (n : Nat) : List MV := xL args ++ List.replicate (n - (xL args).length) (9, 0)
theorem lP_rep (ad : Int → Nat) : ∀ (k i : Nat), lP ad i (List.replicate k ((9, 0) : MV)) = []
  | 0, _ => rfl
  | k + 1, i => by
    rw [List.replicate_succ]
    unfold lP
    rw [if_neg (by decide)]
    exact lP_rep ad k (i + 1)
theorem okV_lt {n : Int} {v : MV} (h : okV n v) : v.1 < 3 := by
  obtain ⟨t, x⟩ := v
  match t with
  | 0 => show (0 : Nat) < 3; decide
  | 1 => show (1 : Nat) < 3; decide
  | 2 => show (2 : Nat) < 3; decide
  | t + 3 => exact absurd h (by simp [okV])
theorem eV_c2 {ad : Int → Nat} {v : MV} (hv : v.1 = 1) : (eV ad v).category = 2 := by
  obtain ⟨t, x⟩ := v
  have hv : t = 1 := hv
  subst hv
  rfl
theorem lP_args {ad : Int → Nat} {n : Int} {q : Nat × Value} (k : Nat) : ∀ (args : List MV) (i : Nat), (∀ v ∈ args, okV n v) → q ∈ lP ad i (xL args ++ List.replicate k ((9, 0) : MV)) → q ∈ lv_args i (args.map (eV ad))
  | [], i, _, h => by
    rw [xL, List.nil_append, lP_rep] at h
    cases h
  | v :: r, i, hok, h => by
    have ho := List.forall_mem_cons.mp hok
    have h3 := okV_lt ho.1
    rw [List.map_cons]
    unfold lv_args
    unfold xL at h
    by_cases h1 : v.1 = 1
    · rw [if_pos h1, List.cons_append, List.cons_append] at h
      unfold lP at h
      rw [if_pos h3] at h
      unfold lP at h
      rw [if_neg (by decide)] at h
      rw [if_pos (eV_c2 h1)]
      rcases List.mem_cons.mp h with h | h
      · rw [h]; exact List.mem_cons_self
      · exact List.mem_cons_of_mem _ (lP_args k r (i + 2) ho.2 h)
    · rw [if_neg h1, List.cons_append] at h
      unfold lP at h
      rw [if_pos h3] at h
      rw [if_neg (by rw [eV_c1 ho.1 h1]; decide)]
      rcases List.mem_cons.mp h with h | h
      · rw [h]; exact List.mem_cons_self
      · exact List.mem_cons_of_mem _ (lP_args k r (i + 1) ho.2 h)
theorem sl_len {ad : Int → Nat} {n : Int} : ∀ (args : List MV), (∀ v ∈ args, okV n v) → (lg_sl (args.map (eV ad))).length = (xL args).length
  | [], _ => rfl
  | v :: r, hok => by
    have ho := List.forall_mem_cons.mp hok
    have ih := sl_len (ad := ad) r ho.2
    unfold lg_sl at ih ⊢
    rw [List.map_cons, List.flatMap_cons, List.length_append, ih]
    show _ = (if v.1 = 1 then v :: (9, 0) :: xL r else v :: xL r).length
    by_cases h1 : v.1 = 1
    · rw [if_pos h1, if_pos (eV_c2 h1)]
      simp only [List.length_cons, List.length_nil]
      omega
    · rw [if_neg h1, if_neg (by rw [eV_c1 ho.1 h1]; decide)]
      simp only [List.length_cons, List.length_nil]
      omega
theorem xL_ok {n : Int} : ∀ (args : List MV), (∀ v ∈ args, okV n v) → ∀ v ∈ xL args, v.1 < 3 → okV n v
  | [], _, v, hv, _ => by cases hv
  | u :: r, hok, v, hv, h3 => by
    have ho := List.forall_mem_cons.mp hok
    unfold xL at hv
    split at hv
    · rcases List.mem_cons.mp hv with e | hv
      · rw [e]; exact ho.1
      · rcases List.mem_cons.mp hv with e | hv
        · rw [e] at h3; exact absurd h3 (by decide)
        · exact xL_ok r ho.2 v hv h3
    · rcases List.mem_cons.mp hv with e | hv
      · rw [e]; exact ho.1
      · exact xL_ok r ho.2 v hv h3
theorem eL_ok {n : Int} {args : List MV} {k : Nat} (hok : ∀ v ∈ args, okV n v) : ∀ v ∈ eL args k, v.1 < 3 → okV n v := by
  intro v hv h3
  unfold eL at hv
  rcases List.mem_append.mp hv with hv | hv
  · exact xL_ok args hok v hv h3
  · rw [(List.mem_replicate.mp hv).2] at h3
    exact absurd h3 (by decide)
def MOk (N : MD) (np : Nat) : Prop := Cond.code N.1 N.2.1 N.2.2.1 N.2.2.2 ∈ T0 ∧ plainName N.1.cls = true ∧ (N.1.cls ≠ "java/lang/invoke/MethodHandle" ∧ N.1.cls ≠ "java/lang/invoke/VarHandle" ∧ (parseMethodDescriptor N.1.desc).map (fun d => d.parameters.length) = some np) ∧ Cond.initialized N.1.cls ∈ T0 ∧ N.2.2.1 ≤ 41
abbrev wsM (N : MD) : List Cond := Cond.code N.1 N.2.1 N.2.2.1 N.2.2.2 :: T0
theorem goodT0 {w : Cond} (h : w ∈ T0) : w ∈ T0 ∧ ((w.onTables && w.keeps) = true ∨ ∃ ty, w = .arrayClass ty) := ⟨h, good_of_word (List.mem_filter.mp h).2⟩
theorem good_ws {N : MD} {np : Nat} (h : MOk N np) : GoodIn T0 (wsM N) := by
  intro w hw
  rcases List.mem_cons.mp hw with e | hw
  · rw [e]; exact goodT0 h.1
  · exact goodT0 hw
abbrev rmD (d mc ms : Nat) : Room := { frames := d, cells := mc, slots := ms, locals := 60 * d }
def PostM (D : va_G) (A : Nat → Prop) (n0 : Int) (sc : Int × (Int → Int)) (ad : Int → Nat) (M : MD) (Q : Int → MS → MC → Prop) : Array Value → State → Outcome → State → Prop := fun _ st oc t =>
  (∃ (x : Int) (S' : MS) (C' : MC) (ad' : Int → Nat) (cls' : Nat → ClassId) (tys' : List (ClassId × FieldType)), oc = .returned (rV M ad' x) ∧ Q x S' C' ∧ (va_K D kCl tys' t ∧ va_P D kCl (eW ad' cls' S' C') t.heap ∧ va_D A (eW ad' cls' S' C') ∧ tyOK cls' tys' S' ∧ wfS S' C') ∧ (n0 ≤ S'.1 ∧ S'.2.2.2.2 = sc) ∧ (∀ k : Int, k < n0 → ad' k = ad k) ∧ ∀ ty, M.2.2.2 = some ty → okV S'.1 (kd ty, x)) ∧ va_F A st t
theorem nest_form {w : Cond} (h : w ∈ N0) : ∃ o i x hh, w = .methodLinkNest o i x hh := by
  have := (List.mem_filter.mp h).2
  cases w <;> first | exact ⟨_, _, _, _, rfl⟩ | (simp [isNest] at this)
theorem exS_moved {a b f : Nat} {A : Nat → Prop} {s U : State} {H H1 : Heap} (hvm : s.WarmedH U.vm) (hk : ∀ q : Nat, q < H.size → ¬ A q → H1[q]? = H[q]?) (h : ExS a b f A s H) : ExS a b f A U H1 := by
  obtain ⟨h1, h2, h3, h4, h5, h6, h7⟩ := h
  refine ⟨h1.warm hvm, (h2.moved hvm.alike).kept hk, (h3.moved hvm.alike).kept hk, (h4.moved hvm.alike).kept hk, (h5.moved hvm.alike).kept hk, (h6.moved hvm.alike).kept hk, ?_⟩
  rcases h7 with h | h
  · exact Or.inl ((h.moved hvm.alike).kept hk)
  · exact Or.inr ((h.moved hvm.alike).kept hk)
theorem exS_same {a b f : Nat} {A : Nat → Prop} {s U : State} {H : Heap} (hvm : s.vm = U.vm) (h : ExS a b f A s H) : ExS a b f A U H := by
  have hal : s.vm.Alike U.vm := hvm ▸ Vm.Alike.refl s.vm
  obtain ⟨h1, h2, h3, h4, h5, h6, h7⟩ := h
  refine ⟨vk_R.same hvm.symm h1, h2.moved hal, h3.moved hal, h4.moved hal, h5.moved hal, h6.moved hal, ?_⟩
  rcases h7 with h | h
  · exact Or.inl (h.moved hal)
  · exact Or.inr (h.moved hal)
theorem ex_moved {ad : Int → Nat} {sc : Int × (Int → Int)} {A : Nat → Prop} {s U : State} {H H1 : Heap} (hvm : s.WarmedH U.vm) (hk : ∀ q : Nat, q < H.size → ¬ A q → H1[q]? = H[q]?) (h : Ex ad sc A s H) : Ex ad sc A U H1 := by
  obtain ⟨h1, ⟨h2, h3⟩, ⟨h4, h5, h6⟩, h7⟩ := h
  refine ⟨fun w hw => ?_, ⟨h2.moved hvm.alike, h3.moved hvm.alike⟩, ⟨h4, h5, (h6.moved hvm.alike).kept hk⟩, exS_moved hvm hk h7⟩
  have hz := h1 w hw
  obtain ⟨o, i, x, hh, rfl⟩ := nest_form hw
  exact va_Nw.warmM hvm hz
theorem ex_same {ad : Int → Nat} {sc : Int × (Int → Int)} {A : Nat → Prop} {s U : State} {H : Heap} (hvm : s.vm = U.vm) (h : Ex ad sc A s H) : Ex ad sc A U H := by
  have hal : s.vm.Alike U.vm := hvm ▸ Vm.Alike.refl s.vm
  obtain ⟨h1, ⟨h2, h3⟩, ⟨h4, h5, h6⟩, h7⟩ := h
  refine ⟨fun w hw => ?_, ⟨h2.moved hal, h3.moved hal⟩, ⟨h4, h5, h6.moved hal⟩, exS_same hvm h7⟩
  have hz := h1 w hw
  obtain ⟨o, i, x, hh, rfl⟩ := nest_form hw
  exact va_Nw.same rfl hvm hz
theorem met_of_wp {d mc ms : Nat} {N : MD} {np : Nat} {args : List MV} {S : MS} {C : MC} {Q : Int → MS → MC → Prop} (hN : MOk N np) (hlen : (xL args).length ≤ N.2.2.1) (hW : Wp d mc ms N 0 (eL args N.2.2.1) [] S C Q) (hok : ∀ v ∈ args, okV S.1 v)
    (l : Launch) (D : va_G) (A : Nat → Prop) (ad : Int → Nat) (cls : Nat → ClassId) (tys : List (ClassId × FieldType)) :
    Met l N.1 (wsM N) (rmD d mc ms) (va_Pc (args.map (eV ad)) (fun U => Rl D ad cls tys S C A U.heap [] U)) (PostM D A S.1 S.2.2.2.2 ad N Q) mc ms A := by
  refine Met.ofW (cc := N.2.1) (maxL := N.2.2.1) (ret := N.2.2.2) hN.2.1 rfl ?_
  intro p e s m args' below meth c s₁ B hml hv
  obtain ⟨rfl, hR⟩ := hv
  have hts := atoms_spec (ws := wsM N) B.pre
  rw [lg_entry_eq]
  have hl0 : (lg_sl (args.map (eV ad))).length ≤ N.2.2.1 := by rw [sl_len args hok]; exact hlen
  have hl := lv_entry (args.map (eV ad)) hl0
  have hl2 : lv_has ((lg_sl (args.map (eV ad)) ++ List.replicate (N.2.2.1 - (lg_sl (args.map (eV ad))).length) Slot.unset).toArray) N.2.2.1 (lP ad 0 (eL args N.2.2.1)) := ⟨hl.1, hl.2.1, fun q hq => hl.2.2 q (lP_args _ args 0 hok hq)⟩
  have hCx : Cx p s m (args.map (eV ad)).toArray meth c N := ⟨B.exec, B.bytes, hml, findClass_of_methodNamed B.named, fun w hw => hts w (List.mem_cons_of_mem _ hw), B.returns, B.notSynchronized, (name_of_methodNamed B.named B.method).1⟩
  refine hW p l e s m (args.map (eV ad)).toArray below meth c (rmD d mc ms) D A S.1 ad S.2.2.2.2 _ ad cls tys s.heap [] 0 0 _ ⟨hCx, ⟨Nat.le_refl _, Nat.le_refl _, by show 0 + mc ≤ mc; omega, by show 0 + ms ≤ ms; omega⟩, ⟨⟨Int.le_refl _, rfl⟩, fun _ _ => rfl⟩, hR, ⟨hl2, eL_ok hok⟩, fun v hv => (by cases hv), ?_⟩
  intro ad' cls' tys' H' locs' cells' slots' pc' jls' st' x S' C' hq hR' hn hag hce hsl hRt
  obtain ⟨rK, rP, rD, rS, rT, rW, rA, rE⟩ := hR'
  refine W.widen (k := mc) (n := ms) hce hsl ?_
  have hpost : ∀ t : State, t.heap = H' → s.WarmedH t.vm → (∀ ty, N.2.2.2 = some ty → okV S'.1 (kd ty, x)) → PostM D A S.1 S.2.2.2.2 ad N Q (args.map (eV ad)).toArray s (.returned (rV N ad' x)) t := by
    intro t ht hWm hokx
    exact ⟨⟨x, S', C', ad', cls', tys', rfl, hq, ⟨va_K.moved hWm.alike rK, by rw [ht]; exact rP, rD, rT, rW⟩, hn, hag, hokx⟩, rS.F ht⟩
  have hret := B.returns
  have hlk := B.notSynchronized
  unfold Rt at hRt
  unfold rV at hpost
  cases hr : N.2.2.2 with
  | none =>
    rw [hr] at hRt hpost hret
    rw [hRt.2]
    exact W.vret B.exec B.bytes hret (fun t ht hWm => hpost t ht hWm (fun ty h => by cases h)) rS.2.2 hRt.1
  | some ty =>
    rw [hr] at hRt hpost hret
    obtain ⟨h1, h2, h3, h4, h5⟩ := hRt
    rw [h1]
    have hp2 : ∀ t : State, t.heap = H' → s.WarmedH t.vm → PostM D A S.1 S.2.2.2.2 ad N Q (args.map (eV ad)).toArray s (.returned (some (eV ad' (kd ty, x)))) t := fun t ht hWm => hpost t ht hWm (fun ty2 h => by cases h; exact h2)
    have hk3 := kd_lt ty
    rcases (show kd ty = 0 ∨ kd ty = 1 ∨ kd ty = 2 by omega) with hk | hk | hk
    · rw [hk] at hp2 ⊢
      exact W.zret B.exec B.bytes hret (h3 hk).2 hp2 rS.2.2 (h3 hk).1
    · have hty : ty = .long := by cases ty <;> first | rfl | (simp [kd] at hk)
      rw [hk] at hp2 ⊢
      rw [hty] at hret
      exact W.lret B.exec B.bytes hret hp2 rS.2.2 (h4 hk)
    · have hty : (∃ n, ty = .object n) ∨ ∃ t, ty = .array t := by cases ty <;> first | exact Or.inl ⟨_, rfl⟩ | exact Or.inr ⟨_, rfl⟩ | (simp [kd] at hk)
      rw [hk] at hp2 ⊢
      refine W.aret B.exec B.bytes hret hty ?_ hp2 rS.2.2 (h5 hk)
      show (if x = -1 then Value.null else .ref (ad' x)) = .null ∨ ∃ a, (if x = -1 then Value.null else .ref (ad' x)) = .ref a
      by_cases hx : x = -1
      · exact Or.inl (if_pos hx)
      · exact Or.inr ⟨_, if_neg hx⟩
theorem W.run {p : Program} {l : Launch} {e : Env} {R : Room} {s : State} {m : MethodId} {args : Array Value} {below : List Frame} {meth : Method} {c : Code} {H : Heap} {locs : List Loc} {cells slots mc ms : Nat} {QQ : State → Prop} {pc : Nat} {jls : Array Slot} {st0 rest : List Value} {Qa : State → Outcome → State → Prop} {free : Addr → Prop}
    (hr : va_Run p l e R s m args below meth c H locs cells slots mc ms (F0 m pc jls st0) rest Qa free)
    (kk : ∀ (v : Option Value) (st₀ t : State) (L : List Loc), st₀.heap = H → Qa st₀ (.returned v) t → s.vm.Alike t.vm → (∀ q ∈ L, free q.base) → W p l e R s m args below meth c t.heap (locs ++ L) (cells + mc) (slots + ms) QQ (F0 m (pc + 3) jls (v.toList ++ rest))) : W p l e R s m args below meth c H locs cells slots QQ (F0 m pc jls st0) := by
  intro T hT X
  obtain ⟨v, st₀, t, T', L, h0, X', hL, e1, e2, hq, st⟩ := hr T hT X
  obtain ⟨t2, a1, b1⟩ := kk v st₀ t L h0 hq (by rw [← e2]; exact X'.warmed.alike) hL T' e1 X'
  exact ⟨t2, st t2 a1, b1⟩
def pR (N : MD) (x : Int) : List MV := match N.2.2.2 with
  | none => []
  | some ty => [(kd ty, x)]
theorem pR_V (N : MD) (ad : Int → Nat) (x : Int) : (rV N ad x).toList = (pR N x).map (eV ad) := by
  unfold rV pR
  cases N.2.2.2 with
  | none => rfl
  | some ty => rfl
/-- behind a call -/
theorem Wp.behind {d mc' ms' : Nat} {M N : MD} {nx : Nat} {ls st : List MV} {Q : Int → MS → MC → Prop} {p : Program} {l : Launch} {e : Env} {s : State} {m : MethodId} {args : Array Value} {below : List Frame} {meth : Method} {c : Code} {R : Room} {D : va_G} {A : Nat → Prop} {n0 : Int} {ad0 : Int → Nat} {sc0 : Int × (Int → Int)} {QQ : State → Prop}
    {ad : Int → Nat} {cls : Nat → ClassId} {tys : List (ClassId × FieldType)} {H : Heap} {locs : List Loc} {cells slots mc ms pc : Nat} {jls : Array Slot} {st0 : List Value} {S : MS} {C : MC} {a : Array Value}
    (hr : va_Run p l e R s m args below meth c H locs cells slots mc ms (F0 m pc jls st0) (st.map (eV ad)) (PostM D A S.1 S.2.2.2.2 ad N (fun x S' C' => Wp d mc' ms' M nx ls (pR N x ++ st) S' C' Q) a) A) (hx : pc + 3 = nx)
    (hc : Cx p s m args meth c M) (hrm : d ≤ R.frames ∧ 60 * d ≤ R.locals ∧ cells + (mc + mc') ≤ R.cells ∧ slots + (ms + ms') ≤ R.slots) (ha : (n0 ≤ S.1 ∧ S.2.2.2.2 = sc0) ∧ ∀ k : Int, k < n0 → ad k = ad0 k) (hR : Rl D ad cls tys S C A H locs s) (hL : lv_has jls M.2.2.1 (lP ad 0 ls) ∧ ∀ v ∈ ls, v.1 < 3 → okV S.1 v) (hst : ∀ v ∈ st, okV S.1 v)
    (hE : ∀ (ad' : Int → Nat) (cls' : Nat → ClassId) (tys' : List (ClassId × FieldType)) (H' : Heap) (locs' : List Loc) (cells' slots' pc' : Nat) (jls' : Array Slot) (st' : List Value) (x : Int) (S' : MS) (C' : MC),
      Q x S' C' → Rl D ad' cls' tys' S' C' A H' locs' s → (n0 ≤ S'.1 ∧ S'.2.2.2.2 = sc0) → (∀ k : Int, k < n0 → ad' k = ad0 k) → cells' ≤ R.cells → slots' ≤ R.slots → Rt M S'.1 ad' pc' st' x → W p l e R s m args below meth c H' locs' cells' slots' QQ (F0 m pc' jls' st')) :
    W p l e R s m args below meth c H locs cells slots QQ (F0 m pc jls st0) := by
  subst hx
  obtain ⟨rK, rP, rD, rS, rT, rW, rA, rE⟩ := hR
  refine W.run hr (fun v st₀ t L h0 hq hvm hL2 => ?_)
  obtain ⟨⟨x, S', C', ad', cls', tys', hv, hW, ⟨k1, k2, k3, k4, k5⟩, hn, hag, hokx⟩, hz, hF⟩ := hq
  rw [h0] at hz hF
  have hv : v = rV N ad' x := Outcome.returned.inj hv
  have hstm : st.map (eV ad) = st.map (eV ad') := (map_ag hst hag).symm
  rw [hv, pR_V, hstm, ← List.map_append]
  refine hW p l e s m args below meth c R D A n0 ad0 sc0 QQ ad' cls' tys' t.heap (locs ++ L) (cells + mc) (slots + ms) jls ⟨hc, ⟨hrm.1, hrm.2.1, by omega, by omega⟩, ⟨⟨by omega, hn.2.trans ha.1.2⟩, fun k hk => (hag k (by omega)).trans (ha.2 k hk)⟩, ⟨va_K.moved hvm.symm k1, k2, k3, ⟨Nat.le_trans rS.1 hz, fun q h1 h2 => (hF q (Nat.lt_of_lt_of_le h1 rS.1) h2).trans (rS.2.1 q h1 h2), fun q hq => ?_⟩, k4, k5, rA, ?_⟩, ⟨?_, fun v hv h3 => okV_mono hn.1 (hL.2 v hv h3)⟩, fun v hv => ?_, hE⟩
  · rcases List.mem_append.mp hq with h | h
    · exact rS.2.2 q h
    · exact hL2 q h
  · have h0 := rW.1
    rw [hn.2]
    exact Ex_ag (fun k hk => hag k (by omega)) rE
  · rw [lP_ag ls 0 hL.2 hag]
    exact hL.1
  · rcases List.mem_append.mp hv with h | h
    · unfold pR at h
      cases hr2 : N.2.2.2 with
      | none => rw [hr2] at h; cases h
      | some ty =>
        rw [hr2] at h
        rw [List.mem_singleton.mp h]
        exact hokx ty hr2
    · exact okV_mono hn.1 (hst v h)
/-- the callee's start, out of the caller's state -/
theorem pre_call {D : va_G} {ad : Int → Nat} {cls : Nat → ClassId} {tys : List (ClassId × FieldType)} {S : MS} {C : MC} {A : Nat → Prop} {H : Heap} {locs : List Loc} {s : State} (hR : Rl D ad cls tys S C A H locs s) (av : List Value) : PreS s H (va_Pc av (fun U => Rl D ad cls tys S C A U.heap [] U)) av := by
  obtain ⟨rK, rP, rD, rS, rT, rW, rA, rE⟩ := hR
  refine ⟨fun a U g mk q => ?_, fun U hU hWm => ⟨rfl, va_K.moved hWm.alike rK, by rw [hU]; exact rP, rD, va_S.rf, rT, rW, fun q hq => rA q (by rw [hU] at hq; exact Nat.le_trans rS.1 hq), ex_moved hWm (fun q h1 h2 => by rw [hU]; exact rS.2.1 q h1 h2) rE⟩⟩
  obtain ⟨q0, r1, r2, r3, r4, r5, r6, r7, r8⟩ := q
  exact ⟨q0, va_K.moved (u := U) (U := U.calling g mk a) (Vm.Alike.refl U.vm) r1, r2, r3, va_S.rf, r5, r6, r7, ex_same (s := U) (U := U.calling g mk a) (H := U.heap) rfl r8⟩
def sumK (st : List MV) : Nat := (st.map (fun v => if v.1 = 1 then 2 else 1)).sum
theorem sumK_eq {ad : Int → Nat} {n : Int} : ∀ (st : List MV), (∀ v ∈ st, okV n v) → ((st.map (eV ad)).map fun v => v.category).sum = sumK st
  | [], _ => rfl
  | v :: r, h => by
    have ho := List.forall_mem_cons.mp h
    have ih := sumK_eq (ad := ad) r ho.2
    unfold sumK at ih ⊢
    simp only [List.map_cons, List.sum_cons] at ih ⊢
    rw [ih]
    by_cases h1 : v.1 = 1
    · rw [if_pos h1, eV_c2 h1]
    · rw [if_neg h1, eV_c1 ho.1 h1]
theorem wp_invS {d mc ms mc' ms' tc ts : Nat} {M N : MD} {pc nx idx : Nat} {as : List MV} {ls st ls0 stk : List MV} {S : MS} {C : MC} {Q : Int → MS → MC → Prop} (hd : decode M.2.1 pc = .ok (.invokestatic idx, 3)) (hx : pc + 3 = nx) (hN : MOk N as.length) (hlk : Cond.methodLink M.1.cls idx N.1 ∈ T0) (hst0 : Cond.static N.1 ∈ T0)
    (hs : stk = as.reverse ++ st) (hl0 : eL as N.2.2.1 = ls0) (hlen : (xL as).length ≤ N.2.2.1) (hsum : sumK st ≤ 8) (hm1 : mc + mc' ≤ tc) (hm2 : ms + ms' ≤ ts)
    (k : Wp d mc ms N 0 ls0 [] S C (fun x S' C' => Wp (d + 1) mc' ms' M nx ls (pR N x ++ st) S' C' Q)) : Wp (d + 1) tc ts M pc ls stk S C Q := by
  intro p l e s m args below meth c R D A n0 ad0 sc0 QQ ad cls tys H locs cells slots jls G
  obtain ⟨hc, hr, ha, hR, hL, hst, hE⟩ := G
  subst hs
  subst hl0
  have hoks : ∀ v ∈ st, okV S.1 v := fun v hv => hst v (List.mem_append_right _ hv)
  have hoka : ∀ v ∈ as, okV S.1 v := fun v hv => hst v (List.mem_append_left _ (List.mem_reverse.mpr hv))
  have hM := met_of_wp hN hlen k hoka l D A ad cls tys
  have hrun := va_runS (p := p) (l := l) (e := e) (R := R) (s := s) (m := m) (args := args) (below := below) (meth := meth) (c := c) (H := H) (locs := locs) (cells := cells) (slots := slots) (Ts := T0) (own := M.1.cls) (index := idx) (g := F0 m pc jls ((as.reverse ++ st).map (eV ad))) (rest := st.map (eV ad)) (As := as.map (eV ad)) (nL := M.2.2.1)
    ⟨hc.1, hc.2.1, hc.2.2.1, hc.2.2.2.1, hc.2.2.2.2.1⟩ hM ⟨callB_of as.length hc.2.2.2.2.1 (good_ws hN) rfl rfl rfl (hc.2.2.2.2.1 _ hN.2.2.2.1) (hc.2.2.2.2.1 _ hlk) hN.2.2.1 ⟨by show d + 1 ≤ R.frames; omega, by have := hN.2.2.2.2; show 8 + (N.2.2.1 + 11) + 60 * d ≤ R.locals; omega⟩, hc.2.2.2.2.1 _ hst0⟩
    (pre_call hR _) rfl (List.length_map _) hL.1.1 (by rw [← List.map_reverse, ← List.map_append]) (lv_room (by rw [sumK_eq st hoks]; exact hsum)) hd ⟨by omega, by omega⟩
  exact Wp.behind hrun hx hc ⟨hr.1, hr.2.1, by omega, by omega⟩ ha hR hL hoks hE
theorem wp_invV {d mc ms mc' ms' tc ts : Nat} {M N : MD} {pc nx idx ci : Nat} {T : u_T} {nn : Nat} {ty : Nat → FieldType} {a : Int} {as : List MV} {ls st ls0 stk : List MV} {S : MS} {C : MC} {Q : Int → MS → MC → Prop} (hcl : Cls ci N.1.cls T nn ty) (hd : decode M.2.1 pc = .ok (.invokevirtual idx, 3)) (hx : pc + 3 = nx) (hN : MOk N as.length) (hlk : Cond.methodLink M.1.cls idx N.1 ∈ T0) (hi0 : Cond.instanceMethod N.1 ∈ T0) (hse : Cond.selects N.1.cls N.1 N.1 ∈ T0)
    (hb : 0 ≤ a ∧ a < S.1) (ht : S.2.1 a = ci) (hs : stk = as.reverse ++ cA a :: st) (hl0 : eL (cA a :: as) N.2.2.1 = ls0) (hlen : (xL (cA a :: as)).length ≤ N.2.2.1) (hsum : sumK st ≤ 8) (hm1 : mc + mc' ≤ tc) (hm2 : ms + ms' ≤ ts)
    (k : Wp d mc ms N 0 ls0 [] S C (fun x S' C' => Wp (d + 1) mc' ms' M nx ls (pR N x ++ st) S' C' Q)) : Wp (d + 1) tc ts M pc ls stk S C Q := by
  intro p l e s m args below meth c R D A n0 ad0 sc0 QQ ad cls tys H locs cells slots jls G
  obtain ⟨hc, hr, ha, hR, hL, hst, hE⟩ := G
  obtain ⟨c1, c2, c3, c4, c5, c6, c7⟩ := hcl
  subst hs
  subst hl0
  have hoks : ∀ v ∈ st, okV S.1 v := fun v hv => hst v (List.mem_append_right _ (List.mem_cons_of_mem _ hv))
  have hoka : ∀ v ∈ cA a :: as, okV S.1 v := fun v hv => by
    rcases List.mem_cons.mp hv with e | hv
    · rw [e]; exact hst _ (List.mem_append_right _ List.mem_cons_self)
    · exact hst v (List.mem_append_left _ (List.mem_reverse.mpr hv))
  have hea : eV ad (cA a) = .ref (ad a) := if_neg (show ¬ a = -1 by omega)
  have hM := met_of_wp hN hlen k hoka l D A ad cls tys
  rw [List.map_cons, hea] at hM
  have hrec := va_recv hR.1 hR.2.1 c2 ((eW_at hb).trans (by rw [eC_obj ht c1]))
  have hpre := pre_call hR (.ref (ad a) :: as.map (eV ad))
  have hrun := va_runV (p := p) (l := l) (e := e) (R := R) (s := s) (m := m) (args := args) (below := below) (meth := meth) (c := c) (H := H) (locs := locs) (cells := cells) (slots := slots) (Ts := T0) (own := M.1.cls) (C := N.1.cls) (index := idx) (b := ad a) (g := F0 m pc jls ((as.reverse ++ cA a :: st).map (eV ad))) (rest := st.map (eV ad)) (As := as.map (eV ad)) (nL := M.2.2.1)
    ⟨hc.1, hc.2.1, hc.2.2.1, hc.2.2.2.1, hc.2.2.2.2.1⟩ hM ⟨callB_of as.length hc.2.2.2.2.1 (good_ws hN) rfl rfl rfl (hc.2.2.2.2.1 _ hN.2.2.2.1) (hc.2.2.2.2.1 _ hlk) hN.2.2.1 ⟨by show d + 1 ≤ R.frames; omega, by have := hN.2.2.2.2; show 8 + (N.2.2.1 + 11) + 60 * d ≤ R.locals; omega⟩, hc.2.2.2.2.1 _ hi0, hc.2.2.2.2.1 _ hse⟩
    ⟨hpre.1, hrec, hpre.2⟩ rfl (List.length_map _) hL.1.1 (by rw [← List.map_reverse, List.map_append, List.map_cons, hea]) (lv_room (by rw [sumK_eq st hoks]; exact hsum)) hd ⟨by omega, by omega⟩
  exact Wp.behind hrun hx hc ⟨hr.1, hr.2.1, by omega, by omega⟩ ha hR hL hoks hE
theorem wp_invI {d mc ms mc' ms' tc ts : Nat} {M N : MD} {pc nx idx : Nat} {a : Int} {as : List MV} {ls st ls0 stk : List MV} {S : MS} {C : MC} {Q : Int → MS → MC → Prop} (hd : decode M.2.1 pc = .ok (.invokespecial idx, 3)) (hx : pc + 3 = nx) (hN : MOk N as.length) (hlk : Cond.methodLink M.1.cls idx N.1 ∈ T0) (hi0 : Cond.instanceMethod N.1 ∈ T0) (hret : N.2.2.2 = none) (hnm : N.1.name = "<init>")
    (hb : 0 ≤ a ∧ a < S.1) (hs : stk = as.reverse ++ cA a :: st) (hl0 : eL (cA a :: as) N.2.2.1 = ls0) (hlen : (xL (cA a :: as)).length ≤ N.2.2.1) (hsum : sumK st ≤ 8) (hm1 : mc + mc' ≤ tc) (hm2 : ms + ms' ≤ ts)
    (k : Wp d mc ms N 0 ls0 [] S C (fun x S' C' => Wp (d + 1) mc' ms' M nx ls (pR N x ++ st) S' C' Q)) : Wp (d + 1) tc ts M pc ls stk S C Q := by
  intro p l e s m args below meth c R D A n0 ad0 sc0 QQ ad cls tys H locs cells slots jls G
  obtain ⟨hc, hr, ha, hR, hL, hst, hE⟩ := G
  subst hs
  subst hl0
  have hoks : ∀ v ∈ st, okV S.1 v := fun v hv => hst v (List.mem_append_right _ (List.mem_cons_of_mem _ hv))
  have hoka : ∀ v ∈ cA a :: as, okV S.1 v := fun v hv => by
    rcases List.mem_cons.mp hv with e | hv
    · rw [e]; exact hst _ (List.mem_append_right _ List.mem_cons_self)
    · exact hst v (List.mem_append_left _ (List.mem_reverse.mpr hv))
  have hea : eV ad (cA a) = .ref (ad a) := if_neg (show ¬ a = -1 by omega)
  have hM := met_of_wp hN hlen k hoka l D A ad cls tys
  rw [List.map_cons, hea] at hM
  have hg := good_ws hN
  have hcb : CallB R s args M.1.cls idx N.1 N.2.1 N.2.2.1 none (wsM N) (rmD d mc ms) mc ms as.length := by
    have := callB_of (R := R) (s := s) (args := args) (own := M.1.cls) (index := idx) (bytes := N.2.1) (maxL := N.2.2.1) (ret := N.2.2.2) (ws := wsM N) (rm := rmD d mc ms) (mc := mc) (ms := ms) as.length hc.2.2.2.2.1 hg rfl rfl rfl (hc.2.2.2.2.1 _ hN.2.2.2.1) (hc.2.2.2.2.1 _ hlk) hN.2.2.1 ⟨by show d + 1 ≤ R.frames; omega, by have := hN.2.2.2.2; show 8 + (N.2.2.1 + 11) + 60 * d ≤ R.locals; omega⟩
    rwa [hret] at this
  have hrun := va_runI (p := p) (l := l) (e := e) (R := R) (s := s) (m := m) (args := args) (below := below) (meth := meth) (c := c) (H := H) (locs := locs) (cells := cells) (slots := slots) (Ts := T0) (own := M.1.cls) (index := idx) (b := ad a) (g := F0 m pc jls ((as.reverse ++ cA a :: st).map (eV ad))) (rest := st.map (eV ad)) (As := as.map (eV ad)) (nL := M.2.2.1)
    ⟨hc.1, hc.2.1, hc.2.2.1, hc.2.2.2.1, hc.2.2.2.2.1⟩ hM ⟨hcb, hnm, hc.2.2.2.2.1 _ hi0⟩
    (pre_call hR (.ref (ad a) :: as.map (eV ad))) rfl (List.length_map _) hL.1.1 (by rw [← List.map_reverse, List.map_append, List.map_cons, hea]) (lv_room (by rw [sumK_eq st hoks]; exact hsum)) hd ⟨by omega, by omega⟩
  exact Wp.behind hrun hx hc ⟨hr.1, hr.2.1, by omega, by omega⟩ ha hR hL hoks hE
/-- invokestatic of a nest mate's private method -/
theorem wp_invN {d mc ms mc' ms' tc ts : Nat} {M N : MD} {pc nx idx : Nat} {host : String} {as : List MV} {ls st ls0 stk : List MV} {S : MS} {C : MC} {Q : Int → MS → MC → Prop} (hd : decode M.2.1 pc = .ok (.invokestatic idx, 3)) (hx : pc + 3 = nx) (hN : MOk N as.length) (hlk : Cond.methodLinkNest M.1.cls idx N.1 host ∈ N0) (hst0 : Cond.static N.1 ∈ T0)
    (hs : stk = as.reverse ++ st) (hl0 : eL as N.2.2.1 = ls0) (hlen : (xL as).length ≤ N.2.2.1) (hsum : sumK st ≤ 8) (hm1 : mc + mc' ≤ tc) (hm2 : ms + ms' ≤ ts)
    (k : Wp d mc ms N 0 ls0 [] S C (fun x S' C' => Wp (d + 1) mc' ms' M nx ls (pR N x ++ st) S' C' Q)) : Wp (d + 1) tc ts M pc ls stk S C Q := by
  intro p l e s m args below meth c R D A n0 ad0 sc0 QQ ad cls tys H locs cells slots jls G
  obtain ⟨hc, hr, ha, hR, hL, hst, hE⟩ := G
  subst hs
  subst hl0
  have hoks : ∀ v ∈ st, okV S.1 v := fun v hv => hst v (List.mem_append_right _ hv)
  have hoka : ∀ v ∈ as, okV S.1 v := fun v hv => hst v (List.mem_append_left _ (List.mem_reverse.mpr hv))
  have hM := met_of_wp hN hlen k hoka l D A ad cls tys
  have hrun := va_runSN (p := p) (l := l) (e := e) (R := R) (s := s) (m := m) (args := args) (below := below) (meth := meth) (c := c) (H := H) (locs := locs) (cells := cells) (slots := slots) (Ts := T0) (own := M.1.cls) (index := idx) (host := host) (g := F0 m pc jls ((as.reverse ++ st).map (eV ad))) (rest := st.map (eV ad)) (As := as.map (eV ad)) (nL := M.2.2.1)
    ⟨hc.1, hc.2.1, hc.2.2.1, hc.2.2.2.1, hc.2.2.2.2.1⟩ hM ⟨va_cnB as.length hc.2.2.2.2.1 (good_ws hN) rfl rfl rfl (hR.2.2.2.2.2.2.2.1 _ hlk) (hc.2.2.2.2.1 _ hN.2.2.2.1) hN.2.2.1 ⟨by show d + 1 ≤ R.frames; omega, by have := hN.2.2.2.2; show 8 + (N.2.2.1 + 11) + 60 * d ≤ R.locals; omega⟩, hc.2.2.2.2.1 _ hst0, trivial⟩
    (pre_call hR _) rfl (List.length_map _) hL.1.1 (by rw [← List.map_reverse, ← List.map_append]) (lv_room (by rw [sumK_eq st hoks]; exact hsum)) hd ⟨by omega, by omega⟩
  exact Wp.behind hrun hx hc ⟨hr.1, hr.2.1, by omega, by omega⟩ ha hR hL hoks hE
/-- the script -/
theorem wp_sload {d mc ms : Nat} {M : MD} {pc nx : Nat} {i : Int} {ls st : List MV} {S : MS} {C : MC} {Q : Int → MS → MC → Prop} (hd : decode M.2.1 pc = .ok (.iaload, 1)) (hx : pc + 1 = nx) (hi : 0 ≤ i ∧ i < S.2.2.2.2.1) (k : Wp d mc ms M nx ls (cI (S.2.2.2.2.2 i) :: st) S C Q) : Wp d mc ms M pc ls (cI i :: cA (-3) :: st) S C Q := by
  intro p l e s m args below meth c R D A n0 ad0 sc0 QQ ad cls tys H locs cells slots jls G
  obtain ⟨hc, hr, ha, hR, hL, hst, hE⟩ := G
  subst hx
  have ho := List.forall_mem_cons.mp hst
  have ho2 := List.forall_mem_cons.mp ho.2
  have hii : in32 i := ho.1
  obtain ⟨x1, x2, x3⟩ := hR.2.2.2.2.2.2.2.2.2.1
  have hv : (((Int32.ofInt i).toNatClampNeg : Nat) : Int) = i := by rw [clampI hii, Int.toNat_of_nonneg hi.1]
  refine va_ti hc.1 hc.2.1 x3 hR.2.2.2.1 (vpin hii hi.1 hi.2) (v := .int (Int32.ofInt (S.2.2.2.2.2 i))) ?_ hd ?_
  · show Value.int (Int32.ofInt (S.2.2.2.2.2 (((Int32.ofInt i).toNatClampNeg : Nat) : Int))) = _
    rw [hv]
  · exact k p l e s m args below meth c R D A n0 ad0 sc0 QQ ad cls tys H locs cells slots jls ⟨hc, hr, ha, hR, hL, List.forall_mem_cons.mpr ⟨x2 i, ho2.2⟩, hE⟩
theorem wp_slen {d mc ms : Nat} {M : MD} {pc nx : Nat} {ls st : List MV} {S : MS} {C : MC} {Q : Int → MS → MC → Prop} (hd : decode M.2.1 pc = .ok (.arraylength, 1)) (hx : pc + 1 = nx) (hl : in32 S.2.2.2.2.1) (k : Wp d mc ms M nx ls (cI S.2.2.2.2.1 :: st) S C Q) : Wp d mc ms M pc ls (cA (-3) :: st) S C Q := by
  intro p l e s m args below meth c R D A n0 ad0 sc0 QQ ad cls tys H locs cells slots jls G
  obtain ⟨hc, hr, ha, hR, hL, hst, hE⟩ := G
  subst hx
  have ho := List.forall_mem_cons.mp hst
  obtain ⟨x1, x2, x3⟩ := hR.2.2.2.2.2.2.2.2.2.1
  refine va_tlen hc.1 hc.2.1 x3 hR.2.2.2.1 (v := Int32.ofInt S.2.2.2.2.1) ?_ hd ?_
  · rw [← Int32.ofInt_eq_ofNat, Int.toNat_of_nonneg x1]
  · exact k p l e s m args below meth c R D A n0 ad0 sc0 QQ ad cls tys H locs cells slots jls ⟨hc, hr, ha, hR, hL, List.forall_mem_cons.mpr ⟨hl, ho.2⟩, hE⟩
/-- Object's constructor -/
theorem wp_objInit {d mc ms : Nat} {M : MD} {pc nx idx : Nat} {a : Int} {ls st : List MV} {S : MS} {C : MC} {Q : Int → MS → MC → Prop} (hd : decode M.2.1 pc = .ok (.invokespecial idx, 3)) (hx : pc + 3 = nx) (h1 : Cond.methodLink M.1.cls idx Lib.objectInit ∈ T0) (h2 : Cond.instanceMethod Lib.objectInit ∈ T0) (h3 : Cond.code Lib.objectInit ⟨#[0xb1]⟩ 1 none ∈ T0) (ha : 0 ≤ a) (hsum : sumK st ≤ 8) (k : Wp (d + 1) mc ms M nx ls st S C Q) : Wp (d + 1) mc ms M pc ls (cA a :: st) S C Q := by
  intro p l e s m args below meth c R D A n0 ad0 sc0 QQ ad cls tys H locs cells slots jls G
  obtain ⟨hc, hr, hag, hR, hL, hst, hE⟩ := G
  subst hx
  have ho := List.forall_mem_cons.mp hst
  refine W.objInit hc.1 hc.2.1 hc.2.2.2.1 (hc.2.2.2.2.1 _ h1) (hc.2.2.2.2.1 _ h2) (hc.2.2.2.2.1 _ h3) rfl (hL.1.1.trans hc.2.2.1.symm) (a := ad a) (rest := st.map (eV ad)) (by rw [List.map_cons, show eV ad (cA a) = .ref (ad a) from if_neg (show ¬ a = -1 by omega)]) hd (by omega) ?_ ?_
  · have := lv_room (m := m) (pc := pc) (ls := jls) (rest := ((cA a :: st).map (eV ad))) (st := st.map (eV ad)) (by rw [sumK_eq st ho.2]; exact hsum)
    omega
  · exact k p l e s m args below meth c R D A n0 ad0 sc0 QQ ad cls tys H locs cells slots jls ⟨hc, hr, hag, hR, hL, ho.2, hE⟩
