/-- a field of an object, as a value -/
def mi_fm (m : mi_M) (k i f : Nat) : mi_V := match mi_F k f with
  | (0, _, _) => vi (m.1 k i f)
  | (1, _, _) => vl (m.2.1 k i f)
  | (2, k', _) => vr k' i
  | (3, k', j) => vr k' j
  | (_, k', p) => vr k' (m.2.2 p)
def mi_fs (ad : Nat → Nat → Nat) (m : mi_M) (k i : Nat) : List Value := (List.range (mi_Cs k)).map (fun f => mi_tv ad (mi_fm m k i f))
def mi_ac (ad : Nat → Nat → Nat) (m : mi_M) (k i : Nat) : vp_A := match mi_A k with
  | (0, n, _) => (n, .inl (m.1 k i))
  | (1, n, _) => (n, .inr (.inl (m.2.1 k i)))
  | (2, n, _) => (n, .inl (m.1 k i))
  | (3, n, _) => (n, .inl (m.1 k i))
  | (_, n, k', mul, off) => (n, .inr (.inr (.inr (.inr (fun j => some (ad k' (mul * i + off + j)))))))
def mi_c (G : mi_G) (m : mi_M) (q : Nat × Nat) : va_E := if q.1 < 13 then .inr (q.1, mi_fs G.2.1 m q.1 q.2) else .inl (G.2.2 (mi_A q.1).1, mi_ac G.2.1 m q.1 q.2)
/-- the whole world's cells -/
def mi_ws (G : mi_G) (m : mi_M) : va_W := mi_kt.map (fun q => (G.2.1 q.1 q.2, mi_c G m q))
theorem mi_ws_at {G : mi_G} {m : mi_M} {n k i : Nat} (h : mi_kt[n]? = some (k, i)) : (mi_ws G m)[n]? = some (G.2.1 k i, mi_c G m (k, i)) := by
  unfold mi_ws
  rw [List.getElem?_map, h]
  rfl
theorem mi_ws_set {G : mi_G} {m m' : mi_M} {n k i : Nat} (h : mi_kt[n]? = some (k, i)) (ho : ∀ q : Nat × Nat, q ≠ (k, i) → mi_c G m' q = mi_c G m q) : (mi_ws G m).set n (G.2.1 k i, mi_c G m' (k, i)) = mi_ws G m' := by
  apply List.ext_getElem?
  intro j
  have hl : n < (mi_ws G m).length := by
    have := (List.getElem?_eq_some_iff.mp h).1
    unfold mi_ws
    rw [List.length_map]
    exact this
  by_cases hj : j = n
  · subst hj
    rw [List.getElem?_set_self hl, mi_ws_at h]
  · rw [List.getElem?_set_ne (Ne.symm hj)]
    unfold mi_ws
    rw [List.getElem?_map, List.getElem?_map]
    cases hq : mi_kt[j]? with
    | none => rfl
    | some q =>
      have hne : q ≠ (k, i) := by
        intro e
        subst e
        exact hj ((List.getElem?_inj (List.getElem?_eq_some_iff.mp hq).1 mi_kt_nd).mp (hq.trans h.symm))
      show some (G.2.1 q.1 q.2, mi_c G m q) = some (G.2.1 q.1 q.2, mi_c G m' q)
      rw [ho q hne]
theorem mi_D {G : mi_G} {m m' : mi_M} {A : Nat → Prop} (h : va_D A (mi_ws G m)) : va_D A (mi_ws G m') := by
  have key : ∀ (j : Nat) (q : Nat × va_E), (mi_ws G m')[j]? = some q → ∃ q0, (mi_ws G m)[j]? = some q0 ∧ q0.1 = q.1 := by
    intro j q hq
    unfold mi_ws at hq ⊢
    rw [List.getElem?_map] at hq ⊢
    cases hk : mi_kt[j]? with
    | none => rw [hk] at hq; cases hq
    | some z =>
      rw [hk] at hq
      cases hq
      exact ⟨_, rfl, rfl⟩
  refine ⟨fun i j p q hp hq e => ?_, fun j q hq => ?_⟩
  · obtain ⟨p0, h1, h2⟩ := key i p hp
    obtain ⟨q0, h3, h4⟩ := key j q hq
    exact h.1 i j p0 q0 h1 h3 (h2.trans (e.trans h4.symm))
  · obtain ⟨q0, h1, h2⟩ := key j q hq
    rw [← h2]
    exact h.2 j q0 h1
theorem mi_A_ws {G : mi_G} {m m' : mi_M} {sz q : Nat} (h : va_A (mi_ws G m) sz q) : va_A (mi_ws G m') sz q := by
  rcases h with ⟨k, e, hk⟩ | h
  · unfold mi_ws at hk
    rw [List.getElem?_map] at hk
    cases hz : mi_kt[k]? with
    | none => rw [hz] at hk; cases hk
    | some z =>
      rw [hz] at hk
      cases hk
      exact Or.inl ⟨k, mi_c G m' z, by unfold mi_ws; rw [List.getElem?_map, hz]; rfl⟩
  · exact Or.inr h
def mi_tys (G : mi_G) : List (ClassId × FieldType) := [(G.2.2 0, .int), (G.2.2 1, .long), (G.2.2 2, .byte), (G.2.2 3, .boolean), (G.2.2 4, .object "PardonLamps$State"), (G.2.2 5, .object "PardonLamps$Sights"), (G.2.2 6, .array .int)]
/-- the String constants: class, entry, text, number -/
def mi_strs : List (String × Nat × String × Nat) := [("PardonLamps$Tape", 50, "()<=+-*;", 0), ("PardonLamps$Teller", 33, "person lane wrong walk bar wind words heals burns", 1), ("PardonLamps$Teller", 195, "say give ask night", 2), ("PardonLamps$Teller", 90, "plain sulky saint priest", 3), ("PardonLamps$Teller", 200, "coins to size", 4), ("PardonLamps$Teller", 202, "not and or", 5), ("PardonLamps$Teller", 92, "coins", 6), ("PardonLamps$Teller", 132, "to", 7), ("PardonLamps$Teller", 134, "size", 8), ("PardonLamps$Teller", 186, "not", 9), ("PardonLamps$Teller", 191, "large sore nights", 10), ("PardonLamps$Teller", 193, "and or", 11)]
def mi_len : List Nat := [8, 49, 18, 24, 13, 10, 5, 2, 4, 3, 17, 6]
def mi_byt : List (List Int32) := [[40, 41, 60, 61, 43, 45, 42, 59], [112, 101, 114, 115, 111, 110, 32, 108, 97, 110, 101, 32, 119, 114, 111, 110, 103, 32, 119, 97, 108, 107, 32, 98, 97, 114, 32, 119, 105, 110, 100, 32, 119, 111, 114, 100, 115, 32, 104, 101, 97, 108, 115, 32, 98, 117, 114, 110, 115], [115, 97, 121, 32, 103, 105, 118, 101, 32, 97, 115, 107, 32, 110, 105, 103, 104, 116], [112, 108, 97, 105, 110, 32, 115, 117, 108, 107, 121, 32, 115, 97, 105, 110, 116, 32, 112, 114, 105, 101, 115, 116], [99, 111, 105, 110, 115, 32, 116, 111, 32, 115, 105, 122, 101], [110, 111, 116, 32, 97, 110, 100, 32, 111, 114], [99, 111, 105, 110, 115], [116, 111], [115, 105, 122, 101], [110, 111, 116], [108, 97, 114, 103, 101, 32, 115, 111, 114, 101, 32, 110, 105, 103, 104, 116, 115], [97, 110, 100, 32, 111, 114]]
def mi_St (G : mi_G) (A : Nat → Prop) (s : State) : Prop := vk_S 12 mi_len mi_byt (G.2.1 300) (G.2.1 301) A s s.heap ∧ (∀ q ∈ mi_strs, vk_R q.1 q.2.1 q.2.2.1 (G.2.1 300 q.2.2.2) s) ∧ va_Z "java/lang/String" "COMPACT_STRINGS" "Z" (.int 1) A s s.heap ∧ (∀ q ∈ mi_nest, va_Nw (.methodLinkNest q.1 q.2.1 q.2.2.1 q.2.2.2) s) ∧ va_Zq "jdk/internal/util/Preconditions" "SIOOBE_FORMATTER" "Ljava/util/function/BiFunction;" A s s.heap
def mi_Cx (y : mi_MD) (d : Nat) (p : Program) (R : Room) (s : State) (m : MethodId) (args : Array Value) (meth : Method) (c : Code) (A : Nat → Prop) (G : mi_G) (cells slots : Nat) : Prop :=
  p.tables.exec = Jvm.exec ∧ c.code = y.2.1 ∧ c.maxLocals = y.2.2.1 ∧ meth.sig.returnType = y.2.2.2 ∧ meth.locks = false ∧ s.vm.findClass y.1.cls = some m.cls ∧ (∀ w ∈ mi_T, w.before args s = true) ∧ va_K G.1 vwCl (mi_tys G) s ∧ (∀ q, s.heap.size ≤ q → A q) ∧ (d ≤ R.frames ∧ 64 * d ≤ R.locals ∧ cells ≤ R.cells ∧ slots ≤ R.slots) ∧ mi_St G A s
/-- what waits behind the method's return -/
def mi_Rt (y : mi_MD) (p : Program) (l : Launch) (e : Env) (R : Room) (s : State) (m : MethodId) (args : Array Value) (below : List Frame) (meth : Method) (c : Code) (cells slots : Nat) (Z : State → Prop) (A : Nat → Prop) (G : mi_G) (Q : Option mi_V → mi_M → Prop) : Prop :=
  ∀ (r : Option mi_V) (mem : mi_M) (pc : Nat) (lsm : Array Slot) (H : Heap) (locs : List Loc), Q r mem → va_P G.1 vwCl (mi_ws G mem) H → va_S A s.heap H locs →
    (match r with
      | none => decode y.2.1 pc = .ok (.return_, 1) ∧ y.2.2.2 = none
      | some (.inl v) => decode y.2.1 pc = .ok (.ireturn, 1) ∧ ∃ ty, y.2.2.2 = some ty ∧ narrow ty (.int v) = .int v
      | some (.inr (.inl _)) => decode y.2.1 pc = .ok (.lreturn, 1) ∧ y.2.2.2 = some .long
      | some (.inr (.inr _)) => False) →
    W p l e R s m args below meth c H locs cells slots Z (F0 m pc lsm (r.toList.map (mi_tv G.2.1)))
def mi_lm (G : mi_G) (ls : List (Nat × mi_V)) : List (Nat × Value) := ls.map (fun q => (q.1, mi_tv G.2.1 q.2))
/-- from pc, with these locals, this stack and memory, the method returns, and Q -/
def mi_X (y : mi_MD) (d pc : Nat) (ls : List (Nat × mi_V)) (st : List mi_V) (mem : mi_M) (Q : Option mi_V → mi_M → Prop) : Prop :=
  ∀ (p : Program) (l : Launch) (e : Env) (R : Room) (s : State) (m : MethodId) (args : Array Value) (below : List Frame) (meth : Method) (c : Code) (H : Heap) (locs : List Loc) (cells slots : Nat) (Z : State → Prop) (A : Nat → Prop) (G : mi_G) (lsm : Array Slot),
    mi_Cx y d p R s m args meth c A G cells slots → mi_Rt y p l e R s m args below meth c cells slots Z A G Q → va_P G.1 vwCl (mi_ws G mem) H → va_D A (mi_ws G mem) → va_S A s.heap H locs → lv_has lsm y.2.2.1 (mi_lm G ls) →
      W p l e R s m args below meth c H locs cells slots Z (F0 m pc lsm (st.map (mi_tv G.2.1)))
abbrev mi_rm (d : Nat) : Room := { frames := d, cells := 0, slots := 0, locals := 64 * d }
abbrev mi_yw (y : mi_MD) : List Cond := Cond.code y.1 y.2.1 y.2.2.1 y.2.2.2 :: mi_T
def mi_Wd (G : mi_G) (mem : mi_M) (sz : Nat) (U : State) : Prop := U.heap.size = sz ∧ va_P G.1 vwCl (mi_ws G mem) U.heap ∧ va_K G.1 vwCl (mi_tys G) U ∧ va_D (fun _ => True) (mi_ws G mem) ∧ mi_St G (va_A (mi_ws G mem) sz) U
def mi_Qc (G : mi_G) (mem : mi_M) (sz : Nat) (Q : Option mi_V → mi_M → Prop) : Array Value → State → Outcome → State → Prop := fun _ st oc t =>
  (∃ (r : Option mi_V) (mem' : mi_M), oc = .returned (r.map (mi_tv G.2.1)) ∧ Q r mem' ∧ va_P G.1 vwCl (mi_ws G mem') t.heap) ∧ va_F (va_A (mi_ws G mem) sz) st t
/-- a method's contract at the depth d -/
def mi_C (d : Nat) (y : mi_MD) (av : List mi_V) (mem : mi_M) (Q : Option mi_V → mi_M → Prop) : Prop :=
  ∀ (l : Launch) (G : mi_G) (sz : Nat), Met l y.1 (mi_yw y) (mi_rm d) (va_Pc (av.map (mi_tv G.2.1)) (mi_Wd G mem sz)) (mi_Qc G mem sz Q) 0 0 (va_A (mi_ws G mem) sz)
def mi_2 (v : mi_V) : Bool := match v with
  | .inr (.inl _) => true
  | _ => false
def mi_en : Nat → List mi_V → List (Nat × mi_V)
  | _, [] => []
  | i, v :: r => (i, v) :: mi_en (cond (mi_2 v) (i + 2) (i + 1)) r
theorem mi_cat (ad : Nat → Nat → Nat) (v : mi_V) : (mi_tv ad v).category = cond (mi_2 v) 2 1 := by
  rcases v with x | x | x <;> rfl
theorem mi_en_eq (G : mi_G) : ∀ (av : List mi_V) (i : Nat), lv_args i (av.map (mi_tv G.2.1)) = mi_lm G (mi_en i av)
  | [], _ => rfl
  | v :: r, i => by
    show (i, mi_tv G.2.1 v) :: lv_args (if (mi_tv G.2.1 v).category = 2 then i + 2 else i + 1) (r.map (mi_tv G.2.1)) = (i, mi_tv G.2.1 v) :: mi_lm G (mi_en (cond (mi_2 v) (i + 2) (i + 1)) r)
    rw [mi_cat, mi_en_eq G r]
    cases mi_2 v <;> rfl
def mi_sz : List mi_V → Nat
  | [] => 0
  | v :: r => cond (mi_2 v) 2 1 + mi_sz r
theorem mi_sz_eq (ad : Nat → Nat → Nat) : ∀ av : List mi_V, (lg_sl (av.map (mi_tv ad))).length = mi_sz av
  | [] => rfl
  | v :: r => by
    have h := mi_sz_eq ad r
    unfold lg_sl at h ⊢
    rw [List.map_cons, List.flatMap_cons, List.length_append, h, mi_cat]
    show _ = cond (mi_2 v) 2 1 + mi_sz r
    cases mi_2 v <;> rfl
theorem mi_St.moved {G : mi_G} {A : Nat → Prop} {u U : State} (hh : U.heap = u.heap) (hW : u.WarmedH U.vm) (h : mi_St G A u) : mi_St G A U := by
  obtain ⟨h1, h2, h3, h4, h5⟩ := h
  refine ⟨by rw [hh]; exact h1.moved hW.alike, fun q hq => (h2 q hq).warm hW, by rw [hh]; exact h3.moved hW.alike, fun q hq => va_Nw.warmM hW (h4 q hq), by rw [hh]; exact h5.moved hW.alike⟩
theorem mi_St.calling {G : mi_G} {A : Nat → Prop} {U : State} {g : JFrame} {mk : MethodId} {a : Array Value} (h : mi_St G A U) : mi_St G A (U.calling g mk a) := by
  obtain ⟨h1, h2, h3, h4, h5⟩ := h
  exact ⟨h1.moved (Vm.Alike.refl U.vm), fun q hq => vk_R.same rfl (h2 q hq), h3.moved (Vm.Alike.refl U.vm), fun q hq => va_Nw.same (u := U) rfl rfl (h4 q hq), h5.moved (Vm.Alike.refl U.vm)⟩
theorem mi_St.at {G : mi_G} {A B : Nat → Prop} {s U : State} {H : Heap} {locs : List Loc} (h : mi_St G A s) (hS : va_S A s.heap H locs) (hU : U.heap = H) (hW : s.WarmedH U.vm) (hB : ∀ q, B q → A q) : mi_St G B U := by
  obtain ⟨h1, h2, h3, h4, h5⟩ := h
  refine ⟨?_, fun q hq => (h2 q hq).warm hW, ?_, fun q hq => va_Nw.warmM hW (h4 q hq), by rw [hU]; exact ((h5.kept hS.2.1).narrow hB).moved hW.alike⟩
  · rw [hU]
    exact ((h1.kept hS.2.1).narrow hB).moved hW.alike
  · rw [hU]
    exact ((h3.kept hS.2.1).narrow hB).moved hW.alike
theorem mi_C_intro {d : Nat} {y : mi_MD} {av : List mi_V} {mem : mi_M} {Q : Option mi_V → mi_M → Prop} {ls : List (Nat × mi_V)} (hy : plainName y.1.cls = true) (hls : mi_en 0 av = ls) (hsz : Nat.ble (mi_sz av) y.2.2.1 = true) (h : mi_X y d 0 ls [] mem Q) : mi_C d y av mem Q := by
  intro l G sz
  refine Met.ofW (cc := y.2.1) (maxL := y.2.2.1) (ret := y.2.2.2) hy rfl ?_
  intro p e s m args below meth c s₁ B hml hv
  obtain ⟨rfl, hsz', hP, hK, hD0, hSt⟩ := hv
  subst hsz'
  have hts := atoms_spec (ws := mi_yw y) B.pre
  have hown : s.vm.findClass y.1.cls = some m.cls := findClass_of_methodNamed B.named
  have hD := hD0.self (sz := s.heap.size)
  have hS : va_S (va_A (mi_ws G mem) s.heap.size) s.heap s.heap [] := va_S.rf
  have hl := lv_entry (av.map (mi_tv G.2.1)) (n := y.2.2.1) (by rw [mi_sz_eq]; exact Nat.le_of_ble_eq_true hsz)
  rw [lg_entry_eq]
  rw [mi_en_eq, hls] at hl
  have hr := B.returns
  have hlocks := B.notSynchronized
  refine h p l e _ s m _ below meth c s.heap [] 0 0 _ _ G _ ⟨B.exec, B.bytes, hml, hr, hlocks, hown, fun w hw => hts w (List.mem_cons_of_mem _ hw), hK, fun q hq => Or.inr hq, ⟨Nat.le_refl _, Nat.le_refl _, Nat.zero_le _, Nat.zero_le _⟩, hSt⟩ ?_ hP hD hS hl
  intro r mem' pc lsm H locs hQ hP' hS' hr'
  rcases r with _ | v | v | v
  · exact W.vret B.exec B.bytes (hr.trans hr'.2) (fun t ht hW => ⟨⟨none, mem', rfl, hQ, by rw [ht]; exact hP'⟩, hS'.F ht⟩) hS'.2.2 hr'.1
  · obtain ⟨h1, ty, h2, h3⟩ := hr'
    exact W.zret B.exec B.bytes (hr.trans h2) h3 (fun t ht hW => ⟨⟨some (vi v), mem', rfl, hQ, by rw [ht]; exact hP'⟩, hS'.F ht⟩) hS'.2.2 h1
  · exact W.lret B.exec B.bytes (hr.trans hr'.2) (fun t ht hW => ⟨⟨some (vl v), mem', rfl, hQ, by rw [ht]; exact hP'⟩, hS'.F ht⟩) hS'.2.2 hr'.1
  · exact absurd hr' id
