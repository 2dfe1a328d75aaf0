def mi_lk : List (Nat × mi_V) → Nat → Option mi_V
  | [], _ => none
  | q :: r, i => cond (Nat.beq q.1 i) (some q.2) (mi_lk r i)
theorem mi_lk_mem : ∀ (ls : List (Nat × mi_V)) {i : Nat} {v : mi_V}, mi_lk ls i = some v → (i, v) ∈ ls
  | [], _, _, h => by cases h
  | q :: r, i, v, h => by
    unfold mi_lk at h
    cases hb : Nat.beq q.1 i with
    | true =>
      rw [hb] at h
      have e1 : q.1 = i := Nat.eq_of_beq_eq_true hb
      have e2 : q.2 = v := Option.some.inj h
      rw [← e1, ← e2]
      exact List.mem_cons_self
    | false =>
      rw [hb] at h
      exact List.mem_cons_of_mem _ (mi_lk_mem r h)
theorem mi_lk_has {G : mi_G} {lsm : Array Slot} {nL : Nat} {ls : List (Nat × mi_V)} {i : Nat} {v : mi_V} (hl : lv_has lsm nL (mi_lm G ls)) (h : mi_lk ls i = some v) : lsm[i]? = some (.val (mi_tv G.2.1 v)) :=
  hl.2.2 (i, mi_tv G.2.1 v) (List.mem_map.mpr ⟨(i, v), mi_lk_mem ls h, rfl⟩)
theorem mi_lk_at {G : mi_G} {ls : List (Nat × mi_V)} {i : Nat} {v : mi_V} (h : mi_lk ls i = some v) : ∃ k : Nat, (mi_lm G ls)[k]? = some (i, mi_tv G.2.1 v) :=
  List.getElem?_of_mem (List.mem_map.mpr ⟨(i, v), mi_lk_mem ls h, rfl⟩)
def mi_s1 (i : Nat) : List (Nat × mi_V) → List (Nat × mi_V)
  | [] => []
  | q :: r => cond (Nat.beq q.1 i || (Nat.beq (q.1 + 1) i && mi_2 q.2)) (mi_s1 i r) (q :: mi_s1 i r)
def mi_s2 (i : Nat) : List (Nat × mi_V) → List (Nat × mi_V)
  | [] => []
  | q :: r => cond (Nat.beq q.1 i || (Nat.beq q.1 (i + 1) || (Nat.beq (q.1 + 1) i && mi_2 q.2))) (mi_s2 i r) (q :: mi_s2 i r)
theorem mi_cat2 (ad : Nat → Nat → Nat) (v : mi_V) : ((mi_tv ad v).category == 2) = mi_2 v := by
  rw [mi_cat]
  cases mi_2 v <;> rfl
theorem mi_beq (a b : Nat) : (a == b) = Nat.beq a b := by
  cases h : Nat.beq a b with
  | true =>
    have e := Nat.eq_of_beq_eq_true h
    subst e
    exact beq_self_eq_true a
  | false => exact beq_false_of_ne (Nat.ne_of_beq_eq_false h)
theorem mi_s1_f (G : mi_G) (i : Nat) : ∀ ls : List (Nat × mi_V), (mi_lm G ls).filter (fun q => !(q.1 == i) && !(q.1 + 1 == i && q.2.category == 2)) = mi_lm G (mi_s1 i ls)
  | [] => rfl
  | q :: r => by
    have ih := mi_s1_f G i r
    show ((q.1, mi_tv G.2.1 q.2) :: mi_lm G r).filter _ = mi_lm G (cond (Nat.beq q.1 i || (Nat.beq (q.1 + 1) i && mi_2 q.2)) (mi_s1 i r) (q :: mi_s1 i r))
    rw [List.filter_cons, ih]
    show (if (!(q.1 == i) && !(q.1 + 1 == i && (mi_tv G.2.1 q.2).category == 2)) = true then _ else _) = _
    rw [mi_cat2, mi_beq, mi_beq]
    cases Nat.beq q.1 i <;> cases Nat.beq (q.1 + 1) i <;> cases mi_2 q.2 <;> rfl
theorem mi_s2_f (G : mi_G) (i : Nat) : ∀ ls : List (Nat × mi_V), (mi_lm G ls).filter (fun q => !(q.1 == i) && (!(q.1 == i + 1) && !(q.1 + 1 == i && q.2.category == 2))) = mi_lm G (mi_s2 i ls)
  | [] => rfl
  | q :: r => by
    have ih := mi_s2_f G i r
    show ((q.1, mi_tv G.2.1 q.2) :: mi_lm G r).filter _ = mi_lm G (cond (Nat.beq q.1 i || (Nat.beq q.1 (i + 1) || (Nat.beq (q.1 + 1) i && mi_2 q.2))) (mi_s2 i r) (q :: mi_s2 i r))
    rw [List.filter_cons, ih]
    show (if (!(q.1 == i) && (!(q.1 == i + 1) && !(q.1 + 1 == i && (mi_tv G.2.1 q.2).category == 2))) = true then _ else _) = _
    rw [mi_cat2, mi_beq, mi_beq, mi_beq]
    cases Nat.beq q.1 i <;> cases Nat.beq q.1 (i + 1) <;> cases Nat.beq (q.1 + 1) i <;> cases mi_2 q.2 <;> rfl
theorem mi_s1_e (G : mi_G) {i : Nat} {v : mi_V} {ls ls' : List (Nat × mi_V)} (h : (i, v) :: mi_s1 i ls = ls') : (i, mi_tv G.2.1 v) :: (mi_lm G ls).filter (fun q => !(q.1 == i) && !(q.1 + 1 == i && q.2.category == 2)) = mi_lm G ls' := by
  rw [mi_s1_f, ← h]
  rfl
theorem mi_s2_e (G : mi_G) {i : Nat} {v : mi_V} {ls ls' : List (Nat × mi_V)} (h : (i, v) :: mi_s2 i ls = ls') : (i, mi_tv G.2.1 v) :: (mi_lm G ls).filter (fun q => !(q.1 == i) && (!(q.1 == i + 1) && !(q.1 + 1 == i && q.2.category == 2))) = mi_lm G ls' := by
  rw [mi_s2_f, ← h]
  rfl
theorem mi_lm_sub (G : mi_G) {ls ls' : List (Nat × mi_V)} {lsm : Array Slot} {nL : Nat} (h : ls'.all (fun q => ls.any (fun z => decide (z = q))) = true) (hl : lv_has lsm nL (mi_lm G ls)) : lv_has lsm nL (mi_lm G ls') := by
  refine ⟨hl.1, hl.2.1, fun q hq => ?_⟩
  obtain ⟨z, hz, rfl⟩ := List.mem_map.mp hq
  refine hl.2.2 _ (List.mem_map.mpr ⟨z, ?_, rfl⟩)
  obtain ⟨x, hx, e⟩ := List.any_eq_true.mp (List.all_eq_true.mp h z hz)
  rw [← of_decide_eq_true e]
  exact hx
section MX
variable {y : mi_MD} {d pc : Nat} {ls ls' : List (Nat × mi_V)} {st : List mi_V} {mem : mi_M} {Q : Option mi_V → mi_M → Prop}
/-- other locals: each of the new list is among the old -/
theorem x_loc (ls' : List (Nat × mi_V)) (h : ∀ q ∈ ls', q ∈ ls) (kk : mi_X y d pc ls' st mem Q) : mi_X y d pc ls st mem Q := by
  intro p l e R s m args below meth c H locs cells slots Z A G lsm C Rt hP hD hS hl
  refine kk p l e R s m args below meth c H locs cells slots Z A G lsm C Rt hP hD hS ⟨hl.1, hl.2.1, fun q hq => ?_⟩
  obtain ⟨z, hz, rfl⟩ := List.mem_map.mp hq
  exact hl.2.2 _ (List.mem_map.mpr ⟨z, h z hz, rfl⟩)
theorem x_post {Q' : Option mi_V → mi_M → Prop} (h : ∀ r m', Q' r m' → Q r m') (kk : mi_X y d pc ls st mem Q') : mi_X y d pc ls st mem Q := by
  intro p l e R s m args below meth c H locs cells slots Z A G lsm C Rt hP hD hS hl
  exact kk p l e R s m args below meth c H locs cells slots Z A G lsm C (fun r mem pc lsm H locs hQ => Rt r mem pc lsm H locs (h r mem hQ)) hP hD hS hl
theorem x_topi {x : Int32} (kk : ∀ z : Int32, z = x → mi_X y d pc ls (vi z :: st) mem Q) : mi_X y d pc ls (vi x :: st) mem Q := kk x rfl
theorem x_topl {x : Int64} (kk : ∀ z : Int64, z = x → mi_X y d pc ls (vl z :: st) mem Q) : mi_X y d pc ls (vl x :: st) mem Q := kk x rfl
theorem x_mem (kk : ∀ m2 : mi_M, m2 = mem → mi_X y d pc ls st m2 Q) : mi_X y d pc ls st mem Q := kk mem rfl
theorem x_iconst {n : Int} {v : Int32} (hd : decode y.2.1 pc = .ok (.iconst n, 1)) (hv : Int32.ofInt n = v) (kk : mi_X y d (pc + 1) ls (vi v :: st) mem Q) : mi_X y d pc ls (st) mem Q := by
  intro p l e R s m args below meth c H locs cells slots Z A G lsm C Rt hP hD hS hl
  exact lv_iconst C.1 C.2.1 hd hv (kk p l e R s m args below meth c H locs cells slots Z A G lsm C Rt hP hD hS hl)
theorem x_bipush {n : Int} {v : Int32} (hd : decode y.2.1 pc = .ok (.bipush n, 2)) (hv : (Int8.ofInt n).toInt32 = v) (kk : mi_X y d (pc + 2) ls (vi v :: st) mem Q) : mi_X y d pc ls (st) mem Q := by
  intro p l e R s m args below meth c H locs cells slots Z A G lsm C Rt hP hD hS hl
  exact lv_bipush C.1 C.2.1 hd hv (kk p l e R s m args below meth c H locs cells slots Z A G lsm C Rt hP hD hS hl)
theorem x_sipush {n : Int} {v : Int32} (hd : decode y.2.1 pc = .ok (.sipush n, 3)) (hv : (Int16.ofInt n).toInt32 = v) (kk : mi_X y d (pc + 3) ls (vi v :: st) mem Q) : mi_X y d pc ls (st) mem Q := by
  intro p l e R s m args below meth c H locs cells slots Z A G lsm C Rt hP hD hS hl
  exact lv_sipush C.1 C.2.1 hd hv (kk p l e R s m args below meth c H locs cells slots Z A G lsm C Rt hP hD hS hl)
theorem x_lconst {n : Fin 2} {v : Int64} (hd : decode y.2.1 pc = .ok (.lconst n, 1)) (hv : Int64.ofNat (n : Nat) = v) (kk : mi_X y d (pc + 1) ls (vl v :: st) mem Q) : mi_X y d pc ls (st) mem Q := by
  intro p l e R s m args below meth c H locs cells slots Z A G lsm C Rt hP hD hS hl
  exact lv_lconst C.1 C.2.1 hd hv (kk p l e R s m args below meth c H locs cells slots Z A G lsm C Rt hP hD hS hl)
theorem x_iload_n {k : Fin 4} {x : Int32} (hd : decode y.2.1 pc = .ok (.iload_n k, 1)) (h : mi_lk ls (k : Nat) = some (vi x)) (kk : mi_X y d (pc + 1) ls (vi x :: st) mem Q) : mi_X y d pc ls (st) mem Q := by
  intro p l e R s m args below meth c H locs cells slots Z A G lsm C Rt hP hD hS hl
  exact lv_iload_n C.1 C.2.1 hd rfl (mi_lk_has hl h) (kk p l e R s m args below meth c H locs cells slots Z A G lsm C Rt hP hD hS hl)
theorem x_iload {i : Nat} {x : Int32} (hd : decode y.2.1 pc = .ok (.iload i, 2)) (h : mi_lk ls i = some (vi x)) (kk : mi_X y d (pc + 2) ls (vi x :: st) mem Q) : mi_X y d pc ls (st) mem Q := by
  intro p l e R s m args below meth c H locs cells slots Z A G lsm C Rt hP hD hS hl
  exact lv_iload C.1 C.2.1 hd (mi_lk_has hl h) (kk p l e R s m args below meth c H locs cells slots Z A G lsm C Rt hP hD hS hl)
theorem x_lload_n {k : Fin 4} {x : Int64} (hd : decode y.2.1 pc = .ok (.lload_n k, 1)) (h : mi_lk ls (k : Nat) = some (vl x)) (kk : mi_X y d (pc + 1) ls (vl x :: st) mem Q) : mi_X y d pc ls (st) mem Q := by
  intro p l e R s m args below meth c H locs cells slots Z A G lsm C Rt hP hD hS hl
  exact lv_lload_n C.1 C.2.1 hd rfl (mi_lk_has hl h) (kk p l e R s m args below meth c H locs cells slots Z A G lsm C Rt hP hD hS hl)
theorem x_lload {i : Nat} {x : Int64} (hd : decode y.2.1 pc = .ok (.lload i, 2)) (h : mi_lk ls i = some (vl x)) (kk : mi_X y d (pc + 2) ls (vl x :: st) mem Q) : mi_X y d pc ls (st) mem Q := by
  intro p l e R s m args below meth c H locs cells slots Z A G lsm C Rt hP hD hS hl
  exact lv_lload C.1 C.2.1 hd (mi_lk_has hl h) (kk p l e R s m args below meth c H locs cells slots Z A G lsm C Rt hP hD hS hl)
theorem x_aload_n {k : Fin 4} {a b : Nat} (hd : decode y.2.1 pc = .ok (.aload_n k, 1)) (h : mi_lk ls (k : Nat) = some (vr a b)) (kk : mi_X y d (pc + 1) ls (vr a b :: st) mem Q) : mi_X y d pc ls (st) mem Q := by
  intro p l e R s m args below meth c H locs cells slots Z A G lsm C Rt hP hD hS hl
  exact lv_aload_n C.1 C.2.1 hd rfl (mi_lk_has hl h) (kk p l e R s m args below meth c H locs cells slots Z A G lsm C Rt hP hD hS hl)
theorem x_aload {i : Nat} {a b : Nat} (hd : decode y.2.1 pc = .ok (.aload i, 2)) (h : mi_lk ls i = some (vr a b)) (kk : mi_X y d (pc + 2) ls (vr a b :: st) mem Q) : mi_X y d pc ls (st) mem Q := by
  intro p l e R s m args below meth c H locs cells slots Z A G lsm C Rt hP hD hS hl
  exact lv_aload C.1 C.2.1 hd (mi_lk_has hl h) (kk p l e R s m args below meth c H locs cells slots Z A G lsm C Rt hP hD hS hl)
theorem x_istore_n {k : Fin 4} {i : Nat} {x : Int32} (hd : decode y.2.1 pc = .ok (.istore_n k, 1)) (hi : (k : Nat) = i) (hn : Nat.ble (i + 1) y.2.2.1 = true) (hs : (i, vi x) :: mi_s1 i ls = ls') (kk : mi_X y d (pc + 1) ls' st mem Q) : mi_X y d pc ls (vi x :: st) mem Q := by
  intro p l e R s m args below meth c H locs cells slots Z A G lsm C Rt hP hD hS hl
  exact lv_istore_n C.1 C.2.1 hd hi hl (Nat.le_of_ble_eq_true hn) (mi_s1_e G hs) (fun ls2 h2 => (kk p l e R s m args below meth c H locs cells slots Z A G ls2 C Rt hP hD hS h2))
theorem x_istore {i : Nat} {x : Int32} (hd : decode y.2.1 pc = .ok (.istore i, 2)) (hn : Nat.ble (i + 1) y.2.2.1 = true) (hs : (i, vi x) :: mi_s1 i ls = ls') (kk : mi_X y d (pc + 2) ls' st mem Q) : mi_X y d pc ls (vi x :: st) mem Q := by
  intro p l e R s m args below meth c H locs cells slots Z A G lsm C Rt hP hD hS hl
  exact lv_istore C.1 C.2.1 hd hl (Nat.le_of_ble_eq_true hn) (mi_s1_e G hs) (fun ls2 h2 => (kk p l e R s m args below meth c H locs cells slots Z A G ls2 C Rt hP hD hS h2))
theorem x_lstore_n {k : Fin 4} {i : Nat} {x : Int64} (hd : decode y.2.1 pc = .ok (.lstore_n k, 1)) (hi : (k : Nat) = i) (hn : Nat.ble (i + 2) y.2.2.1 = true) (hs : (i, vl x) :: mi_s2 i ls = ls') (kk : mi_X y d (pc + 1) ls' st mem Q) : mi_X y d pc ls (vl x :: st) mem Q := by
  intro p l e R s m args below meth c H locs cells slots Z A G lsm C Rt hP hD hS hl
  exact lv_lstore_n C.1 C.2.1 hd hi hl (Nat.le_of_ble_eq_true hn) (mi_s2_e G hs) (fun ls2 h2 => (kk p l e R s m args below meth c H locs cells slots Z A G ls2 C Rt hP hD hS h2))
theorem x_lstore {i : Nat} {x : Int64} (hd : decode y.2.1 pc = .ok (.lstore i, 2)) (hn : Nat.ble (i + 2) y.2.2.1 = true) (hs : (i, vl x) :: mi_s2 i ls = ls') (kk : mi_X y d (pc + 2) ls' st mem Q) : mi_X y d pc ls (vl x :: st) mem Q := by
  intro p l e R s m args below meth c H locs cells slots Z A G lsm C Rt hP hD hS hl
  exact lv_lstore C.1 C.2.1 hd hl (Nat.le_of_ble_eq_true hn) (mi_s2_e G hs) (fun ls2 h2 => (kk p l e R s m args below meth c H locs cells slots Z A G ls2 C Rt hP hD hS h2))
theorem x_astore_n {k : Fin 4} {i : Nat} {a b : Nat} (hd : decode y.2.1 pc = .ok (.astore_n k, 1)) (hi : (k : Nat) = i) (hn : Nat.ble (i + 1) y.2.2.1 = true) (hs : (i, vr a b) :: mi_s1 i ls = ls') (kk : mi_X y d (pc + 1) ls' st mem Q) : mi_X y d pc ls (vr a b :: st) mem Q := by
  intro p l e R s m args below meth c H locs cells slots Z A G lsm C Rt hP hD hS hl
  exact lv_astore_n C.1 C.2.1 hd hi hl (Nat.le_of_ble_eq_true hn) (mi_s1_e G hs) (fun ls2 h2 => (kk p l e R s m args below meth c H locs cells slots Z A G ls2 C Rt hP hD hS h2))
theorem x_astore {i : Nat} {a b : Nat} (hd : decode y.2.1 pc = .ok (.astore i, 2)) (hn : Nat.ble (i + 1) y.2.2.1 = true) (hs : (i, vr a b) :: mi_s1 i ls = ls') (kk : mi_X y d (pc + 2) ls' st mem Q) : mi_X y d pc ls (vr a b :: st) mem Q := by
  intro p l e R s m args below meth c H locs cells slots Z A G lsm C Rt hP hD hS hl
  exact lv_astore C.1 C.2.1 hd hl (Nat.le_of_ble_eq_true hn) (mi_s1_e G hs) (fun ls2 h2 => (kk p l e R s m args below meth c H locs cells slots Z A G ls2 C Rt hP hD hS h2))
theorem x_iinc {i : Nat} {n : Int} {x v : Int32} (hd : decode y.2.1 pc = .ok (.iinc i n, 3)) (h : mi_lk ls i = some (vi x)) (hv : x + Int32.ofInt n = v) (hn : Nat.ble (i + 1) y.2.2.1 = true) (hs : (i, vi v) :: mi_s1 i ls = ls') (kk : mi_X y d (pc + 3) ls' st mem Q) : mi_X y d pc ls st mem Q := by
  intro p l e R s m args below meth c H locs cells slots Z A G lsm C Rt hP hD hS hl
  obtain ⟨k, hk⟩ := mi_lk_at (G := G) h
  exact lv_iinc C.1 C.2.1 hd hl hk hv (Nat.le_of_ble_eq_true hn) (mi_s1_e G hs) (fun ls2 h2 => (kk p l e R s m args below meth c H locs cells slots Z A G ls2 C Rt hP hD hS h2))
theorem x_iadd {x z : Int32} (hd : decode y.2.1 pc = .ok (.iadd, 1))  (kk : mi_X y d (pc + 1) ls (vi (x + z) :: st) mem Q) : mi_X y d pc ls (vi z :: vi x :: st) mem Q := by
  intro p l e R s m args below meth c H locs cells slots Z A G lsm C Rt hP hD hS hl
  exact lv_iadd C.1 C.2.1 hd  (kk p l e R s m args below meth c H locs cells slots Z A G lsm C Rt hP hD hS hl)
theorem x_isub {x z : Int32} (hd : decode y.2.1 pc = .ok (.isub, 1))  (kk : mi_X y d (pc + 1) ls (vi (x - z) :: st) mem Q) : mi_X y d pc ls (vi z :: vi x :: st) mem Q := by
  intro p l e R s m args below meth c H locs cells slots Z A G lsm C Rt hP hD hS hl
  exact lv_isub C.1 C.2.1 hd  (kk p l e R s m args below meth c H locs cells slots Z A G lsm C Rt hP hD hS hl)
theorem x_imul {x z : Int32} (hd : decode y.2.1 pc = .ok (.imul, 1))  (kk : mi_X y d (pc + 1) ls (vi (x * z) :: st) mem Q) : mi_X y d pc ls (vi z :: vi x :: st) mem Q := by
  intro p l e R s m args below meth c H locs cells slots Z A G lsm C Rt hP hD hS hl
  exact lv_imul C.1 C.2.1 hd  (kk p l e R s m args below meth c H locs cells slots Z A G lsm C Rt hP hD hS hl)
theorem x_iand {x z : Int32} (hd : decode y.2.1 pc = .ok (.iand, 1))  (kk : mi_X y d (pc + 1) ls (vi (x &&& z) :: st) mem Q) : mi_X y d pc ls (vi z :: vi x :: st) mem Q := by
  intro p l e R s m args below meth c H locs cells slots Z A G lsm C Rt hP hD hS hl
  exact lv_iand C.1 C.2.1 hd  (kk p l e R s m args below meth c H locs cells slots Z A G lsm C Rt hP hD hS hl)
theorem x_ior {x z : Int32} (hd : decode y.2.1 pc = .ok (.ior, 1))  (kk : mi_X y d (pc + 1) ls (vi (x ||| z) :: st) mem Q) : mi_X y d pc ls (vi z :: vi x :: st) mem Q := by
  intro p l e R s m args below meth c H locs cells slots Z A G lsm C Rt hP hD hS hl
  exact lv_ior C.1 C.2.1 hd  (kk p l e R s m args below meth c H locs cells slots Z A G lsm C Rt hP hD hS hl)
theorem x_ixor {x z : Int32} (hd : decode y.2.1 pc = .ok (.ixor, 1))  (kk : mi_X y d (pc + 1) ls (vi (x ^^^ z) :: st) mem Q) : mi_X y d pc ls (vi z :: vi x :: st) mem Q := by
  intro p l e R s m args below meth c H locs cells slots Z A G lsm C Rt hP hD hS hl
  exact lv_ixor C.1 C.2.1 hd  (kk p l e R s m args below meth c H locs cells slots Z A G lsm C Rt hP hD hS hl)
theorem x_ishl {x z : Int32} (hd : decode y.2.1 pc = .ok (.ishl, 1))  (kk : mi_X y d (pc + 1) ls (vi (x <<< (z &&& 31)) :: st) mem Q) : mi_X y d pc ls (vi z :: vi x :: st) mem Q := by
  intro p l e R s m args below meth c H locs cells slots Z A G lsm C Rt hP hD hS hl
  exact lv_ishl C.1 C.2.1 hd  (kk p l e R s m args below meth c H locs cells slots Z A G lsm C Rt hP hD hS hl)
theorem x_ishr {x z : Int32} (hd : decode y.2.1 pc = .ok (.ishr, 1))  (kk : mi_X y d (pc + 1) ls (vi (x >>> (z &&& 31)) :: st) mem Q) : mi_X y d pc ls (vi z :: vi x :: st) mem Q := by
  intro p l e R s m args below meth c H locs cells slots Z A G lsm C Rt hP hD hS hl
  exact lv_ishr C.1 C.2.1 hd  (kk p l e R s m args below meth c H locs cells slots Z A G lsm C Rt hP hD hS hl)
theorem x_idiv {x z : Int32} (hd : decode y.2.1 pc = .ok (.idiv, 1)) (hne : ¬ z = 0) (kk : mi_X y d (pc + 1) ls (vi (x / z) :: st) mem Q) : mi_X y d pc ls (vi z :: vi x :: st) mem Q := by
  intro p l e R s m args below meth c H locs cells slots Z A G lsm C Rt hP hD hS hl
  exact lv_idiv C.1 C.2.1 hd hne (kk p l e R s m args below meth c H locs cells slots Z A G lsm C Rt hP hD hS hl)
theorem x_irem {x z : Int32} (hd : decode y.2.1 pc = .ok (.irem, 1)) (hne : ¬ z = 0) (kk : mi_X y d (pc + 1) ls (vi (x - x / z * z) :: st) mem Q) : mi_X y d pc ls (vi z :: vi x :: st) mem Q := by
  intro p l e R s m args below meth c H locs cells slots Z A G lsm C Rt hP hD hS hl
  exact lv_irem C.1 C.2.1 hd hne (kk p l e R s m args below meth c H locs cells slots Z A G lsm C Rt hP hD hS hl)
theorem x_iushr {x z v : Int32} (hd : decode y.2.1 pc = .ok (.iushr, 1)) (hv : (x.toUInt32 >>> (z.toUInt32 &&& Int32.toUInt32 31)).toInt32 = v) (kk : mi_X y d (pc + 1) ls (vi v :: st) mem Q) : mi_X y d pc ls (vi z :: vi x :: st) mem Q := by
  intro p l e R s m args below meth c H locs cells slots Z A G lsm C Rt hP hD hS hl
  exact lv_iushr C.1 C.2.1 hd hv (kk p l e R s m args below meth c H locs cells slots Z A G lsm C Rt hP hD hS hl)
theorem x_ineg {x : Int32} (hd : decode y.2.1 pc = .ok (.ineg, 1))  (kk : mi_X y d (pc + 1) ls (vi (-x) :: st) mem Q) : mi_X y d pc ls (vi x :: st) mem Q := by
  intro p l e R s m args below meth c H locs cells slots Z A G lsm C Rt hP hD hS hl
  exact lv_ineg C.1 C.2.1 hd  (kk p l e R s m args below meth c H locs cells slots Z A G lsm C Rt hP hD hS hl)
theorem x_ladd {x z : Int64} (hd : decode y.2.1 pc = .ok (.ladd, 1))  (kk : mi_X y d (pc + 1) ls (vl (x + z) :: st) mem Q) : mi_X y d pc ls (vl z :: vl x :: st) mem Q := by
  intro p l e R s m args below meth c H locs cells slots Z A G lsm C Rt hP hD hS hl
  exact lv_ladd C.1 C.2.1 hd  (kk p l e R s m args below meth c H locs cells slots Z A G lsm C Rt hP hD hS hl)
theorem x_lsub {x z : Int64} (hd : decode y.2.1 pc = .ok (.lsub, 1))  (kk : mi_X y d (pc + 1) ls (vl (x - z) :: st) mem Q) : mi_X y d pc ls (vl z :: vl x :: st) mem Q := by
  intro p l e R s m args below meth c H locs cells slots Z A G lsm C Rt hP hD hS hl
  exact lv_lsub C.1 C.2.1 hd  (kk p l e R s m args below meth c H locs cells slots Z A G lsm C Rt hP hD hS hl)
theorem x_lmul {x z : Int64} (hd : decode y.2.1 pc = .ok (.lmul, 1))  (kk : mi_X y d (pc + 1) ls (vl (x * z) :: st) mem Q) : mi_X y d pc ls (vl z :: vl x :: st) mem Q := by
  intro p l e R s m args below meth c H locs cells slots Z A G lsm C Rt hP hD hS hl
  exact lv_lmul C.1 C.2.1 hd  (kk p l e R s m args below meth c H locs cells slots Z A G lsm C Rt hP hD hS hl)
theorem x_land {x z : Int64} (hd : decode y.2.1 pc = .ok (.land, 1))  (kk : mi_X y d (pc + 1) ls (vl (x &&& z) :: st) mem Q) : mi_X y d pc ls (vl z :: vl x :: st) mem Q := by
  intro p l e R s m args below meth c H locs cells slots Z A G lsm C Rt hP hD hS hl
  exact lv_land C.1 C.2.1 hd  (kk p l e R s m args below meth c H locs cells slots Z A G lsm C Rt hP hD hS hl)
theorem x_lor {x z : Int64} (hd : decode y.2.1 pc = .ok (.lor, 1))  (kk : mi_X y d (pc + 1) ls (vl (x ||| z) :: st) mem Q) : mi_X y d pc ls (vl z :: vl x :: st) mem Q := by
  intro p l e R s m args below meth c H locs cells slots Z A G lsm C Rt hP hD hS hl
  exact lv_lor C.1 C.2.1 hd  (kk p l e R s m args below meth c H locs cells slots Z A G lsm C Rt hP hD hS hl)
theorem x_lxor {x z : Int64} (hd : decode y.2.1 pc = .ok (.lxor, 1))  (kk : mi_X y d (pc + 1) ls (vl (x ^^^ z) :: st) mem Q) : mi_X y d pc ls (vl z :: vl x :: st) mem Q := by
  intro p l e R s m args below meth c H locs cells slots Z A G lsm C Rt hP hD hS hl
  exact lv_lxor C.1 C.2.1 hd  (kk p l e R s m args below meth c H locs cells slots Z A G lsm C Rt hP hD hS hl)
theorem x_ldiv {x z : Int64} (hd : decode y.2.1 pc = .ok (.ldiv, 1)) (hne : ¬ z = 0) (kk : mi_X y d (pc + 1) ls (vl (x / z) :: st) mem Q) : mi_X y d pc ls (vl z :: vl x :: st) mem Q := by
  intro p l e R s m args below meth c H locs cells slots Z A G lsm C Rt hP hD hS hl
  exact lv_ldiv C.1 C.2.1 hd hne (kk p l e R s m args below meth c H locs cells slots Z A G lsm C Rt hP hD hS hl)
theorem x_lrem {x z : Int64} (hd : decode y.2.1 pc = .ok (.lrem, 1)) (hne : ¬ z = 0) (kk : mi_X y d (pc + 1) ls (vl (x - x / z * z) :: st) mem Q) : mi_X y d pc ls (vl z :: vl x :: st) mem Q := by
  intro p l e R s m args below meth c H locs cells slots Z A G lsm C Rt hP hD hS hl
  exact lv_lrem C.1 C.2.1 hd hne (kk p l e R s m args below meth c H locs cells slots Z A G lsm C Rt hP hD hS hl)
theorem x_lushr {x v : Int64} {z : Int32} (hd : decode y.2.1 pc = .ok (.lushr, 1)) (hv : (x.toUInt64 >>> (z.toInt64.toUInt64 &&& Int64.toUInt64 63)).toInt64 = v) (kk : mi_X y d (pc + 1) ls (vl v :: st) mem Q) : mi_X y d pc ls (vi z :: vl x :: st) mem Q := by
  intro p l e R s m args below meth c H locs cells slots Z A G lsm C Rt hP hD hS hl
  exact lv_lushr C.1 C.2.1 hd hv (kk p l e R s m args below meth c H locs cells slots Z A G lsm C Rt hP hD hS hl)
theorem x_lshl {x v : Int64} {z : Int32} (hd : decode y.2.1 pc = .ok (.lshl, 1)) (hv : x <<< (z.toInt64 &&& 63) = v) (kk : mi_X y d (pc + 1) ls (vl v :: st) mem Q) : mi_X y d pc ls (vi z :: vl x :: st) mem Q := by
  intro p l e R s m args below meth c H locs cells slots Z A G lsm C Rt hP hD hS hl
  exact lv_lshl C.1 C.2.1 hd hv (kk p l e R s m args below meth c H locs cells slots Z A G lsm C Rt hP hD hS hl)
theorem x_lshr {x v : Int64} {z : Int32} (hd : decode y.2.1 pc = .ok (.lshr, 1)) (hv : x >>> (z.toInt64 &&& 63) = v) (kk : mi_X y d (pc + 1) ls (vl v :: st) mem Q) : mi_X y d pc ls (vi z :: vl x :: st) mem Q := by
  intro p l e R s m args below meth c H locs cells slots Z A G lsm C Rt hP hD hS hl
  exact lv_lshr C.1 C.2.1 hd hv (kk p l e R s m args below meth c H locs cells slots Z A G lsm C Rt hP hD hS hl)
theorem x_i2l {x : Int32} {v : Int64} (hd : decode y.2.1 pc = .ok (.i2l, 1)) (hv : x.toInt64 = v) (kk : mi_X y d (pc + 1) ls (vl v :: st) mem Q) : mi_X y d pc ls (vi x :: st) mem Q := by
  intro p l e R s m args below meth c H locs cells slots Z A G lsm C Rt hP hD hS hl
  exact lv_i2l C.1 C.2.1 hd hv (kk p l e R s m args below meth c H locs cells slots Z A G lsm C Rt hP hD hS hl)
theorem x_l2i {x : Int64} {v : Int32} (hd : decode y.2.1 pc = .ok (.l2i, 1)) (hv : x.toInt32 = v) (kk : mi_X y d (pc + 1) ls (vi v :: st) mem Q) : mi_X y d pc ls (vl x :: st) mem Q := by
  intro p l e R s m args below meth c H locs cells slots Z A G lsm C Rt hP hD hS hl
  exact lv_l2i C.1 C.2.1 hd hv (kk p l e R s m args below meth c H locs cells slots Z A G lsm C Rt hP hD hS hl)
theorem x_i2b {x v : Int32} (hd : decode y.2.1 pc = .ok (.i2b, 1)) (hv : x.toInt8.toInt32 = v) (kk : mi_X y d (pc + 1) ls (vi v :: st) mem Q) : mi_X y d pc ls (vi x :: st) mem Q := by
  intro p l e R s m args below meth c H locs cells slots Z A G lsm C Rt hP hD hS hl
  exact lv_i2b C.1 C.2.1 hd hv (kk p l e R s m args below meth c H locs cells slots Z A G lsm C Rt hP hD hS hl)
theorem x_i2c {x v : Int32} (hd : decode y.2.1 pc = .ok (.i2c, 1)) (hv : (x.toUInt32 % 65536).toInt32 = v) (kk : mi_X y d (pc + 1) ls (vi v :: st) mem Q) : mi_X y d pc ls (vi x :: st) mem Q := by
  intro p l e R s m args below meth c H locs cells slots Z A G lsm C Rt hP hD hS hl
  exact lv_i2c C.1 C.2.1 hd hv (kk p l e R s m args below meth c H locs cells slots Z A G lsm C Rt hP hD hS hl)
theorem x_lcmp {x z : Int64} (hd : decode y.2.1 pc = .ok (.lcmp, 1)) (kk : mi_X y d (pc + 1) ls (vi (lg_cmp x z) :: st) mem Q) : mi_X y d pc ls (vl z :: vl x :: st) mem Q := by
  intro p l e R s m args below meth c H locs cells slots Z A G lsm C Rt hP hD hS hl
  exact W.lcmp C.1 C.2.1 hd (kk p l e R s m args below meth c H locs cells slots Z A G lsm C Rt hP hD hS hl)
theorem mi_c1 {G : mi_G} {v : mi_V} (h : mi_2 v = false) : (mi_tv G.2.1 v).category = 1 := by rw [mi_cat, h]; rfl
theorem mi_cw {G : mi_G} {v : mi_V} (h : mi_2 v = true) : (mi_tv G.2.1 v).category = 2 := by rw [mi_cat, h]; rfl
theorem x_dup {v : mi_V} (hd : decode y.2.1 pc = .ok (.dup, 1)) (h : mi_2 v = false) (kk : mi_X y d (pc + 1) ls (v :: v :: st) mem Q) : mi_X y d pc ls (v :: st) mem Q := by
  intro p l e R s m args below meth c H locs cells slots Z A G lsm C Rt hP hD hS hl
  exact lv_dup C.1 C.2.1 hd (mi_c1 h) (kk p l e R s m args below meth c H locs cells slots Z A G lsm C Rt hP hD hS hl)
theorem x_pop {v : mi_V} (hd : decode y.2.1 pc = .ok (.pop, 1)) (h : mi_2 v = false) (kk : mi_X y d (pc + 1) ls (st) mem Q) : mi_X y d pc ls (v :: st) mem Q := by
  intro p l e R s m args below meth c H locs cells slots Z A G lsm C Rt hP hD hS hl
  exact lv_pop C.1 C.2.1 hd (mi_c1 h) (kk p l e R s m args below meth c H locs cells slots Z A G lsm C Rt hP hD hS hl)
theorem x_dup2 {v u : mi_V} (hd : decode y.2.1 pc = .ok (.dup2, 1)) (h : mi_2 v = false) (h2 : mi_2 u = false) (kk : mi_X y d (pc + 1) ls (v :: u :: v :: u :: st) mem Q) : mi_X y d pc ls (v :: u :: st) mem Q := by
  intro p l e R s m args below meth c H locs cells slots Z A G lsm C Rt hP hD hS hl
  exact lv_dup2_11 C.1 C.2.1 hd (mi_c1 h) (mi_c1 h2) (kk p l e R s m args below meth c H locs cells slots Z A G lsm C Rt hP hD hS hl)
theorem x_dup2w {v : mi_V} (hd : decode y.2.1 pc = .ok (.dup2, 1)) (h : mi_2 v = true) (kk : mi_X y d (pc + 1) ls (v :: v :: st) mem Q) : mi_X y d pc ls (v :: st) mem Q := by
  intro p l e R s m args below meth c H locs cells slots Z A G lsm C Rt hP hD hS hl
  exact lv_dup2_2 C.1 C.2.1 hd (mi_cw h) (kk p l e R s m args below meth c H locs cells slots Z A G lsm C Rt hP hD hS hl)
theorem x_if_eq {x : Int32} {off : Int} {tgt : Nat} (hd : decode y.2.1 pc = .ok (.ifCond .eq off, 3)) (ht : (pc : Int) + off = (tgt : Int)) (kt : x = 0 → mi_X y d tgt ls st mem Q) (kf : ¬ x = 0 → mi_X y d (pc + 3) ls st mem Q) : mi_X y d pc ls (vi x :: st) mem Q := by
  intro p l e R s m args below meth c H locs cells slots Z A G lsm C Rt hP hD hS hl
  exact lv_if_eq C.1 C.2.1 hd ht (fun h => (kt h p l e R s m args below meth c H locs cells slots Z A G lsm C Rt hP hD hS hl)) (fun h => (kf h p l e R s m args below meth c H locs cells slots Z A G lsm C Rt hP hD hS hl))
theorem x_icmp_eq {x z : Int32} {off : Int} {tgt : Nat} (hd : decode y.2.1 pc = .ok (.if_icmp .eq off, 3)) (ht : (pc : Int) + off = (tgt : Int)) (kt : x = z → mi_X y d tgt ls st mem Q) (kf : ¬ x = z → mi_X y d (pc + 3) ls st mem Q) : mi_X y d pc ls (vi z :: vi x :: st) mem Q := by
  intro p l e R s m args below meth c H locs cells slots Z A G lsm C Rt hP hD hS hl
  exact lv_icmp_eq C.1 C.2.1 hd ht (fun h => (kt h p l e R s m args below meth c H locs cells slots Z A G lsm C Rt hP hD hS hl)) (fun h => (kf h p l e R s m args below meth c H locs cells slots Z A G lsm C Rt hP hD hS hl))
theorem x_if_ne {x : Int32} {off : Int} {tgt : Nat} (hd : decode y.2.1 pc = .ok (.ifCond .ne off, 3)) (ht : (pc : Int) + off = (tgt : Int)) (kt : ¬ x = 0 → mi_X y d tgt ls st mem Q) (kf : x = 0 → mi_X y d (pc + 3) ls st mem Q) : mi_X y d pc ls (vi x :: st) mem Q := by
  intro p l e R s m args below meth c H locs cells slots Z A G lsm C Rt hP hD hS hl
  exact lv_if_ne C.1 C.2.1 hd ht (fun h => (kt h p l e R s m args below meth c H locs cells slots Z A G lsm C Rt hP hD hS hl)) (fun h => (kf h p l e R s m args below meth c H locs cells slots Z A G lsm C Rt hP hD hS hl))
theorem x_icmp_ne {x z : Int32} {off : Int} {tgt : Nat} (hd : decode y.2.1 pc = .ok (.if_icmp .ne off, 3)) (ht : (pc : Int) + off = (tgt : Int)) (kt : ¬ x = z → mi_X y d tgt ls st mem Q) (kf : x = z → mi_X y d (pc + 3) ls st mem Q) : mi_X y d pc ls (vi z :: vi x :: st) mem Q := by
  intro p l e R s m args below meth c H locs cells slots Z A G lsm C Rt hP hD hS hl
  exact lv_icmp_ne C.1 C.2.1 hd ht (fun h => (kt h p l e R s m args below meth c H locs cells slots Z A G lsm C Rt hP hD hS hl)) (fun h => (kf h p l e R s m args below meth c H locs cells slots Z A G lsm C Rt hP hD hS hl))
theorem x_if_lt {x : Int32} {off : Int} {tgt : Nat} (hd : decode y.2.1 pc = .ok (.ifCond .lt off, 3)) (ht : (pc : Int) + off = (tgt : Int)) (kt : x < 0 → mi_X y d tgt ls st mem Q) (kf : ¬ x < 0 → mi_X y d (pc + 3) ls st mem Q) : mi_X y d pc ls (vi x :: st) mem Q := by
  intro p l e R s m args below meth c H locs cells slots Z A G lsm C Rt hP hD hS hl
  exact lv_if_lt C.1 C.2.1 hd ht (fun h => (kt h p l e R s m args below meth c H locs cells slots Z A G lsm C Rt hP hD hS hl)) (fun h => (kf h p l e R s m args below meth c H locs cells slots Z A G lsm C Rt hP hD hS hl))
theorem x_icmp_lt {x z : Int32} {off : Int} {tgt : Nat} (hd : decode y.2.1 pc = .ok (.if_icmp .lt off, 3)) (ht : (pc : Int) + off = (tgt : Int)) (kt : x < z → mi_X y d tgt ls st mem Q) (kf : ¬ x < z → mi_X y d (pc + 3) ls st mem Q) : mi_X y d pc ls (vi z :: vi x :: st) mem Q := by
  intro p l e R s m args below meth c H locs cells slots Z A G lsm C Rt hP hD hS hl
  exact lv_icmp_lt C.1 C.2.1 hd ht (fun h => (kt h p l e R s m args below meth c H locs cells slots Z A G lsm C Rt hP hD hS hl)) (fun h => (kf h p l e R s m args below meth c H locs cells slots Z A G lsm C Rt hP hD hS hl))
theorem x_if_ge {x : Int32} {off : Int} {tgt : Nat} (hd : decode y.2.1 pc = .ok (.ifCond .ge off, 3)) (ht : (pc : Int) + off = (tgt : Int)) (kt : 0 ≤ x → mi_X y d tgt ls st mem Q) (kf : ¬ 0 ≤ x → mi_X y d (pc + 3) ls st mem Q) : mi_X y d pc ls (vi x :: st) mem Q := by
  intro p l e R s m args below meth c H locs cells slots Z A G lsm C Rt hP hD hS hl
  exact lv_if_ge C.1 C.2.1 hd ht (fun h => (kt h p l e R s m args below meth c H locs cells slots Z A G lsm C Rt hP hD hS hl)) (fun h => (kf h p l e R s m args below meth c H locs cells slots Z A G lsm C Rt hP hD hS hl))
theorem x_icmp_ge {x z : Int32} {off : Int} {tgt : Nat} (hd : decode y.2.1 pc = .ok (.if_icmp .ge off, 3)) (ht : (pc : Int) + off = (tgt : Int)) (kt : z ≤ x → mi_X y d tgt ls st mem Q) (kf : ¬ z ≤ x → mi_X y d (pc + 3) ls st mem Q) : mi_X y d pc ls (vi z :: vi x :: st) mem Q := by
  intro p l e R s m args below meth c H locs cells slots Z A G lsm C Rt hP hD hS hl
  exact lv_icmp_ge C.1 C.2.1 hd ht (fun h => (kt h p l e R s m args below meth c H locs cells slots Z A G lsm C Rt hP hD hS hl)) (fun h => (kf h p l e R s m args below meth c H locs cells slots Z A G lsm C Rt hP hD hS hl))
theorem x_if_gt {x : Int32} {off : Int} {tgt : Nat} (hd : decode y.2.1 pc = .ok (.ifCond .gt off, 3)) (ht : (pc : Int) + off = (tgt : Int)) (kt : 0 < x → mi_X y d tgt ls st mem Q) (kf : ¬ 0 < x → mi_X y d (pc + 3) ls st mem Q) : mi_X y d pc ls (vi x :: st) mem Q := by
  intro p l e R s m args below meth c H locs cells slots Z A G lsm C Rt hP hD hS hl
  exact lv_if_gt C.1 C.2.1 hd ht (fun h => (kt h p l e R s m args below meth c H locs cells slots Z A G lsm C Rt hP hD hS hl)) (fun h => (kf h p l e R s m args below meth c H locs cells slots Z A G lsm C Rt hP hD hS hl))
theorem x_icmp_gt {x z : Int32} {off : Int} {tgt : Nat} (hd : decode y.2.1 pc = .ok (.if_icmp .gt off, 3)) (ht : (pc : Int) + off = (tgt : Int)) (kt : z < x → mi_X y d tgt ls st mem Q) (kf : ¬ z < x → mi_X y d (pc + 3) ls st mem Q) : mi_X y d pc ls (vi z :: vi x :: st) mem Q := by
  intro p l e R s m args below meth c H locs cells slots Z A G lsm C Rt hP hD hS hl
  exact lv_icmp_gt C.1 C.2.1 hd ht (fun h => (kt h p l e R s m args below meth c H locs cells slots Z A G lsm C Rt hP hD hS hl)) (fun h => (kf h p l e R s m args below meth c H locs cells slots Z A G lsm C Rt hP hD hS hl))
theorem x_if_le {x : Int32} {off : Int} {tgt : Nat} (hd : decode y.2.1 pc = .ok (.ifCond .le off, 3)) (ht : (pc : Int) + off = (tgt : Int)) (kt : x ≤ 0 → mi_X y d tgt ls st mem Q) (kf : ¬ x ≤ 0 → mi_X y d (pc + 3) ls st mem Q) : mi_X y d pc ls (vi x :: st) mem Q := by
  intro p l e R s m args below meth c H locs cells slots Z A G lsm C Rt hP hD hS hl
  exact lv_if_le C.1 C.2.1 hd ht (fun h => (kt h p l e R s m args below meth c H locs cells slots Z A G lsm C Rt hP hD hS hl)) (fun h => (kf h p l e R s m args below meth c H locs cells slots Z A G lsm C Rt hP hD hS hl))
theorem x_icmp_le {x z : Int32} {off : Int} {tgt : Nat} (hd : decode y.2.1 pc = .ok (.if_icmp .le off, 3)) (ht : (pc : Int) + off = (tgt : Int)) (kt : x ≤ z → mi_X y d tgt ls st mem Q) (kf : ¬ x ≤ z → mi_X y d (pc + 3) ls st mem Q) : mi_X y d pc ls (vi z :: vi x :: st) mem Q := by
  intro p l e R s m args below meth c H locs cells slots Z A G lsm C Rt hP hD hS hl
  exact lv_icmp_le C.1 C.2.1 hd ht (fun h => (kt h p l e R s m args below meth c H locs cells slots Z A G lsm C Rt hP hD hS hl)) (fun h => (kf h p l e R s m args below meth c H locs cells slots Z A G lsm C Rt hP hD hS hl))
theorem x_goto {off : Int} {tgt : Nat} (hd : decode y.2.1 pc = .ok (.goto off, 3)) (ht : (pc : Int) + off = (tgt : Int)) (kk : mi_X y d tgt ls st mem Q) : mi_X y d pc ls st mem Q := by
  intro p l e R s m args below meth c H locs cells slots Z A G lsm C Rt hP hD hS hl
  exact lv_goto C.1 C.2.1 hd ht (kk p l e R s m args below meth c H locs cells slots Z A G lsm C Rt hP hD hS hl)
theorem x_tableOut {dflt lo hi : Int} {offs : Array Int} {len : Nat} {x : Int32} {tgt : Nat} (hd : decode y.2.1 pc = .ok (.tableswitch dflt lo hi offs, len)) (h : x.toInt < lo ∨ hi < x.toInt) (ht : (pc : Int) + dflt = (tgt : Int)) (kk : mi_X y d tgt ls st mem Q) : mi_X y d pc ls (vi x :: st) mem Q := by
  intro p l e R s m args below meth c H locs cells slots Z A G lsm C Rt hP hD hS hl
  exact lv_tableOut C.1 C.2.1 hd h ht (kk p l e R s m args below meth c H locs cells slots Z A G lsm C Rt hP hD hS hl)
theorem x_tableIn {dflt lo hi : Int} {offs : Array Int} {len : Nat} {x : Int32} {off : Int} {tgt : Nat} (hd : decode y.2.1 pc = .ok (.tableswitch dflt lo hi offs, len)) (h1 : ¬ x.toInt < lo) (h2 : ¬ hi < x.toInt) (ho : offs[(x.toInt - lo).toNat]? = some off) (ht : (pc : Int) + off = (tgt : Int)) (kk : mi_X y d tgt ls st mem Q) : mi_X y d pc ls (vi x :: st) mem Q := by
  intro p l e R s m args below meth c H locs cells slots Z A G lsm C Rt hP hD hS hl
  exact lv_tableIn C.1 C.2.1 hd h1 h2 ho ht (kk p l e R s m args below meth c H locs cells slots Z A G lsm C Rt hP hD hS hl)
theorem x_lookup {dflt : Int} {ps : Array (Int × Int)} {len : Nat} {x : Int32} {off : Int} {tgt : Nat} (hd : decode y.2.1 pc = .ok (.lookupswitch dflt ps, len)) (hp : (ps.toList.zip (ps.toList.drop 1)).all (fun (a, next) => a.1 < next.1) = true) (ho : Op.lookupswitch.offset ps.toList dflt x.toInt = off) (ht : (pc : Int) + off = (tgt : Int)) (kk : mi_X y d tgt ls st mem Q) : mi_X y d pc ls (vi x :: st) mem Q := by
  intro p l e R s m args below meth c H locs cells slots Z A G lsm C Rt hP hD hS hl
  exact lv_lookup C.1 C.2.1 hd hp ho ht (kk p l e R s m args below meth c H locs cells slots Z A G lsm C Rt hP hD hS hl)
theorem x_ldc {index : Nat} {v : Int32} (hd : decode y.2.1 pc = .ok (.ldc index, 2)) (hc : Cond.constant y.1.cls index v ∈ mi_T) (kk : mi_X y d (pc + 2) ls (vi v :: st) mem Q) : mi_X y d pc ls st mem Q := by
  intro p l e R s m args below meth c H locs cells slots Z A G lsm C Rt hP hD hS hl
  exact lv_ldc C.1 C.2.1 C.2.2.2.2.2.1 (C.2.2.2.2.2.2.1 _ hc) hd (kk p l e R s m args below meth c H locs cells slots Z A G lsm C Rt hP hD hS hl)
theorem x_ldcw {index : Nat} {v : Int32} (hd : decode y.2.1 pc = .ok (.ldc_w index, 3)) (hc : Cond.constant y.1.cls index v ∈ mi_T) (kk : mi_X y d (pc + 3) ls (vi v :: st) mem Q) : mi_X y d pc ls st mem Q := by
  intro p l e R s m args below meth c H locs cells slots Z A G lsm C Rt hP hD hS hl
  exact lv_ldcw C.1 C.2.1 C.2.2.2.2.2.1 (C.2.2.2.2.2.2.1 _ hc) hd (kk p l e R s m args below meth c H locs cells slots Z A G lsm C Rt hP hD hS hl)
theorem x_ldc2 {index : Nat} {v : Int64} (hd : decode y.2.1 pc = .ok (.ldc2_w index, 3)) (hc : Cond.constantLong y.1.cls index v ∈ mi_T) (kk : mi_X y d (pc + 3) ls (vl v :: st) mem Q) : mi_X y d pc ls st mem Q := by
  intro p l e R s m args below meth c H locs cells slots Z A G lsm C Rt hP hD hS hl
  exact lv_ldc2 C.1 C.2.1 C.2.2.2.2.2.1 (C.2.2.2.2.2.2.1 _ hc) hd (kk p l e R s m args below meth c H locs cells slots Z A G lsm C Rt hP hD hS hl)
theorem x_ldcS {index n : Nat} {tx : String} (hd : decode y.2.1 pc = .ok (.ldc index, 2)) (hc : (y.1.cls, index, tx, n) ∈ mi_strs) (kk : mi_X y d (pc + 2) ls (vr 300 n :: st) mem Q) : mi_X y d pc ls st mem Q := by
  intro p l e R s m args below meth c H locs cells slots Z A G lsm C Rt hP hD hS hl
  exact va_ldcS C.1 C.2.1 C.2.2.2.2.2.1 (C.2.2.2.2.2.2.2.2.2.2.2.1 _ hc) hd (kk p l e R s m args below meth c H locs cells slots Z A G lsm C Rt hP hD hS hl)
theorem x_ret (hd : decode y.2.1 pc = .ok (.return_, 1)) (hr : y.2.2.2 = none) (h : Q none mem) : mi_X y d pc ls [] mem Q := by
  intro p l e R s m args below meth c H locs cells slots Z A G lsm C Rt hP hD hS hl
  exact Rt none mem pc lsm H locs h hP hS ⟨hd, hr⟩
theorem x_iret {v : Int32} (hd : decode y.2.1 pc = .ok (.ireturn, 1)) (hr : y.2.2.2 = some .int) (h : Q (some (vi v)) mem) : mi_X y d pc ls [vi v] mem Q := by
  intro p l e R s m args below meth c H locs cells slots Z A G lsm C Rt hP hD hS hl
  exact Rt (some (vi v)) mem pc lsm H locs h hP hS ⟨hd, .int, hr, rfl⟩
theorem x_zret {v : Int32} {ty : FieldType} (hd : decode y.2.1 pc = .ok (.ireturn, 1)) (hr : y.2.2.2 = some ty) (hn : narrow ty (.int v) = .int v) (h : Q (some (vi v)) mem) : mi_X y d pc ls [vi v] mem Q := by
  intro p l e R s m args below meth c H locs cells slots Z A G lsm C Rt hP hD hS hl
  exact Rt (some (vi v)) mem pc lsm H locs h hP hS ⟨hd, ty, hr, hn⟩
theorem x_lret {v : Int64} (hd : decode y.2.1 pc = .ok (.lreturn, 1)) (hr : y.2.2.2 = some .long) (h : Q (some (vl v)) mem) : mi_X y d pc ls [vl v] mem Q := by
  intro p l e R s m args below meth c H locs cells slots Z A G lsm C Rt hP hD hS hl
  exact Rt (some (vl v)) mem pc lsm H locs h hP hS ⟨hd, hr⟩
end MX
