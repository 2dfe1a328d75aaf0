/-! ===== constructors: worlds as lists, cells at the heap's end ===== -/
def mi_nestI : List (String × Nat × MethodName × String) := [("PardonLamps", 9, ⟨"PardonLamps$Teller", "<init>", "()V"⟩, "PardonLamps"), ("PardonLamps$Teller", 11, ⟨"PardonLamps$Tape", "<init>", "()V"⟩, "PardonLamps"), ("PardonLamps", 18, ⟨"PardonLamps$State", "<init>", "()V"⟩, "PardonLamps"), ("PardonLamps$Past", 26, ⟨"PardonLamps$State", "<init>", "()V"⟩, "PardonLamps"), ("PardonLamps$Past", 27, ⟨"PardonLamps$Sights", "<init>", "()V"⟩, "PardonLamps"), ("PardonLamps", 32, ⟨"PardonLamps$Sights", "<init>", "()V"⟩, "PardonLamps"), ("PardonLamps$Forecast", 11, ⟨"PardonLamps$State", "<init>", "()V"⟩, "PardonLamps"), ("PardonLamps", 46, ⟨"PardonLamps$Lighter", "<init>", "()V"⟩, "PardonLamps"), ("PardonLamps", 53, ⟨"PardonLamps$Town", "<init>", "()V"⟩, "PardonLamps"), ("PardonLamps$Town", 33, ⟨"PardonLamps$Laws", "<init>", "()V"⟩, "PardonLamps"), ("PardonLamps$Town", 40, ⟨"PardonLamps$Ways", "<init>", "()V"⟩, "PardonLamps"), ("PardonLamps", 63, ⟨"PardonLamps$Year", "<init>", "()V"⟩, "PardonLamps")]
def mi_Nx (s : State) : Prop := (∀ q ∈ mi_nestI, va_Nw (.methodLinkNest q.1 q.2.1 q.2.2.1 q.2.2.2) s) ∧ va_AO "PardonLamps$State" s ∧ va_AO "PardonLamps$Sights" s ∧ (Cond.arrayOver (.array .int)).before #[] s = true
def mi_Kx (G : mi_G) (y : mi_MD) (d mc ms sz0 : Nat) (p : Program) (R : Room) (s : State) (m : MethodId) (args : Array Value) (meth : Method) (c : Code) (A : Nat → Prop) : Prop :=
  p.tables.exec = Jvm.exec ∧ c.code = y.2.1 ∧ c.maxLocals = y.2.2.1 ∧ meth.sig.returnType = none ∧ meth.locks = false ∧ s.vm.findClass y.1.cls = some m.cls ∧ (∀ w ∈ mi_T, w.before args s = true) ∧ va_K G.1 vwCl (mi_tys G) s ∧ (∀ q, s.heap.size ≤ q → A q) ∧ (d ≤ R.frames ∧ 64 * d ≤ R.locals ∧ mc ≤ R.cells ∧ ms ≤ R.slots) ∧ meth.name = "<init>" ∧ mi_Nx s ∧ mi_St G A s ∧ s.heap.size = sz0
def mi_Rz (G : mi_G) (y : mi_MD) (mc ms sz0 : Nat) (p : Program) (l : Launch) (e : Env) (R : Room) (s : State) (m : MethodId) (args : Array Value) (below : List Frame) (meth : Method) (c : Code) (Z : State → Prop) (A : Nat → Prop) (Q : va_W → Prop) : Prop :=
  ∀ (ws : va_W) (pc : Nat) (lsm : Array Slot) (H : Heap) (locs : List Loc), Q ws → H.size = sz0 + mc → va_P G.1 vwCl ws H → va_D A ws → va_S A s.heap H locs → decode y.2.1 pc = .ok (.return_, 1) → W p l e R s m args below meth c H locs mc ms Z (F0 m pc lsm [])
/-- from pc on the constructor comes to its end with a world that Q holds of; mc cells of ms slots in all -/
def mi_Z (G : mi_G) (y : mi_MD) (d mc ms sz0 : Nat) (Q : va_W → Prop) (pc : Nat) (ls : List (Nat × Value)) (st : List Value) (ws : va_W) (sz nc ns : Nat) : Prop :=
  ∀ (p : Program) (l : Launch) (e : Env) (R : Room) (s : State) (m : MethodId) (args : Array Value) (below : List Frame) (meth : Method) (c : Code) (H : Heap) (locs : List Loc) (Z : State → Prop) (A : Nat → Prop) (lsm : Array Slot),
    mi_Kx G y d mc ms sz0 p R s m args meth c A → mi_Rz G y mc ms sz0 p l e R s m args below meth c Z A Q → va_P G.1 vwCl ws H → va_D A ws → va_S A s.heap H locs → H.size = sz → lv_has lsm y.2.2.1 ls →
      W p l e R s m args below meth c H locs nc ns Z (F0 m pc lsm st)
abbrev mi_rI (d mc ms : Nat) : Room := { frames := d, cells := mc, slots := ms, locals := 64 * d }
def mi_Wc (G : mi_G) (pre : va_W) (sz : Nat) (U : State) : Prop := U.heap.size = sz ∧ va_P G.1 vwCl pre U.heap ∧ va_K G.1 vwCl (mi_tys G) U ∧ va_D (fun _ => True) pre ∧ mi_Nx U ∧ mi_St G (va_A pre sz) U
def mi_QI (G : mi_G) (pre : va_W) (sz mc : Nat) (post : va_W) : Array Value → State → Outcome → State → Prop := fun _ st oc t =>
  (oc = .returned none ∧ t.heap.size = sz + mc ∧ va_P G.1 vwCl post t.heap ∧ va_D (va_A pre sz) post) ∧ va_F (va_A pre sz) st t
/-- a constructor's contract: out of the world pre, at a heap of sz cells, the world post -/
def mi_CI (G : mi_G) (d : Nat) (y : mi_MD) (h0 : Nat) (pre : va_W) (sz : Nat) (post : va_W) (mc ms : Nat) : Prop :=
  ∀ l : Launch, Met l y.1 (mi_yw y) (mi_rI d mc ms) (va_Pc [.ref h0] (mi_Wc G pre sz)) (mi_QI G pre sz mc post) mc ms (va_A pre sz)
theorem mi_Nx.moved {s U : State} (hW : s.WarmedH U.vm) (h : mi_Nx s) : mi_Nx U := by
  obtain ⟨h1, h2, h3, h4⟩ := h
  exact ⟨fun q hq => va_Nw.warmM hW (h1 q hq), va_AO.moved hW.alike h2, va_AO.moved hW.alike h3, over_moved (a := #[]) (a' := #[]) hW.alike h4⟩
theorem mi_Nx.calling {U : State} {g : JFrame} {mk : MethodId} {a : Array Value} (h : mi_Nx U) : mi_Nx (U.calling g mk a) := by
  obtain ⟨h1, h2, h3, h4⟩ := h
  exact ⟨fun q hq => va_Nw.same (u := U) rfl rfl (h1 q hq), va_AO.moved (Vm.Alike.refl U.vm) h2, va_AO.moved (Vm.Alike.refl U.vm) h3, over_moved (a := #[]) (a' := #[]) (u := U) (Vm.Alike.refl U.vm) h4⟩
theorem mi_CI_intro {G : mi_G} {d : Nat} {y : mi_MD} {h0 : Nat} {pre post : va_W} {sz mc ms : Nat} (hy : plainName y.1.cls = true) (hn : y.1.name = "<init>") (hr0 : y.2.2.2 = none) (hL : 1 ≤ y.2.2.1) (h : mi_Z G y d mc ms sz (fun ws => ws = post) 0 [(0, .ref h0)] [] pre sz 0 0) : mi_CI G d y h0 pre sz post mc ms := by
  intro l
  refine Met.ofW (cc := y.2.1) (maxL := y.2.2.1) (ret := y.2.2.2) hy rfl ?_
  intro p e s m args below meth c s₁ B hml hv
  obtain ⟨rfl, hsz', hP, hK, hD0, hN, hSt⟩ := hv
  have hts := atoms_spec (ws := mi_yw y) B.pre
  have hown : s.vm.findClass y.1.cls = some m.cls := findClass_of_methodNamed B.named
  have hin : meth.name = "<init>" := (name_of_methodNamed B.named B.method).1.trans hn
  have hD := hD0.self (sz := sz)
  have hS : va_S (va_A pre sz) s.heap s.heap [] := va_S.rf
  have hl := lv_entry ([.ref h0]) (n := y.2.2.1) hL
  rw [lg_entry_eq]
  have hr : meth.sig.returnType = none := B.returns.trans hr0
  have hlocks := B.notSynchronized
  refine h p l e _ s m _ below meth c s.heap [] _ (va_A pre sz) _ ⟨B.exec, B.bytes, hml, hr, hlocks, hown, fun w hw => hts w (List.mem_cons_of_mem _ hw), hK, fun q hq => Or.inr (by rw [← hsz']; exact hq), ⟨Nat.le_refl _, Nat.le_refl _, Nat.le_refl _, Nat.le_refl _⟩, hin, hN, hSt, hsz'⟩ ?_ hP hD hS hsz' hl
  intro ws pc lsm H locs hQ hsz2 hP' hD' hS' hd
  subst hQ
  exact W.vret B.exec B.bytes hr (fun t ht hW => ⟨⟨rfl, by rw [ht]; exact hsz2, by rw [ht]; exact hP', hD'⟩, hS'.F ht⟩) hS'.2.2 hd
theorem vr_outer (c : ClassId) (N h0 : Nat) : ∀ i : Nat, Jvm.Free.Multi.outerC c N h0 i = arrV c N (fun j => va_rf (if j < i then some (h0 + 1 + j) else none))
  | 0 => by
    show ({ cls := c, slots := Array.replicate N .null, vm := .none } : Cell) = _
    rw [arrV_new]
    refine congrArg (arrV c N) (funext fun j => ?_)
    simp [va_rf]
  | i + 1 => by
    show (Jvm.Free.Multi.outerC c N h0 i).setSlot i (.ref (h0 + 1 + i)) = _
    rw [vr_outer c N h0 i, arrV_store]
    refine congrArg (arrV c N) (funext fun j => ?_)
    by_cases e : j = i
    · subst e
      simp [updV, va_rf]
    · by_cases h : j < i
      · simp [updV, e, h, Nat.lt_succ_of_lt h]
      · simp [updV, e, h, show ¬ j < i + 1 by omega]
section MZ
variable {G : mi_G} {y : mi_MD} {d mc ms sz0 pc sz nc ns : Nat} {Q : va_W → Prop} {ls ls' : List (Nat × Value)} {st : List Value} {ws : va_W}
theorem z_ret (hd : decode y.2.1 pc = .ok (.return_, 1)) (hc : nc ≤ mc) (hs : ns ≤ ms) (hz2 : sz = sz0 + mc) (h : Q ws) : mi_Z G y d mc ms sz0 Q pc ls [] ws sz nc ns := by
  intro p l e R s m args below meth c H locs Z A lsm C Rt hP hD hS hz hl
  exact W.widen hc hs (Rt ws pc lsm H locs h (hz.trans hz2) hP hD hS hd)
theorem z_iconst {n : Int} {v : Int32} (hd : decode y.2.1 pc = .ok (.iconst n, 1)) (hv : Int32.ofInt n = v) (kk : mi_Z G y d mc ms sz0 Q (pc + 1) ls (.int v :: st) ws sz nc ns) : mi_Z G y d mc ms sz0 Q pc ls (st) ws sz nc ns := by
  intro p l e R s m args below meth c H locs Z A lsm C Rt hP hD hS hz hl
  exact lv_iconst C.1 C.2.1 hd hv (kk p l e R s m args below meth c H locs Z A lsm C Rt hP hD hS hz hl)
theorem z_bipush {n : Int} {v : Int32} (hd : decode y.2.1 pc = .ok (.bipush n, 2)) (hv : (Int8.ofInt n).toInt32 = v) (kk : mi_Z G y d mc ms sz0 Q (pc + 2) ls (.int v :: st) ws sz nc ns) : mi_Z G y d mc ms sz0 Q pc ls (st) ws sz nc ns := by
  intro p l e R s m args below meth c H locs Z A lsm C Rt hP hD hS hz hl
  exact lv_bipush C.1 C.2.1 hd hv (kk p l e R s m args below meth c H locs Z A lsm C Rt hP hD hS hz hl)
theorem z_sipush {n : Int} {v : Int32} (hd : decode y.2.1 pc = .ok (.sipush n, 3)) (hv : (Int16.ofInt n).toInt32 = v) (kk : mi_Z G y d mc ms sz0 Q (pc + 3) ls (.int v :: st) ws sz nc ns) : mi_Z G y d mc ms sz0 Q pc ls (st) ws sz nc ns := by
  intro p l e R s m args below meth c H locs Z A lsm C Rt hP hD hS hz hl
  exact lv_sipush C.1 C.2.1 hd hv (kk p l e R s m args below meth c H locs Z A lsm C Rt hP hD hS hz hl)
theorem z_ldc2 {index : Nat} {v : Int64} (hd : decode y.2.1 pc = .ok (.ldc2_w index, 3)) (hc : Cond.constantLong y.1.cls index v ∈ mi_T) (kk : mi_Z G y d mc ms sz0 Q (pc + 3) ls (.long v :: st) ws sz nc ns) : mi_Z G y d mc ms sz0 Q pc ls (st) ws sz nc ns := by
  intro p l e R s m args below meth c H locs Z A lsm C Rt hP hD hS hz hl
  exact lv_ldc2 C.1 C.2.1 C.2.2.2.2.2.1 (C.2.2.2.2.2.2.1 _ hc) hd (kk p l e R s m args below meth c H locs Z A lsm C Rt hP hD hS hz hl)
theorem z_aload {k : Fin 4} {a : Nat} (hd : decode y.2.1 pc = .ok (.aload_n k, 1)) (q : Nat) (h : ls[q]? = some ((k : Nat), .ref a)) (kk : mi_Z G y d mc ms sz0 Q (pc + 1) ls (.ref a :: st) ws sz nc ns) : mi_Z G y d mc ms sz0 Q pc ls (st) ws sz nc ns := by
  intro p l e R s m args below meth c H locs Z A lsm C Rt hP hD hS hz hl
  exact lv_aload_n C.1 C.2.1 hd rfl (lv_at hl q h) (kk p l e R s m args below meth c H locs Z A lsm C Rt hP hD hS hz hl)
theorem z_iload {k : Fin 4} {x : Int32} (hd : decode y.2.1 pc = .ok (.iload_n k, 1)) (q : Nat) (h : ls[q]? = some ((k : Nat), .int x)) (kk : mi_Z G y d mc ms sz0 Q (pc + 1) ls (.int x :: st) ws sz nc ns) : mi_Z G y d mc ms sz0 Q pc ls (st) ws sz nc ns := by
  intro p l e R s m args below meth c H locs Z A lsm C Rt hP hD hS hz hl
  exact lv_iload_n C.1 C.2.1 hd rfl (lv_at hl q h) (kk p l e R s m args below meth c H locs Z A lsm C Rt hP hD hS hz hl)
theorem z_dup {v : Value} (hd : decode y.2.1 pc = .ok (.dup, 1)) (hv : v.category = 1) (kk : mi_Z G y d mc ms sz0 Q (pc + 1) ls (v :: v :: st) ws sz nc ns) : mi_Z G y d mc ms sz0 Q pc ls (v :: st) ws sz nc ns := by
  intro p l e R s m args below meth c H locs Z A lsm C Rt hP hD hS hz hl
  exact lv_dup C.1 C.2.1 hd hv (kk p l e R s m args below meth c H locs Z A lsm C Rt hP hD hS hz hl)
theorem z_goto {off : Int} {tgt : Nat} (hd : decode y.2.1 pc = .ok (.goto off, 3)) (ht : (pc : Int) + off = (tgt : Int)) (kk : mi_Z G y d mc ms sz0 Q tgt ls st ws sz nc ns) : mi_Z G y d mc ms sz0 Q pc ls st ws sz nc ns := by
  intro p l e R s m args below meth c H locs Z A lsm C Rt hP hD hS hz hl
  exact lv_goto C.1 C.2.1 hd ht (kk p l e R s m args below meth c H locs Z A lsm C Rt hP hD hS hz hl)
theorem z_istore {k : Fin 4} {i : Nat} {x : Int32} (hd : decode y.2.1 pc = .ok (.istore_n k, 1)) (hi : (k : Nat) = i) (hn : Nat.ble (i + 1) y.2.2.1 = true) (hs : (i, Value.int x) :: ls.filter (fun q => !(q.1 == i) && !(q.1 + 1 == i && q.2.category == 2)) = ls') (kk : mi_Z G y d mc ms sz0 Q (pc + 1) ls' st ws sz nc ns) : mi_Z G y d mc ms sz0 Q pc ls (.int x :: st) ws sz nc ns := by
  intro p l e R s m args below meth c H locs Z A lsm C Rt hP hD hS hz hl
  exact lv_istore_n C.1 C.2.1 hd hi hl (Nat.le_of_ble_eq_true hn) hs (fun ls2 h2 => (kk p l e R s m args below meth c H locs Z A ls2 C Rt hP hD hS hz h2))
theorem z_iinc {i q : Nat} {n : Int} {x v : Int32} (hd : decode y.2.1 pc = .ok (.iinc i n, 3)) (hq : ls[q]? = some (i, .int x)) (hv : x + Int32.ofInt n = v) (hn : Nat.ble (i + 1) y.2.2.1 = true) (hs : (i, Value.int v) :: ls.filter (fun q => !(q.1 == i) && !(q.1 + 1 == i && q.2.category == 2)) = ls') (kk : mi_Z G y d mc ms sz0 Q (pc + 3) ls' st ws sz nc ns) : mi_Z G y d mc ms sz0 Q pc ls st ws sz nc ns := by
  intro p l e R s m args below meth c H locs Z A lsm C Rt hP hD hS hz hl
  exact lv_iinc C.1 C.2.1 hd hl hq hv (Nat.le_of_ble_eq_true hn) hs (fun ls2 h2 => (kk p l e R s m args below meth c H locs Z A ls2 C Rt hP hD hS hz h2))
theorem z_icmp_ge {x z : Int32} {off : Int} {tgt : Nat} (hd : decode y.2.1 pc = .ok (.if_icmp .ge off, 3)) (ht : (pc : Int) + off = (tgt : Int)) (kt : z ≤ x → mi_Z G y d mc ms sz0 Q tgt ls st ws sz nc ns) (kf : ¬ z ≤ x → mi_Z G y d mc ms sz0 Q (pc + 3) ls st ws sz nc ns) : mi_Z G y d mc ms sz0 Q pc ls (.int z :: .int x :: st) ws sz nc ns := by
  intro p l e R s m args below meth c H locs Z A lsm C Rt hP hD hS hz hl
  exact lv_icmp_ge C.1 C.2.1 hd ht (fun h => (kt h p l e R s m args below meth c H locs Z A lsm C Rt hP hD hS hz hl)) (fun h => (kf h p l e R s m args below meth c H locs Z A lsm C Rt hP hD hS hz hl))
theorem z_icmp_gt {x z : Int32} {off : Int} {tgt : Nat} (hd : decode y.2.1 pc = .ok (.if_icmp .gt off, 3)) (ht : (pc : Int) + off = (tgt : Int)) (kt : z < x → mi_Z G y d mc ms sz0 Q tgt ls st ws sz nc ns) (kf : ¬ z < x → mi_Z G y d mc ms sz0 Q (pc + 3) ls st ws sz nc ns) : mi_Z G y d mc ms sz0 Q pc ls (.int z :: .int x :: st) ws sz nc ns := by
  intro p l e R s m args below meth c H locs Z A lsm C Rt hP hD hS hz hl
  exact lv_icmp_gt C.1 C.2.1 hd ht (fun h => (kt h p l e R s m args below meth c H locs Z A lsm C Rt hP hD hS hz hl)) (fun h => (kf h p l e R s m args below meth c H locs Z A lsm C Rt hP hD hS hz hl))
theorem z_objInit {idx a : Nat} (hd : decode y.2.1 pc = .ok (.invokespecial idx, 3)) (hlk : Cond.methodLink y.1.cls idx objectInit ∈ mi_T) (hin : Cond.instanceMethod objectInit ∈ mi_T) (hco : Cond.code objectInit ⟨#[0xb1]⟩ 1 none ∈ mi_T) (hdd : 1 ≤ d) (hst : (st.map fun v => v.category).sum ≤ 8) (kk : mi_Z G y d mc ms sz0 Q (pc + 3) ls st ws sz nc ns) : mi_Z G y d mc ms sz0 Q pc ls (.ref a :: st) ws sz nc ns := by
  intro p l e R s m args below meth c H locs Z A lsm C Rt hP hD hS hz hl
  obtain ⟨r1, r2, r3, r4⟩ := C.2.2.2.2.2.2.2.2.2.1
  exact W.objInit C.1 C.2.1 C.2.2.2.2.2.1 (C.2.2.2.2.2.2.1 _ hlk) (C.2.2.2.2.2.2.1 _ hin) (C.2.2.2.2.2.2.1 _ hco) rfl (hl.1.trans C.2.2.1.symm) rfl hd (by omega) (by show 2 * 0 + _ + 12 ≤ _; omega) (kk p l e R s m args below meth c H locs Z A lsm C Rt hP hD hS hz hl)
theorem z_new {index ci : Nat} {fs : List Value} (hd : decode y.2.1 pc = .ok (.new index, 3)) (hk13 : ci < 13) (hcl : Cond.classLink y.1.cls index (mi_Cn ci) ∈ mi_T) (hins : Cond.instantiable (mi_Cn ci) (mi_Cs ci) ∈ mi_T) (hini : Cond.initialized (mi_Cn ci) ∈ mi_T) (hfs : ∀ j, j < mi_Cs ci → defaultValue (mi_Ty ci j) = vp_V fs j) (hc1 : nc + 1 ≤ mc) (hs1 : ns + mi_Cs ci ≤ ms) (kk : mi_Z G y d mc ms sz0 Q (pc + 3) ls (.ref sz :: st) (ws ++ [(sz, .inr (ci, fs))]) (sz + 1) (nc + 1) (ns + mi_Cs ci)) : mi_Z G y d mc ms sz0 Q pc ls st ws sz nc ns := by
  intro p l e R s m args below meth c H locs Z A lsm C Rt hP hD hS hz hl
  obtain ⟨r1, r2, r3, r4⟩ := C.2.2.2.2.2.2.2.2.2.1
  have hts := C.2.2.2.2.2.2.1
  have hKn := C.2.2.2.2.2.2.2.1.1 ci _ (mi_cl ci hk13)
  refine W.newcK C.1 C.2.1 C.2.2.2.2.2.1 (hts _ hcl) (hts _ hins) (hts _ hini) rfl hd (by omega) (by omega) hKn.2.1 hz fun H1 kC hkC e1 z1 o1 => ?_
  have hlt : ∀ (k : Nat) (x : Nat × va_E), ws[k]? = some x → x.1 < sz := fun k x hx => by rw [← hz]; exact (hP k x hx).lt
  have hk : ∀ (k : Nat) (x : Nat × va_E), ws[k]? = some x → H1[x.1]? = H[x.1]? := fun k x hx => o1 x.1 (hlt k x hx)
  refine kk p l e R s m args below meth c H1 locs Z A lsm C Rt ((hP.kept hk).app (fun k x hx => ?_)) (hD.push hP hz.symm (C.2.2.2.2.2.2.2.2.1 _ (by rw [← hz]; exact hS.1))) ⟨by rw [z1, ← hz]; exact Nat.le_trans hS.1 (Nat.le_succ _), fun x h1 h2 => (o1 x (by rw [← hz]; exact Nat.lt_of_lt_of_le h1 hS.1)).trans (hS.2.1 x h1 h2), hS.2.2⟩ z1 hl
  have hz1 : k < 1 := (List.getElem?_eq_some_iff.mp hx).1
  rw [show k = 0 by omega] at hx
  cases hx
  exact ⟨_, mi_cl ci hk13, (u_born (mi_Ty ci) hts (mi_uw ci hk13) hKn hkC e1 (mi_tyok ci hk13)).to hfs⟩
theorem z_newarr {atype : ArrayType} {ty : FieldType} {n : Int32} {N t0 : Nat} {a0 : vp_A} (hd : decode y.2.1 pc = .ok (.newarray atype, 2)) (hty : newarray.typeOf atype = ty) (harr : Cond.arrayClass ty ∈ mi_T) (ht0 : (mi_tys G)[t0]? = some (G.2.2 t0, ty)) (hprim : ∀ C, ty ≠ .object C) (ha : ∀ cA : ClassId, vp_cell cA a0 = arrV cA N (fun _ => defaultValue ty)) (hn : ¬ n < 0) (hN : n.toNatClampNeg = N) (hb : N * componentBytes ty ≤ 536870912) (hc1 : nc + 1 ≤ mc) (hs1 : ns + N ≤ ms) (kk : mi_Z G y d mc ms sz0 Q (pc + 2) ls (.ref sz :: st) (ws ++ [(sz, .inl (G.2.2 t0, a0))]) (sz + 1) (nc + 1) (ns + N)) : mi_Z G y d mc ms sz0 Q pc ls (.int n :: st) ws sz nc ns := by
  intro p l e R s m args below meth c H locs Z A lsm C Rt hP hD hS hz hl
  obtain ⟨r1, r2, r3, r4⟩ := C.2.2.2.2.2.2.2.2.2.1
  subst hty
  refine va_newaK C.1 C.2.1 (C.2.2.2.2.2.2.1 _ harr) rfl hd rfl hn hN hb (by omega) (by omega) hz fun H1 cA e1 z1 o1 hAr hNm => ?_
  have hcA : cA = G.2.2 t0 := by
    have h1 := (C.2.2.2.2.2.2.2.1.2 t0 _ ht0).2
    have h2 : s.vm.findClass ("[" ++ (newarray.typeOf atype).toString) = some (G.2.2 t0) := by
      revert h1 hprim
      cases newarray.typeOf atype <;> intro hprim h1 <;> first | exact h1 | exact absurd rfl (hprim _)
    exact Option.some.inj (hNm.symm.trans h2)
  subst hcA
  have hlt : ∀ (k : Nat) (x : Nat × va_E), ws[k]? = some x → x.1 < sz := fun k x hx => by rw [← hz]; exact (hP k x hx).lt
  have hk : ∀ (k : Nat) (x : Nat × va_E), ws[k]? = some x → H1[x.1]? = H[x.1]? := fun k x hx => o1 x.1 (hlt k x hx)
  refine kk p l e R s m args below meth c H1 locs Z A lsm C Rt ((hP.kept hk).app (fun k x hx => ?_)) (hD.push hP hz.symm (C.2.2.2.2.2.2.2.2.1 _ (by rw [← hz]; exact hS.1))) ⟨by rw [z1, ← hz]; exact Nat.le_trans hS.1 (Nat.le_succ _), fun x h1 h2 => (o1 x (by rw [← hz]; exact Nat.lt_of_lt_of_le h1 hS.1)).trans (hS.2.1 x h1 h2), hS.2.2⟩ z1 hl
  have hz1 : k < 1 := (List.getElem?_eq_some_iff.mp hx).1
  rw [show k = 0 by omega] at hx
  cases hx
  show H1[sz]? = some (vp_cell _ _)
  rw [e1, ha]
theorem z_anew {C0 : String} {index t0 : Nat} {n : Int32} {N : Nat} (hd : decode y.2.1 pc = .ok (.anewarray index, 3)) (hcl : Cond.classLink y.1.cls index C0 ∈ mi_T) (hov : ∀ s, mi_Nx s → va_AO C0 s) (ht0 : (mi_tys G)[t0]? = some (G.2.2 t0, .object C0)) (hn : ¬ n < 0) (hN : n.toNatClampNeg = N) (hb : N * 4 ≤ 536870912) (hc1 : nc + 1 ≤ mc) (hs1 : ns + N ≤ ms) (kk : mi_Z G y d mc ms sz0 Q (pc + 3) ls (.ref sz :: st) (ws ++ [(sz, .inl (G.2.2 t0, N, .inr (.inr (.inr (.inr (fun _ => none))))))]) (sz + 1) (nc + 1) (ns + N)) : mi_Z G y d mc ms sz0 Q pc ls (.int n :: st) ws sz nc ns := by
  intro p l e R s m args below meth c H locs Z A lsm C Rt hP hD hS hz hl
  obtain ⟨r1, r2, r3, r4⟩ := C.2.2.2.2.2.2.2.2.2.1
  subst hN
  refine W.anew C.1 C.2.1 C.2.2.2.2.2.1 (C.2.2.2.2.2.2.1 _ hcl) (va_AO.use (hov s C.2.2.2.2.2.2.2.2.2.2.2.1)) rfl hd rfl hn hb (by omega) (by omega) fun cA kA comp f1 f2 f3 f4 => ?_
  generalize hH1 : H.push ({ cls := cA, slots := Array.replicate n.toNatClampNeg .null, vm := .none } : Cell) = H1
  have z1 : H1.size = sz + 1 := by rw [← hH1, Array.size_push, hz]
  have e1 : H1[sz]? = some (arrV cA n.toNatClampNeg (fun _ => .null)) := by rw [← hH1, ← hz, Array.getElem?_push_size, ← arrV_new]
  have o1 : ∀ q : Nat, q < sz → H1[q]? = H[q]? := fun q hq => by rw [← hH1, Array.getElem?_push, if_neg (Nat.ne_of_lt (by rw [hz]; exact hq))]
  have hcA : cA = G.2.2 t0 := by
    obtain ⟨kA', comp', -, -, -, h2⟩ := (C.2.2.2.2.2.2.2.1.2 t0 _ ht0).2
    exact Option.some.inj (f1.symm.trans h2)
  subst hcA
  have hlt : ∀ (k : Nat) (x : Nat × va_E), ws[k]? = some x → x.1 < sz := fun k x hx => by rw [← hz]; exact (hP k x hx).lt
  have hk : ∀ (k : Nat) (x : Nat × va_E), ws[k]? = some x → H1[x.1]? = H[x.1]? := fun k x hx => o1 x.1 (hlt k x hx)
  have KK := kk p l e R s m args below meth c H1 locs Z A lsm C Rt ((hP.kept hk).app (fun k x hx => by
      have hz1 : k < 1 := (List.getElem?_eq_some_iff.mp hx).1
      rw [show k = 0 by omega] at hx
      cases hx
      show H1[sz]? = some (vp_cell _ _)
      rw [vp_cell_q]
      exact e1)) (hD.push hP hz.symm (C.2.2.2.2.2.2.2.2.1 _ (by rw [← hz]; exact hS.1))) ⟨by rw [z1, ← hz]; exact Nat.le_trans hS.1 (Nat.le_succ _), fun x h1 h2 => (o1 x (by rw [← hz]; exact Nat.lt_of_lt_of_le h1 hS.1)).trans (hS.2.1 x h1 h2), hS.2.2⟩ z1 hl
  rw [← hz] at KK
  exact KK
theorem z_putF {index k f h0 a1 : Nat} {e1 : va_E} {fs : List Value} {v : Value} {tl : va_W} (hd : decode y.2.1 pc = .ok (.putfield index, 3)) (hf : mi_fl y.1.cls index k f) (hfin : (mi_Ct k f).2.2.2 = true) (hdecl : (mi_Ct k f).1 = y.1.cls) (hn : narrow (mi_Ty k f) v = v) (hfit : fits (mi_Ty k f) v = true) (hlen : f < fs.length) (hsz : sz = sz0 + nc) (j : Nat) (hj : tl[j]? = some (a1, e1)) (ha1 : a1 + 1 = sz) (kk : mi_Z G y d mc ms sz0 Q (pc + 3) ls st ((h0, .inr (k, fs.set f v)) :: tl) sz nc ns) : mi_Z G y d mc ms sz0 Q pc ls (v :: .ref h0 :: st) ((h0, .inr (k, fs)) :: tl) sz nc ns := by
  intro p l e R s m args below meth c H locs Z A lsm C Rt hP hD hS hz hl
  exact va_putF (Q := Z) C.1 C.2.1 C.2.2.2.2.2.2.1 (mi_uw k hf.1) (mi_Ty k) (mi_tyok k hf.1) (mi_nm k hf.1) C.2.2.2.2.2.1 C.2.2.2.2.2.2.2.1 hP hD hS 0 rfl (mi_cl k hf.1) f hf.2.1 (C.2.2.2.2.2.2.1 _ hf.2.2) (fun _ h => h) hfin C.2.2.2.2.2.2.2.2.2.2.1 hdecl (mi_tyok k hf.1 f hf.2.1) hn hfit hlen hd (fun H1 locs1 hP1 hD1 hS1 => by
    intro T hT X
    have h1 := X.heapSize
    have h2 := (hP1 (j + 1) (a1, e1) hj).lt
    have h2 : a1 < H1.size := h2
    have h3 := C.2.2.2.2.2.2.2.2.2.2.2.2.2
    rw [hT] at h1
    exact kk p l e R s m args below meth c H1 locs1 Z A lsm C Rt hP1 hD1 hS1 (by omega) hl T hT X)
theorem z_putN {index k f h0 a1 : Nat} {e1 : va_E} {fs : List Value} {v : Value} {tl : va_W} (hd : decode y.2.1 pc = .ok (.putfield index, 3)) (hf : mi_fl y.1.cls index k f) (hfin : (mi_Ct k f).2.2.2 = false) (hn : narrow (mi_Ty k f) v = v) (hfit : fits (mi_Ty k f) v = true) (hlen : f < fs.length) (hsz : sz = sz0 + nc) (j : Nat) (hj : tl[j]? = some (a1, e1)) (ha1 : a1 + 1 = sz) (kk : mi_Z G y d mc ms sz0 Q (pc + 3) ls st ((h0, .inr (k, fs.set f v)) :: tl) sz nc ns) : mi_Z G y d mc ms sz0 Q pc ls (v :: .ref h0 :: st) ((h0, .inr (k, fs)) :: tl) sz nc ns := by
  intro p l e R s m args below meth c H locs Z A lsm C Rt hP hD hS hz hl
  exact va_put (Q := Z) C.1 C.2.1 C.2.2.2.2.2.2.1 (mi_uw k hf.1) (mi_Ty k) (mi_tyok k hf.1) (mi_nm k hf.1) C.2.2.2.2.2.1 C.2.2.2.2.2.2.2.1 hP hD hS 0 rfl (mi_cl k hf.1) f hf.2.1 (C.2.2.2.2.2.2.1 _ hf.2.2) (fun _ h => h) hfin (mi_tyok k hf.1 f hf.2.1) hn hfit hlen hd (fun H1 locs1 hP1 hD1 hS1 => by
    intro T hT X
    have h1 := X.heapSize
    have h2 := (hP1 (j + 1) (a1, e1) hj).lt
    have h2 : a1 < H1.size := h2
    have h3 := C.2.2.2.2.2.2.2.2.2.2.2.2.2
    rw [hT] at h1
    exact kk p l e R s m args below meth c H1 locs1 Z A lsm C Rt hP1 hD1 hS1 (by omega) hl T hT X)
theorem z_get {index k f h0 : Nat} {fs : List Value} {v : Value} {tl : va_W} (hd : decode y.2.1 pc = .ok (.getfield index, 3)) (hf : mi_fl y.1.cls index k f) (hv : fs[f]? = some v) (kk : mi_Z G y d mc ms sz0 Q (pc + 3) ls (v :: st) ((h0, .inr (k, fs)) :: tl) sz nc ns) : mi_Z G y d mc ms sz0 Q pc ls (.ref h0 :: st) ((h0, .inr (k, fs)) :: tl) sz nc ns := by
  intro p l e R s m args below meth c H locs Z A lsm C Rt hP hD hS hz hl
  exact va_get C.1 C.2.1 C.2.2.2.2.2.2.1 (mi_uw k hf.1) C.2.2.2.2.2.1 C.2.2.2.2.2.2.2.1 hP 0 rfl (mi_cl k hf.1) f hf.2.1 (C.2.2.2.2.2.2.1 _ hf.2.2) (fun _ h => h) hv hd (kk p l e R s m args below meth c H locs Z A lsm C Rt hP hD hS hz hl)
theorem z_aast {t0 ci n v a a1 : Nat} {e1 : va_E} {vs : List Value} {f : Nat → Option Nat} {i : Int32} (hd : decode y.2.1 pc = .ok (.aastore, 1)) (q0 qk : Nat) (ha : ws[q0]? = some (a, .inl (G.2.2 t0, n, .inr (.inr (.inr (.inr f)))))) (ht : (mi_tys G)[t0]? = some (G.2.2 t0, .object (mi_Cn ci))) (hk13 : ci < 13) (hv : ws[qk]? = some (v, .inr (ci, vs))) (hin : vp_in i n) (hsz : sz = sz0 + nc) (j : Nat) (hj : ws[j]? = some (a1, e1)) (hjq : q0 ≠ j) (ha1 : a1 + 1 = sz) (kk : mi_Z G y d mc ms sz0 Q (pc + 1) ls st (ws.set q0 (a, .inl (G.2.2 t0, n, .inr (.inr (.inr (.inr (va_up f i.toNatClampNeg (some v)))))))) sz nc ns) : mi_Z G y d mc ms sz0 Q pc ls (.ref v :: .int i :: .ref a :: st) ws sz nc ns := by
  intro p l e R s m args below meth c H locs Z A lsm C Rt hP hD hS hz hl
  exact va_astq (Q := Z) C.1 C.2.1 C.2.2.2.2.2.2.2.1 hP hD hS q0 t0 qk ci ha ht hv (mi_cl ci hk13) hin hd (fun H1 locs1 hP1 hD1 hS1 => by
    intro T hT X
    have h1 := X.heapSize
    have h2 := (hP1 j (a1, e1) (by rw [List.getElem?_set_ne hjq]; exact hj)).lt
    have h2 : a1 < H1.size := h2
    have h3 := C.2.2.2.2.2.2.2.2.2.2.2.2.2
    rw [hT] at h1
    exact kk p l e R s m args below meth c H1 locs1 Z A lsm C Rt hP1 hD1 hS1 (by omega) hl T hT X)
theorem z_last {n a a1 : Nat} {e1 : va_E} {f : Nat → Int64} {i : Int32} {x : Int64} (hd : decode y.2.1 pc = .ok (.lastore, 1)) (q0 : Nat) (ha : ws[q0]? = some (a, .inl (G.2.2 1, n, .inr (.inl f)))) (hin : vp_in i n) (hsz : sz = sz0 + nc) (j : Nat) (hj : (ws.set q0 (a, .inl (G.2.2 1, n, .inr (.inl (vp_updL f i.toNatClampNeg x)))))[j]? = some (a1, e1)) (ha1 : a1 + 1 = sz) (kk : mi_Z G y d mc ms sz0 Q (pc + 1) ls st (ws.set q0 (a, .inl (G.2.2 1, n, .inr (.inl (vp_updL f i.toNatClampNeg x))))) sz nc ns) : mi_Z G y d mc ms sz0 Q pc ls (.long x :: .int i :: .ref a :: st) ws sz nc ns := by
  intro p l e R s m args below meth c H locs Z A lsm C Rt hP hD hS hz hl
  exact va_last (Q := Z) C.1 C.2.1 C.2.2.2.2.2.2.2.1 hP hD hS q0 1 ha rfl hin hd (fun H1 locs1 hP1 hD1 hS1 => by
    intro T hT X
    have h1 := X.heapSize
    have h2 := (hP1 j (a1, e1) hj).lt
    have h2 : a1 < H1.size := h2
    have h3 := C.2.2.2.2.2.2.2.2.2.2.2.2.2
    rw [hT] at h1
    exact kk p l e R s m args below meth c H1 locs1 Z A lsm C Rt hP1 hD1 hS1 (by omega) hl T hT X)
theorem mi_blindI {pre : va_W} {sz : Nat} {av : List Value} : FrameBlind (va_Pc av (mi_Wc G pre sz)) := fun a U g mk q => by
  obtain ⟨q0, q1, q2, q3, q4, q5⟩ := q
  exact ⟨q0, q1, q2, va_K.moved (u := U) (U := U.calling g mk a) (Vm.Alike.refl U.vm) q3, q4, q5.1.calling, q5.2.calling⟩
def mi_li (own : String) (index : Nat) (y' : mi_MD) : Prop := Cond.methodLink own index y'.1 ∈ mi_T ∧ (Cond.instanceMethod y'.1 ∈ mi_T ∧ Cond.initialized y'.1.cls ∈ mi_T ∧ Cond.code y'.1 y'.2.1 y'.2.2.1 y'.2.2.2 ∈ mi_T) ∧ (y'.1.cls ≠ "java/lang/invoke/MethodHandle" ∧ y'.1.cls ≠ "java/lang/invoke/VarHandle" ∧ (parseMethodDescriptor y'.1.desc).map (fun d => d.parameters.length) = some 0) ∧ y'.2.2.1 ≤ 40 ∧ y'.1.name = "<init>" ∧ y'.2.2.2 = none
def mi_lin (own : String) (index : Nat) (host : String) (y' : mi_MD) : Prop := (own, index, y'.1, host) ∈ mi_nestI ∧ (Cond.instanceMethod y'.1 ∈ mi_T ∧ Cond.initialized y'.1.cls ∈ mi_T ∧ Cond.code y'.1 y'.2.1 y'.2.2.1 y'.2.2.2 ∈ mi_T) ∧ (y'.1.cls ≠ "java/lang/invoke/MethodHandle" ∧ y'.1.cls ≠ "java/lang/invoke/VarHandle" ∧ (parseMethodDescriptor y'.1.desc).map (fun d => d.parameters.length) = some 0) ∧ y'.2.2.1 ≤ 40 ∧ y'.1.name = "<init>" ∧ y'.2.2.2 = none
/-- what a constructor's call gives back -/
theorem mi_backI {p : Program} {l : Launch} {e : Env} {R : Room} {s : State} {m : MethodId} {args : Array Value} {below : List Frame} {meth : Method} {c : Code} {H : Heap} {locs : List Loc} {Z : State → Prop} {A : Nat → Prop} {lsm : Array Slot} {a : Array Value} {stk : List Value} {h : Nat} {e0 : va_E} {post : va_W} {mc' ms' : Nat}
    (C : mi_Kx G y d mc ms sz0 p R s m args meth c A) (Rt : mi_Rz G y mc ms sz0 p l e R s m args below meth c Z A Q) (hP : va_P G.1 vwCl (ws ++ [(h, e0)]) H) (hD : va_D A (ws ++ [(h, e0)])) (hS : va_S A s.heap H locs) (hz : H.size = sz) (hl : lv_has lsm y.2.2.1 ls)
    (run : va_Run p l e R s m args below meth c H locs nc ns mc' ms' (F0 m pc lsm stk) st (mi_QI G [(h, e0)] sz mc' post a) (va_A [(h, e0)] sz))
    (kk : mi_Z G y d mc ms sz0 Q (pc + 3) ls st (ws ++ post) (sz + mc') (nc + mc') (ns + ms')) : W p l e R s m args below meth c H locs nc ns Z (F0 m pc lsm stk) := by
  have hlast : (ws ++ [(h, e0)])[ws.length]? = some (h, e0) := by rw [List.getElem?_append_right (Nat.le_refl _), Nat.sub_self]; rfl
  have hAA : ∀ q, va_A [(h, e0)] sz q → A q := by
    intro q hq
    rcases hq with ⟨k, e1, hk⟩ | hq
    · have h0 : k < 1 := (List.getElem?_eq_some_iff.mp hk).1
      rw [show k = 0 by omega] at hk
      cases hk
      exact hD.2 _ _ hlast
    · exact C.2.2.2.2.2.2.2.2.1 q (by rw [← hz] at hq; exact Nat.le_trans hS.1 hq)
  have hws : ∀ (k : Nat) (x : Nat × va_E), ws[k]? = some x → (ws ++ [(h, e0)])[k]? = some x := fun k x hx => by
    rw [List.getElem?_append_left (List.getElem?_eq_some_iff.mp hx).1]; exact hx
  have hoff : ∀ (k : Nat) (x : Nat × va_E), ws[k]? = some x → x.1 < sz ∧ ¬ va_A [(h, e0)] sz x.1 := by
    intro k x hx
    have h1 := (hP k x (hws k x hx)).lt
    rw [hz] at h1
    refine ⟨h1, fun hq => ?_⟩
    rcases hq with ⟨k2, e1, hk⟩ | hq
    · have h0 : k2 < 1 := (List.getElem?_eq_some_iff.mp hk).1
      rw [show k2 = 0 by omega] at hk
      cases hk
      have := hD.1 k ws.length x (x.1, e0) (hws k x hx) hlast rfl
      have := (List.getElem?_eq_some_iff.mp hx).1
      omega
    · omega
  intro T hT X
  obtain ⟨v, st₀, t, T', L, h0, X', hL, e1, e2, ⟨⟨hv, hzz, hP', hD'⟩, hz', hkeep⟩, go⟩ := run T hT X
  rw [h0] at hz' hkeep
  have hv2 : v = none := by injection hv
  subst hv2
  have hS' : va_S A s.heap T'.heap (locs ++ L) := by
    refine ⟨Nat.le_trans hS.1 (by rw [e1]; exact hz'), fun q h1 h2 => ?_, fun q hq => ?_⟩
    · rw [e1, hkeep q (Nat.lt_of_lt_of_le h1 hS.1) (fun z => h2 (hAA q z))]
      exact hS.2.1 q h1 h2
    · rcases List.mem_append.mp hq with hq | hq
      · exact hS.2.2 q hq
      · exact hAA _ (hL q hq)
  have hPn : va_P G.1 vwCl (ws ++ post) T'.heap := by
    refine va_P.app (fun k x hx => ?_) (by rw [e1]; exact hP')
    obtain ⟨g1, g2⟩ := hoff k x hx
    exact (hP k x (hws k x hx)).kept (by rw [e1]; exact hkeep x.1 (by rw [hz]; exact g1) g2)
  have hDn : va_D A (ws ++ post) := by
    refine va_D.app ⟨fun i j x z hi hj => hD.1 i j x z (hws i x hi) (hws j z hj), fun k x hx => hD.2 k x (hws k x hx)⟩ ⟨hD'.1, fun k x hx => hAA _ (hD'.2 k x hx)⟩ (fun i j x z hx hy hxy => ?_)
    exact (hoff i x hx).2 (by rw [hxy]; exact hD'.2 j z hy)
  obtain ⟨t2, a1, b1⟩ := kk p l e R s m args below meth c T'.heap (locs ++ L) Z A lsm C Rt hPn hDn hS' (by rw [e1]; exact hzz) hl T' rfl X'
  exact ⟨t2, go t2 a1, b1⟩
theorem z_init {index d' h mc' ms' : Nat} {e0 : va_E} {y' : mi_MD} {post : va_W} (hd : decode y.2.1 pc = .ok (.invokespecial index, 3)) (hm : mi_li y.1.cls index y') (hdd : d' < d) (hst : (st.map fun v => v.category).sum ≤ 8) (hc1 : nc + mc' ≤ mc) (hs1 : ns + ms' ≤ ms) (hc : mi_CI G d' y' h [(h, e0)] sz post mc' ms') (kk : mi_Z G y d mc ms sz0 Q (pc + 3) ls st (ws ++ post) (sz + mc') (nc + mc') (ns + ms')) : mi_Z G y d mc ms sz0 Q pc ls (.ref h :: st) (ws ++ [(h, e0)]) sz nc ns := by
  intro p l e R s m args below meth c H locs Z A lsm C Rt hP hD hS hz hl
  obtain ⟨w1, ⟨w2, w4, w5⟩, hnm, hmax, hin, hnone⟩ := hm
  have hts := C.2.2.2.2.2.2.1
  obtain ⟨r1, r2, r3, r4⟩ := C.2.2.2.2.2.2.2.2.2.1
  have hP1 : va_P G.1 vwCl [(h, e0)] H := fun k x hx => by
    have h0 : k < 1 := (List.getElem?_eq_some_iff.mp hx).1
    rw [show k = 0 by omega] at hx
    exact hP ws.length x (by rw [List.getElem?_append_right (Nat.le_refl _), Nat.sub_self]; exact hx)
  have hD1 : va_D (fun _ => True) [(h, e0)] := ⟨fun i j x z hi hj _ => by
    have h1 : i < 1 := (List.getElem?_eq_some_iff.mp hi).1
    have h2 : j < 1 := (List.getElem?_eq_some_iff.mp hj).1
    omega, fun _ _ _ => trivial⟩
  have hAA : ∀ q, va_A [(h, e0)] sz q → A q := by
    intro q hq
    rcases hq with ⟨k, e1, hk⟩ | hq
    · have h0 : k < 1 := (List.getElem?_eq_some_iff.mp hk).1
      rw [show k = 0 by omega] at hk
      cases hk
      exact hD.2 ws.length (h, e0) (by rw [List.getElem?_append_right (Nat.le_refl _), Nat.sub_self]; rfl)
    · exact C.2.2.2.2.2.2.2.2.1 q (by rw [← hz] at hq; exact Nat.le_trans hS.1 hq)
  have cb : CallB R s args y.1.cls index y'.1 y'.2.1 y'.2.2.1 none (mi_yw y') (mi_rI d' mc' ms') mc' ms' 0 := by
    have := callB_of (R := R) (rm := mi_rI d' mc' ms') (mc := mc') (ms := ms') 0 hts (mi_goodY w5) rfl rfl rfl (hts _ w4) (hts _ w1) hnm ⟨by show d' + 1 ≤ _; omega, by show 8 + (y'.2.2.1 + 11) + 64 * d' ≤ _; omega⟩
    rw [hnone] at this
    exact this
  have hp : PreS s H (va_Pc [.ref h] (mi_Wc G [(h, e0)] sz)) (.ref h :: []) :=
    ⟨mi_blindI, fun U hU hW => ⟨rfl, by rw [hU]; exact hz, by rw [hU]; exact hP1, va_K.moved hW.alike C.2.2.2.2.2.2.2.1, hD1, (C.2.2.2.2.2.2.2.2.2.2.2.1).moved hW, (C.2.2.2.2.2.2.2.2.2.2.2.2.1).at hS hU hW hAA⟩⟩
  exact mi_backI C Rt hP hD hS hz hl (va_runI (As := []) (S := ⟨C.1, C.2.1, C.2.2.1, C.2.2.2.2.2.1, hts⟩) (hc l) ⟨cb, hin, hts _ w2⟩ hp rfl rfl hl.1 rfl (lv_room hst) hd ⟨by omega, by omega⟩) kk
theorem z_initN {index d' h mc' ms' : Nat} {host : String} {e0 : va_E} {y' : mi_MD} {post : va_W} (hd : decode y.2.1 pc = .ok (.invokespecial index, 3)) (hm : mi_lin y.1.cls index host y') (hdd : d' < d) (hst : (st.map fun v => v.category).sum ≤ 8) (hc1 : nc + mc' ≤ mc) (hs1 : ns + ms' ≤ ms) (hc : mi_CI G d' y' h [(h, e0)] sz post mc' ms') (kk : mi_Z G y d mc ms sz0 Q (pc + 3) ls st (ws ++ post) (sz + mc') (nc + mc') (ns + ms')) : mi_Z G y d mc ms sz0 Q pc ls (.ref h :: st) (ws ++ [(h, e0)]) sz nc ns := by
  intro p l e R s m args below meth c H locs Z A lsm C Rt hP hD hS hz hl
  obtain ⟨w1, ⟨w2, w4, w5⟩, hnm, hmax, hin, hnone⟩ := hm
  have hts := C.2.2.2.2.2.2.1
  obtain ⟨r1, r2, r3, r4⟩ := C.2.2.2.2.2.2.2.2.2.1
  have hP1 : va_P G.1 vwCl [(h, e0)] H := fun k x hx => by
    have h0 : k < 1 := (List.getElem?_eq_some_iff.mp hx).1
    rw [show k = 0 by omega] at hx
    exact hP ws.length x (by rw [List.getElem?_append_right (Nat.le_refl _), Nat.sub_self]; exact hx)
  have hD1 : va_D (fun _ => True) [(h, e0)] := ⟨fun i j x z hi hj _ => by
    have h1 : i < 1 := (List.getElem?_eq_some_iff.mp hi).1
    have h2 : j < 1 := (List.getElem?_eq_some_iff.mp hj).1
    omega, fun _ _ _ => trivial⟩
  have hAA : ∀ q, va_A [(h, e0)] sz q → A q := by
    intro q hq
    rcases hq with ⟨k, e1, hk⟩ | hq
    · have h0 : k < 1 := (List.getElem?_eq_some_iff.mp hk).1
      rw [show k = 0 by omega] at hk
      cases hk
      exact hD.2 ws.length (h, e0) (by rw [List.getElem?_append_right (Nat.le_refl _), Nat.sub_self]; rfl)
    · exact C.2.2.2.2.2.2.2.2.1 q (by rw [← hz] at hq; exact Nat.le_trans hS.1 hq)
  have cb : va_CN R s args y.1.cls index y'.1 host y'.2.1 y'.2.2.1 none (mi_yw y') (mi_rI d' mc' ms') mc' ms' 0 := by
    have := va_cnB (R := R) (rm := mi_rI d' mc' ms') (mc := mc') (ms := ms') 0 hts (mi_goodY w5) rfl rfl rfl ((C.2.2.2.2.2.2.2.2.2.2.2.1).1 _ w1) (hts _ w4) hnm ⟨by show d' + 1 ≤ _; omega, by show 8 + (y'.2.2.1 + 11) + 64 * d' ≤ _; omega⟩
    rw [hnone] at this
    exact this
  have hp : PreS s H (va_Pc [.ref h] (mi_Wc G [(h, e0)] sz)) (.ref h :: []) :=
    ⟨mi_blindI, fun U hU hW => ⟨rfl, by rw [hU]; exact hz, by rw [hU]; exact hP1, va_K.moved hW.alike C.2.2.2.2.2.2.2.1, hD1, (C.2.2.2.2.2.2.2.2.2.2.2.1).moved hW, (C.2.2.2.2.2.2.2.2.2.2.2.2.1).at hS hU hW hAA⟩⟩
  exact mi_backI C Rt hP hD hS hz hl (va_runIN (As := []) (S := ⟨C.1, C.2.1, C.2.2.1, C.2.2.2.2.2.1, hts⟩) (hc l) ⟨cb, hin, hts _ w2⟩ hp rfl rfl hl.1 rfl (lv_room hst) hd ⟨by omega, by omega⟩) kk
theorem z_mnew {index : Nat} {n k : Int32} {N K : Nat} (hd : decode y.2.1 pc = .ok (.multianewarray index 2, 4)) (hcl : Cond.classLink y.1.cls index "[[I" ∈ mi_T) (harr : Cond.arrayClass .int ∈ mi_T) (hn : ¬ n < 0) (hk : ¬ k < 0) (hN : n.toNatClampNeg = N) (hK : k.toNatClampNeg = K) (hb1 : N * 4 ≤ 536870912) (hb2 : K * componentBytes .int ≤ 536870912) (hb3 : K ≤ 536870912) (hc1 : nc + (1 + N) ≤ mc) (hs1 : ns + (N + N * K) ≤ ms) (kk : mi_Z G y d mc ms sz0 Q (pc + 4) ls (.ref sz :: st) ((ws ++ [(sz, .inl (G.2.2 6, N, .inr (.inr (.inr (.inr (fun i => if i < N then some (sz + 1 + i) else none))))))]) ++ (List.range N).map (fun i => (sz + 1 + i, .inl (G.2.2 0, K, .inl (fun _ => 0))))) (sz + 1 + N) (nc + 1 + N) (ns + N + N * K)) : mi_Z G y d mc ms sz0 Q pc ls (.int k :: .int n :: st) ws sz nc ns := by
  intro p l e R s m args below meth c H locs Z A lsm C Rt hP hD hS hz hl
  obtain ⟨r1, r2, r3, r4⟩ := C.2.2.2.2.2.2.2.2.2.1
  subst hN
  subst hK
  intro T hT X
  obtain ⟨vm₁, cA, comp, -, fA, fC, hO, hI, X', step⟩ := X.multianewarray2F (ty := .int) C.1 C.2.2.2.2.2.1 (C.2.2.2.2.2.2.1 _ hcl) (C.2.2.2.2.2.2.2.2.2.2.2.1).2.2.2 (C.2.2.2.2.2.2.1 _ harr) (g := F0 m pc lsm (.int k :: .int n :: st)) rfl (by rw [C.2.1]; exact hd) rfl hn hk hb1 hb2 hb3 rfl rfl (by omega) (by omega)
  have hcA : cA = G.2.2 6 := Option.some.inj (fA.symm.trans (C.2.2.2.2.2.2.2.1.2 6 _ rfl).2)
  have hco : comp = G.2.2 0 := Option.some.inj (fC.symm.trans (C.2.2.2.2.2.2.2.1.2 0 _ rfl).2)
  subst hcA
  subst hco
  generalize hF : Jvm.Free.Multi.fill (T.setVm vm₁) (G.2.2 6) (G.2.2 0) n.toNatClampNeg k.toNatClampNeg (defaultValue .int) n.toNatClampNeg = F at X' step
  have hTh : (T.setVm vm₁).heap = H := hT
  obtain ⟨f1, f2, -, -⟩ := Jvm.Free.Multi.fill_facts (T.setVm vm₁) (G.2.2 6) (G.2.2 0) n.toNatClampNeg k.toNatClampNeg (defaultValue .int) n.toNatClampNeg
  rw [hF, hTh] at f1 f2
  rw [hz] at f1 f2
  have hold : ∀ x : Nat, x < sz → F.heap[x]? = H[x]? := fun x hx => by
    have := Jvm.Free.Multi.fill_old (T.setVm vm₁) (G.2.2 6) (G.2.2 0) n.toNatClampNeg k.toNatClampNeg (defaultValue .int) (a := x) (by rw [hTh, hz]; exact hx) n.toNatClampNeg
    rw [hF, hTh] at this
    exact this
  have hrow : ∀ j : Nat, j < n.toNatClampNeg → F.heap[sz + 1 + j]? = some (vp_cell (G.2.2 0) (k.toNatClampNeg, .inl (fun _ => 0))) := fun j hj => by
    have := Jvm.Free.Multi.fill_inner (T.setVm vm₁) (G.2.2 6) (G.2.2 0) n.toNatClampNeg k.toNatClampNeg (defaultValue .int) n.toNatClampNeg j hj
    rw [hF, hTh, hz] at this
    rw [this, vp_cell_i, ← arrV_new]
    rfl
  have hout : Jvm.Free.Multi.outerC (G.2.2 6) n.toNatClampNeg sz n.toNatClampNeg = vp_cell (G.2.2 6) (n.toNatClampNeg, .inr (.inr (.inr (.inr (fun i => if i < n.toNatClampNeg then some (sz + 1 + i) else none))))) := by
    rw [vp_cell_q]
    exact vr_outer (G.2.2 6) n.toNatClampNeg sz n.toNatClampNeg
  rw [hout] at f2
  have hlt : ∀ (q : Nat) (x : Nat × va_E), ws[q]? = some x → x.1 < sz := fun q x hx => by rw [← hz]; exact (hP q x hx).lt
  have hAsz : ∀ q, sz ≤ q → A q := fun q hq => C.2.2.2.2.2.2.2.2.1 q (Nat.le_trans hS.1 (by rw [hz]; exact hq))
  have hmem : ∀ (q : Nat) (x : Nat × va_E), ((List.range n.toNatClampNeg).map (fun i => ((sz + 1 + i, .inl (G.2.2 0, k.toNatClampNeg, .inl (fun _ => 0))) : Nat × va_E)))[q]? = some x → q < n.toNatClampNeg ∧ x = (sz + 1 + q, .inl (G.2.2 0, k.toNatClampNeg, .inl (fun _ => 0))) := fun q x hx => by
    rw [List.getElem?_map] at hx
    by_cases h9 : q < n.toNatClampNeg
    · rw [List.getElem?_range h9] at hx
      cases hx
      exact ⟨h9, rfl⟩
    · rw [List.getElem?_eq_none (by rw [List.length_range]; omega)] at hx
      cases hx
  have hP1 : va_P G.1 vwCl ((ws ++ [(sz, .inl (G.2.2 6, n.toNatClampNeg, .inr (.inr (.inr (.inr (fun i => if i < n.toNatClampNeg then some (sz + 1 + i) else none))))))]) ++ (List.range n.toNatClampNeg).map (fun i => (sz + 1 + i, .inl (G.2.2 0, k.toNatClampNeg, .inl (fun _ => 0))))) F.heap := by
    refine va_P.app (va_P.app (hP.kept (fun q x hx => hold x.1 (hlt q x hx))) (fun q x hx => ?_)) (fun q x hx => ?_)
    · have h0 : q < 1 := (List.getElem?_eq_some_iff.mp hx).1
      rw [show q = 0 by omega] at hx
      cases hx
      exact f2
    · obtain ⟨h1, rfl⟩ := hmem q x hx
      exact hrow q h1
  have hD1 : va_D A ((ws ++ [(sz, .inl (G.2.2 6, n.toNatClampNeg, .inr (.inr (.inr (.inr (fun i => if i < n.toNatClampNeg then some (sz + 1 + i) else none))))))]) ++ (List.range n.toNatClampNeg).map (fun i => (sz + 1 + i, .inl (G.2.2 0, k.toNatClampNeg, .inl (fun _ => 0))))) := by
    refine va_D.app (hD.push hP hz.symm (hAsz _ (Nat.le_refl _))) ⟨fun i j x z hi hj hxy => ?_, fun q x hx => ?_⟩ (fun i j x z hx hy hxy => ?_)
    · obtain ⟨-, rfl⟩ := hmem i x hi
      obtain ⟨-, rfl⟩ := hmem j z hj
      have : sz + 1 + i = sz + 1 + j := hxy
      omega
    · obtain ⟨-, rfl⟩ := hmem q x hx
      exact hAsz _ (show sz ≤ sz + 1 + q by omega)
    · obtain ⟨-, rfl⟩ := hmem j z hy
      have h1 : x.1 = sz + 1 + j := hxy
      by_cases hw : i < ws.length
      · rw [List.getElem?_append_left hw] at hx
        have := hlt i x hx
        omega
      · rw [List.getElem?_append_right (by omega)] at hx
        have h0 : i - ws.length < 1 := (List.getElem?_eq_some_iff.mp hx).1
        rw [show i - ws.length = 0 by omega] at hx
        cases hx
        have h1 : sz = sz + 1 + j := h1
        omega
  have hS1 : va_S A s.heap F.heap locs := ⟨by rw [f1]; have := hS.1; omega, fun x h1 h2 => (hold x (by rw [← hz]; exact Nat.lt_of_lt_of_le h1 hS.1)).trans (hS.2.1 x h1 h2), hS.2.2⟩
  obtain ⟨t2, a1, b1⟩ := kk p l e R s m args below meth c F.heap locs Z A lsm C Rt hP1 hD1 hS1 f1 hl F rfl X'
  refine ⟨t2, step t2 ?_, b1⟩
  rw [hT, hz]
  exact a1
theorem z_perm {ws' : va_W} (h1 : ∀ (D : va_G) (H : Heap), va_P D vwCl ws H → va_P D vwCl ws' H) (h2 : ∀ A, va_D A ws → va_D A ws') (kk : mi_Z G y d mc ms sz0 Q pc ls st ws' sz nc ns) : mi_Z G y d mc ms sz0 Q pc ls st ws sz nc ns := by
  intro p l e R s m args below meth c H locs Z A lsm C Rt hP hD hS hz hl
  exact kk p l e R s m args below meth c H locs Z A lsm C Rt (h1 _ _ hP) (h2 _ hD) hS hz hl
theorem z_swap {X1 X2 : va_W} {x : Nat × va_E} (kk : mi_Z G y d mc ms sz0 Q pc ls st ((X1 ++ [x]) ++ X2) sz nc ns) : mi_Z G y d mc ms sz0 Q pc ls st ((X1 ++ X2) ++ [x]) sz nc ns := by
  refine z_perm (fun D H h => ?_) (fun A h => ?_) kk
  · exact va_P.swap h
  · exact va_D.swap h
/-- a call of a method of the world, from inside a constructor; the world stands as the memory has it behind it -/
theorem z_callM {index n k i d' : Nat} {y' : mi_MD} {av : List mi_V} {stv : List Value} {mem mem' : mi_M} (hd : decode y.2.1 pc = .ok (.invokevirtual index, 3)) (hm : mi_lv y.1.cls index y' n k) (hn : av.length = n) (hi : i < mi_n k) (hdd : d' < d) (hst : (st.map fun v => v.category).sum ≤ 8) (hnc : nc ≤ mc) (hns : ns ≤ ms) (hsz : sz = sz0 + nc) (hes : stv = (av.map (mi_tv G.2.1)).reverse ++ .ref (G.2.1 k i) :: st) (h1 : ∀ H : Heap, va_P G.1 vwCl ws H → va_P G.1 vwCl (mi_ws G mem) H) (h2 : ∀ A, va_D A ws → va_D A (mi_ws G mem)) (hlast : ∃ (j : Nat) (e1 : va_E), (mi_ws G mem')[j]? = some (sz - 1, e1)) (hpos : 0 < sz) (hc : mi_Cv d' y' (vr k i :: av) mem (fun m' => m' = mem')) (kk : mi_Z G y d mc ms sz0 Q (pc + 3) ls st (mi_ws G mem') sz nc ns) : mi_Z G y d mc ms sz0 Q pc ls stv ws sz nc ns := by
  intro p l e R s m args below meth c H locs Z A lsm C Rt hP hD hS hz hl
  obtain ⟨⟨hk13, hcls⟩, ⟨w1, w2, w3, w4, w5⟩, hnm, hmax⟩ := hm
  have hts := C.2.2.2.2.2.2.1
  have hP2 := h1 H hP
  have hD2 := h2 A hD
  have hAA := mi_AA (mem := mem) (G := G) C.2.2.2.2.2.2.2.2.1 hD2 hS
  obtain ⟨r1, r2, r3, r4⟩ := C.2.2.2.2.2.2.2.2.2.1
  obtain ⟨q, hq⟩ := mi_at hi
  have he := mi_ws_at (G := G) (m := mem) hq
  rw [mi_c_o hk13] at he
  have hM := hc l G H.size
  have cw : CallW R s args y.1.cls y'.1.cls index y'.1 y'.2.1 y'.2.2.1 y'.2.2.2 (mi_yw y') (mi_rm d') 0 0 n := ⟨callB_of n hts (mi_goodY w5) rfl rfl rfl (hts _ w4) (hts _ w1) hnm ⟨by show d' + 1 ≤ _; omega, by show 8 + (y'.2.2.1 + 11) + 64 * d' ≤ _; omega⟩, hts _ w2, hts _ w3⟩
  have hp : PreV s H y'.1.cls (G.2.1 k i) (va_Pc ((vr k i :: av).map (mi_tv G.2.1)) (mi_Wd G mem H.size)) (av.map (mi_tv G.2.1)) := by
    refine ⟨mi_blind, ?_, fun U hU hW => ⟨rfl, by rw [hU], by rw [hU]; exact hP2, va_K.moved hW.alike C.2.2.2.2.2.2.2.1, ⟨hD2.1, fun _ _ _ => trivial⟩, (C.2.2.2.2.2.2.2.2.2.2.2.2.1).at hS hU hW hAA⟩⟩
    rw [hcls]
    exact va_recv C.2.2.2.2.2.2.2.1 hP2 (mi_cl k hk13) he
  subst hes
  have run := va_runV (p := p) (e := e) (R := R) (below := below) (meth := meth) (locs := locs) (cells := nc) (slots := ns) (rest := st) (g := F0 m pc lsm ((av.map (mi_tv G.2.1)).reverse ++ .ref (G.2.1 k i) :: st)) (S := ⟨C.1, C.2.1, C.2.2.1, C.2.2.2.2.2.1, hts⟩) hM cw hp rfl (by rw [List.length_map]; exact hn) hl.1 rfl (lv_room hst) hd ⟨by omega, by omega⟩
  intro T hT X
  obtain ⟨v, st₀, t, T', L, h0, X', hL, e1, e2, ⟨⟨r, m', hv, ⟨hr, rfl⟩, hP'⟩, hz', hkeep⟩, go⟩ := run T hT X
  subst hr
  rw [h0] at hz' hkeep
  have hv2 : v = none := by injection hv
  subst hv2
  have hS' : va_S A s.heap T'.heap (locs ++ L) := by
    refine ⟨Nat.le_trans hS.1 (by rw [e1]; exact hz'), fun q h1 h2 => ?_, fun q hq => ?_⟩
    · rw [e1, hkeep q (Nat.lt_of_lt_of_le h1 hS.1) (fun z => h2 (hAA q z))]
      exact hS.2.1 q h1 h2
    · rcases List.mem_append.mp hq with hq | hq
      · exact hS.2.2 q hq
      · exact hAA _ (hL q hq)
  obtain ⟨j, ej, hj⟩ := hlast
  have hP3 : va_P G.1 vwCl (mi_ws G m') T'.heap := by rw [e1]; exact hP'
  have hg1 := X'.heapSize
  have hg2 : sz - 1 < T'.heap.size := (hP3 j (sz - 1, ej) hj).lt
  have hg3 := C.2.2.2.2.2.2.2.2.2.2.2.2.2
  obtain ⟨t2, a1, b1⟩ := kk p l e R s m args below meth c T'.heap (locs ++ L) Z A lsm C Rt hP3 (mi_D hD2) hS' (by have : T'.heap.size ≤ s.heap.size + (nc + 0) := hg1; omega) hl T' rfl X'
  exact ⟨t2, go t2 a1, b1⟩
end MZ
