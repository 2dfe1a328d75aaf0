/-! ===== rests: the class's method returns or throws; the law's own method catches ===== -/
def rx_F (A : Nat → Prop) (U : State) : Prop := vx_Zq Bundle.tN "UNASSIGNED_STACK" Bundle.steD A U U.heap ∧ vx_Zq Bundle.tN "SUPPRESSED_SENTINEL" Bundle.listD A U U.heap ∧ va_Nw (.declares (Bundle.init0 "java/lang/RuntimeException")) U ∧ va_Nw (.declares (Bundle.init0 "java/lang/Exception")) U ∧ va_Nw (.declares (Bundle.init0 Bundle.tN)) U ∧ va_Nw (.castable "java/util/NoSuchElementException" "java/util/NoSuchElementException") U
theorem rx_F.calling {A : Nat → Prop} {U : State} {g : JFrame} {mk : MethodId} {a : Array Value} (h : rx_F A U) : rx_F A (U.calling g mk a) := by
  obtain ⟨h1, h2, h3, h4, h5, h6⟩ := h
  exact ⟨h1.moved (Vm.Alike.refl U.vm), h2.moved (Vm.Alike.refl U.vm), va_Nw.same (u := U) rfl rfl h3, va_Nw.same (u := U) rfl rfl h4, va_Nw.same (u := U) rfl rfl h5, va_Nw.same (u := U) rfl rfl h6⟩
theorem rx_F.at {A B : Nat → Prop} {s U : State} {H : Heap} {locs : List Loc} (h : rx_F A s) (hS : va_S A s.heap H locs) (hU : U.heap = H) (hW : s.WarmedH U.vm) (hB : ∀ q, B q → A q) : rx_F B U := by
  obtain ⟨h1, h2, h3, h4, h5, h6⟩ := h
  refine ⟨?_, ?_, va_Nw.warmD hW h3, va_Nw.warmD hW h4, va_Nw.warmD hW h5, va_Nw.warmC hW h6⟩
  · rw [hU]
    exact ((h1.kept hS.2.1).narrow hB).moved hW.alike
  · rw [hU]
    exact ((h2.kept hS.2.1).narrow hB).moved hW.alike
set_option maxRecDepth 100000 in
theorem rx_g0 : ∀ w ∈ (vx_at0 RX11 265 "java/util/NoSuchElementException" ["java/lang/RuntimeException", "java/lang/Exception"]).filter goodWord, w ∈ lw_tbl := by decide +kernel
set_option maxRecDepth 100000 in
theorem rx_g1 : ∀ w ∈ (vx_at0 RX11 265 "java/util/NoSuchElementException" ["java/lang/RuntimeException", "java/lang/Exception"]).filter (fun w => !goodWord w), w ∈ [Cond.declares (Bundle.init0 "java/lang/RuntimeException"), Cond.declares (Bundle.init0 "java/lang/Exception"), Cond.declares (Bundle.init0 Bundle.tN), Cond.castable "java/util/NoSuchElementException" "java/util/NoSuchElementException"] := by decide +kernel
set_option maxRecDepth 100000 in
theorem rx_g2 : ∀ w ∈ Cond.classLink RX11 263 "java/util/NoSuchElementException" :: Cond.initialized "java/util/NoSuchElementException" :: vx_at0 RX11 265 "java/util/NoSuchElementException" ["java/lang/RuntimeException", "java/lang/Exception"], vx_ot w = true := by decide +kernel
set_option maxRecDepth 100000 in
theorem rx_w : ∀ w ∈ [Cond.classLink RX11 263 "java/util/NoSuchElementException", Cond.initialized "java/util/NoSuchElementException", Cond.classLink RL 13 "java/util/NoSuchElementException", Cond.methodLink RL 144 yL_rests, Cond.static yL_rests, Cond.initialized RL, Cond.codeWith yL_rests cL_rests 6 (some .int) [(0, 12, 15, 13)]], w ∈ lw_tbl ∧ goodWord w = true := by decide +kernel
theorem rx_in {w : Cond} (h : w ∈ [Cond.classLink RX11 263 "java/util/NoSuchElementException", Cond.initialized "java/util/NoSuchElementException", Cond.classLink RL 13 "java/util/NoSuchElementException", Cond.methodLink RL 144 yL_rests, Cond.static yL_rests, Cond.initialized RL, Cond.codeWith yL_rests cL_rests 6 (some .int) [(0, 12, 15, 13)]]) : w ∈ mi_T := List.mem_filter.mpr (rx_w w h)
theorem rx_hat {A : Nat → Prop} {args : Array Value} {s : State} (ht : ∀ w ∈ mi_T, w.before args s = true) (hF : rx_F A s) : ∀ w ∈ vx_at0 RX11 265 "java/util/NoSuchElementException" ["java/lang/RuntimeException", "java/lang/Exception"], w.before args s = true :=
  vx_hat (fun w hw => ht w (List.mem_filter.mpr ⟨rx_g0 w hw, (List.mem_filter.mp hw).2⟩)) rx_g1 (vx_c (hF.2.2.1.use rfl) (vx_c (hF.2.2.2.1.use rfl) (vx_c (hF.2.2.2.2.1.use rfl) (vx_c (hF.2.2.2.2.2.use rfl) vx_n))))
def rx_XC (G : mi_G) (mem : mi_M) (sz : Nat) (o : Option Int32) : String → State → State → Prop := fun E st t => E = "java/util/NoSuchElementException" ∧ o = none ∧ va_P G.1 vwCl (mi_ws G mem) t.heap ∧ va_F (va_A (mi_ws G mem) sz) st t
def rx_Qo (mem : mi_M) (o : Option Int32) : Option mi_V → mi_M → Prop := fun r m' => ∃ x, o = some x ∧ r = some (vi x) ∧ m' = mem
/-- from pc, with these locals and this stack, rests answers o (none: it throws), all else as it was -/
def rx_E (pc : Nat) (ls : List (Nat × mi_V)) (st : List mi_V) (mem : mi_M) (o : Option Int32) : Prop :=
  ∀ (p : Program) (l : Launch) (e : Env) (R : Room) (s : State) (m : MethodId) (args : Array Value) (below : List Frame) (meth : Method) (c : Code) (H : Heap) (locs : List Loc) (G : mi_G) (lsm : Array Slot),
    mi_Cx mX11_rests 6 p R s m args meth c (va_A (mi_ws G mem) s.heap.size) G 1 6 → (l.stackTraces = false ∧ rx_F (va_A (mi_ws G mem) s.heap.size) s ∧ (∀ x ∈ c.exceptionTable.toList, False)) → va_P G.1 vwCl (mi_ws G mem) H → va_D (va_A (mi_ws G mem) s.heap.size) (mi_ws G mem) → va_S (va_A (mi_ws G mem) s.heap.size) s.heap H locs → lv_has lsm 6 (mi_lm G ls) →
      W p l e R s m args below meth c H locs 0 0 (vx_MQ below (mi_Qc G mem s.heap.size (rx_Qo mem o)) (rx_XC G mem s.heap.size o) args s 1 6 (va_A (mi_ws G mem) s.heap.size)) (F0 m pc lsm (st.map (mi_tv G.2.1)))
section RX
variable {pc : Nat} {ls ls' : List (Nat × mi_V)} {st : List mi_V} {mem : mi_M} {o : Option Int32}
theorem r_iconst {n : Int} {v : Int32} (hd : decode cX11_rests pc = .ok (.iconst n, 1)) (hv : Int32.ofInt n = v) (kk : rx_E (pc + 1) ls (vi v :: st) mem o) : rx_E pc ls (st) mem o := by
  intro p l e R s m args below meth c H locs G lsm C X hP hD hS hl
  exact lv_iconst C.1 C.2.1 hd hv (kk p l e R s m args below meth c H locs G lsm C X hP hD hS hl)
theorem r_bipush {n : Int} {v : Int32} (hd : decode cX11_rests pc = .ok (.bipush n, 2)) (hv : (Int8.ofInt n).toInt32 = v) (kk : rx_E (pc + 2) ls (vi v :: st) mem o) : rx_E pc ls (st) mem o := by
  intro p l e R s m args below meth c H locs G lsm C X hP hD hS hl
  exact lv_bipush C.1 C.2.1 hd hv (kk p l e R s m args below meth c H locs G lsm C X hP hD hS hl)
theorem r_iload {i : Nat} {x : Int32} (hd : decode cX11_rests pc = .ok (.iload i, 2)) (h : mi_lk ls i = some (vi x)) (kk : rx_E (pc + 2) ls (vi x :: st) mem o) : rx_E pc ls (st) mem o := by
  intro p l e R s m args below meth c H locs G lsm C X hP hD hS hl
  exact lv_iload C.1 C.2.1 hd (mi_lk_has hl h) (kk p l e R s m args below meth c H locs G lsm C X hP hD hS hl)
theorem r_iload_n {k : Fin 4} {x : Int32} (hd : decode cX11_rests pc = .ok (.iload_n k, 1)) (h : mi_lk ls (k : Nat) = some (vi x)) (kk : rx_E (pc + 1) ls (vi x :: st) mem o) : rx_E pc ls (st) mem o := by
  intro p l e R s m args below meth c H locs G lsm C X hP hD hS hl
  exact lv_iload_n C.1 C.2.1 hd rfl (mi_lk_has hl h) (kk p l e R s m args below meth c H locs G lsm C X hP hD hS hl)
theorem r_istore {i : Nat} {x : Int32} (hd : decode cX11_rests pc = .ok (.istore i, 2)) (hn : Nat.ble (i + 1) 6 = true) (hs : (i, vi x) :: mi_s1 i ls = ls') (kk : rx_E (pc + 2) ls' st mem o) : rx_E pc ls (vi x :: st) mem o := by
  intro p l e R s m args below meth c H locs G lsm C X hP hD hS hl
  exact lv_istore C.1 C.2.1 hd hl (Nat.le_of_ble_eq_true hn) (mi_s1_e G hs) (fun ls2 h2 => (kk p l e R s m args below meth c H locs G ls2 C X hP hD hS h2))
theorem r_iinc {i : Nat} {n : Int} {x v : Int32} (hd : decode cX11_rests pc = .ok (.iinc i n, 3)) (h : mi_lk ls i = some (vi x)) (hv : x + Int32.ofInt n = v) (hn : Nat.ble (i + 1) 6 = true) (hs : (i, vi v) :: mi_s1 i ls = ls') (kk : rx_E (pc + 3) ls' st mem o) : rx_E pc ls st mem o := by
  intro p l e R s m args below meth c H locs G lsm C X hP hD hS hl
  obtain ⟨k, hk⟩ := mi_lk_at (G := G) h
  exact lv_iinc C.1 C.2.1 hd hl hk hv (Nat.le_of_ble_eq_true hn) (mi_s1_e G hs) (fun ls2 h2 => (kk p l e R s m args below meth c H locs G ls2 C X hP hD hS h2))
theorem r_goto {off : Int} {tgt : Nat} (hd : decode cX11_rests pc = .ok (.goto off, 3)) (ht : (pc : Int) + off = (tgt : Int)) (kk : rx_E tgt ls st mem o) : rx_E pc ls st mem o := by
  intro p l e R s m args below meth c H locs G lsm C X hP hD hS hl
  exact lv_goto C.1 C.2.1 hd ht (kk p l e R s m args below meth c H locs G lsm C X hP hD hS hl)
theorem r_icmp_ge {x z : Int32} {off : Int} {tgt : Nat} (hd : decode cX11_rests pc = .ok (.if_icmp .ge off, 3)) (ht : (pc : Int) + off = (tgt : Int)) (kt : z ≤ x → rx_E tgt ls st mem o) (kf : ¬ z ≤ x → rx_E (pc + 3) ls st mem o) : rx_E pc ls (vi z :: vi x :: st) mem o := by
  intro p l e R s m args below meth c H locs G lsm C X hP hD hS hl
  exact lv_icmp_ge C.1 C.2.1 hd ht (fun h => (kt h p l e R s m args below meth c H locs G lsm C X hP hD hS hl)) (fun h => (kf h p l e R s m args below meth c H locs G lsm C X hP hD hS hl))
theorem r_icmp_eq {x z : Int32} {off : Int} {tgt : Nat} (hd : decode cX11_rests pc = .ok (.if_icmp .eq off, 3)) (ht : (pc : Int) + off = (tgt : Int)) (kt : x = z → rx_E tgt ls st mem o) (kf : ¬ x = z → rx_E (pc + 3) ls st mem o) : rx_E pc ls (vi z :: vi x :: st) mem o := by
  intro p l e R s m args below meth c H locs G lsm C X hP hD hS hl
  exact lv_icmp_eq C.1 C.2.1 hd ht (fun h => (kt h p l e R s m args below meth c H locs G lsm C X hP hD hS hl)) (fun h => (kf h p l e R s m args below meth c H locs G lsm C X hP hD hS hl))
theorem r_icmp_ne {x z : Int32} {off : Int} {tgt : Nat} (hd : decode cX11_rests pc = .ok (.if_icmp .ne off, 3)) (ht : (pc : Int) + off = (tgt : Int)) (kt : ¬ x = z → rx_E tgt ls st mem o) (kf : x = z → rx_E (pc + 3) ls st mem o) : rx_E pc ls (vi z :: vi x :: st) mem o := by
  intro p l e R s m args below meth c H locs G lsm C X hP hD hS hl
  exact lv_icmp_ne C.1 C.2.1 hd ht (fun h => (kt h p l e R s m args below meth c H locs G lsm C X hP hD hS hl)) (fun h => (kf h p l e R s m args below meth c H locs G lsm C X hP hD hS hl))
theorem r_if_eq {x : Int32} {off : Int} {tgt : Nat} (hd : decode cX11_rests pc = .ok (.ifCond .eq off, 3)) (ht : (pc : Int) + off = (tgt : Int)) (kt : x = 0 → rx_E tgt ls st mem o) (kf : ¬ x = 0 → rx_E (pc + 3) ls st mem o) : rx_E pc ls (vi x :: st) mem o := by
  intro p l e R s m args below meth c H locs G lsm C X hP hD hS hl
  exact lv_if_eq C.1 C.2.1 hd ht (fun h => (kt h p l e R s m args below meth c H locs G lsm C X hP hD hS hl)) (fun h => (kf h p l e R s m args below meth c H locs G lsm C X hP hD hS hl))
theorem r_if_ne {x : Int32} {off : Int} {tgt : Nat} (hd : decode cX11_rests pc = .ok (.ifCond .ne off, 3)) (ht : (pc : Int) + off = (tgt : Int)) (kt : ¬ x = 0 → rx_E tgt ls st mem o) (kf : x = 0 → rx_E (pc + 3) ls st mem o) : rx_E pc ls (vi x :: st) mem o := by
  intro p l e R s m args below meth c H locs G lsm C X hP hD hS hl
  exact lv_if_ne C.1 C.2.1 hd ht (fun h => (kt h p l e R s m args below meth c H locs G lsm C X hP hD hS hl)) (fun h => (kf h p l e R s m args below meth c H locs G lsm C X hP hD hS hl))
theorem r_callS {index n d' : Nat} {y' : mi_MD} {av : List mi_V} {a : Int32} (hd : decode cX11_rests pc = .ok (.invokestatic index, 3)) (hm : mi_ls RX11 index y' n) (hn : av.length = n) (hdd : d' < 6) (hst : Nat.ble (mi_sz st) 8 = true) (hc : mi_Ci d' y' av mem (fun x m' => x = a ∧ m' = mem)) (kk : rx_E (pc + 3) ls (vi a :: st) mem o) : rx_E pc ls (av.reverse ++ st) mem o := by
  intro p l e R s m args below meth c H locs G lsm C X hP hD hS hl
  obtain ⟨⟨w1, w2, w4, w5⟩, hnm, hmax⟩ := hm
  have hts := C.2.2.2.2.2.2.1
  have hAA := mi_AA (mem := mem) (G := G) C.2.2.2.2.2.2.2.2.1 hD hS
  obtain ⟨r1, r2, r3, r4⟩ := C.2.2.2.2.2.2.2.2.2.1
  have hM := hc l G H.size
  have cw : CallB R s args RX11 index y'.1 y'.2.1 y'.2.2.1 y'.2.2.2 (mi_yw y') (mi_rm d') 0 0 n := callB_of n hts (mi_goodY w5) rfl rfl rfl (hts _ w4) (hts _ w1) hnm ⟨by show d' + 1 ≤ _; omega, by show 8 + (y'.2.2.1 + 11) + 64 * d' ≤ _; omega⟩
  have hp : PreS s H (va_Pc (av.map (mi_tv G.2.1)) (mi_Wd G mem H.size)) (av.map (mi_tv G.2.1)) :=
    ⟨mi_blind, fun U hU hW => ⟨rfl, by rw [hU], by rw [hU]; exact hP, va_K.moved hW.alike C.2.2.2.2.2.2.2.1, ⟨hD.1, fun _ _ _ => trivial⟩, (C.2.2.2.2.2.2.2.2.2.2).at hS hU hW hAA⟩⟩
  have es : (av.reverse ++ st).map (mi_tv G.2.1) = (av.map (mi_tv G.2.1)).reverse ++ st.map (mi_tv G.2.1) := by
    rw [List.map_append, List.map_reverse]
  rw [es]
  have run := va_runS (p := p) (e := e) (R := R) (below := below) (meth := meth) (locs := locs) (cells := 0) (slots := 0) (rest := st.map (mi_tv G.2.1)) (g := F0 m pc lsm ((av.map (mi_tv G.2.1)).reverse ++ st.map (mi_tv G.2.1))) (S := ⟨C.1, C.2.1, C.2.2.1, C.2.2.2.2.2.1, hts⟩) hM ⟨cw, hts _ w2⟩ hp rfl (by rw [List.length_map]; exact hn) hl.1 rfl (lv_room (by rw [mi_szcat]; exact Nat.le_of_ble_eq_true hst)) hd ⟨by show 0 + 0 ≤ R.cells; omega, by show 0 + 0 ≤ R.slots; omega⟩
  intro T hT X2
  obtain ⟨v, st₀, t, T', L2, h0, X', hL, e1, e2, ⟨⟨r, m', hv, ⟨x, hr, rfl, hm'⟩, hP'⟩, hz', hkeep⟩, go⟩ := run T hT X2
  rw [h0] at hz' hkeep
  subst hm'
  subst hr
  have hS' : va_S (va_A (mi_ws G m') s.heap.size) s.heap T'.heap (locs ++ L2) := by
    refine ⟨Nat.le_trans hS.1 (by rw [e1]; exact hz'), fun q h1 h2 => ?_, fun q hq => ?_⟩
    · rw [e1, hkeep q (Nat.lt_of_lt_of_le h1 hS.1) (fun z => h2 (hAA q z))]
      exact hS.2.1 q h1 h2
    · rcases List.mem_append.mp hq with hq | hq
      · exact hS.2.2 q hq
      · exact hAA _ (hL q hq)
  have hv2 : v = some (.int x) := by injection hv
  subst hv2
  obtain ⟨t2, a1, b1⟩ := kk p l e R s m args below meth c T'.heap (locs ++ L2) G lsm C X (by rw [e1]; exact hP') hD hS' hl T' rfl X'
  exact ⟨t2, go t2 a1, b1⟩
theorem r_ret {v : Int32} (hd : decode cX11_rests pc = .ok (.ireturn, 1)) (ho : o = some v) : rx_E pc ls [vi v] mem o := by
  intro p l e R s m args below meth c H locs G lsm C X hP hD hS hl
  refine W.widen (Nat.zero_le 1) (Nat.zero_le 6) (vx_ret ?_)
  exact W.zret C.1 C.2.1 C.2.2.2.1 rfl (fun t ht hW => ⟨⟨some (vi v), mem, rfl, ⟨v, ho, rfl, rfl⟩, by rw [ht]; exact hP⟩, hS.F ht⟩) hS.2.2 hd (hlocks := C.2.2.2.2.1)
theorem r_throw (ho : o = none) (d0 : decode cX11_rests pc = .ok (.new 263, 3)) (d3 : decode cX11_rests (pc + 3) = .ok (.dup, 1)) (d4 : decode cX11_rests (pc + 4) = .ok (.invokespecial 265, 3)) (d7 : decode cX11_rests (pc + 7) = .ok (.athrow, 1)) : rx_E pc ls [] mem o := by
  intro p l e R s m args below meth c H locs G lsm C X hP hD hS hl
  obtain ⟨r1, r2, r3, r4⟩ := C.2.2.2.2.2.2.2.2.2.1
  have hts := C.2.2.2.2.2.2.1
  refine vx_throw0 (own := RX11) (cls := "java/util/NoSuchElementException") (names := ["java/lang/RuntimeException", "java/lang/Exception"]) (ik := 263) (ic := 265) (A := va_A (mi_ws G mem) s.heap.size) C.1 C.2.1 X.1 C.2.2.2.2.2.1 (by decide) (by decide) (hts _ (rx_in (by decide))) (hts _ (rx_in (by decide))) (rx_hat hts X.2.1) rx_g2 X.2.1.1 X.2.1.2.1 hS (hl.1.trans C.2.2.1.symm) d0 d3 d4 d7 (fun x hx => (X.2.2 x hx).elim) (by show 5 < R.frames; omega) (by show 0 + (13 * 3 + 42) ≤ R.locals; omega) (by omega) (by omega) C.2.2.2.2.1 ?_ hS.2.2 (by omega) (by omega)
  intro t hA hz hk
  refine ⟨rfl, ho, hP.kept (fun k q hq => hk _ (vx_lt hP hq)), Nat.le_trans hS.1 hz, fun q h1 h2 => ?_⟩
  rw [hk q (Nat.lt_of_lt_of_le h1 hS.1)]
  exact hS.2.1 q h1 h2
end RX
/-- what rests does: none out of f: something within has no answer; some none: it throws -/
noncomputable def rs_go (p0 p1 p2 : Int32) (mem : mi_M) : Nat → Int32 → Int32 → Option (Option Int32)
  | 0, n, _ => some (if p2 = -1 then some n else none)
  | k + 1, n, c => (f_X11_isRest p0 p1 c mem).bind fun b => if b = 0 then rs_go p0 p1 p2 mem k n (c + 1) else if n = p2 then some (some c) else rs_go p0 p1 p2 mem k (n + 1) (c + 1)
noncomputable def rs_f (p0 p1 p2 : Int32) (mem : mi_M) : Option (Option Int32) :=
  (f_X11_isWithin p0 0 9 mem).bind fun a => if a = 0 then some none else (f_X11_isWithin p1 0 9 mem).bind fun b => if b = 0 then some none else rs_go p0 p1 p2 mem 4 0 0
def rs_ls (p0 p1 p2 n c : Int32) : List (Nat × mi_V) := [(5, vi c), (4, vi n), (0, vr 11 0), (1, vi p0), (2, vi p1), (3, vi p2)]
theorem rs_e68 {p0 p1 p2 n c : Int32} {mem : mi_M} {o : Option Int32} (h : (if p2 = -1 then some n else none) = o) : rx_E 68 (rs_ls p0 p1 p2 n c) [] mem o := by
  refine r_iload_n dX11_rests_68 rfl ?_
  refine r_iconst (v := -1) dX11_rests_69 rfl ?_
  refine r_icmp_eq dX11_rests_70 (tgt := 81) rfl (fun q => ?_) (fun q => ?_)
  · refine r_iload dX11_rests_81 rfl ?_
    exact r_ret dX11_rests_83 (by rw [← h, if_pos q])
  · exact r_throw (by rw [← h, if_neg q]) dX11_rests_73 dX11_rests_76 dX11_rests_77 dX11_rests_80
theorem rs_loop {p0 p1 p2 : Int32} {mem : mi_M} {o : Option Int32} : ∀ (k : Nat) (n c : Int32), c = nI (4 - k) → k ≤ 4 → rs_go p0 p1 p2 mem k n c = some o → rx_E 34 (rs_ls p0 p1 p2 n c) [] mem o := by
  intro k
  induction k with
  | zero =>
    intro n c hc hk h
    refine r_iload dX11_rests_34 rfl ?_
    refine r_iconst dX11_rests_36 rfl ?_
    refine r_icmp_ge dX11_rests_37 (tgt := 68) rfl (fun _ => rs_e68 (Option.some.inj h)) (fun q => absurd (by rw [hc]; decide) q)
  | succ k ih =>
    intro n c hc hk h
    have hc2 : c + 1 = nI (4 - k) := by
      rw [hc, show 4 - k = (4 - (k + 1)) + 1 by omega, nI_succ]
    refine r_iload dX11_rests_34 rfl ?_
    refine r_iconst dX11_rests_36 rfl ?_
    refine r_icmp_ge dX11_rests_37 (tgt := 68) rfl (fun q => absurd q (by rw [hc]; exact nI_ge (b := 4) (by omega) (by omega))) (fun _ => ?_)
    refine r_iload_n dX11_rests_40 rfl ?_
    refine r_iload_n dX11_rests_41 rfl ?_
    refine r_iload dX11_rests_42 rfl ?_
    unfold rs_go at h
    cases hb : f_X11_isRest p0 p1 c mem with
    | none => rw [hb] at h; cases h
    | some b =>
      rw [hb] at h
      simp only [Option.bind_some] at h
      refine r_callS (av := [vi p0, vi p1, vi c]) (st := []) dX11_rests_44 lX11_266 rfl (by decide) rfl (w_X11_isRest p0 p1 c mem b hb) ?_
      refine r_if_eq dX11_rests_47 (tgt := 62) rfl (fun q => ?_) (fun q => ?_)
      · rw [if_pos q] at h
        refine r_iinc dX11_rests_62 rfl rfl rfl rfl ?_
        refine r_goto dX11_rests_65 (tgt := 34) rfl ?_
        exact ih n (c + 1) hc2 (by omega) h
      · rw [if_neg q] at h
        refine r_iload dX11_rests_50 rfl ?_
        refine r_iload_n dX11_rests_52 rfl ?_
        refine r_icmp_ne dX11_rests_53 (tgt := 59) rfl (fun q2 => ?_) (fun q2 => ?_)
        · rw [if_neg q2] at h
          refine r_iinc dX11_rests_59 rfl rfl rfl rfl ?_
          refine r_iinc dX11_rests_62 rfl rfl rfl rfl ?_
          refine r_goto dX11_rests_65 (tgt := 34) rfl ?_
          exact ih (n + 1) (c + 1) hc2 (by omega) h
        · rw [if_pos q2] at h
          refine r_iload dX11_rests_56 rfl ?_
          exact r_ret dX11_rests_58 (Option.some.inj h).symm
theorem rs_body {p0 p1 p2 : Int32} {mem : mi_M} {o : Option Int32} (h : rs_f p0 p1 p2 mem = some o) : rx_E 0 [(0, vr 11 0), (1, vi p0), (2, vi p1), (3, vi p2)] [] mem o := by
  unfold rs_f at h
  cases ha : f_X11_isWithin p0 0 9 mem with
  | none => rw [ha] at h; cases h
  | some a =>
    rw [ha] at h
    simp only [Option.bind_some] at h
    refine r_iload_n dX11_rests_0 rfl ?_
    refine r_iconst dX11_rests_1 rfl ?_
    refine r_bipush dX11_rests_2 rfl ?_
    refine r_callS (av := [vi p0, vi 0, vi 9]) (st := []) dX11_rests_4 lX11_155 rfl (by decide) rfl (w_X11_isWithin p0 0 9 mem a ha) ?_
    refine r_if_eq dX11_rests_7 (tgt := 20) rfl (fun q => ?_) (fun q => ?_)
    · rw [if_pos q] at h
      exact r_throw (Option.some.inj h).symm dX11_rests_20 dX11_rests_23 dX11_rests_24 dX11_rests_27
    · rw [if_neg q] at h
      cases hb : f_X11_isWithin p1 0 9 mem with
      | none => rw [hb] at h; cases h
      | some b =>
        rw [hb] at h
        simp only [Option.bind_some] at h
        refine r_iload_n dX11_rests_10 rfl ?_
        refine r_iconst dX11_rests_11 rfl ?_
        refine r_bipush dX11_rests_12 rfl ?_
        refine r_callS (av := [vi p1, vi 0, vi 9]) (st := []) dX11_rests_14 lX11_155 rfl (by decide) rfl (w_X11_isWithin p1 0 9 mem b hb) ?_
        refine r_if_ne dX11_rests_17 (tgt := 28) rfl (fun q2 => ?_) (fun q2 => ?_)
        · rw [if_neg q2] at h
          refine r_iconst dX11_rests_28 rfl ?_
          refine r_istore dX11_rests_29 rfl rfl ?_
          refine r_iconst dX11_rests_31 rfl ?_
          refine r_istore dX11_rests_32 rfl rfl ?_
          exact rs_loop 4 0 0 rfl (by omega) h
        · rw [if_pos q2] at h
          exact r_throw (Option.some.inj h).symm dX11_rests_20 dX11_rests_23 dX11_rests_24 dX11_rests_27
abbrev rx_rm : Room := { frames := 6, cells := 1, slots := 6, locals := 384 }
def rx_Wd (G : mi_G) (mem : mi_M) (sz : Nat) (U : State) : Prop := mi_Wd G mem sz U ∧ rx_F (va_A (mi_ws G mem) sz) U
theorem rx_blind {G : mi_G} {mem : mi_M} {sz : Nat} {av : List Value} : FrameBlind (va_Pc av (rx_Wd G mem sz)) := fun a U g mk q => by
  obtain ⟨q0, ⟨q1, q2, q3, q4, q5⟩, q6⟩ := q
  exact ⟨q0, ⟨q1, q2, va_K.moved (u := U) (U := U.calling g mk a) (Vm.Alike.refl U.vm) q3, q4, q5.calling⟩, q6.calling⟩
theorem rx_met {p0 p1 p2 : Int32} {mem : mi_M} {o : Option Int32} (h : rs_f p0 p1 p2 mem = some o) (l : Launch) (hl0 : l.stackTraces = false) (G : mi_G) (sz : Nat) :
    vx_Met l yX11_rests (mi_yw mX11_rests) rx_rm (va_Pc ([vr 11 0, vi p0, vi p1, vi p2].map (mi_tv G.2.1)) (rx_Wd G mem sz)) (mi_Qc G mem sz (rx_Qo mem o)) (rx_XC G mem sz o) 1 6 (va_A (mi_ws G mem) sz) := by
  refine vx_ofW (cc := cX11_rests) (maxL := 6) (ret := some .int) (by decide) rfl ?_
  intro p e s m args below meth c s₁ B hml ht hv
  obtain ⟨rfl, ⟨hsz', hP, hK, hD0, hSt⟩, hF⟩ := hv
  subst hsz'
  have hts := atoms_spec (ws := mi_yw mX11_rests) B.pre
  have hown : s.vm.findClass RX11 = some m.cls := findClass_of_methodNamed B.named
  have hD := hD0.self (sz := s.heap.size)
  have hS : va_S (va_A (mi_ws G mem) s.heap.size) s.heap s.heap [] := va_S.rf
  have hl := lv_entry ([vr 11 0, vi p0, vi p1, vi p2].map (mi_tv G.2.1)) (n := 6) (by rw [mi_sz_eq]; exact Nat.le_of_ble_eq_true rfl)
  rw [lg_entry_eq]
  rw [mi_en_eq] at hl
  exact rs_body h p l e _ s m _ below meth c s.heap [] G _ ⟨B.exec, B.bytes, hml, B.returns, B.notSynchronized, hown, fun w hw => hts w (List.mem_cons_of_mem _ hw), hK, fun q hq => Or.inr hq, ⟨Nat.le_refl _, Nat.le_refl _, Nat.le_refl _, Nat.le_refl _⟩, hSt⟩ ⟨hl0, hF, ht⟩ hP hD hS hl
/-- the law's row out beside the world -/
def rl_ws (G : mi_G) (N0 : Nat) (mem : mi_M) (g : Int64) : va_W := mi_ws G mem ++ [(N0 + 225, .inl (G.2.2 1, 1, .inr (.inl (fun _ => g))))]
theorem rl_at {G : mi_G} {N0 : Nat} {mem : mi_M} {g : Int64} : (rl_ws G N0 mem g)[(mi_ws G mem).length]? = some (N0 + 225, .inl (G.2.2 1, 1, .inr (.inl (fun _ => g)))) := by
  unfold rl_ws
  rw [List.getElem?_append_right (Nat.le_refl _)]
  simp
theorem rl_lo {G : mi_G} {N0 : Nat} {mem : mi_M} {g : Int64} {k : Nat} {q : Nat × va_E} (h : (mi_ws G mem)[k]? = some q) : (rl_ws G N0 mem g)[k]? = some q := by
  unfold rl_ws
  rw [List.getElem?_append_left (List.getElem?_eq_some_iff.mp h).1]
  exact h
theorem rl_P {G : mi_G} {N0 : Nat} {mem : mi_M} {g : Int64} {H : Heap} (h : va_P G.1 vwCl (rl_ws G N0 mem g) H) : va_P G.1 vwCl (mi_ws G mem) H := fun _ _ hk => h _ _ (rl_lo hk)
theorem rl_D {G : mi_G} {N0 : Nat} {mem : mi_M} {g : Int64} {A : Nat → Prop} (h : va_D A (rl_ws G N0 mem g)) : va_D A (mi_ws G mem) := ⟨fun i j p q h1 h2 => h.1 i j p q (rl_lo h1) (rl_lo h2), fun _ _ hk => h.2 _ _ (rl_lo hk)⟩
theorem rl_A {G : mi_G} {N0 : Nat} {mem : mi_M} {g : Int64} {sz q : Nat} (h : va_A (mi_ws G mem) sz q) : va_A (rl_ws G N0 mem g) sz q := by
  rcases h with ⟨k, e, h⟩ | h
  · exact Or.inl ⟨k, e, rl_lo h⟩
  · exact Or.inr h
abbrev rl_rm : Room := { frames := 8, cells := 1, slots := 6, locals := 512 }
def rl_Wd (G : mi_G) (N0 : Nat) (mem : mi_M) (g : Int64) (sz : Nat) (U : State) : Prop := U.heap.size = sz ∧ va_P G.1 vwCl (rl_ws G N0 mem g) U.heap ∧ va_K G.1 vwCl (mi_tys G) U ∧ va_D (fun _ => True) (rl_ws G N0 mem g) ∧ mi_St G (va_A (rl_ws G N0 mem g) sz) U ∧ rx_F (va_A (rl_ws G N0 mem g) sz) U
theorem rl_blind {G : mi_G} {N0 : Nat} {mem : mi_M} {g : Int64} {sz : Nat} {av : List Value} : FrameBlind (va_Pc av (rl_Wd G N0 mem g sz)) := fun a U fr mk q => by
  obtain ⟨q0, q1, q2, q3, q4, q5, q6⟩ := q
  exact ⟨q0, q1, q2, va_K.moved (u := U) (U := U.calling fr mk a) (Vm.Alike.refl U.vm) q3, q4, q5.calling, q6.calling⟩
def rl_k (o : Option Int32) : Int32 := match o with | none => 1 | some _ => 0
def rl_g (o : Option Int32) (g : Int64) : Int64 := match o with | none => g | some x => x.toInt64
def rl_Qc (G : mi_G) (N0 : Nat) (mem : mi_M) (g : Int64) (sz : Nat) (o : Option Int32) : Array Value → State → Outcome → State → Prop := fun _ st oc t =>
  (oc = .returned (some (.int (rl_k o))) ∧ va_P G.1 vwCl (rl_ws G N0 mem (rl_g o g)) t.heap) ∧ va_F (va_A (rl_ws G N0 mem g) sz) st t
abbrev rl_yw : List Cond := Cond.codeWith yL_rests cL_rests 6 (some .int) [(0, 12, 15, 13)] :: mi_T
theorem rl_met {p0 p1 p2 : Int32} {mem : mi_M} {o : Option Int32} (h : rs_f p0 p1 p2 mem = some o) (l : Launch) (hl0 : l.stackTraces = false) (G : mi_G) (N0 : Nat) (g : Int64) (sz : Nat) :
    Met l yL_rests rl_yw rl_rm (va_Pc [.ref (G.2.1 11 0), .int p0, .int p1, .int p2, .ref (N0 + 225)] (rl_Wd G N0 mem g sz)) (rl_Qc G N0 mem g sz o) 1 6 (va_A (rl_ws G N0 mem g) sz) := by
  refine va_MetW (cc := cL_rests) (maxL := 6) (ret := some .int) (hh := [(0, 12, 15, 13)]) (by decide) rfl ?_
  intro p e s m args below meth c s₁ B hml hv
  obtain ⟨rfl, hsz', hP, hK, hD0, hSt, hF⟩ := hv
  subst hsz'
  have hts0 := atoms_spec (ws := rl_yw) B.pre
  have hts : ∀ w ∈ mi_T, w.before _ s = true := fun w hw => hts0 w (List.mem_cons_of_mem _ hw)
  have htab := vx_table (x := yL_rests) B (hts0 _ List.mem_cons_self)
  have hown : s.vm.findClass RL = some m.cls := findClass_of_methodNamed B.named
  have hD := hD0.self (sz := s.heap.size)
  have hS : va_S (va_A (rl_ws G N0 mem g) s.heap.size) s.heap s.heap [] := va_S.rf
  have hl := lv_entry [.ref (G.2.1 11 0), .int p0, .int p1, .int p2, .ref (N0 + 225)] (n := 6) (Nat.le_of_ble_eq_true rfl)
  rw [lg_entry_eq]
  generalize hls : ((lg_sl [.ref (G.2.1 11 0), .int p0, .int p1, .int p2, .ref (N0 + 225)] ++ List.replicate (6 - (lg_sl [.ref (G.2.1 11 0), .int p0, .int p1, .int p2, .ref (N0 + 225)]).length) Slot.unset).toArray) = lsm at hl
  have l0 : lsm[0]? = some (.val (.ref (G.2.1 11 0))) := hl.2.2 (0, _) (by simp [lv_args, Value.category])
  have l1 : lsm[1]? = some (.val (.int p0)) := hl.2.2 (1, _) (by simp [lv_args, Value.category])
  have l2 : lsm[2]? = some (.val (.int p1)) := hl.2.2 (2, _) (by simp [lv_args, Value.category])
  have l3 : lsm[3]? = some (.val (.int p2)) := hl.2.2 (3, _) (by simp [lv_args, Value.category])
  have l4 : lsm[4]? = some (.val (.ref (N0 + 225))) := hl.2.2 (4, _) (by simp [lv_args, Value.category])
  have hr := B.returns
  have hlocks := B.notSynchronized
  refine lv_aload B.exec B.bytes dL_rests_0 l4 ?_
  refine lv_iconst (v := 0) B.exec B.bytes dL_rests_2 rfl ?_
  refine lv_aload_n B.exec B.bytes dL_rests_3 rfl l0 ?_
  refine lv_iload_n B.exec B.bytes dL_rests_4 rfl l1 ?_
  refine lv_iload_n B.exec B.bytes dL_rests_5 rfl l2 ?_
  refine lv_iload_n B.exec B.bytes dL_rests_6 rfl l3 ?_
  obtain ⟨⟨hk13, hcls⟩, ⟨w1, w2, w3, w4, w5⟩, hnm, hmax⟩ := lL_7
  have hM := rx_met h l hl0 G s.heap.size
  have cw : CallW (headSpec rl_yw rl_rm).room s _ RL RX11 7 yX11_rests cX11_rests 6 (some .int) (mi_yw mX11_rests) rx_rm 1 6 3 := ⟨callB_of 3 hts (mi_goodY w5) rfl rfl rfl (hts _ w4) (hts _ w1) hnm ⟨by show 6 + 1 ≤ 8; omega, by show 8 + (6 + 11) + 384 ≤ 512; omega⟩, hts _ w2, hts _ w3⟩
  obtain ⟨q, hq⟩ := mi_at (k := 11) (i := 0) (by decide)
  have he := mi_ws_at (G := G) (m := mem) hq
  rw [mi_c_o hk13] at he
  have hp : PreV s s.heap RX11 (G.2.1 11 0) (va_Pc ([vr 11 0, vi p0, vi p1, vi p2].map (mi_tv G.2.1)) (rx_Wd G mem s.heap.size)) [.int p0, .int p1, .int p2] := by
    refine ⟨rx_blind, ?_, fun U hU hW => ⟨rfl, ⟨by rw [hU], by rw [hU]; exact rl_P hP, va_K.moved hW.alike hK, rl_D hD0, hSt.at hS hU hW (fun _ => rl_A)⟩, hF.at hS hU hW (fun _ => rl_A)⟩⟩
    have := va_recv hK (rl_P hP) (mi_cl 11 hk13) he
    rw [← hcls] at this
    exact this
  have run := vx_runV (p := p) (e := e) (R := (headSpec rl_yw rl_rm).room) (below := below) (meth := meth) (locs := []) (cells := 0) (slots := 0) (rest := [.int 0, .ref (N0 + 225)]) (g := F0 m 7 lsm [.int p2, .int p1, .int p0, .ref (G.2.1 11 0), .int 0, .ref (N0 + 225)]) (S := ⟨B.exec, B.bytes, hml, hown, hts⟩) hM cw hp rfl rfl hl.1 rfl (lv_room (Nat.le_of_ble_eq_true rfl)) dL_rests_7 ⟨by show 0 + 1 ≤ 1; omega, by show 0 + 6 ≤ 6; omega⟩
  intro T hT X2
  rcases run T hT X2 with ⟨v, st₀, t, T', L2, h0, X', hL, e1, e2, ⟨⟨r, m', hv, ⟨x, ho, hr', hm'⟩, hP'⟩, hz', hkeep⟩, go⟩ | ⟨q9, st₀, t, T', L2, E, ce, h0, X', hL, e1, e2, ⟨hE, ho, hP', hz', hkeep⟩, hce, hcv, hcl, go⟩
  · rw [h0] at hz' hkeep
    subst hm' hr' ho
    have hv2 : v = some (.int x) := by injection hv
    subst hv2
    have hnA : ¬ va_A (mi_ws G m') s.heap.size (N0 + 225) := by
      rintro (⟨k, ee, hk⟩ | hge)
      · have h1 := hD0.1 _ _ _ _ (rl_lo (N0 := N0) (g := g) hk) rl_at rfl
        have h2 := (List.getElem?_eq_some_iff.mp hk).1
        omega
      · have := vx_lt hP rl_at
        simp only at this
        omega
    have hP2 : va_P G.1 vwCl (rl_ws G N0 m' g) T'.heap := by
      refine va_P.app (by rw [e1]; exact hP') ?_
      intro k q hk
      cases k with
      | succ k => simp at hk
      | zero =>
        simp at hk
        subst hk
        have h3 := hP _ _ (rl_at (G := G) (N0 := N0) (mem := m') (g := g))
        refine h3.kept ?_
        rw [e1]
        exact hkeep _ (vx_lt hP rl_at) hnA
    have hS' : va_S (va_A (rl_ws G N0 m' g) s.heap.size) s.heap T'.heap ([] ++ L2) := by
      refine ⟨by rw [e1]; exact hz', fun q h1 h2 => ?_, fun q hq => ?_⟩
      · rw [e1, hkeep q h1 (fun z => h2 (rl_A z))]
      · exact rl_A (hL q (by simpa using hq))
    have kk : W p l e (headSpec rl_yw rl_rm).room s m ([.ref (G.2.1 11 0), .int p0, .int p1, .int p2, .ref (N0 + 225)] : List Value).toArray below meth c T'.heap ([] ++ L2) (0 + 1) (0 + 6) (MQ below (rl_Qc G N0 m' g s.heap.size (some x)) ([.ref (G.2.1 11 0), .int p0, .int p1, .int p2, .ref (N0 + 225)] : List Value).toArray s 1 6 (va_A (rl_ws G N0 m' g) s.heap.size)) (F0 m 10 lsm [.int x, .int 0, .ref (N0 + 225)]) := by
      refine lv_i2l B.exec B.bytes dL_rests_10 rfl ?_
      refine va_last B.exec B.bytes hK hP2 hD hS' (mi_ws G m').length 1 rl_at rfl (by unfold vp_in; decide) dL_rests_11 (fun H1 locs1 hP1 hD1 hS1 => ?_)
      refine lv_goto B.exec B.bytes dL_rests_12 (tgt := 19) rfl ?_
      refine lv_iconst (v := 0) B.exec B.bytes dL_rests_19 rfl ?_
      refine W.zret B.exec B.bytes hr rfl (fun t ht hW => ⟨⟨rfl, ?_⟩, hS1.F ht⟩) hS1.2.2 dL_rests_20
      rw [ht]
      have ew : (rl_ws G N0 m' g).set (mi_ws G m').length (N0 + 225, .inl (G.2.2 1, 1, .inr (.inl (vp_updL (fun _ => g) (0 : Int32).toNatClampNeg x.toInt64)))) = (mi_ws G m') ++ [(N0 + 225, .inl (G.2.2 1, 1, .inr (.inl (vp_updL (fun _ => g) (0 : Int32).toNatClampNeg x.toInt64))))] := by
        unfold rl_ws
        rw [List.set_append_right _ _ (Nat.le_refl _), Nat.sub_self]
        rfl
      rw [ew] at hP1
      refine va_P.app (fun k q hk => hP1 k q (by rw [List.getElem?_append_left (List.getElem?_eq_some_iff.mp hk).1]; exact hk)) ?_
      intro k q hk
      cases k with
      | succ k => simp at hk
      | zero =>
        have h5 := hP1 (mi_ws G m').length (N0 + 225, .inl (G.2.2 1, 1, .inr (.inl (vp_updL (fun _ => g) (0 : Int32).toNatClampNeg x.toInt64)))) (by rw [List.getElem?_append_right (Nat.le_refl _)]; simp)
        simp at hk
        subst hk
        have e7 : H1[N0 + 225]? = some (vp_cell (G.2.2 1) (1, .inr (.inl (vp_updL (fun _ => g) (0 : Int32).toNatClampNeg x.toInt64)))) := h5
        show H1[N0 + 225]? = some (vp_cell (G.2.2 1) (1, .inr (.inl (fun _ => x.toInt64))))
        rw [e7]
        rfl
    obtain ⟨t2, a1, b1⟩ := kk T' rfl X'
    exact ⟨t2, go t2 a1, b1⟩
  · rw [h0] at hz' hkeep
    subst hE ho
    have hnA : ¬ va_A (mi_ws G mem) s.heap.size (N0 + 225) := by
      rintro (⟨k, ee, hk⟩ | hge)
      · have h1 := hD0.1 _ _ _ _ (rl_lo (N0 := N0) (g := g) hk) rl_at rfl
        have h2 := (List.getElem?_eq_some_iff.mp hk).1
        omega
      · have := vx_lt hP rl_at
        simp only at this
        omega
    have hP2 : va_P G.1 vwCl (rl_ws G N0 mem g) T'.heap := by
      refine va_P.app (by rw [e1]; exact hP') ?_
      intro k q hk
      cases k with
      | succ k => simp at hk
      | zero =>
        simp at hk
        subst hk
        have h3 := hP _ _ (rl_at (G := G) (N0 := N0) (mem := mem) (g := g))
        refine h3.kept ?_
        rw [e1]
        exact hkeep _ (vx_lt hP rl_at) hnA
    have hS' : va_S (va_A (rl_ws G N0 mem g) s.heap.size) s.heap T'.heap ([] ++ L2) := by
      refine ⟨by rw [e1]; exact hz', fun q h1 h2 => ?_, fun q hq => ?_⟩
      · rw [e1, hkeep q h1 (fun z => h2 (rl_A z))]
      · exact rl_A (hL q (by simpa using hq))
    have kk : vx_W p l e (headSpec rl_yw rl_rm).room s m ([.ref (G.2.1 11 0), .int p0, .int p1, .int p2, .ref (N0 + 225)] : List Value).toArray below meth c T'.heap ([] ++ L2) (0 + 1) (0 + 6) (MQ below (rl_Qc G N0 mem g s.heap.size none) ([.ref (G.2.1 11 0), .int p0, .int p1, .int p2, .ref (N0 + 225)] : List Value).toArray s 1 6 (va_A (rl_ws G N0 mem g) s.heap.size)) (F0 m 7 lsm [.int 0, .ref (N0 + 225)]) q9 := by
      refine vx_catch (own := RL) (name := "java/util/NoSuchElementException") (E := "java/util/NoSuchElementException") (ce := ce) hown [] ⟨0, 12, 15, 13⟩ [] (by rw [htab]; rfl) (fun z hz => nomatch hz) (by decide) (by decide) (hts _ (rx_in (by decide))) (hF.2.2.2.2.2.use rfl) (by rw [e1]; exact hce) hcv hcl ?_
      refine lv_astore B.exec B.bytes dL_rests_15 hl (by decide) rfl (fun ls2 h2 => ?_)
      refine lv_iconst (v := 1) B.exec B.bytes dL_rests_17 rfl ?_
      exact W.zret B.exec B.bytes hr rfl (fun t ht hW => ⟨⟨rfl, by rw [ht]; exact hP2⟩, hS'.F ht⟩) hS'.2.2 dL_rests_18
    obtain ⟨t2, a1, b1⟩ := kk T' rfl X'
    exact ⟨t2, go.trans a1, b1⟩
/-! the law's case 29 -/
def rx_Ex (l : Launch) (s : State) : Prop := l.stackTraces = false ∧ rx_F (fun q => s.heap.size ≤ q) s
def ob_rests (Rel : mi_M → Prop) : Prop := ∀ (a0 a1 a2 : Int32) (mem : mi_M), Rel mem → ∃ (oo : Option Int32) (r : Int32) (m2 : mi_M), rs_f a0 a1 a2 mem = some oo ∧ f_X12_rests a0 a1 a2 mem = some (r, m2) ∧ f_X12_thrown m2 = some (rl_k oo) ∧ (∀ x, oo = some x → x = r) ∧ Rel m2
section RY
variable {G : mi_G} {N0 b L pc nc ns : Nat} {xs : Nat → Int32} {Ex : Launch → State → Prop} {ls : List (Nat × mi_V)} {st : List mi_V} {mem : mi_M} {g : Int64}
theorem l_oload (hd : decode code pc = .ok (.laload, 1)) (kk : mi_L G N0 b L xs Ex (pc + 1) ls (vl g :: st) mem g nc ns) : mi_L G N0 b L xs Ex pc ls (vi 0 :: vr 311 0 :: st) mem g nc ns := by
  intro p l e s m below meth c H locs lsm C X hP hD hS hO hl
  show W p l e room_1 s m #[Value.ref b] below meth c H locs nc ns (lw_Z below #[Value.ref b] s) (F0 m pc lsm (.int 0 :: .ref (G.2.1 311 0) :: st.map (mi_tv G.2.1)))
  rw [C.2.2.2.2.2.2.2.2.2.2.2.2.2.2]
  have hP1 : va_P G.1 vwCl [(N0 + 225, .inl (G.2.2 1, 1, .inr (.inl (fun _ => g))))] H := by
    intro k q hk
    cases k with
    | succ k => simp at hk
    | zero =>
      simp at hk
      subst hk
      exact hO
  exact va_lald C.1 C.2.1 C.2.2.2.2.2.2.2.1 hP1 0 1 rfl rfl (by unfold vp_in; decide) hd (kk p l e s m below meth c H locs lsm C X hP hD hS hO hl)
theorem l_rests {p0 p1 p2 : Int32} {oo : Option Int32} (hd : decode code pc = .ok (.invokestatic 144, 3)) (hc : rs_f p0 p1 p2 mem = some oo) (hst : Nat.ble (mi_sz st) 8 = true) (hc1 : nc + 1 ≤ 601024) (hs1 : ns + 6 ≤ 7293034) (kk : mi_L G N0 b L xs rx_Ex (pc + 3) ls (vi (rl_k oo) :: st) mem (rl_g oo g) (nc + 1) (ns + 6)) : mi_L G N0 b L xs rx_Ex pc ls (vr 311 0 :: vi p2 :: vi p1 :: vi p0 :: vr 11 0 :: st) mem g nc ns := by
  intro p l e s m below meth c H locs lsm C X hP hD hS hO hl
  have hts := C.2.2.2.2.2.2.1
  have hne := (C.2.2.2.2.2.2.2.2.2.2.2.2.2).1
  have hN0 := C.2.2.2.2.2.2.2.2.2.2.2.1
  show W p l e room_1 s m #[Value.ref b] below meth c H locs nc ns (lw_Z below #[Value.ref b] s) (F0 m pc lsm (.ref (G.2.1 311 0) :: .int p2 :: .int p1 :: .int p0 :: .ref (G.2.1 11 0) :: st.map (mi_tv G.2.1)))
  rw [C.2.2.2.2.2.2.2.2.2.2.2.2.2.2]
  have hP2 : va_P G.1 vwCl (rl_ws G N0 mem g) H := by
    refine va_P.app hP ?_
    intro k q hk
    cases k with
    | succ k => simp at hk
    | zero =>
      simp at hk
      subst hk
      exact hO
  have hD2 : va_D (fun q => s.heap.size ≤ q) (rl_ws G N0 mem g) := by
    refine va_D.app hD ⟨fun i j p q h1 h2 _ => ?_, fun k q hk => ?_⟩ (fun i j p q h1 h2 => ?_)
    · cases i with
      | succ i => simp at h1
      | zero =>
        cases j with
        | succ j => simp at h2
        | zero => rfl
    · cases k with
      | succ k => simp at hk
      | zero =>
        simp at hk
        subst hk
        show s.heap.size ≤ N0 + 225
        omega
    · cases j with
      | succ j => simp at h2
      | zero =>
        simp at h2
        subst h2
        unfold mi_ws at h1
        obtain ⟨z, hz, hze⟩ := List.mem_map.mp (List.mem_of_getElem? h1)
        rw [← hze]
        exact hne z hz
  have hAA : ∀ q, va_A (rl_ws G N0 mem g) H.size q → s.heap.size ≤ q := by
    intro q h
    rcases h with ⟨k, e, h⟩ | h
    · exact hD2.2 k (q, e) h
    · exact Nat.le_trans hS.1 h
  have hM := rl_met hc l X.1 G N0 g H.size
  have hcw : Cond.codeWith yL_rests cL_rests 6 (some .int) [(0, 12, 15, 13)] ∈ mi_T := rx_in (by decide)
  have hg2 : GoodIn mi_T rl_yw := fun w hw => (List.mem_cons.mp hw).elim (fun e => by rw [e]; exact mi_goodT _ hcw) (fun h => mi_goodT w h)
  have hws : GoodIn mi_T (va_wsS RL 144 yL_rests rl_yw) := by
    intro w hw
    unfold va_wsS at hw
    rcases List.mem_append.mp hw with h | h
    · simp only [List.mem_cons, List.not_mem_nil, or_false] at h
      rcases h with rfl | rfl | rfl <;> exact mi_goodT _ (rx_in (by decide))
    · exact hg2 w h
  have cw : vx_CSW room_1 s #[Value.ref b] RL 144 yL_rests cL_rests 6 (some .int) [(0, 12, 15, 13)] rl_yw rl_rm 1 6 5 := vx_cwSW 5 hts hws rfl rfl rfl ⟨by decide, by decide, by decide⟩ ⟨by show 8 + 1 ≤ 2048; omega, by show 8 + (6 + 11) + 512 ≤ 84000; omega⟩
  have hp : PreS s H (va_Pc [.ref (G.2.1 11 0), .int p0, .int p1, .int p2, .ref (N0 + 225)] (rl_Wd G N0 mem g H.size)) [.ref (G.2.1 11 0), .int p0, .int p1, .int p2, .ref (N0 + 225)] :=
    ⟨rl_blind, fun U hU hW => ⟨rfl, by rw [hU], by rw [hU]; exact hP2, va_K.moved hW.alike C.2.2.2.2.2.2.2.1, ⟨hD2.1, fun _ _ _ => trivial⟩, (C.2.2.2.2.2.2.2.2.2.2.1).at hS hU hW hAA, X.2.at hS hU hW hAA⟩⟩
  have run := vx_runSW (p := p) (e := e) (R := room_1) (below := below) (meth := meth) (locs := locs) (cells := nc) (slots := ns) (rest := st.map (mi_tv G.2.1)) (g := F0 m pc lsm (.ref (N0 + 225) :: .int p2 :: .int p1 :: .int p0 :: .ref (G.2.1 11 0) :: st.map (mi_tv G.2.1))) (S := ⟨C.1, C.2.1, C.2.2.1, C.2.2.2.2.2.1, hts⟩) hM cw hp rfl rfl hl.1 rfl (lv_room (by rw [mi_szcat]; exact Nat.le_of_ble_eq_true hst)) hd ⟨by show nc + 1 ≤ 601024; omega, by show ns + 6 ≤ 7293034; omega⟩
  intro T hT X2
  obtain ⟨v, st₀, t, T', L2, h0, X', hL, e1, e2, ⟨⟨hv, hP'⟩, hz', hkeep⟩, go⟩ := run T hT X2
  rw [h0] at hz' hkeep
  have hv2 : v = some (.int (rl_k oo)) := by injection hv
  subst hv2
  have hS' : va_S (fun q => s.heap.size ≤ q) s.heap T'.heap (locs ++ L2) := by
    refine ⟨Nat.le_trans hS.1 (by rw [e1]; exact hz'), fun q h1 h2 => ?_, fun q hq => ?_⟩
    · rw [e1, hkeep q (Nat.lt_of_lt_of_le h1 hS.1) (fun z => h2 (hAA q z))]
      exact hS.2.1 q h1 h2
    · rcases List.mem_append.mp hq with hq | hq
      · exact hS.2.2 q hq
      · exact hAA _ (hL q hq)
  obtain ⟨t2, a1, b1⟩ := kk p l e s m below meth c T'.heap (locs ++ L2) lsm C X (by rw [e1]; exact rl_P hP') (rl_D hD2) hS' (by rw [e1]; exact hP' _ _ rl_at) hl T' rfl X'
  exact ⟨t2, go t2 a1, b1⟩
end RY
theorem lg_cmp_self (x : Int64) : lg_cmp x x = 0 := by
  unfold lg_cmp
  simp
theorem lc_29 {G : mi_G} {N0 b L : Nat} {xs : Nat → Int32} {Rel : mi_M → Prop} (hob : ob_rests Rel) : ob_29 G N0 b L xs rx_Ex Rel := by
  intro i mem g nc ns hi hL hnc hns hR kk
  obtain ⟨oo, r, m2, e1, e2, e3, ho, hR2⟩ := hob (xs (i + 1)) (xs (i + 2)) (xs (i + 3)) mem hR
  refine l_aload_n dL_law_1151 rfl ?_
  refine l_aload_n dL_law_1152 rfl ?_
  refine l_iload dL_law_1153 rfl ?_
  refine l_iconst dL_law_1155 rfl ?_
  refine l_iadd dL_law_1156 ?_
  refine l_sld (t := i + 1) dL_law_1157 (lq_iN i 1) (by omega) (by omega) ?_
  refine l_aload_n dL_law_1158 rfl ?_
  refine l_iload dL_law_1159 rfl ?_
  refine l_iconst dL_law_1161 rfl ?_
  refine l_iadd dL_law_1162 ?_
  refine l_sld (t := i + 2) dL_law_1163 (lq_iN i 2) (by omega) (by omega) ?_
  refine l_aload_n dL_law_1164 rfl ?_
  refine l_iload dL_law_1165 rfl ?_
  refine l_iconst dL_law_1167 rfl ?_
  refine l_iadd dL_law_1168 ?_
  refine l_sld (t := i + 3) dL_law_1169 (lq_iN i 3) (by omega) (by omega) ?_
  refine l_aload_n dL_law_1170 rfl ?_
  refine l_rests dL_law_1171 e1 rfl (by omega) (by omega) ?_
  refine l_istore dL_law_1174 rfl rfl ?_
  refine l_aload_n dL_law_1176 rfl ?_
  refine l_aload_n dL_law_1177 rfl ?_
  refine l_iload dL_law_1178 rfl ?_
  refine l_iconst dL_law_1180 rfl ?_
  refine l_iadd dL_law_1181 ?_
  refine l_sld (t := i + 1) dL_law_1182 (lq_iN i 1) (by omega) (by omega) ?_
  refine l_aload_n dL_law_1183 rfl ?_
  refine l_iload dL_law_1184 rfl ?_
  refine l_iconst dL_law_1186 rfl ?_
  refine l_iadd dL_law_1187 ?_
  refine l_sld (t := i + 2) dL_law_1188 (lq_iN i 2) (by omega) (by omega) ?_
  refine l_aload_n dL_law_1189 rfl ?_
  refine l_iload dL_law_1190 rfl ?_
  refine l_iconst dL_law_1192 rfl ?_
  refine l_iadd dL_law_1193 ?_
  refine l_sld (t := i + 3) dL_law_1194 (lq_iN i 3) (by omega) (by omega) ?_
  refine l_Vi3 dL_law_1195 lL_149 (by decide) (by decide) rfl (by omega) (by omega) (w_X12_rests _ _ _ _ _ e2) ?_
  intro x1 m3 hq
  have hx1 : x1 = r := hq.1
  have hm3 : m3 = m2 := hq.2
  rw [hx1, hm3]
  refine l_istore dL_law_1198 rfl rfl ?_
  refine l_aload_n dL_law_1200 rfl ?_
  refine l_Vi0 dL_law_1201 lL_150 (by decide) (by decide) rfl (by omega) (by omega) (w_X12_thrown _ _ e3) ?_
  intro x4 m4 hq4
  rw [hq4.1, hq4.2]
  refine l_iload dL_law_1204 rfl ?_
  refine l_icmp_eq dL_law_1206 (tgt := 1211) rfl (fun _ => ?_) (fun h => absurd rfl h)
  refine l_iload dL_law_1211 rfl ?_
  have fin : ∀ g2, mi_L G N0 b L xs rx_Ex 1228 [(6, vi r), (5, vi (rl_k oo)), (4, vi (nI i)), (3, vr 311 0), (2, vr 12 0), (1, vr 11 0), (0, vr 310 0)] [] m2 g2 (nc + 1) (ns + 6) := by
    intro g2
    refine l_goto dL_law_1228 (tgt := 1358) rfl ?_
    refine l_loc (lq_ls i) (by unfold lq_ls; exact ⟨rfl, rfl, rfl, rfl, rfl, trivial⟩) ?_
    exact l_widen (Nat.le_refl _) (by omega) (kk m2 g2 hR2)
  refine l_if_ne dL_law_1213 (tgt := 1228) rfl (fun _ => fin _) (fun hk => ?_)
  cases oo with
  | none => exact absurd hk (by decide)
  | some x =>
    have hx := ho x rfl
    subst hx
    refine l_aload_n dL_law_1216 rfl ?_
    refine l_iconst (v := 0) dL_law_1217 rfl ?_
    refine l_oload dL_law_1218 ?_
    refine l_iload dL_law_1219 rfl ?_
    refine l_i2l dL_law_1221 rfl ?_
    refine l_lcmp dL_law_1222 ?_
    exact l_if_eq dL_law_1223 (tgt := 1228) rfl (fun _ => fin _) (fun h => absurd (lg_cmp_self _) h)
