/-! ===== the law's two constructor calls, and the claim out of the pure side ===== -/
section SB
variable {G : mi_G} {N0 b L pc nc ns : Nat} {xs : Nat → Int32} {p : Program} {l : Launch} {e : Env} {s : State} {m : MethodId} {below : List Frame} {meth : Method} {c : Code} {H : Heap} {locs : List Loc} {lsm : Array Slot} {st : List Value} {lv : List (Nat × Value)}
theorem sb_init {index d' h mc' ms' sz : Nat} {y' : mi_MD} {pre post : va_W} (C : mi_Lx G N0 b L xs p s m meth c) (hN : mi_Nx s) (hP : va_P G.1 vwCl pre H) (hD : va_D (fun q => s.heap.size ≤ q) pre) (hS : va_S (fun q => s.heap.size ≤ q) s.heap H locs) (hz : H.size = sz) (hl : lv_has lsm 7 lv)
    (hd : decode code pc = .ok (.invokespecial index, 3)) (hm : mi_li RL index y') (hdd : d' < 1000) (hst : (st.map fun v => v.category).sum ≤ 8) (hc1 : nc + mc' ≤ 601024) (hs1 : ns + ms' ≤ 7293034) (hc : mi_CI G d' y' h pre sz post mc' ms')
    (kk : ∀ (H1 : Heap) (locs1 : List Loc), va_P G.1 vwCl post H1 → va_D (fun q => s.heap.size ≤ q) post → va_S (fun q => s.heap.size ≤ q) s.heap H1 locs1 → H1.size = sz + mc' → W p l e room_1 s m #[Value.ref b] below meth c H1 locs1 (nc + mc') (ns + ms') (lw_Z below #[Value.ref b] s) (F0 m (pc + 3) lsm st)) :
    W p l e room_1 s m #[Value.ref b] below meth c H locs nc ns (lw_Z below #[Value.ref b] s) (F0 m pc lsm (.ref h :: st)) := by
  obtain ⟨w1, ⟨w2, w4, w5⟩, hnm, hmax, hin, hnone⟩ := hm
  have hts := C.2.2.2.2.2.2.1
  have hAA : ∀ q, va_A pre sz q → s.heap.size ≤ q := by
    intro q hq
    rcases hq with ⟨k, e1, hk⟩ | hq
    · exact hD.2 _ _ hk
    · exact Nat.le_trans (by rw [← hz]; exact hS.1) hq
  have cb : CallB room_1 s #[Value.ref b] RL index y'.1 y'.2.1 y'.2.2.1 none (mi_yw y') (mi_rI d' mc' ms') mc' ms' 0 := by
    have := callB_of (R := room_1) (rm := mi_rI d' mc' ms') (mc := mc') (ms := ms') 0 hts (mi_goodY w5) rfl rfl rfl (hts _ w4) (hts _ w1) hnm ⟨by show d' + 1 ≤ 2048; omega, by show 8 + (y'.2.2.1 + 11) + 64 * d' ≤ 84000; omega⟩
    rw [hnone] at this
    exact this
  have hp : PreS s H (va_Pc [.ref h] (mi_Wc G pre sz)) (.ref h :: []) :=
    ⟨mi_blindI, fun U hU hW => ⟨rfl, by rw [hU]; exact hz, by rw [hU]; exact hP, va_K.moved hW.alike C.2.2.2.2.2.2.2.1, ⟨hD.1, fun _ _ _ => trivial⟩, hN.moved hW, (C.2.2.2.2.2.2.2.2.2.2.1).at hS hU hW hAA⟩⟩
  have run := va_runI (p := p) (e := e) (R := room_1) (below := below) (meth := meth) (locs := locs) (cells := nc) (slots := ns) (rest := st) (g := F0 m pc lsm (.ref h :: st)) (As := []) (S := ⟨C.1, C.2.1, C.2.2.1, C.2.2.2.2.2.1, hts⟩) (hc l) ⟨cb, hin, hts _ w2⟩ hp rfl rfl hl.1 rfl (lv_room hst) hd ⟨hc1, hs1⟩
  intro T hT X2
  obtain ⟨v, st₀, t, T', L2, h0, X', hL, e1, e2, ⟨⟨hv, hzz, hP', hD'⟩, hz', hkeep⟩, go⟩ := run T hT X2
  rw [h0] at hz' hkeep
  have hv2 : v = none := by injection hv
  subst hv2
  have hS' : va_S (fun q => s.heap.size ≤ q) s.heap T'.heap (locs ++ L2) := by
    refine ⟨Nat.le_trans hS.1 (by rw [e1]; exact hz'), fun q h1 h2 => ?_, fun q hq => ?_⟩
    · rw [e1, hkeep q (Nat.lt_of_lt_of_le h1 hS.1) (fun z => h2 (hAA q z))]
      exact hS.2.1 q h1 h2
    · rcases List.mem_append.mp hq with hq | hq
      · exact hS.2.2 q hq
      · exact hAA _ (hL q hq)
  obtain ⟨t2, a1, b1⟩ := kk T'.heap (locs ++ L2) (by rw [e1]; exact hP') ⟨hD'.1, fun k q hq => hAA _ (hD'.2 k q hq)⟩ hS' (by rw [e1]; exact hzz) T' rfl X'
  exact ⟨t2, go t2 a1, b1⟩
theorem sb_new {index ci sz : Nat} {fs : List Value} {ws : va_W} (C : mi_Lx G N0 b L xs p s m meth c) (hP : va_P G.1 vwCl ws H) (hD : va_D (fun q => s.heap.size ≤ q) ws) (hS : va_S (fun q => s.heap.size ≤ q) s.heap H locs) (hz : H.size = sz)
    (hd : decode code pc = .ok (.new index, 3)) (hk13 : ci < 13) (hcl : Cond.classLink RL index (mi_Cn ci) ∈ mi_T) (hins : Cond.instantiable (mi_Cn ci) (mi_Cs ci) ∈ lw_tbl ∧ (Cond.instantiable (mi_Cn ci) (mi_Cs ci)).before #[Value.ref b] s = true) (hini : Cond.initialized (mi_Cn ci) ∈ mi_T) (hfs : ∀ j, j < mi_Cs ci → defaultValue (mi_Ty ci j) = vp_V fs j) (hc1 : nc + 1 ≤ 601024) (hs1 : ns + mi_Cs ci ≤ 7293034)
    (kk : ∀ (H1 : Heap), va_P G.1 vwCl (ws ++ [(sz, .inr (ci, fs))]) H1 → va_D (fun q => s.heap.size ≤ q) (ws ++ [(sz, .inr (ci, fs))]) → va_S (fun q => s.heap.size ≤ q) s.heap H1 locs → H1.size = sz + 1 → W p l e room_1 s m #[Value.ref b] below meth c H1 locs (nc + 1) (ns + mi_Cs ci) (lw_Z below #[Value.ref b] s) (F0 m (pc + 3) lsm (.ref sz :: st))) :
    W p l e room_1 s m #[Value.ref b] below meth c H locs nc ns (lw_Z below #[Value.ref b] s) (F0 m pc lsm st) := by
  have hts := C.2.2.2.2.2.2.1
  have hKn := C.2.2.2.2.2.2.2.1.1 ci _ (mi_cl ci hk13)
  refine W.newcK C.1 C.2.1 C.2.2.2.2.2.1 (hts _ hcl) hins.2 (hts _ hini) rfl hd (by show nc + 1 ≤ 601024; omega) (by show ns + mi_Cs ci ≤ 7293034; omega) hKn.2.1 hz fun H1 kC hkC e1 z1 o1 => ?_
  have hlt : ∀ (k : Nat) (x : Nat × va_E), ws[k]? = some x → x.1 < sz := fun k x hx => by rw [← hz]; exact (hP k x hx).lt
  have hk : ∀ (k : Nat) (x : Nat × va_E), ws[k]? = some x → H1[x.1]? = H[x.1]? := fun k x hx => o1 x.1 (hlt k x hx)
  refine kk H1 ((hP.kept hk).app (fun k x hx => ?_)) (hD.push hP hz.symm (by show s.heap.size ≤ sz; rw [← hz]; exact hS.1)) ⟨by rw [z1, ← hz]; exact Nat.le_trans hS.1 (Nat.le_succ _), fun x h1 h2 => (o1 x (by rw [← hz]; exact Nat.lt_of_lt_of_le h1 hS.1)).trans (hS.2.1 x h1 h2), hS.2.2⟩ z1
  have hz1 : k < 1 := (List.getElem?_eq_some_iff.mp hx).1
  rw [show k = 0 by omega] at hx
  cases hx
  exact ⟨_, mi_cl ci hk13, (u_born (mi_Ty ci) hts (mi_uw ci hk13) hKn hkC e1 (mi_tyok ci hk13)).to hfs⟩
end SB
theorem sb_perm {D : va_G} {H : Heap} {x : Nat × va_E} {X : va_W} (h : va_P D vwCl (X ++ [x]) H) : va_P D vwCl ([x] ++ X) H := by
  intro k q hk
  cases k with
  | zero => exact h X.length q (by rw [List.getElem?_append_right (Nat.le_refl _), Nat.sub_self]; exact hk)
  | succ k =>
    have hk : X[k]? = some q := by simpa using hk
    exact h k q (by rw [List.getElem?_append_left (List.getElem?_eq_some_iff.mp hk).1]; exact hk)
theorem sb_permD {A : Nat → Prop} {x : Nat × va_E} {X : va_W} (h : va_D A (X ++ [x])) : va_D A ([x] ++ X) := by
  have hx : (X ++ [x])[X.length]? = some x := by rw [List.getElem?_append_right (Nat.le_refl _), Nat.sub_self]; rfl
  have hX : ∀ (k : Nat) (q : Nat × va_E), X[k]? = some q → (X ++ [x])[k]? = some q := fun k q hk => by rw [List.getElem?_append_left (List.getElem?_eq_some_iff.mp hk).1]; exact hk
  refine va_D.app ⟨fun i j p q hi hj _ => ?_, fun k q hk => ?_⟩ ⟨fun i j p q hi hj => h.1 i j p q (hX i p hi) (hX j q hj), fun k q hk => h.2 k q (hX k q hk)⟩ (fun i j p q hi hj hpq => ?_)
  · have h1 : i < 1 := (List.getElem?_eq_some_iff.mp hi).1
    have h2 : j < 1 := (List.getElem?_eq_some_iff.mp hj).1
    omega
  · have h1 : k < 1 := (List.getElem?_eq_some_iff.mp hk).1
    rw [show k = 0 by omega] at hk
    cases hk
    exact h.2 _ _ hx
  · have h1 : i < 1 := (List.getElem?_eq_some_iff.mp hi).1
    rw [show i = 0 by omega] at hi
    cases hi
    have h3 := h.1 _ _ _ _ hx (hX j q hj) hpq
    have h4 := (List.getElem?_eq_some_iff.mp hj).1
    omega
def pu_all : Prop := ∃ (Rel : mi_M → Prop) (m2 m3 : mi_M), f_X12_standsAsAlways 0 mi_m1 = some m2 ∧ f_X12_begins m2 = some m3 ∧ Rel m3 ∧ ob_all Rel ∧ ob_rests Rel
set_option maxHeartbeats 4000000 in
set_option maxRecDepth 100000 in
theorem whole_start (pu : pu_all) {p : Program} {e : Env} {s : State} {m : MethodId} {below : List Frame} {meth : Method} {c : Code} (l : Launch) (hl0 : l.stackTraces = false) {b L : Nat} {xs : Nat → Int32} (hL : L ≤ 3584) (C0 : lw_At p s m meth c b L xs) : W p l e room_1 s m #[Value.ref b] below meth c s.heap [] 0 0 (lw_Z below #[Value.ref b] s) (entryFrame m ([Value.ref b] : List Value).toArray 7) := by
  obtain ⟨Rel, m2, m3, f1, f2, hR, ho, ho29⟩ := pu
  obtain ⟨hx, hb, hr, hml, hown, hts, hX, hbl, hlocks, hgv⟩ := id C0
  have hs := flat_of_before _ hgv
  obtain ⟨D, hKn⟩ := st_known hts
  obtain ⟨cys, hcy⟩ := st_tys hts
  obtain ⟨adK, adV, hSt⟩ := st_S hts hs
  have hNx := st_Nx hts
  have hF := st_F hts hs
  obtain ⟨N0, hN0⟩ : ∃ n, n = s.heap.size := ⟨_, rfl⟩
  obtain ⟨aS, haS⟩ : ∃ aS : Nat → Nat → Nat, aS = fun k i => if k = 300 then adK i else if k = 301 then adV i else if k = 310 then b else N0 + 225 := ⟨_, rfl⟩
  have C : mi_Lx (mi_GG D cys N0 aS) N0 b L xs p s m meth c := by
    refine ⟨hx, hb, hml, hr, hlocks, hown, fun w hw => hts w (List.mem_filter.mp hw).1, st_K hKn hcy, hX, hbl, hSt D cys N0 aS (by rw [haS]; rfl) (by rw [haS]; rfl), hN0.symm, by subst haS; rfl, fun q hq => ?_, by subst haS; rfl⟩
    obtain ⟨g1, g2⟩ := st_off q hq
    show mi_ad N0 aS q.1 q.2 ≠ N0 + 225
    unfold mi_ad
    rw [if_pos g1]
    omega
  have hEx : rx_Ex l s := ⟨hl0, hF⟩
  have hS : va_S (fun q : Nat => s.heap.size ≤ q) s.heap s.heap [] := va_S.rf
  have hP : va_P D vwCl [] s.heap := fun k q h => by simp at h
  have hD : va_D (fun q : Nat => s.heap.size ≤ q) [] := ⟨fun i j p q h => by simp at h, fun k q h => by simp at h⟩
  have hl := lv_entry ([.ref b]) (n := 7) (Nat.le_of_ble_eq_true rfl)
  rw [lg_entry_eq]
  generalize (lg_sl ([.ref b]) ++ List.replicate (7 - (lg_sl ([.ref b])).length) Slot.unset).toArray = ls at hl ⊢
  have hl : lv_has ls 7 [(0, .ref b)] := hl
  refine sb_new (ci := 11) (fs := [.null, .null, .null, .null, .null, .null, .null, .null, .null, .null]) C hP hD hS hN0.symm dL_law_0 (by decide) (st_in (List.mem_of_getElem? (i := 0) rfl)) ⟨st_ins 11 (by decide), hts _ (st_ins 11 (by decide))⟩ (st_in (List.mem_of_getElem? (i := 2) rfl)) (by decide) (by decide) (by decide) (fun H hP hD hS hz => ?_)
  refine lv_dup hx hb dL_law_3 rfl ?_
  refine sb_init C hNx hP hD hS hz hl dL_law_4 st_l15 (by decide) (Nat.le_of_ble_eq_true rfl) (by decide) (by decide) (ci_11 (mi_GG D cys N0 aS) N0 (N0 + 1)) (fun H locs hP hD hS hz => ?_)
  refine lv_astore_n (lv' := [(1, .ref N0), (0, .ref b)]) hx hb dL_law_7 rfl hl (by decide) rfl (fun ls hl => ?_)
  refine sb_new (ci := 12) (fs := [.int 0, .null, .int 0, .int 0, .null, .null, .null, .int 0, .int 0, .null, .null, .null, .null, .int 0, .null, .null, .int 0, .int 0, .null, .null, .null, .null, .int 0, .null, .int 0, .null, .null, .null, .null, .null, .null, .int 0, .null, .null, .int 0, .int 0, .int 0, .null, .null, .long 0]) C hP hD hS hz dL_law_8 (by decide) (st_in (List.mem_of_getElem? (i := 1) rfl)) ⟨st_ins 12 (by decide), hts _ (st_ins 12 (by decide))⟩ (st_in (List.mem_of_getElem? (i := 3) rfl)) (by decide) (by decide) (by decide) (fun H hP hD hS hz => ?_)
  refine lv_dup hx hb dL_law_11 rfl ?_
  refine sb_init C hNx (sb_perm hP) (sb_permD hD) hS hz hl dL_law_12 st_l18 (by decide) (Nat.le_of_ble_eq_true rfl) (by decide) (by decide) (ci_12 D cys N0 aS m2 m3 f1 f2) (fun H locs hP hD hS hz => ?_)
  refine lv_astore_n (lv' := [(2, .ref (N0 + 199)), (1, .ref N0), (0, .ref b)]) hx hb dL_law_15 rfl hl (by decide) rfl (fun ls hl => ?_)
  refine lv_iconst (v := 1) hx hb dL_law_16 rfl ?_
  refine va_newaK (N := 1) (h := N0 + 225) hx hb (C.2.2.2.2.2.2.1 _ (st_in (List.mem_of_getElem? (i := 11) rfl))) rfl dL_law_17 rfl (by decide) rfl (by decide) (by decide) (by decide) hz fun H1 cA e1 z1 o1 hAr hNm => ?_
  have hcA : cA = cys 1 := Option.some.inj (hNm.symm.trans (C.2.2.2.2.2.2.2.1.2 1 _ rfl).2)
  subst hcA
  have hP1 : va_P D vwCl (mi_ws (mi_GG D cys N0 aS) m3) H1 := hP.kept (fun k q hq => o1 _ (by have := vx_lt hP hq; omega))
  have hS1 : va_S (fun q : Nat => s.heap.size ≤ q) s.heap H1 locs := ⟨Nat.le_trans hS.1 (by omega), fun q h1 h2 => (o1 q (by have := hS.1; omega)).trans (hS.2.1 q h1 h2), hS.2.2⟩
  refine lv_astore_n (lv' := [(3, .ref (N0 + 225)), (2, .ref (N0 + 199)), (1, .ref N0), (0, .ref b)]) hx hb dL_law_19 rfl hl (by decide) rfl (fun ls hl => ?_)
  have kk : mi_L (mi_GG D cys N0 aS) N0 b L xs rx_Ex 20 [(3, vr 311 0), (2, vr 12 0), (1, vr 11 0), (0, vr 310 0)] [] m3 0 (0 + 1 + 198 + 1 + 25 + 1) (0 + mi_Cs 11 + 9513 + mi_Cs 12 + 11628 + 1) := by
    refine l_iconst (v := 0) dL_law_20 rfl ?_
    refine l_istore dL_law_21 rfl rfl ?_
    exact lw_loop hL ho (lc_29 ho29) (L + 1) 0 m3 0 _ _ (by omega) (by omega) (by omega) (by decide) hR
  have a3 : (mi_GG D cys N0 aS).2.1 311 0 = N0 + 225 := C.2.2.2.2.2.2.2.2.2.2.2.2.2.2
  have a0 : (mi_GG D cys N0 aS).2.1 310 0 = b := C.2.2.2.2.2.2.2.2.2.2.2.2.1
  have hl2 : lv_has ls 7 (mi_lm (mi_GG D cys N0 aS) [(3, vr 311 0), (2, vr 12 0), (1, vr 11 0), (0, vr 310 0)]) := by
    have e9 : mi_lm (mi_GG D cys N0 aS) [(3, vr 311 0), (2, vr 12 0), (1, vr 11 0), (0, vr 310 0)] = [(3, .ref ((mi_GG D cys N0 aS).2.1 311 0)), (2, .ref (N0 + 199)), (1, .ref N0), (0, .ref ((mi_GG D cys N0 aS).2.1 310 0))] := rfl
    rw [e9, a3, a0]
    exact hl
  exact kk p l e s m below meth c H1 locs ls C hEx hP1 hD hS1 e1 hl2
set_option maxHeartbeats 4000000 in
theorem lw_walk (pu : pu_all) (l : Launch) (hl0 : l.stackTraces = false) (b : Addr) (xs : List Int32) : MetFree l x (headSpec (Jvm.Cond.code x code maxLocals ret :: tables_1) room_1) (lw_P b xs) (fun _ _ _ _ _ => True) lw_Q := by
  refine MetFree.of_bodyS (code := code) (maxLocals := maxLocals) (ret := ret) (by decide) ?_ ?_
  · intro args s m h hn
    obtain ⟨meth, c, h1, h2, h3, h4, h5, h6, -, -⟩ := Cond.code_spec hn (atoms_spec (ws := Jvm.Cond.code x code maxLocals ret :: tables_1) h _ List.mem_cons_self)
    exact ⟨meth, c, h1, h2, h3, h4, h5, h6⟩
  · intro p e s m args below meth c s₁ B hml0 hP _
    obtain ⟨rfl, hx, hbd, hgv⟩ := hP
    obtain ⟨scr, harrAt, hlist, hof, hsmall⟩ := hx
    obtain ⟨hcb, hkn, -, -⟩ := State.arrayAt?_spec harrAt
    have hown : s.vm.findClass R_law = some m.cls := findClass_of_methodNamed B.named
    have hts0 : ∀ c ∈ (Jvm.Cond.code x code maxLocals ret :: tables_1), c.before #[Value.ref b] s = true := atoms_spec (ws := Jvm.Cond.code x code maxLocals ret :: tables_1) B.pre
    have hts : ∀ w ∈ lw_tbl, w.before #[Value.ref b] s = true := k2_hts_sels lw_privs (fun w hw => hts0 w (List.mem_cons_of_mem _ hw)) lw_privs_ok
    have hml : c.maxLocals = 7 := B.maxLocals_eq (hts0 _ List.mem_cons_self)
    have X₀ : Stand p l e room_1 s m #[Value.ref b] below meth c s₁ [] 0 0 := Stand.of_body B
    have hh0 : s₁.heap = s.heap := by rw [B.state]; rfl
    have hsz : scr.slots.size = xs.length := by rw [← Array.length_toList, hlist, List.length_map]
    have hval : ∀ j : Nat, j < xs.length → scr.slots[j]? = some (.int (xs.getD j 0)) := fun j hj => by
      rw [← Array.getElem?_toList, hlist]
      simp [hj]
    have hbl : b < s.heap.size := (Array.getElem?_eq_some_iff.mp hcb).1
    have hX : va_X b xs.length (fun j => xs.getD j 0) s s.heap := ⟨scr, hcb, hof, hkn, hsz, hval⟩
    have K : W p l e room_1 s m #[Value.ref b] below meth c s₁.heap [] 0 0 (lw_Z below #[Value.ref b] s) (entryFrame m ([Value.ref b] : List Value).toArray 7) := by
      rw [hh0]
      exact whole_start pu l hl0 hbd ⟨B.exec, B.bytes, B.returns, hml, hown, hts, hX, hbl, B.notSynchronized, hgv⟩
    obtain ⟨t, a1, o, b1, b2, b3⟩ := K s₁ rfl X₀
    exact ⟨t, o, a1, b1, b2, b3⟩
theorem lw_pre_spec {args : Array Value} {s : State} (h : (Jvm.Cond.and given_1 narrow_1).before args s = true) (hr : rest_1_c.before args s = true) : ∃ (b : Addr) (xs : List Int32), lw_P b xs args s := by
  have hs := flat_of_before _ h
  have hq := flat_of_before _ hr
  have hc : (Cond.count 1).before args s = true := hs _ (by decide +kernel)
  have harr : (Cond.arrayOf (.arg 0) .int).before args s = true := hs _ (by decide +kernel)
  have hle : (Cond.le (.length (.arg 0)) (.int 3584)).before args s = true := hs _ (by decide +kernel)
  have hlen : (Cond.isInt (.length (.arg 0))).before args s = true := hq _ (by decide +kernel)
  have hall : (Cond.all (.arg 0) (.isInt (.elem (.arg 0) (.index 0)))).before args s = true := hq _ (by decide +kernel)
  obtain ⟨b, xs, hb, hx⟩ := State.ints_of_pre rfl harr hlen hall
  have hsm : xs.length < 2 ^ 31 := hx.choose_spec.2.2.2
  have hev : (Term.length (.arg 0)).eval args s none [] s = some (.int xs.length.toInt32) := hx.length_eval hb
  have hv := Cond.le_ints hev (show (Term.int 3584).eval args s none [] s = some (.int 3584) from rfl)
  have hd : xs.length.toInt32 ≤ 3584 := by
    simpa [Cond.before, Cond.holds, hv] using hle
  have hN : xs.length ≤ 3584 := (Int32.ofNat_le_ofNat hsm (by decide)).mp (show Int32.ofNat xs.length ≤ Int32.ofNat 3584 from hd)
  exact ⟨b, xs, Cond.one_arg hc (show args[0]? = some (.ref b) from hb), hx, hN, h⟩
theorem lw_comes (pu : pu_all) (l : Launch) (hl0 : l.stackTraces = false) : Comes l x (Jvm.Cond.code x code maxLocals ret :: tables_1) room_1 (fun tb e args s => Calls_1 tb e args s ∧ rest_1 tb e args s ∧ Pre_1 tb e args s)
    (fun _ _ args s o t => lw_Q args s o t) := by
  intro p e ha hc hk s m args below hf hfit hheap happ hpre
  obtain ⟨b, xs, hP⟩ := lw_pre_spec hpre.2.2 hpre.2.1
  obtain ⟨k, o, h1, h2, h3, hQ⟩ := lw_walk pu l hl0 b xs p e ha hc hk s m args below hf ((Spec.applies_iff_loose hf).mp happ).1 hP trivial
  exact ⟨k, o, h1, h2, h3, hQ⟩
theorem lw_frame {s t : State} {o : Outcome} {args : Array Value} (h : Framed s o t [] 601024 7293034) :
    Framed s o t (fieldLocs frame_1_writes args s ++ arrayLocs frame_1_arrays args s ++ staticLocs frame_1_statics s) 601024 7293034 := h
theorem lw_fl (l : Launch) (h : l.flags = flags0) : l.stackTraces = false := by
  unfold Launch.stackTraces
  rw [h]
  decide
theorem lw_limb (pu : pu_all) (L : Cond) (hL : ∀ (args : Array Value) (s t : State), L.after args s (.returned (some (.int 1))) t = true) :
    ArmFor flags0 classFile x code maxLocals ret World_1 tables_1 room_1 Calls_1 rest_1 Pre_1
      (fun tb e a s o t => postC L tb e a s o t ∧ Framed s o t (fieldLocs frame_1_writes a s ++ arrayLocs frame_1_arrays a s ++ staticLocs frame_1_statics s) 601024 7293034) := by
  intro l hfl _ _ p e ha hc hk s m args below hf hfit hheap happ hpre
  obtain ⟨k, o, h1, h2, h3, rfl, hF⟩ := lw_comes pu l (lw_fl l hfl) p e ha hc hk s m args below hf hfit hheap happ hpre
  exact ⟨k, _, h1, h2, h3, hL args s _, lw_frame hF⟩
theorem whole_of (pu : pu_all) : Claimed_1_1 ∧ Claimed_1_2 := ⟨lw_limb pu limb_1_1 (fun args s t => by simp [limb_1_1, Cond.after, Cond.holds, Cond.value]), lw_limb pu limb_1_2 (fun args s t => Cond.after_iff.mpr (by
  first | (rw [show limb_1_2 = Cond.eq .result (.int 1) from rfl, Cond.eq_ints (x := 1) (y := 1) rfl rfl]; simp; done) | (simp [limb_1_2, Cond.value, Term.eval]; done)))⟩
