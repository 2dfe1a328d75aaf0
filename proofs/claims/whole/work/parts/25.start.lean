/-! ===== the law from its entry: what the tables and the premises give, both constructors, the row out ===== -/
def st_b : Array Value → Array Value := fun a => a
set_option maxRecDepth 100000 in
theorem st_ins : ∀ k : Nat, k < 13 → Cond.instantiable (mi_Cn k) (mi_Cs k) ∈ lw_tbl := by decide +kernel
set_option maxRecDepth 100000 in
theorem st_w1 : ∀ w ∈ [Cond.classLink RL 8 RX11, Cond.classLink RL 16 RX12, Cond.initialized RX11, Cond.initialized RX12, Cond.methodLink RL 15 yX11_init, Cond.instanceMethod yX11_init, Cond.code yX11_init cX11_init 1 none, Cond.methodLink RL 18 yX12_init, Cond.instanceMethod yX12_init, Cond.code yX12_init cX12_init 1 none, Cond.arrayClass .int, Cond.arrayClass .long, Cond.arrayClass .byte, Cond.arrayClass .boolean], w ∈ lw_tbl ∧ goodWord w = true := by decide +kernel
theorem st_in {w : Cond} (h : w ∈ [Cond.classLink RL 8 RX11, Cond.classLink RL 16 RX12, Cond.initialized RX11, Cond.initialized RX12, Cond.methodLink RL 15 yX11_init, Cond.instanceMethod yX11_init, Cond.code yX11_init cX11_init 1 none, Cond.methodLink RL 18 yX12_init, Cond.instanceMethod yX12_init, Cond.code yX12_init cX12_init 1 none, Cond.arrayClass .int, Cond.arrayClass .long, Cond.arrayClass .byte, Cond.arrayClass .boolean]) : w ∈ mi_T := List.mem_filter.mpr (st_w1 w h)
theorem st_l15 : mi_li RL 15 mX11_init := ⟨st_in (List.mem_of_getElem? (i := 4) rfl), ⟨st_in (List.mem_of_getElem? (i := 5) rfl), st_in (List.mem_of_getElem? (i := 2) rfl), st_in (List.mem_of_getElem? (i := 6) rfl)⟩, by decide, by decide, by decide, rfl⟩
theorem st_l18 : mi_li RL 18 mX12_init := ⟨st_in (List.mem_of_getElem? (i := 7) rfl), ⟨st_in (List.mem_of_getElem? (i := 8) rfl), st_in (List.mem_of_getElem? (i := 3) rfl), st_in (List.mem_of_getElem? (i := 9) rfl)⟩, by decide, by decide, by decide, rfl⟩
set_option maxRecDepth 100000 in
theorem st_w2 : ∀ w ∈ [Cond.arrayOver (.object "PardonLamps$State"), Cond.arrayOver (.object "PardonLamps$Sights"), Cond.arrayOver (.array .int), Cond.laysStatic "java/lang/String" "COMPACT_STRINGS" "Z", Cond.initialized "java/lang/String", Cond.laysStatic "jdk/internal/util/Preconditions" "SIOOBE_FORMATTER" "Ljava/util/function/BiFunction;", Cond.initialized "jdk/internal/util/Preconditions", Cond.laysStatic Bundle.tN "UNASSIGNED_STACK" Bundle.steD, Cond.laysStatic Bundle.tN "SUPPRESSED_SENTINEL" Bundle.listD, Cond.initialized Bundle.tN, Cond.declares (Bundle.init0 "java/lang/RuntimeException"), Cond.declares (Bundle.init0 "java/lang/Exception"), Cond.declares (Bundle.init0 Bundle.tN), Cond.castable "java/util/NoSuchElementException" "java/util/NoSuchElementException"], w ∈ lw_tbl := by decide +kernel
set_option maxRecDepth 100000 in
theorem st_w3 : (∀ q ∈ mi_nest, Cond.methodLinkNest q.1 q.2.1 q.2.2.1 q.2.2.2 ∈ lw_tbl) ∧ (∀ q ∈ mi_nestI, Cond.methodLinkNest q.1 q.2.1 q.2.2.1 q.2.2.2 ∈ lw_tbl) ∧ (∀ q ∈ mi_strs, Cond.stringRef q.1 q.2.1 q.2.2.1 ∈ lw_tbl) := by decide +kernel
def st_q (i : Nat) : String × Nat := ((mi_strs.getD i ("", 0, "", 0)).1, (mi_strs.getD i ("", 0, "", 0)).2.1)
def st_t (i : Nat) : Term := .string (st_q i).1 (st_q i).2
theorem st_q0 : ∀ q ∈ mi_strs, st_q q.2.2.2 = (q.1, q.2.1) ∧ q.2.2.2 < 12 := by decide
theorem st_s0 : ∀ i : Nat, i < 12 → mi_len.getD i 0 < 2 ^ 31 := by decide
def st_g1 (i : Nat) : List Cond := [Cond.exactly (st_t i) "java/lang/String", Cond.eq (.field (st_t i) "java/lang/String" "coder" "B") (.int 0), Cond.arrayOf (.field (st_t i) "java/lang/String" "value" "[B") .byte, Cond.eq (.length (.field (st_t i) "java/lang/String" "value" "[B")) (.int (Int32.ofNat (mi_len.getD i 0)))] ++ ((List.range (mi_len.getD i 0)).map (fun j => Cond.eq (.elem (.field (st_t i) "java/lang/String" "value" "[B") (.int (Int32.ofNat j))) (.int ((mi_byt.getD i []).getD j 0))) ++ (List.range i).map (fun k => Cond.not (Cond.eq (st_t k) (st_t i))))
set_option maxRecDepth 100000 in
theorem st_g0 : (flatC (Jvm.Cond.and given_1 narrow_1)).drop 54 = (List.range 12).flatMap st_g1 := by decide +kernel
theorem st_g2 {w : Cond} {i : Nat} (hi : i < 12) (h : w ∈ st_g1 i) : w ∈ flatC (Jvm.Cond.and given_1 narrow_1) := by
  have h1 : w ∈ (flatC (Jvm.Cond.and given_1 narrow_1)).drop 54 := by
    rw [st_g0]
    exact List.mem_flatMap.mpr ⟨i, List.mem_range.mpr hi, h⟩
  exact List.mem_of_mem_drop h1
theorem st_s1 : ∀ i : Nat, i < 12 → Cond.exactly (st_t i) "java/lang/String" ∈ flatC (Jvm.Cond.and given_1 narrow_1) := fun _ hi => st_g2 hi (List.mem_append_left _ (List.mem_of_getElem? (i := 0) rfl))
theorem st_s2 : ∀ i : Nat, i < 12 → Cond.eq (.field (st_t i) "java/lang/String" "coder" "B") (.int 0) ∈ flatC (Jvm.Cond.and given_1 narrow_1) := fun _ hi => st_g2 hi (List.mem_append_left _ (List.mem_of_getElem? (i := 1) rfl))
theorem st_s3 : ∀ i : Nat, i < 12 → Cond.arrayOf (.field (st_t i) "java/lang/String" "value" "[B") .byte ∈ flatC (Jvm.Cond.and given_1 narrow_1) := fun _ hi => st_g2 hi (List.mem_append_left _ (List.mem_of_getElem? (i := 2) rfl))
theorem st_s4 : ∀ i : Nat, i < 12 → Cond.eq (.length (.field (st_t i) "java/lang/String" "value" "[B")) (.int (Int32.ofNat (mi_len.getD i 0))) ∈ flatC (Jvm.Cond.and given_1 narrow_1) := fun _ hi => st_g2 hi (List.mem_append_left _ (List.mem_of_getElem? (i := 3) rfl))
theorem st_s5 : ∀ i : Nat, i < 12 → ∀ j : Nat, j < mi_len.getD i 0 → Cond.eq (.elem (.field (st_t i) "java/lang/String" "value" "[B") (.int (Int32.ofNat j))) (.int ((mi_byt.getD i []).getD j 0)) ∈ flatC (Jvm.Cond.and given_1 narrow_1) := fun i hi j hj => st_g2 hi (List.mem_append_right _ (List.mem_append_left _ (List.mem_map.mpr ⟨j, List.mem_range.mpr hj, rfl⟩)))
theorem st_s6a {i k : Nat} (hi : i < 12) (hk : k < i) : Cond.not (Cond.eq (st_t k) (st_t i)) ∈ flatC (Jvm.Cond.and given_1 narrow_1) := st_g2 hi (List.mem_append_right _ (List.mem_append_right _ (List.mem_map.mpr ⟨k, List.mem_range.mpr hk, rfl⟩)))
theorem st_s6 : ∀ i : Nat, i < 12 → ∀ j : Nat, j < 12 → i ≠ j → Cond.not (Cond.eq (st_t i) (st_t j)) ∈ flatC (Jvm.Cond.and given_1 narrow_1) ∨ Cond.not (Cond.eq (st_t j) (st_t i)) ∈ flatC (Jvm.Cond.and given_1 narrow_1) := by
  intro i hi j hj hne
  rcases Nat.lt_or_gt_of_ne hne with h | h
  · exact Or.inl (st_s6a hj h)
  · exact Or.inr (st_s6a hi h)
set_option maxRecDepth 100000 in
theorem st_s7 : ∀ w ∈ [Cond.eq (.static "java/lang/String" "COMPACT_STRINGS" "Z") (.int 1), Cond.isRef (.static "jdk/internal/util/Preconditions" "SIOOBE_FORMATTER" "Ljava/util/function/BiFunction;"), Cond.isRef (.static Bundle.tN "UNASSIGNED_STACK" Bundle.steD), Cond.isRef (.static Bundle.tN "SUPPRESSED_SENTINEL" Bundle.listD)], w ∈ flatC (Jvm.Cond.and given_1 narrow_1) := by decide +kernel
set_option maxRecDepth 100000 in
theorem st_off : ∀ q ∈ mi_kt, q.1 < 300 ∧ mi_off q.1 q.2 < 225 := by decide +kernel

theorem st_known {s : State} {b : Nat} (hts : ∀ w ∈ lw_tbl, w.before #[Value.ref b] s = true) : ∃ D : va_G, ∀ (k : Nat) (q : vw_C), vwCl[k]? = some q → u_Kn s q.1 q.2.1 q.2.2 (D.1 k) (D.2 k) := by
  have h0 : ∀ k : Nat, ∃ z : ClassId × (Nat → Nat), ∀ q : vw_C, vwCl[k]? = some q → u_Kn s q.1 q.2.1 q.2.2 z.1 z.2 := by
    intro k
    by_cases hk : k < 13
    · obtain ⟨cC, iS, h⟩ := u_known (C := mi_Cn k) (T := mi_Ct k) (N := mi_Cs k) (n := mi_Cs k) (fun w hw => hts w (List.mem_filter.mp hw).1) (mi_uw k hk) (hts _ (st_ins k hk))
      refine ⟨(cC, iS), fun q hq => ?_⟩
      rw [mi_cl k hk] at hq
      cases hq
      exact h
    · refine ⟨(0, fun _ => 0), fun q hq => ?_⟩
      rw [List.getElem?_eq_none (by show 13 ≤ k; omega)] at hq
      cases hq
  obtain ⟨z, hz⟩ := Classical.axiomOfChoice h0
  exact ⟨(fun k => (z k).1, fun k => (z k).2), fun k q hq => hz k q hq⟩
def st_ty : List FieldType := [.int, .long, .byte, .boolean, .object "PardonLamps$State", .object "PardonLamps$Sights", .array .int]
theorem st_prim {s : State} {A : Array Value} {ty : FieldType} (hp : ∀ C, ty ≠ .object C) (h : (Cond.arrayClass ty).before A s = true) : ∃ cA, ArrOfT s cA ty ∧ va_RA s cA ty := by
  obtain ⟨c, k, comp, h1, h2, h3⟩ := Cond.arrayClass_spec h
  refine ⟨c, fun n z => ⟨fun k h => (by cases h), k, h2, comp, h3⟩, ?_⟩
  cases ty <;> first | exact h1 | exact absurd rfl (hp _)
theorem st_obj {s : State} {A : Array Value} {C : String} (h : (Cond.arrayOver (.object C)).before A s = true) : ∃ cA, ArrOfT s cA (.object C) ∧ va_RA s cA (.object C) := by
  obtain ⟨comp, c, k, h1, -, h2, h3, h4⟩ := Cond.arrayOver_spec h
  exact ⟨c, fun n z => ⟨fun k h => (by cases h), k, h2, comp, h3⟩, k, comp, h2, h3, h1, h4⟩
theorem st_arr {s : State} {A : Array Value} {t : FieldType} (h : (Cond.arrayOver (.array t)).before A s = true) : ∃ cA, ArrOfT s cA (.array t) ∧ va_RA s cA (.array t) := by
  obtain ⟨comp, c, k, h1, -, h2, h3, h4⟩ := arrayOverA_spec h
  exact ⟨c, fun n z => ⟨fun k h => (by cases h), k, h2, comp, h3⟩, h4⟩
theorem st_tys {s : State} {b : Nat} (hts : ∀ w ∈ lw_tbl, w.before #[Value.ref b] s = true) : ∃ cys : Nat → ClassId, ∀ (k : Nat) (ty : FieldType), st_ty[k]? = some ty → ArrOfT s (cys k) ty ∧ va_RA s (cys k) ty := by
  have hT : ∀ w ∈ mi_T, w.before #[Value.ref b] s = true := fun w hw => hts w (List.mem_filter.mp hw).1
  obtain ⟨c0, h0⟩ := st_prim (ty := .int) (fun _ h => by cases h) (hT _ (st_in (List.mem_of_getElem? (i := 10) rfl)))
  obtain ⟨c1, h1⟩ := st_prim (ty := .long) (fun _ h => by cases h) (hT _ (st_in (List.mem_of_getElem? (i := 11) rfl)))
  obtain ⟨c2, h2⟩ := st_prim (ty := .byte) (fun _ h => by cases h) (hT _ (st_in (List.mem_of_getElem? (i := 12) rfl)))
  obtain ⟨c3, h3⟩ := st_prim (ty := .boolean) (fun _ h => by cases h) (hT _ (st_in (List.mem_of_getElem? (i := 13) rfl)))
  obtain ⟨c4, h4⟩ := st_obj (hts _ (st_w2 _ (List.mem_of_getElem? (i := 0) rfl)))
  obtain ⟨c5, h5⟩ := st_obj (hts _ (st_w2 _ (List.mem_of_getElem? (i := 1) rfl)))
  obtain ⟨c6, h6⟩ := st_arr (hts _ (st_w2 _ (List.mem_of_getElem? (i := 2) rfl)))
  refine ⟨fun k => [c0, c1, c2, c3, c4, c5, c6].getD k c0, fun k ty hk => ?_⟩
  match k, hk with
  | 0, hk => cases hk; exact h0
  | 1, hk => cases hk; exact h1
  | 2, hk => cases hk; exact h2
  | 3, hk => cases hk; exact h3
  | 4, hk => cases hk; exact h4
  | 5, hk => cases hk; exact h5
  | 6, hk => cases hk; exact h6
  | k + 7, hk => simp [st_ty] at hk
theorem st_K {s : State} {D : va_G} {cys : Nat → ClassId} {N0 : Nat} {aS : Nat → Nat → Nat} (h1 : ∀ (k : Nat) (q : vw_C), vwCl[k]? = some q → u_Kn s q.1 q.2.1 q.2.2 (D.1 k) (D.2 k)) (h2 : ∀ (k : Nat) (ty : FieldType), st_ty[k]? = some ty → ArrOfT s (cys k) ty ∧ va_RA s (cys k) ty) : va_K D vwCl (mi_tys (mi_GG D cys N0 aS)) s := by
  refine ⟨h1, fun k q hk => ?_⟩
  match k, hk with
  | 0, hk => cases hk; exact h2 0 _ rfl
  | 1, hk => cases hk; exact h2 1 _ rfl
  | 2, hk => cases hk; exact h2 2 _ rfl
  | 3, hk => cases hk; exact h2 3 _ rfl
  | 4, hk => cases hk; exact h2 4 _ rfl
  | 5, hk => cases hk; exact h2 5 _ rfl
  | 6, hk => cases hk; exact h2 6 _ rfl
  | k + 7, hk => simp [mi_tys] at hk
theorem st_Nx {s : State} {b : Nat} (hts : ∀ w ∈ lw_tbl, w.before #[Value.ref b] s = true) : mi_Nx s :=
  ⟨fun q hq => va_Nw.of rfl (hts _ (st_w3.2.1 q hq)), va_AO.of (hts _ (st_w2 _ (List.mem_of_getElem? (i := 0) rfl))), va_AO.of (hts _ (st_w2 _ (List.mem_of_getElem? (i := 1) rfl))), hts _ (st_w2 _ (List.mem_of_getElem? (i := 2) rfl))⟩
theorem st_F {s : State} {b : Nat} (hts : ∀ w ∈ lw_tbl, w.before #[Value.ref b] s = true) (hs : ∀ w ∈ flatC (Jvm.Cond.and given_1 narrow_1), w.before #[Value.ref b] s = true) : rx_F (fun q => s.heap.size ≤ q) s := by
  have hA : ∀ a : Nat, a < s.heap.size → ¬ (fun q => s.heap.size ≤ q) a := fun a h => Nat.not_le.mpr h
  refine ⟨vx_Zqof (hts _ (st_w2 _ (List.mem_of_getElem? (i := 7) rfl))) (hts _ (st_w2 _ (List.mem_of_getElem? (i := 9) rfl))) (hs _ (st_s7 _ (List.mem_of_getElem? (i := 2) rfl))) hA, vx_Zqof (hts _ (st_w2 _ (List.mem_of_getElem? (i := 8) rfl))) (hts _ (st_w2 _ (List.mem_of_getElem? (i := 9) rfl))) (hs _ (st_s7 _ (List.mem_of_getElem? (i := 3) rfl))) hA, va_Nw.of rfl (hts _ (st_w2 _ (List.mem_of_getElem? (i := 10) rfl))), va_Nw.of rfl (hts _ (st_w2 _ (List.mem_of_getElem? (i := 11) rfl))), va_Nw.of rfl (hts _ (st_w2 _ (List.mem_of_getElem? (i := 12) rfl))), va_Nw.of rfl (hts _ (st_w2 _ (List.mem_of_getElem? (i := 13) rfl)))⟩
theorem st_S {s : State} {b : Nat} (hts : ∀ w ∈ lw_tbl, w.before #[Value.ref b] s = true) (hs : ∀ w ∈ flatC (Jvm.Cond.and given_1 narrow_1), w.before #[Value.ref b] s = true) : ∃ adK adV : Nat → Nat, ∀ (D : va_G) (cys : Nat → ClassId) (N0 : Nat) (aS : Nat → Nat → Nat), aS 300 = adK → aS 301 = adV → mi_St (mi_GG D cys N0 aS) (fun q => s.heap.size ≤ q) s := by
  have hA : ∀ a : Nat, a < s.heap.size → ¬ (fun q => s.heap.size ≤ q) a := fun a h => Nat.not_le.mpr h
  obtain ⟨adK, adV, h1, h2⟩ := vk_Sof (tm := st_t) (A := fun q => s.heap.size ≤ q) st_s0 (fun i hi => hs _ (st_s1 i hi)) (fun i hi => hs _ (st_s2 i hi)) (fun i hi => hs _ (st_s3 i hi)) (fun i hi => hs _ (st_s4 i hi)) (fun i hi j hj => hs _ (st_s5 i hi j hj)) (fun i j hi hj hne => (st_s6 i hi j hj hne).imp (fun h => hs _ h) (fun h => hs _ h)) hA
  refine ⟨adK, adV, fun D cys N0 aS e1 e2 => ?_⟩
  subst e1 e2
  refine ⟨h1, fun q hq => ?_, va_Zof (hts _ (st_w2 _ (List.mem_of_getElem? (i := 3) rfl))) (hts _ (st_w2 _ (List.mem_of_getElem? (i := 4) rfl))) (va_eqt (hs _ (st_s7 _ (List.mem_of_getElem? (i := 0) rfl)))) hA, fun q hq => va_Nw.of rfl (hts _ (st_w3.1 q hq)), va_Zqof (hts _ (st_w2 _ (List.mem_of_getElem? (i := 5) rfl))) (hts _ (st_w2 _ (List.mem_of_getElem? (i := 6) rfl))) (hs _ (st_s7 _ (List.mem_of_getElem? (i := 1) rfl))) hA⟩
  obtain ⟨g1, g2⟩ := st_q0 q hq
  refine vk_R.of (A := #[Value.ref b]) (hts _ (st_w3.2.2 q hq)) ?_
  have h3 := h2 q.2.2.2 g2
  unfold st_t at h3
  rw [g1] at h3
  exact h3
