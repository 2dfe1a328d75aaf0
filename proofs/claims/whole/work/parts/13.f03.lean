noncomputable def f_X12_isNearer_J35 (u2 : Int32) : Option (Int32) := mi_g (u2 = 0 ∨ u2 = 1) (some u2)
noncomputable def f_X12_isNearer_J30 : Option (Int32) := f_X12_isNearer_J35 (1 : Int32)
noncomputable def f_X12_isNearer_J34 : Option (Int32) := f_X12_isNearer_J35 (0 : Int32)
noncomputable def f_X12_isNearer (p0 : Int32) (p1 : Int32) (p2 : Int32) (mem : mi_M) : Option (Int32) := mi_g (vp_in p0 36) (if p1 < (mem.1 66 0 p0.toNatClampNeg) then f_X12_isNearer_J30 else mi_g (vp_in p0 36) (if p1 = (mem.1 66 0 p0.toNatClampNeg) then mi_g (vp_in p0 36) (if (mem.1 67 0 p0.toNatClampNeg) ≤ p2 then f_X12_isNearer_J34 else f_X12_isNearer_J30) else f_X12_isNearer_J34))
set_option maxRecDepth 100000 in
set_option maxHeartbeats 4000000 in
theorem w_X12_isNearer (p0 : Int32) (p1 : Int32) (p2 : Int32) (mem : mi_M) (a : Int32) (e : f_X12_isNearer p0 p1 p2 mem = some a) : mi_Ci (1) mX12_isNearer [vr 12 0, vi p0, vi p1, vi p2] mem (fun x m' => x = a ∧ m' = mem) := by
  unfold mi_Ci
  refine mi_C_intro (ls := [(0, vr 12 0), (1, vi p0), (2, vi p1), (3, vi p2)]) (by decide) rfl rfl ?_
  obtain ⟨Q0, hq0, h⟩ : ∃ Q0 : Int32 → Prop, (∀ b, Q0 b → b = a) ∧ wo (f_X12_isNearer p0 p1 p2 mem) Q0 := ⟨fun b => b = a, fun _ h => h, wo_eq e⟩
  obtain ⟨QX, hQX⟩ : ∃ QX : Option mi_V → mi_M → Prop, QX = (fun r m' => ∃ x, r = some (vi x) ∧ x = a ∧ m' = mem) := ⟨_, rfl⟩
  rw [← hQX]
  unfold f_X12_isNearer at h
  refine x_iload_n (pc := 0) dX12_isNearer_0 rfl ?_
  refine x_aload_n (pc := 1) dX12_isNearer_1 rfl ?_
  refine x_getS (pc := 2) dX12_isNearer_2 fX12_120 rfl (by decide) ?_
  refine x_iload_n (pc := 5) dX12_isNearer_5 rfl ?_
  obtain ⟨hx1, h⟩ := wo_g h
  refine x_ialdJ (pc := 6) dX12_isNearer_6 rfl rfl (by decide) hx1 ?_
  have j35 : ∀ (u2 : Int32), wo (f_X12_isNearer_J35 u2) Q0 → mi_X mX12_isNearer (1) 35 [] [vi u2] mem QX := by
    intro u2 h
    unfold f_X12_isNearer_J35 at h
    obtain ⟨hb3, h⟩ := wo_g h
    exact x_zretB (pc := 35) dX12_isNearer_35 rfl hb3 (by rw [hQX]; exact ⟨_, rfl, hq0 _ (wo_some h), rfl⟩)
  have j30 : wo (f_X12_isNearer_J30) Q0 → mi_X mX12_isNearer (1) 30 [] [] mem QX := by
    intro h
    unfold f_X12_isNearer_J30 at h
    refine x_iconst (pc := 30) dX12_isNearer_30 (v := (1 : Int32)) (by decide) ?_
    refine x_goto (pc := 31) dX12_isNearer_31 (tgt := 35) (by decide) ?_
    refine x_sub [] trivial ?_
    exact j35 _ h
  refine x_icmp_lt (pc := 7) dX12_isNearer_7 (tgt := 30) (by decide) (fun c8 => ?_) (fun c8 => ?_)
  · replace h := wo_pos c8 h
    refine x_sub [] trivial ?_
    exact j30 h
  · replace h := wo_neg c8 h
    refine x_iload_n (pc := 10) dX12_isNearer_10 rfl ?_
    refine x_aload_n (pc := 11) dX12_isNearer_11 rfl ?_
    refine x_getS (pc := 12) dX12_isNearer_12 fX12_120 rfl (by decide) ?_
    refine x_iload_n (pc := 15) dX12_isNearer_15 rfl ?_
    obtain ⟨hx4, h⟩ := wo_g h
    refine x_ialdJ (pc := 16) dX12_isNearer_16 rfl rfl (by decide) hx4 ?_
    have j34 : wo (f_X12_isNearer_J34) Q0 → mi_X mX12_isNearer (1) 34 [] [] mem QX := by
      intro h
      unfold f_X12_isNearer_J34 at h
      refine x_iconst (pc := 34) dX12_isNearer_34 (v := (0 : Int32)) (by decide) ?_
      refine x_sub [] trivial ?_
      exact j35 _ h
    refine x_icmp_ne (pc := 17) dX12_isNearer_17 (tgt := 34) (by decide) (fun c7 => ?_) (fun c7 => ?_)
    · replace h := wo_neg c7 h
      refine x_sub [] trivial ?_
      exact j34 h
    · replace h := wo_pos c7 h
      refine x_iload_n (pc := 20) dX12_isNearer_20 rfl ?_
      refine x_aload_n (pc := 21) dX12_isNearer_21 rfl ?_
      refine x_getS (pc := 22) dX12_isNearer_22 fX12_123 rfl (by decide) ?_
      refine x_iload_n (pc := 25) dX12_isNearer_25 rfl ?_
      obtain ⟨hx5, h⟩ := wo_g h
      refine x_ialdJ (pc := 26) dX12_isNearer_26 rfl rfl (by decide) hx5 ?_
      refine x_icmp_ge (pc := 27) dX12_isNearer_27 (tgt := 34) (by decide) (fun c6 => ?_) (fun c6 => ?_)
      · replace h := wo_pos c6 h
        refine x_sub [] trivial ?_
        exact j34 h
      · replace h := wo_neg c6 h
        refine x_sub [] trivial ?_
        exact j30 h
noncomputable def f_X12_people (mem : mi_M) : Option (Int32) := mi_g (vp_in (0 : Int32) 200) (some (mem.1 56 0 (0 : Int32).toNatClampNeg))
set_option maxRecDepth 100000 in
set_option maxHeartbeats 4000000 in
theorem w_X12_people (mem : mi_M) (a : Int32) (e : f_X12_people  mem = some a) : mi_Ci (1) mX12_people [vr 12 0] mem (fun x m' => x = a ∧ m' = mem) := by
  unfold mi_Ci
  refine mi_C_intro (ls := [(0, vr 12 0)]) (by decide) rfl rfl ?_
  obtain ⟨Q0, hq0, h⟩ : ∃ Q0 : Int32 → Prop, (∀ b, Q0 b → b = a) ∧ wo (f_X12_people  mem) Q0 := ⟨fun b => b = a, fun _ h => h, wo_eq e⟩
  obtain ⟨QX, hQX⟩ : ∃ QX : Option mi_V → mi_M → Prop, QX = (fun r m' => ∃ x, r = some (vi x) ∧ x = a ∧ m' = mem) := ⟨_, rfl⟩
  rw [← hQX]
  unfold f_X12_people at h
  refine x_aload_n (pc := 0) dX12_people_0 rfl ?_
  refine x_getS (pc := 1) dX12_people_1 fX12_89 rfl (by decide) ?_
  refine x_iconst (pc := 4) dX12_people_4 (v := (0 : Int32)) (by decide) ?_
  obtain ⟨hx1, h⟩ := wo_g h
  refine x_ialdJ (pc := 5) dX12_people_5 rfl rfl (by decide) hx1 ?_
  exact x_iret (pc := 6) dX12_people_6 rfl (by rw [hQX]; exact ⟨_, rfl, hq0 _ (wo_some h), rfl⟩)
noncomputable def f_X12_laysWays_J491 (l4 : Int32) (l11 : Int32) (m12 : mi_M) (u19 : Int32) : Option ((Int32 × mi_M) ⊕ (mi_M)) := mi_g (vp_in l4 36) (mi_let (mi_wI m12 68 0 l4.toNatClampNeg u19) fun m21 => some (.inl ((l11 + (-1 : Int32)), m21)))
noncomputable def f_X12_laysWays_J469 (l4 : Int32) (l11 : Int32) (m12 : mi_M) (u18 : Int32) : Option ((Int32 × mi_M) ⊕ (mi_M)) := if u18 = 0 then mi_g (vp_in l4 36) (f_X12_laysWays_J491 l4 l11 m12 (m12.1 68 0 l4.toNatClampNeg)) else f_X12_laysWays_J491 l4 l11 m12 l11
noncomputable def f_X12_laysWays_J468 (l4 : Int32) (l11 : Int32) (m12 : mi_M) : Option ((Int32 × mi_M) ⊕ (mi_M)) := f_X12_laysWays_J469 l4 l11 m12 (0 : Int32)
noncomputable def f_X12_laysWays_J435 (l4 : Int32) (l11 : Int32) (m12 : mi_M) (v15 : Int32) (v17 : Int32) (u26 : Int32) : Option ((Int32 × mi_M) ⊕ (mi_M)) := mi_g (vp_in l4 36) (if ((m12.1 66 0 v17.toNatClampNeg) + u26) = (m12.1 66 0 l4.toNatClampNeg) then mi_g (vp_in v17 36) (mi_g (vp_in l4 36) (if ((m12.1 67 0 v17.toNatClampNeg) + v15) = (m12.1 67 0 l4.toNatClampNeg) then f_X12_laysWays_J469 l4 l11 m12 (1 : Int32) else f_X12_laysWays_J468 l4 l11 m12)) else f_X12_laysWays_J468 l4 l11 m12)
noncomputable def f_X12_laysWays_J386 (l4 : Int32) (l11 : Int32) (m12 : mi_M) (v15 : Int32) (u16 : Int32) : Option ((Int32 × mi_M) ⊕ (mi_M)) := mi_let (((6 : Int32) * l11) + (l4 - l4 / (6 : Int32) * (6 : Int32))) fun v17 => if v15 ≤ 0 then f_X12_laysWays_J468 l4 l11 m12 else mi_g (vp_in v17 36) (if (1000000 : Int32) ≤ (m12.1 66 0 v17.toNatClampNeg) then f_X12_laysWays_J468 l4 l11 m12 else mi_g (vp_in v17 36) (if u16 = 0 then f_X12_laysWays_J435 l4 l11 m12 v15 v17 v15 else f_X12_laysWays_J435 l4 l11 m12 v15 v17 (0 : Int32)))
noncomputable def f_X12_laysWays_J381 (l4 : Int32) (l11 : Int32) (m12 : mi_M) (v15 : Int32) : Option ((Int32 × mi_M) ⊕ (mi_M)) := f_X12_laysWays_J386 l4 l11 m12 v15 (1 : Int32)
noncomputable def f_X12_laysWays_B314 (p0 : Int32) (l4 : Int32) : (Int32 × mi_M) → Option ((Int32 × mi_M) ⊕ (mi_M)) := fun s => match s with | (l11, m12) => if l11 < 0 then some (.inr m12) else if (l4 / (6 : Int32)) = (l4 - l4 / (6 : Int32) * (6 : Int32)) then some (.inr m12) else mi_g (vp_in l4 36) (if (1000000 : Int32) ≤ (m12.1 66 0 l4.toNatClampNeg) then some (.inr m12) else mi_g (vp_in (((21 : Int32) + ((6 : Int32) * (l4 / (6 : Int32)))) + l11) 200) (mi_let (m12.1 56 0 (((21 : Int32) + ((6 : Int32) * (l4 / (6 : Int32)))) + l11).toNatClampNeg) fun v15 => if ((p0 >>> ((l4 / (6 : Int32)) &&& 31)) &&& (1 : Int32)) = (1 : Int32) then f_X12_laysWays_J381 l4 l11 m12 v15 else if ((p0 >>> (l11 &&& 31)) &&& (1 : Int32)) = (1 : Int32) then f_X12_laysWays_J381 l4 l11 m12 v15 else f_X12_laysWays_J386 l4 l11 m12 v15 (0 : Int32)))
noncomputable def f_X12_laysWays_K314 (l4 : Int32) : mi_M → Option ((Int32 × mi_M) ⊕ (mi_M)) := fun m10 => some (.inl ((l4 + (1 : Int32)), m10))
noncomputable def f_X12_laysWays_B294 (p0 : Int32) : (Int32 × mi_M) → Option ((Int32 × mi_M) ⊕ (mi_M)) := fun s => match s with | (l4, m5) => if (36 : Int32) ≤ l4 then some (.inr m5) else mi_g (vp_in l4 36) (mi_let (mi_wI m5 68 0 l4.toNatClampNeg (-1 : Int32)) fun m7 => mi_bo (f_X12_people m7) fun v8 => mi_let (v8 - (1 : Int32)) fun v9 => mi_bo (mi_lp (f_X12_laysWays_B314 p0 l4) mi_fu (v9, m7)) (f_X12_laysWays_K314 l4))
noncomputable def f_X12_laysWays_K294 : mi_M → Option (mi_M) := fun m3 => some m3
noncomputable def f_X12_laysWays_J280 (l45 : Int32) (m50 : mi_M) : Option ((Int32 × mi_M) ⊕ (mi_M)) := some (.inl ((l45 + (1 : Int32)), m50))
noncomputable def f_X12_laysWays_B146 (l41 : Int32) : (Int32 × mi_M) → Option ((Int32 × mi_M) ⊕ (mi_M)) := fun s => match s with | (l45, m46) => if (36 : Int32) ≤ l45 then some (.inr m46) else mi_let (((6 : Int32) * (l45 / (6 : Int32))) + l41) fun v47 => mi_let (((6 : Int32) * l41) + (l45 - l45 / (6 : Int32) * (6 : Int32))) fun v48 => mi_g (vp_in v47 36) (if (1000000 : Int32) ≤ (m46.1 66 0 v47.toNatClampNeg) then f_X12_laysWays_J280 l45 m46 else mi_g (vp_in v48 36) (if (1000000 : Int32) ≤ (m46.1 66 0 v48.toNatClampNeg) then f_X12_laysWays_J280 l45 m46 else mi_g (vp_in v47 36) (mi_g (vp_in v48 36) (mi_g (vp_in v47 36) (mi_g (vp_in v48 36) (mi_bo (f_X12_isNearer l45 ((m46.1 66 0 v47.toNatClampNeg) + (m46.1 66 0 v48.toNatClampNeg)) ((m46.1 67 0 v47.toNatClampNeg) + (m46.1 67 0 v48.toNatClampNeg)) m46) fun v56 => if v56 = 0 then f_X12_laysWays_J280 l45 m46 else mi_g (vp_in v47 36) (mi_g (vp_in v48 36) (mi_g (vp_in l45 36) (mi_let (mi_wI m46 66 0 l45.toNatClampNeg ((m46.1 66 0 v47.toNatClampNeg) + (m46.1 66 0 v48.toNatClampNeg))) fun m60 => mi_g (vp_in v47 36) (mi_g (vp_in v48 36) (mi_g (vp_in l45 36) (mi_let (mi_wI m60 67 0 l45.toNatClampNeg ((m60.1 67 0 v47.toNatClampNeg) + (m60.1 67 0 v48.toNatClampNeg))) fun m64 => f_X12_laysWays_J280 l45 m64))))))))))))
noncomputable def f_X12_laysWays_K146 (l41 : Int32) : mi_M → Option ((Int32 × mi_M) ⊕ (mi_M)) := fun m44 => some (.inl ((l41 + (1 : Int32)), m44))
noncomputable def f_X12_laysWays_B136 : (Int32 × mi_M) → Option ((Int32 × mi_M) ⊕ (mi_M)) := fun s => match s with | (l41, m42) => mi_bo (f_X12_people m42) fun v43 => if v43 ≤ l41 then some (.inr m42) else mi_bo (mi_lp (f_X12_laysWays_B146 l41) mi_fu ((0 : Int32), m42)) (f_X12_laysWays_K146 l41)
noncomputable def f_X12_laysWays_K136 (p0 : Int32) : mi_M → Option (mi_M) := fun m2 => mi_bo (mi_lp (f_X12_laysWays_B294 p0) mi_fu ((0 : Int32), m2)) (f_X12_laysWays_K294)
noncomputable def f_X12_laysWays_J127 (l70 : Int32) (m78 : mi_M) (u79 : Int32) : Option ((Int32 × mi_M) ⊕ (mi_M)) := mi_g (vp_in l70 36) (mi_let (mi_wI m78 67 0 l70.toNatClampNeg u79) fun m81 => some (.inl ((l70 + (1 : Int32)), m81)))
noncomputable def f_X12_laysWays_J101 (l70 : Int32) (m71 : mi_M) (v73 : Int32) (u75 : Int32) (u76 : Int32) : Option ((Int32 × mi_M) ⊕ (mi_M)) := mi_g (vp_in l70 36) (mi_let (mi_wI m71 66 0 l70.toNatClampNeg u76) fun m78 => if u75 = 0 then if v73 = 0 then f_X12_laysWays_J127 l70 m78 (1000000 : Int32) else f_X12_laysWays_J127 l70 m78 v73 else f_X12_laysWays_J127 l70 m78 (0 : Int32))
noncomputable def f_X12_laysWays_J65 (l70 : Int32) (m71 : mi_M) (v73 : Int32) (u74 : Int32) (u75 : Int32) : Option ((Int32 × mi_M) ⊕ (mi_M)) := if u75 = 0 then if v73 = 0 then f_X12_laysWays_J101 l70 m71 v73 u75 (1000000 : Int32) else if u74 = 0 then f_X12_laysWays_J101 l70 m71 v73 u75 v73 else f_X12_laysWays_J101 l70 m71 v73 u75 (0 : Int32) else f_X12_laysWays_J101 l70 m71 v73 u75 (0 : Int32)
noncomputable def f_X12_laysWays_J47 (l70 : Int32) (m71 : mi_M) (v73 : Int32) (u74 : Int32) : Option ((Int32 × mi_M) ⊕ (mi_M)) := if (l70 / (6 : Int32)) = (l70 - l70 / (6 : Int32) * (6 : Int32)) then f_X12_laysWays_J65 l70 m71 v73 u74 (1 : Int32) else f_X12_laysWays_J65 l70 m71 v73 u74 (0 : Int32)
noncomputable def f_X12_laysWays_J42 (l70 : Int32) (m71 : mi_M) (v73 : Int32) : Option ((Int32 × mi_M) ⊕ (mi_M)) := f_X12_laysWays_J47 l70 m71 v73 (1 : Int32)
noncomputable def f_X12_laysWays_B2 (p0 : Int32) : (Int32 × mi_M) → Option ((Int32 × mi_M) ⊕ (mi_M)) := fun s => match s with | (l70, m71) => if (36 : Int32) ≤ l70 then some (.inr m71) else mi_g (vp_in ((21 : Int32) + l70) 200) (mi_let (m71.1 56 0 ((21 : Int32) + l70).toNatClampNeg) fun v73 => if ((p0 >>> ((l70 / (6 : Int32)) &&& 31)) &&& (1 : Int32)) = (1 : Int32) then f_X12_laysWays_J42 l70 m71 v73 else if ((p0 >>> ((l70 - l70 / (6 : Int32) * (6 : Int32)) &&& 31)) &&& (1 : Int32)) = (1 : Int32) then f_X12_laysWays_J42 l70 m71 v73 else f_X12_laysWays_J47 l70 m71 v73 (0 : Int32))
noncomputable def f_X12_laysWays_K2 (p0 : Int32) : mi_M → Option (mi_M) := fun m1 => mi_bo (mi_lp (f_X12_laysWays_B136) mi_fu ((0 : Int32), m1)) (f_X12_laysWays_K136 p0)
noncomputable def f_X12_laysWays (p0 : Int32) (mem : mi_M) : Option (mi_M) := mi_bo (mi_lp (f_X12_laysWays_B2 p0) mi_fu ((0 : Int32), mem)) (f_X12_laysWays_K2 p0)
set_option maxRecDepth 100000 in
set_option maxHeartbeats 4000000 in
theorem w_X12_laysWays (p0 : Int32) (mem : mi_M) (a : mi_M) (e : f_X12_laysWays p0 mem = some a) : mi_Cv (2) mX12_laysWays [vr 12 0, vi p0] mem (fun m' => m' = a) := by
  unfold mi_Cv
  refine mi_C_intro (ls := [(0, vr 12 0), (1, vi p0)]) (by decide) rfl rfl ?_
  obtain ⟨Q0, hq0, h⟩ : ∃ Q0 : mi_M → Prop, (∀ b, Q0 b → b = a) ∧ wo (f_X12_laysWays p0 mem) Q0 := ⟨fun b => b = a, fun _ h => h, wo_eq e⟩
  obtain ⟨QX, hQX⟩ : ∃ QX : Option mi_V → mi_M → Prop, QX = (fun r m' => r = none ∧ m' = a) := ⟨_, rfl⟩
  rw [← hQX]
  unfold f_X12_laysWays at h
  refine x_iconst (pc := 0) dX12_laysWays_0 (v := (0 : Int32)) (by decide) ?_
  refine x_istore_n (ls' := [(2, _), (0, _), (1, _)]) (pc := 1) dX12_laysWays_1 rfl rfl rfl ?_
  have k2_0 : ∀ (m1 : mi_M), wo (f_X12_laysWays_K2 p0 m1) Q0 → mi_X mX12_laysWays (2) 134 [(0, vr 12 0), (1, vi p0)] [] m1 QX := by
    intro m1 h
    unfold f_X12_laysWays_K2 at h
    try dsimp only at h
    refine x_iconst (pc := 134) dX12_laysWays_134 (v := (0 : Int32)) (by decide) ?_
    refine x_istore_n (ls' := [(2, _), (0, _), (1, _)]) (pc := 135) dX12_laysWays_135 rfl rfl rfl ?_
    have k136_0 : ∀ (m2 : mi_M), wo (f_X12_laysWays_K136 p0 m2) Q0 → mi_X mX12_laysWays (2) 292 [(0, vr 12 0), (1, vi p0)] [] m2 QX := by
      intro m2 h
      unfold f_X12_laysWays_K136 at h
      try dsimp only at h
      refine x_iconst (pc := 292) dX12_laysWays_292 (v := (0 : Int32)) (by decide) ?_
      refine x_istore_n (ls' := [(2, _), (0, _), (1, _)]) (pc := 293) dX12_laysWays_293 rfl rfl rfl ?_
      have k294_0 : ∀ (m3 : mi_M), wo (f_X12_laysWays_K294 m3) Q0 → mi_X mX12_laysWays (2) 504 [] [] m3 QX := by
        intro m3 h
        unfold f_X12_laysWays_K294 at h
        try dsimp only at h
        exact x_ret (pc := 504) dX12_laysWays_504 rfl (by rw [hQX]; exact ⟨rfl, hq0 _ (wo_some h)⟩)
      refine x_sub [(0, _), (1, _), (2, _)] ⟨rfl, rfl, rfl, trivial⟩ ?_
      obtain ⟨ea, eb, h⟩ := wo_bo h
      refine wo_lq (X := fun s => match s with | (l4, m5) => mi_X mX12_laysWays (2) 294 [(0, vr 12 0), (1, vi p0), (2, vi l4)] [] m5 QX) (E := fun e => wo (f_X12_laysWays_K294 e) Q0) ?_ _ ((0 : Int32), m2) ⟨_, eb, h⟩
      intro Q294 hb294 he294 s h
      obtain ⟨l4, m5⟩ := s
      show mi_X mX12_laysWays (2) 294 [(0, vr 12 0), (1, vi p0), (2, vi l4)] [] m5 QX
      unfold f_X12_laysWays_B294 at h
      try dsimp only at h
      refine x_iload_n (pc := 294) dX12_laysWays_294 rfl ?_
      refine x_bipush (pc := 295) dX12_laysWays_295 (v := (36 : Int32)) (by decide) ?_
      refine x_icmp_ge (pc := 297) dX12_laysWays_297 (tgt := 504) (by decide) (fun c40 => ?_) (fun c40 => ?_)
      · replace h := wo_pos c40 h
        refine x_sub [] trivial ?_
        exact k294_0 _ (he294 m5 (wo_some h))
      · replace h := wo_neg c40 h
        refine x_aload_n (pc := 300) dX12_laysWays_300 rfl ?_
        refine x_getS (pc := 301) dX12_laysWays_301 fX12_126 rfl (by decide) ?_
        refine x_iload_n (pc := 304) dX12_laysWays_304 rfl ?_
        refine x_iconst (pc := 305) dX12_laysWays_305 (v := (-1 : Int32)) (by decide) ?_
        obtain ⟨hx6, h⟩ := wo_g h
        refine x_iastJ (pc := 306) dX12_laysWays_306 rfl rfl (by decide) rfl hx6 ?_
        refine x_letm h (fun m7 h => ?_)
        refine x_aload_n (pc := 307) dX12_laysWays_307 rfl ?_
        refine z_Vi0 (pc := 308) h dX12_laysWays_308 lX12_294 (by decide) (by omega) rfl (fun a e => w_X12_people _ a e) (fun v8 h => ?_)
        refine x_iconst (pc := 311) dX12_laysWays_311 (v := (1 : Int32)) (by decide) ?_
        refine x_isub (pc := 312) dX12_laysWays_312 ?_
        refine x_leti h (fun v9 h => ?_)
        refine x_istore_n (ls' := [(3, _), (0, _), (1, _), (2, _)]) (pc := 313) dX12_laysWays_313 rfl rfl rfl ?_
        have k314_0 : ∀ (m10 : mi_M), wo (f_X12_laysWays_K314 l4 m10) Q294 → mi_X mX12_laysWays (2) 498 [(0, vr 12 0), (1, vi p0), (2, vi l4)] [] m10 QX := by
          intro m10 h
          unfold f_X12_laysWays_K314 at h
          try dsimp only at h
          refine x_iinc (ls' := [(2, _), (0, _), (1, _)]) (pc := 498) dX12_laysWays_498 rfl (v := l4 + (1 : Int32)) rfl rfl rfl ?_
          refine x_goto (pc := 501) dX12_laysWays_501 (tgt := 294) (by decide) ?_
          refine x_sub [(0, _), (1, _), (2, _)] ⟨rfl, rfl, rfl, trivial⟩ ?_
          exact hb294 ((l4 + (1 : Int32)), m10) (wo_some h)
        refine x_sub [(0, _), (1, _), (2, _), (3, _)] ⟨rfl, rfl, rfl, rfl, trivial⟩ ?_
        obtain ⟨ea, eb, h⟩ := wo_bo h
        refine wo_lq (X := fun s => match s with | (l11, m12) => mi_X mX12_laysWays (2) 314 [(0, vr 12 0), (1, vi p0), (2, vi l4), (3, vi l11)] [] m12 QX) (E := fun e => wo (f_X12_laysWays_K314 l4 e) Q294) ?_ _ (v9, m7) ⟨_, eb, h⟩
        intro Q314 hb314 he314 s h
        obtain ⟨l11, m12⟩ := s
        show mi_X mX12_laysWays (2) 314 [(0, vr 12 0), (1, vi p0), (2, vi l4), (3, vi l11)] [] m12 QX
        unfold f_X12_laysWays_B314 at h
        try dsimp only at h
        refine x_iload_n (pc := 314) dX12_laysWays_314 rfl ?_
        refine x_if_lt (pc := 315) dX12_laysWays_315 (tgt := 498) (by decide) (fun c39 => ?_) (fun c39 => ?_)
        · replace h := wo_pos c39 h
          refine x_sub [(0, _), (1, _), (2, _)] ⟨rfl, rfl, rfl, trivial⟩ ?_
          exact k314_0 _ (he314 m12 (wo_some h))
        · replace h := wo_neg c39 h
          refine x_iload_n (pc := 318) dX12_laysWays_318 rfl ?_
          refine x_bipush (pc := 319) dX12_laysWays_319 (v := (6 : Int32)) (by decide) ?_
          refine x_idiv (pc := 321) dX12_laysWays_321 (by decide) ?_
          refine x_iload_n (pc := 322) dX12_laysWays_322 rfl ?_
          refine x_bipush (pc := 323) dX12_laysWays_323 (v := (6 : Int32)) (by decide) ?_
          refine x_irem (pc := 325) dX12_laysWays_325 (by decide) ?_
          refine x_icmp_eq (pc := 326) dX12_laysWays_326 (tgt := 498) (by decide) (fun c38 => ?_) (fun c38 => ?_)
          · replace h := wo_pos c38 h
            refine x_sub [(0, _), (1, _), (2, _)] ⟨rfl, rfl, rfl, trivial⟩ ?_
            exact k314_0 _ (he314 m12 (wo_some h))
          · replace h := wo_neg c38 h
            refine x_aload_n (pc := 329) dX12_laysWays_329 rfl ?_
            refine x_getS (pc := 330) dX12_laysWays_330 fX12_120 rfl (by decide) ?_
            refine x_iload_n (pc := 333) dX12_laysWays_333 rfl ?_
            obtain ⟨hx13, h⟩ := wo_g h
            refine x_ialdJ (pc := 334) dX12_laysWays_334 rfl rfl (by decide) hx13 ?_
            refine x_ldcw (pc := 335) dX12_laysWays_335 kX12_342 ?_
            refine x_icmp_ge (pc := 338) dX12_laysWays_338 (tgt := 498) (by decide) (fun c37 => ?_) (fun c37 => ?_)
            · replace h := wo_pos c37 h
              refine x_sub [(0, _), (1, _), (2, _)] ⟨rfl, rfl, rfl, trivial⟩ ?_
              exact k314_0 _ (he314 m12 (wo_some h))
            · replace h := wo_neg c37 h
              refine x_aload_n (pc := 341) dX12_laysWays_341 rfl ?_
              refine x_getS (pc := 342) dX12_laysWays_342 fX12_89 rfl (by decide) ?_
              refine x_bipush (pc := 345) dX12_laysWays_345 (v := (21 : Int32)) (by decide) ?_
              refine x_bipush (pc := 347) dX12_laysWays_347 (v := (6 : Int32)) (by decide) ?_
              refine x_iload_n (pc := 349) dX12_laysWays_349 rfl ?_
              refine x_bipush (pc := 350) dX12_laysWays_350 (v := (6 : Int32)) (by decide) ?_
              refine x_idiv (pc := 352) dX12_laysWays_352 (by decide) ?_
              refine x_imul (pc := 353) dX12_laysWays_353 ?_
              refine x_iadd (pc := 354) dX12_laysWays_354 ?_
              refine x_iload_n (pc := 355) dX12_laysWays_355 rfl ?_
              refine x_iadd (pc := 356) dX12_laysWays_356 ?_
              obtain ⟨hx14, h⟩ := wo_g h
              refine x_ialdJ (pc := 357) dX12_laysWays_357 rfl rfl (by decide) hx14 ?_
              refine x_leti h (fun v15 h => ?_)
              refine x_istore (ls' := [(4, _), (0, _), (1, _), (2, _), (3, _)]) (pc := 358) dX12_laysWays_358 rfl rfl ?_
              refine x_iload_n (pc := 360) dX12_laysWays_360 rfl ?_
              refine x_iload_n (pc := 361) dX12_laysWays_361 rfl ?_
              refine x_bipush (pc := 362) dX12_laysWays_362 (v := (6 : Int32)) (by decide) ?_
              refine x_idiv (pc := 364) dX12_laysWays_364 (by decide) ?_
              refine x_ishr (pc := 365) dX12_laysWays_365 ?_
              refine x_iconst (pc := 366) dX12_laysWays_366 (v := (1 : Int32)) (by decide) ?_
              refine x_iand (pc := 367) dX12_laysWays_367 ?_
              refine x_iconst (pc := 368) dX12_laysWays_368 (v := (1 : Int32)) (by decide) ?_
              have j386 : ∀ (u16 : Int32), wo (f_X12_laysWays_J386 l4 l11 m12 v15 u16) Q314 → mi_X mX12_laysWays (2) 386 [(0, vr 12 0), (1, vi p0), (2, vi l4), (3, vi l11), (4, vi v15)] [vi u16] m12 QX := by
                intro u16 h
                unfold f_X12_laysWays_J386 at h
                refine x_istore (ls' := [(5, _), (0, _), (1, _), (2, _), (3, _), (4, _)]) (pc := 386) dX12_laysWays_386 rfl rfl ?_
                refine x_bipush (pc := 388) dX12_laysWays_388 (v := (6 : Int32)) (by decide) ?_
                refine x_iload_n (pc := 390) dX12_laysWays_390 rfl ?_
                refine x_imul (pc := 391) dX12_laysWays_391 ?_
                refine x_iload_n (pc := 392) dX12_laysWays_392 rfl ?_
                refine x_bipush (pc := 393) dX12_laysWays_393 (v := (6 : Int32)) (by decide) ?_
                refine x_irem (pc := 395) dX12_laysWays_395 (by decide) ?_
                refine x_iadd (pc := 396) dX12_laysWays_396 ?_
                refine x_leti h (fun v17 h => ?_)
                refine x_istore (ls' := [(6, _), (5, _), (0, _), (1, _), (2, _), (3, _), (4, _)]) (pc := 397) dX12_laysWays_397 rfl rfl ?_
                refine x_iload (pc := 399) dX12_laysWays_399 rfl ?_
                have j469 : ∀ (u18 : Int32), wo (f_X12_laysWays_J469 l4 l11 m12 u18) Q314 → mi_X mX12_laysWays (2) 469 [(0, vr 12 0), (1, vi p0), (2, vi l4), (3, vi l11)] [vi u18] m12 QX := by
                  intro u18 h
                  unfold f_X12_laysWays_J469 at h
                  refine x_istore (ls' := [(7, _), (0, _), (1, _), (2, _), (3, _)]) (pc := 469) dX12_laysWays_469 rfl rfl ?_
                  refine x_aload_n (pc := 471) dX12_laysWays_471 rfl ?_
                  refine x_getS (pc := 472) dX12_laysWays_472 fX12_126 rfl (by decide) ?_
                  refine x_iload_n (pc := 475) dX12_laysWays_475 rfl ?_
                  refine x_iload (pc := 476) dX12_laysWays_476 rfl ?_
                  have j491 : ∀ (u19 : Int32), wo (f_X12_laysWays_J491 l4 l11 m12 u19) Q314 → mi_X mX12_laysWays (2) 491 [(0, vr 12 0), (1, vi p0), (2, vi l4), (3, vi l11)] [vi u19, vi l4, vr 68 0] m12 QX := by
                    intro u19 h
                    unfold f_X12_laysWays_J491 at h
                    obtain ⟨hx20, h⟩ := wo_g h
                    refine x_iastJ (pc := 491) dX12_laysWays_491 rfl rfl (by decide) rfl hx20 ?_
                    refine x_letm h (fun m21 h => ?_)
                    refine x_iinc (ls' := [(3, _), (0, _), (1, _), (2, _)]) (pc := 492) dX12_laysWays_492 rfl (v := l11 + (-1 : Int32)) rfl rfl rfl ?_
                    refine x_goto (pc := 495) dX12_laysWays_495 (tgt := 314) (by decide) ?_
                    refine x_sub [(0, _), (1, _), (2, _), (3, _)] ⟨rfl, rfl, rfl, rfl, trivial⟩ ?_
                    exact hb314 ((l11 + (-1 : Int32)), m21) (wo_some h)
                  refine x_if_eq (pc := 478) dX12_laysWays_478 (tgt := 485) (by decide) (fun c23 => ?_) (fun c23 => ?_)
                  · replace h := wo_pos c23 h
                    refine x_aload_n (pc := 485) dX12_laysWays_485 rfl ?_
                    refine x_getS (pc := 486) dX12_laysWays_486 fX12_126 rfl (by decide) ?_
                    refine x_iload_n (pc := 489) dX12_laysWays_489 rfl ?_
                    obtain ⟨hx22, h⟩ := wo_g h
                    refine x_ialdJ (pc := 490) dX12_laysWays_490 rfl rfl (by decide) hx22 ?_
                    refine x_sub [(0, _), (1, _), (2, _), (3, _)] ⟨rfl, rfl, rfl, rfl, trivial⟩ ?_
                    exact j491 _ h
                  · replace h := wo_neg c23 h
                    refine x_iload_n (pc := 481) dX12_laysWays_481 rfl ?_
                    refine x_goto (pc := 482) dX12_laysWays_482 (tgt := 491) (by decide) ?_
                    refine x_sub [(0, _), (1, _), (2, _), (3, _)] ⟨rfl, rfl, rfl, rfl, trivial⟩ ?_
                    exact j491 _ h
                have j468 : wo (f_X12_laysWays_J468 l4 l11 m12) Q314 → mi_X mX12_laysWays (2) 468 [(0, vr 12 0), (1, vi p0), (2, vi l4), (3, vi l11)] [] m12 QX := by
                  intro h
                  unfold f_X12_laysWays_J468 at h
                  refine x_iconst (pc := 468) dX12_laysWays_468 (v := (0 : Int32)) (by decide) ?_
                  refine x_sub [(0, _), (1, _), (2, _), (3, _)] ⟨rfl, rfl, rfl, rfl, trivial⟩ ?_
                  exact j469 _ h
                refine x_if_le (pc := 401) dX12_laysWays_401 (tgt := 468) (by decide) (fun c34 => ?_) (fun c34 => ?_)
                · replace h := wo_pos c34 h
                  refine x_sub [(0, _), (1, _), (2, _), (3, _)] ⟨rfl, rfl, rfl, rfl, trivial⟩ ?_
                  exact j468 h
                · replace h := wo_neg c34 h
                  refine x_aload_n (pc := 404) dX12_laysWays_404 rfl ?_
                  refine x_getS (pc := 405) dX12_laysWays_405 fX12_120 rfl (by decide) ?_
                  refine x_iload (pc := 408) dX12_laysWays_408 rfl ?_
                  obtain ⟨hx24, h⟩ := wo_g h
                  refine x_ialdJ (pc := 410) dX12_laysWays_410 rfl rfl (by decide) hx24 ?_
                  refine x_ldcw (pc := 411) dX12_laysWays_411 kX12_342 ?_
                  refine x_icmp_ge (pc := 414) dX12_laysWays_414 (tgt := 468) (by decide) (fun c33 => ?_) (fun c33 => ?_)
                  · replace h := wo_pos c33 h
                    refine x_sub [(0, _), (1, _), (2, _), (3, _)] ⟨rfl, rfl, rfl, rfl, trivial⟩ ?_
                    exact j468 h
                  · replace h := wo_neg c33 h
                    refine x_aload_n (pc := 417) dX12_laysWays_417 rfl ?_
                    refine x_getS (pc := 418) dX12_laysWays_418 fX12_120 rfl (by decide) ?_
                    refine x_iload (pc := 421) dX12_laysWays_421 rfl ?_
                    obtain ⟨hx25, h⟩ := wo_g h
                    refine x_ialdJ (pc := 423) dX12_laysWays_423 rfl rfl (by decide) hx25 ?_
                    refine x_iload (pc := 424) dX12_laysWays_424 rfl ?_
                    have j435 : ∀ (u26 : Int32), wo (f_X12_laysWays_J435 l4 l11 m12 v15 v17 u26) Q314 → mi_X mX12_laysWays (2) 435 [(0, vr 12 0), (1, vi p0), (2, vi l4), (3, vi l11), (4, vi v15), (6, vi v17)] [vi u26, vi (m12.1 66 0 v17.toNatClampNeg)] m12 QX := by
                      intro u26 h
                      unfold f_X12_laysWays_J435 at h
                      refine x_iadd (pc := 435) dX12_laysWays_435 ?_
                      refine x_aload_n (pc := 436) dX12_laysWays_436 rfl ?_
                      refine x_getS (pc := 437) dX12_laysWays_437 fX12_120 rfl (by decide) ?_
                      refine x_iload_n (pc := 440) dX12_laysWays_440 rfl ?_
                      obtain ⟨hx27, h⟩ := wo_g h
                      refine x_ialdJ (pc := 441) dX12_laysWays_441 rfl rfl (by decide) hx27 ?_
                      refine x_icmp_ne (pc := 442) dX12_laysWays_442 (tgt := 468) (by decide) (fun c31 => ?_) (fun c31 => ?_)
                      · replace h := wo_neg c31 h
                        refine x_sub [(0, _), (1, _), (2, _), (3, _)] ⟨rfl, rfl, rfl, rfl, trivial⟩ ?_
                        exact j468 h
                      · replace h := wo_pos c31 h
                        refine x_aload_n (pc := 445) dX12_laysWays_445 rfl ?_
                        refine x_getS (pc := 446) dX12_laysWays_446 fX12_123 rfl (by decide) ?_
                        refine x_iload (pc := 449) dX12_laysWays_449 rfl ?_
                        obtain ⟨hx28, h⟩ := wo_g h
                        refine x_ialdJ (pc := 451) dX12_laysWays_451 rfl rfl (by decide) hx28 ?_
                        refine x_iload (pc := 452) dX12_laysWays_452 rfl ?_
                        refine x_iadd (pc := 454) dX12_laysWays_454 ?_
                        refine x_aload_n (pc := 455) dX12_laysWays_455 rfl ?_
                        refine x_getS (pc := 456) dX12_laysWays_456 fX12_123 rfl (by decide) ?_
                        refine x_iload_n (pc := 459) dX12_laysWays_459 rfl ?_
                        obtain ⟨hx29, h⟩ := wo_g h
                        refine x_ialdJ (pc := 460) dX12_laysWays_460 rfl rfl (by decide) hx29 ?_
                        refine x_icmp_ne (pc := 461) dX12_laysWays_461 (tgt := 468) (by decide) (fun c30 => ?_) (fun c30 => ?_)
                        · replace h := wo_neg c30 h
                          refine x_sub [(0, _), (1, _), (2, _), (3, _)] ⟨rfl, rfl, rfl, rfl, trivial⟩ ?_
                          exact j468 h
                        · replace h := wo_pos c30 h
                          refine x_iconst (pc := 464) dX12_laysWays_464 (v := (1 : Int32)) (by decide) ?_
                          refine x_goto (pc := 465) dX12_laysWays_465 (tgt := 469) (by decide) ?_
                          refine x_sub [(0, _), (1, _), (2, _), (3, _)] ⟨rfl, rfl, rfl, rfl, trivial⟩ ?_
                          exact j469 _ h
                    refine x_if_eq (pc := 426) dX12_laysWays_426 (tgt := 433) (by decide) (fun c32 => ?_) (fun c32 => ?_)
                    · replace h := wo_pos c32 h
                      refine x_iload (pc := 433) dX12_laysWays_433 rfl ?_
                      refine x_sub [(0, _), (1, _), (2, _), (3, _), (4, _), (6, _)] ⟨rfl, rfl, rfl, rfl, rfl, rfl, trivial⟩ ?_
                      exact j435 _ h
                    · replace h := wo_neg c32 h
                      refine x_iconst (pc := 429) dX12_laysWays_429 (v := (0 : Int32)) (by decide) ?_
                      refine x_goto (pc := 430) dX12_laysWays_430 (tgt := 435) (by decide) ?_
                      refine x_sub [(0, _), (1, _), (2, _), (3, _), (4, _), (6, _)] ⟨rfl, rfl, rfl, rfl, rfl, rfl, trivial⟩ ?_
                      exact j435 _ h
              have j381 : wo (f_X12_laysWays_J381 l4 l11 m12 v15) Q314 → mi_X mX12_laysWays (2) 381 [(0, vr 12 0), (1, vi p0), (2, vi l4), (3, vi l11), (4, vi v15)] [] m12 QX := by
                intro h
                unfold f_X12_laysWays_J381 at h
                refine x_iconst (pc := 381) dX12_laysWays_381 (v := (1 : Int32)) (by decide) ?_
                refine x_goto (pc := 382) dX12_laysWays_382 (tgt := 386) (by decide) ?_
                refine x_sub [(0, _), (1, _), (2, _), (3, _), (4, _)] ⟨rfl, rfl, rfl, rfl, rfl, trivial⟩ ?_
                exact j386 _ h
              refine x_icmp_eq (pc := 369) dX12_laysWays_369 (tgt := 381) (by decide) (fun c36 => ?_) (fun c36 => ?_)
              · replace h := wo_pos c36 h
                refine x_sub [(0, _), (1, _), (2, _), (3, _), (4, _)] ⟨rfl, rfl, rfl, rfl, rfl, trivial⟩ ?_
                exact j381 h
              · replace h := wo_neg c36 h
                refine x_iload_n (pc := 372) dX12_laysWays_372 rfl ?_
                refine x_iload_n (pc := 373) dX12_laysWays_373 rfl ?_
                refine x_ishr (pc := 374) dX12_laysWays_374 ?_
                refine x_iconst (pc := 375) dX12_laysWays_375 (v := (1 : Int32)) (by decide) ?_
                refine x_iand (pc := 376) dX12_laysWays_376 ?_
                refine x_iconst (pc := 377) dX12_laysWays_377 (v := (1 : Int32)) (by decide) ?_
                refine x_icmp_ne (pc := 378) dX12_laysWays_378 (tgt := 385) (by decide) (fun c35 => ?_) (fun c35 => ?_)
                · replace h := wo_neg c35 h
                  refine x_iconst (pc := 385) dX12_laysWays_385 (v := (0 : Int32)) (by decide) ?_
                  refine x_sub [(0, _), (1, _), (2, _), (3, _), (4, _)] ⟨rfl, rfl, rfl, rfl, rfl, trivial⟩ ?_
                  exact j386 _ h
                · replace h := wo_pos c35 h
                  refine x_sub [(0, _), (1, _), (2, _), (3, _), (4, _)] ⟨rfl, rfl, rfl, rfl, rfl, trivial⟩ ?_
                  exact j381 h
    refine x_sub [(0, _), (1, _), (2, _)] ⟨rfl, rfl, rfl, trivial⟩ ?_
    obtain ⟨ea, eb, h⟩ := wo_bo h
    refine wo_lq (X := fun s => match s with | (l41, m42) => mi_X mX12_laysWays (2) 136 [(0, vr 12 0), (1, vi p0), (2, vi l41)] [] m42 QX) (E := fun e => wo (f_X12_laysWays_K136 p0 e) Q0) ?_ _ ((0 : Int32), m1) ⟨_, eb, h⟩
    intro Q136 hb136 he136 s h
    obtain ⟨l41, m42⟩ := s
    show mi_X mX12_laysWays (2) 136 [(0, vr 12 0), (1, vi p0), (2, vi l41)] [] m42 QX
    unfold f_X12_laysWays_B136 at h
    try dsimp only at h
    refine x_iload_n (pc := 136) dX12_laysWays_136 rfl ?_
    refine x_aload_n (pc := 137) dX12_laysWays_137 rfl ?_
    refine z_Vi0 (pc := 138) h dX12_laysWays_138 lX12_294 (by decide) (by omega) rfl (fun a e => w_X12_people _ a e) (fun v43 h => ?_)
    refine x_icmp_ge (pc := 141) dX12_laysWays_141 (tgt := 292) (by decide) (fun c69 => ?_) (fun c69 => ?_)
    · replace h := wo_pos c69 h
      refine x_sub [(0, _), (1, _)] ⟨rfl, rfl, trivial⟩ ?_
      exact k136_0 _ (he136 m42 (wo_some h))
    · replace h := wo_neg c69 h
      refine x_iconst (pc := 144) dX12_laysWays_144 (v := (0 : Int32)) (by decide) ?_
      refine x_istore_n (ls' := [(3, _), (0, _), (1, _), (2, _)]) (pc := 145) dX12_laysWays_145 rfl rfl rfl ?_
      have k146_0 : ∀ (m44 : mi_M), wo (f_X12_laysWays_K146 l41 m44) Q136 → mi_X mX12_laysWays (2) 286 [(0, vr 12 0), (1, vi p0), (2, vi l41)] [] m44 QX := by
        intro m44 h
        unfold f_X12_laysWays_K146 at h
        try dsimp only at h
        refine x_iinc (ls' := [(2, _), (0, _), (1, _)]) (pc := 286) dX12_laysWays_286 rfl (v := l41 + (1 : Int32)) rfl rfl rfl ?_
        refine x_goto (pc := 289) dX12_laysWays_289 (tgt := 136) (by decide) ?_
        refine x_sub [(0, _), (1, _), (2, _)] ⟨rfl, rfl, rfl, trivial⟩ ?_
        exact hb136 ((l41 + (1 : Int32)), m44) (wo_some h)
      refine x_sub [(0, _), (1, _), (2, _), (3, _)] ⟨rfl, rfl, rfl, rfl, trivial⟩ ?_
      obtain ⟨ea, eb, h⟩ := wo_bo h
      refine wo_lq (X := fun s => match s with | (l45, m46) => mi_X mX12_laysWays (2) 146 [(0, vr 12 0), (1, vi p0), (2, vi l41), (3, vi l45)] [] m46 QX) (E := fun e => wo (f_X12_laysWays_K146 l41 e) Q136) ?_ _ ((0 : Int32), m42) ⟨_, eb, h⟩
      intro Q146 hb146 he146 s h
      obtain ⟨l45, m46⟩ := s
      show mi_X mX12_laysWays (2) 146 [(0, vr 12 0), (1, vi p0), (2, vi l41), (3, vi l45)] [] m46 QX
      unfold f_X12_laysWays_B146 at h
      try dsimp only at h
      refine x_iload_n (pc := 146) dX12_laysWays_146 rfl ?_
      refine x_bipush (pc := 147) dX12_laysWays_147 (v := (36 : Int32)) (by decide) ?_
      refine x_icmp_ge (pc := 149) dX12_laysWays_149 (tgt := 286) (by decide) (fun c68 => ?_) (fun c68 => ?_)
      · replace h := wo_pos c68 h
        refine x_sub [(0, _), (1, _), (2, _)] ⟨rfl, rfl, rfl, trivial⟩ ?_
        exact k146_0 _ (he146 m46 (wo_some h))
      · replace h := wo_neg c68 h
        refine x_bipush (pc := 152) dX12_laysWays_152 (v := (6 : Int32)) (by decide) ?_
        refine x_iload_n (pc := 154) dX12_laysWays_154 rfl ?_
        refine x_bipush (pc := 155) dX12_laysWays_155 (v := (6 : Int32)) (by decide) ?_
        refine x_idiv (pc := 157) dX12_laysWays_157 (by decide) ?_
        refine x_imul (pc := 158) dX12_laysWays_158 ?_
        refine x_iload_n (pc := 159) dX12_laysWays_159 rfl ?_
        refine x_iadd (pc := 160) dX12_laysWays_160 ?_
        refine x_leti h (fun v47 h => ?_)
        refine x_istore (ls' := [(4, _), (0, _), (1, _), (2, _), (3, _)]) (pc := 161) dX12_laysWays_161 rfl rfl ?_
        refine x_bipush (pc := 163) dX12_laysWays_163 (v := (6 : Int32)) (by decide) ?_
        refine x_iload_n (pc := 165) dX12_laysWays_165 rfl ?_
        refine x_imul (pc := 166) dX12_laysWays_166 ?_
        refine x_iload_n (pc := 167) dX12_laysWays_167 rfl ?_
        refine x_bipush (pc := 168) dX12_laysWays_168 (v := (6 : Int32)) (by decide) ?_
        refine x_irem (pc := 170) dX12_laysWays_170 (by decide) ?_
        refine x_iadd (pc := 171) dX12_laysWays_171 ?_
        refine x_leti h (fun v48 h => ?_)
        refine x_istore (ls' := [(5, _), (4, _), (0, _), (1, _), (2, _), (3, _)]) (pc := 172) dX12_laysWays_172 rfl rfl ?_
        refine x_aload_n (pc := 174) dX12_laysWays_174 rfl ?_
        refine x_getS (pc := 175) dX12_laysWays_175 fX12_120 rfl (by decide) ?_
        refine x_iload (pc := 178) dX12_laysWays_178 rfl ?_
        obtain ⟨hx49, h⟩ := wo_g h
        refine x_ialdJ (pc := 180) dX12_laysWays_180 rfl rfl (by decide) hx49 ?_
        refine x_ldcw (pc := 181) dX12_laysWays_181 kX12_342 ?_
        have j280 : ∀ (m50 : mi_M), wo (f_X12_laysWays_J280 l45 m50) Q146 → mi_X mX12_laysWays (2) 280 [(0, vr 12 0), (1, vi p0), (2, vi l41), (3, vi l45)] [] m50 QX := by
          intro m50 h
          unfold f_X12_laysWays_J280 at h
          refine x_iinc (ls' := [(3, _), (0, _), (1, _), (2, _)]) (pc := 280) dX12_laysWays_280 rfl (v := l45 + (1 : Int32)) rfl rfl rfl ?_
          refine x_goto (pc := 283) dX12_laysWays_283 (tgt := 146) (by decide) ?_
          refine x_sub [(0, _), (1, _), (2, _), (3, _)] ⟨rfl, rfl, rfl, rfl, trivial⟩ ?_
          exact hb146 ((l45 + (1 : Int32)), m50) (wo_some h)
        refine x_icmp_ge (pc := 184) dX12_laysWays_184 (tgt := 280) (by decide) (fun c67 => ?_) (fun c67 => ?_)
        · replace h := wo_pos c67 h
          refine x_sub [(0, _), (1, _), (2, _), (3, _)] ⟨rfl, rfl, rfl, rfl, trivial⟩ ?_
          exact j280 _ h
        · replace h := wo_neg c67 h
          refine x_aload_n (pc := 187) dX12_laysWays_187 rfl ?_
          refine x_getS (pc := 188) dX12_laysWays_188 fX12_120 rfl (by decide) ?_
          refine x_iload (pc := 191) dX12_laysWays_191 rfl ?_
          obtain ⟨hx51, h⟩ := wo_g h
          refine x_ialdJ (pc := 193) dX12_laysWays_193 rfl rfl (by decide) hx51 ?_
          refine x_ldcw (pc := 194) dX12_laysWays_194 kX12_342 ?_
          refine x_icmp_ge (pc := 197) dX12_laysWays_197 (tgt := 280) (by decide) (fun c66 => ?_) (fun c66 => ?_)
          · replace h := wo_pos c66 h
            refine x_sub [(0, _), (1, _), (2, _), (3, _)] ⟨rfl, rfl, rfl, rfl, trivial⟩ ?_
            exact j280 _ h
          · replace h := wo_neg c66 h
            refine x_aload_n (pc := 200) dX12_laysWays_200 rfl ?_
            refine x_iload_n (pc := 201) dX12_laysWays_201 rfl ?_
            refine x_aload_n (pc := 202) dX12_laysWays_202 rfl ?_
            refine x_getS (pc := 203) dX12_laysWays_203 fX12_120 rfl (by decide) ?_
            refine x_iload (pc := 206) dX12_laysWays_206 rfl ?_
            obtain ⟨hx52, h⟩ := wo_g h
            refine x_ialdJ (pc := 208) dX12_laysWays_208 rfl rfl (by decide) hx52 ?_
            refine x_aload_n (pc := 209) dX12_laysWays_209 rfl ?_
            refine x_getS (pc := 210) dX12_laysWays_210 fX12_120 rfl (by decide) ?_
            refine x_iload (pc := 213) dX12_laysWays_213 rfl ?_
            obtain ⟨hx53, h⟩ := wo_g h
            refine x_ialdJ (pc := 215) dX12_laysWays_215 rfl rfl (by decide) hx53 ?_
            refine x_iadd (pc := 216) dX12_laysWays_216 ?_
            refine x_aload_n (pc := 217) dX12_laysWays_217 rfl ?_
            refine x_getS (pc := 218) dX12_laysWays_218 fX12_123 rfl (by decide) ?_
            refine x_iload (pc := 221) dX12_laysWays_221 rfl ?_
            obtain ⟨hx54, h⟩ := wo_g h
            refine x_ialdJ (pc := 223) dX12_laysWays_223 rfl rfl (by decide) hx54 ?_
            refine x_aload_n (pc := 224) dX12_laysWays_224 rfl ?_
            refine x_getS (pc := 225) dX12_laysWays_225 fX12_123 rfl (by decide) ?_
            refine x_iload (pc := 228) dX12_laysWays_228 rfl ?_
            obtain ⟨hx55, h⟩ := wo_g h
            refine x_ialdJ (pc := 230) dX12_laysWays_230 rfl rfl (by decide) hx55 ?_
            refine x_iadd (pc := 231) dX12_laysWays_231 ?_
            refine z_Vi3 (pc := 232) h dX12_laysWays_232 lX12_343 (by decide) (by omega) rfl (fun a e => w_X12_isNearer _ _ _ _ a e) (fun v56 h => ?_)
            refine x_if_eq (pc := 235) dX12_laysWays_235 (tgt := 280) (by decide) (fun c65 => ?_) (fun c65 => ?_)
            · replace h := wo_pos c65 h
              refine x_sub [(0, _), (1, _), (2, _), (3, _)] ⟨rfl, rfl, rfl, rfl, trivial⟩ ?_
              exact j280 _ h
            · replace h := wo_neg c65 h
              refine x_aload_n (pc := 238) dX12_laysWays_238 rfl ?_
              refine x_getS (pc := 239) dX12_laysWays_239 fX12_120 rfl (by decide) ?_
              refine x_iload_n (pc := 242) dX12_laysWays_242 rfl ?_
              refine x_aload_n (pc := 243) dX12_laysWays_243 rfl ?_
              refine x_getS (pc := 244) dX12_laysWays_244 fX12_120 rfl (by decide) ?_
              refine x_iload (pc := 247) dX12_laysWays_247 rfl ?_
              obtain ⟨hx57, h⟩ := wo_g h
              refine x_ialdJ (pc := 249) dX12_laysWays_249 rfl rfl (by decide) hx57 ?_
              refine x_aload_n (pc := 250) dX12_laysWays_250 rfl ?_
              refine x_getS (pc := 251) dX12_laysWays_251 fX12_120 rfl (by decide) ?_
              refine x_iload (pc := 254) dX12_laysWays_254 rfl ?_
              obtain ⟨hx58, h⟩ := wo_g h
              refine x_ialdJ (pc := 256) dX12_laysWays_256 rfl rfl (by decide) hx58 ?_
              refine x_iadd (pc := 257) dX12_laysWays_257 ?_
              obtain ⟨hx59, h⟩ := wo_g h
              refine x_iastJ (pc := 258) dX12_laysWays_258 rfl rfl (by decide) rfl hx59 ?_
              refine x_letm h (fun m60 h => ?_)
              refine x_aload_n (pc := 259) dX12_laysWays_259 rfl ?_
              refine x_getS (pc := 260) dX12_laysWays_260 fX12_123 rfl (by decide) ?_
              refine x_iload_n (pc := 263) dX12_laysWays_263 rfl ?_
              refine x_aload_n (pc := 264) dX12_laysWays_264 rfl ?_
              refine x_getS (pc := 265) dX12_laysWays_265 fX12_123 rfl (by decide) ?_
              refine x_iload (pc := 268) dX12_laysWays_268 rfl ?_
              obtain ⟨hx61, h⟩ := wo_g h
              refine x_ialdJ (pc := 270) dX12_laysWays_270 rfl rfl (by decide) hx61 ?_
              refine x_aload_n (pc := 271) dX12_laysWays_271 rfl ?_
              refine x_getS (pc := 272) dX12_laysWays_272 fX12_123 rfl (by decide) ?_
              refine x_iload (pc := 275) dX12_laysWays_275 rfl ?_
              obtain ⟨hx62, h⟩ := wo_g h
              refine x_ialdJ (pc := 277) dX12_laysWays_277 rfl rfl (by decide) hx62 ?_
              refine x_iadd (pc := 278) dX12_laysWays_278 ?_
              obtain ⟨hx63, h⟩ := wo_g h
              refine x_iastJ (pc := 279) dX12_laysWays_279 rfl rfl (by decide) rfl hx63 ?_
              refine x_letm h (fun m64 h => ?_)
              refine x_sub [(0, _), (1, _), (2, _), (3, _)] ⟨rfl, rfl, rfl, rfl, trivial⟩ ?_
              exact j280 _ h
  refine x_sub [(0, _), (1, _), (2, _)] ⟨rfl, rfl, rfl, trivial⟩ ?_
  obtain ⟨ea, eb, h⟩ := wo_bo h
  refine wo_lq (X := fun s => match s with | (l70, m71) => mi_X mX12_laysWays (2) 2 [(0, vr 12 0), (1, vi p0), (2, vi l70)] [] m71 QX) (E := fun e => wo (f_X12_laysWays_K2 p0 e) Q0) ?_ _ ((0 : Int32), mem) ⟨_, eb, h⟩
  intro Q2 hb2 he2 s h
  obtain ⟨l70, m71⟩ := s
  show mi_X mX12_laysWays (2) 2 [(0, vr 12 0), (1, vi p0), (2, vi l70)] [] m71 QX
  unfold f_X12_laysWays_B2 at h
  try dsimp only at h
  refine x_iload_n (pc := 2) dX12_laysWays_2 rfl ?_
  refine x_bipush (pc := 3) dX12_laysWays_3 (v := (36 : Int32)) (by decide) ?_
  refine x_icmp_ge (pc := 5) dX12_laysWays_5 (tgt := 134) (by decide) (fun c90 => ?_) (fun c90 => ?_)
  · replace h := wo_pos c90 h
    refine x_sub [(0, _), (1, _)] ⟨rfl, rfl, trivial⟩ ?_
    exact k2_0 _ (he2 m71 (wo_some h))
  · replace h := wo_neg c90 h
    refine x_aload_n (pc := 8) dX12_laysWays_8 rfl ?_
    refine x_getS (pc := 9) dX12_laysWays_9 fX12_89 rfl (by decide) ?_
    refine x_bipush (pc := 12) dX12_laysWays_12 (v := (21 : Int32)) (by decide) ?_
    refine x_iload_n (pc := 14) dX12_laysWays_14 rfl ?_
    refine x_iadd (pc := 15) dX12_laysWays_15 ?_
    obtain ⟨hx72, h⟩ := wo_g h
    refine x_ialdJ (pc := 16) dX12_laysWays_16 rfl rfl (by decide) hx72 ?_
    refine x_leti h (fun v73 h => ?_)
    refine x_istore_n (ls' := [(3, _), (0, _), (1, _), (2, _)]) (pc := 17) dX12_laysWays_17 rfl rfl rfl ?_
    refine x_iload_n (pc := 18) dX12_laysWays_18 rfl ?_
    refine x_iload_n (pc := 19) dX12_laysWays_19 rfl ?_
    refine x_bipush (pc := 20) dX12_laysWays_20 (v := (6 : Int32)) (by decide) ?_
    refine x_idiv (pc := 22) dX12_laysWays_22 (by decide) ?_
    refine x_ishr (pc := 23) dX12_laysWays_23 ?_
    refine x_iconst (pc := 24) dX12_laysWays_24 (v := (1 : Int32)) (by decide) ?_
    refine x_iand (pc := 25) dX12_laysWays_25 ?_
    refine x_iconst (pc := 26) dX12_laysWays_26 (v := (1 : Int32)) (by decide) ?_
    have j47 : ∀ (u74 : Int32), wo (f_X12_laysWays_J47 l70 m71 v73 u74) Q2 → mi_X mX12_laysWays (2) 47 [(0, vr 12 0), (1, vi p0), (2, vi l70), (3, vi v73)] [vi u74] m71 QX := by
      intro u74 h
      unfold f_X12_laysWays_J47 at h
      refine x_istore (ls' := [(4, _), (0, _), (1, _), (2, _), (3, _)]) (pc := 47) dX12_laysWays_47 rfl rfl ?_
      refine x_iload_n (pc := 49) dX12_laysWays_49 rfl ?_
      refine x_bipush (pc := 50) dX12_laysWays_50 (v := (6 : Int32)) (by decide) ?_
      refine x_idiv (pc := 52) dX12_laysWays_52 (by decide) ?_
      refine x_iload_n (pc := 53) dX12_laysWays_53 rfl ?_
      refine x_bipush (pc := 54) dX12_laysWays_54 (v := (6 : Int32)) (by decide) ?_
      refine x_irem (pc := 56) dX12_laysWays_56 (by decide) ?_
      have j65 : ∀ (u75 : Int32), wo (f_X12_laysWays_J65 l70 m71 v73 u74 u75) Q2 → mi_X mX12_laysWays (2) 65 [(0, vr 12 0), (1, vi p0), (2, vi l70), (3, vi v73), (4, vi u74)] [vi u75] m71 QX := by
        intro u75 h
        unfold f_X12_laysWays_J65 at h
        refine x_istore (ls' := [(5, _), (0, _), (1, _), (2, _), (3, _), (4, _)]) (pc := 65) dX12_laysWays_65 rfl rfl ?_
        refine x_aload_n (pc := 67) dX12_laysWays_67 rfl ?_
        refine x_getS (pc := 68) dX12_laysWays_68 fX12_120 rfl (by decide) ?_
        refine x_iload_n (pc := 71) dX12_laysWays_71 rfl ?_
        refine x_iload (pc := 72) dX12_laysWays_72 rfl ?_
        have j101 : ∀ (u76 : Int32), wo (f_X12_laysWays_J101 l70 m71 v73 u75 u76) Q2 → mi_X mX12_laysWays (2) 101 [(0, vr 12 0), (1, vi p0), (2, vi l70), (3, vi v73), (5, vi u75)] [vi u76, vi l70, vr 66 0] m71 QX := by
          intro u76 h
          unfold f_X12_laysWays_J101 at h
          obtain ⟨hx77, h⟩ := wo_g h
          refine x_iastJ (pc := 101) dX12_laysWays_101 rfl rfl (by decide) rfl hx77 ?_
          refine x_letm h (fun m78 h => ?_)
          refine x_aload_n (pc := 102) dX12_laysWays_102 rfl ?_
          refine x_getS (pc := 103) dX12_laysWays_103 fX12_123 rfl (by decide) ?_
          refine x_iload_n (pc := 106) dX12_laysWays_106 rfl ?_
          refine x_iload (pc := 107) dX12_laysWays_107 rfl ?_
          have j127 : ∀ (u79 : Int32), wo (f_X12_laysWays_J127 l70 m78 u79) Q2 → mi_X mX12_laysWays (2) 127 [(0, vr 12 0), (1, vi p0), (2, vi l70)] [vi u79, vi l70, vr 67 0] m78 QX := by
            intro u79 h
            unfold f_X12_laysWays_J127 at h
            obtain ⟨hx80, h⟩ := wo_g h
            refine x_iastJ (pc := 127) dX12_laysWays_127 rfl rfl (by decide) rfl hx80 ?_
            refine x_letm h (fun m81 h => ?_)
            refine x_iinc (ls' := [(2, _), (0, _), (1, _)]) (pc := 128) dX12_laysWays_128 rfl (v := l70 + (1 : Int32)) rfl rfl rfl ?_
            refine x_goto (pc := 131) dX12_laysWays_131 (tgt := 2) (by decide) ?_
            refine x_sub [(0, _), (1, _), (2, _)] ⟨rfl, rfl, rfl, trivial⟩ ?_
            exact hb2 ((l70 + (1 : Int32)), m81) (wo_some h)
          refine x_if_eq (pc := 109) dX12_laysWays_109 (tgt := 116) (by decide) (fun c83 => ?_) (fun c83 => ?_)
          · replace h := wo_pos c83 h
            refine x_iload_n (pc := 116) dX12_laysWays_116 rfl ?_
            refine x_if_ne (pc := 117) dX12_laysWays_117 (tgt := 126) (by decide) (fun c82 => ?_) (fun c82 => ?_)
            · replace h := wo_neg c82 h
              refine x_iload_n (pc := 126) dX12_laysWays_126 rfl ?_
              refine x_sub [(0, _), (1, _), (2, _)] ⟨rfl, rfl, rfl, trivial⟩ ?_
              exact j127 _ h
            · replace h := wo_pos c82 h
              refine x_ldcw (pc := 120) dX12_laysWays_120 kX12_342 ?_
              refine x_goto (pc := 123) dX12_laysWays_123 (tgt := 127) (by decide) ?_
              refine x_sub [(0, _), (1, _), (2, _)] ⟨rfl, rfl, rfl, trivial⟩ ?_
              exact j127 _ h
          · replace h := wo_neg c83 h
            refine x_iconst (pc := 112) dX12_laysWays_112 (v := (0 : Int32)) (by decide) ?_
            refine x_goto (pc := 113) dX12_laysWays_113 (tgt := 127) (by decide) ?_
            refine x_sub [(0, _), (1, _), (2, _)] ⟨rfl, rfl, rfl, trivial⟩ ?_
            exact j127 _ h
        refine x_if_eq (pc := 74) dX12_laysWays_74 (tgt := 81) (by decide) (fun c86 => ?_) (fun c86 => ?_)
        · replace h := wo_pos c86 h
          refine x_iload_n (pc := 81) dX12_laysWays_81 rfl ?_
          refine x_if_ne (pc := 82) dX12_laysWays_82 (tgt := 91) (by decide) (fun c85 => ?_) (fun c85 => ?_)
          · replace h := wo_neg c85 h
            refine x_iload (pc := 91) dX12_laysWays_91 rfl ?_
            refine x_if_eq (pc := 93) dX12_laysWays_93 (tgt := 100) (by decide) (fun c84 => ?_) (fun c84 => ?_)
            · replace h := wo_pos c84 h
              refine x_iload_n (pc := 100) dX12_laysWays_100 rfl ?_
              refine x_sub [(0, _), (1, _), (2, _), (3, _), (5, _)] ⟨rfl, rfl, rfl, rfl, rfl, trivial⟩ ?_
              exact j101 _ h
            · replace h := wo_neg c84 h
              refine x_iconst (pc := 96) dX12_laysWays_96 (v := (0 : Int32)) (by decide) ?_
              refine x_goto (pc := 97) dX12_laysWays_97 (tgt := 101) (by decide) ?_
              refine x_sub [(0, _), (1, _), (2, _), (3, _), (5, _)] ⟨rfl, rfl, rfl, rfl, rfl, trivial⟩ ?_
              exact j101 _ h
          · replace h := wo_pos c85 h
            refine x_ldcw (pc := 85) dX12_laysWays_85 kX12_342 ?_
            refine x_goto (pc := 88) dX12_laysWays_88 (tgt := 101) (by decide) ?_
            refine x_sub [(0, _), (1, _), (2, _), (3, _), (5, _)] ⟨rfl, rfl, rfl, rfl, rfl, trivial⟩ ?_
            exact j101 _ h
        · replace h := wo_neg c86 h
          refine x_iconst (pc := 77) dX12_laysWays_77 (v := (0 : Int32)) (by decide) ?_
          refine x_goto (pc := 78) dX12_laysWays_78 (tgt := 101) (by decide) ?_
          refine x_sub [(0, _), (1, _), (2, _), (3, _), (5, _)] ⟨rfl, rfl, rfl, rfl, rfl, trivial⟩ ?_
          exact j101 _ h
      refine x_icmp_ne (pc := 57) dX12_laysWays_57 (tgt := 64) (by decide) (fun c87 => ?_) (fun c87 => ?_)
      · replace h := wo_neg c87 h
        refine x_iconst (pc := 64) dX12_laysWays_64 (v := (0 : Int32)) (by decide) ?_
        refine x_sub [(0, _), (1, _), (2, _), (3, _), (4, _)] ⟨rfl, rfl, rfl, rfl, rfl, trivial⟩ ?_
        exact j65 _ h
      · replace h := wo_pos c87 h
        refine x_iconst (pc := 60) dX12_laysWays_60 (v := (1 : Int32)) (by decide) ?_
        refine x_goto (pc := 61) dX12_laysWays_61 (tgt := 65) (by decide) ?_
        refine x_sub [(0, _), (1, _), (2, _), (3, _), (4, _)] ⟨rfl, rfl, rfl, rfl, rfl, trivial⟩ ?_
        exact j65 _ h
    have j42 : wo (f_X12_laysWays_J42 l70 m71 v73) Q2 → mi_X mX12_laysWays (2) 42 [(0, vr 12 0), (1, vi p0), (2, vi l70), (3, vi v73)] [] m71 QX := by
      intro h
      unfold f_X12_laysWays_J42 at h
      refine x_iconst (pc := 42) dX12_laysWays_42 (v := (1 : Int32)) (by decide) ?_
      refine x_goto (pc := 43) dX12_laysWays_43 (tgt := 47) (by decide) ?_
      refine x_sub [(0, _), (1, _), (2, _), (3, _)] ⟨rfl, rfl, rfl, rfl, trivial⟩ ?_
      exact j47 _ h
    refine x_icmp_eq (pc := 27) dX12_laysWays_27 (tgt := 42) (by decide) (fun c89 => ?_) (fun c89 => ?_)
    · replace h := wo_pos c89 h
      refine x_sub [(0, _), (1, _), (2, _), (3, _)] ⟨rfl, rfl, rfl, rfl, trivial⟩ ?_
      exact j42 h
    · replace h := wo_neg c89 h
      refine x_iload_n (pc := 30) dX12_laysWays_30 rfl ?_
      refine x_iload_n (pc := 31) dX12_laysWays_31 rfl ?_
      refine x_bipush (pc := 32) dX12_laysWays_32 (v := (6 : Int32)) (by decide) ?_
      refine x_irem (pc := 34) dX12_laysWays_34 (by decide) ?_
      refine x_ishr (pc := 35) dX12_laysWays_35 ?_
      refine x_iconst (pc := 36) dX12_laysWays_36 (v := (1 : Int32)) (by decide) ?_
      refine x_iand (pc := 37) dX12_laysWays_37 ?_
      refine x_iconst (pc := 38) dX12_laysWays_38 (v := (1 : Int32)) (by decide) ?_
      refine x_icmp_ne (pc := 39) dX12_laysWays_39 (tgt := 46) (by decide) (fun c88 => ?_) (fun c88 => ?_)
      · replace h := wo_neg c88 h
        refine x_iconst (pc := 46) dX12_laysWays_46 (v := (0 : Int32)) (by decide) ?_
        refine x_sub [(0, _), (1, _), (2, _), (3, _)] ⟨rfl, rfl, rfl, rfl, trivial⟩ ?_
        exact j47 _ h
      · replace h := wo_pos c88 h
        refine x_sub [(0, _), (1, _), (2, _), (3, _)] ⟨rfl, rfl, rfl, rfl, trivial⟩ ?_
        exact j42 h
noncomputable def f_X12_walks (mem : mi_M) : Option (Int32) := mi_g (vp_in (3 : Int32) 200) (some (mem.1 56 0 (3 : Int32).toNatClampNeg))
set_option maxRecDepth 100000 in
set_option maxHeartbeats 4000000 in
theorem w_X12_walks (mem : mi_M) (a : Int32) (e : f_X12_walks  mem = some a) : mi_Ci (1) mX12_walks [vr 12 0] mem (fun x m' => x = a ∧ m' = mem) := by
  unfold mi_Ci
  refine mi_C_intro (ls := [(0, vr 12 0)]) (by decide) rfl rfl ?_
  obtain ⟨Q0, hq0, h⟩ : ∃ Q0 : Int32 → Prop, (∀ b, Q0 b → b = a) ∧ wo (f_X12_walks  mem) Q0 := ⟨fun b => b = a, fun _ h => h, wo_eq e⟩
  obtain ⟨QX, hQX⟩ : ∃ QX : Option mi_V → mi_M → Prop, QX = (fun r m' => ∃ x, r = some (vi x) ∧ x = a ∧ m' = mem) := ⟨_, rfl⟩
  rw [← hQX]
  unfold f_X12_walks at h
  refine x_aload_n (pc := 0) dX12_walks_0 rfl ?_
  refine x_getS (pc := 1) dX12_walks_1 fX12_89 rfl (by decide) ?_
  refine x_iconst (pc := 4) dX12_walks_4 (v := (3 : Int32)) (by decide) ?_
  obtain ⟨hx1, h⟩ := wo_g h
  refine x_ialdJ (pc := 5) dX12_walks_5 rfl rfl (by decide) hx1 ?_
  exact x_iret (pc := 6) dX12_walks_6 rfl (by rw [hQX]; exact ⟨_, rfl, hq0 _ (wo_some h), rfl⟩)
noncomputable def f_X12_allLit_J74 (l5 : Int32) (u11 : Int32) : Option ((Int32 × Int32) ⊕ (Int32)) := some (.inl (u11, (l5 + (1 : Int32))))
noncomputable def f_X12_allLit_J73 (l5 : Int32) : Option ((Int32 × Int32) ⊕ (Int32)) := f_X12_allLit_J74 l5 (0 : Int32)
noncomputable def f_X12_allLit_J69 (l5 : Int32) : Option ((Int32 × Int32) ⊕ (Int32)) := f_X12_allLit_J74 l5 (1 : Int32)
noncomputable def f_X12_allLit_B9 (m1 : mi_M) : (Int32 × Int32) → Option ((Int32 × Int32) ⊕ (Int32)) := fun s => match s with | (l4, l5) => mi_bo (f_X12_walks m1) fun v6 => if v6 ≤ l5 then some (.inr l4) else mi_g (vp_in ((81 : Int32) + ((2 : Int32) * l5)) 200) (mi_g (vp_in (((81 : Int32) + ((2 : Int32) * l5)) + (1 : Int32)) 200) (mi_g (vp_in (((6 : Int32) * (m1.1 56 0 ((81 : Int32) + ((2 : Int32) * l5)).toNatClampNeg)) + (m1.1 56 0 (((81 : Int32) + ((2 : Int32) * l5)) + (1 : Int32)).toNatClampNeg)) 36) (mi_let (m1.1 66 0 (((6 : Int32) * (m1.1 56 0 ((81 : Int32) + ((2 : Int32) * l5)).toNatClampNeg)) + (m1.1 56 0 (((81 : Int32) + ((2 : Int32) * l5)) + (1 : Int32)).toNatClampNeg)).toNatClampNeg) fun v10 => if l4 = 0 then f_X12_allLit_J73 l5 else if v10 = 0 then f_X12_allLit_J69 l5 else if v10 < (1000000 : Int32) then f_X12_allLit_J73 l5 else f_X12_allLit_J69 l5)))
noncomputable def f_X12_allLit_K9 (m1 : mi_M) : Int32 → Option (Int32 × mi_M) := fun e2 => mi_g (e2 = 0 ∨ e2 = 1) (some (e2, m1))
noncomputable def f_X12_allLit (p0 : Int32) (mem : mi_M) : Option (Int32 × mi_M) := mi_bo (f_X12_laysWays p0 mem) fun m1 => mi_bo (mi_lp (f_X12_allLit_B9 m1) mi_fu ((1 : Int32), (0 : Int32))) (f_X12_allLit_K9 m1)
set_option maxRecDepth 100000 in
set_option maxHeartbeats 4000000 in
theorem w_X12_allLit (p0 : Int32) (mem : mi_M) (a : Int32 × mi_M) (e : f_X12_allLit p0 mem = some a) : mi_Ci (3) mX12_allLit [vr 12 0, vi p0] mem (fun x m' => x = a.1 ∧ m' = a.2) := by
  unfold mi_Ci
  refine mi_C_intro (ls := [(0, vr 12 0), (1, vi p0)]) (by decide) rfl rfl ?_
  obtain ⟨Q0, hq0, h⟩ : ∃ Q0 : (Int32 × mi_M) → Prop, (∀ b, Q0 b → b = a) ∧ wo (f_X12_allLit p0 mem) Q0 := ⟨fun b => b = a, fun _ h => h, wo_eq e⟩
  obtain ⟨QX, hQX⟩ : ∃ QX : Option mi_V → mi_M → Prop, QX = (fun r m' => ∃ x, r = some (vi x) ∧ x = a.1 ∧ m' = a.2) := ⟨_, rfl⟩
  rw [← hQX]
  unfold f_X12_allLit at h
  refine x_aload_n (pc := 0) dX12_allLit_0 rfl ?_
  refine x_iload_n (pc := 1) dX12_allLit_1 rfl ?_
  refine y_Vv1 (pc := 2) h dX12_allLit_2 lX12_347 (by decide) (by omega) rfl (fun a e => w_X12_laysWays _ _ a e) (fun m1 h => ?_)
  refine x_iconst (pc := 5) dX12_allLit_5 (v := (1 : Int32)) (by decide) ?_
  refine x_istore_n (ls' := [(2, _), (0, _), (1, _)]) (pc := 6) dX12_allLit_6 rfl rfl rfl ?_
  refine x_iconst (pc := 7) dX12_allLit_7 (v := (0 : Int32)) (by decide) ?_
  refine x_istore_n (ls' := [(3, _), (2, _), (0, _), (1, _)]) (pc := 8) dX12_allLit_8 rfl rfl rfl ?_
  have k9_0 : ∀ (e2 : Int32), wo (f_X12_allLit_K9 m1 e2) Q0 → mi_X mX12_allLit (3) 81 [(2, vi e2)] [] m1 QX := by
    intro e2 h
    unfold f_X12_allLit_K9 at h
    try dsimp only at h
    refine x_iload_n (pc := 81) dX12_allLit_81 rfl ?_
    obtain ⟨hb3, h⟩ := wo_g h
    exact x_zretB (pc := 82) dX12_allLit_82 rfl hb3 (by rw [hQX]; exact ⟨_, rfl, congrArg Prod.fst (hq0 _ (wo_some h)), congrArg Prod.snd (hq0 _ (wo_some h))⟩)
  refine x_sub [(0, _), (2, _), (3, _)] ⟨rfl, rfl, rfl, trivial⟩ ?_
  obtain ⟨ea, eb, h⟩ := wo_bo h
  refine wo_lq (X := fun s => match s with | (l4, l5) => mi_X mX12_allLit (3) 9 [(0, vr 12 0), (2, vi l4), (3, vi l5)] [] m1 QX) (E := fun e => wo (f_X12_allLit_K9 m1 e) Q0) ?_ _ ((1 : Int32), (0 : Int32)) ⟨_, eb, h⟩
  intro Q9 hb9 he9 s h
  obtain ⟨l4, l5⟩ := s
  show mi_X mX12_allLit (3) 9 [(0, vr 12 0), (2, vi l4), (3, vi l5)] [] m1 QX
  unfold f_X12_allLit_B9 at h
  try dsimp only at h
  refine x_iload_n (pc := 9) dX12_allLit_9 rfl ?_
  refine x_aload_n (pc := 10) dX12_allLit_10 rfl ?_
  refine z_Vi0 (pc := 11) h dX12_allLit_11 lX12_350 (by decide) (by omega) rfl (fun a e => w_X12_walks _ a e) (fun v6 h => ?_)
  refine x_icmp_ge (pc := 14) dX12_allLit_14 (tgt := 81) (by decide) (fun c15 => ?_) (fun c15 => ?_)
  · replace h := wo_pos c15 h
    refine x_sub [(2, _)] ⟨rfl, trivial⟩ ?_
    exact k9_0 _ (he9 l4 (wo_some h))
  · replace h := wo_neg c15 h
    refine x_aload_n (pc := 17) dX12_allLit_17 rfl ?_
    refine x_getS (pc := 18) dX12_allLit_18 fX12_120 rfl (by decide) ?_
    refine x_bipush (pc := 21) dX12_allLit_21 (v := (6 : Int32)) (by decide) ?_
    refine x_aload_n (pc := 23) dX12_allLit_23 rfl ?_
    refine x_getS (pc := 24) dX12_allLit_24 fX12_89 rfl (by decide) ?_
    refine x_bipush (pc := 27) dX12_allLit_27 (v := (81 : Int32)) (by decide) ?_
    refine x_iconst (pc := 29) dX12_allLit_29 (v := (2 : Int32)) (by decide) ?_
    refine x_iload_n (pc := 30) dX12_allLit_30 rfl ?_
    refine x_imul (pc := 31) dX12_allLit_31 ?_
    refine x_iadd (pc := 32) dX12_allLit_32 ?_
    obtain ⟨hx7, h⟩ := wo_g h
    refine x_ialdJ (pc := 33) dX12_allLit_33 rfl rfl (by decide) hx7 ?_
    refine x_imul (pc := 34) dX12_allLit_34 ?_
    refine x_aload_n (pc := 35) dX12_allLit_35 rfl ?_
    refine x_getS (pc := 36) dX12_allLit_36 fX12_89 rfl (by decide) ?_
    refine x_bipush (pc := 39) dX12_allLit_39 (v := (81 : Int32)) (by decide) ?_
    refine x_iconst (pc := 41) dX12_allLit_41 (v := (2 : Int32)) (by decide) ?_
    refine x_iload_n (pc := 42) dX12_allLit_42 rfl ?_
    refine x_imul (pc := 43) dX12_allLit_43 ?_
    refine x_iadd (pc := 44) dX12_allLit_44 ?_
    refine x_iconst (pc := 45) dX12_allLit_45 (v := (1 : Int32)) (by decide) ?_
    refine x_iadd (pc := 46) dX12_allLit_46 ?_
    obtain ⟨hx8, h⟩ := wo_g h
    refine x_ialdJ (pc := 47) dX12_allLit_47 rfl rfl (by decide) hx8 ?_
    refine x_iadd (pc := 48) dX12_allLit_48 ?_
    obtain ⟨hx9, h⟩ := wo_g h
    refine x_ialdJ (pc := 49) dX12_allLit_49 rfl rfl (by decide) hx9 ?_
    refine x_leti h (fun v10 h => ?_)
    refine x_istore (ls' := [(4, _), (0, _), (2, _), (3, _)]) (pc := 50) dX12_allLit_50 rfl rfl ?_
    refine x_iload_n (pc := 52) dX12_allLit_52 rfl ?_
    have j74 : ∀ (u11 : Int32), wo (f_X12_allLit_J74 l5 u11) Q9 → mi_X mX12_allLit (3) 74 [(0, vr 12 0), (3, vi l5)] [vi u11] m1 QX := by
      intro u11 h
      unfold f_X12_allLit_J74 at h
      refine x_istore_n (ls' := [(2, _), (0, _), (3, _)]) (pc := 74) dX12_allLit_74 rfl rfl rfl ?_
      refine x_iinc (ls' := [(3, _), (2, _), (0, _)]) (pc := 75) dX12_allLit_75 rfl (v := l5 + (1 : Int32)) rfl rfl rfl ?_
      refine x_goto (pc := 78) dX12_allLit_78 (tgt := 9) (by decide) ?_
      refine x_sub [(0, _), (2, _), (3, _)] ⟨rfl, rfl, rfl, trivial⟩ ?_
      exact hb9 (u11, (l5 + (1 : Int32))) (wo_some h)
    have j73 : wo (f_X12_allLit_J73 l5) Q9 → mi_X mX12_allLit (3) 73 [(0, vr 12 0), (3, vi l5)] [] m1 QX := by
      intro h
      unfold f_X12_allLit_J73 at h
      refine x_iconst (pc := 73) dX12_allLit_73 (v := (0 : Int32)) (by decide) ?_
      refine x_sub [(0, _), (3, _)] ⟨rfl, rfl, trivial⟩ ?_
      exact j74 _ h
    refine x_if_eq (pc := 53) dX12_allLit_53 (tgt := 73) (by decide) (fun c14 => ?_) (fun c14 => ?_)
    · replace h := wo_pos c14 h
      refine x_sub [(0, _), (3, _)] ⟨rfl, rfl, trivial⟩ ?_
      exact j73 h
    · replace h := wo_neg c14 h
      refine x_iload (pc := 56) dX12_allLit_56 rfl ?_
      have j69 : wo (f_X12_allLit_J69 l5) Q9 → mi_X mX12_allLit (3) 69 [(0, vr 12 0), (3, vi l5)] [] m1 QX := by
        intro h
        unfold f_X12_allLit_J69 at h
        refine x_iconst (pc := 69) dX12_allLit_69 (v := (1 : Int32)) (by decide) ?_
        refine x_goto (pc := 70) dX12_allLit_70 (tgt := 74) (by decide) ?_
        refine x_sub [(0, _), (3, _)] ⟨rfl, rfl, trivial⟩ ?_
        exact j74 _ h
      refine x_if_eq (pc := 58) dX12_allLit_58 (tgt := 69) (by decide) (fun c13 => ?_) (fun c13 => ?_)
      · replace h := wo_pos c13 h
        refine x_sub [(0, _), (3, _)] ⟨rfl, rfl, trivial⟩ ?_
        exact j69 h
      · replace h := wo_neg c13 h
        refine x_iload (pc := 61) dX12_allLit_61 rfl ?_
        refine x_ldcw (pc := 63) dX12_allLit_63 kX12_342 ?_
        refine x_icmp_lt (pc := 66) dX12_allLit_66 (tgt := 73) (by decide) (fun c12 => ?_) (fun c12 => ?_)
        · replace h := wo_pos c12 h
          refine x_sub [(0, _), (3, _)] ⟨rfl, rfl, trivial⟩ ?_
          exact j73 h
        · replace h := wo_neg c12 h
          refine x_sub [(0, _), (3, _)] ⟨rfl, rfl, trivial⟩ ?_
          exact j69 h
noncomputable def f_X12_isPerson_J17 (u1 : Int32) : Option (Int32) := mi_g (u1 = 0 ∨ u1 = 1) (some u1)
noncomputable def f_X12_isPerson_J16 : Option (Int32) := f_X12_isPerson_J17 (0 : Int32)
noncomputable def f_X12_isPerson (p0 : Int32) (mem : mi_M) : Option (Int32) := if p0 < 0 then f_X12_isPerson_J16 else mi_bo (f_X12_people mem) fun v3 => if v3 ≤ p0 then f_X12_isPerson_J16 else f_X12_isPerson_J17 (1 : Int32)
set_option maxRecDepth 100000 in
set_option maxHeartbeats 4000000 in
theorem w_X12_isPerson (p0 : Int32) (mem : mi_M) (a : Int32) (e : f_X12_isPerson p0 mem = some a) : mi_Ci (2) mX12_isPerson [vr 12 0, vi p0] mem (fun x m' => x = a ∧ m' = mem) := by
  unfold mi_Ci
  refine mi_C_intro (ls := [(0, vr 12 0), (1, vi p0)]) (by decide) rfl rfl ?_
  obtain ⟨Q0, hq0, h⟩ : ∃ Q0 : Int32 → Prop, (∀ b, Q0 b → b = a) ∧ wo (f_X12_isPerson p0 mem) Q0 := ⟨fun b => b = a, fun _ h => h, wo_eq e⟩
  obtain ⟨QX, hQX⟩ : ∃ QX : Option mi_V → mi_M → Prop, QX = (fun r m' => ∃ x, r = some (vi x) ∧ x = a ∧ m' = mem) := ⟨_, rfl⟩
  rw [← hQX]
  unfold f_X12_isPerson at h
  refine x_iload_n (pc := 0) dX12_isPerson_0 rfl ?_
  have j17 : ∀ (u1 : Int32), wo (f_X12_isPerson_J17 u1) Q0 → mi_X mX12_isPerson (2) 17 [] [vi u1] mem QX := by
    intro u1 h
    unfold f_X12_isPerson_J17 at h
    obtain ⟨hb2, h⟩ := wo_g h
    exact x_zretB (pc := 17) dX12_isPerson_17 rfl hb2 (by rw [hQX]; exact ⟨_, rfl, hq0 _ (wo_some h), rfl⟩)
  have j16 : wo (f_X12_isPerson_J16) Q0 → mi_X mX12_isPerson (2) 16 [] [] mem QX := by
    intro h
    unfold f_X12_isPerson_J16 at h
    refine x_iconst (pc := 16) dX12_isPerson_16 (v := (0 : Int32)) (by decide) ?_
    refine x_sub [] trivial ?_
    exact j17 _ h
  refine x_if_lt (pc := 1) dX12_isPerson_1 (tgt := 16) (by decide) (fun c5 => ?_) (fun c5 => ?_)
  · replace h := wo_pos c5 h
    refine x_sub [] trivial ?_
    exact j16 h
  · replace h := wo_neg c5 h
    refine x_iload_n (pc := 4) dX12_isPerson_4 rfl ?_
    refine x_aload_n (pc := 5) dX12_isPerson_5 rfl ?_
    refine z_Vi0 (pc := 6) h dX12_isPerson_6 lX12_294 (by decide) (by omega) rfl (fun a e => w_X12_people _ a e) (fun v3 h => ?_)
    refine x_icmp_ge (pc := 9) dX12_isPerson_9 (tgt := 16) (by decide) (fun c4 => ?_) (fun c4 => ?_)
    · replace h := wo_pos c4 h
      refine x_sub [] trivial ?_
      exact j16 h
    · replace h := wo_neg c4 h
      refine x_iconst (pc := 12) dX12_isPerson_12 (v := (1 : Int32)) (by decide) ?_
      refine x_goto (pc := 13) dX12_isPerson_13 (tgt := 17) (by decide) ?_
      refine x_sub [] trivial ?_
      exact j17 _ h
noncomputable def f_X12_areTwo_J26 (u2 : Int32) : Option (Int32) := mi_g (u2 = 0 ∨ u2 = 1) (some u2)
noncomputable def f_X12_areTwo_J25 : Option (Int32) := f_X12_areTwo_J26 (0 : Int32)
noncomputable def f_X12_areTwo (p0 : Int32) (p1 : Int32) (mem : mi_M) : Option (Int32) := mi_bo (f_X12_isPerson p0 mem) fun v1 => if v1 = 0 then f_X12_areTwo_J25 else mi_bo (f_X12_isPerson p1 mem) fun v4 => if v4 = 0 then f_X12_areTwo_J25 else if p0 = p1 then f_X12_areTwo_J25 else f_X12_areTwo_J26 (1 : Int32)
set_option maxRecDepth 100000 in
set_option maxHeartbeats 4000000 in
theorem w_X12_areTwo (p0 : Int32) (p1 : Int32) (mem : mi_M) (a : Int32) (e : f_X12_areTwo p0 p1 mem = some a) : mi_Ci (3) mX12_areTwo [vr 12 0, vi p0, vi p1] mem (fun x m' => x = a ∧ m' = mem) := by
  unfold mi_Ci
  refine mi_C_intro (ls := [(0, vr 12 0), (1, vi p0), (2, vi p1)]) (by decide) rfl rfl ?_
  obtain ⟨Q0, hq0, h⟩ : ∃ Q0 : Int32 → Prop, (∀ b, Q0 b → b = a) ∧ wo (f_X12_areTwo p0 p1 mem) Q0 := ⟨fun b => b = a, fun _ h => h, wo_eq e⟩
  obtain ⟨QX, hQX⟩ : ∃ QX : Option mi_V → mi_M → Prop, QX = (fun r m' => ∃ x, r = some (vi x) ∧ x = a ∧ m' = mem) := ⟨_, rfl⟩
  rw [← hQX]
  unfold f_X12_areTwo at h
  refine x_aload_n (pc := 0) dX12_areTwo_0 rfl ?_
  refine x_iload_n (pc := 1) dX12_areTwo_1 rfl ?_
  refine z_Vi1 (pc := 2) h dX12_areTwo_2 lX12_359 (by decide) (by omega) rfl (fun a e => w_X12_isPerson _ _ a e) (fun v1 h => ?_)
  have j26 : ∀ (u2 : Int32), wo (f_X12_areTwo_J26 u2) Q0 → mi_X mX12_areTwo (3) 26 [] [vi u2] mem QX := by
    intro u2 h
    unfold f_X12_areTwo_J26 at h
    obtain ⟨hb3, h⟩ := wo_g h
    exact x_zretB (pc := 26) dX12_areTwo_26 rfl hb3 (by rw [hQX]; exact ⟨_, rfl, hq0 _ (wo_some h), rfl⟩)
  have j25 : wo (f_X12_areTwo_J25) Q0 → mi_X mX12_areTwo (3) 25 [] [] mem QX := by
    intro h
    unfold f_X12_areTwo_J25 at h
    refine x_iconst (pc := 25) dX12_areTwo_25 (v := (0 : Int32)) (by decide) ?_
    refine x_sub [] trivial ?_
    exact j26 _ h
  refine x_if_eq (pc := 5) dX12_areTwo_5 (tgt := 25) (by decide) (fun c7 => ?_) (fun c7 => ?_)
  · replace h := wo_pos c7 h
    refine x_sub [] trivial ?_
    exact j25 h
  · replace h := wo_neg c7 h
    refine x_aload_n (pc := 8) dX12_areTwo_8 rfl ?_
    refine x_iload_n (pc := 9) dX12_areTwo_9 rfl ?_
    refine z_Vi1 (pc := 10) h dX12_areTwo_10 lX12_359 (by decide) (by omega) rfl (fun a e => w_X12_isPerson _ _ a e) (fun v4 h => ?_)
    refine x_if_eq (pc := 13) dX12_areTwo_13 (tgt := 25) (by decide) (fun c6 => ?_) (fun c6 => ?_)
    · replace h := wo_pos c6 h
      refine x_sub [] trivial ?_
      exact j25 h
    · replace h := wo_neg c6 h
      refine x_iload_n (pc := 16) dX12_areTwo_16 rfl ?_
      refine x_iload_n (pc := 17) dX12_areTwo_17 rfl ?_
      refine x_icmp_eq (pc := 18) dX12_areTwo_18 (tgt := 25) (by decide) (fun c5 => ?_) (fun c5 => ?_)
      · replace h := wo_pos c5 h
        refine x_sub [] trivial ?_
        exact j25 h
      · replace h := wo_neg c5 h
        refine x_iconst (pc := 21) dX12_areTwo_21 (v := (1 : Int32)) (by decide) ?_
        refine x_goto (pc := 22) dX12_areTwo_22 (tgt := 26) (by decide) ?_
        refine x_sub [] trivial ?_
        exact j26 _ h
noncomputable def f_X12_atMost_J20 (u1 : Int32) : Option (Int32) := some u1
noncomputable def f_X12_atMost (p0 : Int32) (mem : mi_M) : Option (Int32) := if 0 ≤ p0 then if p0 ≤ (99 : Int32) then f_X12_atMost_J20 p0 else f_X12_atMost_J20 (99 : Int32) else f_X12_atMost_J20 (0 : Int32)
set_option maxRecDepth 100000 in
set_option maxHeartbeats 4000000 in
theorem w_X12_atMost (p0 : Int32) (mem : mi_M) (a : Int32) (e : f_X12_atMost p0 mem = some a) : mi_Ci (1) mX12_atMost [vi p0] mem (fun x m' => x = a ∧ m' = mem) := by
  unfold mi_Ci
  refine mi_C_intro (ls := [(0, vi p0)]) (by decide) rfl rfl ?_
  obtain ⟨Q0, hq0, h⟩ : ∃ Q0 : Int32 → Prop, (∀ b, Q0 b → b = a) ∧ wo (f_X12_atMost p0 mem) Q0 := ⟨fun b => b = a, fun _ h => h, wo_eq e⟩
  obtain ⟨QX, hQX⟩ : ∃ QX : Option mi_V → mi_M → Prop, QX = (fun r m' => ∃ x, r = some (vi x) ∧ x = a ∧ m' = mem) := ⟨_, rfl⟩
  rw [← hQX]
  unfold f_X12_atMost at h
  refine x_iload_n (pc := 0) dX12_atMost_0 rfl ?_
  have j20 : ∀ (u1 : Int32), wo (f_X12_atMost_J20 u1) Q0 → mi_X mX12_atMost (1) 20 [] [vi u1] mem QX := by
    intro u1 h
    unfold f_X12_atMost_J20 at h
    exact x_iret (pc := 20) dX12_atMost_20 rfl (by rw [hQX]; exact ⟨_, rfl, hq0 _ (wo_some h), rfl⟩)
  refine x_if_ge (pc := 1) dX12_atMost_1 (tgt := 8) (by decide) (fun c3 => ?_) (fun c3 => ?_)
  · replace h := wo_pos c3 h
    refine x_iload_n (pc := 8) dX12_atMost_8 rfl ?_
    refine x_bipush (pc := 9) dX12_atMost_9 (v := (99 : Int32)) (by decide) ?_
    refine x_icmp_le (pc := 11) dX12_atMost_11 (tgt := 19) (by decide) (fun c2 => ?_) (fun c2 => ?_)
    · replace h := wo_pos c2 h
      refine x_iload_n (pc := 19) dX12_atMost_19 rfl ?_
      refine x_sub [] trivial ?_
      exact j20 _ h
    · replace h := wo_neg c2 h
      refine x_bipush (pc := 14) dX12_atMost_14 (v := (99 : Int32)) (by decide) ?_
      refine x_goto (pc := 16) dX12_atMost_16 (tgt := 20) (by decide) ?_
      refine x_sub [] trivial ?_
      exact j20 _ h
  · replace h := wo_neg c3 h
    refine x_iconst (pc := 4) dX12_atMost_4 (v := (0 : Int32)) (by decide) ?_
    refine x_goto (pc := 5) dX12_atMost_5 (tgt := 20) (by decide) ?_
    refine x_sub [] trivial ?_
    exact j20 _ h
noncomputable def f_X12_kindOf (p0 : Int32) (mem : mi_M) : Option (Int32) := mi_g (vp_in ((9 : Int32) + ((2 : Int32) * p0)) 200) (some (mem.1 56 0 ((9 : Int32) + ((2 : Int32) * p0)).toNatClampNeg))
set_option maxRecDepth 100000 in
set_option maxHeartbeats 4000000 in
theorem w_X12_kindOf (p0 : Int32) (mem : mi_M) (a : Int32) (e : f_X12_kindOf p0 mem = some a) : mi_Ci (1) mX12_kindOf [vr 12 0, vi p0] mem (fun x m' => x = a ∧ m' = mem) := by
  unfold mi_Ci
  refine mi_C_intro (ls := [(0, vr 12 0), (1, vi p0)]) (by decide) rfl rfl ?_
  obtain ⟨Q0, hq0, h⟩ : ∃ Q0 : Int32 → Prop, (∀ b, Q0 b → b = a) ∧ wo (f_X12_kindOf p0 mem) Q0 := ⟨fun b => b = a, fun _ h => h, wo_eq e⟩
  obtain ⟨QX, hQX⟩ : ∃ QX : Option mi_V → mi_M → Prop, QX = (fun r m' => ∃ x, r = some (vi x) ∧ x = a ∧ m' = mem) := ⟨_, rfl⟩
  rw [← hQX]
  unfold f_X12_kindOf at h
  refine x_aload_n (pc := 0) dX12_kindOf_0 rfl ?_
  refine x_getS (pc := 1) dX12_kindOf_1 fX12_89 rfl (by decide) ?_
  refine x_bipush (pc := 4) dX12_kindOf_4 (v := (9 : Int32)) (by decide) ?_
  refine x_iconst (pc := 6) dX12_kindOf_6 (v := (2 : Int32)) (by decide) ?_
  refine x_iload_n (pc := 7) dX12_kindOf_7 rfl ?_
  refine x_imul (pc := 8) dX12_kindOf_8 ?_
  refine x_iadd (pc := 9) dX12_kindOf_9 ?_
  obtain ⟨hx1, h⟩ := wo_g h
  refine x_ialdJ (pc := 10) dX12_kindOf_10 rfl rfl (by decide) hx1 ?_
  exact x_iret (pc := 11) dX12_kindOf_11 rfl (by rw [hQX]; exact ⟨_, rfl, hq0 _ (wo_some h), rfl⟩)
noncomputable def f_X12_both_J62 (u5 : Int32) : Option (Int32) := some u5
noncomputable def f_X12_both_J73 (u8 : Int32) : Option (Int32) := some u8
noncomputable def f_X12_both_J87 (u11 : Int32) : Option (Int32) := some u11
noncomputable def f_X12_both_J86 : Option (Int32) := f_X12_both_J87 (0 : Int32)
noncomputable def f_X12_both_J101 (u14 : Int32) : Option (Int32) := some u14
noncomputable def f_X12_both_J96 : Option (Int32) := f_X12_both_J101 (1 : Int32)
noncomputable def f_X12_both (p0 : Int32) (p1 : Int32) (p2 : Int32) (mem : mi_M) : Option (Int32) := if p0 = (4 : Int32) then some (p1 + p2) else if p0 = (5 : Int32) then some (p1 - p2) else if p0 = (6 : Int32) then some (p1 * p2) else if p0 = (7 : Int32) then if p2 ≤ p1 then f_X12_both_J62 (0 : Int32) else f_X12_both_J62 (1 : Int32) else if p0 = (8 : Int32) then if p1 = p2 then f_X12_both_J73 (1 : Int32) else f_X12_both_J73 (0 : Int32) else if p0 = (9 : Int32) then if p1 = 0 then f_X12_both_J86 else if p2 = 0 then f_X12_both_J86 else f_X12_both_J87 (1 : Int32) else if p1 = 0 then if p2 = 0 then f_X12_both_J101 (0 : Int32) else f_X12_both_J96 else f_X12_both_J96
set_option maxRecDepth 100000 in
set_option maxHeartbeats 4000000 in
theorem w_X12_both (p0 : Int32) (p1 : Int32) (p2 : Int32) (mem : mi_M) (a : Int32) (e : f_X12_both p0 p1 p2 mem = some a) : mi_Ci (1) mX12_both [vi p0, vi p1, vi p2] mem (fun x m' => x = a ∧ m' = mem) := by
  unfold mi_Ci
  refine mi_C_intro (ls := [(0, vi p0), (1, vi p1), (2, vi p2)]) (by decide) rfl rfl ?_
  obtain ⟨Q0, hq0, h⟩ : ∃ Q0 : Int32 → Prop, (∀ b, Q0 b → b = a) ∧ wo (f_X12_both p0 p1 p2 mem) Q0 := ⟨fun b => b = a, fun _ h => h, wo_eq e⟩
  obtain ⟨QX, hQX⟩ : ∃ QX : Option mi_V → mi_M → Prop, QX = (fun r m' => ∃ x, r = some (vi x) ∧ x = a ∧ m' = mem) := ⟨_, rfl⟩
  rw [← hQX]
  unfold f_X12_both at h
  refine x_iload_n (pc := 0) dX12_both_0 rfl ?_
  by_cases c1 : p0 = (4 : Int32)
  · replace h := wo_pos c1 h
    refine x_swT (pc := 1) (c := (4 : Int32)) c1 dX12_both_1 (by decide) (by decide) rfl (tgt := 40) (by decide) ?_
    refine x_iload_n (pc := 40) dX12_both_40 rfl ?_
    refine x_iload_n (pc := 41) dX12_both_41 rfl ?_
    refine x_iadd (pc := 42) dX12_both_42 ?_
    exact x_iret (pc := 43) dX12_both_43 rfl (by rw [hQX]; exact ⟨_, rfl, hq0 _ (wo_some h), rfl⟩)
  · replace h := wo_neg c1 h
    by_cases c2 : p0 = (5 : Int32)
    · replace h := wo_pos c2 h
      refine x_swT (pc := 1) (c := (5 : Int32)) c2 dX12_both_1 (by decide) (by decide) rfl (tgt := 44) (by decide) ?_
      refine x_iload_n (pc := 44) dX12_both_44 rfl ?_
      refine x_iload_n (pc := 45) dX12_both_45 rfl ?_
      refine x_isub (pc := 46) dX12_both_46 ?_
      exact x_iret (pc := 47) dX12_both_47 rfl (by rw [hQX]; exact ⟨_, rfl, hq0 _ (wo_some h), rfl⟩)
    · replace h := wo_neg c2 h
      by_cases c3 : p0 = (6 : Int32)
      · replace h := wo_pos c3 h
        refine x_swT (pc := 1) (c := (6 : Int32)) c3 dX12_both_1 (by decide) (by decide) rfl (tgt := 48) (by decide) ?_
        refine x_iload_n (pc := 48) dX12_both_48 rfl ?_
        refine x_iload_n (pc := 49) dX12_both_49 rfl ?_
        refine x_imul (pc := 50) dX12_both_50 ?_
        exact x_iret (pc := 51) dX12_both_51 rfl (by rw [hQX]; exact ⟨_, rfl, hq0 _ (wo_some h), rfl⟩)
      · replace h := wo_neg c3 h
        by_cases c4 : p0 = (7 : Int32)
        · replace h := wo_pos c4 h
          refine x_swT (pc := 1) (c := (7 : Int32)) c4 dX12_both_1 (by decide) (by decide) rfl (tgt := 52) (by decide) ?_
          refine x_iload_n (pc := 52) dX12_both_52 rfl ?_
          refine x_iload_n (pc := 53) dX12_both_53 rfl ?_
          have j62 : ∀ (u5 : Int32), wo (f_X12_both_J62 u5) Q0 → mi_X mX12_both (1) 62 [] [vi u5] mem QX := by
            intro u5 h
            unfold f_X12_both_J62 at h
            exact x_iret (pc := 62) dX12_both_62 rfl (by rw [hQX]; exact ⟨_, rfl, hq0 _ (wo_some h), rfl⟩)
          refine x_icmp_ge (pc := 54) dX12_both_54 (tgt := 61) (by decide) (fun c6 => ?_) (fun c6 => ?_)
          · replace h := wo_pos c6 h
            refine x_iconst (pc := 61) dX12_both_61 (v := (0 : Int32)) (by decide) ?_
            refine x_sub [] trivial ?_
            exact j62 _ h
          · replace h := wo_neg c6 h
            refine x_iconst (pc := 57) dX12_both_57 (v := (1 : Int32)) (by decide) ?_
            refine x_goto (pc := 58) dX12_both_58 (tgt := 62) (by decide) ?_
            refine x_sub [] trivial ?_
            exact j62 _ h
        · replace h := wo_neg c4 h
          by_cases c7 : p0 = (8 : Int32)
          · replace h := wo_pos c7 h
            refine x_swT (pc := 1) (c := (8 : Int32)) c7 dX12_both_1 (by decide) (by decide) rfl (tgt := 63) (by decide) ?_
            refine x_iload_n (pc := 63) dX12_both_63 rfl ?_
            refine x_iload_n (pc := 64) dX12_both_64 rfl ?_
            have j73 : ∀ (u8 : Int32), wo (f_X12_both_J73 u8) Q0 → mi_X mX12_both (1) 73 [] [vi u8] mem QX := by
              intro u8 h
              unfold f_X12_both_J73 at h
              exact x_iret (pc := 73) dX12_both_73 rfl (by rw [hQX]; exact ⟨_, rfl, hq0 _ (wo_some h), rfl⟩)
            refine x_icmp_ne (pc := 65) dX12_both_65 (tgt := 72) (by decide) (fun c9 => ?_) (fun c9 => ?_)
            · replace h := wo_neg c9 h
              refine x_iconst (pc := 72) dX12_both_72 (v := (0 : Int32)) (by decide) ?_
              refine x_sub [] trivial ?_
              exact j73 _ h
            · replace h := wo_pos c9 h
              refine x_iconst (pc := 68) dX12_both_68 (v := (1 : Int32)) (by decide) ?_
              refine x_goto (pc := 69) dX12_both_69 (tgt := 73) (by decide) ?_
              refine x_sub [] trivial ?_
              exact j73 _ h
          · replace h := wo_neg c7 h
            by_cases c10 : p0 = (9 : Int32)
            · replace h := wo_pos c10 h
              refine x_swT (pc := 1) (c := (9 : Int32)) c10 dX12_both_1 (by decide) (by decide) rfl (tgt := 74) (by decide) ?_
              refine x_iload_n (pc := 74) dX12_both_74 rfl ?_
              have j87 : ∀ (u11 : Int32), wo (f_X12_both_J87 u11) Q0 → mi_X mX12_both (1) 87 [] [vi u11] mem QX := by
                intro u11 h
                unfold f_X12_both_J87 at h
                exact x_iret (pc := 87) dX12_both_87 rfl (by rw [hQX]; exact ⟨_, rfl, hq0 _ (wo_some h), rfl⟩)
              have j86 : wo (f_X12_both_J86) Q0 → mi_X mX12_both (1) 86 [] [] mem QX := by
                intro h
                unfold f_X12_both_J86 at h
                refine x_iconst (pc := 86) dX12_both_86 (v := (0 : Int32)) (by decide) ?_
                refine x_sub [] trivial ?_
                exact j87 _ h
              refine x_if_eq (pc := 75) dX12_both_75 (tgt := 86) (by decide) (fun c13 => ?_) (fun c13 => ?_)
              · replace h := wo_pos c13 h
                refine x_sub [] trivial ?_
                exact j86 h
              · replace h := wo_neg c13 h
                refine x_iload_n (pc := 78) dX12_both_78 rfl ?_
                refine x_if_eq (pc := 79) dX12_both_79 (tgt := 86) (by decide) (fun c12 => ?_) (fun c12 => ?_)
                · replace h := wo_pos c12 h
                  refine x_sub [] trivial ?_
                  exact j86 h
                · replace h := wo_neg c12 h
                  refine x_iconst (pc := 82) dX12_both_82 (v := (1 : Int32)) (by decide) ?_
                  refine x_goto (pc := 83) dX12_both_83 (tgt := 87) (by decide) ?_
                  refine x_sub [] trivial ?_
                  exact j87 _ h
            · replace h := wo_neg c10 h
              refine x_tableOut (pc := 1) dX12_both_1 (by have := lv_neT (a := 4) c1 (by decide); have := lv_neT (a := 5) c2 (by decide); have := lv_neT (a := 6) c3 (by decide); have := lv_neT (a := 7) c4 (by decide); have := lv_neT (a := 8) c7 (by decide); have := lv_neT (a := 9) c10 (by decide); omega) (tgt := 88) (by decide) ?_
              refine x_iload_n (pc := 88) dX12_both_88 rfl ?_
              have j101 : ∀ (u14 : Int32), wo (f_X12_both_J101 u14) Q0 → mi_X mX12_both (1) 101 [] [vi u14] mem QX := by
                intro u14 h
                unfold f_X12_both_J101 at h
                exact x_iret (pc := 101) dX12_both_101 rfl (by rw [hQX]; exact ⟨_, rfl, hq0 _ (wo_some h), rfl⟩)
              have j96 : wo (f_X12_both_J96) Q0 → mi_X mX12_both (1) 96 [] [] mem QX := by
                intro h
                unfold f_X12_both_J96 at h
                refine x_iconst (pc := 96) dX12_both_96 (v := (1 : Int32)) (by decide) ?_
                refine x_goto (pc := 97) dX12_both_97 (tgt := 101) (by decide) ?_
                refine x_sub [] trivial ?_
                exact j101 _ h
              refine x_if_ne (pc := 89) dX12_both_89 (tgt := 96) (by decide) (fun c16 => ?_) (fun c16 => ?_)
              · replace h := wo_neg c16 h
                refine x_sub [] trivial ?_
                exact j96 h
              · replace h := wo_pos c16 h
                refine x_iload_n (pc := 92) dX12_both_92 rfl ?_
                refine x_if_eq (pc := 93) dX12_both_93 (tgt := 100) (by decide) (fun c15 => ?_) (fun c15 => ?_)
                · replace h := wo_pos c15 h
                  refine x_iconst (pc := 100) dX12_both_100 (v := (0 : Int32)) (by decide) ?_
                  refine x_sub [] trivial ?_
                  exact j101 _ h
                · replace h := wo_neg c15 h
                  refine x_sub [] trivial ?_
                  exact j96 h
noncomputable def f_X12_worthAt_J134 (l4 : Int32) (u9 : Int32) (m10 : mi_M) : Option ((Int32 × Int32 × mi_M) ⊕ (mi_M)) := some (.inl (u9, (l4 + (1 : Int32)), m10))
noncomputable def f_X12_worthAt_J64 (l3 : Int32) (l4 : Int32) (m5 : mi_M) (u11 : Int32) : Option ((Int32 × Int32 × mi_M) ⊕ (mi_M)) := mi_g (vp_in l3 1100) (mi_let (mi_wI m5 63 0 l3.toNatClampNeg u11) fun m13 => f_X12_worthAt_J134 l4 (l3 + (1 : Int32)) m13)
noncomputable def f_X12_worthAt_J33 (l3 : Int32) (l4 : Int32) (m5 : mi_M) (v8 : Int32) : Option ((Int32 × Int32 × mi_M) ⊕ (mi_M)) := if v8 = (1 : Int32) then mi_g (vp_in l4 2200) (f_X12_worthAt_J64 l3 l4 m5 (m5.1 58 0 l4.toNatClampNeg)) else mi_g (vp_in l4 2200) (mi_g (vp_in (m5.1 58 0 l4.toNatClampNeg) 3) (f_X12_worthAt_J64 l3 l4 m5 (m5.1 62 0 (m5.1 58 0 l4.toNatClampNeg).toNatClampNeg)))
noncomputable def f_X12_worthAt_J100 (l3 : Int32) (l4 : Int32) (m5 : mi_M) (u24 : Int32) : Option ((Int32 × Int32 × mi_M) ⊕ (mi_M)) := mi_g (vp_in (l3 - (1 : Int32)) 1100) (mi_let (mi_wI m5 63 0 (l3 - (1 : Int32)).toNatClampNeg u24) fun m26 => f_X12_worthAt_J134 l4 l3 m26)
noncomputable def f_X12_worthAt_B4 : (Int32 × Int32 × mi_M) → Option ((Int32 × Int32 × mi_M) ⊕ (mi_M)) := fun s => match s with | (l3, l4, m5) => mi_g (vp_in l4 2200) (if (m5.1 57 0 l4.toNatClampNeg) = 0 then some (.inr m5) else mi_g (vp_in l4 2200) (mi_let (m5.1 57 0 l4.toNatClampNeg) fun v8 => if v8 = (1 : Int32) then f_X12_worthAt_J33 l3 l4 m5 v8 else if v8 = (2 : Int32) then f_X12_worthAt_J33 l3 l4 m5 v8 else if v8 = (3 : Int32) then mi_g (vp_in (l3 - (1 : Int32)) 1100) (if (m5.1 63 0 (l3 - (1 : Int32)).toNatClampNeg) = 0 then f_X12_worthAt_J100 l3 l4 m5 (1 : Int32) else f_X12_worthAt_J100 l3 l4 m5 (0 : Int32)) else mi_g (vp_in ((l3 + (-1 : Int32)) - (1 : Int32)) 1100) (mi_g (vp_in (l3 + (-1 : Int32)) 1100) (mi_bo (f_X12_both v8 (m5.1 63 0 ((l3 + (-1 : Int32)) - (1 : Int32)).toNatClampNeg) (m5.1 63 0 (l3 + (-1 : Int32)).toNatClampNeg) m5) fun v20 => mi_g (vp_in ((l3 + (-1 : Int32)) - (1 : Int32)) 1100) (mi_let (mi_wI m5 63 0 ((l3 + (-1 : Int32)) - (1 : Int32)).toNatClampNeg v20) fun m22 => f_X12_worthAt_J134 l4 (l3 + (-1 : Int32)) m22)))))
noncomputable def f_X12_worthAt_K4 : mi_M → Option (Int32 × mi_M) := fun m1 => mi_g (vp_in (0 : Int32) 1100) (some ((m1.1 63 0 (0 : Int32).toNatClampNeg), m1))
noncomputable def f_X12_worthAt (p0 : Int32) (mem : mi_M) : Option (Int32 × mi_M) := mi_bo (mi_lp (f_X12_worthAt_B4) mi_fu ((0 : Int32), p0, mem)) (f_X12_worthAt_K4)
set_option maxRecDepth 100000 in
set_option maxHeartbeats 4000000 in
theorem w_X12_worthAt (p0 : Int32) (mem : mi_M) (a : Int32 × mi_M) (e : f_X12_worthAt p0 mem = some a) : mi_Ci (2) mX12_worthAt [vr 12 0, vi p0] mem (fun x m' => x = a.1 ∧ m' = a.2) := by
  unfold mi_Ci
  refine mi_C_intro (ls := [(0, vr 12 0), (1, vi p0)]) (by decide) rfl rfl ?_
  obtain ⟨Q0, hq0, h⟩ : ∃ Q0 : (Int32 × mi_M) → Prop, (∀ b, Q0 b → b = a) ∧ wo (f_X12_worthAt p0 mem) Q0 := ⟨fun b => b = a, fun _ h => h, wo_eq e⟩
  obtain ⟨QX, hQX⟩ : ∃ QX : Option mi_V → mi_M → Prop, QX = (fun r m' => ∃ x, r = some (vi x) ∧ x = a.1 ∧ m' = a.2) := ⟨_, rfl⟩
  rw [← hQX]
  unfold f_X12_worthAt at h
  refine x_iconst (pc := 0) dX12_worthAt_0 (v := (0 : Int32)) (by decide) ?_
  refine x_istore_n (ls' := [(2, _), (0, _), (1, _)]) (pc := 1) dX12_worthAt_1 rfl rfl rfl ?_
  refine x_iload_n (pc := 2) dX12_worthAt_2 rfl ?_
  refine x_istore_n (ls' := [(3, _), (2, _), (0, _), (1, _)]) (pc := 3) dX12_worthAt_3 rfl rfl rfl ?_
  have k4_0 : ∀ (m1 : mi_M), wo (f_X12_worthAt_K4 m1) Q0 → mi_X mX12_worthAt (2) 140 [(0, vr 12 0)] [] m1 QX := by
    intro m1 h
    unfold f_X12_worthAt_K4 at h
    try dsimp only at h
    refine x_aload_n (pc := 140) dX12_worthAt_140 rfl ?_
    refine x_getS (pc := 141) dX12_worthAt_141 fX12_110 rfl (by decide) ?_
    refine x_iconst (pc := 144) dX12_worthAt_144 (v := (0 : Int32)) (by decide) ?_
    obtain ⟨hx2, h⟩ := wo_g h
    refine x_ialdJ (pc := 145) dX12_worthAt_145 rfl rfl (by decide) hx2 ?_
    exact x_iret (pc := 146) dX12_worthAt_146 rfl (by rw [hQX]; exact ⟨_, rfl, congrArg Prod.fst (hq0 _ (wo_some h)), congrArg Prod.snd (hq0 _ (wo_some h))⟩)
  refine x_sub [(0, _), (2, _), (3, _)] ⟨rfl, rfl, rfl, trivial⟩ ?_
  obtain ⟨ea, eb, h⟩ := wo_bo h
  refine wo_lq (X := fun s => match s with | (l3, l4, m5) => mi_X mX12_worthAt (2) 4 [(0, vr 12 0), (2, vi l3), (3, vi l4)] [] m5 QX) (E := fun e => wo (f_X12_worthAt_K4 e) Q0) ?_ _ ((0 : Int32), p0, mem) ⟨_, eb, h⟩
  intro Q4 hb4 he4 s h
  obtain ⟨l3, l4, m5⟩ := s
  show mi_X mX12_worthAt (2) 4 [(0, vr 12 0), (2, vi l3), (3, vi l4)] [] m5 QX
  unfold f_X12_worthAt_B4 at h
  try dsimp only at h
  refine x_aload_n (pc := 4) dX12_worthAt_4 rfl ?_
  refine x_getS (pc := 5) dX12_worthAt_5 fX12_92 rfl (by decide) ?_
  refine x_iload_n (pc := 8) dX12_worthAt_8 rfl ?_
  obtain ⟨hx6, h⟩ := wo_g h
  refine x_ialdJ (pc := 9) dX12_worthAt_9 rfl rfl (by decide) hx6 ?_
  refine x_if_eq (pc := 10) dX12_worthAt_10 (tgt := 140) (by decide) (fun c31 => ?_) (fun c31 => ?_)
  · replace h := wo_pos c31 h
    refine x_sub [(0, _)] ⟨rfl, trivial⟩ ?_
    exact k4_0 _ (he4 m5 (wo_some h))
  · replace h := wo_neg c31 h
    refine x_aload_n (pc := 13) dX12_worthAt_13 rfl ?_
    refine x_getS (pc := 14) dX12_worthAt_14 fX12_92 rfl (by decide) ?_
    refine x_iload_n (pc := 17) dX12_worthAt_17 rfl ?_
    obtain ⟨hx7, h⟩ := wo_g h
    refine x_ialdJ (pc := 18) dX12_worthAt_18 rfl rfl (by decide) hx7 ?_
    refine x_leti h (fun v8 h => ?_)
    refine x_istore (ls' := [(4, _), (0, _), (2, _), (3, _)]) (pc := 19) dX12_worthAt_19 rfl rfl ?_
    refine x_iload (pc := 21) dX12_worthAt_21 rfl ?_
    refine x_iconst (pc := 23) dX12_worthAt_23 (v := (1 : Int32)) (by decide) ?_
    have j134 : ∀ (u9 : Int32) (m10 : mi_M), wo (f_X12_worthAt_J134 l4 u9 m10) Q4 → mi_X mX12_worthAt (2) 134 [(0, vr 12 0), (2, vi u9), (3, vi l4)] [] m10 QX := by
      intro u9 m10 h
      unfold f_X12_worthAt_J134 at h
      refine x_iinc (ls' := [(3, _), (0, _), (2, _)]) (pc := 134) dX12_worthAt_134 rfl (v := l4 + (1 : Int32)) rfl rfl rfl ?_
      refine x_goto (pc := 137) dX12_worthAt_137 (tgt := 4) (by decide) ?_
      refine x_sub [(0, _), (2, _), (3, _)] ⟨rfl, rfl, rfl, trivial⟩ ?_
      exact hb4 (u9, (l4 + (1 : Int32)), m10) (wo_some h)
    have j33 : wo (f_X12_worthAt_J33 l3 l4 m5 v8) Q4 → mi_X mX12_worthAt (2) 33 [(0, vr 12 0), (2, vi l3), (3, vi l4), (4, vi v8)] [] m5 QX := by
      intro h
      unfold f_X12_worthAt_J33 at h
      refine x_aload_n (pc := 33) dX12_worthAt_33 rfl ?_
      refine x_getS (pc := 34) dX12_worthAt_34 fX12_110 rfl (by decide) ?_
      refine x_iload_n (pc := 37) dX12_worthAt_37 rfl ?_
      refine x_iload (pc := 38) dX12_worthAt_38 rfl ?_
      refine x_iconst (pc := 40) dX12_worthAt_40 (v := (1 : Int32)) (by decide) ?_
      have j64 : ∀ (u11 : Int32), wo (f_X12_worthAt_J64 l3 l4 m5 u11) Q4 → mi_X mX12_worthAt (2) 64 [(0, vr 12 0), (2, vi l3), (3, vi l4)] [vi u11, vi l3, vr 63 0] m5 QX := by
        intro u11 h
        unfold f_X12_worthAt_J64 at h
        obtain ⟨hx12, h⟩ := wo_g h
        refine x_iastJ (pc := 64) dX12_worthAt_64 rfl rfl (by decide) rfl hx12 ?_
        refine x_letm h (fun m13 h => ?_)
        refine x_iinc (ls' := [(2, _), (0, _), (3, _)]) (pc := 65) dX12_worthAt_65 rfl (v := l3 + (1 : Int32)) rfl rfl rfl ?_
        refine x_goto (pc := 68) dX12_worthAt_68 (tgt := 134) (by decide) ?_
        refine x_sub [(0, _), (2, _), (3, _)] ⟨rfl, rfl, rfl, trivial⟩ ?_
        exact j134 _ _ h
      refine x_icmp_ne (pc := 41) dX12_worthAt_41 (tgt := 53) (by decide) (fun c17 => ?_) (fun c17 => ?_)
      · replace h := wo_neg c17 h
        refine x_aload_n (pc := 53) dX12_worthAt_53 rfl ?_
        refine x_getS (pc := 54) dX12_worthAt_54 fX12_107 rfl (by decide) ?_
        refine x_aload_n (pc := 57) dX12_worthAt_57 rfl ?_
        refine x_getS (pc := 58) dX12_worthAt_58 fX12_95 rfl (by decide) ?_
        refine x_iload_n (pc := 61) dX12_worthAt_61 rfl ?_
        obtain ⟨hx14, h⟩ := wo_g h
        refine x_ialdJ (pc := 62) dX12_worthAt_62 rfl rfl (by decide) hx14 ?_
        obtain ⟨hx15, h⟩ := wo_g h
        refine x_ialdJ (pc := 63) dX12_worthAt_63 rfl rfl (by decide) hx15 ?_
        refine x_sub [(0, _), (2, _), (3, _)] ⟨rfl, rfl, rfl, trivial⟩ ?_
        exact j64 _ h
      · replace h := wo_pos c17 h
        refine x_aload_n (pc := 44) dX12_worthAt_44 rfl ?_
        refine x_getS (pc := 45) dX12_worthAt_45 fX12_95 rfl (by decide) ?_
        refine x_iload_n (pc := 48) dX12_worthAt_48 rfl ?_
        obtain ⟨hx16, h⟩ := wo_g h
        refine x_ialdJ (pc := 49) dX12_worthAt_49 rfl rfl (by decide) hx16 ?_
        refine x_goto (pc := 50) dX12_worthAt_50 (tgt := 64) (by decide) ?_
        refine x_sub [(0, _), (2, _), (3, _)] ⟨rfl, rfl, rfl, trivial⟩ ?_
        exact j64 _ h
    refine x_icmp_eq (pc := 24) dX12_worthAt_24 (tgt := 33) (by decide) (fun c30 => ?_) (fun c30 => ?_)
    · replace h := wo_pos c30 h
      refine x_sub [(0, _), (2, _), (3, _), (4, _)] ⟨rfl, rfl, rfl, rfl, trivial⟩ ?_
      exact j33 h
    · replace h := wo_neg c30 h
      refine x_iload (pc := 27) dX12_worthAt_27 rfl ?_
      refine x_iconst (pc := 29) dX12_worthAt_29 (v := (2 : Int32)) (by decide) ?_
      refine x_icmp_ne (pc := 30) dX12_worthAt_30 (tgt := 71) (by decide) (fun c29 => ?_) (fun c29 => ?_)
      · replace h := wo_neg c29 h
        refine x_iload (pc := 71) dX12_worthAt_71 rfl ?_
        refine x_iconst (pc := 73) dX12_worthAt_73 (v := (3 : Int32)) (by decide) ?_
        refine x_icmp_ne (pc := 74) dX12_worthAt_74 (tgt := 104) (by decide) (fun c28 => ?_) (fun c28 => ?_)
        · replace h := wo_neg c28 h
          refine x_iinc (ls' := [(2, _), (4, _), (0, _), (3, _)]) (pc := 104) dX12_worthAt_104 rfl (v := l3 + (-1 : Int32)) rfl rfl rfl ?_
          refine x_aload_n (pc := 107) dX12_worthAt_107 rfl ?_
          refine x_getS (pc := 108) dX12_worthAt_108 fX12_110 rfl (by decide) ?_
          refine x_iload_n (pc := 111) dX12_worthAt_111 rfl ?_
          refine x_iconst (pc := 112) dX12_worthAt_112 (v := (1 : Int32)) (by decide) ?_
          refine x_isub (pc := 113) dX12_worthAt_113 ?_
          refine x_iload (pc := 114) dX12_worthAt_114 rfl ?_
          refine x_aload_n (pc := 116) dX12_worthAt_116 rfl ?_
          refine x_getS (pc := 117) dX12_worthAt_117 fX12_110 rfl (by decide) ?_
          refine x_iload_n (pc := 120) dX12_worthAt_120 rfl ?_
          refine x_iconst (pc := 121) dX12_worthAt_121 (v := (1 : Int32)) (by decide) ?_
          refine x_isub (pc := 122) dX12_worthAt_122 ?_
          obtain ⟨hx18, h⟩ := wo_g h
          refine x_ialdJ (pc := 123) dX12_worthAt_123 rfl rfl (by decide) hx18 ?_
          refine x_aload_n (pc := 124) dX12_worthAt_124 rfl ?_
          refine x_getS (pc := 125) dX12_worthAt_125 fX12_110 rfl (by decide) ?_
          refine x_iload_n (pc := 128) dX12_worthAt_128 rfl ?_
          obtain ⟨hx19, h⟩ := wo_g h
          refine x_ialdJ (pc := 129) dX12_worthAt_129 rfl rfl (by decide) hx19 ?_
          refine z_Si3 (pc := 130) h dX12_worthAt_130 lX12_291 (by omega) rfl (fun a e => w_X12_both _ _ _ _ a e) (fun v20 h => ?_)
          obtain ⟨hx21, h⟩ := wo_g h
          refine x_iastJ (pc := 133) dX12_worthAt_133 rfl rfl (by decide) rfl hx21 ?_
          refine x_letm h (fun m22 h => ?_)
          refine x_sub [(0, _), (2, _), (3, _)] ⟨rfl, rfl, rfl, trivial⟩ ?_
          exact j134 _ _ h
        · replace h := wo_pos c28 h
          refine x_aload_n (pc := 77) dX12_worthAt_77 rfl ?_
          refine x_getS (pc := 78) dX12_worthAt_78 fX12_110 rfl (by decide) ?_
          refine x_iload_n (pc := 81) dX12_worthAt_81 rfl ?_
          refine x_iconst (pc := 82) dX12_worthAt_82 (v := (1 : Int32)) (by decide) ?_
          refine x_isub (pc := 83) dX12_worthAt_83 ?_
          refine x_aload_n (pc := 84) dX12_worthAt_84 rfl ?_
          refine x_getS (pc := 85) dX12_worthAt_85 fX12_110 rfl (by decide) ?_
          refine x_iload_n (pc := 88) dX12_worthAt_88 rfl ?_
          refine x_iconst (pc := 89) dX12_worthAt_89 (v := (1 : Int32)) (by decide) ?_
          refine x_isub (pc := 90) dX12_worthAt_90 ?_
          obtain ⟨hx23, h⟩ := wo_g h
          refine x_ialdJ (pc := 91) dX12_worthAt_91 rfl rfl (by decide) hx23 ?_
          have j100 : ∀ (u24 : Int32), wo (f_X12_worthAt_J100 l3 l4 m5 u24) Q4 → mi_X mX12_worthAt (2) 100 [(0, vr 12 0), (2, vi l3), (3, vi l4)] [vi u24, vi (l3 - (1 : Int32)), vr 63 0] m5 QX := by
            intro u24 h
            unfold f_X12_worthAt_J100 at h
            obtain ⟨hx25, h⟩ := wo_g h
            refine x_iastJ (pc := 100) dX12_worthAt_100 rfl rfl (by decide) rfl hx25 ?_
            refine x_letm h (fun m26 h => ?_)
            refine x_goto (pc := 101) dX12_worthAt_101 (tgt := 134) (by decide) ?_
            refine x_sub [(0, _), (2, _), (3, _)] ⟨rfl, rfl, rfl, trivial⟩ ?_
            exact j134 _ _ h
          refine x_if_ne (pc := 92) dX12_worthAt_92 (tgt := 99) (by decide) (fun c27 => ?_) (fun c27 => ?_)
          · replace h := wo_neg c27 h
            refine x_iconst (pc := 99) dX12_worthAt_99 (v := (0 : Int32)) (by decide) ?_
            refine x_sub [(0, _), (2, _), (3, _)] ⟨rfl, rfl, rfl, trivial⟩ ?_
            exact j100 _ h
          · replace h := wo_pos c27 h
            refine x_iconst (pc := 95) dX12_worthAt_95 (v := (1 : Int32)) (by decide) ?_
            refine x_goto (pc := 96) dX12_worthAt_96 (tgt := 100) (by decide) ?_
            refine x_sub [(0, _), (2, _), (3, _)] ⟨rfl, rfl, rfl, trivial⟩ ?_
            exact j100 _ h
      · replace h := wo_pos c29 h
        refine x_sub [(0, _), (2, _), (3, _), (4, _)] ⟨rfl, rfl, rfl, rfl, trivial⟩ ?_
        exact j33 h
noncomputable def f_X12_wrongOf (p0 : Int32) (p1 : Int32) (mem : mi_M) : Option (Int32) := mi_g (vp_in (((57 : Int32) + ((3 : Int32) * p0)) + p1) 200) (some (mem.1 56 0 (((57 : Int32) + ((3 : Int32) * p0)) + p1).toNatClampNeg))
set_option maxRecDepth 100000 in
set_option maxHeartbeats 4000000 in
theorem w_X12_wrongOf (p0 : Int32) (p1 : Int32) (mem : mi_M) (a : Int32) (e : f_X12_wrongOf p0 p1 mem = some a) : mi_Ci (1) mX12_wrongOf [vr 12 0, vi p0, vi p1] mem (fun x m' => x = a ∧ m' = mem) := by
  unfold mi_Ci
  refine mi_C_intro (ls := [(0, vr 12 0), (1, vi p0), (2, vi p1)]) (by decide) rfl rfl ?_
  obtain ⟨Q0, hq0, h⟩ : ∃ Q0 : Int32 → Prop, (∀ b, Q0 b → b = a) ∧ wo (f_X12_wrongOf p0 p1 mem) Q0 := ⟨fun b => b = a, fun _ h => h, wo_eq e⟩
  obtain ⟨QX, hQX⟩ : ∃ QX : Option mi_V → mi_M → Prop, QX = (fun r m' => ∃ x, r = some (vi x) ∧ x = a ∧ m' = mem) := ⟨_, rfl⟩
  rw [← hQX]
  unfold f_X12_wrongOf at h
  refine x_aload_n (pc := 0) dX12_wrongOf_0 rfl ?_
  refine x_getS (pc := 1) dX12_wrongOf_1 fX12_89 rfl (by decide) ?_
  refine x_bipush (pc := 4) dX12_wrongOf_4 (v := (57 : Int32)) (by decide) ?_
  refine x_iconst (pc := 6) dX12_wrongOf_6 (v := (3 : Int32)) (by decide) ?_
  refine x_iload_n (pc := 7) dX12_wrongOf_7 rfl ?_
  refine x_imul (pc := 8) dX12_wrongOf_8 ?_
  refine x_iadd (pc := 9) dX12_wrongOf_9 ?_
  refine x_iload_n (pc := 10) dX12_wrongOf_10 rfl ?_
  refine x_iadd (pc := 11) dX12_wrongOf_11 ?_
  obtain ⟨hx1, h⟩ := wo_g h
  refine x_ialdJ (pc := 12) dX12_wrongOf_12 rfl rfl (by decide) hx1 ?_
  exact x_iret (pc := 13) dX12_wrongOf_13 rfl (by rw [hQX]; exact ⟨_, rfl, hq0 _ (wo_some h), rfl⟩)
noncomputable def f_X12_lawOf_J57 (u9 : Int32) (m10 : mi_M) : Option (Int32 × mi_M) := some (u9, m10)
noncomputable def f_X12_lawOf (p0 : Int32) (p1 : Int32) (p2 : Int32) (p3 : Int32) (p4 : Int32) (mem : mi_M) : Option (Int32 × mi_M) := mi_bo (f_X12_wrongOf p1 (2 : Int32) mem) fun v1 => mi_g (vp_in (0 : Int32) 3) (mi_let (mi_wI mem 62 0 (0 : Int32).toNatClampNeg v1) fun m3 => mi_g (vp_in (1 : Int32) 3) (mi_let (mi_wI m3 62 0 (1 : Int32).toNatClampNeg p2) fun m5 => mi_g (vp_in (2 : Int32) 3) (mi_let (mi_wI m5 62 0 (2 : Int32).toNatClampNeg p3) fun m7 => mi_g (vp_in ((6 : Int32) + p0) 200) (if 0 ≤ (m7.1 56 0 ((6 : Int32) + p0).toNatClampNeg) then mi_g (vp_in ((6 : Int32) + p0) 200) (mi_b (f_X12_worthAt (m7.1 56 0 ((6 : Int32) + p0).toNatClampNeg) m7) fun v12 m13 => f_X12_lawOf_J57 v12 m13) else f_X12_lawOf_J57 p4 m7))))
set_option maxRecDepth 100000 in
set_option maxHeartbeats 4000000 in
theorem w_X12_lawOf (p0 : Int32) (p1 : Int32) (p2 : Int32) (p3 : Int32) (p4 : Int32) (mem : mi_M) (a : Int32 × mi_M) (e : f_X12_lawOf p0 p1 p2 p3 p4 mem = some a) : mi_Ci (3) mX12_lawOf [vr 12 0, vi p0, vi p1, vi p2, vi p3, vi p4] mem (fun x m' => x = a.1 ∧ m' = a.2) := by
  unfold mi_Ci
  refine mi_C_intro (ls := [(0, vr 12 0), (1, vi p0), (2, vi p1), (3, vi p2), (4, vi p3), (5, vi p4)]) (by decide) rfl rfl ?_
  obtain ⟨Q0, hq0, h⟩ : ∃ Q0 : (Int32 × mi_M) → Prop, (∀ b, Q0 b → b = a) ∧ wo (f_X12_lawOf p0 p1 p2 p3 p4 mem) Q0 := ⟨fun b => b = a, fun _ h => h, wo_eq e⟩
  obtain ⟨QX, hQX⟩ : ∃ QX : Option mi_V → mi_M → Prop, QX = (fun r m' => ∃ x, r = some (vi x) ∧ x = a.1 ∧ m' = a.2) := ⟨_, rfl⟩
  rw [← hQX]
  unfold f_X12_lawOf at h
  refine x_aload_n (pc := 0) dX12_lawOf_0 rfl ?_
  refine x_getS (pc := 1) dX12_lawOf_1 fX12_107 rfl (by decide) ?_
  refine x_iconst (pc := 4) dX12_lawOf_4 (v := (0 : Int32)) (by decide) ?_
  refine x_aload_n (pc := 5) dX12_lawOf_5 rfl ?_
  refine x_iload_n (pc := 6) dX12_lawOf_6 rfl ?_
  refine x_iconst (pc := 7) dX12_lawOf_7 (v := (2 : Int32)) (by decide) ?_
  refine z_Vi2 (pc := 8) h dX12_lawOf_8 lX12_297 (by decide) (by omega) rfl (fun a e => w_X12_wrongOf _ _ _ a e) (fun v1 h => ?_)
  obtain ⟨hx2, h⟩ := wo_g h
  refine x_iastJ (pc := 11) dX12_lawOf_11 rfl rfl (by decide) rfl hx2 ?_
  refine x_letm h (fun m3 h => ?_)
  refine x_aload_n (pc := 12) dX12_lawOf_12 rfl ?_
  refine x_getS (pc := 13) dX12_lawOf_13 fX12_107 rfl (by decide) ?_
  refine x_iconst (pc := 16) dX12_lawOf_16 (v := (1 : Int32)) (by decide) ?_
  refine x_iload_n (pc := 17) dX12_lawOf_17 rfl ?_
  obtain ⟨hx4, h⟩ := wo_g h
  refine x_iastJ (pc := 18) dX12_lawOf_18 rfl rfl (by decide) rfl hx4 ?_
  refine x_letm h (fun m5 h => ?_)
  refine x_aload_n (pc := 19) dX12_lawOf_19 rfl ?_
  refine x_getS (pc := 20) dX12_lawOf_20 fX12_107 rfl (by decide) ?_
  refine x_iconst (pc := 23) dX12_lawOf_23 (v := (2 : Int32)) (by decide) ?_
  refine x_iload (pc := 24) dX12_lawOf_24 rfl ?_
  obtain ⟨hx6, h⟩ := wo_g h
  refine x_iastJ (pc := 26) dX12_lawOf_26 rfl rfl (by decide) rfl hx6 ?_
  refine x_letm h (fun m7 h => ?_)
  refine x_aload_n (pc := 27) dX12_lawOf_27 rfl ?_
  refine x_getS (pc := 28) dX12_lawOf_28 fX12_89 rfl (by decide) ?_
  refine x_bipush (pc := 31) dX12_lawOf_31 (v := (6 : Int32)) (by decide) ?_
  refine x_iload_n (pc := 33) dX12_lawOf_33 rfl ?_
  refine x_iadd (pc := 34) dX12_lawOf_34 ?_
  obtain ⟨hx8, h⟩ := wo_g h
  refine x_ialdJ (pc := 35) dX12_lawOf_35 rfl rfl (by decide) hx8 ?_
  have j57 : ∀ (u9 : Int32) (m10 : mi_M), wo (f_X12_lawOf_J57 u9 m10) Q0 → mi_X mX12_lawOf (3) 57 [] [vi u9] m10 QX := by
    intro u9 m10 h
    unfold f_X12_lawOf_J57 at h
    exact x_iret (pc := 57) dX12_lawOf_57 rfl (by rw [hQX]; exact ⟨_, rfl, congrArg Prod.fst (hq0 _ (wo_some h)), congrArg Prod.snd (hq0 _ (wo_some h))⟩)
  refine x_if_ge (pc := 36) dX12_lawOf_36 (tgt := 44) (by decide) (fun c14 => ?_) (fun c14 => ?_)
  · replace h := wo_pos c14 h
    refine x_aload_n (pc := 44) dX12_lawOf_44 rfl ?_
    refine x_aload_n (pc := 45) dX12_lawOf_45 rfl ?_
    refine x_getS (pc := 46) dX12_lawOf_46 fX12_89 rfl (by decide) ?_
    refine x_bipush (pc := 49) dX12_lawOf_49 (v := (6 : Int32)) (by decide) ?_
    refine x_iload_n (pc := 51) dX12_lawOf_51 rfl ?_
    refine x_iadd (pc := 52) dX12_lawOf_52 ?_
    obtain ⟨hx11, h⟩ := wo_g h
    refine x_ialdJ (pc := 53) dX12_lawOf_53 rfl rfl (by decide) hx11 ?_
    refine y_Vi1 (pc := 54) h dX12_lawOf_54 lX12_326 (by decide) (by omega) rfl (fun a e => w_X12_worthAt _ _ a e) (fun v12 m13 h => ?_)
    refine x_sub [] trivial ?_
    exact j57 _ _ h
  · replace h := wo_neg c14 h
    refine x_iload (pc := 39) dX12_lawOf_39 rfl ?_
    refine x_goto (pc := 41) dX12_lawOf_41 (tgt := 57) (by decide) ?_
    refine x_sub [] trivial ?_
    exact j57 _ _ h
noncomputable def f_X12_burnOf_J64 (m3 : mi_M) (u7 : Int32) : Option (Int32 × mi_M) := some (u7, m3)
noncomputable def f_X12_burnOf_J39 (p0 : Int32) (m3 : mi_M) (u4 : Int32) : Option (Int32 × mi_M) := mi_bo (f_X12_wrongOf p0 (1 : Int32) m3) fun v5 => mi_bo (f_X12_kindOf v5 m3) fun v6 => if v6 = (3 : Int32) then f_X12_burnOf_J64 m3 ((2 : Int32) * u4) else f_X12_burnOf_J64 m3 u4
noncomputable def f_X12_burnOf (p0 : Int32) (p1 : Int32) (p2 : Int32) (mem : mi_M) : Option (Int32 × mi_M) := mi_bo (f_X12_wrongOf p0 (2 : Int32) mem) fun v1 => mi_b (f_X12_lawOf (2 : Int32) p0 p1 p2 v1 mem) fun v2 m3 => if 0 ≤ v2 then if v2 ≤ (30 : Int32) then f_X12_burnOf_J39 p0 m3 v2 else f_X12_burnOf_J39 p0 m3 (30 : Int32) else f_X12_burnOf_J39 p0 m3 (0 : Int32)
set_option maxRecDepth 100000 in
set_option maxHeartbeats 4000000 in
theorem w_X12_burnOf (p0 : Int32) (p1 : Int32) (p2 : Int32) (mem : mi_M) (a : Int32 × mi_M) (e : f_X12_burnOf p0 p1 p2 mem = some a) : mi_Ci (4) mX12_burnOf [vr 12 0, vi p0, vi p1, vi p2] mem (fun x m' => x = a.1 ∧ m' = a.2) := by
  unfold mi_Ci
  refine mi_C_intro (ls := [(0, vr 12 0), (1, vi p0), (2, vi p1), (3, vi p2)]) (by decide) rfl rfl ?_
  obtain ⟨Q0, hq0, h⟩ : ∃ Q0 : (Int32 × mi_M) → Prop, (∀ b, Q0 b → b = a) ∧ wo (f_X12_burnOf p0 p1 p2 mem) Q0 := ⟨fun b => b = a, fun _ h => h, wo_eq e⟩
  obtain ⟨QX, hQX⟩ : ∃ QX : Option mi_V → mi_M → Prop, QX = (fun r m' => ∃ x, r = some (vi x) ∧ x = a.1 ∧ m' = a.2) := ⟨_, rfl⟩
  rw [← hQX]
  unfold f_X12_burnOf at h
  refine x_aload_n (pc := 0) dX12_burnOf_0 rfl ?_
  refine x_iconst (pc := 1) dX12_burnOf_1 (v := (2 : Int32)) (by decide) ?_
  refine x_iload_n (pc := 2) dX12_burnOf_2 rfl ?_
  refine x_iload_n (pc := 3) dX12_burnOf_3 rfl ?_
  refine x_iload_n (pc := 4) dX12_burnOf_4 rfl ?_
  refine x_aload_n (pc := 5) dX12_burnOf_5 rfl ?_
  refine x_iload_n (pc := 6) dX12_burnOf_6 rfl ?_
  refine x_iconst (pc := 7) dX12_burnOf_7 (v := (2 : Int32)) (by decide) ?_
  refine z_Vi2 (pc := 8) h dX12_burnOf_8 lX12_297 (by decide) (by omega) rfl (fun a e => w_X12_wrongOf _ _ _ a e) (fun v1 h => ?_)
  refine y_Vi5 (pc := 11) h dX12_burnOf_11 lX12_329 (by decide) (by omega) rfl (fun a e => w_X12_lawOf _ _ _ _ _ _ a e) (fun v2 m3 h => ?_)
  refine x_istore (ls' := [(4, _), (0, _), (1, _), (2, _), (3, _)]) (pc := 14) dX12_burnOf_14 rfl rfl ?_
  refine x_iload (pc := 16) dX12_burnOf_16 rfl ?_
  have j39 : ∀ (u4 : Int32), wo (f_X12_burnOf_J39 p0 m3 u4) Q0 → mi_X mX12_burnOf (4) 39 [(0, vr 12 0), (1, vi p0)] [vi u4] m3 QX := by
    intro u4 h
    unfold f_X12_burnOf_J39 at h
    refine x_istore (ls' := [(4, _), (0, _), (1, _)]) (pc := 39) dX12_burnOf_39 rfl rfl ?_
    refine x_aload_n (pc := 41) dX12_burnOf_41 rfl ?_
    refine x_aload_n (pc := 42) dX12_burnOf_42 rfl ?_
    refine x_iload_n (pc := 43) dX12_burnOf_43 rfl ?_
    refine x_iconst (pc := 44) dX12_burnOf_44 (v := (1 : Int32)) (by decide) ?_
    refine z_Vi2 (pc := 45) h dX12_burnOf_45 lX12_297 (by decide) (by omega) rfl (fun a e => w_X12_wrongOf _ _ _ a e) (fun v5 h => ?_)
    refine z_Vi1 (pc := 48) h dX12_burnOf_48 lX12_316 (by decide) (by omega) rfl (fun a e => w_X12_kindOf _ _ a e) (fun v6 h => ?_)
    refine x_iconst (pc := 51) dX12_burnOf_51 (v := (3 : Int32)) (by decide) ?_
    have j64 : ∀ (u7 : Int32), wo (f_X12_burnOf_J64 m3 u7) Q0 → mi_X mX12_burnOf (4) 64 [] [vi u7] m3 QX := by
      intro u7 h
      unfold f_X12_burnOf_J64 at h
      exact x_iret (pc := 64) dX12_burnOf_64 rfl (by rw [hQX]; exact ⟨_, rfl, congrArg Prod.fst (hq0 _ (wo_some h)), congrArg Prod.snd (hq0 _ (wo_some h))⟩)
    refine x_icmp_ne (pc := 52) dX12_burnOf_52 (tgt := 62) (by decide) (fun c8 => ?_) (fun c8 => ?_)
    · replace h := wo_neg c8 h
      refine x_iload (pc := 62) dX12_burnOf_62 rfl ?_
      refine x_sub [] trivial ?_
      exact j64 _ h
    · replace h := wo_pos c8 h
      refine x_iconst (pc := 55) dX12_burnOf_55 (v := (2 : Int32)) (by decide) ?_
      refine x_iload (pc := 56) dX12_burnOf_56 rfl ?_
      refine x_imul (pc := 58) dX12_burnOf_58 ?_
      refine x_goto (pc := 59) dX12_burnOf_59 (tgt := 64) (by decide) ?_
      refine x_sub [] trivial ?_
      exact j64 _ h
  refine x_if_ge (pc := 18) dX12_burnOf_18 (tgt := 25) (by decide) (fun c10 => ?_) (fun c10 => ?_)
  · replace h := wo_pos c10 h
    refine x_iload (pc := 25) dX12_burnOf_25 rfl ?_
    refine x_bipush (pc := 27) dX12_burnOf_27 (v := (30 : Int32)) (by decide) ?_
    refine x_icmp_le (pc := 29) dX12_burnOf_29 (tgt := 37) (by decide) (fun c9 => ?_) (fun c9 => ?_)
    · replace h := wo_pos c9 h
      refine x_iload (pc := 37) dX12_burnOf_37 rfl ?_
      refine x_sub [(0, _), (1, _)] ⟨rfl, rfl, trivial⟩ ?_
      exact j39 _ h
    · replace h := wo_neg c9 h
      refine x_bipush (pc := 32) dX12_burnOf_32 (v := (30 : Int32)) (by decide) ?_
      refine x_goto (pc := 34) dX12_burnOf_34 (tgt := 39) (by decide) ?_
      refine x_sub [(0, _), (1, _)] ⟨rfl, rfl, trivial⟩ ?_
      exact j39 _ h
  · replace h := wo_neg c10 h
    refine x_iconst (pc := 21) dX12_burnOf_21 (v := (0 : Int32)) (by decide) ?_
    refine x_goto (pc := 22) dX12_burnOf_22 (tgt := 39) (by decide) ?_
    refine x_sub [(0, _), (1, _)] ⟨rfl, rfl, trivial⟩ ?_
    exact j39 _ h
noncomputable def f_X12_barOf_J25 (mem : mi_M) (u4 : Int32) : Option (Int32) := some ((mem.1 56 0 (4 : Int32).toNatClampNeg) + u4)
noncomputable def f_X12_barOf (p0 : Int32) (mem : mi_M) : Option (Int32) := mi_g (vp_in (4 : Int32) 200) (mi_bo (f_X12_wrongOf p0 (1 : Int32) mem) fun v2 => mi_bo (f_X12_kindOf v2 mem) fun v3 => if v3 = (2 : Int32) then f_X12_barOf_J25 mem (3 : Int32) else f_X12_barOf_J25 mem (0 : Int32))
set_option maxRecDepth 100000 in
set_option maxHeartbeats 4000000 in
theorem w_X12_barOf (p0 : Int32) (mem : mi_M) (a : Int32) (e : f_X12_barOf p0 mem = some a) : mi_Ci (2) mX12_barOf [vr 12 0, vi p0] mem (fun x m' => x = a ∧ m' = mem) := by
  unfold mi_Ci
  refine mi_C_intro (ls := [(0, vr 12 0), (1, vi p0)]) (by decide) rfl rfl ?_
  obtain ⟨Q0, hq0, h⟩ : ∃ Q0 : Int32 → Prop, (∀ b, Q0 b → b = a) ∧ wo (f_X12_barOf p0 mem) Q0 := ⟨fun b => b = a, fun _ h => h, wo_eq e⟩
  obtain ⟨QX, hQX⟩ : ∃ QX : Option mi_V → mi_M → Prop, QX = (fun r m' => ∃ x, r = some (vi x) ∧ x = a ∧ m' = mem) := ⟨_, rfl⟩
  rw [← hQX]
  unfold f_X12_barOf at h
  refine x_aload_n (pc := 0) dX12_barOf_0 rfl ?_
  refine x_getS (pc := 1) dX12_barOf_1 fX12_89 rfl (by decide) ?_
  refine x_iconst (pc := 4) dX12_barOf_4 (v := (4 : Int32)) (by decide) ?_
  obtain ⟨hx1, h⟩ := wo_g h
  refine x_ialdJ (pc := 5) dX12_barOf_5 rfl rfl (by decide) hx1 ?_
  refine x_aload_n (pc := 6) dX12_barOf_6 rfl ?_
  refine x_aload_n (pc := 7) dX12_barOf_7 rfl ?_
  refine x_iload_n (pc := 8) dX12_barOf_8 rfl ?_
  refine x_iconst (pc := 9) dX12_barOf_9 (v := (1 : Int32)) (by decide) ?_
  refine z_Vi2 (pc := 10) h dX12_barOf_10 lX12_297 (by decide) (by omega) rfl (fun a e => w_X12_wrongOf _ _ _ a e) (fun v2 h => ?_)
  refine z_Vi1 (pc := 13) h dX12_barOf_13 lX12_316 (by decide) (by omega) rfl (fun a e => w_X12_kindOf _ _ a e) (fun v3 h => ?_)
  refine x_iconst (pc := 16) dX12_barOf_16 (v := (2 : Int32)) (by decide) ?_
  have j25 : ∀ (u4 : Int32), wo (f_X12_barOf_J25 mem u4) Q0 → mi_X mX12_barOf (2) 25 [] [vi u4, vi (mem.1 56 0 (4 : Int32).toNatClampNeg)] mem QX := by
    intro u4 h
    unfold f_X12_barOf_J25 at h
    refine x_iadd (pc := 25) dX12_barOf_25 ?_
    exact x_iret (pc := 26) dX12_barOf_26 rfl (by rw [hQX]; exact ⟨_, rfl, hq0 _ (wo_some h), rfl⟩)
  refine x_icmp_ne (pc := 17) dX12_barOf_17 (tgt := 24) (by decide) (fun c5 => ?_) (fun c5 => ?_)
  · replace h := wo_neg c5 h
    refine x_iconst (pc := 24) dX12_barOf_24 (v := (0 : Int32)) (by decide) ?_
    refine x_sub [] trivial ?_
    exact j25 _ h
  · replace h := wo_pos c5 h
    refine x_iconst (pc := 20) dX12_barOf_20 (v := (3 : Int32)) (by decide) ?_
    refine x_goto (pc := 21) dX12_barOf_21 (tgt := 25) (by decide) ?_
    refine x_sub [] trivial ?_
    exact j25 _ h
noncomputable def f_X12_wrongs (mem : mi_M) : Option (Int32) := mi_g (vp_in (2 : Int32) 200) (some (mem.1 56 0 (2 : Int32).toNatClampNeg))
set_option maxRecDepth 100000 in
set_option maxHeartbeats 4000000 in
theorem w_X12_wrongs (mem : mi_M) (a : Int32) (e : f_X12_wrongs  mem = some a) : mi_Ci (1) mX12_wrongs [vr 12 0] mem (fun x m' => x = a ∧ m' = mem) := by
  unfold mi_Ci
  refine mi_C_intro (ls := [(0, vr 12 0)]) (by decide) rfl rfl ?_
  obtain ⟨Q0, hq0, h⟩ : ∃ Q0 : Int32 → Prop, (∀ b, Q0 b → b = a) ∧ wo (f_X12_wrongs  mem) Q0 := ⟨fun b => b = a, fun _ h => h, wo_eq e⟩
  obtain ⟨QX, hQX⟩ : ∃ QX : Option mi_V → mi_M → Prop, QX = (fun r m' => ∃ x, r = some (vi x) ∧ x = a ∧ m' = mem) := ⟨_, rfl⟩
  rw [← hQX]
  unfold f_X12_wrongs at h
  refine x_aload_n (pc := 0) dX12_wrongs_0 rfl ?_
  refine x_getS (pc := 1) dX12_wrongs_1 fX12_89 rfl (by decide) ?_
  refine x_iconst (pc := 4) dX12_wrongs_4 (v := (2 : Int32)) (by decide) ?_
  obtain ⟨hx1, h⟩ := wo_g h
  refine x_ialdJ (pc := 5) dX12_wrongs_5 rfl rfl (by decide) hx1 ?_
  exact x_iret (pc := 6) dX12_wrongs_6 rfl (by rw [hQX]; exact ⟨_, rfl, hq0 _ (wo_some h), rfl⟩)
noncomputable def f_X12_isWrong_J17 (u1 : Int32) : Option (Int32) := mi_g (u1 = 0 ∨ u1 = 1) (some u1)
noncomputable def f_X12_isWrong_J16 : Option (Int32) := f_X12_isWrong_J17 (0 : Int32)
noncomputable def f_X12_isWrong (p0 : Int32) (mem : mi_M) : Option (Int32) := if p0 < 0 then f_X12_isWrong_J16 else mi_bo (f_X12_wrongs mem) fun v3 => if v3 ≤ p0 then f_X12_isWrong_J16 else f_X12_isWrong_J17 (1 : Int32)
set_option maxRecDepth 100000 in
set_option maxHeartbeats 4000000 in
theorem w_X12_isWrong (p0 : Int32) (mem : mi_M) (a : Int32) (e : f_X12_isWrong p0 mem = some a) : mi_Ci (2) mX12_isWrong [vr 12 0, vi p0] mem (fun x m' => x = a ∧ m' = mem) := by
  unfold mi_Ci
  refine mi_C_intro (ls := [(0, vr 12 0), (1, vi p0)]) (by decide) rfl rfl ?_
  obtain ⟨Q0, hq0, h⟩ : ∃ Q0 : Int32 → Prop, (∀ b, Q0 b → b = a) ∧ wo (f_X12_isWrong p0 mem) Q0 := ⟨fun b => b = a, fun _ h => h, wo_eq e⟩
  obtain ⟨QX, hQX⟩ : ∃ QX : Option mi_V → mi_M → Prop, QX = (fun r m' => ∃ x, r = some (vi x) ∧ x = a ∧ m' = mem) := ⟨_, rfl⟩
  rw [← hQX]
  unfold f_X12_isWrong at h
  refine x_iload_n (pc := 0) dX12_isWrong_0 rfl ?_
  have j17 : ∀ (u1 : Int32), wo (f_X12_isWrong_J17 u1) Q0 → mi_X mX12_isWrong (2) 17 [] [vi u1] mem QX := by
    intro u1 h
    unfold f_X12_isWrong_J17 at h
    obtain ⟨hb2, h⟩ := wo_g h
    exact x_zretB (pc := 17) dX12_isWrong_17 rfl hb2 (by rw [hQX]; exact ⟨_, rfl, hq0 _ (wo_some h), rfl⟩)
  have j16 : wo (f_X12_isWrong_J16) Q0 → mi_X mX12_isWrong (2) 16 [] [] mem QX := by
    intro h
    unfold f_X12_isWrong_J16 at h
    refine x_iconst (pc := 16) dX12_isWrong_16 (v := (0 : Int32)) (by decide) ?_
    refine x_sub [] trivial ?_
    exact j17 _ h
  refine x_if_lt (pc := 1) dX12_isWrong_1 (tgt := 16) (by decide) (fun c5 => ?_) (fun c5 => ?_)
  · replace h := wo_pos c5 h
    refine x_sub [] trivial ?_
    exact j16 h
  · replace h := wo_neg c5 h
    refine x_iload_n (pc := 4) dX12_isWrong_4 rfl ?_
    refine x_aload_n (pc := 5) dX12_isWrong_5 rfl ?_
    refine z_Vi0 (pc := 6) h dX12_isWrong_6 lX12_273 (by decide) (by omega) rfl (fun a e => w_X12_wrongs _ a e) (fun v3 h => ?_)
    refine x_icmp_ge (pc := 9) dX12_isWrong_9 (tgt := 16) (by decide) (fun c4 => ?_) (fun c4 => ?_)
    · replace h := wo_pos c4 h
      refine x_sub [] trivial ?_
      exact j16 h
    · replace h := wo_neg c4 h
      refine x_iconst (pc := 12) dX12_isWrong_12 (v := (1 : Int32)) (by decide) ?_
      refine x_goto (pc := 13) dX12_isWrong_13 (tgt := 17) (by decide) ?_
      refine x_sub [] trivial ?_
      exact j17 _ h
noncomputable def f_X12_isOpen_J27 (u2 : Int32) : Option (Int32) := mi_g (u2 = 0 ∨ u2 = 1) (some u2)
noncomputable def f_X12_isOpen_J26 : Option (Int32) := f_X12_isOpen_J27 (0 : Int32)
noncomputable def f_X12_isOpen (p0 : Int32) (p1 : Int32) (mem : mi_M) : Option (Int32) := mi_bo (f_X12_isWrong p1 mem) fun v1 => if v1 = 0 then f_X12_isOpen_J26 else mi_g (vp_in ((p0 + (22 : Int32)) + p1) 1449) (if (mem.1 64 0 ((p0 + (22 : Int32)) + p1).toNatClampNeg) = 0 then f_X12_isOpen_J27 (1 : Int32) else f_X12_isOpen_J26)
set_option maxRecDepth 100000 in
set_option maxHeartbeats 4000000 in
theorem w_X12_isOpen (p0 : Int32) (p1 : Int32) (mem : mi_M) (a : Int32) (e : f_X12_isOpen p0 p1 mem = some a) : mi_Ci (3) mX12_isOpen [vr 12 0, vi p0, vi p1] mem (fun x m' => x = a ∧ m' = mem) := by
  unfold mi_Ci
  refine mi_C_intro (ls := [(0, vr 12 0), (1, vi p0), (2, vi p1)]) (by decide) rfl rfl ?_
  obtain ⟨Q0, hq0, h⟩ : ∃ Q0 : Int32 → Prop, (∀ b, Q0 b → b = a) ∧ wo (f_X12_isOpen p0 p1 mem) Q0 := ⟨fun b => b = a, fun _ h => h, wo_eq e⟩
  obtain ⟨QX, hQX⟩ : ∃ QX : Option mi_V → mi_M → Prop, QX = (fun r m' => ∃ x, r = some (vi x) ∧ x = a ∧ m' = mem) := ⟨_, rfl⟩
  rw [← hQX]
  unfold f_X12_isOpen at h
  refine x_aload_n (pc := 0) dX12_isOpen_0 rfl ?_
  refine x_iload_n (pc := 1) dX12_isOpen_1 rfl ?_
  refine z_Vi1 (pc := 2) h dX12_isOpen_2 lX12_313 (by decide) (by omega) rfl (fun a e => w_X12_isWrong _ _ a e) (fun v1 h => ?_)
  have j27 : ∀ (u2 : Int32), wo (f_X12_isOpen_J27 u2) Q0 → mi_X mX12_isOpen (3) 27 [] [vi u2] mem QX := by
    intro u2 h
    unfold f_X12_isOpen_J27 at h
    obtain ⟨hb3, h⟩ := wo_g h
    exact x_zretB (pc := 27) dX12_isOpen_27 rfl hb3 (by rw [hQX]; exact ⟨_, rfl, hq0 _ (wo_some h), rfl⟩)
  have j26 : wo (f_X12_isOpen_J26) Q0 → mi_X mX12_isOpen (3) 26 [] [] mem QX := by
    intro h
    unfold f_X12_isOpen_J26 at h
    refine x_iconst (pc := 26) dX12_isOpen_26 (v := (0 : Int32)) (by decide) ?_
    refine x_sub [] trivial ?_
    exact j27 _ h
  refine x_if_eq (pc := 5) dX12_isOpen_5 (tgt := 26) (by decide) (fun c6 => ?_) (fun c6 => ?_)
  · replace h := wo_pos c6 h
    refine x_sub [] trivial ?_
    exact j26 h
  · replace h := wo_neg c6 h
    refine x_aload_n (pc := 8) dX12_isOpen_8 rfl ?_
    refine x_getS (pc := 9) dX12_isOpen_9 fX12_113 rfl (by decide) ?_
    refine x_iload_n (pc := 12) dX12_isOpen_12 rfl ?_
    refine x_bipush (pc := 13) dX12_isOpen_13 (v := (22 : Int32)) (by decide) ?_
    refine x_iadd (pc := 15) dX12_isOpen_15 ?_
    refine x_iload_n (pc := 16) dX12_isOpen_16 rfl ?_
    refine x_iadd (pc := 17) dX12_isOpen_17 ?_
    obtain ⟨hx4, h⟩ := wo_g h
    refine x_ialdJ (pc := 18) dX12_isOpen_18 rfl rfl (by decide) hx4 ?_
    refine x_if_ne (pc := 19) dX12_isOpen_19 (tgt := 26) (by decide) (fun c5 => ?_) (fun c5 => ?_)
    · replace h := wo_neg c5 h
      refine x_sub [] trivial ?_
      exact j26 h
    · replace h := wo_pos c5 h
      refine x_iconst (pc := 22) dX12_isOpen_22 (v := (1 : Int32)) (by decide) ?_
      refine x_goto (pc := 23) dX12_isOpen_23 (tgt := 27) (by decide) ?_
      refine x_sub [] trivial ?_
      exact j27 _ h
noncomputable def f_X12_isRipe_J33 (u2 : Int32) : Option (Int32) := mi_g (u2 = 0 ∨ u2 = 1) (some u2)
noncomputable def f_X12_isRipe_J32 : Option (Int32) := f_X12_isRipe_J33 (0 : Int32)
noncomputable def f_X12_isRipe (p0 : Int32) (p1 : Int32) (mem : mi_M) : Option (Int32) := mi_bo (f_X12_isOpen p0 p1 mem) fun v1 => if v1 = 0 then f_X12_isRipe_J32 else mi_g (vp_in ((p0 + (14 : Int32)) + p1) 1449) (mi_bo (f_X12_barOf p1 mem) fun v5 => if v5 < (mem.1 64 0 ((p0 + (14 : Int32)) + p1).toNatClampNeg) then f_X12_isRipe_J32 else f_X12_isRipe_J33 (1 : Int32))
set_option maxRecDepth 100000 in
set_option maxHeartbeats 4000000 in
theorem w_X12_isRipe (p0 : Int32) (p1 : Int32) (mem : mi_M) (a : Int32) (e : f_X12_isRipe p0 p1 mem = some a) : mi_Ci (4) mX12_isRipe [vr 12 0, vi p0, vi p1] mem (fun x m' => x = a ∧ m' = mem) := by
  unfold mi_Ci
  refine mi_C_intro (ls := [(0, vr 12 0), (1, vi p0), (2, vi p1)]) (by decide) rfl rfl ?_
  obtain ⟨Q0, hq0, h⟩ : ∃ Q0 : Int32 → Prop, (∀ b, Q0 b → b = a) ∧ wo (f_X12_isRipe p0 p1 mem) Q0 := ⟨fun b => b = a, fun _ h => h, wo_eq e⟩
  obtain ⟨QX, hQX⟩ : ∃ QX : Option mi_V → mi_M → Prop, QX = (fun r m' => ∃ x, r = some (vi x) ∧ x = a ∧ m' = mem) := ⟨_, rfl⟩
  rw [← hQX]
  unfold f_X12_isRipe at h
  refine x_aload_n (pc := 0) dX12_isRipe_0 rfl ?_
  refine x_iload_n (pc := 1) dX12_isRipe_1 rfl ?_
  refine x_iload_n (pc := 2) dX12_isRipe_2 rfl ?_
  refine z_Vi2 (pc := 3) h dX12_isRipe_3 lX12_319 (by decide) (by omega) rfl (fun a e => w_X12_isOpen _ _ _ a e) (fun v1 h => ?_)
  have j33 : ∀ (u2 : Int32), wo (f_X12_isRipe_J33 u2) Q0 → mi_X mX12_isRipe (4) 33 [] [vi u2] mem QX := by
    intro u2 h
    unfold f_X12_isRipe_J33 at h
    obtain ⟨hb3, h⟩ := wo_g h
    exact x_zretB (pc := 33) dX12_isRipe_33 rfl hb3 (by rw [hQX]; exact ⟨_, rfl, hq0 _ (wo_some h), rfl⟩)
  have j32 : wo (f_X12_isRipe_J32) Q0 → mi_X mX12_isRipe (4) 32 [] [] mem QX := by
    intro h
    unfold f_X12_isRipe_J32 at h
    refine x_iconst (pc := 32) dX12_isRipe_32 (v := (0 : Int32)) (by decide) ?_
    refine x_sub [] trivial ?_
    exact j33 _ h
  refine x_if_eq (pc := 6) dX12_isRipe_6 (tgt := 32) (by decide) (fun c7 => ?_) (fun c7 => ?_)
  · replace h := wo_pos c7 h
    refine x_sub [] trivial ?_
    exact j32 h
  · replace h := wo_neg c7 h
    refine x_aload_n (pc := 9) dX12_isRipe_9 rfl ?_
    refine x_getS (pc := 10) dX12_isRipe_10 fX12_113 rfl (by decide) ?_
    refine x_iload_n (pc := 13) dX12_isRipe_13 rfl ?_
    refine x_bipush (pc := 14) dX12_isRipe_14 (v := (14 : Int32)) (by decide) ?_
    refine x_iadd (pc := 16) dX12_isRipe_16 ?_
    refine x_iload_n (pc := 17) dX12_isRipe_17 rfl ?_
    refine x_iadd (pc := 18) dX12_isRipe_18 ?_
    obtain ⟨hx4, h⟩ := wo_g h
    refine x_ialdJ (pc := 19) dX12_isRipe_19 rfl rfl (by decide) hx4 ?_
    refine x_aload_n (pc := 20) dX12_isRipe_20 rfl ?_
    refine x_iload_n (pc := 21) dX12_isRipe_21 rfl ?_
    refine z_Vi1 (pc := 22) h dX12_isRipe_22 lX12_323 (by decide) (by omega) rfl (fun a e => w_X12_barOf _ _ a e) (fun v5 h => ?_)
    refine x_icmp_gt (pc := 25) dX12_isRipe_25 (tgt := 32) (by decide) (fun c6 => ?_) (fun c6 => ?_)
    · replace h := wo_pos c6 h
      refine x_sub [] trivial ?_
      exact j32 h
    · replace h := wo_neg c6 h
      refine x_iconst (pc := 28) dX12_isRipe_28 (v := (1 : Int32)) (by decide) ?_
      refine x_goto (pc := 29) dX12_isRipe_29 (tgt := 33) (by decide) ?_
      refine x_sub [] trivial ?_
      exact j33 _ h
noncomputable def f_X12_asks_J55 (p0 : Int32) (p1 : Int32) (mem : mi_M) (v3 : Int32) (u16 : Int32) : Option (Int32 × mi_M) := mi_bo (f_X12_atMost (v3 + u16) mem) fun v17 => mi_g (vp_in ((p0 + (14 : Int32)) + p1) 1449) (mi_let (mi_wI mem 64 0 ((p0 + (14 : Int32)) + p1).toNatClampNeg v17) fun m19 => mi_g ((0 : Int32) = 0 ∨ (0 : Int32) = 1) (some ((0 : Int32), m19)))
noncomputable def f_X12_asks (p0 : Int32) (p1 : Int32) (mem : mi_M) : Option (Int32 × mi_M) := mi_bo (f_X12_wrongOf p1 (1 : Int32) mem) fun v1 => mi_g (vp_in ((p0 + (14 : Int32)) + p1) 1449) (mi_let (mem.1 64 0 ((p0 + (14 : Int32)) + p1).toNatClampNeg) fun v3 => mi_bo (f_X12_isRipe p0 p1 mem) fun v4 => if v4 = 0 then mi_bo (f_X12_kindOf v1 mem) fun v15 => if v15 = (1 : Int32) then f_X12_asks_J55 p0 p1 mem v3 (2 : Int32) else f_X12_asks_J55 p0 p1 mem v3 (1 : Int32) else mi_g (vp_in ((p0 + (22 : Int32)) + p1) 1449) (mi_let (mi_wI mem 64 0 ((p0 + (22 : Int32)) + p1).toNatClampNeg (1 : Int32)) fun m6 => mi_g (vp_in ((p0 + (2 : Int32)) + v1) 1449) (mi_g (vp_in (p0 + (0 : Int32)) 1449) (mi_b (f_X12_burnOf p1 v3 (m6.1 64 0 (p0 + (0 : Int32)).toNatClampNeg) m6) fun v9 m10 => mi_bo (f_X12_atMost (((m6.1 64 0 ((p0 + (2 : Int32)) + v1).toNatClampNeg) + v9) + (m10.1 12 0 24)) m10) fun v11 => mi_g (vp_in ((p0 + (2 : Int32)) + v1) 1449) (mi_let (mi_wI m10 64 0 ((p0 + (2 : Int32)) + v1).toNatClampNeg v11) fun m13 => mi_g ((1 : Int32) = 0 ∨ (1 : Int32) = 1) (some ((1 : Int32), m13)))))))
set_option maxRecDepth 100000 in
set_option maxHeartbeats 4000000 in
theorem w_X12_asks (p0 : Int32) (p1 : Int32) (mem : mi_M) (a : Int32 × mi_M) (e : f_X12_asks p0 p1 mem = some a) : mi_Ci (5) mX12_asks [vr 12 0, vi p0, vi p1] mem (fun x m' => x = a.1 ∧ m' = a.2) := by
  unfold mi_Ci
  refine mi_C_intro (ls := [(0, vr 12 0), (1, vi p0), (2, vi p1)]) (by decide) rfl rfl ?_
  obtain ⟨Q0, hq0, h⟩ : ∃ Q0 : (Int32 × mi_M) → Prop, (∀ b, Q0 b → b = a) ∧ wo (f_X12_asks p0 p1 mem) Q0 := ⟨fun b => b = a, fun _ h => h, wo_eq e⟩
  obtain ⟨QX, hQX⟩ : ∃ QX : Option mi_V → mi_M → Prop, QX = (fun r m' => ∃ x, r = some (vi x) ∧ x = a.1 ∧ m' = a.2) := ⟨_, rfl⟩
  rw [← hQX]
  unfold f_X12_asks at h
  refine x_aload_n (pc := 0) dX12_asks_0 rfl ?_
  refine x_iload_n (pc := 1) dX12_asks_1 rfl ?_
  refine x_iconst (pc := 2) dX12_asks_2 (v := (1 : Int32)) (by decide) ?_
  refine z_Vi2 (pc := 3) h dX12_asks_3 lX12_297 (by decide) (by omega) rfl (fun a e => w_X12_wrongOf _ _ _ a e) (fun v1 h => ?_)
  refine x_istore_n (ls' := [(3, _), (0, _), (1, _), (2, _)]) (pc := 6) dX12_asks_6 rfl rfl rfl ?_
  refine x_aload_n (pc := 7) dX12_asks_7 rfl ?_
  refine x_getS (pc := 8) dX12_asks_8 fX12_113 rfl (by decide) ?_
  refine x_iload_n (pc := 11) dX12_asks_11 rfl ?_
  refine x_bipush (pc := 12) dX12_asks_12 (v := (14 : Int32)) (by decide) ?_
  refine x_iadd (pc := 14) dX12_asks_14 ?_
  refine x_iload_n (pc := 15) dX12_asks_15 rfl ?_
  refine x_iadd (pc := 16) dX12_asks_16 ?_
  obtain ⟨hx2, h⟩ := wo_g h
  refine x_ialdJ (pc := 17) dX12_asks_17 rfl rfl (by decide) hx2 ?_
  refine x_leti h (fun v3 h => ?_)
  refine x_istore (ls' := [(4, _), (3, _), (0, _), (1, _), (2, _)]) (pc := 18) dX12_asks_18 rfl rfl ?_
  refine x_aload_n (pc := 20) dX12_asks_20 rfl ?_
  refine x_iload_n (pc := 21) dX12_asks_21 rfl ?_
  refine x_iload_n (pc := 22) dX12_asks_22 rfl ?_
  refine z_Vi2 (pc := 23) h dX12_asks_23 lX12_336 (by decide) (by omega) rfl (fun a e => w_X12_isRipe _ _ _ a e) (fun v4 h => ?_)
  refine x_if_ne (pc := 26) dX12_asks_26 (tgt := 62) (by decide) (fun c22 => ?_) (fun c22 => ?_)
  · replace h := wo_neg c22 h
    refine x_aload_n (pc := 62) dX12_asks_62 rfl ?_
    refine x_getS (pc := 63) dX12_asks_63 fX12_113 rfl (by decide) ?_
    refine x_iload_n (pc := 66) dX12_asks_66 rfl ?_
    refine x_bipush (pc := 67) dX12_asks_67 (v := (22 : Int32)) (by decide) ?_
    refine x_iadd (pc := 69) dX12_asks_69 ?_
    refine x_iload_n (pc := 70) dX12_asks_70 rfl ?_
    refine x_iadd (pc := 71) dX12_asks_71 ?_
    refine x_iconst (pc := 72) dX12_asks_72 (v := (1 : Int32)) (by decide) ?_
    obtain ⟨hx5, h⟩ := wo_g h
    refine x_iastJ (pc := 73) dX12_asks_73 rfl rfl (by decide) rfl hx5 ?_
    refine x_letm h (fun m6 h => ?_)
    refine x_aload_n (pc := 74) dX12_asks_74 rfl ?_
    refine x_getS (pc := 75) dX12_asks_75 fX12_113 rfl (by decide) ?_
    refine x_iload_n (pc := 78) dX12_asks_78 rfl ?_
    refine x_iconst (pc := 79) dX12_asks_79 (v := (2 : Int32)) (by decide) ?_
    refine x_iadd (pc := 80) dX12_asks_80 ?_
    refine x_iload_n (pc := 81) dX12_asks_81 rfl ?_
    refine x_iadd (pc := 82) dX12_asks_82 ?_
    refine x_aload_n (pc := 83) dX12_asks_83 rfl ?_
    refine x_getS (pc := 84) dX12_asks_84 fX12_113 rfl (by decide) ?_
    refine x_iload_n (pc := 87) dX12_asks_87 rfl ?_
    refine x_iconst (pc := 88) dX12_asks_88 (v := (2 : Int32)) (by decide) ?_
    refine x_iadd (pc := 89) dX12_asks_89 ?_
    refine x_iload_n (pc := 90) dX12_asks_90 rfl ?_
    refine x_iadd (pc := 91) dX12_asks_91 ?_
    obtain ⟨hx7, h⟩ := wo_g h
    refine x_ialdJ (pc := 92) dX12_asks_92 rfl rfl (by decide) hx7 ?_
    refine x_aload_n (pc := 93) dX12_asks_93 rfl ?_
    refine x_iload_n (pc := 94) dX12_asks_94 rfl ?_
    refine x_iload (pc := 95) dX12_asks_95 rfl ?_
    refine x_aload_n (pc := 97) dX12_asks_97 rfl ?_
    refine x_getS (pc := 98) dX12_asks_98 fX12_113 rfl (by decide) ?_
    refine x_iload_n (pc := 101) dX12_asks_101 rfl ?_
    refine x_iconst (pc := 102) dX12_asks_102 (v := (0 : Int32)) (by decide) ?_
    refine x_iadd (pc := 103) dX12_asks_103 ?_
    obtain ⟨hx8, h⟩ := wo_g h
    refine x_ialdJ (pc := 104) dX12_asks_104 rfl rfl (by decide) hx8 ?_
    refine y_Vi3 (pc := 105) h dX12_asks_105 lX12_339 (by decide) (by omega) rfl (fun a e => w_X12_burnOf _ _ _ _ a e) (fun v9 m10 h => ?_)
    refine x_iadd (pc := 108) dX12_asks_108 ?_
    refine x_aload_n (pc := 109) dX12_asks_109 rfl ?_
    refine x_getI (pc := 110) dX12_asks_110 fX12_300 rfl (by decide) ?_
    refine x_iadd (pc := 113) dX12_asks_113 ?_
    refine z_Si1 (pc := 114) h dX12_asks_114 lX12_333 (by omega) rfl (fun a e => w_X12_atMost _ _ a e) (fun v11 h => ?_)
    obtain ⟨hx12, h⟩ := wo_g h
    refine x_iastJ (pc := 117) dX12_asks_117 rfl rfl (by decide) rfl hx12 ?_
    refine x_letm h (fun m13 h => ?_)
    refine x_iconst (pc := 118) dX12_asks_118 (v := (1 : Int32)) (by decide) ?_
    obtain ⟨hb14, h⟩ := wo_g h
    exact x_zretB (pc := 119) dX12_asks_119 rfl hb14 (by rw [hQX]; exact ⟨_, rfl, congrArg Prod.fst (hq0 _ (wo_some h)), congrArg Prod.snd (hq0 _ (wo_some h))⟩)
  · replace h := wo_pos c22 h
    refine x_aload_n (pc := 29) dX12_asks_29 rfl ?_
    refine x_getS (pc := 30) dX12_asks_30 fX12_113 rfl (by decide) ?_
    refine x_iload_n (pc := 33) dX12_asks_33 rfl ?_
    refine x_bipush (pc := 34) dX12_asks_34 (v := (14 : Int32)) (by decide) ?_
    refine x_iadd (pc := 36) dX12_asks_36 ?_
    refine x_iload_n (pc := 37) dX12_asks_37 rfl ?_
    refine x_iadd (pc := 38) dX12_asks_38 ?_
    refine x_iload (pc := 39) dX12_asks_39 rfl ?_
    refine x_aload_n (pc := 41) dX12_asks_41 rfl ?_
    refine x_iload_n (pc := 42) dX12_asks_42 rfl ?_
    refine z_Vi1 (pc := 43) h dX12_asks_43 lX12_316 (by decide) (by omega) rfl (fun a e => w_X12_kindOf _ _ a e) (fun v15 h => ?_)
    refine x_iconst (pc := 46) dX12_asks_46 (v := (1 : Int32)) (by decide) ?_
    have j55 : ∀ (u16 : Int32), wo (f_X12_asks_J55 p0 p1 mem v3 u16) Q0 → mi_X mX12_asks (5) 55 [] [vi u16, vi v3, vi ((p0 + (14 : Int32)) + p1), vr 64 0] mem QX := by
      intro u16 h
      unfold f_X12_asks_J55 at h
      refine x_iadd (pc := 55) dX12_asks_55 ?_
      refine z_Si1 (pc := 56) h dX12_asks_56 lX12_333 (by omega) rfl (fun a e => w_X12_atMost _ _ a e) (fun v17 h => ?_)
      obtain ⟨hx18, h⟩ := wo_g h
      refine x_iastJ (pc := 59) dX12_asks_59 rfl rfl (by decide) rfl hx18 ?_
      refine x_letm h (fun m19 h => ?_)
      refine x_iconst (pc := 60) dX12_asks_60 (v := (0 : Int32)) (by decide) ?_
      obtain ⟨hb20, h⟩ := wo_g h
      exact x_zretB (pc := 61) dX12_asks_61 rfl hb20 (by rw [hQX]; exact ⟨_, rfl, congrArg Prod.fst (hq0 _ (wo_some h)), congrArg Prod.snd (hq0 _ (wo_some h))⟩)
    refine x_icmp_ne (pc := 47) dX12_asks_47 (tgt := 54) (by decide) (fun c21 => ?_) (fun c21 => ?_)
    · replace h := wo_neg c21 h
      refine x_iconst (pc := 54) dX12_asks_54 (v := (1 : Int32)) (by decide) ?_
      refine x_sub [] trivial ?_
      exact j55 _ h
    · replace h := wo_pos c21 h
      refine x_iconst (pc := 50) dX12_asks_50 (v := (2 : Int32)) (by decide) ?_
      refine x_goto (pc := 51) dX12_asks_51 (tgt := 55) (by decide) ?_
      refine x_sub [] trivial ?_
      exact j55 _ h
noncomputable def f_X12_copies_B3 (p0 : Int32) (p1 : Int32) (p2 : Int32) : (Int32 × mi_M) → Option ((Int32 × mi_M) ⊕ (mi_M)) := fun s => match s with | (l2, m3) => if p2 ≤ l2 then some (.inr m3) else mi_g (vp_in (p0 + l2) 1449) (mi_g (vp_in (p1 + l2) 1449) (mi_let (mi_wI m3 64 0 (p1 + l2).toNatClampNeg (m3.1 64 0 (p0 + l2).toNatClampNeg)) fun m6 => some (.inl ((l2 + (1 : Int32)), m6))))
noncomputable def f_X12_copies_K3 : mi_M → Option (mi_M) := fun m1 => some m1
noncomputable def f_X12_copies (p0 : Int32) (p1 : Int32) (p2 : Int32) (mem : mi_M) : Option (mi_M) := mi_bo (mi_lp (f_X12_copies_B3 p0 p1 p2) mi_fu ((0 : Int32), mem)) (f_X12_copies_K3)
set_option maxRecDepth 100000 in
set_option maxHeartbeats 4000000 in
theorem w_X12_copies (p0 : Int32) (p1 : Int32) (p2 : Int32) (mem : mi_M) (a : mi_M) (e : f_X12_copies p0 p1 p2 mem = some a) : mi_Cv (1) mX12_copies [vr 12 0, vi p0, vi p1, vi p2] mem (fun m' => m' = a) := by
  unfold mi_Cv
  refine mi_C_intro (ls := [(0, vr 12 0), (1, vi p0), (2, vi p1), (3, vi p2)]) (by decide) rfl rfl ?_
  obtain ⟨Q0, hq0, h⟩ : ∃ Q0 : mi_M → Prop, (∀ b, Q0 b → b = a) ∧ wo (f_X12_copies p0 p1 p2 mem) Q0 := ⟨fun b => b = a, fun _ h => h, wo_eq e⟩
  obtain ⟨QX, hQX⟩ : ∃ QX : Option mi_V → mi_M → Prop, QX = (fun r m' => r = none ∧ m' = a) := ⟨_, rfl⟩
  rw [← hQX]
  unfold f_X12_copies at h
  refine x_iconst (pc := 0) dX12_copies_0 (v := (0 : Int32)) (by decide) ?_
  refine x_istore (ls' := [(4, _), (0, _), (1, _), (2, _), (3, _)]) (pc := 1) dX12_copies_1 rfl rfl ?_
  have k3_0 : ∀ (m1 : mi_M), wo (f_X12_copies_K3 m1) Q0 → mi_X mX12_copies (1) 33 [] [] m1 QX := by
    intro m1 h
    unfold f_X12_copies_K3 at h
    try dsimp only at h
    exact x_ret (pc := 33) dX12_copies_33 rfl (by rw [hQX]; exact ⟨rfl, hq0 _ (wo_some h)⟩)
  refine x_sub [(0, _), (1, _), (2, _), (3, _), (4, _)] ⟨rfl, rfl, rfl, rfl, rfl, trivial⟩ ?_
  obtain ⟨ea, eb, h⟩ := wo_bo h
  refine wo_lq (X := fun s => match s with | (l2, m3) => mi_X mX12_copies (1) 3 [(0, vr 12 0), (1, vi p0), (2, vi p1), (3, vi p2), (4, vi l2)] [] m3 QX) (E := fun e => wo (f_X12_copies_K3 e) Q0) ?_ _ ((0 : Int32), mem) ⟨_, eb, h⟩
  intro Q3 hb3 he3 s h
  obtain ⟨l2, m3⟩ := s
  show mi_X mX12_copies (1) 3 [(0, vr 12 0), (1, vi p0), (2, vi p1), (3, vi p2), (4, vi l2)] [] m3 QX
  unfold f_X12_copies_B3 at h
  try dsimp only at h
  refine x_iload (pc := 3) dX12_copies_3 rfl ?_
  refine x_iload_n (pc := 5) dX12_copies_5 rfl ?_
  refine x_icmp_ge (pc := 6) dX12_copies_6 (tgt := 33) (by decide) (fun c7 => ?_) (fun c7 => ?_)
  · replace h := wo_pos c7 h
    refine x_sub [] trivial ?_
    exact k3_0 _ (he3 m3 (wo_some h))
  · replace h := wo_neg c7 h
    refine x_aload_n (pc := 9) dX12_copies_9 rfl ?_
    refine x_getS (pc := 10) dX12_copies_10 fX12_113 rfl (by decide) ?_
    refine x_iload_n (pc := 13) dX12_copies_13 rfl ?_
    refine x_iload (pc := 14) dX12_copies_14 rfl ?_
    refine x_iadd (pc := 16) dX12_copies_16 ?_
    refine x_aload_n (pc := 17) dX12_copies_17 rfl ?_
    refine x_getS (pc := 18) dX12_copies_18 fX12_113 rfl (by decide) ?_
    refine x_iload_n (pc := 21) dX12_copies_21 rfl ?_
    refine x_iload (pc := 22) dX12_copies_22 rfl ?_
    refine x_iadd (pc := 24) dX12_copies_24 ?_
    obtain ⟨hx4, h⟩ := wo_g h
    refine x_ialdJ (pc := 25) dX12_copies_25 rfl rfl (by decide) hx4 ?_
    obtain ⟨hx5, h⟩ := wo_g h
    refine x_iastJ (pc := 26) dX12_copies_26 rfl rfl (by decide) rfl hx5 ?_
    refine x_letm h (fun m6 h => ?_)
    refine x_iinc (ls' := [(4, _), (0, _), (1, _), (2, _), (3, _)]) (pc := 27) dX12_copies_27 rfl (v := l2 + (1 : Int32)) rfl rfl rfl ?_
    refine x_goto (pc := 30) dX12_copies_30 (tgt := 3) (by decide) ?_
    refine x_sub [(0, _), (1, _), (2, _), (3, _), (4, _)] ⟨rfl, rfl, rfl, rfl, rfl, trivial⟩ ?_
    exact hb3 ((l2 + (1 : Int32)), m6) (wo_some h)
noncomputable def f_X12_keeps_J53 (m1 : mi_M) : Option (mi_M) := mi_bo (f_X12_copies (0 : Int32) ((63 : Int32) * ((5 : Int32) + (m1.1 12 0 22))) (38 : Int32) m1) fun m2 => mi_let (mi_wI m2 12 0 22 ((m2.1 12 0 22) + (1 : Int32))) fun m3 => some m3
noncomputable def f_X12_keeps_B11 : (Int32 × mi_M) → Option ((Int32 × mi_M) ⊕ (mi_M)) := fun s => match s with | (l6, m7) => if (16 : Int32) ≤ l6 then some (.inr m7) else mi_bo (f_X12_copies ((63 : Int32) * ((5 : Int32) + l6)) ((63 : Int32) * (((5 : Int32) + l6) - (1 : Int32))) (38 : Int32) m7) fun m8 => some (.inl ((l6 + (1 : Int32)), m8))
noncomputable def f_X12_keeps_K11 : mi_M → Option (mi_M) := fun m4 => mi_let (mi_wI m4 12 0 22 ((m4.1 12 0 22) - (1 : Int32))) fun m5 => f_X12_keeps_J53 m5
noncomputable def f_X12_keeps (mem : mi_M) : Option (mi_M) := if (mem.1 12 0 22) = (16 : Int32) then mi_bo (mi_lp (f_X12_keeps_B11) mi_fu ((1 : Int32), mem)) (f_X12_keeps_K11) else f_X12_keeps_J53 mem
set_option maxRecDepth 100000 in
set_option maxHeartbeats 4000000 in
theorem w_X12_keeps (mem : mi_M) (a : mi_M) (e : f_X12_keeps  mem = some a) : mi_Cv (2) mX12_keeps [vr 12 0] mem (fun m' => m' = a) := by
  unfold mi_Cv
  refine mi_C_intro (ls := [(0, vr 12 0)]) (by decide) rfl rfl ?_
  obtain ⟨Q0, hq0, h⟩ : ∃ Q0 : mi_M → Prop, (∀ b, Q0 b → b = a) ∧ wo (f_X12_keeps  mem) Q0 := ⟨fun b => b = a, fun _ h => h, wo_eq e⟩
  obtain ⟨QX, hQX⟩ : ∃ QX : Option mi_V → mi_M → Prop, QX = (fun r m' => r = none ∧ m' = a) := ⟨_, rfl⟩
  rw [← hQX]
  unfold f_X12_keeps at h
  refine x_aload_n (pc := 0) dX12_keeps_0 rfl ?_
  refine x_getI (pc := 1) dX12_keeps_1 fX12_306 rfl (by decide) ?_
  refine x_bipush (pc := 4) dX12_keeps_4 (v := (16 : Int32)) (by decide) ?_
  have j53 : ∀ (m1 : mi_M), wo (f_X12_keeps_J53 m1) Q0 → mi_X mX12_keeps (2) 53 [(0, vr 12 0)] [] m1 QX := by
    intro m1 h
    unfold f_X12_keeps_J53 at h
    refine x_aload_n (pc := 53) dX12_keeps_53 rfl ?_
    refine x_iconst (pc := 54) dX12_keeps_54 (v := (0 : Int32)) (by decide) ?_
    refine x_bipush (pc := 55) dX12_keeps_55 (v := (63 : Int32)) (by decide) ?_
    refine x_iconst (pc := 57) dX12_keeps_57 (v := (5 : Int32)) (by decide) ?_
    refine x_aload_n (pc := 58) dX12_keeps_58 rfl ?_
    refine x_getI (pc := 59) dX12_keeps_59 fX12_306 rfl (by decide) ?_
    refine x_iadd (pc := 62) dX12_keeps_62 ?_
    refine x_imul (pc := 63) dX12_keeps_63 ?_
    refine x_bipush (pc := 64) dX12_keeps_64 (v := (38 : Int32)) (by decide) ?_
    refine y_Vv3 (pc := 66) h dX12_keeps_66 lX12_309 (by decide) (by omega) rfl (fun a e => w_X12_copies _ _ _ _ a e) (fun m2 h => ?_)
    refine x_aload_n (pc := 69) dX12_keeps_69 rfl ?_
    refine x_dup (pc := 70) dX12_keeps_70 rfl ?_
    refine x_getI (pc := 71) dX12_keeps_71 fX12_306 rfl (by decide) ?_
    refine x_iconst (pc := 74) dX12_keeps_74 (v := (1 : Int32)) (by decide) ?_
    refine x_iadd (pc := 75) dX12_keeps_75 ?_
    refine x_putI (pc := 76) dX12_keeps_76 fX12_306 rfl (by decide) rfl rfl ?_
    refine x_letm h (fun m3 h => ?_)
    exact x_ret (pc := 79) dX12_keeps_79 rfl (by rw [hQX]; exact ⟨rfl, hq0 _ (wo_some h)⟩)
  refine x_icmp_ne (pc := 6) dX12_keeps_6 (tgt := 53) (by decide) (fun c10 => ?_) (fun c10 => ?_)
  · replace h := wo_neg c10 h
    refine x_sub [(0, _)] ⟨rfl, trivial⟩ ?_
    exact j53 _ h
  · replace h := wo_pos c10 h
    refine x_iconst (pc := 9) dX12_keeps_9 (v := (1 : Int32)) (by decide) ?_
    refine x_istore_n (ls' := [(1, _), (0, _)]) (pc := 10) dX12_keeps_10 rfl rfl rfl ?_
    have k11_0 : ∀ (m4 : mi_M), wo (f_X12_keeps_K11 m4) Q0 → mi_X mX12_keeps (2) 43 [(0, vr 12 0)] [] m4 QX := by
      intro m4 h
      unfold f_X12_keeps_K11 at h
      try dsimp only at h
      refine x_aload_n (pc := 43) dX12_keeps_43 rfl ?_
      refine x_dup (pc := 44) dX12_keeps_44 rfl ?_
      refine x_getI (pc := 45) dX12_keeps_45 fX12_306 rfl (by decide) ?_
      refine x_iconst (pc := 48) dX12_keeps_48 (v := (1 : Int32)) (by decide) ?_
      refine x_isub (pc := 49) dX12_keeps_49 ?_
      refine x_putI (pc := 50) dX12_keeps_50 fX12_306 rfl (by decide) rfl rfl ?_
      refine x_letm h (fun m5 h => ?_)
      refine x_sub [(0, _)] ⟨rfl, trivial⟩ ?_
      exact j53 _ h
    refine x_sub [(0, _), (1, _)] ⟨rfl, rfl, trivial⟩ ?_
    obtain ⟨ea, eb, h⟩ := wo_bo h
    refine wo_lq (X := fun s => match s with | (l6, m7) => mi_X mX12_keeps (2) 11 [(0, vr 12 0), (1, vi l6)] [] m7 QX) (E := fun e => wo (f_X12_keeps_K11 e) Q0) ?_ _ ((1 : Int32), mem) ⟨_, eb, h⟩
    intro Q11 hb11 he11 s h
    obtain ⟨l6, m7⟩ := s
    show mi_X mX12_keeps (2) 11 [(0, vr 12 0), (1, vi l6)] [] m7 QX
    unfold f_X12_keeps_B11 at h
    try dsimp only at h
    refine x_iload_n (pc := 11) dX12_keeps_11 rfl ?_
    refine x_bipush (pc := 12) dX12_keeps_12 (v := (16 : Int32)) (by decide) ?_
    refine x_icmp_ge (pc := 14) dX12_keeps_14 (tgt := 43) (by decide) (fun c9 => ?_) (fun c9 => ?_)
    · replace h := wo_pos c9 h
      refine x_sub [(0, _)] ⟨rfl, trivial⟩ ?_
      exact k11_0 _ (he11 m7 (wo_some h))
    · replace h := wo_neg c9 h
      refine x_aload_n (pc := 17) dX12_keeps_17 rfl ?_
      refine x_bipush (pc := 18) dX12_keeps_18 (v := (63 : Int32)) (by decide) ?_
      refine x_iconst (pc := 20) dX12_keeps_20 (v := (5 : Int32)) (by decide) ?_
      refine x_iload_n (pc := 21) dX12_keeps_21 rfl ?_
      refine x_iadd (pc := 22) dX12_keeps_22 ?_
      refine x_imul (pc := 23) dX12_keeps_23 ?_
      refine x_bipush (pc := 24) dX12_keeps_24 (v := (63 : Int32)) (by decide) ?_
      refine x_iconst (pc := 26) dX12_keeps_26 (v := (5 : Int32)) (by decide) ?_
      refine x_iload_n (pc := 27) dX12_keeps_27 rfl ?_
      refine x_iadd (pc := 28) dX12_keeps_28 ?_
      refine x_iconst (pc := 29) dX12_keeps_29 (v := (1 : Int32)) (by decide) ?_
      refine x_isub (pc := 30) dX12_keeps_30 ?_
      refine x_imul (pc := 31) dX12_keeps_31 ?_
      refine x_bipush (pc := 32) dX12_keeps_32 (v := (38 : Int32)) (by decide) ?_
      refine y_Vv3 (pc := 34) h dX12_keeps_34 lX12_309 (by decide) (by omega) rfl (fun a e => w_X12_copies _ _ _ _ a e) (fun m8 h => ?_)
      refine x_iinc (ls' := [(1, _), (0, _)]) (pc := 37) dX12_keeps_37 rfl (v := l6 + (1 : Int32)) rfl rfl rfl ?_
      refine x_goto (pc := 40) dX12_keeps_40 (tgt := 11) (by decide) ?_
      refine x_sub [(0, _), (1, _)] ⟨rfl, rfl, trivial⟩ ?_
      exact hb11 ((l6 + (1 : Int32)), m8) (wo_some h)
noncomputable def f_X12_ask_J34 (m5 : mi_M) (u6 : Int32) : Option (Int32 × mi_M) := some (u6, m5)
noncomputable def f_X12_ask (p0 : Int32) (mem : mi_M) : Option (Int32 × mi_M) := mi_let (mi_wI mem 12 0 0 (0 : Int32)) fun m1 => mi_bo (f_X12_isOpen (0 : Int32) p0 m1) fun v2 => if v2 = 0 then some ((-1 : Int32), m1) else mi_bo (f_X12_keeps m1) fun m3 => mi_b (f_X12_asks (0 : Int32) p0 m3) fun v4 m5 => if v4 = 0 then f_X12_ask_J34 m5 (0 : Int32) else f_X12_ask_J34 m5 (1 : Int32)
set_option maxRecDepth 100000 in
set_option maxHeartbeats 4000000 in
theorem w_X12_ask (p0 : Int32) (mem : mi_M) (a : Int32 × mi_M) (e : f_X12_ask p0 mem = some a) : mi_Ci (6) mX12_ask [vr 12 0, vi p0] mem (fun x m' => x = a.1 ∧ m' = a.2) := by
  unfold mi_Ci
  refine mi_C_intro (ls := [(0, vr 12 0), (1, vi p0)]) (by decide) rfl rfl ?_
  obtain ⟨Q0, hq0, h⟩ : ∃ Q0 : (Int32 × mi_M) → Prop, (∀ b, Q0 b → b = a) ∧ wo (f_X12_ask p0 mem) Q0 := ⟨fun b => b = a, fun _ h => h, wo_eq e⟩
  obtain ⟨QX, hQX⟩ : ∃ QX : Option mi_V → mi_M → Prop, QX = (fun r m' => ∃ x, r = some (vi x) ∧ x = a.1 ∧ m' = a.2) := ⟨_, rfl⟩
  rw [← hQX]
  unfold f_X12_ask at h
  refine x_aload_n (pc := 0) dX12_ask_0 rfl ?_
  refine x_iconst (pc := 1) dX12_ask_1 (v := (0 : Int32)) (by decide) ?_
  refine x_putI (pc := 2) dX12_ask_2 fX12_1 rfl (by decide) rfl rfl ?_
  refine x_letm h (fun m1 h => ?_)
  refine x_aload_n (pc := 5) dX12_ask_5 rfl ?_
  refine x_iconst (pc := 6) dX12_ask_6 (v := (0 : Int32)) (by decide) ?_
  refine x_iload_n (pc := 7) dX12_ask_7 rfl ?_
  refine z_Vi2 (pc := 8) h dX12_ask_8 lX12_319 (by decide) (by omega) rfl (fun a e => w_X12_isOpen _ _ _ a e) (fun v2 h => ?_)
  refine x_if_ne (pc := 11) dX12_ask_11 (tgt := 16) (by decide) (fun c8 => ?_) (fun c8 => ?_)
  · replace h := wo_neg c8 h
    refine x_aload_n (pc := 16) dX12_ask_16 rfl ?_
    refine y_Vv0 (pc := 17) h dX12_ask_17 lX12_371 (by decide) (by omega) rfl (fun a e => w_X12_keeps _ a e) (fun m3 h => ?_)
    refine x_aload_n (pc := 20) dX12_ask_20 rfl ?_
    refine x_iconst (pc := 21) dX12_ask_21 (v := (0 : Int32)) (by decide) ?_
    refine x_iload_n (pc := 22) dX12_ask_22 rfl ?_
    refine y_Vi2 (pc := 23) h dX12_ask_23 lX12_383 (by decide) (by omega) rfl (fun a e => w_X12_asks _ _ _ a e) (fun v4 m5 h => ?_)
    have j34 : ∀ (u6 : Int32), wo (f_X12_ask_J34 m5 u6) Q0 → mi_X mX12_ask (6) 34 [] [vi u6] m5 QX := by
      intro u6 h
      unfold f_X12_ask_J34 at h
      exact x_iret (pc := 34) dX12_ask_34 rfl (by rw [hQX]; exact ⟨_, rfl, congrArg Prod.fst (hq0 _ (wo_some h)), congrArg Prod.snd (hq0 _ (wo_some h))⟩)
    refine x_if_eq (pc := 26) dX12_ask_26 (tgt := 33) (by decide) (fun c7 => ?_) (fun c7 => ?_)
    · replace h := wo_pos c7 h
      refine x_iconst (pc := 33) dX12_ask_33 (v := (0 : Int32)) (by decide) ?_
      refine x_sub [] trivial ?_
      exact j34 _ h
    · replace h := wo_neg c7 h
      refine x_iconst (pc := 29) dX12_ask_29 (v := (1 : Int32)) (by decide) ?_
      refine x_goto (pc := 30) dX12_ask_30 (tgt := 34) (by decide) ?_
      refine x_sub [] trivial ?_
      exact j34 _ h
  · replace h := wo_pos c8 h
    refine x_iconst (pc := 14) dX12_ask_14 (v := (-1 : Int32)) (by decide) ?_
    exact x_iret (pc := 15) dX12_ask_15 rfl (by rw [hQX]; exact ⟨_, rfl, congrArg Prod.fst (hq0 _ (wo_some h)), congrArg Prod.snd (hq0 _ (wo_some h))⟩)
noncomputable def f_X12_starts_B65 (p0 : Int32) : (Int32 × mi_M) → Option ((Int32 × mi_M) ⊕ (mi_M)) := fun s => match s with | (l4, m5) => mi_bo (f_X12_wrongs m5) fun v6 => if v6 ≤ l4 then some (.inr m5) else mi_bo (f_X12_wrongOf l4 (2 : Int32) m5) fun v7 => mi_g (vp_in ((p0 + (14 : Int32)) + l4) 1449) (mi_let (mi_wI m5 64 0 ((p0 + (14 : Int32)) + l4).toNatClampNeg ((3 : Int32) * v7)) fun m9 => some (.inl ((l4 + (1 : Int32)), m9)))
noncomputable def f_X12_starts_K65 : mi_M → Option (mi_M) := fun m3 => some m3
noncomputable def f_X12_starts_B25 (p0 : Int32) : (Int32 × mi_M) → Option ((Int32 × mi_M) ⊕ (mi_M)) := fun s => match s with | (l11, m12) => mi_bo (f_X12_people m12) fun v13 => if v13 ≤ l11 then some (.inr m12) else mi_g (vp_in (((9 : Int32) + ((2 : Int32) * l11)) + (1 : Int32)) 200) (mi_g (vp_in ((p0 + (8 : Int32)) + l11) 1449) (mi_let (mi_wI m12 64 0 ((p0 + (8 : Int32)) + l11).toNatClampNeg (m12.1 56 0 (((9 : Int32) + ((2 : Int32) * l11)) + (1 : Int32)).toNatClampNeg)) fun m16 => some (.inl ((l11 + (1 : Int32)), m16))))
noncomputable def f_X12_starts_K25 (p0 : Int32) : mi_M → Option (mi_M) := fun m2 => mi_bo (mi_lp (f_X12_starts_B65 p0) mi_fu ((0 : Int32), m2)) (f_X12_starts_K65)
noncomputable def f_X12_starts_B2 (p0 : Int32) : (Int32 × mi_M) → Option ((Int32 × mi_M) ⊕ (mi_M)) := fun s => match s with | (l18, m19) => if (38 : Int32) ≤ l18 then some (.inr m19) else mi_g (vp_in (p0 + l18) 1449) (mi_let (mi_wI m19 64 0 (p0 + l18).toNatClampNeg (0 : Int32)) fun m21 => some (.inl ((l18 + (1 : Int32)), m21)))
noncomputable def f_X12_starts_K2 (p0 : Int32) : mi_M → Option (mi_M) := fun m1 => mi_bo (mi_lp (f_X12_starts_B25 p0) mi_fu ((0 : Int32), m1)) (f_X12_starts_K25 p0)
noncomputable def f_X12_starts (p0 : Int32) (mem : mi_M) : Option (mi_M) := mi_bo (mi_lp (f_X12_starts_B2 p0) mi_fu ((0 : Int32), mem)) (f_X12_starts_K2 p0)
set_option maxRecDepth 100000 in
set_option maxHeartbeats 4000000 in
theorem w_X12_starts (p0 : Int32) (mem : mi_M) (a : mi_M) (e : f_X12_starts p0 mem = some a) : mi_Cv (2) mX12_starts [vr 12 0, vi p0] mem (fun m' => m' = a) := by
  unfold mi_Cv
  refine mi_C_intro (ls := [(0, vr 12 0), (1, vi p0)]) (by decide) rfl rfl ?_
  obtain ⟨Q0, hq0, h⟩ : ∃ Q0 : mi_M → Prop, (∀ b, Q0 b → b = a) ∧ wo (f_X12_starts p0 mem) Q0 := ⟨fun b => b = a, fun _ h => h, wo_eq e⟩
  obtain ⟨QX, hQX⟩ : ∃ QX : Option mi_V → mi_M → Prop, QX = (fun r m' => r = none ∧ m' = a) := ⟨_, rfl⟩
  rw [← hQX]
  unfold f_X12_starts at h
  refine x_iconst (pc := 0) dX12_starts_0 (v := (0 : Int32)) (by decide) ?_
  refine x_istore_n (ls' := [(2, _), (0, _), (1, _)]) (pc := 1) dX12_starts_1 rfl rfl rfl ?_
  have k2_0 : ∀ (m1 : mi_M), wo (f_X12_starts_K2 p0 m1) Q0 → mi_X mX12_starts (2) 23 [(0, vr 12 0), (1, vi p0)] [] m1 QX := by
    intro m1 h
    unfold f_X12_starts_K2 at h
    try dsimp only at h
    refine x_iconst (pc := 23) dX12_starts_23 (v := (0 : Int32)) (by decide) ?_
    refine x_istore_n (ls' := [(2, _), (0, _), (1, _)]) (pc := 24) dX12_starts_24 rfl rfl rfl ?_
    have k25_0 : ∀ (m2 : mi_M), wo (f_X12_starts_K25 p0 m2) Q0 → mi_X mX12_starts (2) 63 [(0, vr 12 0), (1, vi p0)] [] m2 QX := by
      intro m2 h
      unfold f_X12_starts_K25 at h
      try dsimp only at h
      refine x_iconst (pc := 63) dX12_starts_63 (v := (0 : Int32)) (by decide) ?_
      refine x_istore_n (ls' := [(2, _), (0, _), (1, _)]) (pc := 64) dX12_starts_64 rfl rfl rfl ?_
      have k65_0 : ∀ (m3 : mi_M), wo (f_X12_starts_K65 m3) Q0 → mi_X mX12_starts (2) 98 [] [] m3 QX := by
        intro m3 h
        unfold f_X12_starts_K65 at h
        try dsimp only at h
        exact x_ret (pc := 98) dX12_starts_98 rfl (by rw [hQX]; exact ⟨rfl, hq0 _ (wo_some h)⟩)
      refine x_sub [(0, _), (1, _), (2, _)] ⟨rfl, rfl, rfl, trivial⟩ ?_
      obtain ⟨ea, eb, h⟩ := wo_bo h
      refine wo_lq (X := fun s => match s with | (l4, m5) => mi_X mX12_starts (2) 65 [(0, vr 12 0), (1, vi p0), (2, vi l4)] [] m5 QX) (E := fun e => wo (f_X12_starts_K65 e) Q0) ?_ _ ((0 : Int32), m2) ⟨_, eb, h⟩
      intro Q65 hb65 he65 s h
      obtain ⟨l4, m5⟩ := s
      show mi_X mX12_starts (2) 65 [(0, vr 12 0), (1, vi p0), (2, vi l4)] [] m5 QX
      unfold f_X12_starts_B65 at h
      try dsimp only at h
      refine x_iload_n (pc := 65) dX12_starts_65 rfl ?_
      refine x_aload_n (pc := 66) dX12_starts_66 rfl ?_
      refine z_Vi0 (pc := 67) h dX12_starts_67 lX12_273 (by decide) (by omega) rfl (fun a e => w_X12_wrongs _ a e) (fun v6 h => ?_)
      refine x_icmp_ge (pc := 70) dX12_starts_70 (tgt := 98) (by decide) (fun c10 => ?_) (fun c10 => ?_)
      · replace h := wo_pos c10 h
        refine x_sub [] trivial ?_
        exact k65_0 _ (he65 m5 (wo_some h))
      · replace h := wo_neg c10 h
        refine x_aload_n (pc := 73) dX12_starts_73 rfl ?_
        refine x_getS (pc := 74) dX12_starts_74 fX12_113 rfl (by decide) ?_
        refine x_iload_n (pc := 77) dX12_starts_77 rfl ?_
        refine x_bipush (pc := 78) dX12_starts_78 (v := (14 : Int32)) (by decide) ?_
        refine x_iadd (pc := 80) dX12_starts_80 ?_
        refine x_iload_n (pc := 81) dX12_starts_81 rfl ?_
        refine x_iadd (pc := 82) dX12_starts_82 ?_
        refine x_iconst (pc := 83) dX12_starts_83 (v := (3 : Int32)) (by decide) ?_
        refine x_aload_n (pc := 84) dX12_starts_84 rfl ?_
        refine x_iload_n (pc := 85) dX12_starts_85 rfl ?_
        refine x_iconst (pc := 86) dX12_starts_86 (v := (2 : Int32)) (by decide) ?_
        refine z_Vi2 (pc := 87) h dX12_starts_87 lX12_297 (by decide) (by omega) rfl (fun a e => w_X12_wrongOf _ _ _ a e) (fun v7 h => ?_)
        refine x_imul (pc := 90) dX12_starts_90 ?_
        obtain ⟨hx8, h⟩ := wo_g h
        refine x_iastJ (pc := 91) dX12_starts_91 rfl rfl (by decide) rfl hx8 ?_
        refine x_letm h (fun m9 h => ?_)
        refine x_iinc (ls' := [(2, _), (0, _), (1, _)]) (pc := 92) dX12_starts_92 rfl (v := l4 + (1 : Int32)) rfl rfl rfl ?_
        refine x_goto (pc := 95) dX12_starts_95 (tgt := 65) (by decide) ?_
        refine x_sub [(0, _), (1, _), (2, _)] ⟨rfl, rfl, rfl, trivial⟩ ?_
        exact hb65 ((l4 + (1 : Int32)), m9) (wo_some h)
    refine x_sub [(0, _), (1, _), (2, _)] ⟨rfl, rfl, rfl, trivial⟩ ?_
    obtain ⟨ea, eb, h⟩ := wo_bo h
    refine wo_lq (X := fun s => match s with | (l11, m12) => mi_X mX12_starts (2) 25 [(0, vr 12 0), (1, vi p0), (2, vi l11)] [] m12 QX) (E := fun e => wo (f_X12_starts_K25 p0 e) Q0) ?_ _ ((0 : Int32), m1) ⟨_, eb, h⟩
    intro Q25 hb25 he25 s h
    obtain ⟨l11, m12⟩ := s
    show mi_X mX12_starts (2) 25 [(0, vr 12 0), (1, vi p0), (2, vi l11)] [] m12 QX
    unfold f_X12_starts_B25 at h
    try dsimp only at h
    refine x_iload_n (pc := 25) dX12_starts_25 rfl ?_
    refine x_aload_n (pc := 26) dX12_starts_26 rfl ?_
    refine z_Vi0 (pc := 27) h dX12_starts_27 lX12_294 (by decide) (by omega) rfl (fun a e => w_X12_people _ a e) (fun v13 h => ?_)
    refine x_icmp_ge (pc := 30) dX12_starts_30 (tgt := 63) (by decide) (fun c17 => ?_) (fun c17 => ?_)
    · replace h := wo_pos c17 h
      refine x_sub [(0, _), (1, _)] ⟨rfl, rfl, trivial⟩ ?_
      exact k25_0 _ (he25 m12 (wo_some h))
    · replace h := wo_neg c17 h
      refine x_aload_n (pc := 33) dX12_starts_33 rfl ?_
      refine x_getS (pc := 34) dX12_starts_34 fX12_113 rfl (by decide) ?_
      refine x_iload_n (pc := 37) dX12_starts_37 rfl ?_
      refine x_bipush (pc := 38) dX12_starts_38 (v := (8 : Int32)) (by decide) ?_
      refine x_iadd (pc := 40) dX12_starts_40 ?_
      refine x_iload_n (pc := 41) dX12_starts_41 rfl ?_
      refine x_iadd (pc := 42) dX12_starts_42 ?_
      refine x_aload_n (pc := 43) dX12_starts_43 rfl ?_
      refine x_getS (pc := 44) dX12_starts_44 fX12_89 rfl (by decide) ?_
      refine x_bipush (pc := 47) dX12_starts_47 (v := (9 : Int32)) (by decide) ?_
      refine x_iconst (pc := 49) dX12_starts_49 (v := (2 : Int32)) (by decide) ?_
      refine x_iload_n (pc := 50) dX12_starts_50 rfl ?_
      refine x_imul (pc := 51) dX12_starts_51 ?_
      refine x_iadd (pc := 52) dX12_starts_52 ?_
      refine x_iconst (pc := 53) dX12_starts_53 (v := (1 : Int32)) (by decide) ?_
      refine x_iadd (pc := 54) dX12_starts_54 ?_
      obtain ⟨hx14, h⟩ := wo_g h
      refine x_ialdJ (pc := 55) dX12_starts_55 rfl rfl (by decide) hx14 ?_
      obtain ⟨hx15, h⟩ := wo_g h
      refine x_iastJ (pc := 56) dX12_starts_56 rfl rfl (by decide) rfl hx15 ?_
      refine x_letm h (fun m16 h => ?_)
      refine x_iinc (ls' := [(2, _), (0, _), (1, _)]) (pc := 57) dX12_starts_57 rfl (v := l11 + (1 : Int32)) rfl rfl rfl ?_
      refine x_goto (pc := 60) dX12_starts_60 (tgt := 25) (by decide) ?_
      refine x_sub [(0, _), (1, _), (2, _)] ⟨rfl, rfl, rfl, trivial⟩ ?_
      exact hb25 ((l11 + (1 : Int32)), m16) (wo_some h)
  refine x_sub [(0, _), (1, _), (2, _)] ⟨rfl, rfl, rfl, trivial⟩ ?_
  obtain ⟨ea, eb, h⟩ := wo_bo h
  refine wo_lq (X := fun s => match s with | (l18, m19) => mi_X mX12_starts (2) 2 [(0, vr 12 0), (1, vi p0), (2, vi l18)] [] m19 QX) (E := fun e => wo (f_X12_starts_K2 p0 e) Q0) ?_ _ ((0 : Int32), mem) ⟨_, eb, h⟩
  intro Q2 hb2 he2 s h
  obtain ⟨l18, m19⟩ := s
  show mi_X mX12_starts (2) 2 [(0, vr 12 0), (1, vi p0), (2, vi l18)] [] m19 QX
  unfold f_X12_starts_B2 at h
  try dsimp only at h
  refine x_iload_n (pc := 2) dX12_starts_2 rfl ?_
  refine x_bipush (pc := 3) dX12_starts_3 (v := (38 : Int32)) (by decide) ?_
  refine x_icmp_ge (pc := 5) dX12_starts_5 (tgt := 23) (by decide) (fun c22 => ?_) (fun c22 => ?_)
  · replace h := wo_pos c22 h
    refine x_sub [(0, _), (1, _)] ⟨rfl, rfl, trivial⟩ ?_
    exact k2_0 _ (he2 m19 (wo_some h))
  · replace h := wo_neg c22 h
    refine x_aload_n (pc := 8) dX12_starts_8 rfl ?_
    refine x_getS (pc := 9) dX12_starts_9 fX12_113 rfl (by decide) ?_
    refine x_iload_n (pc := 12) dX12_starts_12 rfl ?_
    refine x_iload_n (pc := 13) dX12_starts_13 rfl ?_
    refine x_iadd (pc := 14) dX12_starts_14 ?_
    refine x_iconst (pc := 15) dX12_starts_15 (v := (0 : Int32)) (by decide) ?_
    obtain ⟨hx20, h⟩ := wo_g h
    refine x_iastJ (pc := 16) dX12_starts_16 rfl rfl (by decide) rfl hx20 ?_
    refine x_letm h (fun m21 h => ?_)
    refine x_iinc (ls' := [(2, _), (0, _), (1, _)]) (pc := 17) dX12_starts_17 rfl (v := l18 + (1 : Int32)) rfl rfl rfl ?_
    refine x_goto (pc := 20) dX12_starts_20 (tgt := 2) (by decide) ?_
    refine x_sub [(0, _), (1, _), (2, _)] ⟨rfl, rfl, rfl, trivial⟩ ?_
    exact hb2 ((l18 + (1 : Int32)), m21) (wo_some h)
noncomputable def f_X12_begins_B32 : (Int32 × mi_M) → Option ((Int32 × mi_M) ⊕ (mi_M)) := fun s => match s with | (l9, m10) => if (4 : Int32) ≤ l9 then some (.inr m10) else mi_g (vp_in l9 4) (mi_let (mi_wI m10 65 0 l9.toNatClampNeg (vp_nar .boolean (0 : Int32))) fun m12 => some (.inl ((l9 + (1 : Int32)), m12)))
noncomputable def f_X12_begins_K32 : mi_M → Option (mi_M) := fun m8 => some m8
noncomputable def f_X12_begins (mem : mi_M) : Option (mi_M) := mi_let (mi_wI mem 12 0 24 (0 : Int32)) fun m1 => mi_bo (f_X12_starts (0 : Int32) m1) fun m2 => mi_g (vp_in (38 : Int32) 1449) (mi_let (mi_wI m2 64 0 (38 : Int32).toNatClampNeg (0 : Int32)) fun m4 => mi_g (vp_in (0 : Int32) 200) (mi_let (mi_wI m4 61 0 (0 : Int32).toNatClampNeg (0 : Int32)) fun m6 => mi_let (mi_wI m6 12 0 22 (0 : Int32)) fun m7 => mi_bo (mi_lp (f_X12_begins_B32) mi_fu ((0 : Int32), m7)) (f_X12_begins_K32)))
set_option maxRecDepth 100000 in
set_option maxHeartbeats 4000000 in
theorem w_X12_begins (mem : mi_M) (a : mi_M) (e : f_X12_begins  mem = some a) : mi_Cv (3) mX12_begins [vr 12 0] mem (fun m' => m' = a) := by
  unfold mi_Cv
  refine mi_C_intro (ls := [(0, vr 12 0)]) (by decide) rfl rfl ?_
  obtain ⟨Q0, hq0, h⟩ : ∃ Q0 : mi_M → Prop, (∀ b, Q0 b → b = a) ∧ wo (f_X12_begins  mem) Q0 := ⟨fun b => b = a, fun _ h => h, wo_eq e⟩
  obtain ⟨QX, hQX⟩ : ∃ QX : Option mi_V → mi_M → Prop, QX = (fun r m' => r = none ∧ m' = a) := ⟨_, rfl⟩
  rw [← hQX]
  unfold f_X12_begins at h
  refine x_aload_n (pc := 0) dX12_begins_0 rfl ?_
  refine x_iconst (pc := 1) dX12_begins_1 (v := (0 : Int32)) (by decide) ?_
  refine x_putI (pc := 2) dX12_begins_2 fX12_300 rfl (by decide) rfl rfl ?_
  refine x_letm h (fun m1 h => ?_)
  refine x_aload_n (pc := 5) dX12_begins_5 rfl ?_
  refine x_iconst (pc := 6) dX12_begins_6 (v := (0 : Int32)) (by decide) ?_
  refine y_Vv1 (pc := 7) h dX12_begins_7 lX12_303 (by decide) (by omega) rfl (fun a e => w_X12_starts _ _ a e) (fun m2 h => ?_)
  refine x_aload_n (pc := 10) dX12_begins_10 rfl ?_
  refine x_getS (pc := 11) dX12_begins_11 fX12_113 rfl (by decide) ?_
  refine x_bipush (pc := 14) dX12_begins_14 (v := (38 : Int32)) (by decide) ?_
  refine x_iconst (pc := 16) dX12_begins_16 (v := (0 : Int32)) (by decide) ?_
  obtain ⟨hx3, h⟩ := wo_g h
  refine x_iastJ (pc := 17) dX12_begins_17 rfl rfl (by decide) rfl hx3 ?_
  refine x_letm h (fun m4 h => ?_)
  refine x_aload_n (pc := 18) dX12_begins_18 rfl ?_
  refine x_getS (pc := 19) dX12_begins_19 fX12_104 rfl (by decide) ?_
  refine x_iconst (pc := 22) dX12_begins_22 (v := (0 : Int32)) (by decide) ?_
  refine x_iconst (pc := 23) dX12_begins_23 (v := (0 : Int32)) (by decide) ?_
  obtain ⟨hx5, h⟩ := wo_g h
  refine x_iastJ (pc := 24) dX12_begins_24 rfl rfl (by decide) rfl hx5 ?_
  refine x_letm h (fun m6 h => ?_)
  refine x_aload_n (pc := 25) dX12_begins_25 rfl ?_
  refine x_iconst (pc := 26) dX12_begins_26 (v := (0 : Int32)) (by decide) ?_
  refine x_putI (pc := 27) dX12_begins_27 fX12_306 rfl (by decide) rfl rfl ?_
  refine x_letm h (fun m7 h => ?_)
  refine x_iconst (pc := 30) dX12_begins_30 (v := (0 : Int32)) (by decide) ?_
  refine x_istore_n (ls' := [(1, _), (0, _)]) (pc := 31) dX12_begins_31 rfl rfl rfl ?_
  have k32_0 : ∀ (m8 : mi_M), wo (f_X12_begins_K32 m8) Q0 → mi_X mX12_begins (3) 50 [] [] m8 QX := by
    intro m8 h
    unfold f_X12_begins_K32 at h
    try dsimp only at h
    exact x_ret (pc := 50) dX12_begins_50 rfl (by rw [hQX]; exact ⟨rfl, hq0 _ (wo_some h)⟩)
  refine x_sub [(0, _), (1, _)] ⟨rfl, rfl, trivial⟩ ?_
  obtain ⟨ea, eb, h⟩ := wo_bo h
  refine wo_lq (X := fun s => match s with | (l9, m10) => mi_X mX12_begins (3) 32 [(0, vr 12 0), (1, vi l9)] [] m10 QX) (E := fun e => wo (f_X12_begins_K32 e) Q0) ?_ _ ((0 : Int32), m7) ⟨_, eb, h⟩
  intro Q32 hb32 he32 s h
  obtain ⟨l9, m10⟩ := s
  show mi_X mX12_begins (3) 32 [(0, vr 12 0), (1, vi l9)] [] m10 QX
  unfold f_X12_begins_B32 at h
  try dsimp only at h
  refine x_iload_n (pc := 32) dX12_begins_32 rfl ?_
  refine x_iconst (pc := 33) dX12_begins_33 (v := (4 : Int32)) (by decide) ?_
  refine x_icmp_ge (pc := 34) dX12_begins_34 (tgt := 50) (by decide) (fun c13 => ?_) (fun c13 => ?_)
  · replace h := wo_pos c13 h
    refine x_sub [] trivial ?_
    exact k32_0 _ (he32 m10 (wo_some h))
  · replace h := wo_neg c13 h
    refine x_aload_n (pc := 37) dX12_begins_37 rfl ?_
    refine x_getS (pc := 38) dX12_begins_38 fX12_116 rfl (by decide) ?_
    refine x_iload_n (pc := 41) dX12_begins_41 rfl ?_
    refine x_iconst (pc := 42) dX12_begins_42 (v := (0 : Int32)) (by decide) ?_
    obtain ⟨hx11, h⟩ := wo_g h
    refine x_zastJ (pc := 43) dX12_begins_43 rfl rfl (by decide) rfl hx11 ?_
    refine x_letm h (fun m12 h => ?_)
    refine x_iinc (ls' := [(1, _), (0, _)]) (pc := 44) dX12_begins_44 rfl (v := l9 + (1 : Int32)) rfl rfl rfl ?_
    refine x_goto (pc := 47) dX12_begins_47 (tgt := 32) (by decide) ?_
    refine x_sub [(0, _), (1, _)] ⟨rfl, rfl, trivial⟩ ?_
    exact hb32 ((l9 + (1 : Int32)), m12) (wo_some h)
noncomputable def f_X12_bits_B4 (p0 : Int32) : (Int32 × Int32) → Option ((Int32 × Int32) ⊕ (Int32)) := fun s => match s with | (l2, l3) => if (30 : Int32) ≤ l3 then some (.inr l2) else mi_let (l2 + ((p0 >>> (l3 &&& 31)) &&& (1 : Int32))) fun v4 => some (.inl (v4, (l3 + (1 : Int32))))
noncomputable def f_X12_bits_K4 : Int32 → Option (Int32) := fun e1 => some e1
noncomputable def f_X12_bits (p0 : Int32) (mem : mi_M) : Option (Int32) := mi_bo (mi_lp (f_X12_bits_B4 p0) mi_fu ((0 : Int32), (0 : Int32))) (f_X12_bits_K4)
set_option maxRecDepth 100000 in
set_option maxHeartbeats 4000000 in
theorem w_X12_bits (p0 : Int32) (mem : mi_M) (a : Int32) (e : f_X12_bits p0 mem = some a) : mi_Ci (1) mX12_bits [vi p0] mem (fun x m' => x = a ∧ m' = mem) := by
  unfold mi_Ci
  refine mi_C_intro (ls := [(0, vi p0)]) (by decide) rfl rfl ?_
  obtain ⟨Q0, hq0, h⟩ : ∃ Q0 : Int32 → Prop, (∀ b, Q0 b → b = a) ∧ wo (f_X12_bits p0 mem) Q0 := ⟨fun b => b = a, fun _ h => h, wo_eq e⟩
  obtain ⟨QX, hQX⟩ : ∃ QX : Option mi_V → mi_M → Prop, QX = (fun r m' => ∃ x, r = some (vi x) ∧ x = a ∧ m' = mem) := ⟨_, rfl⟩
  rw [← hQX]
  unfold f_X12_bits at h
  refine x_iconst (pc := 0) dX12_bits_0 (v := (0 : Int32)) (by decide) ?_
  refine x_istore_n (ls' := [(1, _), (0, _)]) (pc := 1) dX12_bits_1 rfl rfl rfl ?_
  refine x_iconst (pc := 2) dX12_bits_2 (v := (0 : Int32)) (by decide) ?_
  refine x_istore_n (ls' := [(2, _), (1, _), (0, _)]) (pc := 3) dX12_bits_3 rfl rfl rfl ?_
  have k4_0 : ∀ (e1 : Int32), wo (f_X12_bits_K4 e1) Q0 → mi_X mX12_bits (1) 24 [(1, vi e1)] [] mem QX := by
    intro e1 h
    unfold f_X12_bits_K4 at h
    try dsimp only at h
    refine x_iload_n (pc := 24) dX12_bits_24 rfl ?_
    exact x_iret (pc := 25) dX12_bits_25 rfl (by rw [hQX]; exact ⟨_, rfl, hq0 _ (wo_some h), rfl⟩)
  refine x_sub [(0, _), (1, _), (2, _)] ⟨rfl, rfl, rfl, trivial⟩ ?_
  obtain ⟨ea, eb, h⟩ := wo_bo h
  refine wo_lq (X := fun s => match s with | (l2, l3) => mi_X mX12_bits (1) 4 [(0, vi p0), (1, vi l2), (2, vi l3)] [] mem QX) (E := fun e => wo (f_X12_bits_K4 e) Q0) ?_ _ ((0 : Int32), (0 : Int32)) ⟨_, eb, h⟩
  intro Q4 hb4 he4 s h
  obtain ⟨l2, l3⟩ := s
  show mi_X mX12_bits (1) 4 [(0, vi p0), (1, vi l2), (2, vi l3)] [] mem QX
  unfold f_X12_bits_B4 at h
  try dsimp only at h
  refine x_iload_n (pc := 4) dX12_bits_4 rfl ?_
  refine x_bipush (pc := 5) dX12_bits_5 (v := (30 : Int32)) (by decide) ?_
  refine x_icmp_ge (pc := 7) dX12_bits_7 (tgt := 24) (by decide) (fun c5 => ?_) (fun c5 => ?_)
  · replace h := wo_pos c5 h
    refine x_sub [(1, _)] ⟨rfl, trivial⟩ ?_
    exact k4_0 _ (he4 l2 (wo_some h))
  · replace h := wo_neg c5 h
    refine x_iload_n (pc := 10) dX12_bits_10 rfl ?_
    refine x_iload_n (pc := 11) dX12_bits_11 rfl ?_
    refine x_iload_n (pc := 12) dX12_bits_12 rfl ?_
    refine x_ishr (pc := 13) dX12_bits_13 ?_
    refine x_iconst (pc := 14) dX12_bits_14 (v := (1 : Int32)) (by decide) ?_
    refine x_iand (pc := 15) dX12_bits_15 ?_
    refine x_iadd (pc := 16) dX12_bits_16 ?_
    refine x_leti h (fun v4 h => ?_)
    refine x_istore_n (ls' := [(1, _), (0, _), (2, _)]) (pc := 17) dX12_bits_17 rfl rfl rfl ?_
    refine x_iinc (ls' := [(2, _), (1, _), (0, _)]) (pc := 18) dX12_bits_18 rfl (v := l3 + (1 : Int32)) rfl rfl rfl ?_
    refine x_goto (pc := 21) dX12_bits_21 (tgt := 4) (by decide) ?_
    refine x_sub [(0, _), (1, _), (2, _)] ⟨rfl, rfl, rfl, trivial⟩ ?_
    exact hb4 (v4, (l3 + (1 : Int32))) (wo_some h)
noncomputable def f_X12_isCircle_J194 (u8 : Int32) : Option (Int32) := mi_g (u8 = 0 ∨ u8 = 1) (some u8)
noncomputable def f_X12_isCircle_J157 (l22 : Int32) (l23 : Int32) (u26 : Int32) (u27 : Int32) : Option ((Int32 × Int32 × Int32) ⊕ (Int32 × Int32)) := mi_let (l22 + u27) fun v28 => some (.inl (u26, v28, (l23 + (1 : Int32))))
noncomputable def f_X12_isCircle_J144 (l22 : Int32) (l23 : Int32) (u25 : Int32) (u26 : Int32) : Option ((Int32 × Int32 × Int32) ⊕ (Int32 × Int32)) := if u25 = 0 then f_X12_isCircle_J157 l22 l23 u26 (0 : Int32) else f_X12_isCircle_J157 l22 l23 u26 (1 : Int32)
noncomputable def f_X12_isCircle_J131 (l21 : Int32) (l22 : Int32) (l23 : Int32) (u25 : Int32) : Option ((Int32 × Int32 × Int32) ⊕ (Int32 × Int32)) := if u25 = 0 then f_X12_isCircle_J144 l22 l23 u25 l21 else f_X12_isCircle_J144 l22 l23 u25 l23
noncomputable def f_X12_isCircle_J130 (l21 : Int32) (l22 : Int32) (l23 : Int32) : Option ((Int32 × Int32 × Int32) ⊕ (Int32 × Int32)) := f_X12_isCircle_J131 l21 l22 l23 (0 : Int32)
noncomputable def f_X12_isCircle_B95 (p0 : Int32) (mem : mi_M) (v16 : Int32) : (Int32 × Int32 × Int32) → Option ((Int32 × Int32 × Int32) ⊕ (Int32 × Int32)) := fun s => match s with | (l21, l22, l23) => mi_bo (f_X12_wrongs mem) fun v24 => if v24 ≤ l23 then some (.inr (l21, l22)) else if ((p0 >>> (l23 &&& 31)) &&& (1 : Int32)) = (1 : Int32) then mi_bo (f_X12_wrongOf l23 (0 : Int32) mem) fun v31 => if v31 = v16 then f_X12_isCircle_J131 l21 l22 l23 (1 : Int32) else f_X12_isCircle_J130 l21 l22 l23 else f_X12_isCircle_J130 l21 l22 l23
noncomputable def f_X12_isCircle_K95 (u4 : Int32) (l13 : Int32) (v15 : Int32) (v16 : Int32) : (Int32 × Int32) → Option ((Int32 × Int32 × Int32) ⊕ (Unit ⊕ Int32 ⊕ Unit)) := fun e => match e with | (e17, e18) => if e18 = (1 : Int32) then if v16 = u4 then some (.inr (.inr (.inl (l13 + (1 : Int32))))) else some (.inl (e17, (l13 + (1 : Int32)), v15)) else some (.inr (.inl ()))
noncomputable def f_X12_isCircle_B55 (p0 : Int32) (mem : mi_M) (u4 : Int32) : (Int32 × Int32 × Int32) → Option ((Int32 × Int32 × Int32) ⊕ (Unit ⊕ Int32 ⊕ Unit)) := fun s => match s with | (l12, l13, l14) => if l12 < 0 then some (.inr (.inr (.inr ()))) else if ((l14 >>> (l12 &&& 31)) &&& (1 : Int32)) = 0 then mi_let (l14 ||| ((1 : Int32) <<< (l12 &&& 31))) fun v15 => mi_bo (f_X12_wrongOf l12 (1 : Int32) mem) fun v16 => mi_bo (mi_lp (f_X12_isCircle_B95 p0 mem v16) mi_fu ((-1 : Int32), (0 : Int32), (0 : Int32))) (f_X12_isCircle_K95 u4 l13 v15 v16) else some (.inr (.inr (.inr ())))
noncomputable def f_X12_isCircle_K55 (p0 : Int32) (mem : mi_M) : (Unit ⊕ Int32 ⊕ Unit) → Option (Int32) := fun e => match e with | (.inl ()) => mi_g ((0 : Int32) = 0 ∨ (0 : Int32) = 1) (some (0 : Int32)) | (.inr (.inl e6)) => mi_bo (f_X12_bits p0 mem) fun v7 => if e6 = v7 then f_X12_isCircle_J194 (1 : Int32) else f_X12_isCircle_J194 (0 : Int32) | (.inr (.inr ())) => mi_g ((0 : Int32) = 0 ∨ (0 : Int32) = 1) (some (0 : Int32))
noncomputable def f_X12_isCircle_J48 (p0 : Int32) (mem : mi_M) (e3 : Int32) (u4 : Int32) : Option (Int32) := mi_bo (mi_lp (f_X12_isCircle_B55 p0 mem u4) mi_fu (e3, (0 : Int32), (0 : Int32))) (f_X12_isCircle_K55 p0 mem)
noncomputable def f_X12_isCircle_J27 (l40 : Int32) (u41 : Int32) : Option ((Int32 × Int32) ⊕ (Int32)) := some (.inl (u41, (l40 + (-1 : Int32))))
noncomputable def f_X12_isCircle_B9 (p0 : Int32) : (Int32 × Int32) → Option ((Int32 × Int32) ⊕ (Int32)) := fun s => match s with | (l39, l40) => if l40 < 0 then some (.inr l39) else if ((p0 >>> (l40 &&& 31)) &&& (1 : Int32)) = (1 : Int32) then f_X12_isCircle_J27 l40 l40 else f_X12_isCircle_J27 l40 l39
noncomputable def f_X12_isCircle_K9 (p0 : Int32) (mem : mi_M) : Int32 → Option (Int32) := fun e3 => if 0 ≤ e3 then mi_bo (f_X12_wrongOf e3 (0 : Int32) mem) fun v37 => f_X12_isCircle_J48 p0 mem e3 v37 else f_X12_isCircle_J48 p0 mem e3 (0 : Int32)
noncomputable def f_X12_isCircle (p0 : Int32) (mem : mi_M) : Option (Int32) := mi_bo (f_X12_wrongs mem) fun v1 => mi_let (v1 - (1 : Int32)) fun v2 => mi_bo (mi_lp (f_X12_isCircle_B9 p0) mi_fu ((-1 : Int32), v2)) (f_X12_isCircle_K9 p0 mem)
set_option maxRecDepth 100000 in
set_option maxHeartbeats 4000000 in
theorem w_X12_isCircle (p0 : Int32) (mem : mi_M) (a : Int32) (e : f_X12_isCircle p0 mem = some a) : mi_Ci (2) mX12_isCircle [vr 12 0, vi p0] mem (fun x m' => x = a ∧ m' = mem) := by
  unfold mi_Ci
  refine mi_C_intro (ls := [(0, vr 12 0), (1, vi p0)]) (by decide) rfl rfl ?_
  obtain ⟨Q0, hq0, h⟩ : ∃ Q0 : Int32 → Prop, (∀ b, Q0 b → b = a) ∧ wo (f_X12_isCircle p0 mem) Q0 := ⟨fun b => b = a, fun _ h => h, wo_eq e⟩
  obtain ⟨QX, hQX⟩ : ∃ QX : Option mi_V → mi_M → Prop, QX = (fun r m' => ∃ x, r = some (vi x) ∧ x = a ∧ m' = mem) := ⟨_, rfl⟩
  rw [← hQX]
  unfold f_X12_isCircle at h
  refine x_iconst (pc := 0) dX12_isCircle_0 (v := (-1 : Int32)) (by decide) ?_
  refine x_istore_n (ls' := [(2, _), (0, _), (1, _)]) (pc := 1) dX12_isCircle_1 rfl rfl rfl ?_
  refine x_aload_n (pc := 2) dX12_isCircle_2 rfl ?_
  refine z_Vi0 (pc := 3) h dX12_isCircle_3 lX12_273 (by decide) (by omega) rfl (fun a e => w_X12_wrongs _ a e) (fun v1 h => ?_)
  refine x_iconst (pc := 6) dX12_isCircle_6 (v := (1 : Int32)) (by decide) ?_
  refine x_isub (pc := 7) dX12_isCircle_7 ?_
  refine x_leti h (fun v2 h => ?_)
  refine x_istore_n (ls' := [(3, _), (2, _), (0, _), (1, _)]) (pc := 8) dX12_isCircle_8 rfl rfl rfl ?_
  have k9_0 : ∀ (e3 : Int32), wo (f_X12_isCircle_K9 p0 mem e3) Q0 → mi_X mX12_isCircle (2) 34 [(0, vr 12 0), (1, vi p0), (2, vi e3)] [] mem QX := by
    intro e3 h
    unfold f_X12_isCircle_K9 at h
    try dsimp only at h
    refine x_iload_n (pc := 34) dX12_isCircle_34 rfl ?_
    have j48 : ∀ (u4 : Int32), wo (f_X12_isCircle_J48 p0 mem e3 u4) Q0 → mi_X mX12_isCircle (2) 48 [(0, vr 12 0), (1, vi p0), (2, vi e3)] [vi u4] mem QX := by
      intro u4 h
      unfold f_X12_isCircle_J48 at h
      refine x_istore_n (ls' := [(3, _), (0, _), (1, _), (2, _)]) (pc := 48) dX12_isCircle_48 rfl rfl rfl ?_
      refine x_iconst (pc := 49) dX12_isCircle_49 (v := (0 : Int32)) (by decide) ?_
      refine x_istore (ls' := [(4, _), (3, _), (0, _), (1, _), (2, _)]) (pc := 50) dX12_isCircle_50 rfl rfl ?_
      refine x_iconst (pc := 52) dX12_isCircle_52 (v := (0 : Int32)) (by decide) ?_
      refine x_istore (ls' := [(5, _), (4, _), (3, _), (0, _), (1, _), (2, _)]) (pc := 53) dX12_isCircle_53 rfl rfl ?_
      have k55_0 : ∀ (_ : Unit), wo (f_X12_isCircle_K55 p0 mem (.inl ())) Q0 → mi_X mX12_isCircle (2) 172 [] [] mem QX := by
        intro _ h
        unfold f_X12_isCircle_K55 at h
        try dsimp only at h
        refine x_iconst (pc := 172) dX12_isCircle_172 (v := (0 : Int32)) (by decide) ?_
        obtain ⟨hb5, h⟩ := wo_g h
        exact x_zretB (pc := 173) dX12_isCircle_173 rfl hb5 (by rw [hQX]; exact ⟨_, rfl, hq0 _ (wo_some h), rfl⟩)
      have k55_1 : ∀ (e6 : Int32), wo (f_X12_isCircle_K55 p0 mem (.inr (.inl e6))) Q0 → mi_X mX12_isCircle (2) 180 [(1, vi p0), (4, vi e6)] [] mem QX := by
        intro e6 h
        unfold f_X12_isCircle_K55 at h
        try dsimp only at h
        refine x_iload (pc := 180) dX12_isCircle_180 rfl ?_
        refine x_iload_n (pc := 182) dX12_isCircle_182 rfl ?_
        refine z_Si1 (pc := 183) h dX12_isCircle_183 lX12_429 (by omega) rfl (fun a e => w_X12_bits _ _ a e) (fun v7 h => ?_)
        have j194 : ∀ (u8 : Int32), wo (f_X12_isCircle_J194 u8) Q0 → mi_X mX12_isCircle (2) 194 [] [vi u8] mem QX := by
          intro u8 h
          unfold f_X12_isCircle_J194 at h
          obtain ⟨hb9, h⟩ := wo_g h
          exact x_zretB (pc := 194) dX12_isCircle_194 rfl hb9 (by rw [hQX]; exact ⟨_, rfl, hq0 _ (wo_some h), rfl⟩)
        refine x_icmp_ne (pc := 186) dX12_isCircle_186 (tgt := 193) (by decide) (fun c10 => ?_) (fun c10 => ?_)
        · replace h := wo_neg c10 h
          refine x_iconst (pc := 193) dX12_isCircle_193 (v := (0 : Int32)) (by decide) ?_
          refine x_sub [] trivial ?_
          exact j194 _ h
        · replace h := wo_pos c10 h
          refine x_iconst (pc := 189) dX12_isCircle_189 (v := (1 : Int32)) (by decide) ?_
          refine x_goto (pc := 190) dX12_isCircle_190 (tgt := 194) (by decide) ?_
          refine x_sub [] trivial ?_
          exact j194 _ h
      have k55_2 : ∀ (_ : Unit), wo (f_X12_isCircle_K55 p0 mem (.inr (.inr ()))) Q0 → mi_X mX12_isCircle (2) 198 [] [] mem QX := by
        intro _ h
        unfold f_X12_isCircle_K55 at h
        try dsimp only at h
        refine x_iconst (pc := 198) dX12_isCircle_198 (v := (0 : Int32)) (by decide) ?_
        obtain ⟨hb11, h⟩ := wo_g h
        exact x_zretB (pc := 199) dX12_isCircle_199 rfl hb11 (by rw [hQX]; exact ⟨_, rfl, hq0 _ (wo_some h), rfl⟩)
      refine x_sub [(0, _), (1, _), (2, _), (3, _), (4, _), (5, _)] ⟨rfl, rfl, rfl, rfl, rfl, rfl, trivial⟩ ?_
      obtain ⟨ea, eb, h⟩ := wo_bo h
      refine wo_lq (X := fun s => match s with | (l12, l13, l14) => mi_X mX12_isCircle (2) 55 [(0, vr 12 0), (1, vi p0), (2, vi l12), (3, vi u4), (4, vi l13), (5, vi l14)] [] mem QX) (E := fun e => wo (f_X12_isCircle_K55 p0 mem e) Q0) ?_ _ (e3, (0 : Int32), (0 : Int32)) ⟨_, eb, h⟩
      intro Q55 hb55 he55 s h
      obtain ⟨l12, l13, l14⟩ := s
      show mi_X mX12_isCircle (2) 55 [(0, vr 12 0), (1, vi p0), (2, vi l12), (3, vi u4), (4, vi l13), (5, vi l14)] [] mem QX
      unfold f_X12_isCircle_B55 at h
      try dsimp only at h
      refine x_iload_n (pc := 55) dX12_isCircle_55 rfl ?_
      refine x_if_lt (pc := 56) dX12_isCircle_56 (tgt := 198) (by decide) (fun c36 => ?_) (fun c36 => ?_)
      · replace h := wo_pos c36 h
        refine x_sub [] trivial ?_
        exact k55_2 () (he55 (.inr (.inr ())) (wo_some h))
      · replace h := wo_neg c36 h
        refine x_iload (pc := 59) dX12_isCircle_59 rfl ?_
        refine x_iload_n (pc := 61) dX12_isCircle_61 rfl ?_
        refine x_ishr (pc := 62) dX12_isCircle_62 ?_
        refine x_iconst (pc := 63) dX12_isCircle_63 (v := (1 : Int32)) (by decide) ?_
        refine x_iand (pc := 64) dX12_isCircle_64 ?_
        refine x_if_ne (pc := 65) dX12_isCircle_65 (tgt := 198) (by decide) (fun c35 => ?_) (fun c35 => ?_)
        · replace h := wo_neg c35 h
          refine x_sub [] trivial ?_
          exact k55_2 () (he55 (.inr (.inr ())) (wo_some h))
        · replace h := wo_pos c35 h
          refine x_iload (pc := 68) dX12_isCircle_68 rfl ?_
          refine x_iconst (pc := 70) dX12_isCircle_70 (v := (1 : Int32)) (by decide) ?_
          refine x_iload_n (pc := 71) dX12_isCircle_71 rfl ?_
          refine x_ishl (pc := 72) dX12_isCircle_72 ?_
          refine x_ior (pc := 73) dX12_isCircle_73 ?_
          refine x_leti h (fun v15 h => ?_)
          refine x_istore (ls' := [(5, _), (0, _), (1, _), (2, _), (3, _), (4, _)]) (pc := 74) dX12_isCircle_74 rfl rfl ?_
          refine x_iinc (ls' := [(4, _), (5, _), (0, _), (1, _), (2, _), (3, _)]) (pc := 76) dX12_isCircle_76 rfl (v := l13 + (1 : Int32)) rfl rfl rfl ?_
          refine x_aload_n (pc := 79) dX12_isCircle_79 rfl ?_
          refine x_iload_n (pc := 80) dX12_isCircle_80 rfl ?_
          refine x_iconst (pc := 81) dX12_isCircle_81 (v := (1 : Int32)) (by decide) ?_
          refine z_Vi2 (pc := 82) h dX12_isCircle_82 lX12_297 (by decide) (by omega) rfl (fun a e => w_X12_wrongOf _ _ _ a e) (fun v16 h => ?_)
          refine x_istore (ls' := [(6, _), (4, _), (5, _), (0, _), (1, _), (2, _), (3, _)]) (pc := 85) dX12_isCircle_85 rfl rfl ?_
          refine x_iconst (pc := 87) dX12_isCircle_87 (v := (-1 : Int32)) (by decide) ?_
          refine x_istore_n (ls' := [(2, _), (6, _), (4, _), (5, _), (0, _), (1, _), (3, _)]) (pc := 88) dX12_isCircle_88 rfl rfl rfl ?_
          refine x_iconst (pc := 89) dX12_isCircle_89 (v := (0 : Int32)) (by decide) ?_
          refine x_istore (ls' := [(7, _), (2, _), (6, _), (4, _), (5, _), (0, _), (1, _), (3, _)]) (pc := 90) dX12_isCircle_90 rfl rfl ?_
          refine x_iconst (pc := 92) dX12_isCircle_92 (v := (0 : Int32)) (by decide) ?_
          refine x_istore (ls' := [(8, _), (7, _), (2, _), (6, _), (4, _), (5, _), (0, _), (1, _), (3, _)]) (pc := 93) dX12_isCircle_93 rfl rfl ?_
          have k95_0 : ∀ (e17 : Int32) (e18 : Int32), wo (f_X12_isCircle_K95 u4 l13 v15 v16 (e17, e18)) Q55 → mi_X mX12_isCircle (2) 166 [(0, vr 12 0), (1, vi p0), (2, vi e17), (3, vi u4), (4, vi (l13 + (1 : Int32))), (5, vi v15), (6, vi v16), (7, vi e18)] [] mem QX := by
            intro e17 e18 h
            unfold f_X12_isCircle_K95 at h
            try dsimp only at h
            refine x_iload (pc := 166) dX12_isCircle_166 rfl ?_
            refine x_iconst (pc := 168) dX12_isCircle_168 (v := (1 : Int32)) (by decide) ?_
            refine x_icmp_eq (pc := 169) dX12_isCircle_169 (tgt := 174) (by decide) (fun c20 => ?_) (fun c20 => ?_)
            · replace h := wo_pos c20 h
              refine x_iload (pc := 174) dX12_isCircle_174 rfl ?_
              refine x_iload_n (pc := 176) dX12_isCircle_176 rfl ?_
              refine x_icmp_ne (pc := 177) dX12_isCircle_177 (tgt := 195) (by decide) (fun c19 => ?_) (fun c19 => ?_)
              · replace h := wo_neg c19 h
                refine x_goto (pc := 195) dX12_isCircle_195 (tgt := 55) (by decide) ?_
                refine x_sub [(0, _), (1, _), (2, _), (3, _), (4, _), (5, _)] ⟨rfl, rfl, rfl, rfl, rfl, rfl, trivial⟩ ?_
                exact hb55 (e17, (l13 + (1 : Int32)), v15) (wo_some h)
              · replace h := wo_pos c19 h
                refine x_sub [(1, _), (4, _)] ⟨rfl, rfl, trivial⟩ ?_
                exact k55_1 _ (he55 (.inr (.inl (l13 + (1 : Int32)))) (wo_some h))
            · replace h := wo_neg c20 h
              refine x_sub [] trivial ?_
              exact k55_0 () (he55 (.inl ()) (wo_some h))
          refine x_sub [(0, _), (1, _), (2, _), (3, _), (4, _), (5, _), (6, _), (7, _), (8, _)] ⟨rfl, rfl, rfl, rfl, rfl, rfl, rfl, rfl, rfl, trivial⟩ ?_
          obtain ⟨ea, eb, h⟩ := wo_bo h
          refine wo_lq (X := fun s => match s with | (l21, l22, l23) => mi_X mX12_isCircle (2) 95 [(0, vr 12 0), (1, vi p0), (2, vi l21), (3, vi u4), (4, vi (l13 + (1 : Int32))), (5, vi v15), (6, vi v16), (7, vi l22), (8, vi l23)] [] mem QX) (E := fun e => wo (f_X12_isCircle_K95 u4 l13 v15 v16 e) Q55) ?_ _ ((-1 : Int32), (0 : Int32), (0 : Int32)) ⟨_, eb, h⟩
          intro Q95 hb95 he95 s h
          obtain ⟨l21, l22, l23⟩ := s
          show mi_X mX12_isCircle (2) 95 [(0, vr 12 0), (1, vi p0), (2, vi l21), (3, vi u4), (4, vi (l13 + (1 : Int32))), (5, vi v15), (6, vi v16), (7, vi l22), (8, vi l23)] [] mem QX
          unfold f_X12_isCircle_B95 at h
          try dsimp only at h
          refine x_iload (pc := 95) dX12_isCircle_95 rfl ?_
          refine x_aload_n (pc := 97) dX12_isCircle_97 rfl ?_
          refine z_Vi0 (pc := 98) h dX12_isCircle_98 lX12_273 (by decide) (by omega) rfl (fun a e => w_X12_wrongs _ a e) (fun v24 h => ?_)
          refine x_icmp_ge (pc := 101) dX12_isCircle_101 (tgt := 166) (by decide) (fun c34 => ?_) (fun c34 => ?_)
          · replace h := wo_pos c34 h
            refine x_sub [(0, _), (1, _), (2, _), (3, _), (4, _), (5, _), (6, _), (7, _)] ⟨rfl, rfl, rfl, rfl, rfl, rfl, rfl, rfl, trivial⟩ ?_
            exact k95_0 _ _ (he95 (l21, l22) (wo_some h))
          · replace h := wo_neg c34 h
            refine x_iload_n (pc := 104) dX12_isCircle_104 rfl ?_
            refine x_iload (pc := 105) dX12_isCircle_105 rfl ?_
            refine x_ishr (pc := 107) dX12_isCircle_107 ?_
            refine x_iconst (pc := 108) dX12_isCircle_108 (v := (1 : Int32)) (by decide) ?_
            refine x_iand (pc := 109) dX12_isCircle_109 ?_
            refine x_iconst (pc := 110) dX12_isCircle_110 (v := (1 : Int32)) (by decide) ?_
            have j131 : ∀ (u25 : Int32), wo (f_X12_isCircle_J131 l21 l22 l23 u25) Q95 → mi_X mX12_isCircle (2) 131 [(0, vr 12 0), (1, vi p0), (2, vi l21), (3, vi u4), (4, vi (l13 + (1 : Int32))), (5, vi v15), (6, vi v16), (7, vi l22), (8, vi l23)] [vi u25] mem QX := by
              intro u25 h
              unfold f_X12_isCircle_J131 at h
              refine x_istore (ls' := [(9, _), (0, _), (1, _), (2, _), (3, _), (4, _), (5, _), (6, _), (7, _), (8, _)]) (pc := 131) dX12_isCircle_131 rfl rfl ?_
              refine x_iload (pc := 133) dX12_isCircle_133 rfl ?_
              have j144 : ∀ (u26 : Int32), wo (f_X12_isCircle_J144 l22 l23 u25 u26) Q95 → mi_X mX12_isCircle (2) 144 [(0, vr 12 0), (1, vi p0), (3, vi u4), (4, vi (l13 + (1 : Int32))), (5, vi v15), (6, vi v16), (7, vi l22), (8, vi l23), (9, vi u25)] [vi u26] mem QX := by
                intro u26 h
                unfold f_X12_isCircle_J144 at h
                refine x_istore_n (ls' := [(2, _), (0, _), (1, _), (3, _), (4, _), (5, _), (6, _), (7, _), (8, _), (9, _)]) (pc := 144) dX12_isCircle_144 rfl rfl rfl ?_
                refine x_iload (pc := 145) dX12_isCircle_145 rfl ?_
                refine x_iload (pc := 147) dX12_isCircle_147 rfl ?_
                have j157 : ∀ (u27 : Int32), wo (f_X12_isCircle_J157 l22 l23 u26 u27) Q95 → mi_X mX12_isCircle (2) 157 [(0, vr 12 0), (1, vi p0), (2, vi u26), (3, vi u4), (4, vi (l13 + (1 : Int32))), (5, vi v15), (6, vi v16), (8, vi l23)] [vi u27, vi l22] mem QX := by
                  intro u27 h
                  unfold f_X12_isCircle_J157 at h
                  refine x_iadd (pc := 157) dX12_isCircle_157 ?_
                  refine x_leti h (fun v28 h => ?_)
                  refine x_istore (ls' := [(7, _), (0, _), (1, _), (2, _), (3, _), (4, _), (5, _), (6, _), (8, _)]) (pc := 158) dX12_isCircle_158 rfl rfl ?_
                  refine x_iinc (ls' := [(8, _), (7, _), (0, _), (1, _), (2, _), (3, _), (4, _), (5, _), (6, _)]) (pc := 160) dX12_isCircle_160 rfl (v := l23 + (1 : Int32)) rfl rfl rfl ?_
                  refine x_goto (pc := 163) dX12_isCircle_163 (tgt := 95) (by decide) ?_
                  refine x_sub [(0, _), (1, _), (2, _), (3, _), (4, _), (5, _), (6, _), (7, _), (8, _)] ⟨rfl, rfl, rfl, rfl, rfl, rfl, rfl, rfl, rfl, trivial⟩ ?_
                  exact hb95 (u26, v28, (l23 + (1 : Int32))) (wo_some h)
                refine x_if_eq (pc := 149) dX12_isCircle_149 (tgt := 156) (by decide) (fun c29 => ?_) (fun c29 => ?_)
                · replace h := wo_pos c29 h
                  refine x_iconst (pc := 156) dX12_isCircle_156 (v := (0 : Int32)) (by decide) ?_
                  refine x_sub [(0, _), (1, _), (2, _), (3, _), (4, _), (5, _), (6, _), (8, _)] ⟨rfl, rfl, rfl, rfl, rfl, rfl, rfl, rfl, trivial⟩ ?_
                  exact j157 _ h
                · replace h := wo_neg c29 h
                  refine x_iconst (pc := 152) dX12_isCircle_152 (v := (1 : Int32)) (by decide) ?_
                  refine x_goto (pc := 153) dX12_isCircle_153 (tgt := 157) (by decide) ?_
                  refine x_sub [(0, _), (1, _), (2, _), (3, _), (4, _), (5, _), (6, _), (8, _)] ⟨rfl, rfl, rfl, rfl, rfl, rfl, rfl, rfl, trivial⟩ ?_
                  exact j157 _ h
              refine x_if_eq (pc := 135) dX12_isCircle_135 (tgt := 143) (by decide) (fun c30 => ?_) (fun c30 => ?_)
              · replace h := wo_pos c30 h
                refine x_iload_n (pc := 143) dX12_isCircle_143 rfl ?_
                refine x_sub [(0, _), (1, _), (3, _), (4, _), (5, _), (6, _), (7, _), (8, _), (9, _)] ⟨rfl, rfl, rfl, rfl, rfl, rfl, rfl, rfl, rfl, trivial⟩ ?_
                exact j144 _ h
              · replace h := wo_neg c30 h
                refine x_iload (pc := 138) dX12_isCircle_138 rfl ?_
                refine x_goto (pc := 140) dX12_isCircle_140 (tgt := 144) (by decide) ?_
                refine x_sub [(0, _), (1, _), (3, _), (4, _), (5, _), (6, _), (7, _), (8, _), (9, _)] ⟨rfl, rfl, rfl, rfl, rfl, rfl, rfl, rfl, rfl, trivial⟩ ?_
                exact j144 _ h
            have j130 : wo (f_X12_isCircle_J130 l21 l22 l23) Q95 → mi_X mX12_isCircle (2) 130 [(0, vr 12 0), (1, vi p0), (2, vi l21), (3, vi u4), (4, vi (l13 + (1 : Int32))), (5, vi v15), (6, vi v16), (7, vi l22), (8, vi l23)] [] mem QX := by
              intro h
              unfold f_X12_isCircle_J130 at h
              refine x_iconst (pc := 130) dX12_isCircle_130 (v := (0 : Int32)) (by decide) ?_
              refine x_sub [(0, _), (1, _), (2, _), (3, _), (4, _), (5, _), (6, _), (7, _), (8, _)] ⟨rfl, rfl, rfl, rfl, rfl, rfl, rfl, rfl, rfl, trivial⟩ ?_
              exact j131 _ h
            refine x_icmp_ne (pc := 111) dX12_isCircle_111 (tgt := 130) (by decide) (fun c33 => ?_) (fun c33 => ?_)
            · replace h := wo_neg c33 h
              refine x_sub [(0, _), (1, _), (2, _), (3, _), (4, _), (5, _), (6, _), (7, _), (8, _)] ⟨rfl, rfl, rfl, rfl, rfl, rfl, rfl, rfl, rfl, trivial⟩ ?_
              exact j130 h
            · replace h := wo_pos c33 h
              refine x_aload_n (pc := 114) dX12_isCircle_114 rfl ?_
              refine x_iload (pc := 115) dX12_isCircle_115 rfl ?_
              refine x_iconst (pc := 117) dX12_isCircle_117 (v := (0 : Int32)) (by decide) ?_
              refine z_Vi2 (pc := 118) h dX12_isCircle_118 lX12_297 (by decide) (by omega) rfl (fun a e => w_X12_wrongOf _ _ _ a e) (fun v31 h => ?_)
              refine x_iload (pc := 121) dX12_isCircle_121 rfl ?_
              refine x_icmp_ne (pc := 123) dX12_isCircle_123 (tgt := 130) (by decide) (fun c32 => ?_) (fun c32 => ?_)
              · replace h := wo_neg c32 h
                refine x_sub [(0, _), (1, _), (2, _), (3, _), (4, _), (5, _), (6, _), (7, _), (8, _)] ⟨rfl, rfl, rfl, rfl, rfl, rfl, rfl, rfl, rfl, trivial⟩ ?_
                exact j130 h
              · replace h := wo_pos c32 h
                refine x_iconst (pc := 126) dX12_isCircle_126 (v := (1 : Int32)) (by decide) ?_
                refine x_goto (pc := 127) dX12_isCircle_127 (tgt := 131) (by decide) ?_
                refine x_sub [(0, _), (1, _), (2, _), (3, _), (4, _), (5, _), (6, _), (7, _), (8, _)] ⟨rfl, rfl, rfl, rfl, rfl, rfl, rfl, rfl, rfl, trivial⟩ ?_
                exact j131 _ h
    refine x_if_ge (pc := 35) dX12_isCircle_35 (tgt := 42) (by decide) (fun c38 => ?_) (fun c38 => ?_)
    · replace h := wo_pos c38 h
      refine x_aload_n (pc := 42) dX12_isCircle_42 rfl ?_
      refine x_iload_n (pc := 43) dX12_isCircle_43 rfl ?_
      refine x_iconst (pc := 44) dX12_isCircle_44 (v := (0 : Int32)) (by decide) ?_
      refine z_Vi2 (pc := 45) h dX12_isCircle_45 lX12_297 (by decide) (by omega) rfl (fun a e => w_X12_wrongOf _ _ _ a e) (fun v37 h => ?_)
      refine x_sub [(0, _), (1, _), (2, _)] ⟨rfl, rfl, rfl, trivial⟩ ?_
      exact j48 _ h
    · replace h := wo_neg c38 h
      refine x_iconst (pc := 38) dX12_isCircle_38 (v := (0 : Int32)) (by decide) ?_
      refine x_goto (pc := 39) dX12_isCircle_39 (tgt := 48) (by decide) ?_
      refine x_sub [(0, _), (1, _), (2, _)] ⟨rfl, rfl, rfl, trivial⟩ ?_
      exact j48 _ h
  refine x_sub [(0, _), (1, _), (2, _), (3, _)] ⟨rfl, rfl, rfl, rfl, trivial⟩ ?_
  obtain ⟨ea, eb, h⟩ := wo_bo h
  refine wo_lq (X := fun s => match s with | (l39, l40) => mi_X mX12_isCircle (2) 9 [(0, vr 12 0), (1, vi p0), (2, vi l39), (3, vi l40)] [] mem QX) (E := fun e => wo (f_X12_isCircle_K9 p0 mem e) Q0) ?_ _ ((-1 : Int32), v2) ⟨_, eb, h⟩
  intro Q9 hb9 he9 s h
  obtain ⟨l39, l40⟩ := s
  show mi_X mX12_isCircle (2) 9 [(0, vr 12 0), (1, vi p0), (2, vi l39), (3, vi l40)] [] mem QX
  unfold f_X12_isCircle_B9 at h
  try dsimp only at h
  refine x_iload_n (pc := 9) dX12_isCircle_9 rfl ?_
  refine x_if_lt (pc := 10) dX12_isCircle_10 (tgt := 34) (by decide) (fun c43 => ?_) (fun c43 => ?_)
  · replace h := wo_pos c43 h
    refine x_sub [(0, _), (1, _), (2, _)] ⟨rfl, rfl, rfl, trivial⟩ ?_
    exact k9_0 _ (he9 l39 (wo_some h))
  · replace h := wo_neg c43 h
    refine x_iload_n (pc := 13) dX12_isCircle_13 rfl ?_
    refine x_iload_n (pc := 14) dX12_isCircle_14 rfl ?_
    refine x_ishr (pc := 15) dX12_isCircle_15 ?_
    refine x_iconst (pc := 16) dX12_isCircle_16 (v := (1 : Int32)) (by decide) ?_
    refine x_iand (pc := 17) dX12_isCircle_17 ?_
    refine x_iconst (pc := 18) dX12_isCircle_18 (v := (1 : Int32)) (by decide) ?_
    have j27 : ∀ (u41 : Int32), wo (f_X12_isCircle_J27 l40 u41) Q9 → mi_X mX12_isCircle (2) 27 [(0, vr 12 0), (1, vi p0), (3, vi l40)] [vi u41] mem QX := by
      intro u41 h
      unfold f_X12_isCircle_J27 at h
      refine x_istore_n (ls' := [(2, _), (0, _), (1, _), (3, _)]) (pc := 27) dX12_isCircle_27 rfl rfl rfl ?_
      refine x_iinc (ls' := [(3, _), (2, _), (0, _), (1, _)]) (pc := 28) dX12_isCircle_28 rfl (v := l40 + (-1 : Int32)) rfl rfl rfl ?_
      refine x_goto (pc := 31) dX12_isCircle_31 (tgt := 9) (by decide) ?_
      refine x_sub [(0, _), (1, _), (2, _), (3, _)] ⟨rfl, rfl, rfl, rfl, trivial⟩ ?_
      exact hb9 (u41, (l40 + (-1 : Int32))) (wo_some h)
    refine x_icmp_ne (pc := 19) dX12_isCircle_19 (tgt := 26) (by decide) (fun c42 => ?_) (fun c42 => ?_)
    · replace h := wo_neg c42 h
      refine x_iload_n (pc := 26) dX12_isCircle_26 rfl ?_
      refine x_sub [(0, _), (1, _), (3, _)] ⟨rfl, rfl, rfl, trivial⟩ ?_
      exact j27 _ h
    · replace h := wo_pos c42 h
      refine x_iload_n (pc := 22) dX12_isCircle_22 rfl ?_
      refine x_goto (pc := 23) dX12_isCircle_23 (tgt := 27) (by decide) ?_
      refine x_sub [(0, _), (1, _), (3, _)] ⟨rfl, rfl, rfl, trivial⟩ ?_
      exact j27 _ h
noncomputable def f_X12_circle_J100 (l4 : Int32) (u7 : Int32) : Option ((Int32 × Int32) ⊕ (Int32)) := some (.inl (u7, (l4 + (1 : Int32))))
noncomputable def f_X12_circle_J99 (l3 : Int32) (l4 : Int32) : Option ((Int32 × Int32) ⊕ (Int32)) := f_X12_circle_J100 l4 l3
noncomputable def f_X12_circle_J87 (m1 : mi_M) (l3 : Int32) (l4 : Int32) : Option ((Int32 × Int32) ⊕ (Int32)) := mi_bo (f_X12_isCircle l4 m1) fun v8 => if v8 = 0 then f_X12_circle_J99 l3 l4 else f_X12_circle_J100 l4 l4
noncomputable def f_X12_circle_J61 (l16 : Int32) (u18 : Int32) : Option ((Int32 × Int32) ⊕ (Int32)) := some (.inl (u18, (l16 + (1 : Int32))))
noncomputable def f_X12_circle_J60 (l16 : Int32) : Option ((Int32 × Int32) ⊕ (Int32)) := f_X12_circle_J61 l16 (0 : Int32)
noncomputable def f_X12_circle_J56 (l16 : Int32) : Option ((Int32 × Int32) ⊕ (Int32)) := f_X12_circle_J61 l16 (1 : Int32)
noncomputable def f_X12_circle_B24 (m1 : mi_M) (l4 : Int32) : (Int32 × Int32) → Option ((Int32 × Int32) ⊕ (Int32)) := fun s => match s with | (l15, l16) => mi_bo (f_X12_wrongs m1) fun v17 => if v17 ≤ l16 then some (.inr l15) else if l15 = 0 then f_X12_circle_J60 l16 else if ((l4 >>> (l16 &&& 31)) &&& (1 : Int32)) = 0 then f_X12_circle_J56 l16 else mi_bo (f_X12_isOpen (0 : Int32) l16 m1) fun v19 => if v19 = 0 then f_X12_circle_J60 l16 else f_X12_circle_J56 l16
noncomputable def f_X12_circle_K24 (m1 : mi_M) (l3 : Int32) (l4 : Int32) : Int32 → Option ((Int32 × Int32) ⊕ (Int32)) := fun e6 => if e6 = 0 then f_X12_circle_J99 l3 l4 else if l3 < 0 then f_X12_circle_J87 m1 l3 l4 else mi_bo (f_X12_bits l4 m1) fun v10 => mi_bo (f_X12_bits l3 m1) fun v11 => if v11 ≤ v10 then f_X12_circle_J99 l3 l4 else f_X12_circle_J87 m1 l3 l4
noncomputable def f_X12_circle_B9 (m1 : mi_M) : (Int32 × Int32) → Option ((Int32 × Int32) ⊕ (Int32)) := fun s => match s with | (l3, l4) => mi_bo (f_X12_wrongs m1) fun v5 => if ((1 : Int32) <<< (v5 &&& 31)) ≤ l4 then some (.inr l3) else mi_bo (mi_lp (f_X12_circle_B24 m1 l4) mi_fu ((1 : Int32), (0 : Int32))) (f_X12_circle_K24 m1 l3 l4)
noncomputable def f_X12_circle_K9 (m1 : mi_M) : Int32 → Option (Int32 × mi_M) := fun e2 => some (e2, m1)
noncomputable def f_X12_circle (mem : mi_M) : Option (Int32 × mi_M) := mi_let (mi_wI mem 12 0 0 (0 : Int32)) fun m1 => mi_bo (mi_lp (f_X12_circle_B9 m1) mi_fu ((-1 : Int32), (1 : Int32))) (f_X12_circle_K9 m1)
set_option maxRecDepth 100000 in
set_option maxHeartbeats 4000000 in
theorem w_X12_circle (mem : mi_M) (a : Int32 × mi_M) (e : f_X12_circle  mem = some a) : mi_Ci (4) mX12_circle [vr 12 0] mem (fun x m' => x = a.1 ∧ m' = a.2) := by
  unfold mi_Ci
  refine mi_C_intro (ls := [(0, vr 12 0)]) (by decide) rfl rfl ?_
  obtain ⟨Q0, hq0, h⟩ : ∃ Q0 : (Int32 × mi_M) → Prop, (∀ b, Q0 b → b = a) ∧ wo (f_X12_circle  mem) Q0 := ⟨fun b => b = a, fun _ h => h, wo_eq e⟩
  obtain ⟨QX, hQX⟩ : ∃ QX : Option mi_V → mi_M → Prop, QX = (fun r m' => ∃ x, r = some (vi x) ∧ x = a.1 ∧ m' = a.2) := ⟨_, rfl⟩
  rw [← hQX]
  unfold f_X12_circle at h
  refine x_aload_n (pc := 0) dX12_circle_0 rfl ?_
  refine x_iconst (pc := 1) dX12_circle_1 (v := (0 : Int32)) (by decide) ?_
  refine x_putI (pc := 2) dX12_circle_2 fX12_1 rfl (by decide) rfl rfl ?_
  refine x_letm h (fun m1 h => ?_)
  refine x_iconst (pc := 5) dX12_circle_5 (v := (-1 : Int32)) (by decide) ?_
  refine x_istore_n (ls' := [(1, _), (0, _)]) (pc := 6) dX12_circle_6 rfl rfl rfl ?_
  refine x_iconst (pc := 7) dX12_circle_7 (v := (1 : Int32)) (by decide) ?_
  refine x_istore_n (ls' := [(2, _), (1, _), (0, _)]) (pc := 8) dX12_circle_8 rfl rfl rfl ?_
  have k9_0 : ∀ (e2 : Int32), wo (f_X12_circle_K9 m1 e2) Q0 → mi_X mX12_circle (4) 107 [(1, vi e2)] [] m1 QX := by
    intro e2 h
    unfold f_X12_circle_K9 at h
    try dsimp only at h
    refine x_iload_n (pc := 107) dX12_circle_107 rfl ?_
    exact x_iret (pc := 108) dX12_circle_108 rfl (by rw [hQX]; exact ⟨_, rfl, congrArg Prod.fst (hq0 _ (wo_some h)), congrArg Prod.snd (hq0 _ (wo_some h))⟩)
  refine x_sub [(0, _), (1, _), (2, _)] ⟨rfl, rfl, rfl, trivial⟩ ?_
  obtain ⟨ea, eb, h⟩ := wo_bo h
  refine wo_lq (X := fun s => match s with | (l3, l4) => mi_X mX12_circle (4) 9 [(0, vr 12 0), (1, vi l3), (2, vi l4)] [] m1 QX) (E := fun e => wo (f_X12_circle_K9 m1 e) Q0) ?_ _ ((-1 : Int32), (1 : Int32)) ⟨_, eb, h⟩
  intro Q9 hb9 he9 s h
  obtain ⟨l3, l4⟩ := s
  show mi_X mX12_circle (4) 9 [(0, vr 12 0), (1, vi l3), (2, vi l4)] [] m1 QX
  unfold f_X12_circle_B9 at h
  try dsimp only at h
  refine x_iload_n (pc := 9) dX12_circle_9 rfl ?_
  refine x_iconst (pc := 10) dX12_circle_10 (v := (1 : Int32)) (by decide) ?_
  refine x_aload_n (pc := 11) dX12_circle_11 rfl ?_
  refine z_Vi0 (pc := 12) h dX12_circle_12 lX12_273 (by decide) (by omega) rfl (fun a e => w_X12_wrongs _ a e) (fun v5 h => ?_)
  refine x_ishl (pc := 15) dX12_circle_15 ?_
  refine x_icmp_ge (pc := 16) dX12_circle_16 (tgt := 107) (by decide) (fun c24 => ?_) (fun c24 => ?_)
  · replace h := wo_pos c24 h
    refine x_sub [(1, _)] ⟨rfl, trivial⟩ ?_
    exact k9_0 _ (he9 l3 (wo_some h))
  · replace h := wo_neg c24 h
    refine x_iconst (pc := 19) dX12_circle_19 (v := (1 : Int32)) (by decide) ?_
    refine x_istore_n (ls' := [(3, _), (0, _), (1, _), (2, _)]) (pc := 20) dX12_circle_20 rfl rfl rfl ?_
    refine x_iconst (pc := 21) dX12_circle_21 (v := (0 : Int32)) (by decide) ?_
    refine x_istore (ls' := [(4, _), (3, _), (0, _), (1, _), (2, _)]) (pc := 22) dX12_circle_22 rfl rfl ?_
    have k24_0 : ∀ (e6 : Int32), wo (f_X12_circle_K24 m1 l3 l4 e6) Q9 → mi_X mX12_circle (4) 68 [(0, vr 12 0), (1, vi l3), (2, vi l4), (3, vi e6)] [] m1 QX := by
      intro e6 h
      unfold f_X12_circle_K24 at h
      try dsimp only at h
      refine x_iload_n (pc := 68) dX12_circle_68 rfl ?_
      have j100 : ∀ (u7 : Int32), wo (f_X12_circle_J100 l4 u7) Q9 → mi_X mX12_circle (4) 100 [(0, vr 12 0), (2, vi l4)] [vi u7] m1 QX := by
        intro u7 h
        unfold f_X12_circle_J100 at h
        refine x_istore_n (ls' := [(1, _), (0, _), (2, _)]) (pc := 100) dX12_circle_100 rfl rfl rfl ?_
        refine x_iinc (ls' := [(2, _), (1, _), (0, _)]) (pc := 101) dX12_circle_101 rfl (v := l4 + (1 : Int32)) rfl rfl rfl ?_
        refine x_goto (pc := 104) dX12_circle_104 (tgt := 9) (by decide) ?_
        refine x_sub [(0, _), (1, _), (2, _)] ⟨rfl, rfl, rfl, trivial⟩ ?_
        exact hb9 (u7, (l4 + (1 : Int32))) (wo_some h)
      have j99 : wo (f_X12_circle_J99 l3 l4) Q9 → mi_X mX12_circle (4) 99 [(0, vr 12 0), (1, vi l3), (2, vi l4)] [] m1 QX := by
        intro h
        unfold f_X12_circle_J99 at h
        refine x_iload_n (pc := 99) dX12_circle_99 rfl ?_
        refine x_sub [(0, _), (2, _)] ⟨rfl, rfl, trivial⟩ ?_
        exact j100 _ h
      refine x_if_eq (pc := 69) dX12_circle_69 (tgt := 99) (by decide) (fun c14 => ?_) (fun c14 => ?_)
      · replace h := wo_pos c14 h
        refine x_sub [(0, _), (1, _), (2, _)] ⟨rfl, rfl, rfl, trivial⟩ ?_
        exact j99 h
      · replace h := wo_neg c14 h
        refine x_iload_n (pc := 72) dX12_circle_72 rfl ?_
        have j87 : wo (f_X12_circle_J87 m1 l3 l4) Q9 → mi_X mX12_circle (4) 87 [(0, vr 12 0), (1, vi l3), (2, vi l4)] [] m1 QX := by
          intro h
          unfold f_X12_circle_J87 at h
          refine x_aload_n (pc := 87) dX12_circle_87 rfl ?_
          refine x_iload_n (pc := 88) dX12_circle_88 rfl ?_
          refine z_Vi1 (pc := 89) h dX12_circle_89 lX12_432 (by decide) (by omega) rfl (fun a e => w_X12_isCircle _ _ a e) (fun v8 h => ?_)
          refine x_if_eq (pc := 92) dX12_circle_92 (tgt := 99) (by decide) (fun c9 => ?_) (fun c9 => ?_)
          · replace h := wo_pos c9 h
            refine x_sub [(0, _), (1, _), (2, _)] ⟨rfl, rfl, rfl, trivial⟩ ?_
            exact j99 h
          · replace h := wo_neg c9 h
            refine x_iload_n (pc := 95) dX12_circle_95 rfl ?_
            refine x_goto (pc := 96) dX12_circle_96 (tgt := 100) (by decide) ?_
            refine x_sub [(0, _), (2, _)] ⟨rfl, rfl, trivial⟩ ?_
            exact j100 _ h
        refine x_if_lt (pc := 73) dX12_circle_73 (tgt := 87) (by decide) (fun c13 => ?_) (fun c13 => ?_)
        · replace h := wo_pos c13 h
          refine x_sub [(0, _), (1, _), (2, _)] ⟨rfl, rfl, rfl, trivial⟩ ?_
          exact j87 h
        · replace h := wo_neg c13 h
          refine x_iload_n (pc := 76) dX12_circle_76 rfl ?_
          refine z_Si1 (pc := 77) h dX12_circle_77 lX12_429 (by omega) rfl (fun a e => w_X12_bits _ _ a e) (fun v10 h => ?_)
          refine x_iload_n (pc := 80) dX12_circle_80 rfl ?_
          refine z_Si1 (pc := 81) h dX12_circle_81 lX12_429 (by omega) rfl (fun a e => w_X12_bits _ _ a e) (fun v11 h => ?_)
          refine x_icmp_ge (pc := 84) dX12_circle_84 (tgt := 99) (by decide) (fun c12 => ?_) (fun c12 => ?_)
          · replace h := wo_pos c12 h
            refine x_sub [(0, _), (1, _), (2, _)] ⟨rfl, rfl, rfl, trivial⟩ ?_
            exact j99 h
          · replace h := wo_neg c12 h
            refine x_sub [(0, _), (1, _), (2, _)] ⟨rfl, rfl, rfl, trivial⟩ ?_
            exact j87 h
    refine x_sub [(0, _), (1, _), (2, _), (3, _), (4, _)] ⟨rfl, rfl, rfl, rfl, rfl, trivial⟩ ?_
    obtain ⟨ea, eb, h⟩ := wo_bo h
    refine wo_lq (X := fun s => match s with | (l15, l16) => mi_X mX12_circle (4) 24 [(0, vr 12 0), (1, vi l3), (2, vi l4), (3, vi l15), (4, vi l16)] [] m1 QX) (E := fun e => wo (f_X12_circle_K24 m1 l3 l4 e) Q9) ?_ _ ((1 : Int32), (0 : Int32)) ⟨_, eb, h⟩
    intro Q24 hb24 he24 s h
    obtain ⟨l15, l16⟩ := s
    show mi_X mX12_circle (4) 24 [(0, vr 12 0), (1, vi l3), (2, vi l4), (3, vi l15), (4, vi l16)] [] m1 QX
    unfold f_X12_circle_B24 at h
    try dsimp only at h
    refine x_iload (pc := 24) dX12_circle_24 rfl ?_
    refine x_aload_n (pc := 26) dX12_circle_26 rfl ?_
    refine z_Vi0 (pc := 27) h dX12_circle_27 lX12_273 (by decide) (by omega) rfl (fun a e => w_X12_wrongs _ a e) (fun v17 h => ?_)
    refine x_icmp_ge (pc := 30) dX12_circle_30 (tgt := 68) (by decide) (fun c23 => ?_) (fun c23 => ?_)
    · replace h := wo_pos c23 h
      refine x_sub [(0, _), (1, _), (2, _), (3, _)] ⟨rfl, rfl, rfl, rfl, trivial⟩ ?_
      exact k24_0 _ (he24 l15 (wo_some h))
    · replace h := wo_neg c23 h
      refine x_iload_n (pc := 33) dX12_circle_33 rfl ?_
      have j61 : ∀ (u18 : Int32), wo (f_X12_circle_J61 l16 u18) Q24 → mi_X mX12_circle (4) 61 [(0, vr 12 0), (1, vi l3), (2, vi l4), (4, vi l16)] [vi u18] m1 QX := by
        intro u18 h
        unfold f_X12_circle_J61 at h
        refine x_istore_n (ls' := [(3, _), (0, _), (1, _), (2, _), (4, _)]) (pc := 61) dX12_circle_61 rfl rfl rfl ?_
        refine x_iinc (ls' := [(4, _), (3, _), (0, _), (1, _), (2, _)]) (pc := 62) dX12_circle_62 rfl (v := l16 + (1 : Int32)) rfl rfl rfl ?_
        refine x_goto (pc := 65) dX12_circle_65 (tgt := 24) (by decide) ?_
        refine x_sub [(0, _), (1, _), (2, _), (3, _), (4, _)] ⟨rfl, rfl, rfl, rfl, rfl, trivial⟩ ?_
        exact hb24 (u18, (l16 + (1 : Int32))) (wo_some h)
      have j60 : wo (f_X12_circle_J60 l16) Q24 → mi_X mX12_circle (4) 60 [(0, vr 12 0), (1, vi l3), (2, vi l4), (4, vi l16)] [] m1 QX := by
        intro h
        unfold f_X12_circle_J60 at h
        refine x_iconst (pc := 60) dX12_circle_60 (v := (0 : Int32)) (by decide) ?_
        refine x_sub [(0, _), (1, _), (2, _), (4, _)] ⟨rfl, rfl, rfl, rfl, trivial⟩ ?_
        exact j61 _ h
      refine x_if_eq (pc := 34) dX12_circle_34 (tgt := 60) (by decide) (fun c22 => ?_) (fun c22 => ?_)
      · replace h := wo_pos c22 h
        refine x_sub [(0, _), (1, _), (2, _), (4, _)] ⟨rfl, rfl, rfl, rfl, trivial⟩ ?_
        exact j60 h
      · replace h := wo_neg c22 h
        refine x_iload_n (pc := 37) dX12_circle_37 rfl ?_
        refine x_iload (pc := 38) dX12_circle_38 rfl ?_
        refine x_ishr (pc := 40) dX12_circle_40 ?_
        refine x_iconst (pc := 41) dX12_circle_41 (v := (1 : Int32)) (by decide) ?_
        refine x_iand (pc := 42) dX12_circle_42 ?_
        have j56 : wo (f_X12_circle_J56 l16) Q24 → mi_X mX12_circle (4) 56 [(0, vr 12 0), (1, vi l3), (2, vi l4), (4, vi l16)] [] m1 QX := by
          intro h
          unfold f_X12_circle_J56 at h
          refine x_iconst (pc := 56) dX12_circle_56 (v := (1 : Int32)) (by decide) ?_
          refine x_goto (pc := 57) dX12_circle_57 (tgt := 61) (by decide) ?_
          refine x_sub [(0, _), (1, _), (2, _), (4, _)] ⟨rfl, rfl, rfl, rfl, trivial⟩ ?_
          exact j61 _ h
        refine x_if_eq (pc := 43) dX12_circle_43 (tgt := 56) (by decide) (fun c21 => ?_) (fun c21 => ?_)
        · replace h := wo_pos c21 h
          refine x_sub [(0, _), (1, _), (2, _), (4, _)] ⟨rfl, rfl, rfl, rfl, trivial⟩ ?_
          exact j56 h
        · replace h := wo_neg c21 h
          refine x_aload_n (pc := 46) dX12_circle_46 rfl ?_
          refine x_iconst (pc := 47) dX12_circle_47 (v := (0 : Int32)) (by decide) ?_
          refine x_iload (pc := 48) dX12_circle_48 rfl ?_
          refine z_Vi2 (pc := 50) h dX12_circle_50 lX12_319 (by decide) (by omega) rfl (fun a e => w_X12_isOpen _ _ _ a e) (fun v19 h => ?_)
          refine x_if_eq (pc := 53) dX12_circle_53 (tgt := 60) (by decide) (fun c20 => ?_) (fun c20 => ?_)
          · replace h := wo_pos c20 h
            refine x_sub [(0, _), (1, _), (2, _), (4, _)] ⟨rfl, rfl, rfl, rfl, trivial⟩ ?_
            exact j60 h
          · replace h := wo_neg c20 h
            refine x_sub [(0, _), (1, _), (2, _), (4, _)] ⟨rfl, rfl, rfl, rfl, trivial⟩ ?_
            exact j56 h
noncomputable def f_X12_coinsOf_B4 (mem : mi_M) : (Int32 × Int32) → Option ((Int32 × Int32) ⊕ (Int32)) := fun s => match s with | (l2, l3) => mi_bo (f_X12_people mem) fun v4 => if v4 ≤ l3 then some (.inr l2) else mi_g (vp_in ((8 : Int32) + l3) 1449) (mi_let (l2 + (mem.1 64 0 ((8 : Int32) + l3).toNatClampNeg)) fun v6 => some (.inl (v6, (l3 + (1 : Int32)))))
noncomputable def f_X12_coinsOf_K4 : Int32 → Option (Int32) := fun e1 => some e1
noncomputable def f_X12_coinsOf (mem : mi_M) : Option (Int32) := mi_bo (mi_lp (f_X12_coinsOf_B4 mem) mi_fu ((0 : Int32), (0 : Int32))) (f_X12_coinsOf_K4)
set_option maxRecDepth 100000 in
set_option maxHeartbeats 4000000 in
theorem w_X12_coinsOf (mem : mi_M) (a : Int32) (e : f_X12_coinsOf  mem = some a) : mi_Ci (2) mX12_coinsOf [vr 12 0] mem (fun x m' => x = a ∧ m' = mem) := by
  unfold mi_Ci
  refine mi_C_intro (ls := [(0, vr 12 0)]) (by decide) rfl rfl ?_
  obtain ⟨Q0, hq0, h⟩ : ∃ Q0 : Int32 → Prop, (∀ b, Q0 b → b = a) ∧ wo (f_X12_coinsOf  mem) Q0 := ⟨fun b => b = a, fun _ h => h, wo_eq e⟩
  obtain ⟨QX, hQX⟩ : ∃ QX : Option mi_V → mi_M → Prop, QX = (fun r m' => ∃ x, r = some (vi x) ∧ x = a ∧ m' = mem) := ⟨_, rfl⟩
  rw [← hQX]
  unfold f_X12_coinsOf at h
  refine x_iconst (pc := 0) dX12_coinsOf_0 (v := (0 : Int32)) (by decide) ?_
  refine x_istore_n (ls' := [(1, _), (0, _)]) (pc := 1) dX12_coinsOf_1 rfl rfl rfl ?_
  refine x_iconst (pc := 2) dX12_coinsOf_2 (v := (0 : Int32)) (by decide) ?_
  refine x_istore_n (ls' := [(2, _), (1, _), (0, _)]) (pc := 3) dX12_coinsOf_3 rfl rfl rfl ?_
  have k4_0 : ∀ (e1 : Int32), wo (f_X12_coinsOf_K4 e1) Q0 → mi_X mX12_coinsOf (2) 30 [(1, vi e1)] [] mem QX := by
    intro e1 h
    unfold f_X12_coinsOf_K4 at h
    try dsimp only at h
    refine x_iload_n (pc := 30) dX12_coinsOf_30 rfl ?_
    exact x_iret (pc := 31) dX12_coinsOf_31 rfl (by rw [hQX]; exact ⟨_, rfl, hq0 _ (wo_some h), rfl⟩)
  refine x_sub [(0, _), (1, _), (2, _)] ⟨rfl, rfl, rfl, trivial⟩ ?_
  obtain ⟨ea, eb, h⟩ := wo_bo h
  refine wo_lq (X := fun s => match s with | (l2, l3) => mi_X mX12_coinsOf (2) 4 [(0, vr 12 0), (1, vi l2), (2, vi l3)] [] mem QX) (E := fun e => wo (f_X12_coinsOf_K4 e) Q0) ?_ _ ((0 : Int32), (0 : Int32)) ⟨_, eb, h⟩
  intro Q4 hb4 he4 s h
  obtain ⟨l2, l3⟩ := s
  show mi_X mX12_coinsOf (2) 4 [(0, vr 12 0), (1, vi l2), (2, vi l3)] [] mem QX
  unfold f_X12_coinsOf_B4 at h
  try dsimp only at h
  refine x_iload_n (pc := 4) dX12_coinsOf_4 rfl ?_
  refine x_aload_n (pc := 5) dX12_coinsOf_5 rfl ?_
  refine z_Vi0 (pc := 6) h dX12_coinsOf_6 lX12_294 (by decide) (by omega) rfl (fun a e => w_X12_people _ a e) (fun v4 h => ?_)
  refine x_icmp_ge (pc := 9) dX12_coinsOf_9 (tgt := 30) (by decide) (fun c7 => ?_) (fun c7 => ?_)
  · replace h := wo_pos c7 h
    refine x_sub [(1, _)] ⟨rfl, trivial⟩ ?_
    exact k4_0 _ (he4 l2 (wo_some h))
  · replace h := wo_neg c7 h
    refine x_iload_n (pc := 12) dX12_coinsOf_12 rfl ?_
    refine x_aload_n (pc := 13) dX12_coinsOf_13 rfl ?_
    refine x_getS (pc := 14) dX12_coinsOf_14 fX12_113 rfl (by decide) ?_
    refine x_bipush (pc := 17) dX12_coinsOf_17 (v := (8 : Int32)) (by decide) ?_
    refine x_iload_n (pc := 19) dX12_coinsOf_19 rfl ?_
    refine x_iadd (pc := 20) dX12_coinsOf_20 ?_
    obtain ⟨hx5, h⟩ := wo_g h
    refine x_ialdJ (pc := 21) dX12_coinsOf_21 rfl rfl (by decide) hx5 ?_
    refine x_iadd (pc := 22) dX12_coinsOf_22 ?_
    refine x_leti h (fun v6 h => ?_)
    refine x_istore_n (ls' := [(1, _), (0, _), (2, _)]) (pc := 23) dX12_coinsOf_23 rfl rfl rfl ?_
    refine x_iinc (ls' := [(2, _), (1, _), (0, _)]) (pc := 24) dX12_coinsOf_24 rfl (v := l3 + (1 : Int32)) rfl rfl rfl ?_
    refine x_goto (pc := 27) dX12_coinsOf_27 (tgt := 4) (by decide) ?_
    refine x_sub [(0, _), (1, _), (2, _)] ⟨rfl, rfl, rfl, trivial⟩ ?_
    exact hb4 (v6, (l3 + (1 : Int32))) (wo_some h)
noncomputable def f_X12_costOf_J166 (m4 : mi_M) (u5 : Int32) : Option (Int32 × mi_M) := some (u5, m4)
noncomputable def f_X12_costOf_J151 (l9 : Int32) (u12 : Int32) (u13 : Int32) (m14 : mi_M) : Option ((Int32 × Int32 × Int32 × mi_M) ⊕ (Int32 × Int32 × mi_M)) := some (.inl (u12, u13, (l9 + (1 : Int32)), m14))
noncomputable def f_X12_costOf_J150 (l9 : Int32) (m22 : mi_M) (v23 : Int32) (u24 : Int32) : Option ((Int32 × Int32 × Int32 × mi_M) ⊕ (Int32 × Int32 × mi_M)) := f_X12_costOf_J151 l9 v23 u24 m22
noncomputable def f_X12_costOf_J149 (l9 : Int32) (m22 : mi_M) (v23 : Int32) : Option ((Int32 × Int32 × Int32 × mi_M) ⊕ (Int32 × Int32 × mi_M)) := f_X12_costOf_J150 l9 m22 v23 (0 : Int32)
noncomputable def f_X12_costOf_J77 (l7 : Int32) (l8 : Int32) (l9 : Int32) (m10 : mi_M) (u18 : Int32) : Option ((Int32 × Int32 × Int32 × mi_M) ⊕ (Int32 × Int32 × mi_M)) := mi_bo (f_X12_wrongOf l9 (0 : Int32) m10) fun v19 => mi_g (vp_in v19 6) (mi_g (vp_in v19 6) (mi_let (mi_wI m10 69 0 v19.toNatClampNeg ((m10.1 69 0 v19.toNatClampNeg) + u18)) fun m22 => mi_let (l7 + u18) fun v23 => if l8 = 0 then f_X12_costOf_J149 l9 m22 v23 else mi_bo (f_X12_isOpen (0 : Int32) l9 m22) fun v25 => if v25 = 0 then f_X12_costOf_J149 l9 m22 v23 else mi_bo (f_X12_wrongOf l9 (0 : Int32) m22) fun v26 => mi_g (vp_in v26 6) (mi_bo (f_X12_wrongOf l9 (0 : Int32) m22) fun v28 => mi_g (vp_in ((8 : Int32) + v28) 1449) (if (m22.1 64 0 ((8 : Int32) + v28).toNatClampNeg) < (m22.1 69 0 v26.toNatClampNeg) then f_X12_costOf_J149 l9 m22 v23 else f_X12_costOf_J150 l9 m22 v23 (1 : Int32)))))
noncomputable def f_X12_costOf_B28 (p0 : Int32) : (Int32 × Int32 × Int32 × mi_M) → Option ((Int32 × Int32 × Int32 × mi_M) ⊕ (Int32 × Int32 × mi_M)) := fun s => match s with | (l7, l8, l9, m10) => mi_bo (f_X12_wrongs m10) fun v11 => if v11 ≤ l9 then some (.inr (l7, l8, m10)) else if ((p0 >>> (l9 &&& 31)) &&& (1 : Int32)) = (1 : Int32) then mi_g (vp_in ((14 : Int32) + l9) 1449) (mi_bo (f_X12_barOf l9 m10) fun v16 => mi_let ((m10.1 64 0 ((14 : Int32) + l9).toNatClampNeg) - v16) fun v17 => if 0 ≤ v17 then f_X12_costOf_J77 l7 l8 l9 m10 v17 else f_X12_costOf_J77 l7 l8 l9 m10 (0 : Int32)) else f_X12_costOf_J151 l9 l7 l8 m10
noncomputable def f_X12_costOf_K28 : (Int32 × Int32 × mi_M) → Option (Int32 × mi_M) := fun e => match e with | (e2, e3, m4) => if e3 = 0 then f_X12_costOf_J166 m4 (-1 : Int32) else f_X12_costOf_J166 m4 e2
noncomputable def f_X12_costOf_B2 : (Int32 × mi_M) → Option ((Int32 × mi_M) ⊕ (mi_M)) := fun s => match s with | (l36, m37) => if (6 : Int32) ≤ l36 then some (.inr m37) else mi_g (vp_in l36 6) (mi_let (mi_wI m37 69 0 l36.toNatClampNeg (0 : Int32)) fun m39 => some (.inl ((l36 + (1 : Int32)), m39)))
noncomputable def f_X12_costOf_K2 (p0 : Int32) : mi_M → Option (Int32 × mi_M) := fun m1 => mi_bo (mi_lp (f_X12_costOf_B28 p0) mi_fu ((0 : Int32), (1 : Int32), (0 : Int32), m1)) (f_X12_costOf_K28)
noncomputable def f_X12_costOf (p0 : Int32) (mem : mi_M) : Option (Int32 × mi_M) := mi_bo (mi_lp (f_X12_costOf_B2) mi_fu ((0 : Int32), mem)) (f_X12_costOf_K2 p0)
set_option maxRecDepth 100000 in
set_option maxHeartbeats 4000000 in
theorem w_X12_costOf (p0 : Int32) (mem : mi_M) (a : Int32 × mi_M) (e : f_X12_costOf p0 mem = some a) : mi_Ci (4) mX12_costOf [vr 12 0, vi p0] mem (fun x m' => x = a.1 ∧ m' = a.2) := by
  unfold mi_Ci
  refine mi_C_intro (ls := [(0, vr 12 0), (1, vi p0)]) (by decide) rfl rfl ?_
  obtain ⟨Q0, hq0, h⟩ : ∃ Q0 : (Int32 × mi_M) → Prop, (∀ b, Q0 b → b = a) ∧ wo (f_X12_costOf p0 mem) Q0 := ⟨fun b => b = a, fun _ h => h, wo_eq e⟩
  obtain ⟨QX, hQX⟩ : ∃ QX : Option mi_V → mi_M → Prop, QX = (fun r m' => ∃ x, r = some (vi x) ∧ x = a.1 ∧ m' = a.2) := ⟨_, rfl⟩
  rw [← hQX]
  unfold f_X12_costOf at h
  refine x_iconst (pc := 0) dX12_costOf_0 (v := (0 : Int32)) (by decide) ?_
  refine x_istore_n (ls' := [(2, _), (0, _), (1, _)]) (pc := 1) dX12_costOf_1 rfl rfl rfl ?_
  have k2_0 : ∀ (m1 : mi_M), wo (f_X12_costOf_K2 p0 m1) Q0 → mi_X mX12_costOf (4) 21 [(0, vr 12 0), (1, vi p0)] [] m1 QX := by
    intro m1 h
    unfold f_X12_costOf_K2 at h
    try dsimp only at h
    refine x_iconst (pc := 21) dX12_costOf_21 (v := (0 : Int32)) (by decide) ?_
    refine x_istore_n (ls' := [(2, _), (0, _), (1, _)]) (pc := 22) dX12_costOf_22 rfl rfl rfl ?_
    refine x_iconst (pc := 23) dX12_costOf_23 (v := (1 : Int32)) (by decide) ?_
    refine x_istore_n (ls' := [(3, _), (2, _), (0, _), (1, _)]) (pc := 24) dX12_costOf_24 rfl rfl rfl ?_
    refine x_iconst (pc := 25) dX12_costOf_25 (v := (0 : Int32)) (by decide) ?_
    refine x_istore (ls' := [(4, _), (3, _), (2, _), (0, _), (1, _)]) (pc := 26) dX12_costOf_26 rfl rfl ?_
    have k28_0 : ∀ (e2 : Int32) (e3 : Int32) (m4 : mi_M), wo (f_X12_costOf_K28 (e2, e3, m4)) Q0 → mi_X mX12_costOf (4) 157 [(2, vi e2), (3, vi e3)] [] m4 QX := by
      intro e2 e3 m4 h
      unfold f_X12_costOf_K28 at h
      try dsimp only at h
      refine x_iload_n (pc := 157) dX12_costOf_157 rfl ?_
      have j166 : ∀ (u5 : Int32), wo (f_X12_costOf_J166 m4 u5) Q0 → mi_X mX12_costOf (4) 166 [] [vi u5] m4 QX := by
        intro u5 h
        unfold f_X12_costOf_J166 at h
        exact x_iret (pc := 166) dX12_costOf_166 rfl (by rw [hQX]; exact ⟨_, rfl, congrArg Prod.fst (hq0 _ (wo_some h)), congrArg Prod.snd (hq0 _ (wo_some h))⟩)
      refine x_if_eq (pc := 158) dX12_costOf_158 (tgt := 165) (by decide) (fun c6 => ?_) (fun c6 => ?_)
      · replace h := wo_pos c6 h
        refine x_iconst (pc := 165) dX12_costOf_165 (v := (-1 : Int32)) (by decide) ?_
        refine x_sub [] trivial ?_
        exact j166 _ h
      · replace h := wo_neg c6 h
        refine x_iload_n (pc := 161) dX12_costOf_161 rfl ?_
        refine x_goto (pc := 162) dX12_costOf_162 (tgt := 166) (by decide) ?_
        refine x_sub [] trivial ?_
        exact j166 _ h
    refine x_sub [(0, _), (1, _), (2, _), (3, _), (4, _)] ⟨rfl, rfl, rfl, rfl, rfl, trivial⟩ ?_
    obtain ⟨ea, eb, h⟩ := wo_bo h
    refine wo_lq (X := fun s => match s with | (l7, l8, l9, m10) => mi_X mX12_costOf (4) 28 [(0, vr 12 0), (1, vi p0), (2, vi l7), (3, vi l8), (4, vi l9)] [] m10 QX) (E := fun e => wo (f_X12_costOf_K28 e) Q0) ?_ _ ((0 : Int32), (1 : Int32), (0 : Int32), m1) ⟨_, eb, h⟩
    intro Q28 hb28 he28 s h
    obtain ⟨l7, l8, l9, m10⟩ := s
    show mi_X mX12_costOf (4) 28 [(0, vr 12 0), (1, vi p0), (2, vi l7), (3, vi l8), (4, vi l9)] [] m10 QX
    unfold f_X12_costOf_B28 at h
    try dsimp only at h
    refine x_iload (pc := 28) dX12_costOf_28 rfl ?_
    refine x_aload_n (pc := 30) dX12_costOf_30 rfl ?_
    refine z_Vi0 (pc := 31) h dX12_costOf_31 lX12_273 (by decide) (by omega) rfl (fun a e => w_X12_wrongs _ a e) (fun v11 h => ?_)
    refine x_icmp_ge (pc := 34) dX12_costOf_34 (tgt := 157) (by decide) (fun c35 => ?_) (fun c35 => ?_)
    · replace h := wo_pos c35 h
      refine x_sub [(2, _), (3, _)] ⟨rfl, rfl, trivial⟩ ?_
      exact k28_0 _ _ _ (he28 (l7, l8, m10) (wo_some h))
    · replace h := wo_neg c35 h
      refine x_iload_n (pc := 37) dX12_costOf_37 rfl ?_
      refine x_iload (pc := 38) dX12_costOf_38 rfl ?_
      refine x_ishr (pc := 40) dX12_costOf_40 ?_
      refine x_iconst (pc := 41) dX12_costOf_41 (v := (1 : Int32)) (by decide) ?_
      refine x_iand (pc := 42) dX12_costOf_42 ?_
      refine x_iconst (pc := 43) dX12_costOf_43 (v := (1 : Int32)) (by decide) ?_
      have j151 : ∀ (u12 : Int32) (u13 : Int32) (m14 : mi_M), wo (f_X12_costOf_J151 l9 u12 u13 m14) Q28 → mi_X mX12_costOf (4) 151 [(0, vr 12 0), (1, vi p0), (2, vi u12), (3, vi u13), (4, vi l9)] [] m14 QX := by
        intro u12 u13 m14 h
        unfold f_X12_costOf_J151 at h
        refine x_iinc (ls' := [(4, _), (0, _), (1, _), (2, _), (3, _)]) (pc := 151) dX12_costOf_151 rfl (v := l9 + (1 : Int32)) rfl rfl rfl ?_
        refine x_goto (pc := 154) dX12_costOf_154 (tgt := 28) (by decide) ?_
        refine x_sub [(0, _), (1, _), (2, _), (3, _), (4, _)] ⟨rfl, rfl, rfl, rfl, rfl, trivial⟩ ?_
        exact hb28 (u12, u13, (l9 + (1 : Int32)), m14) (wo_some h)
      refine x_icmp_ne (pc := 44) dX12_costOf_44 (tgt := 151) (by decide) (fun c34 => ?_) (fun c34 => ?_)
      · replace h := wo_neg c34 h
        refine x_sub [(0, _), (1, _), (2, _), (3, _), (4, _)] ⟨rfl, rfl, rfl, rfl, rfl, trivial⟩ ?_
        exact j151 _ _ _ h
      · replace h := wo_pos c34 h
        refine x_aload_n (pc := 47) dX12_costOf_47 rfl ?_
        refine x_getS (pc := 48) dX12_costOf_48 fX12_113 rfl (by decide) ?_
        refine x_bipush (pc := 51) dX12_costOf_51 (v := (14 : Int32)) (by decide) ?_
        refine x_iload (pc := 53) dX12_costOf_53 rfl ?_
        refine x_iadd (pc := 55) dX12_costOf_55 ?_
        obtain ⟨hx15, h⟩ := wo_g h
        refine x_ialdJ (pc := 56) dX12_costOf_56 rfl rfl (by decide) hx15 ?_
        refine x_aload_n (pc := 57) dX12_costOf_57 rfl ?_
        refine x_iload (pc := 58) dX12_costOf_58 rfl ?_
        refine z_Vi1 (pc := 60) h dX12_costOf_60 lX12_323 (by decide) (by omega) rfl (fun a e => w_X12_barOf _ _ a e) (fun v16 h => ?_)
        refine x_isub (pc := 63) dX12_costOf_63 ?_
        refine x_leti h (fun v17 h => ?_)
        refine x_istore (ls' := [(5, _), (0, _), (1, _), (2, _), (3, _), (4, _)]) (pc := 64) dX12_costOf_64 rfl rfl ?_
        refine x_iload (pc := 66) dX12_costOf_66 rfl ?_
        have j77 : ∀ (u18 : Int32), wo (f_X12_costOf_J77 l7 l8 l9 m10 u18) Q28 → mi_X mX12_costOf (4) 77 [(0, vr 12 0), (1, vi p0), (2, vi l7), (3, vi l8), (4, vi l9)] [vi u18] m10 QX := by
          intro u18 h
          unfold f_X12_costOf_J77 at h
          refine x_istore (ls' := [(5, _), (0, _), (1, _), (2, _), (3, _), (4, _)]) (pc := 77) dX12_costOf_77 rfl rfl ?_
          refine x_aload_n (pc := 79) dX12_costOf_79 rfl ?_
          refine x_getS (pc := 80) dX12_costOf_80 fX12_129 rfl (by decide) ?_
          refine x_aload_n (pc := 83) dX12_costOf_83 rfl ?_
          refine x_iload (pc := 84) dX12_costOf_84 rfl ?_
          refine x_iconst (pc := 86) dX12_costOf_86 (v := (0 : Int32)) (by decide) ?_
          refine z_Vi2 (pc := 87) h dX12_costOf_87 lX12_297 (by decide) (by omega) rfl (fun a e => w_X12_wrongOf _ _ _ a e) (fun v19 h => ?_)
          refine x_dup2 (pc := 90) dX12_costOf_90 rfl rfl ?_
          obtain ⟨hx20, h⟩ := wo_g h
          refine x_ialdJ (pc := 91) dX12_costOf_91 rfl rfl (by decide) hx20 ?_
          refine x_iload (pc := 92) dX12_costOf_92 rfl ?_
          refine x_iadd (pc := 94) dX12_costOf_94 ?_
          obtain ⟨hx21, h⟩ := wo_g h
          refine x_iastJ (pc := 95) dX12_costOf_95 rfl rfl (by decide) rfl hx21 ?_
          refine x_letm h (fun m22 h => ?_)
          refine x_iload_n (pc := 96) dX12_costOf_96 rfl ?_
          refine x_iload (pc := 97) dX12_costOf_97 rfl ?_
          refine x_iadd (pc := 99) dX12_costOf_99 ?_
          refine x_leti h (fun v23 h => ?_)
          refine x_istore_n (ls' := [(2, _), (5, _), (0, _), (1, _), (3, _), (4, _)]) (pc := 100) dX12_costOf_100 rfl rfl rfl ?_
          refine x_iload_n (pc := 101) dX12_costOf_101 rfl ?_
          have j150 : ∀ (u24 : Int32), wo (f_X12_costOf_J150 l9 m22 v23 u24) Q28 → mi_X mX12_costOf (4) 150 [(0, vr 12 0), (1, vi p0), (2, vi v23), (4, vi l9)] [vi u24] m22 QX := by
            intro u24 h
            unfold f_X12_costOf_J150 at h
            refine x_istore_n (ls' := [(3, _), (0, _), (1, _), (2, _), (4, _)]) (pc := 150) dX12_costOf_150 rfl rfl rfl ?_
            refine x_sub [(0, _), (1, _), (2, _), (3, _), (4, _)] ⟨rfl, rfl, rfl, rfl, rfl, trivial⟩ ?_
            exact j151 _ _ _ h
          have j149 : wo (f_X12_costOf_J149 l9 m22 v23) Q28 → mi_X mX12_costOf (4) 149 [(0, vr 12 0), (1, vi p0), (2, vi v23), (4, vi l9)] [] m22 QX := by
            intro h
            unfold f_X12_costOf_J149 at h
            refine x_iconst (pc := 149) dX12_costOf_149 (v := (0 : Int32)) (by decide) ?_
            refine x_sub [(0, _), (1, _), (2, _), (4, _)] ⟨rfl, rfl, rfl, rfl, trivial⟩ ?_
            exact j150 _ h
          refine x_if_eq (pc := 102) dX12_costOf_102 (tgt := 149) (by decide) (fun c32 => ?_) (fun c32 => ?_)
          · replace h := wo_pos c32 h
            refine x_sub [(0, _), (1, _), (2, _), (4, _)] ⟨rfl, rfl, rfl, rfl, trivial⟩ ?_
            exact j149 h
          · replace h := wo_neg c32 h
            refine x_aload_n (pc := 105) dX12_costOf_105 rfl ?_
            refine x_iconst (pc := 106) dX12_costOf_106 (v := (0 : Int32)) (by decide) ?_
            refine x_iload (pc := 107) dX12_costOf_107 rfl ?_
            refine z_Vi2 (pc := 109) h dX12_costOf_109 lX12_319 (by decide) (by omega) rfl (fun a e => w_X12_isOpen _ _ _ a e) (fun v25 h => ?_)
            refine x_if_eq (pc := 112) dX12_costOf_112 (tgt := 149) (by decide) (fun c31 => ?_) (fun c31 => ?_)
            · replace h := wo_pos c31 h
              refine x_sub [(0, _), (1, _), (2, _), (4, _)] ⟨rfl, rfl, rfl, rfl, trivial⟩ ?_
              exact j149 h
            · replace h := wo_neg c31 h
              refine x_aload_n (pc := 115) dX12_costOf_115 rfl ?_
              refine x_getS (pc := 116) dX12_costOf_116 fX12_129 rfl (by decide) ?_
              refine x_aload_n (pc := 119) dX12_costOf_119 rfl ?_
              refine x_iload (pc := 120) dX12_costOf_120 rfl ?_
              refine x_iconst (pc := 122) dX12_costOf_122 (v := (0 : Int32)) (by decide) ?_
              refine z_Vi2 (pc := 123) h dX12_costOf_123 lX12_297 (by decide) (by omega) rfl (fun a e => w_X12_wrongOf _ _ _ a e) (fun v26 h => ?_)
              obtain ⟨hx27, h⟩ := wo_g h
              refine x_ialdJ (pc := 126) dX12_costOf_126 rfl rfl (by decide) hx27 ?_
              refine x_aload_n (pc := 127) dX12_costOf_127 rfl ?_
              refine x_getS (pc := 128) dX12_costOf_128 fX12_113 rfl (by decide) ?_
              refine x_bipush (pc := 131) dX12_costOf_131 (v := (8 : Int32)) (by decide) ?_
              refine x_aload_n (pc := 133) dX12_costOf_133 rfl ?_
              refine x_iload (pc := 134) dX12_costOf_134 rfl ?_
              refine x_iconst (pc := 136) dX12_costOf_136 (v := (0 : Int32)) (by decide) ?_
              refine z_Vi2 (pc := 137) h dX12_costOf_137 lX12_297 (by decide) (by omega) rfl (fun a e => w_X12_wrongOf _ _ _ a e) (fun v28 h => ?_)
              refine x_iadd (pc := 140) dX12_costOf_140 ?_
              obtain ⟨hx29, h⟩ := wo_g h
              refine x_ialdJ (pc := 141) dX12_costOf_141 rfl rfl (by decide) hx29 ?_
              refine x_icmp_gt (pc := 142) dX12_costOf_142 (tgt := 149) (by decide) (fun c30 => ?_) (fun c30 => ?_)
              · replace h := wo_pos c30 h
                refine x_sub [(0, _), (1, _), (2, _), (4, _)] ⟨rfl, rfl, rfl, rfl, trivial⟩ ?_
                exact j149 h
              · replace h := wo_neg c30 h
                refine x_iconst (pc := 145) dX12_costOf_145 (v := (1 : Int32)) (by decide) ?_
                refine x_goto (pc := 146) dX12_costOf_146 (tgt := 150) (by decide) ?_
                refine x_sub [(0, _), (1, _), (2, _), (4, _)] ⟨rfl, rfl, rfl, rfl, trivial⟩ ?_
                exact j150 _ h
        refine x_if_ge (pc := 68) dX12_costOf_68 (tgt := 75) (by decide) (fun c33 => ?_) (fun c33 => ?_)
        · replace h := wo_pos c33 h
          refine x_iload (pc := 75) dX12_costOf_75 rfl ?_
          refine x_sub [(0, _), (1, _), (2, _), (3, _), (4, _)] ⟨rfl, rfl, rfl, rfl, rfl, trivial⟩ ?_
          exact j77 _ h
        · replace h := wo_neg c33 h
          refine x_iconst (pc := 71) dX12_costOf_71 (v := (0 : Int32)) (by decide) ?_
          refine x_goto (pc := 72) dX12_costOf_72 (tgt := 77) (by decide) ?_
          refine x_sub [(0, _), (1, _), (2, _), (3, _), (4, _)] ⟨rfl, rfl, rfl, rfl, rfl, trivial⟩ ?_
          exact j77 _ h
  refine x_sub [(0, _), (1, _), (2, _)] ⟨rfl, rfl, rfl, trivial⟩ ?_
  obtain ⟨ea, eb, h⟩ := wo_bo h
  refine wo_lq (X := fun s => match s with | (l36, m37) => mi_X mX12_costOf (4) 2 [(0, vr 12 0), (1, vi p0), (2, vi l36)] [] m37 QX) (E := fun e => wo (f_X12_costOf_K2 p0 e) Q0) ?_ _ ((0 : Int32), mem) ⟨_, eb, h⟩
  intro Q2 hb2 he2 s h
  obtain ⟨l36, m37⟩ := s
  show mi_X mX12_costOf (4) 2 [(0, vr 12 0), (1, vi p0), (2, vi l36)] [] m37 QX
  unfold f_X12_costOf_B2 at h
  try dsimp only at h
  refine x_iload_n (pc := 2) dX12_costOf_2 rfl ?_
  refine x_bipush (pc := 3) dX12_costOf_3 (v := (6 : Int32)) (by decide) ?_
  refine x_icmp_ge (pc := 5) dX12_costOf_5 (tgt := 21) (by decide) (fun c40 => ?_) (fun c40 => ?_)
  · replace h := wo_pos c40 h
    refine x_sub [(0, _), (1, _)] ⟨rfl, rfl, trivial⟩ ?_
    exact k2_0 _ (he2 m37 (wo_some h))
  · replace h := wo_neg c40 h
    refine x_aload_n (pc := 8) dX12_costOf_8 rfl ?_
    refine x_getS (pc := 9) dX12_costOf_9 fX12_129 rfl (by decide) ?_
    refine x_iload_n (pc := 12) dX12_costOf_12 rfl ?_
    refine x_iconst (pc := 13) dX12_costOf_13 (v := (0 : Int32)) (by decide) ?_
    obtain ⟨hx38, h⟩ := wo_g h
    refine x_iastJ (pc := 14) dX12_costOf_14 rfl rfl (by decide) rfl hx38 ?_
    refine x_letm h (fun m39 h => ?_)
    refine x_iinc (ls' := [(2, _), (0, _), (1, _)]) (pc := 15) dX12_costOf_15 rfl (v := l36 + (1 : Int32)) rfl rfl rfl ?_
    refine x_goto (pc := 18) dX12_costOf_18 (tgt := 2) (by decide) ?_
    refine x_sub [(0, _), (1, _), (2, _)] ⟨rfl, rfl, rfl, trivial⟩ ?_
    exact hb2 ((l36 + (1 : Int32)), m39) (wo_some h)
noncomputable def f_X12_overSet_J33 (l2 : Int32) (l3 : Int32) (u6 : Int32) : Option ((Int32 × Int32) ⊕ (Int32)) := mi_let (l2 ||| u6) fun v7 => some (.inl (v7, (l3 + (1 : Int32))))
noncomputable def f_X12_overSet_B4 (mem : mi_M) : (Int32 × Int32) → Option ((Int32 × Int32) ⊕ (Int32)) := fun s => match s with | (l2, l3) => mi_bo (f_X12_wrongs mem) fun v4 => if v4 ≤ l3 then some (.inr l2) else mi_g (vp_in ((22 : Int32) + l3) 1449) (if (mem.1 64 0 ((22 : Int32) + l3).toNatClampNeg) = (1 : Int32) then f_X12_overSet_J33 l2 l3 ((1 : Int32) <<< (l3 &&& 31)) else f_X12_overSet_J33 l2 l3 (0 : Int32))
noncomputable def f_X12_overSet_K4 : Int32 → Option (Int32) := fun e1 => some e1
noncomputable def f_X12_overSet (mem : mi_M) : Option (Int32) := mi_bo (mi_lp (f_X12_overSet_B4 mem) mi_fu ((0 : Int32), (0 : Int32))) (f_X12_overSet_K4)
set_option maxRecDepth 100000 in
set_option maxHeartbeats 4000000 in
theorem w_X12_overSet (mem : mi_M) (a : Int32) (e : f_X12_overSet  mem = some a) : mi_Ci (2) mX12_overSet [vr 12 0] mem (fun x m' => x = a ∧ m' = mem) := by
  unfold mi_Ci
  refine mi_C_intro (ls := [(0, vr 12 0)]) (by decide) rfl rfl ?_
  obtain ⟨Q0, hq0, h⟩ : ∃ Q0 : Int32 → Prop, (∀ b, Q0 b → b = a) ∧ wo (f_X12_overSet  mem) Q0 := ⟨fun b => b = a, fun _ h => h, wo_eq e⟩
  obtain ⟨QX, hQX⟩ : ∃ QX : Option mi_V → mi_M → Prop, QX = (fun r m' => ∃ x, r = some (vi x) ∧ x = a ∧ m' = mem) := ⟨_, rfl⟩
  rw [← hQX]
  unfold f_X12_overSet at h
  refine x_iconst (pc := 0) dX12_overSet_0 (v := (0 : Int32)) (by decide) ?_
  refine x_istore_n (ls' := [(1, _), (0, _)]) (pc := 1) dX12_overSet_1 rfl rfl rfl ?_
  refine x_iconst (pc := 2) dX12_overSet_2 (v := (0 : Int32)) (by decide) ?_
  refine x_istore_n (ls' := [(2, _), (1, _), (0, _)]) (pc := 3) dX12_overSet_3 rfl rfl rfl ?_
  have k4_0 : ∀ (e1 : Int32), wo (f_X12_overSet_K4 e1) Q0 → mi_X mX12_overSet (2) 41 [(1, vi e1)] [] mem QX := by
    intro e1 h
    unfold f_X12_overSet_K4 at h
    try dsimp only at h
    refine x_iload_n (pc := 41) dX12_overSet_41 rfl ?_
    exact x_iret (pc := 42) dX12_overSet_42 rfl (by rw [hQX]; exact ⟨_, rfl, hq0 _ (wo_some h), rfl⟩)
  refine x_sub [(0, _), (1, _), (2, _)] ⟨rfl, rfl, rfl, trivial⟩ ?_
  obtain ⟨ea, eb, h⟩ := wo_bo h
  refine wo_lq (X := fun s => match s with | (l2, l3) => mi_X mX12_overSet (2) 4 [(0, vr 12 0), (1, vi l2), (2, vi l3)] [] mem QX) (E := fun e => wo (f_X12_overSet_K4 e) Q0) ?_ _ ((0 : Int32), (0 : Int32)) ⟨_, eb, h⟩
  intro Q4 hb4 he4 s h
  obtain ⟨l2, l3⟩ := s
  show mi_X mX12_overSet (2) 4 [(0, vr 12 0), (1, vi l2), (2, vi l3)] [] mem QX
  unfold f_X12_overSet_B4 at h
  try dsimp only at h
  refine x_iload_n (pc := 4) dX12_overSet_4 rfl ?_
  refine x_aload_n (pc := 5) dX12_overSet_5 rfl ?_
  refine z_Vi0 (pc := 6) h dX12_overSet_6 lX12_273 (by decide) (by omega) rfl (fun a e => w_X12_wrongs _ a e) (fun v4 h => ?_)
  refine x_icmp_ge (pc := 9) dX12_overSet_9 (tgt := 41) (by decide) (fun c9 => ?_) (fun c9 => ?_)
  · replace h := wo_pos c9 h
    refine x_sub [(1, _)] ⟨rfl, trivial⟩ ?_
    exact k4_0 _ (he4 l2 (wo_some h))
  · replace h := wo_neg c9 h
    refine x_iload_n (pc := 12) dX12_overSet_12 rfl ?_
    refine x_aload_n (pc := 13) dX12_overSet_13 rfl ?_
    refine x_getS (pc := 14) dX12_overSet_14 fX12_113 rfl (by decide) ?_
    refine x_bipush (pc := 17) dX12_overSet_17 (v := (22 : Int32)) (by decide) ?_
    refine x_iload_n (pc := 19) dX12_overSet_19 rfl ?_
    refine x_iadd (pc := 20) dX12_overSet_20 ?_
    obtain ⟨hx5, h⟩ := wo_g h
    refine x_ialdJ (pc := 21) dX12_overSet_21 rfl rfl (by decide) hx5 ?_
    refine x_iconst (pc := 22) dX12_overSet_22 (v := (1 : Int32)) (by decide) ?_
    have j33 : ∀ (u6 : Int32), wo (f_X12_overSet_J33 l2 l3 u6) Q4 → mi_X mX12_overSet (2) 33 [(0, vr 12 0), (2, vi l3)] [vi u6, vi l2] mem QX := by
      intro u6 h
      unfold f_X12_overSet_J33 at h
      refine x_ior (pc := 33) dX12_overSet_33 ?_
      refine x_leti h (fun v7 h => ?_)
      refine x_istore_n (ls' := [(1, _), (0, _), (2, _)]) (pc := 34) dX12_overSet_34 rfl rfl rfl ?_
      refine x_iinc (ls' := [(2, _), (1, _), (0, _)]) (pc := 35) dX12_overSet_35 rfl (v := l3 + (1 : Int32)) rfl rfl rfl ?_
      refine x_goto (pc := 38) dX12_overSet_38 (tgt := 4) (by decide) ?_
      refine x_sub [(0, _), (1, _), (2, _)] ⟨rfl, rfl, rfl, trivial⟩ ?_
      exact hb4 (v7, (l3 + (1 : Int32))) (wo_some h)
    refine x_icmp_ne (pc := 23) dX12_overSet_23 (tgt := 32) (by decide) (fun c8 => ?_) (fun c8 => ?_)
    · replace h := wo_neg c8 h
      refine x_iconst (pc := 32) dX12_overSet_32 (v := (0 : Int32)) (by decide) ?_
      refine x_sub [(0, _), (2, _)] ⟨rfl, rfl, trivial⟩ ?_
      exact j33 _ h
    · replace h := wo_pos c8 h
      refine x_iconst (pc := 26) dX12_overSet_26 (v := (1 : Int32)) (by decide) ?_
      refine x_iload_n (pc := 27) dX12_overSet_27 rfl ?_
      refine x_ishl (pc := 28) dX12_overSet_28 ?_
      refine x_goto (pc := 29) dX12_overSet_29 (tgt := 33) (by decide) ?_
      refine x_sub [(0, _), (2, _)] ⟨rfl, rfl, trivial⟩ ?_
      exact j33 _ h
noncomputable def f_X12_count (p0 : Int32) (mem : mi_M) : Option (Int32 × mi_M) := mi_let (mi_wI mem 12 0 0 (0 : Int32)) fun m1 => if p0 = (0 : Int32) then mi_g (vp_in p0 200) (some ((m1.1 56 0 p0.toNatClampNeg), m1)) else if p0 = (1 : Int32) then mi_g (vp_in p0 200) (some ((m1.1 56 0 p0.toNatClampNeg), m1)) else if p0 = (2 : Int32) then mi_g (vp_in p0 200) (some ((m1.1 56 0 p0.toNatClampNeg), m1)) else if p0 = (3 : Int32) then mi_g (vp_in p0 200) (some ((m1.1 56 0 p0.toNatClampNeg), m1)) else if p0 = (4 : Int32) then mi_g (vp_in (0 : Int32) 1449) (some ((m1.1 64 0 (0 : Int32).toNatClampNeg), m1)) else if p0 = (5 : Int32) then mi_bo (f_X12_overSet m1) fun v13 => some (v13, m1) else if p0 = (6 : Int32) then mi_g (vp_in (1 : Int32) 1449) (some ((m1.1 64 0 (1 : Int32).toNatClampNeg), m1)) else if p0 = (7 : Int32) then mi_bo (f_X12_coinsOf m1) fun v17 => some (v17, m1) else if p0 = (8 : Int32) then mi_g (vp_in (0 : Int32) 200) (some ((m1.1 61 0 (0 : Int32).toNatClampNeg), m1)) else if p0 = (9 : Int32) then mi_g (vp_in (38 : Int32) 1449) (some ((m1.1 64 0 (38 : Int32).toNatClampNeg), m1)) else if p0 = (10 : Int32) then some ((m1.1 12 0 22), m1) else if p0 = (11 : Int32) then some ((m1.1 12 0 2), m1) else some ((-1 : Int32), m1)
set_option maxRecDepth 100000 in
set_option maxHeartbeats 4000000 in
theorem w_X12_count (p0 : Int32) (mem : mi_M) (a : Int32 × mi_M) (e : f_X12_count p0 mem = some a) : mi_Ci (3) mX12_count [vr 12 0, vi p0] mem (fun x m' => x = a.1 ∧ m' = a.2) := by
  unfold mi_Ci
  refine mi_C_intro (ls := [(0, vr 12 0), (1, vi p0)]) (by decide) rfl rfl ?_
  obtain ⟨Q0, hq0, h⟩ : ∃ Q0 : (Int32 × mi_M) → Prop, (∀ b, Q0 b → b = a) ∧ wo (f_X12_count p0 mem) Q0 := ⟨fun b => b = a, fun _ h => h, wo_eq e⟩
  obtain ⟨QX, hQX⟩ : ∃ QX : Option mi_V → mi_M → Prop, QX = (fun r m' => ∃ x, r = some (vi x) ∧ x = a.1 ∧ m' = a.2) := ⟨_, rfl⟩
  rw [← hQX]
  unfold f_X12_count at h
  refine x_aload_n (pc := 0) dX12_count_0 rfl ?_
  refine x_iconst (pc := 1) dX12_count_1 (v := (0 : Int32)) (by decide) ?_
  refine x_putI (pc := 2) dX12_count_2 fX12_1 rfl (by decide) rfl rfl ?_
  refine x_letm h (fun m1 h => ?_)
  refine x_iload_n (pc := 5) dX12_count_5 rfl ?_
  by_cases c2 : p0 = (0 : Int32)
  · replace h := wo_pos c2 h
    refine x_swT (pc := 6) (c := (0 : Int32)) c2 dX12_count_6 (by decide) (by decide) rfl (tgt := 68) (by decide) ?_
    refine x_aload_n (pc := 68) dX12_count_68 rfl ?_
    refine x_getS (pc := 69) dX12_count_69 fX12_89 rfl (by decide) ?_
    refine x_iload_n (pc := 72) dX12_count_72 rfl ?_
    obtain ⟨hx3, h⟩ := wo_g h
    refine x_ialdJ (pc := 73) dX12_count_73 rfl rfl (by decide) hx3 ?_
    exact x_iret (pc := 74) dX12_count_74 rfl (by rw [hQX]; exact ⟨_, rfl, congrArg Prod.fst (hq0 _ (wo_some h)), congrArg Prod.snd (hq0 _ (wo_some h))⟩)
  · replace h := wo_neg c2 h
    by_cases c4 : p0 = (1 : Int32)
    · replace h := wo_pos c4 h
      refine x_swT (pc := 6) (c := (1 : Int32)) c4 dX12_count_6 (by decide) (by decide) rfl (tgt := 68) (by decide) ?_
      refine x_aload_n (pc := 68) dX12_count_68 rfl ?_
      refine x_getS (pc := 69) dX12_count_69 fX12_89 rfl (by decide) ?_
      refine x_iload_n (pc := 72) dX12_count_72 rfl ?_
      obtain ⟨hx5, h⟩ := wo_g h
      refine x_ialdJ (pc := 73) dX12_count_73 rfl rfl (by decide) hx5 ?_
      exact x_iret (pc := 74) dX12_count_74 rfl (by rw [hQX]; exact ⟨_, rfl, congrArg Prod.fst (hq0 _ (wo_some h)), congrArg Prod.snd (hq0 _ (wo_some h))⟩)
    · replace h := wo_neg c4 h
      by_cases c6 : p0 = (2 : Int32)
      · replace h := wo_pos c6 h
        refine x_swT (pc := 6) (c := (2 : Int32)) c6 dX12_count_6 (by decide) (by decide) rfl (tgt := 68) (by decide) ?_
        refine x_aload_n (pc := 68) dX12_count_68 rfl ?_
        refine x_getS (pc := 69) dX12_count_69 fX12_89 rfl (by decide) ?_
        refine x_iload_n (pc := 72) dX12_count_72 rfl ?_
        obtain ⟨hx7, h⟩ := wo_g h
        refine x_ialdJ (pc := 73) dX12_count_73 rfl rfl (by decide) hx7 ?_
        exact x_iret (pc := 74) dX12_count_74 rfl (by rw [hQX]; exact ⟨_, rfl, congrArg Prod.fst (hq0 _ (wo_some h)), congrArg Prod.snd (hq0 _ (wo_some h))⟩)
      · replace h := wo_neg c6 h
        by_cases c8 : p0 = (3 : Int32)
        · replace h := wo_pos c8 h
          refine x_swT (pc := 6) (c := (3 : Int32)) c8 dX12_count_6 (by decide) (by decide) rfl (tgt := 68) (by decide) ?_
          refine x_aload_n (pc := 68) dX12_count_68 rfl ?_
          refine x_getS (pc := 69) dX12_count_69 fX12_89 rfl (by decide) ?_
          refine x_iload_n (pc := 72) dX12_count_72 rfl ?_
          obtain ⟨hx9, h⟩ := wo_g h
          refine x_ialdJ (pc := 73) dX12_count_73 rfl rfl (by decide) hx9 ?_
          exact x_iret (pc := 74) dX12_count_74 rfl (by rw [hQX]; exact ⟨_, rfl, congrArg Prod.fst (hq0 _ (wo_some h)), congrArg Prod.snd (hq0 _ (wo_some h))⟩)
        · replace h := wo_neg c8 h
          by_cases c10 : p0 = (4 : Int32)
          · replace h := wo_pos c10 h
            refine x_swT (pc := 6) (c := (4 : Int32)) c10 dX12_count_6 (by decide) (by decide) rfl (tgt := 75) (by decide) ?_
            refine x_aload_n (pc := 75) dX12_count_75 rfl ?_
            refine x_getS (pc := 76) dX12_count_76 fX12_113 rfl (by decide) ?_
            refine x_iconst (pc := 79) dX12_count_79 (v := (0 : Int32)) (by decide) ?_
            obtain ⟨hx11, h⟩ := wo_g h
            refine x_ialdJ (pc := 80) dX12_count_80 rfl rfl (by decide) hx11 ?_
            exact x_iret (pc := 81) dX12_count_81 rfl (by rw [hQX]; exact ⟨_, rfl, congrArg Prod.fst (hq0 _ (wo_some h)), congrArg Prod.snd (hq0 _ (wo_some h))⟩)
          · replace h := wo_neg c10 h
            by_cases c12 : p0 = (5 : Int32)
            · replace h := wo_pos c12 h
              refine x_swT (pc := 6) (c := (5 : Int32)) c12 dX12_count_6 (by decide) (by decide) rfl (tgt := 82) (by decide) ?_
              refine x_aload_n (pc := 82) dX12_count_82 rfl ?_
              refine z_Vi0 (pc := 83) h dX12_count_83 lX12_465 (by decide) (by omega) rfl (fun a e => w_X12_overSet _ a e) (fun v13 h => ?_)
              exact x_iret (pc := 86) dX12_count_86 rfl (by rw [hQX]; exact ⟨_, rfl, congrArg Prod.fst (hq0 _ (wo_some h)), congrArg Prod.snd (hq0 _ (wo_some h))⟩)
            · replace h := wo_neg c12 h
              by_cases c14 : p0 = (6 : Int32)
              · replace h := wo_pos c14 h
                refine x_swT (pc := 6) (c := (6 : Int32)) c14 dX12_count_6 (by decide) (by decide) rfl (tgt := 87) (by decide) ?_
                refine x_aload_n (pc := 87) dX12_count_87 rfl ?_
                refine x_getS (pc := 88) dX12_count_88 fX12_113 rfl (by decide) ?_
                refine x_iconst (pc := 91) dX12_count_91 (v := (1 : Int32)) (by decide) ?_
                obtain ⟨hx15, h⟩ := wo_g h
                refine x_ialdJ (pc := 92) dX12_count_92 rfl rfl (by decide) hx15 ?_
                exact x_iret (pc := 93) dX12_count_93 rfl (by rw [hQX]; exact ⟨_, rfl, congrArg Prod.fst (hq0 _ (wo_some h)), congrArg Prod.snd (hq0 _ (wo_some h))⟩)
              · replace h := wo_neg c14 h
                by_cases c16 : p0 = (7 : Int32)
                · replace h := wo_pos c16 h
                  refine x_swT (pc := 6) (c := (7 : Int32)) c16 dX12_count_6 (by decide) (by decide) rfl (tgt := 94) (by decide) ?_
                  refine x_aload_n (pc := 94) dX12_count_94 rfl ?_
                  refine z_Vi0 (pc := 95) h dX12_count_95 lX12_468 (by decide) (by omega) rfl (fun a e => w_X12_coinsOf _ a e) (fun v17 h => ?_)
                  exact x_iret (pc := 98) dX12_count_98 rfl (by rw [hQX]; exact ⟨_, rfl, congrArg Prod.fst (hq0 _ (wo_some h)), congrArg Prod.snd (hq0 _ (wo_some h))⟩)
                · replace h := wo_neg c16 h
                  by_cases c18 : p0 = (8 : Int32)
                  · replace h := wo_pos c18 h
                    refine x_swT (pc := 6) (c := (8 : Int32)) c18 dX12_count_6 (by decide) (by decide) rfl (tgt := 99) (by decide) ?_
                    refine x_aload_n (pc := 99) dX12_count_99 rfl ?_
                    refine x_getS (pc := 100) dX12_count_100 fX12_104 rfl (by decide) ?_
                    refine x_iconst (pc := 103) dX12_count_103 (v := (0 : Int32)) (by decide) ?_
                    obtain ⟨hx19, h⟩ := wo_g h
                    refine x_ialdJ (pc := 104) dX12_count_104 rfl rfl (by decide) hx19 ?_
                    exact x_iret (pc := 105) dX12_count_105 rfl (by rw [hQX]; exact ⟨_, rfl, congrArg Prod.fst (hq0 _ (wo_some h)), congrArg Prod.snd (hq0 _ (wo_some h))⟩)
                  · replace h := wo_neg c18 h
                    by_cases c20 : p0 = (9 : Int32)
                    · replace h := wo_pos c20 h
                      refine x_swT (pc := 6) (c := (9 : Int32)) c20 dX12_count_6 (by decide) (by decide) rfl (tgt := 106) (by decide) ?_
                      refine x_aload_n (pc := 106) dX12_count_106 rfl ?_
                      refine x_getS (pc := 107) dX12_count_107 fX12_113 rfl (by decide) ?_
                      refine x_bipush (pc := 110) dX12_count_110 (v := (38 : Int32)) (by decide) ?_
                      obtain ⟨hx21, h⟩ := wo_g h
                      refine x_ialdJ (pc := 112) dX12_count_112 rfl rfl (by decide) hx21 ?_
                      exact x_iret (pc := 113) dX12_count_113 rfl (by rw [hQX]; exact ⟨_, rfl, congrArg Prod.fst (hq0 _ (wo_some h)), congrArg Prod.snd (hq0 _ (wo_some h))⟩)
                    · replace h := wo_neg c20 h
                      by_cases c22 : p0 = (10 : Int32)
                      · replace h := wo_pos c22 h
                        refine x_swT (pc := 6) (c := (10 : Int32)) c22 dX12_count_6 (by decide) (by decide) rfl (tgt := 114) (by decide) ?_
                        refine x_aload_n (pc := 114) dX12_count_114 rfl ?_
                        refine x_getI (pc := 115) dX12_count_115 fX12_306 rfl (by decide) ?_
                        exact x_iret (pc := 118) dX12_count_118 rfl (by rw [hQX]; exact ⟨_, rfl, congrArg Prod.fst (hq0 _ (wo_some h)), congrArg Prod.snd (hq0 _ (wo_some h))⟩)
                      · replace h := wo_neg c22 h
                        by_cases c23 : p0 = (11 : Int32)
                        · replace h := wo_pos c23 h
                          refine x_swT (pc := 6) (c := (11 : Int32)) c23 dX12_count_6 (by decide) (by decide) rfl (tgt := 119) (by decide) ?_
                          refine x_aload_n (pc := 119) dX12_count_119 rfl ?_
                          refine x_getI (pc := 120) dX12_count_120 fX12_11 rfl (by decide) ?_
                          exact x_iret (pc := 123) dX12_count_123 rfl (by rw [hQX]; exact ⟨_, rfl, congrArg Prod.fst (hq0 _ (wo_some h)), congrArg Prod.snd (hq0 _ (wo_some h))⟩)
                        · replace h := wo_neg c23 h
                          refine x_tableOut (pc := 6) dX12_count_6 (by have := lv_neT (a := 0) c2 (by decide); have := lv_neT (a := 1) c4 (by decide); have := lv_neT (a := 2) c6 (by decide); have := lv_neT (a := 3) c8 (by decide); have := lv_neT (a := 4) c10 (by decide); have := lv_neT (a := 5) c12 (by decide); have := lv_neT (a := 6) c14 (by decide); have := lv_neT (a := 7) c16 (by decide); have := lv_neT (a := 8) c18 (by decide); have := lv_neT (a := 9) c20 (by decide); have := lv_neT (a := 10) c22 (by decide); have := lv_neT (a := 11) c23 (by decide); omega) (tgt := 124) (by decide) ?_
                          refine x_iconst (pc := 124) dX12_count_124 (v := (-1 : Int32)) (by decide) ?_
                          exact x_iret (pc := 125) dX12_count_125 rfl (by rw [hQX]; exact ⟨_, rfl, congrArg Prod.fst (hq0 _ (wo_some h)), congrArg Prod.snd (hq0 _ (wo_some h))⟩)
noncomputable def f_X12_isDigit_J17 (u1 : Int32) : Option (Int32) := mi_g (u1 = 0 ∨ u1 = 1) (some u1)
noncomputable def f_X12_isDigit_J16 : Option (Int32) := f_X12_isDigit_J17 (0 : Int32)
noncomputable def f_X12_isDigit (p0 : Int32) (mem : mi_M) : Option (Int32) := if p0 < (48 : Int32) then f_X12_isDigit_J16 else if (57 : Int32) < p0 then f_X12_isDigit_J16 else f_X12_isDigit_J17 (1 : Int32)
set_option maxRecDepth 100000 in
set_option maxHeartbeats 4000000 in
theorem w_X12_isDigit (p0 : Int32) (mem : mi_M) (a : Int32) (e : f_X12_isDigit p0 mem = some a) : mi_Ci (1) mX12_isDigit [vi p0] mem (fun x m' => x = a ∧ m' = mem) := by
  unfold mi_Ci
  refine mi_C_intro (ls := [(0, vi p0)]) (by decide) rfl rfl ?_
  obtain ⟨Q0, hq0, h⟩ : ∃ Q0 : Int32 → Prop, (∀ b, Q0 b → b = a) ∧ wo (f_X12_isDigit p0 mem) Q0 := ⟨fun b => b = a, fun _ h => h, wo_eq e⟩
  obtain ⟨QX, hQX⟩ : ∃ QX : Option mi_V → mi_M → Prop, QX = (fun r m' => ∃ x, r = some (vi x) ∧ x = a ∧ m' = mem) := ⟨_, rfl⟩
  rw [← hQX]
  unfold f_X12_isDigit at h
  refine x_iload_n (pc := 0) dX12_isDigit_0 rfl ?_
  refine x_bipush (pc := 1) dX12_isDigit_1 (v := (48 : Int32)) (by decide) ?_
  have j17 : ∀ (u1 : Int32), wo (f_X12_isDigit_J17 u1) Q0 → mi_X mX12_isDigit (1) 17 [] [vi u1] mem QX := by
    intro u1 h
    unfold f_X12_isDigit_J17 at h
    obtain ⟨hb2, h⟩ := wo_g h
    exact x_zretB (pc := 17) dX12_isDigit_17 rfl hb2 (by rw [hQX]; exact ⟨_, rfl, hq0 _ (wo_some h), rfl⟩)
  have j16 : wo (f_X12_isDigit_J16) Q0 → mi_X mX12_isDigit (1) 16 [] [] mem QX := by
    intro h
    unfold f_X12_isDigit_J16 at h
    refine x_iconst (pc := 16) dX12_isDigit_16 (v := (0 : Int32)) (by decide) ?_
    refine x_sub [] trivial ?_
    exact j17 _ h
  refine x_icmp_lt (pc := 3) dX12_isDigit_3 (tgt := 16) (by decide) (fun c4 => ?_) (fun c4 => ?_)
  · replace h := wo_pos c4 h
    refine x_sub [] trivial ?_
    exact j16 h
  · replace h := wo_neg c4 h
    refine x_iload_n (pc := 6) dX12_isDigit_6 rfl ?_
    refine x_bipush (pc := 7) dX12_isDigit_7 (v := (57 : Int32)) (by decide) ?_
    refine x_icmp_gt (pc := 9) dX12_isDigit_9 (tgt := 16) (by decide) (fun c3 => ?_) (fun c3 => ?_)
    · replace h := wo_pos c3 h
      refine x_sub [] trivial ?_
      exact j16 h
    · replace h := wo_neg c3 h
      refine x_iconst (pc := 12) dX12_isDigit_12 (v := (1 : Int32)) (by decide) ?_
      refine x_goto (pc := 13) dX12_isDigit_13 (tgt := 17) (by decide) ?_
      refine x_sub [] trivial ?_
      exact j17 _ h
noncomputable def f_X12_isLetter_J17 (u1 : Int32) : Option (Int32) := mi_g (u1 = 0 ∨ u1 = 1) (some u1)
noncomputable def f_X12_isLetter_J16 : Option (Int32) := f_X12_isLetter_J17 (0 : Int32)
noncomputable def f_X12_isLetter (p0 : Int32) (mem : mi_M) : Option (Int32) := if p0 < (97 : Int32) then f_X12_isLetter_J16 else if (122 : Int32) < p0 then f_X12_isLetter_J16 else f_X12_isLetter_J17 (1 : Int32)
set_option maxRecDepth 100000 in
set_option maxHeartbeats 4000000 in
theorem w_X12_isLetter (p0 : Int32) (mem : mi_M) (a : Int32) (e : f_X12_isLetter p0 mem = some a) : mi_Ci (1) mX12_isLetter [vi p0] mem (fun x m' => x = a ∧ m' = mem) := by
  unfold mi_Ci
  refine mi_C_intro (ls := [(0, vi p0)]) (by decide) rfl rfl ?_
  obtain ⟨Q0, hq0, h⟩ : ∃ Q0 : Int32 → Prop, (∀ b, Q0 b → b = a) ∧ wo (f_X12_isLetter p0 mem) Q0 := ⟨fun b => b = a, fun _ h => h, wo_eq e⟩
  obtain ⟨QX, hQX⟩ : ∃ QX : Option mi_V → mi_M → Prop, QX = (fun r m' => ∃ x, r = some (vi x) ∧ x = a ∧ m' = mem) := ⟨_, rfl⟩
  rw [← hQX]
  unfold f_X12_isLetter at h
  refine x_iload_n (pc := 0) dX12_isLetter_0 rfl ?_
  refine x_bipush (pc := 1) dX12_isLetter_1 (v := (97 : Int32)) (by decide) ?_
  have j17 : ∀ (u1 : Int32), wo (f_X12_isLetter_J17 u1) Q0 → mi_X mX12_isLetter (1) 17 [] [vi u1] mem QX := by
    intro u1 h
    unfold f_X12_isLetter_J17 at h
    obtain ⟨hb2, h⟩ := wo_g h
    exact x_zretB (pc := 17) dX12_isLetter_17 rfl hb2 (by rw [hQX]; exact ⟨_, rfl, hq0 _ (wo_some h), rfl⟩)
  have j16 : wo (f_X12_isLetter_J16) Q0 → mi_X mX12_isLetter (1) 16 [] [] mem QX := by
    intro h
    unfold f_X12_isLetter_J16 at h
    refine x_iconst (pc := 16) dX12_isLetter_16 (v := (0 : Int32)) (by decide) ?_
    refine x_sub [] trivial ?_
    exact j17 _ h
  refine x_icmp_lt (pc := 3) dX12_isLetter_3 (tgt := 16) (by decide) (fun c4 => ?_) (fun c4 => ?_)
  · replace h := wo_pos c4 h
    refine x_sub [] trivial ?_
    exact j16 h
  · replace h := wo_neg c4 h
    refine x_iload_n (pc := 6) dX12_isLetter_6 rfl ?_
    refine x_bipush (pc := 7) dX12_isLetter_7 (v := (122 : Int32)) (by decide) ?_
    refine x_icmp_gt (pc := 9) dX12_isLetter_9 (tgt := 16) (by decide) (fun c3 => ?_) (fun c3 => ?_)
    · replace h := wo_pos c3 h
      refine x_sub [] trivial ?_
      exact j16 h
    · replace h := wo_neg c3 h
      refine x_iconst (pc := 12) dX12_isLetter_12 (v := (1 : Int32)) (by decide) ?_
      refine x_goto (pc := 13) dX12_isLetter_13 (tgt := 17) (by decide) ?_
      refine x_sub [] trivial ?_
      exact j17 _ h
noncomputable def f_X12_isSignOf_J53 (u1 : Int32) : Option (Int32) := mi_g (u1 = 0 ∨ u1 = 1) (some u1)
noncomputable def f_X12_isSignOf_J48 : Option (Int32) := f_X12_isSignOf_J53 (1 : Int32)
noncomputable def f_X12_isSignOf (p0 : Int32) (mem : mi_M) : Option (Int32) := if p0 = (40 : Int32) then f_X12_isSignOf_J48 else if p0 = (41 : Int32) then f_X12_isSignOf_J48 else if p0 = (59 : Int32) then f_X12_isSignOf_J48 else if p0 = (61 : Int32) then f_X12_isSignOf_J48 else if p0 = (60 : Int32) then f_X12_isSignOf_J48 else if p0 = (43 : Int32) then f_X12_isSignOf_J48 else if p0 = (45 : Int32) then f_X12_isSignOf_J48 else if p0 = (42 : Int32) then f_X12_isSignOf_J48 else f_X12_isSignOf_J53 (0 : Int32)
set_option maxRecDepth 100000 in
set_option maxHeartbeats 4000000 in
theorem w_X12_isSignOf (p0 : Int32) (mem : mi_M) (a : Int32) (e : f_X12_isSignOf p0 mem = some a) : mi_Ci (1) mX12_isSignOf [vi p0] mem (fun x m' => x = a ∧ m' = mem) := by
  unfold mi_Ci
  refine mi_C_intro (ls := [(0, vi p0)]) (by decide) rfl rfl ?_
  obtain ⟨Q0, hq0, h⟩ : ∃ Q0 : Int32 → Prop, (∀ b, Q0 b → b = a) ∧ wo (f_X12_isSignOf p0 mem) Q0 := ⟨fun b => b = a, fun _ h => h, wo_eq e⟩
  obtain ⟨QX, hQX⟩ : ∃ QX : Option mi_V → mi_M → Prop, QX = (fun r m' => ∃ x, r = some (vi x) ∧ x = a ∧ m' = mem) := ⟨_, rfl⟩
  rw [← hQX]
  unfold f_X12_isSignOf at h
  refine x_iload_n (pc := 0) dX12_isSignOf_0 rfl ?_
  refine x_bipush (pc := 1) dX12_isSignOf_1 (v := (40 : Int32)) (by decide) ?_
  have j53 : ∀ (u1 : Int32), wo (f_X12_isSignOf_J53 u1) Q0 → mi_X mX12_isSignOf (1) 53 [] [vi u1] mem QX := by
    intro u1 h
    unfold f_X12_isSignOf_J53 at h
    obtain ⟨hb2, h⟩ := wo_g h
    exact x_zretB (pc := 53) dX12_isSignOf_53 rfl hb2 (by rw [hQX]; exact ⟨_, rfl, hq0 _ (wo_some h), rfl⟩)
  have j48 : wo (f_X12_isSignOf_J48) Q0 → mi_X mX12_isSignOf (1) 48 [] [] mem QX := by
    intro h
    unfold f_X12_isSignOf_J48 at h
    refine x_iconst (pc := 48) dX12_isSignOf_48 (v := (1 : Int32)) (by decide) ?_
    refine x_goto (pc := 49) dX12_isSignOf_49 (tgt := 53) (by decide) ?_
    refine x_sub [] trivial ?_
    exact j53 _ h
  refine x_icmp_eq (pc := 3) dX12_isSignOf_3 (tgt := 48) (by decide) (fun c10 => ?_) (fun c10 => ?_)
  · replace h := wo_pos c10 h
    refine x_sub [] trivial ?_
    exact j48 h
  · replace h := wo_neg c10 h
    refine x_iload_n (pc := 6) dX12_isSignOf_6 rfl ?_
    refine x_bipush (pc := 7) dX12_isSignOf_7 (v := (41 : Int32)) (by decide) ?_
    refine x_icmp_eq (pc := 9) dX12_isSignOf_9 (tgt := 48) (by decide) (fun c9 => ?_) (fun c9 => ?_)
    · replace h := wo_pos c9 h
      refine x_sub [] trivial ?_
      exact j48 h
    · replace h := wo_neg c9 h
      refine x_iload_n (pc := 12) dX12_isSignOf_12 rfl ?_
      refine x_bipush (pc := 13) dX12_isSignOf_13 (v := (59 : Int32)) (by decide) ?_
      refine x_icmp_eq (pc := 15) dX12_isSignOf_15 (tgt := 48) (by decide) (fun c8 => ?_) (fun c8 => ?_)
      · replace h := wo_pos c8 h
        refine x_sub [] trivial ?_
        exact j48 h
      · replace h := wo_neg c8 h
        refine x_iload_n (pc := 18) dX12_isSignOf_18 rfl ?_
        refine x_bipush (pc := 19) dX12_isSignOf_19 (v := (61 : Int32)) (by decide) ?_
        refine x_icmp_eq (pc := 21) dX12_isSignOf_21 (tgt := 48) (by decide) (fun c7 => ?_) (fun c7 => ?_)
        · replace h := wo_pos c7 h
          refine x_sub [] trivial ?_
          exact j48 h
        · replace h := wo_neg c7 h
          refine x_iload_n (pc := 24) dX12_isSignOf_24 rfl ?_
          refine x_bipush (pc := 25) dX12_isSignOf_25 (v := (60 : Int32)) (by decide) ?_
          refine x_icmp_eq (pc := 27) dX12_isSignOf_27 (tgt := 48) (by decide) (fun c6 => ?_) (fun c6 => ?_)
          · replace h := wo_pos c6 h
            refine x_sub [] trivial ?_
            exact j48 h
          · replace h := wo_neg c6 h
            refine x_iload_n (pc := 30) dX12_isSignOf_30 rfl ?_
            refine x_bipush (pc := 31) dX12_isSignOf_31 (v := (43 : Int32)) (by decide) ?_
            refine x_icmp_eq (pc := 33) dX12_isSignOf_33 (tgt := 48) (by decide) (fun c5 => ?_) (fun c5 => ?_)
            · replace h := wo_pos c5 h
              refine x_sub [] trivial ?_
              exact j48 h
            · replace h := wo_neg c5 h
              refine x_iload_n (pc := 36) dX12_isSignOf_36 rfl ?_
              refine x_bipush (pc := 37) dX12_isSignOf_37 (v := (45 : Int32)) (by decide) ?_
              refine x_icmp_eq (pc := 39) dX12_isSignOf_39 (tgt := 48) (by decide) (fun c4 => ?_) (fun c4 => ?_)
              · replace h := wo_pos c4 h
                refine x_sub [] trivial ?_
                exact j48 h
              · replace h := wo_neg c4 h
                refine x_iload_n (pc := 42) dX12_isSignOf_42 rfl ?_
                refine x_bipush (pc := 43) dX12_isSignOf_43 (v := (42 : Int32)) (by decide) ?_
                refine x_icmp_ne (pc := 45) dX12_isSignOf_45 (tgt := 52) (by decide) (fun c3 => ?_) (fun c3 => ?_)
                · replace h := wo_neg c3 h
                  refine x_iconst (pc := 52) dX12_isSignOf_52 (v := (0 : Int32)) (by decide) ?_
                  refine x_sub [] trivial ?_
                  exact j53 _ h
                · replace h := wo_pos c3 h
                  refine x_sub [] trivial ?_
                  exact j48 h
noncomputable def f_X12_rank_J18 (u2 : Int32) : Option (Int32) := some u2
noncomputable def f_X12_rank (p0 : Int32) (mem : mi_M) : Option (Int32) := mi_bo (f_X12_isLetter p0 mem) fun v1 => if v1 = 0 then f_X12_rank_J18 (p0 - (21 : Int32)) else f_X12_rank_J18 (p0 - (96 : Int32))
set_option maxRecDepth 100000 in
set_option maxHeartbeats 4000000 in
theorem w_X12_rank (p0 : Int32) (mem : mi_M) (a : Int32) (e : f_X12_rank p0 mem = some a) : mi_Ci (2) mX12_rank [vi p0] mem (fun x m' => x = a ∧ m' = mem) := by
  unfold mi_Ci
  refine mi_C_intro (ls := [(0, vi p0)]) (by decide) rfl rfl ?_
  obtain ⟨Q0, hq0, h⟩ : ∃ Q0 : Int32 → Prop, (∀ b, Q0 b → b = a) ∧ wo (f_X12_rank p0 mem) Q0 := ⟨fun b => b = a, fun _ h => h, wo_eq e⟩
  obtain ⟨QX, hQX⟩ : ∃ QX : Option mi_V → mi_M → Prop, QX = (fun r m' => ∃ x, r = some (vi x) ∧ x = a ∧ m' = mem) := ⟨_, rfl⟩
  rw [← hQX]
  unfold f_X12_rank at h
  refine x_iload_n (pc := 0) dX12_rank_0 rfl ?_
  refine z_Si1 (pc := 1) h dX12_rank_1 lX12_157 (by omega) rfl (fun a e => w_X12_isLetter _ _ a e) (fun v1 h => ?_)
  have j18 : ∀ (u2 : Int32), wo (f_X12_rank_J18 u2) Q0 → mi_X mX12_rank (2) 18 [] [vi u2] mem QX := by
    intro u2 h
    unfold f_X12_rank_J18 at h
    exact x_iret (pc := 18) dX12_rank_18 rfl (by rw [hQX]; exact ⟨_, rfl, hq0 _ (wo_some h), rfl⟩)
  refine x_if_eq (pc := 4) dX12_rank_4 (tgt := 14) (by decide) (fun c3 => ?_) (fun c3 => ?_)
  · replace h := wo_pos c3 h
    refine x_iload_n (pc := 14) dX12_rank_14 rfl ?_
    refine x_bipush (pc := 15) dX12_rank_15 (v := (21 : Int32)) (by decide) ?_
    refine x_isub (pc := 17) dX12_rank_17 ?_
    refine x_sub [] trivial ?_
    exact j18 _ h
  · replace h := wo_neg c3 h
    refine x_iload_n (pc := 7) dX12_rank_7 rfl ?_
    refine x_bipush (pc := 8) dX12_rank_8 (v := (96 : Int32)) (by decide) ?_
    refine x_isub (pc := 10) dX12_rank_10 ?_
    refine x_goto (pc := 11) dX12_rank_11 (tgt := 18) (by decide) ?_
    refine x_sub [] trivial ?_
    exact j18 _ h
noncomputable def f_X12_cutAll_J44 (l11 : Int32) (l12 : Int32) (m13 : mi_M) : Option ((Int32 × Int32 × mi_M) ⊕ (Int32 × mi_M)) := some (.inl (l11, (l12 + (1 : Int32)), m13))
noncomputable def f_X12_cutAll_J265 (l11 : Int32) (u19 : Int32) (u20 : Int64) (m21 : mi_M) : Option ((Int32 × Int32 × mi_M) ⊕ (Int32 × mi_M)) := mi_g (vp_in l11 1002) (mi_let (mi_wL m21 54 0 l11.toNatClampNeg u20) fun m23 => some (.inl ((l11 + (1 : Int32)), u19, m23)))
noncomputable def f_X12_cutAll_J261 (l11 : Int32) (l12 : Int32) (m17 : mi_M) (v25 : Int64) (u27 : Int32) : Option ((Int32 × Int32 × mi_M) ⊕ (Int32 × mi_M)) := mi_g (vp_in l11 1002) (mi_let (mi_wI m17 52 0 l11.toNatClampNeg u27) fun m29 => f_X12_cutAll_J265 l11 (l12 + (1 : Int32)) v25 m29)
noncomputable def f_X12_cutAll_J236 (l11 : Int32) (m17 : mi_M) (e31 : Int32) (e32 : Int64) (u33 : Int32) : Option ((Int32 × Int32 × mi_M) ⊕ (Int32 × mi_M)) := mi_g (vp_in l11 1002) (mi_let (mi_wI m17 52 0 l11.toNatClampNeg u33) fun m35 => f_X12_cutAll_J265 l11 e31 e32 m35)
noncomputable def f_X12_cutAll_J210 (l37 : Int32) (u41 : Int64) : Option ((Int32 × Int64) ⊕ (Int32 × Int64)) := some (.inl ((l37 + (1 : Int32)), u41))
noncomputable def f_X12_cutAll_B159 (l12 : Int32) (m17 : mi_M) : (Int32 × Int64) → Option ((Int32 × Int64) ⊕ (Int32 × Int64)) := fun s => match s with | (l37, l38) => if (m17.1 12 0 3) ≤ l37 then some (.inr (l37, l38)) else mi_g (vp_in l37 1000) (mi_bo (f_X12_isDigit (m17.1 51 0 l37.toNatClampNeg) m17) fun v40 => if v40 = 0 then some (.inr (l37, l38)) else if (4 : Int32) ≤ (l37 - l12) then f_X12_cutAll_J210 l37 l38 else mi_g (vp_in l37 1000) (f_X12_cutAll_J210 l37 ((((10 : Int64) * l38) + ((m17.1 51 0 l37.toNatClampNeg)).toInt64) - (48 : Int64))))
noncomputable def f_X12_cutAll_K159 (l11 : Int32) (l12 : Int32) (m17 : mi_M) : (Int32 × Int64) → Option ((Int32 × Int32 × mi_M) ⊕ (Int32 × mi_M)) := fun e => match e with | (e31, e32) => if (e31 - l12) ≤ (4 : Int32) then f_X12_cutAll_J236 l11 m17 e31 e32 (2 : Int32) else f_X12_cutAll_J236 l11 m17 e31 e32 (4 : Int32)
noncomputable def f_X12_cutAll_J148 (l11 : Int32) (m17 : mi_M) (e47 : Int32) (e48 : Int64) (u49 : Int32) : Option ((Int32 × Int32 × mi_M) ⊕ (Int32 × mi_M)) := mi_g (vp_in l11 1002) (mi_let (mi_wI m17 52 0 l11.toNatClampNeg u49) fun m51 => f_X12_cutAll_J265 l11 e47 e48 m51)
noncomputable def f_X12_cutAll_J121 (l53 : Int32) (u57 : Int64) : Option ((Int32 × Int64) ⊕ (Int32 × Int64)) := some (.inl ((l53 + (1 : Int32)), u57))
noncomputable def f_X12_cutAll_B70 (l12 : Int32) (m17 : mi_M) : (Int32 × Int64) → Option ((Int32 × Int64) ⊕ (Int32 × Int64)) := fun s => match s with | (l53, l54) => if (m17.1 12 0 3) ≤ l53 then some (.inr (l53, l54)) else mi_g (vp_in l53 1000) (mi_bo (f_X12_isLetter (m17.1 51 0 l53.toNatClampNeg) m17) fun v56 => if v56 = 0 then some (.inr (l53, l54)) else if (8 : Int32) ≤ (l53 - l12) then f_X12_cutAll_J121 l53 l54 else mi_g (vp_in l53 1000) (mi_bo (f_X12_rank (m17.1 51 0 l53.toNatClampNeg) m17) fun v59 => f_X12_cutAll_J121 l53 (((37 : Int64) * l54) + (v59).toInt64)))
noncomputable def f_X12_cutAll_K70 (l11 : Int32) (l12 : Int32) (m17 : mi_M) : (Int32 × Int64) → Option ((Int32 × Int32 × mi_M) ⊕ (Int32 × mi_M)) := fun e => match e with | (e47, e48) => if (e47 - l12) ≤ (8 : Int32) then f_X12_cutAll_J148 l11 m17 e47 e48 (1 : Int32) else f_X12_cutAll_J148 l11 m17 e47 e48 (4 : Int32)
noncomputable def f_X12_cutAll_B17 : (Int32 × Int32 × mi_M) → Option ((Int32 × Int32 × mi_M) ⊕ (Int32 × mi_M)) := fun s => match s with | (l11, l12, m13) => if (m13.1 12 0 3) ≤ l12 then some (.inr (l11, m13)) else mi_g (vp_in l12 1000) (mi_let (m13.1 51 0 l12.toNatClampNeg) fun v15 => if v15 = (10 : Int32) then f_X12_cutAll_J44 l11 l12 m13 else if v15 = (32 : Int32) then f_X12_cutAll_J44 l11 l12 m13 else mi_g (vp_in l11 1002) (mi_let (mi_wI m13 53 0 l11.toNatClampNeg l12) fun m17 => mi_bo (f_X12_isLetter v15 m17) fun v18 => if v18 = 0 then mi_bo (f_X12_isDigit v15 m17) fun v24 => if v24 = 0 then mi_let ((v15).toInt64) fun v25 => mi_bo (f_X12_isSignOf v15 m17) fun v26 => if v26 = 0 then f_X12_cutAll_J261 l11 l12 m17 v25 (4 : Int32) else f_X12_cutAll_J261 l11 l12 m17 v25 (3 : Int32) else mi_bo (mi_lp (f_X12_cutAll_B159 l12 m17) mi_fu (l12, (0 : Int64))) (f_X12_cutAll_K159 l11 l12 m17) else mi_bo (mi_lp (f_X12_cutAll_B70 l12 m17) mi_fu (l12, (0 : Int64))) (f_X12_cutAll_K70 l11 l12 m17)))
noncomputable def f_X12_cutAll_K17 : (Int32 × mi_M) → Option (mi_M) := fun e => match e with | (e3, m4) => mi_g (vp_in e3 1002) (mi_let (mi_wI m4 52 0 e3.toNatClampNeg (0 : Int32)) fun m6 => mi_g (vp_in e3 1002) (mi_let (mi_wI m6 53 0 e3.toNatClampNeg (m6.1 12 0 3)) fun m8 => mi_let (mi_wI m8 12 0 7 (0 : Int32)) fun m9 => mi_let (mi_wI m9 12 0 8 (0 : Int32)) fun m10 => some m10))
noncomputable def f_X12_cutAll (mem : mi_M) : Option (mi_M) := mi_let (mi_wI mem 12 0 3 (mem.1 12 0 2)) fun m1 => mi_let (mi_wI m1 12 0 2 (0 : Int32)) fun m2 => mi_bo (mi_lp (f_X12_cutAll_B17) mi_fu ((0 : Int32), (0 : Int32), m2)) (f_X12_cutAll_K17)
set_option maxRecDepth 100000 in
set_option maxHeartbeats 4000000 in
theorem w_X12_cutAll (mem : mi_M) (a : mi_M) (e : f_X12_cutAll  mem = some a) : mi_Cv (3) mX12_cutAll [vr 12 0] mem (fun m' => m' = a) := by
  unfold mi_Cv
  refine mi_C_intro (ls := [(0, vr 12 0)]) (by decide) rfl rfl ?_
  obtain ⟨Q0, hq0, h⟩ : ∃ Q0 : mi_M → Prop, (∀ b, Q0 b → b = a) ∧ wo (f_X12_cutAll  mem) Q0 := ⟨fun b => b = a, fun _ h => h, wo_eq e⟩
  obtain ⟨QX, hQX⟩ : ∃ QX : Option mi_V → mi_M → Prop, QX = (fun r m' => r = none ∧ m' = a) := ⟨_, rfl⟩
  rw [← hQX]
  unfold f_X12_cutAll at h
  refine x_aload_n (pc := 0) dX12_cutAll_0 rfl ?_
  refine x_aload_n (pc := 1) dX12_cutAll_1 rfl ?_
  refine x_getI (pc := 2) dX12_cutAll_2 fX12_11 rfl (by decide) ?_
  refine x_putI (pc := 5) dX12_cutAll_5 fX12_161 rfl (by decide) rfl rfl ?_
  refine x_letm h (fun m1 h => ?_)
  refine x_aload_n (pc := 8) dX12_cutAll_8 rfl ?_
  refine x_iconst (pc := 9) dX12_cutAll_9 (v := (0 : Int32)) (by decide) ?_
  refine x_putI (pc := 10) dX12_cutAll_10 fX12_11 rfl (by decide) rfl rfl ?_
  refine x_letm h (fun m2 h => ?_)
  refine x_iconst (pc := 13) dX12_cutAll_13 (v := (0 : Int32)) (by decide) ?_
  refine x_istore_n (ls' := [(1, _), (0, _)]) (pc := 14) dX12_cutAll_14 rfl rfl rfl ?_
  refine x_iconst (pc := 15) dX12_cutAll_15 (v := (0 : Int32)) (by decide) ?_
  refine x_istore_n (ls' := [(2, _), (1, _), (0, _)]) (pc := 16) dX12_cutAll_16 rfl rfl rfl ?_
  have k17_0 : ∀ (e3 : Int32) (m4 : mi_M), wo (f_X12_cutAll_K17 (e3, m4)) Q0 → mi_X mX12_cutAll (3) 279 [(0, vr 12 0), (1, vi e3)] [] m4 QX := by
    intro e3 m4 h
    unfold f_X12_cutAll_K17 at h
    try dsimp only at h
    refine x_aload_n (pc := 279) dX12_cutAll_279 rfl ?_
    refine x_getS (pc := 280) dX12_cutAll_280 fX12_24 rfl (by decide) ?_
    refine x_iload_n (pc := 283) dX12_cutAll_283 rfl ?_
    refine x_iconst (pc := 284) dX12_cutAll_284 (v := (0 : Int32)) (by decide) ?_
    obtain ⟨hx5, h⟩ := wo_g h
    refine x_iastJ (pc := 285) dX12_cutAll_285 rfl rfl (by decide) rfl hx5 ?_
    refine x_letm h (fun m6 h => ?_)
    refine x_aload_n (pc := 286) dX12_cutAll_286 rfl ?_
    refine x_getS (pc := 287) dX12_cutAll_287 fX12_27 rfl (by decide) ?_
    refine x_iload_n (pc := 290) dX12_cutAll_290 rfl ?_
    refine x_aload_n (pc := 291) dX12_cutAll_291 rfl ?_
    refine x_getI (pc := 292) dX12_cutAll_292 fX12_161 rfl (by decide) ?_
    obtain ⟨hx7, h⟩ := wo_g h
    refine x_iastJ (pc := 295) dX12_cutAll_295 rfl rfl (by decide) rfl hx7 ?_
    refine x_letm h (fun m8 h => ?_)
    refine x_aload_n (pc := 296) dX12_cutAll_296 rfl ?_
    refine x_iconst (pc := 297) dX12_cutAll_297 (v := (0 : Int32)) (by decide) ?_
    refine x_putI (pc := 298) dX12_cutAll_298 fX12_180 rfl (by decide) rfl rfl ?_
    refine x_letm h (fun m9 h => ?_)
    refine x_aload_n (pc := 301) dX12_cutAll_301 rfl ?_
    refine x_iconst (pc := 302) dX12_cutAll_302 (v := (0 : Int32)) (by decide) ?_
    refine x_putI (pc := 303) dX12_cutAll_303 fX12_183 rfl (by decide) rfl rfl ?_
    refine x_letm h (fun m10 h => ?_)
    exact x_ret (pc := 306) dX12_cutAll_306 rfl (by rw [hQX]; exact ⟨rfl, hq0 _ (wo_some h)⟩)
  refine x_sub [(0, _), (1, _), (2, _)] ⟨rfl, rfl, rfl, trivial⟩ ?_
  obtain ⟨ea, eb, h⟩ := wo_bo h
  refine wo_lq (X := fun s => match s with | (l11, l12, m13) => mi_X mX12_cutAll (3) 17 [(0, vr 12 0), (1, vi l11), (2, vi l12)] [] m13 QX) (E := fun e => wo (f_X12_cutAll_K17 e) Q0) ?_ _ ((0 : Int32), (0 : Int32), m2) ⟨_, eb, h⟩
  intro Q17 hb17 he17 s h
  obtain ⟨l11, l12, m13⟩ := s
  show mi_X mX12_cutAll (3) 17 [(0, vr 12 0), (1, vi l11), (2, vi l12)] [] m13 QX
  unfold f_X12_cutAll_B17 at h
  try dsimp only at h
  refine x_iload_n (pc := 17) dX12_cutAll_17 rfl ?_
  refine x_aload_n (pc := 18) dX12_cutAll_18 rfl ?_
  refine x_getI (pc := 19) dX12_cutAll_19 fX12_161 rfl (by decide) ?_
  refine x_icmp_ge (pc := 22) dX12_cutAll_22 (tgt := 279) (by decide) (fun c66 => ?_) (fun c66 => ?_)
  · replace h := wo_pos c66 h
    refine x_sub [(0, _), (1, _)] ⟨rfl, rfl, trivial⟩ ?_
    exact k17_0 _ _ (he17 (l11, m13) (wo_some h))
  · replace h := wo_neg c66 h
    refine x_aload_n (pc := 25) dX12_cutAll_25 rfl ?_
    refine x_getS (pc := 26) dX12_cutAll_26 fX12_14 rfl (by decide) ?_
    refine x_iload_n (pc := 29) dX12_cutAll_29 rfl ?_
    obtain ⟨hx14, h⟩ := wo_g h
    refine x_ialdJ (pc := 30) dX12_cutAll_30 rfl rfl (by decide) hx14 ?_
    refine x_leti h (fun v15 h => ?_)
    refine x_istore_n (ls' := [(3, _), (0, _), (1, _), (2, _)]) (pc := 31) dX12_cutAll_31 rfl rfl rfl ?_
    refine x_iload_n (pc := 32) dX12_cutAll_32 rfl ?_
    refine x_bipush (pc := 33) dX12_cutAll_33 (v := (10 : Int32)) (by decide) ?_
    have j44 : wo (f_X12_cutAll_J44 l11 l12 m13) Q17 → mi_X mX12_cutAll (3) 44 [(0, vr 12 0), (1, vi l11), (2, vi l12)] [] m13 QX := by
      intro h
      unfold f_X12_cutAll_J44 at h
      refine x_iinc (ls' := [(2, _), (0, _), (1, _)]) (pc := 44) dX12_cutAll_44 rfl (v := l12 + (1 : Int32)) rfl rfl rfl ?_
      refine x_goto (pc := 47) dX12_cutAll_47 (tgt := 17) (by decide) ?_
      refine x_sub [(0, _), (1, _), (2, _)] ⟨rfl, rfl, rfl, trivial⟩ ?_
      exact hb17 (l11, (l12 + (1 : Int32)), m13) (wo_some h)
    refine x_icmp_eq (pc := 35) dX12_cutAll_35 (tgt := 44) (by decide) (fun c65 => ?_) (fun c65 => ?_)
    · replace h := wo_pos c65 h
      refine x_sub [(0, _), (1, _), (2, _)] ⟨rfl, rfl, rfl, trivial⟩ ?_
      exact j44 h
    · replace h := wo_neg c65 h
      refine x_iload_n (pc := 38) dX12_cutAll_38 rfl ?_
      refine x_bipush (pc := 39) dX12_cutAll_39 (v := (32 : Int32)) (by decide) ?_
      refine x_icmp_ne (pc := 41) dX12_cutAll_41 (tgt := 50) (by decide) (fun c64 => ?_) (fun c64 => ?_)
      · replace h := wo_neg c64 h
        refine x_iload_n (pc := 50) dX12_cutAll_50 rfl ?_
        refine x_istore (ls' := [(4, _), (3, _), (0, _), (1, _), (2, _)]) (pc := 51) dX12_cutAll_51 rfl rfl ?_
        refine x_lconst (pc := 53) dX12_cutAll_53 (v := (0 : Int64)) (by decide) ?_
        refine x_lstore (ls' := [(5, _), (4, _), (3, _), (0, _), (1, _), (2, _)]) (pc := 54) dX12_cutAll_54 rfl rfl ?_
        refine x_aload_n (pc := 56) dX12_cutAll_56 rfl ?_
        refine x_getS (pc := 57) dX12_cutAll_57 fX12_27 rfl (by decide) ?_
        refine x_iload_n (pc := 60) dX12_cutAll_60 rfl ?_
        refine x_iload_n (pc := 61) dX12_cutAll_61 rfl ?_
        obtain ⟨hx16, h⟩ := wo_g h
        refine x_iastJ (pc := 62) dX12_cutAll_62 rfl rfl (by decide) rfl hx16 ?_
        refine x_letm h (fun m17 h => ?_)
        refine x_iload_n (pc := 63) dX12_cutAll_63 rfl ?_
        refine z_Si1 (pc := 64) h dX12_cutAll_64 lX12_157 (by omega) rfl (fun a e => w_X12_isLetter _ _ a e) (fun v18 h => ?_)
        have j265 : ∀ (u19 : Int32) (u20 : Int64) (m21 : mi_M), wo (f_X12_cutAll_J265 l11 u19 u20 m21) Q17 → mi_X mX12_cutAll (3) 265 [(0, vr 12 0), (1, vi l11), (2, vi u19), (5, vl u20)] [] m21 QX := by
          intro u19 u20 m21 h
          unfold f_X12_cutAll_J265 at h
          refine x_aload_n (pc := 265) dX12_cutAll_265 rfl ?_
          refine x_getS (pc := 266) dX12_cutAll_266 fX12_30 rfl (by decide) ?_
          refine x_iload_n (pc := 269) dX12_cutAll_269 rfl ?_
          refine x_lload (pc := 270) dX12_cutAll_270 rfl ?_
          obtain ⟨hx22, h⟩ := wo_g h
          refine x_lastJ (pc := 272) dX12_cutAll_272 rfl rfl (by decide) rfl hx22 ?_
          refine x_letm h (fun m23 h => ?_)
          refine x_iinc (ls' := [(1, _), (0, _), (2, _), (5, _)]) (pc := 273) dX12_cutAll_273 rfl (v := l11 + (1 : Int32)) rfl rfl rfl ?_
          refine x_goto (pc := 276) dX12_cutAll_276 (tgt := 17) (by decide) ?_
          refine x_sub [(0, _), (1, _), (2, _)] ⟨rfl, rfl, rfl, trivial⟩ ?_
          exact hb17 ((l11 + (1 : Int32)), u19, m23) (wo_some h)
        refine x_if_eq (pc := 67) dX12_cutAll_67 (tgt := 152) (by decide) (fun c63 => ?_) (fun c63 => ?_)
        · replace h := wo_pos c63 h
          refine x_iload_n (pc := 152) dX12_cutAll_152 rfl ?_
          refine z_Si1 (pc := 153) h dX12_cutAll_153 lX12_170 (by omega) rfl (fun a e => w_X12_isDigit _ _ a e) (fun v24 h => ?_)
          refine x_if_eq (pc := 156) dX12_cutAll_156 (tgt := 240) (by decide) (fun c46 => ?_) (fun c46 => ?_)
          · replace h := wo_pos c46 h
            refine x_iload_n (pc := 240) dX12_cutAll_240 rfl ?_
            refine x_i2l (pc := 241) dX12_cutAll_241 rfl ?_
            refine x_letl h (fun v25 h => ?_)
            refine x_lstore (ls' := [(5, _), (4, _), (3, _), (0, _), (1, _), (2, _)]) (pc := 242) dX12_cutAll_242 rfl rfl ?_
            refine x_aload_n (pc := 244) dX12_cutAll_244 rfl ?_
            refine x_getS (pc := 245) dX12_cutAll_245 fX12_24 rfl (by decide) ?_
            refine x_iload_n (pc := 248) dX12_cutAll_248 rfl ?_
            refine x_iload_n (pc := 249) dX12_cutAll_249 rfl ?_
            refine z_Si1 (pc := 250) h dX12_cutAll_250 lX12_177 (by omega) rfl (fun a e => w_X12_isSignOf _ _ a e) (fun v26 h => ?_)
            have j261 : ∀ (u27 : Int32), wo (f_X12_cutAll_J261 l11 l12 m17 v25 u27) Q17 → mi_X mX12_cutAll (3) 261 [(0, vr 12 0), (1, vi l11), (2, vi l12), (5, vl v25)] [vi u27, vi l11, vr 52 0] m17 QX := by
              intro u27 h
              unfold f_X12_cutAll_J261 at h
              obtain ⟨hx28, h⟩ := wo_g h
              refine x_iastJ (pc := 261) dX12_cutAll_261 rfl rfl (by decide) rfl hx28 ?_
              refine x_letm h (fun m29 h => ?_)
              refine x_iinc (ls' := [(2, _), (0, _), (1, _), (5, _)]) (pc := 262) dX12_cutAll_262 rfl (v := l12 + (1 : Int32)) rfl rfl rfl ?_
              refine x_sub [(0, _), (1, _), (2, _), (5, _)] ⟨rfl, rfl, rfl, rfl, trivial⟩ ?_
              exact j265 _ _ _ h
            refine x_if_eq (pc := 253) dX12_cutAll_253 (tgt := 260) (by decide) (fun c30 => ?_) (fun c30 => ?_)
            · replace h := wo_pos c30 h
              refine x_iconst (pc := 260) dX12_cutAll_260 (v := (4 : Int32)) (by decide) ?_
              refine x_sub [(0, _), (1, _), (2, _), (5, _)] ⟨rfl, rfl, rfl, rfl, trivial⟩ ?_
              exact j261 _ h
            · replace h := wo_neg c30 h
              refine x_iconst (pc := 256) dX12_cutAll_256 (v := (3 : Int32)) (by decide) ?_
              refine x_goto (pc := 257) dX12_cutAll_257 (tgt := 261) (by decide) ?_
              refine x_sub [(0, _), (1, _), (2, _), (5, _)] ⟨rfl, rfl, rfl, rfl, trivial⟩ ?_
              exact j261 _ h
          · replace h := wo_neg c46 h
            have k159_0 : ∀ (e31 : Int32) (e32 : Int64), wo (f_X12_cutAll_K159 l11 l12 m17 (e31, e32)) Q17 → mi_X mX12_cutAll (3) 218 [(0, vr 12 0), (1, vi l11), (2, vi e31), (4, vi l12), (5, vl e32)] [] m17 QX := by
              intro e31 e32 h
              unfold f_X12_cutAll_K159 at h
              try dsimp only at h
              refine x_aload_n (pc := 218) dX12_cutAll_218 rfl ?_
              refine x_getS (pc := 219) dX12_cutAll_219 fX12_24 rfl (by decide) ?_
              refine x_iload_n (pc := 222) dX12_cutAll_222 rfl ?_
              refine x_iload_n (pc := 223) dX12_cutAll_223 rfl ?_
              refine x_iload (pc := 224) dX12_cutAll_224 rfl ?_
              refine x_isub (pc := 226) dX12_cutAll_226 ?_
              refine x_iconst (pc := 227) dX12_cutAll_227 (v := (4 : Int32)) (by decide) ?_
              have j236 : ∀ (u33 : Int32), wo (f_X12_cutAll_J236 l11 m17 e31 e32 u33) Q17 → mi_X mX12_cutAll (3) 236 [(0, vr 12 0), (1, vi l11), (2, vi e31), (5, vl e32)] [vi u33, vi l11, vr 52 0] m17 QX := by
                intro u33 h
                unfold f_X12_cutAll_J236 at h
                obtain ⟨hx34, h⟩ := wo_g h
                refine x_iastJ (pc := 236) dX12_cutAll_236 rfl rfl (by decide) rfl hx34 ?_
                refine x_letm h (fun m35 h => ?_)
                refine x_goto (pc := 237) dX12_cutAll_237 (tgt := 265) (by decide) ?_
                refine x_sub [(0, _), (1, _), (2, _), (5, _)] ⟨rfl, rfl, rfl, rfl, trivial⟩ ?_
                exact j265 _ _ _ h
              refine x_icmp_le (pc := 228) dX12_cutAll_228 (tgt := 235) (by decide) (fun c36 => ?_) (fun c36 => ?_)
              · replace h := wo_pos c36 h
                refine x_iconst (pc := 235) dX12_cutAll_235 (v := (2 : Int32)) (by decide) ?_
                refine x_sub [(0, _), (1, _), (2, _), (5, _)] ⟨rfl, rfl, rfl, rfl, trivial⟩ ?_
                exact j236 _ h
              · replace h := wo_neg c36 h
                refine x_iconst (pc := 231) dX12_cutAll_231 (v := (4 : Int32)) (by decide) ?_
                refine x_goto (pc := 232) dX12_cutAll_232 (tgt := 236) (by decide) ?_
                refine x_sub [(0, _), (1, _), (2, _), (5, _)] ⟨rfl, rfl, rfl, rfl, trivial⟩ ?_
                exact j236 _ h
            refine x_sub [(0, _), (1, _), (2, _), (4, _), (5, _)] ⟨rfl, rfl, rfl, rfl, rfl, trivial⟩ ?_
            obtain ⟨ea, eb, h⟩ := wo_bo h
            refine wo_lq (X := fun s => match s with | (l37, l38) => mi_X mX12_cutAll (3) 159 [(0, vr 12 0), (1, vi l11), (2, vi l37), (4, vi l12), (5, vl l38)] [] m17 QX) (E := fun e => wo (f_X12_cutAll_K159 l11 l12 m17 e) Q17) ?_ _ (l12, (0 : Int64)) ⟨_, eb, h⟩
            intro Q159 hb159 he159 s h
            obtain ⟨l37, l38⟩ := s
            show mi_X mX12_cutAll (3) 159 [(0, vr 12 0), (1, vi l11), (2, vi l37), (4, vi l12), (5, vl l38)] [] m17 QX
            unfold f_X12_cutAll_B159 at h
            try dsimp only at h
            refine x_iload_n (pc := 159) dX12_cutAll_159 rfl ?_
            refine x_aload_n (pc := 160) dX12_cutAll_160 rfl ?_
            refine x_getI (pc := 161) dX12_cutAll_161 fX12_161 rfl (by decide) ?_
            refine x_icmp_ge (pc := 164) dX12_cutAll_164 (tgt := 218) (by decide) (fun c45 => ?_) (fun c45 => ?_)
            · replace h := wo_pos c45 h
              refine x_sub [(0, _), (1, _), (2, _), (4, _), (5, _)] ⟨rfl, rfl, rfl, rfl, rfl, trivial⟩ ?_
              exact k159_0 _ _ (he159 (l37, l38) (wo_some h))
            · replace h := wo_neg c45 h
              refine x_aload_n (pc := 167) dX12_cutAll_167 rfl ?_
              refine x_getS (pc := 168) dX12_cutAll_168 fX12_14 rfl (by decide) ?_
              refine x_iload_n (pc := 171) dX12_cutAll_171 rfl ?_
              obtain ⟨hx39, h⟩ := wo_g h
              refine x_ialdJ (pc := 172) dX12_cutAll_172 rfl rfl (by decide) hx39 ?_
              refine z_Si1 (pc := 173) h dX12_cutAll_173 lX12_170 (by omega) rfl (fun a e => w_X12_isDigit _ _ a e) (fun v40 h => ?_)
              refine x_if_eq (pc := 176) dX12_cutAll_176 (tgt := 218) (by decide) (fun c44 => ?_) (fun c44 => ?_)
              · replace h := wo_pos c44 h
                refine x_sub [(0, _), (1, _), (2, _), (4, _), (5, _)] ⟨rfl, rfl, rfl, rfl, rfl, trivial⟩ ?_
                exact k159_0 _ _ (he159 (l37, l38) (wo_some h))
              · replace h := wo_neg c44 h
                refine x_iload_n (pc := 179) dX12_cutAll_179 rfl ?_
                refine x_iload (pc := 180) dX12_cutAll_180 rfl ?_
                refine x_isub (pc := 182) dX12_cutAll_182 ?_
                refine x_iconst (pc := 183) dX12_cutAll_183 (v := (4 : Int32)) (by decide) ?_
                have j210 : ∀ (u41 : Int64), wo (f_X12_cutAll_J210 l37 u41) Q159 → mi_X mX12_cutAll (3) 210 [(0, vr 12 0), (1, vi l11), (2, vi l37), (4, vi l12)] [vl u41] m17 QX := by
                  intro u41 h
                  unfold f_X12_cutAll_J210 at h
                  refine x_lstore (ls' := [(5, _), (0, _), (1, _), (2, _), (4, _)]) (pc := 210) dX12_cutAll_210 rfl rfl ?_
                  refine x_iinc (ls' := [(2, _), (5, _), (0, _), (1, _), (4, _)]) (pc := 212) dX12_cutAll_212 rfl (v := l37 + (1 : Int32)) rfl rfl rfl ?_
                  refine x_goto (pc := 215) dX12_cutAll_215 (tgt := 159) (by decide) ?_
                  refine x_sub [(0, _), (1, _), (2, _), (4, _), (5, _)] ⟨rfl, rfl, rfl, rfl, rfl, trivial⟩ ?_
                  exact hb159 ((l37 + (1 : Int32)), u41) (wo_some h)
                refine x_icmp_ge (pc := 184) dX12_cutAll_184 (tgt := 208) (by decide) (fun c43 => ?_) (fun c43 => ?_)
                · replace h := wo_pos c43 h
                  refine x_lload (pc := 208) dX12_cutAll_208 rfl ?_
                  refine x_sub [(0, _), (1, _), (2, _), (4, _)] ⟨rfl, rfl, rfl, rfl, trivial⟩ ?_
                  exact j210 _ h
                · replace h := wo_neg c43 h
                  refine x_ldc2 (pc := 187) dX12_cutAll_187 kX12_173 ?_
                  refine x_lload (pc := 190) dX12_cutAll_190 rfl ?_
                  refine x_lmul (pc := 192) dX12_cutAll_192 ?_
                  refine x_aload_n (pc := 193) dX12_cutAll_193 rfl ?_
                  refine x_getS (pc := 194) dX12_cutAll_194 fX12_14 rfl (by decide) ?_
                  refine x_iload_n (pc := 197) dX12_cutAll_197 rfl ?_
                  obtain ⟨hx42, h⟩ := wo_g h
                  refine x_ialdJ (pc := 198) dX12_cutAll_198 rfl rfl (by decide) hx42 ?_
                  refine x_i2l (pc := 199) dX12_cutAll_199 rfl ?_
                  refine x_ladd (pc := 200) dX12_cutAll_200 ?_
                  refine x_ldc2 (pc := 201) dX12_cutAll_201 kX12_175 ?_
                  refine x_lsub (pc := 204) dX12_cutAll_204 ?_
                  refine x_goto (pc := 205) dX12_cutAll_205 (tgt := 210) (by decide) ?_
                  refine x_sub [(0, _), (1, _), (2, _), (4, _)] ⟨rfl, rfl, rfl, rfl, trivial⟩ ?_
                  exact j210 _ h
        · replace h := wo_neg c63 h
          have k70_0 : ∀ (e47 : Int32) (e48 : Int64), wo (f_X12_cutAll_K70 l11 l12 m17 (e47, e48)) Q17 → mi_X mX12_cutAll (3) 129 [(0, vr 12 0), (1, vi l11), (2, vi e47), (4, vi l12), (5, vl e48)] [] m17 QX := by
            intro e47 e48 h
            unfold f_X12_cutAll_K70 at h
            try dsimp only at h
            refine x_aload_n (pc := 129) dX12_cutAll_129 rfl ?_
            refine x_getS (pc := 130) dX12_cutAll_130 fX12_24 rfl (by decide) ?_
            refine x_iload_n (pc := 133) dX12_cutAll_133 rfl ?_
            refine x_iload_n (pc := 134) dX12_cutAll_134 rfl ?_
            refine x_iload (pc := 135) dX12_cutAll_135 rfl ?_
            refine x_isub (pc := 137) dX12_cutAll_137 ?_
            refine x_bipush (pc := 138) dX12_cutAll_138 (v := (8 : Int32)) (by decide) ?_
            have j148 : ∀ (u49 : Int32), wo (f_X12_cutAll_J148 l11 m17 e47 e48 u49) Q17 → mi_X mX12_cutAll (3) 148 [(0, vr 12 0), (1, vi l11), (2, vi e47), (5, vl e48)] [vi u49, vi l11, vr 52 0] m17 QX := by
              intro u49 h
              unfold f_X12_cutAll_J148 at h
              obtain ⟨hx50, h⟩ := wo_g h
              refine x_iastJ (pc := 148) dX12_cutAll_148 rfl rfl (by decide) rfl hx50 ?_
              refine x_letm h (fun m51 h => ?_)
              refine x_goto (pc := 149) dX12_cutAll_149 (tgt := 265) (by decide) ?_
              refine x_sub [(0, _), (1, _), (2, _), (5, _)] ⟨rfl, rfl, rfl, rfl, trivial⟩ ?_
              exact j265 _ _ _ h
            refine x_icmp_le (pc := 140) dX12_cutAll_140 (tgt := 147) (by decide) (fun c52 => ?_) (fun c52 => ?_)
            · replace h := wo_pos c52 h
              refine x_iconst (pc := 147) dX12_cutAll_147 (v := (1 : Int32)) (by decide) ?_
              refine x_sub [(0, _), (1, _), (2, _), (5, _)] ⟨rfl, rfl, rfl, rfl, trivial⟩ ?_
              exact j148 _ h
            · replace h := wo_neg c52 h
              refine x_iconst (pc := 143) dX12_cutAll_143 (v := (4 : Int32)) (by decide) ?_
              refine x_goto (pc := 144) dX12_cutAll_144 (tgt := 148) (by decide) ?_
              refine x_sub [(0, _), (1, _), (2, _), (5, _)] ⟨rfl, rfl, rfl, rfl, trivial⟩ ?_
              exact j148 _ h
          refine x_sub [(0, _), (1, _), (2, _), (4, _), (5, _)] ⟨rfl, rfl, rfl, rfl, rfl, trivial⟩ ?_
          obtain ⟨ea, eb, h⟩ := wo_bo h
          refine wo_lq (X := fun s => match s with | (l53, l54) => mi_X mX12_cutAll (3) 70 [(0, vr 12 0), (1, vi l11), (2, vi l53), (4, vi l12), (5, vl l54)] [] m17 QX) (E := fun e => wo (f_X12_cutAll_K70 l11 l12 m17 e) Q17) ?_ _ (l12, (0 : Int64)) ⟨_, eb, h⟩
          intro Q70 hb70 he70 s h
          obtain ⟨l53, l54⟩ := s
          show mi_X mX12_cutAll (3) 70 [(0, vr 12 0), (1, vi l11), (2, vi l53), (4, vi l12), (5, vl l54)] [] m17 QX
          unfold f_X12_cutAll_B70 at h
          try dsimp only at h
          refine x_iload_n (pc := 70) dX12_cutAll_70 rfl ?_
          refine x_aload_n (pc := 71) dX12_cutAll_71 rfl ?_
          refine x_getI (pc := 72) dX12_cutAll_72 fX12_161 rfl (by decide) ?_
          refine x_icmp_ge (pc := 75) dX12_cutAll_75 (tgt := 129) (by decide) (fun c62 => ?_) (fun c62 => ?_)
          · replace h := wo_pos c62 h
            refine x_sub [(0, _), (1, _), (2, _), (4, _), (5, _)] ⟨rfl, rfl, rfl, rfl, rfl, trivial⟩ ?_
            exact k70_0 _ _ (he70 (l53, l54) (wo_some h))
          · replace h := wo_neg c62 h
            refine x_aload_n (pc := 78) dX12_cutAll_78 rfl ?_
            refine x_getS (pc := 79) dX12_cutAll_79 fX12_14 rfl (by decide) ?_
            refine x_iload_n (pc := 82) dX12_cutAll_82 rfl ?_
            obtain ⟨hx55, h⟩ := wo_g h
            refine x_ialdJ (pc := 83) dX12_cutAll_83 rfl rfl (by decide) hx55 ?_
            refine z_Si1 (pc := 84) h dX12_cutAll_84 lX12_157 (by omega) rfl (fun a e => w_X12_isLetter _ _ a e) (fun v56 h => ?_)
            refine x_if_eq (pc := 87) dX12_cutAll_87 (tgt := 129) (by decide) (fun c61 => ?_) (fun c61 => ?_)
            · replace h := wo_pos c61 h
              refine x_sub [(0, _), (1, _), (2, _), (4, _), (5, _)] ⟨rfl, rfl, rfl, rfl, rfl, trivial⟩ ?_
              exact k70_0 _ _ (he70 (l53, l54) (wo_some h))
            · replace h := wo_neg c61 h
              refine x_iload_n (pc := 90) dX12_cutAll_90 rfl ?_
              refine x_iload (pc := 91) dX12_cutAll_91 rfl ?_
              refine x_isub (pc := 93) dX12_cutAll_93 ?_
              refine x_bipush (pc := 94) dX12_cutAll_94 (v := (8 : Int32)) (by decide) ?_
              have j121 : ∀ (u57 : Int64), wo (f_X12_cutAll_J121 l53 u57) Q70 → mi_X mX12_cutAll (3) 121 [(0, vr 12 0), (1, vi l11), (2, vi l53), (4, vi l12)] [vl u57] m17 QX := by
                intro u57 h
                unfold f_X12_cutAll_J121 at h
                refine x_lstore (ls' := [(5, _), (0, _), (1, _), (2, _), (4, _)]) (pc := 121) dX12_cutAll_121 rfl rfl ?_
                refine x_iinc (ls' := [(2, _), (5, _), (0, _), (1, _), (4, _)]) (pc := 123) dX12_cutAll_123 rfl (v := l53 + (1 : Int32)) rfl rfl rfl ?_
                refine x_goto (pc := 126) dX12_cutAll_126 (tgt := 70) (by decide) ?_
                refine x_sub [(0, _), (1, _), (2, _), (4, _), (5, _)] ⟨rfl, rfl, rfl, rfl, rfl, trivial⟩ ?_
                exact hb70 ((l53 + (1 : Int32)), u57) (wo_some h)
              refine x_icmp_ge (pc := 96) dX12_cutAll_96 (tgt := 119) (by decide) (fun c60 => ?_) (fun c60 => ?_)
              · replace h := wo_pos c60 h
                refine x_lload (pc := 119) dX12_cutAll_119 rfl ?_
                refine x_sub [(0, _), (1, _), (2, _), (4, _)] ⟨rfl, rfl, rfl, rfl, trivial⟩ ?_
                exact j121 _ h
              · replace h := wo_neg c60 h
                refine x_ldc2 (pc := 99) dX12_cutAll_99 kX12_164 ?_
                refine x_lload (pc := 102) dX12_cutAll_102 rfl ?_
                refine x_lmul (pc := 104) dX12_cutAll_104 ?_
                refine x_aload_n (pc := 105) dX12_cutAll_105 rfl ?_
                refine x_getS (pc := 106) dX12_cutAll_106 fX12_14 rfl (by decide) ?_
                refine x_iload_n (pc := 109) dX12_cutAll_109 rfl ?_
                obtain ⟨hx58, h⟩ := wo_g h
                refine x_ialdJ (pc := 110) dX12_cutAll_110 rfl rfl (by decide) hx58 ?_
                refine z_Si1 (pc := 111) h dX12_cutAll_111 lX12_166 (by omega) rfl (fun a e => w_X12_rank _ _ a e) (fun v59 h => ?_)
                refine x_i2l (pc := 114) dX12_cutAll_114 rfl ?_
                refine x_ladd (pc := 115) dX12_cutAll_115 ?_
                refine x_goto (pc := 116) dX12_cutAll_116 (tgt := 121) (by decide) ?_
                refine x_sub [(0, _), (1, _), (2, _), (4, _)] ⟨rfl, rfl, rfl, rfl, trivial⟩ ?_
                exact j121 _ h
      · replace h := wo_pos c64 h
        refine x_sub [(0, _), (1, _), (2, _)] ⟨rfl, rfl, rfl, trivial⟩ ?_
        exact j44 h
noncomputable def f_X12_lampsOf_J33 (l2 : Int32) (l3 : Int32) (u6 : Int32) : Option ((Int32 × Int32) ⊕ (Int32)) := mi_let (l2 ||| u6) fun v7 => some (.inl (v7, (l3 + (1 : Int32))))
noncomputable def f_X12_lampsOf_B4 (p0 : Int32) (mem : mi_M) : (Int32 × Int32) → Option ((Int32 × Int32) ⊕ (Int32)) := fun s => match s with | (l2, l3) => mi_bo (f_X12_people mem) fun v4 => if v4 ≤ l3 then some (.inr l2) else mi_g (vp_in ((p0 + (2 : Int32)) + l3) 1449) (if (mem.1 64 0 ((p0 + (2 : Int32)) + l3).toNatClampNeg) ≤ 0 then f_X12_lampsOf_J33 l2 l3 (0 : Int32) else f_X12_lampsOf_J33 l2 l3 ((1 : Int32) <<< (l3 &&& 31)))
noncomputable def f_X12_lampsOf_K4 : Int32 → Option (Int32) := fun e1 => some e1
noncomputable def f_X12_lampsOf (p0 : Int32) (mem : mi_M) : Option (Int32) := mi_bo (mi_lp (f_X12_lampsOf_B4 p0 mem) mi_fu ((0 : Int32), (0 : Int32))) (f_X12_lampsOf_K4)
set_option maxRecDepth 100000 in
set_option maxHeartbeats 4000000 in
theorem w_X12_lampsOf (p0 : Int32) (mem : mi_M) (a : Int32) (e : f_X12_lampsOf p0 mem = some a) : mi_Ci (2) mX12_lampsOf [vr 12 0, vi p0] mem (fun x m' => x = a ∧ m' = mem) := by
  unfold mi_Ci
  refine mi_C_intro (ls := [(0, vr 12 0), (1, vi p0)]) (by decide) rfl rfl ?_
  obtain ⟨Q0, hq0, h⟩ : ∃ Q0 : Int32 → Prop, (∀ b, Q0 b → b = a) ∧ wo (f_X12_lampsOf p0 mem) Q0 := ⟨fun b => b = a, fun _ h => h, wo_eq e⟩
  obtain ⟨QX, hQX⟩ : ∃ QX : Option mi_V → mi_M → Prop, QX = (fun r m' => ∃ x, r = some (vi x) ∧ x = a ∧ m' = mem) := ⟨_, rfl⟩
  rw [← hQX]
  unfold f_X12_lampsOf at h
  refine x_iconst (pc := 0) dX12_lampsOf_0 (v := (0 : Int32)) (by decide) ?_
  refine x_istore_n (ls' := [(2, _), (0, _), (1, _)]) (pc := 1) dX12_lampsOf_1 rfl rfl rfl ?_
  refine x_iconst (pc := 2) dX12_lampsOf_2 (v := (0 : Int32)) (by decide) ?_
  refine x_istore_n (ls' := [(3, _), (2, _), (0, _), (1, _)]) (pc := 3) dX12_lampsOf_3 rfl rfl rfl ?_
  have k4_0 : ∀ (e1 : Int32), wo (f_X12_lampsOf_K4 e1) Q0 → mi_X mX12_lampsOf (2) 41 [(2, vi e1)] [] mem QX := by
    intro e1 h
    unfold f_X12_lampsOf_K4 at h
    try dsimp only at h
    refine x_iload_n (pc := 41) dX12_lampsOf_41 rfl ?_
    exact x_iret (pc := 42) dX12_lampsOf_42 rfl (by rw [hQX]; exact ⟨_, rfl, hq0 _ (wo_some h), rfl⟩)
  refine x_sub [(0, _), (1, _), (2, _), (3, _)] ⟨rfl, rfl, rfl, rfl, trivial⟩ ?_
  obtain ⟨ea, eb, h⟩ := wo_bo h
  refine wo_lq (X := fun s => match s with | (l2, l3) => mi_X mX12_lampsOf (2) 4 [(0, vr 12 0), (1, vi p0), (2, vi l2), (3, vi l3)] [] mem QX) (E := fun e => wo (f_X12_lampsOf_K4 e) Q0) ?_ _ ((0 : Int32), (0 : Int32)) ⟨_, eb, h⟩
  intro Q4 hb4 he4 s h
  obtain ⟨l2, l3⟩ := s
  show mi_X mX12_lampsOf (2) 4 [(0, vr 12 0), (1, vi p0), (2, vi l2), (3, vi l3)] [] mem QX
  unfold f_X12_lampsOf_B4 at h
  try dsimp only at h
  refine x_iload_n (pc := 4) dX12_lampsOf_4 rfl ?_
  refine x_aload_n (pc := 5) dX12_lampsOf_5 rfl ?_
  refine z_Vi0 (pc := 6) h dX12_lampsOf_6 lX12_294 (by decide) (by omega) rfl (fun a e => w_X12_people _ a e) (fun v4 h => ?_)
  refine x_icmp_ge (pc := 9) dX12_lampsOf_9 (tgt := 41) (by decide) (fun c9 => ?_) (fun c9 => ?_)
  · replace h := wo_pos c9 h
    refine x_sub [(2, _)] ⟨rfl, trivial⟩ ?_
    exact k4_0 _ (he4 l2 (wo_some h))
  · replace h := wo_neg c9 h
    refine x_iload_n (pc := 12) dX12_lampsOf_12 rfl ?_
    refine x_aload_n (pc := 13) dX12_lampsOf_13 rfl ?_
    refine x_getS (pc := 14) dX12_lampsOf_14 fX12_113 rfl (by decide) ?_
    refine x_iload_n (pc := 17) dX12_lampsOf_17 rfl ?_
    refine x_iconst (pc := 18) dX12_lampsOf_18 (v := (2 : Int32)) (by decide) ?_
    refine x_iadd (pc := 19) dX12_lampsOf_19 ?_
    refine x_iload_n (pc := 20) dX12_lampsOf_20 rfl ?_
    refine x_iadd (pc := 21) dX12_lampsOf_21 ?_
    obtain ⟨hx5, h⟩ := wo_g h
    refine x_ialdJ (pc := 22) dX12_lampsOf_22 rfl rfl (by decide) hx5 ?_
    have j33 : ∀ (u6 : Int32), wo (f_X12_lampsOf_J33 l2 l3 u6) Q4 → mi_X mX12_lampsOf (2) 33 [(0, vr 12 0), (1, vi p0), (3, vi l3)] [vi u6, vi l2] mem QX := by
      intro u6 h
      unfold f_X12_lampsOf_J33 at h
      refine x_ior (pc := 33) dX12_lampsOf_33 ?_
      refine x_leti h (fun v7 h => ?_)
      refine x_istore_n (ls' := [(2, _), (0, _), (1, _), (3, _)]) (pc := 34) dX12_lampsOf_34 rfl rfl rfl ?_
      refine x_iinc (ls' := [(3, _), (2, _), (0, _), (1, _)]) (pc := 35) dX12_lampsOf_35 rfl (v := l3 + (1 : Int32)) rfl rfl rfl ?_
      refine x_goto (pc := 38) dX12_lampsOf_38 (tgt := 4) (by decide) ?_
      refine x_sub [(0, _), (1, _), (2, _), (3, _)] ⟨rfl, rfl, rfl, rfl, trivial⟩ ?_
      exact hb4 (v7, (l3 + (1 : Int32))) (wo_some h)
    refine x_if_le (pc := 23) dX12_lampsOf_23 (tgt := 32) (by decide) (fun c8 => ?_) (fun c8 => ?_)
    · replace h := wo_pos c8 h
      refine x_iconst (pc := 32) dX12_lampsOf_32 (v := (0 : Int32)) (by decide) ?_
      refine x_sub [(0, _), (1, _), (3, _)] ⟨rfl, rfl, rfl, trivial⟩ ?_
      exact j33 _ h
    · replace h := wo_neg c8 h
      refine x_iconst (pc := 26) dX12_lampsOf_26 (v := (1 : Int32)) (by decide) ?_
      refine x_iload_n (pc := 27) dX12_lampsOf_27 rfl ?_
      refine x_ishl (pc := 28) dX12_lampsOf_28 ?_
      refine x_goto (pc := 29) dX12_lampsOf_29 (tgt := 33) (by decide) ?_
      refine x_sub [(0, _), (1, _), (3, _)] ⟨rfl, rfl, rfl, trivial⟩ ?_
      exact j33 _ h
noncomputable def f_X12_within_J15 (u1 : Int32) : Option (Int32) := mi_g (u1 = 0 ∨ u1 = 1) (some u1)
noncomputable def f_X12_within_J14 : Option (Int32) := f_X12_within_J15 (0 : Int32)
noncomputable def f_X12_within (p0 : Int32) (p1 : Int32) (p2 : Int32) (mem : mi_M) : Option (Int32) := if p0 < p1 then f_X12_within_J14 else if p2 < p0 then f_X12_within_J14 else f_X12_within_J15 (1 : Int32)
set_option maxRecDepth 100000 in
set_option maxHeartbeats 4000000 in
theorem w_X12_within (p0 : Int32) (p1 : Int32) (p2 : Int32) (mem : mi_M) (a : Int32) (e : f_X12_within p0 p1 p2 mem = some a) : mi_Ci (1) mX12_within [vi p0, vi p1, vi p2] mem (fun x m' => x = a ∧ m' = mem) := by
  unfold mi_Ci
  refine mi_C_intro (ls := [(0, vi p0), (1, vi p1), (2, vi p2)]) (by decide) rfl rfl ?_
  obtain ⟨Q0, hq0, h⟩ : ∃ Q0 : Int32 → Prop, (∀ b, Q0 b → b = a) ∧ wo (f_X12_within p0 p1 p2 mem) Q0 := ⟨fun b => b = a, fun _ h => h, wo_eq e⟩
  obtain ⟨QX, hQX⟩ : ∃ QX : Option mi_V → mi_M → Prop, QX = (fun r m' => ∃ x, r = some (vi x) ∧ x = a ∧ m' = mem) := ⟨_, rfl⟩
  rw [← hQX]
  unfold f_X12_within at h
  refine x_iload_n (pc := 0) dX12_within_0 rfl ?_
  refine x_iload_n (pc := 1) dX12_within_1 rfl ?_
  have j15 : ∀ (u1 : Int32), wo (f_X12_within_J15 u1) Q0 → mi_X mX12_within (1) 15 [] [vi u1] mem QX := by
    intro u1 h
    unfold f_X12_within_J15 at h
    obtain ⟨hb2, h⟩ := wo_g h
    exact x_zretB (pc := 15) dX12_within_15 rfl hb2 (by rw [hQX]; exact ⟨_, rfl, hq0 _ (wo_some h), rfl⟩)
  have j14 : wo (f_X12_within_J14) Q0 → mi_X mX12_within (1) 14 [] [] mem QX := by
    intro h
    unfold f_X12_within_J14 at h
    refine x_iconst (pc := 14) dX12_within_14 (v := (0 : Int32)) (by decide) ?_
    refine x_sub [] trivial ?_
    exact j15 _ h
  refine x_icmp_lt (pc := 2) dX12_within_2 (tgt := 14) (by decide) (fun c4 => ?_) (fun c4 => ?_)
  · replace h := wo_pos c4 h
    refine x_sub [] trivial ?_
    exact j14 h
  · replace h := wo_neg c4 h
    refine x_iload_n (pc := 5) dX12_within_5 rfl ?_
    refine x_iload_n (pc := 6) dX12_within_6 rfl ?_
    refine x_icmp_gt (pc := 7) dX12_within_7 (tgt := 14) (by decide) (fun c3 => ?_) (fun c3 => ?_)
    · replace h := wo_pos c3 h
      refine x_sub [] trivial ?_
      exact j14 h
    · replace h := wo_neg c3 h
      refine x_iconst (pc := 10) dX12_within_10 (v := (1 : Int32)) (by decide) ?_
      refine x_goto (pc := 11) dX12_within_11 (tgt := 15) (by decide) ?_
      refine x_sub [] trivial ?_
      exact j15 _ h
noncomputable def f_X12_dark_J23 (m1 : mi_M) : Option (Int32 × mi_M) := some ((-1 : Int32), m1)
noncomputable def f_X12_dark_J95 (m5 : mi_M) (u8 : Int32) : Option (Int32 × mi_M) := some (u8, m5)
noncomputable def f_X12_dark (p0 : Int32) (p1 : Int32) (p2 : Int32) (mem : mi_M) : Option (Int32 × mi_M) := mi_let (mi_wI mem 12 0 0 (0 : Int32)) fun m1 => mi_bo (f_X12_areTwo p0 p1 m1) fun v2 => if v2 = 0 then f_X12_dark_J23 m1 else mi_bo (f_X12_within p2 (0 : Int32) (2 : Int32) m1) fun v3 => if v3 = 0 then f_X12_dark_J23 m1 else mi_bo (f_X12_lampsOf (0 : Int32) m1) fun v4 => mi_bo (f_X12_laysWays v4 m1) fun m5 => mi_let (((6 : Int32) * p0) + p1) fun v6 => mi_g (vp_in v6 36) (if (m5.1 66 0 v6.toNatClampNeg) < (1000000 : Int32) then if p2 = 0 then mi_g (vp_in v6 36) (f_X12_dark_J95 m5 (m5.1 66 0 v6.toNatClampNeg)) else if p2 = (1 : Int32) then mi_g (vp_in v6 36) (f_X12_dark_J95 m5 (m5.1 67 0 v6.toNatClampNeg)) else mi_g (vp_in v6 36) (f_X12_dark_J95 m5 (m5.1 68 0 v6.toNatClampNeg)) else f_X12_dark_J95 m5 (-1 : Int32))
set_option maxRecDepth 100000 in
set_option maxHeartbeats 4000000 in
theorem w_X12_dark (p0 : Int32) (p1 : Int32) (p2 : Int32) (mem : mi_M) (a : Int32 × mi_M) (e : f_X12_dark p0 p1 p2 mem = some a) : mi_Ci (4) mX12_dark [vr 12 0, vi p0, vi p1, vi p2] mem (fun x m' => x = a.1 ∧ m' = a.2) := by
  unfold mi_Ci
  refine mi_C_intro (ls := [(0, vr 12 0), (1, vi p0), (2, vi p1), (3, vi p2)]) (by decide) rfl rfl ?_
  obtain ⟨Q0, hq0, h⟩ : ∃ Q0 : (Int32 × mi_M) → Prop, (∀ b, Q0 b → b = a) ∧ wo (f_X12_dark p0 p1 p2 mem) Q0 := ⟨fun b => b = a, fun _ h => h, wo_eq e⟩
  obtain ⟨QX, hQX⟩ : ∃ QX : Option mi_V → mi_M → Prop, QX = (fun r m' => ∃ x, r = some (vi x) ∧ x = a.1 ∧ m' = a.2) := ⟨_, rfl⟩
  rw [← hQX]
  unfold f_X12_dark at h
  refine x_aload_n (pc := 0) dX12_dark_0 rfl ?_
  refine x_iconst (pc := 1) dX12_dark_1 (v := (0 : Int32)) (by decide) ?_
  refine x_putI (pc := 2) dX12_dark_2 fX12_1 rfl (by decide) rfl rfl ?_
  refine x_letm h (fun m1 h => ?_)
  refine x_aload_n (pc := 5) dX12_dark_5 rfl ?_
  refine x_iload_n (pc := 6) dX12_dark_6 rfl ?_
  refine x_iload_n (pc := 7) dX12_dark_7 rfl ?_
  refine z_Vi2 (pc := 8) h dX12_dark_8 lX12_365 (by decide) (by omega) rfl (fun a e => w_X12_areTwo _ _ _ a e) (fun v2 h => ?_)
  have j23 : wo (f_X12_dark_J23 m1) Q0 → mi_X mX12_dark (4) 23 [] [] m1 QX := by
    intro h
    unfold f_X12_dark_J23 at h
    refine x_iconst (pc := 23) dX12_dark_23 (v := (-1 : Int32)) (by decide) ?_
    exact x_iret (pc := 24) dX12_dark_24 rfl (by rw [hQX]; exact ⟨_, rfl, congrArg Prod.fst (hq0 _ (wo_some h)), congrArg Prod.snd (hq0 _ (wo_some h))⟩)
  refine x_if_eq (pc := 11) dX12_dark_11 (tgt := 23) (by decide) (fun c16 => ?_) (fun c16 => ?_)
  · replace h := wo_pos c16 h
    refine x_sub [] trivial ?_
    exact j23 h
  · replace h := wo_neg c16 h
    refine x_iload_n (pc := 14) dX12_dark_14 rfl ?_
    refine x_iconst (pc := 15) dX12_dark_15 (v := (0 : Int32)) (by decide) ?_
    refine x_iconst (pc := 16) dX12_dark_16 (v := (2 : Int32)) (by decide) ?_
    refine z_Si3 (pc := 17) h dX12_dark_17 lX12_362 (by omega) rfl (fun a e => w_X12_within _ _ _ _ a e) (fun v3 h => ?_)
    refine x_if_ne (pc := 20) dX12_dark_20 (tgt := 25) (by decide) (fun c15 => ?_) (fun c15 => ?_)
    · replace h := wo_neg c15 h
      refine x_aload_n (pc := 25) dX12_dark_25 rfl ?_
      refine x_aload_n (pc := 26) dX12_dark_26 rfl ?_
      refine x_iconst (pc := 27) dX12_dark_27 (v := (0 : Int32)) (by decide) ?_
      refine z_Vi1 (pc := 28) h dX12_dark_28 lX12_353 (by decide) (by omega) rfl (fun a e => w_X12_lampsOf _ _ a e) (fun v4 h => ?_)
      refine y_Vv1 (pc := 31) h dX12_dark_31 lX12_347 (by decide) (by omega) rfl (fun a e => w_X12_laysWays _ _ a e) (fun m5 h => ?_)
      refine x_bipush (pc := 34) dX12_dark_34 (v := (6 : Int32)) (by decide) ?_
      refine x_iload_n (pc := 36) dX12_dark_36 rfl ?_
      refine x_imul (pc := 37) dX12_dark_37 ?_
      refine x_iload_n (pc := 38) dX12_dark_38 rfl ?_
      refine x_iadd (pc := 39) dX12_dark_39 ?_
      refine x_leti h (fun v6 h => ?_)
      refine x_istore (ls' := [(4, _), (0, _), (1, _), (2, _), (3, _)]) (pc := 40) dX12_dark_40 rfl rfl ?_
      refine x_aload_n (pc := 42) dX12_dark_42 rfl ?_
      refine x_getS (pc := 43) dX12_dark_43 fX12_120 rfl (by decide) ?_
      refine x_iload (pc := 46) dX12_dark_46 rfl ?_
      obtain ⟨hx7, h⟩ := wo_g h
      refine x_ialdJ (pc := 48) dX12_dark_48 rfl rfl (by decide) hx7 ?_
      refine x_ldcw (pc := 49) dX12_dark_49 kX12_342 ?_
      have j95 : ∀ (u8 : Int32), wo (f_X12_dark_J95 m5 u8) Q0 → mi_X mX12_dark (4) 95 [] [vi u8] m5 QX := by
        intro u8 h
        unfold f_X12_dark_J95 at h
        exact x_iret (pc := 95) dX12_dark_95 rfl (by rw [hQX]; exact ⟨_, rfl, congrArg Prod.fst (hq0 _ (wo_some h)), congrArg Prod.snd (hq0 _ (wo_some h))⟩)
      refine x_icmp_lt (pc := 52) dX12_dark_52 (tgt := 59) (by decide) (fun c14 => ?_) (fun c14 => ?_)
      · replace h := wo_pos c14 h
        refine x_iload_n (pc := 59) dX12_dark_59 rfl ?_
        refine x_if_ne (pc := 60) dX12_dark_60 (tgt := 73) (by decide) (fun c13 => ?_) (fun c13 => ?_)
        · replace h := wo_neg c13 h
          refine x_iload_n (pc := 73) dX12_dark_73 rfl ?_
          refine x_iconst (pc := 74) dX12_dark_74 (v := (1 : Int32)) (by decide) ?_
          refine x_icmp_ne (pc := 75) dX12_dark_75 (tgt := 88) (by decide) (fun c11 => ?_) (fun c11 => ?_)
          · replace h := wo_neg c11 h
            refine x_aload_n (pc := 88) dX12_dark_88 rfl ?_
            refine x_getS (pc := 89) dX12_dark_89 fX12_126 rfl (by decide) ?_
            refine x_iload (pc := 92) dX12_dark_92 rfl ?_
            obtain ⟨hx9, h⟩ := wo_g h
            refine x_ialdJ (pc := 94) dX12_dark_94 rfl rfl (by decide) hx9 ?_
            refine x_sub [] trivial ?_
            exact j95 _ h
          · replace h := wo_pos c11 h
            refine x_aload_n (pc := 78) dX12_dark_78 rfl ?_
            refine x_getS (pc := 79) dX12_dark_79 fX12_123 rfl (by decide) ?_
            refine x_iload (pc := 82) dX12_dark_82 rfl ?_
            obtain ⟨hx10, h⟩ := wo_g h
            refine x_ialdJ (pc := 84) dX12_dark_84 rfl rfl (by decide) hx10 ?_
            refine x_goto (pc := 85) dX12_dark_85 (tgt := 95) (by decide) ?_
            refine x_sub [] trivial ?_
            exact j95 _ h
        · replace h := wo_pos c13 h
          refine x_aload_n (pc := 63) dX12_dark_63 rfl ?_
          refine x_getS (pc := 64) dX12_dark_64 fX12_120 rfl (by decide) ?_
          refine x_iload (pc := 67) dX12_dark_67 rfl ?_
          obtain ⟨hx12, h⟩ := wo_g h
          refine x_ialdJ (pc := 69) dX12_dark_69 rfl rfl (by decide) hx12 ?_
          refine x_goto (pc := 70) dX12_dark_70 (tgt := 95) (by decide) ?_
          refine x_sub [] trivial ?_
          exact j95 _ h
      · replace h := wo_neg c14 h
        refine x_iconst (pc := 55) dX12_dark_55 (v := (-1 : Int32)) (by decide) ?_
        refine x_goto (pc := 56) dX12_dark_56 (tgt := 95) (by decide) ?_
        refine x_sub [] trivial ?_
        exact j95 _ h
    · replace h := wo_pos c15 h
      refine x_sub [] trivial ?_
      exact j23 h
noncomputable def f_X12_gives (p0 : Int32) (p1 : Int32) (p2 : Int32) (mem : mi_M) : Option (Int32 × mi_M) := mi_bo (f_X12_wrongOf p1 (0 : Int32) mem) fun v1 => mi_g (vp_in ((p0 + (8 : Int32)) + v1) 1449) (mi_g (vp_in ((p0 + (8 : Int32)) + v1) 1449) (mi_let (mi_wI mem 64 0 ((p0 + (8 : Int32)) + v1).toNatClampNeg ((mem.1 64 0 ((p0 + (8 : Int32)) + v1).toNatClampNeg) - p2)) fun m4 => mi_bo (f_X12_wrongOf p1 (1 : Int32) m4) fun v5 => mi_g (vp_in ((p0 + (8 : Int32)) + v5) 1449) (mi_g (vp_in ((p0 + (8 : Int32)) + v5) 1449) (mi_let (mi_wI m4 64 0 ((p0 + (8 : Int32)) + v5).toNatClampNeg ((m4.1 64 0 ((p0 + (8 : Int32)) + v5).toNatClampNeg) + p2)) fun m8 => mi_g (vp_in ((p0 + (14 : Int32)) + p1) 1449) (mi_bo (f_X12_atMost ((m8.1 64 0 ((p0 + (14 : Int32)) + p1).toNatClampNeg) - p2) m8) fun v10 => mi_g (vp_in ((p0 + (14 : Int32)) + p1) 1449) (mi_let (mi_wI m8 64 0 ((p0 + (14 : Int32)) + p1).toNatClampNeg v10) fun m12 => mi_g (vp_in ((p0 + (14 : Int32)) + p1) 1449) (some ((m12.1 64 0 ((p0 + (14 : Int32)) + p1).toNatClampNeg), m12))))))))
set_option maxRecDepth 100000 in
set_option maxHeartbeats 4000000 in
theorem w_X12_gives (p0 : Int32) (p1 : Int32) (p2 : Int32) (mem : mi_M) (a : Int32 × mi_M) (e : f_X12_gives p0 p1 p2 mem = some a) : mi_Ci (2) mX12_gives [vr 12 0, vi p0, vi p1, vi p2] mem (fun x m' => x = a.1 ∧ m' = a.2) := by
  unfold mi_Ci
  refine mi_C_intro (ls := [(0, vr 12 0), (1, vi p0), (2, vi p1), (3, vi p2)]) (by decide) rfl rfl ?_
  obtain ⟨Q0, hq0, h⟩ : ∃ Q0 : (Int32 × mi_M) → Prop, (∀ b, Q0 b → b = a) ∧ wo (f_X12_gives p0 p1 p2 mem) Q0 := ⟨fun b => b = a, fun _ h => h, wo_eq e⟩
  obtain ⟨QX, hQX⟩ : ∃ QX : Option mi_V → mi_M → Prop, QX = (fun r m' => ∃ x, r = some (vi x) ∧ x = a.1 ∧ m' = a.2) := ⟨_, rfl⟩
  rw [← hQX]
  unfold f_X12_gives at h
  refine x_aload_n (pc := 0) dX12_gives_0 rfl ?_
  refine x_getS (pc := 1) dX12_gives_1 fX12_113 rfl (by decide) ?_
  refine x_iload_n (pc := 4) dX12_gives_4 rfl ?_
  refine x_bipush (pc := 5) dX12_gives_5 (v := (8 : Int32)) (by decide) ?_
  refine x_iadd (pc := 7) dX12_gives_7 ?_
  refine x_aload_n (pc := 8) dX12_gives_8 rfl ?_
  refine x_iload_n (pc := 9) dX12_gives_9 rfl ?_
  refine x_iconst (pc := 10) dX12_gives_10 (v := (0 : Int32)) (by decide) ?_
  refine z_Vi2 (pc := 11) h dX12_gives_11 lX12_297 (by decide) (by omega) rfl (fun a e => w_X12_wrongOf _ _ _ a e) (fun v1 h => ?_)
  refine x_iadd (pc := 14) dX12_gives_14 ?_
  refine x_dup2 (pc := 15) dX12_gives_15 rfl rfl ?_
  obtain ⟨hx2, h⟩ := wo_g h
  refine x_ialdJ (pc := 16) dX12_gives_16 rfl rfl (by decide) hx2 ?_
  refine x_iload_n (pc := 17) dX12_gives_17 rfl ?_
  refine x_isub (pc := 18) dX12_gives_18 ?_
  obtain ⟨hx3, h⟩ := wo_g h
  refine x_iastJ (pc := 19) dX12_gives_19 rfl rfl (by decide) rfl hx3 ?_
  refine x_letm h (fun m4 h => ?_)
  refine x_aload_n (pc := 20) dX12_gives_20 rfl ?_
  refine x_getS (pc := 21) dX12_gives_21 fX12_113 rfl (by decide) ?_
  refine x_iload_n (pc := 24) dX12_gives_24 rfl ?_
  refine x_bipush (pc := 25) dX12_gives_25 (v := (8 : Int32)) (by decide) ?_
  refine x_iadd (pc := 27) dX12_gives_27 ?_
  refine x_aload_n (pc := 28) dX12_gives_28 rfl ?_
  refine x_iload_n (pc := 29) dX12_gives_29 rfl ?_
  refine x_iconst (pc := 30) dX12_gives_30 (v := (1 : Int32)) (by decide) ?_
  refine z_Vi2 (pc := 31) h dX12_gives_31 lX12_297 (by decide) (by omega) rfl (fun a e => w_X12_wrongOf _ _ _ a e) (fun v5 h => ?_)
  refine x_iadd (pc := 34) dX12_gives_34 ?_
  refine x_dup2 (pc := 35) dX12_gives_35 rfl rfl ?_
  obtain ⟨hx6, h⟩ := wo_g h
  refine x_ialdJ (pc := 36) dX12_gives_36 rfl rfl (by decide) hx6 ?_
  refine x_iload_n (pc := 37) dX12_gives_37 rfl ?_
  refine x_iadd (pc := 38) dX12_gives_38 ?_
  obtain ⟨hx7, h⟩ := wo_g h
  refine x_iastJ (pc := 39) dX12_gives_39 rfl rfl (by decide) rfl hx7 ?_
  refine x_letm h (fun m8 h => ?_)
  refine x_aload_n (pc := 40) dX12_gives_40 rfl ?_
  refine x_getS (pc := 41) dX12_gives_41 fX12_113 rfl (by decide) ?_
  refine x_iload_n (pc := 44) dX12_gives_44 rfl ?_
  refine x_bipush (pc := 45) dX12_gives_45 (v := (14 : Int32)) (by decide) ?_
  refine x_iadd (pc := 47) dX12_gives_47 ?_
  refine x_iload_n (pc := 48) dX12_gives_48 rfl ?_
  refine x_iadd (pc := 49) dX12_gives_49 ?_
  refine x_aload_n (pc := 50) dX12_gives_50 rfl ?_
  refine x_getS (pc := 51) dX12_gives_51 fX12_113 rfl (by decide) ?_
  refine x_iload_n (pc := 54) dX12_gives_54 rfl ?_
  refine x_bipush (pc := 55) dX12_gives_55 (v := (14 : Int32)) (by decide) ?_
  refine x_iadd (pc := 57) dX12_gives_57 ?_
  refine x_iload_n (pc := 58) dX12_gives_58 rfl ?_
  refine x_iadd (pc := 59) dX12_gives_59 ?_
  obtain ⟨hx9, h⟩ := wo_g h
  refine x_ialdJ (pc := 60) dX12_gives_60 rfl rfl (by decide) hx9 ?_
  refine x_iload_n (pc := 61) dX12_gives_61 rfl ?_
  refine x_isub (pc := 62) dX12_gives_62 ?_
  refine z_Si1 (pc := 63) h dX12_gives_63 lX12_333 (by omega) rfl (fun a e => w_X12_atMost _ _ a e) (fun v10 h => ?_)
  obtain ⟨hx11, h⟩ := wo_g h
  refine x_iastJ (pc := 66) dX12_gives_66 rfl rfl (by decide) rfl hx11 ?_
  refine x_letm h (fun m12 h => ?_)
  refine x_aload_n (pc := 67) dX12_gives_67 rfl ?_
  refine x_getS (pc := 68) dX12_gives_68 fX12_113 rfl (by decide) ?_
  refine x_iload_n (pc := 71) dX12_gives_71 rfl ?_
  refine x_bipush (pc := 72) dX12_gives_72 (v := (14 : Int32)) (by decide) ?_
  refine x_iadd (pc := 74) dX12_gives_74 ?_
  refine x_iload_n (pc := 75) dX12_gives_75 rfl ?_
  refine x_iadd (pc := 76) dX12_gives_76 ?_
  obtain ⟨hx13, h⟩ := wo_g h
  refine x_ialdJ (pc := 77) dX12_gives_77 rfl rfl (by decide) hx13 ?_
  exact x_iret (pc := 78) dX12_gives_78 rfl (by rw [hQX]; exact ⟨_, rfl, congrArg Prod.fst (hq0 _ (wo_some h)), congrArg Prod.snd (hq0 _ (wo_some h))⟩)
noncomputable def f_X12_mayGive_J34 (u2 : Int32) : Option (Int32) := mi_g (u2 = 0 ∨ u2 = 1) (some u2)
noncomputable def f_X12_mayGive_J33 : Option (Int32) := f_X12_mayGive_J34 (0 : Int32)
noncomputable def f_X12_mayGive (p0 : Int32) (p1 : Int32) (p2 : Int32) (mem : mi_M) : Option (Int32) := mi_bo (f_X12_isOpen p0 p1 mem) fun v1 => if v1 = 0 then f_X12_mayGive_J33 else mi_bo (f_X12_wrongOf p1 (0 : Int32) mem) fun v4 => mi_g (vp_in ((p0 + (8 : Int32)) + v4) 1449) (if (mem.1 64 0 ((p0 + (8 : Int32)) + v4).toNatClampNeg) < p2 then f_X12_mayGive_J33 else f_X12_mayGive_J34 (1 : Int32))
set_option maxRecDepth 100000 in
set_option maxHeartbeats 4000000 in
theorem w_X12_mayGive (p0 : Int32) (p1 : Int32) (p2 : Int32) (mem : mi_M) (a : Int32) (e : f_X12_mayGive p0 p1 p2 mem = some a) : mi_Ci (4) mX12_mayGive [vr 12 0, vi p0, vi p1, vi p2] mem (fun x m' => x = a ∧ m' = mem) := by
  unfold mi_Ci
  refine mi_C_intro (ls := [(0, vr 12 0), (1, vi p0), (2, vi p1), (3, vi p2)]) (by decide) rfl rfl ?_
  obtain ⟨Q0, hq0, h⟩ : ∃ Q0 : Int32 → Prop, (∀ b, Q0 b → b = a) ∧ wo (f_X12_mayGive p0 p1 p2 mem) Q0 := ⟨fun b => b = a, fun _ h => h, wo_eq e⟩
  obtain ⟨QX, hQX⟩ : ∃ QX : Option mi_V → mi_M → Prop, QX = (fun r m' => ∃ x, r = some (vi x) ∧ x = a ∧ m' = mem) := ⟨_, rfl⟩
  rw [← hQX]
  unfold f_X12_mayGive at h
  refine x_aload_n (pc := 0) dX12_mayGive_0 rfl ?_
  refine x_iload_n (pc := 1) dX12_mayGive_1 rfl ?_
  refine x_iload_n (pc := 2) dX12_mayGive_2 rfl ?_
  refine z_Vi2 (pc := 3) h dX12_mayGive_3 lX12_319 (by decide) (by omega) rfl (fun a e => w_X12_isOpen _ _ _ a e) (fun v1 h => ?_)
  have j34 : ∀ (u2 : Int32), wo (f_X12_mayGive_J34 u2) Q0 → mi_X mX12_mayGive (4) 34 [] [vi u2] mem QX := by
    intro u2 h
    unfold f_X12_mayGive_J34 at h
    obtain ⟨hb3, h⟩ := wo_g h
    exact x_zretB (pc := 34) dX12_mayGive_34 rfl hb3 (by rw [hQX]; exact ⟨_, rfl, hq0 _ (wo_some h), rfl⟩)
  have j33 : wo (f_X12_mayGive_J33) Q0 → mi_X mX12_mayGive (4) 33 [] [] mem QX := by
    intro h
    unfold f_X12_mayGive_J33 at h
    refine x_iconst (pc := 33) dX12_mayGive_33 (v := (0 : Int32)) (by decide) ?_
    refine x_sub [] trivial ?_
    exact j34 _ h
  refine x_if_eq (pc := 6) dX12_mayGive_6 (tgt := 33) (by decide) (fun c7 => ?_) (fun c7 => ?_)
  · replace h := wo_pos c7 h
    refine x_sub [] trivial ?_
    exact j33 h
  · replace h := wo_neg c7 h
    refine x_aload_n (pc := 9) dX12_mayGive_9 rfl ?_
    refine x_getS (pc := 10) dX12_mayGive_10 fX12_113 rfl (by decide) ?_
    refine x_iload_n (pc := 13) dX12_mayGive_13 rfl ?_
    refine x_bipush (pc := 14) dX12_mayGive_14 (v := (8 : Int32)) (by decide) ?_
    refine x_iadd (pc := 16) dX12_mayGive_16 ?_
    refine x_aload_n (pc := 17) dX12_mayGive_17 rfl ?_
    refine x_iload_n (pc := 18) dX12_mayGive_18 rfl ?_
    refine x_iconst (pc := 19) dX12_mayGive_19 (v := (0 : Int32)) (by decide) ?_
    refine z_Vi2 (pc := 20) h dX12_mayGive_20 lX12_297 (by decide) (by omega) rfl (fun a e => w_X12_wrongOf _ _ _ a e) (fun v4 h => ?_)
    refine x_iadd (pc := 23) dX12_mayGive_23 ?_
    obtain ⟨hx5, h⟩ := wo_g h
    refine x_ialdJ (pc := 24) dX12_mayGive_24 rfl rfl (by decide) hx5 ?_
    refine x_iload_n (pc := 25) dX12_mayGive_25 rfl ?_
    refine x_icmp_lt (pc := 26) dX12_mayGive_26 (tgt := 33) (by decide) (fun c6 => ?_) (fun c6 => ?_)
    · replace h := wo_pos c6 h
      refine x_sub [] trivial ?_
      exact j33 h
    · replace h := wo_neg c6 h
      refine x_iconst (pc := 29) dX12_mayGive_29 (v := (1 : Int32)) (by decide) ?_
      refine x_goto (pc := 30) dX12_mayGive_30 (tgt := 34) (by decide) ?_
      refine x_sub [] trivial ?_
      exact j34 _ h
