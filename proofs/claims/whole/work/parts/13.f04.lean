noncomputable def f_X12_maySay_J28 (u2 : Int32) : Option (Int32) := mi_g (u2 = 0 ∨ u2 = 1) (some u2)
noncomputable def f_X12_maySay_J27 : Option (Int32) := f_X12_maySay_J28 (0 : Int32)
noncomputable def f_X12_maySay (p0 : Int32) (p1 : Int32) (mem : mi_M) : Option (Int32) := mi_bo (f_X12_isOpen p0 p1 mem) fun v1 => if v1 = 0 then f_X12_maySay_J27 else mi_g (vp_in ((p0 + (30 : Int32)) + p1) 1449) (if (mem.1 64 0 ((p0 + (30 : Int32)) + p1).toNatClampNeg) = 0 then f_X12_maySay_J28 (1 : Int32) else f_X12_maySay_J27)
set_option maxRecDepth 100000 in
set_option maxHeartbeats 4000000 in
theorem w_X12_maySay (p0 : Int32) (p1 : Int32) (mem : mi_M) (a : Int32) (e : f_X12_maySay p0 p1 mem = some a) : mi_Ci (4) mX12_maySay [vr 12 0, vi p0, vi p1] mem (fun x m' => x = a ∧ m' = mem) := by
  unfold mi_Ci
  refine mi_C_intro (ls := [(0, vr 12 0), (1, vi p0), (2, vi p1)]) (by decide) rfl rfl ?_
  obtain ⟨Q0, hq0, h⟩ : ∃ Q0 : Int32 → Prop, (∀ b, Q0 b → b = a) ∧ wo (f_X12_maySay p0 p1 mem) Q0 := ⟨fun b => b = a, fun _ h => h, wo_eq e⟩
  obtain ⟨QX, hQX⟩ : ∃ QX : Option mi_V → mi_M → Prop, QX = (fun r m' => ∃ x, r = some (vi x) ∧ x = a ∧ m' = mem) := ⟨_, rfl⟩
  rw [← hQX]
  unfold f_X12_maySay at h
  refine x_aload_n (pc := 0) dX12_maySay_0 rfl ?_
  refine x_iload_n (pc := 1) dX12_maySay_1 rfl ?_
  refine x_iload_n (pc := 2) dX12_maySay_2 rfl ?_
  refine z_Vi2 (pc := 3) h dX12_maySay_3 lX12_319 (by decide) (by omega) rfl (fun a e => w_X12_isOpen _ _ _ a e) (fun v1 h => ?_)
  have j28 : ∀ (u2 : Int32), wo (f_X12_maySay_J28 u2) Q0 → mi_X mX12_maySay (4) 28 [] [vi u2] mem QX := by
    intro u2 h
    unfold f_X12_maySay_J28 at h
    obtain ⟨hb3, h⟩ := wo_g h
    exact x_zretB (pc := 28) dX12_maySay_28 rfl hb3 (by rw [hQX]; exact ⟨_, rfl, hq0 _ (wo_some h), rfl⟩)
  have j27 : wo (f_X12_maySay_J27) Q0 → mi_X mX12_maySay (4) 27 [] [] mem QX := by
    intro h
    unfold f_X12_maySay_J27 at h
    refine x_iconst (pc := 27) dX12_maySay_27 (v := (0 : Int32)) (by decide) ?_
    refine x_sub [] trivial ?_
    exact j28 _ h
  refine x_if_eq (pc := 6) dX12_maySay_6 (tgt := 27) (by decide) (fun c6 => ?_) (fun c6 => ?_)
  · replace h := wo_pos c6 h
    refine x_sub [] trivial ?_
    exact j27 h
  · replace h := wo_neg c6 h
    refine x_aload_n (pc := 9) dX12_maySay_9 rfl ?_
    refine x_getS (pc := 10) dX12_maySay_10 fX12_113 rfl (by decide) ?_
    refine x_iload_n (pc := 13) dX12_maySay_13 rfl ?_
    refine x_bipush (pc := 14) dX12_maySay_14 (v := (30 : Int32)) (by decide) ?_
    refine x_iadd (pc := 16) dX12_maySay_16 ?_
    refine x_iload_n (pc := 17) dX12_maySay_17 rfl ?_
    refine x_iadd (pc := 18) dX12_maySay_18 ?_
    obtain ⟨hx4, h⟩ := wo_g h
    refine x_ialdJ (pc := 19) dX12_maySay_19 rfl rfl (by decide) hx4 ?_
    refine x_if_ne (pc := 20) dX12_maySay_20 (tgt := 27) (by decide) (fun c5 => ?_) (fun c5 => ?_)
    · replace h := wo_neg c5 h
      refine x_sub [] trivial ?_
      exact j27 h
    · replace h := wo_pos c5 h
      refine x_iconst (pc := 23) dX12_maySay_23 (v := (1 : Int32)) (by decide) ?_
      refine x_goto (pc := 24) dX12_maySay_24 (tgt := 28) (by decide) ?_
      refine x_sub [] trivial ?_
      exact j28 _ h
noncomputable def f_X12_harmBy_J68 (l3 : Int32) (l4 : Int32) (u10 : Int32) : Option ((Int32 × Int32) ⊕ (Int32)) := mi_let (l3 + u10) fun v11 => some (.inl (v11, (l4 + (1 : Int32))))
noncomputable def f_X12_harmBy_B9 (m1 : mi_M) : (Int32 × Int32) → Option ((Int32 × Int32) ⊕ (Int32)) := fun s => match s with | (l3, l4) => mi_bo (f_X12_walks m1) fun v5 => if v5 ≤ l4 then some (.inr l3) else mi_g (vp_in ((81 : Int32) + ((2 : Int32) * l4)) 200) (mi_g (vp_in (((81 : Int32) + ((2 : Int32) * l4)) + (1 : Int32)) 200) (mi_g (vp_in (((6 : Int32) * (m1.1 56 0 ((81 : Int32) + ((2 : Int32) * l4)).toNatClampNeg)) + (m1.1 56 0 (((81 : Int32) + ((2 : Int32) * l4)) + (1 : Int32)).toNatClampNeg)) 36) (mi_let (m1.1 66 0 (((6 : Int32) * (m1.1 56 0 ((81 : Int32) + ((2 : Int32) * l4)).toNatClampNeg)) + (m1.1 56 0 (((81 : Int32) + ((2 : Int32) * l4)) + (1 : Int32)).toNatClampNeg)).toNatClampNeg) fun v9 => if v9 < (1000000 : Int32) then f_X12_harmBy_J68 l3 l4 v9 else f_X12_harmBy_J68 l3 l4 (100 : Int32))))
noncomputable def f_X12_harmBy_K9 (m1 : mi_M) : Int32 → Option (Int32 × mi_M) := fun e2 => some (e2, m1)
noncomputable def f_X12_harmBy (p0 : Int32) (mem : mi_M) : Option (Int32 × mi_M) := mi_bo (f_X12_laysWays p0 mem) fun m1 => mi_bo (mi_lp (f_X12_harmBy_B9 m1) mi_fu ((0 : Int32), (0 : Int32))) (f_X12_harmBy_K9 m1)
set_option maxRecDepth 100000 in
set_option maxHeartbeats 4000000 in
theorem w_X12_harmBy (p0 : Int32) (mem : mi_M) (a : Int32 × mi_M) (e : f_X12_harmBy p0 mem = some a) : mi_Ci (3) mX12_harmBy [vr 12 0, vi p0] mem (fun x m' => x = a.1 ∧ m' = a.2) := by
  unfold mi_Ci
  refine mi_C_intro (ls := [(0, vr 12 0), (1, vi p0)]) (by decide) rfl rfl ?_
  obtain ⟨Q0, hq0, h⟩ : ∃ Q0 : (Int32 × mi_M) → Prop, (∀ b, Q0 b → b = a) ∧ wo (f_X12_harmBy p0 mem) Q0 := ⟨fun b => b = a, fun _ h => h, wo_eq e⟩
  obtain ⟨QX, hQX⟩ : ∃ QX : Option mi_V → mi_M → Prop, QX = (fun r m' => ∃ x, r = some (vi x) ∧ x = a.1 ∧ m' = a.2) := ⟨_, rfl⟩
  rw [← hQX]
  unfold f_X12_harmBy at h
  refine x_aload_n (pc := 0) dX12_harmBy_0 rfl ?_
  refine x_iload_n (pc := 1) dX12_harmBy_1 rfl ?_
  refine y_Vv1 (pc := 2) h dX12_harmBy_2 lX12_347 (by decide) (by omega) rfl (fun a e => w_X12_laysWays _ _ a e) (fun m1 h => ?_)
  refine x_iconst (pc := 5) dX12_harmBy_5 (v := (0 : Int32)) (by decide) ?_
  refine x_istore_n (ls' := [(2, _), (0, _), (1, _)]) (pc := 6) dX12_harmBy_6 rfl rfl rfl ?_
  refine x_iconst (pc := 7) dX12_harmBy_7 (v := (0 : Int32)) (by decide) ?_
  refine x_istore_n (ls' := [(3, _), (2, _), (0, _), (1, _)]) (pc := 8) dX12_harmBy_8 rfl rfl rfl ?_
  have k9_0 : ∀ (e2 : Int32), wo (f_X12_harmBy_K9 m1 e2) Q0 → mi_X mX12_harmBy (3) 76 [(2, vi e2)] [] m1 QX := by
    intro e2 h
    unfold f_X12_harmBy_K9 at h
    try dsimp only at h
    refine x_iload_n (pc := 76) dX12_harmBy_76 rfl ?_
    exact x_iret (pc := 77) dX12_harmBy_77 rfl (by rw [hQX]; exact ⟨_, rfl, congrArg Prod.fst (hq0 _ (wo_some h)), congrArg Prod.snd (hq0 _ (wo_some h))⟩)
  refine x_sub [(0, _), (2, _), (3, _)] ⟨rfl, rfl, rfl, trivial⟩ ?_
  obtain ⟨ea, eb, h⟩ := wo_bo h
  refine wo_lq (X := fun s => match s with | (l3, l4) => mi_X mX12_harmBy (3) 9 [(0, vr 12 0), (2, vi l3), (3, vi l4)] [] m1 QX) (E := fun e => wo (f_X12_harmBy_K9 m1 e) Q0) ?_ _ ((0 : Int32), (0 : Int32)) ⟨_, eb, h⟩
  intro Q9 hb9 he9 s h
  obtain ⟨l3, l4⟩ := s
  show mi_X mX12_harmBy (3) 9 [(0, vr 12 0), (2, vi l3), (3, vi l4)] [] m1 QX
  unfold f_X12_harmBy_B9 at h
  try dsimp only at h
  refine x_iload_n (pc := 9) dX12_harmBy_9 rfl ?_
  refine x_aload_n (pc := 10) dX12_harmBy_10 rfl ?_
  refine z_Vi0 (pc := 11) h dX12_harmBy_11 lX12_350 (by decide) (by omega) rfl (fun a e => w_X12_walks _ a e) (fun v5 h => ?_)
  refine x_icmp_ge (pc := 14) dX12_harmBy_14 (tgt := 76) (by decide) (fun c13 => ?_) (fun c13 => ?_)
  · replace h := wo_pos c13 h
    refine x_sub [(2, _)] ⟨rfl, trivial⟩ ?_
    exact k9_0 _ (he9 l3 (wo_some h))
  · replace h := wo_neg c13 h
    refine x_aload_n (pc := 17) dX12_harmBy_17 rfl ?_
    refine x_getS (pc := 18) dX12_harmBy_18 fX12_120 rfl (by decide) ?_
    refine x_bipush (pc := 21) dX12_harmBy_21 (v := (6 : Int32)) (by decide) ?_
    refine x_aload_n (pc := 23) dX12_harmBy_23 rfl ?_
    refine x_getS (pc := 24) dX12_harmBy_24 fX12_89 rfl (by decide) ?_
    refine x_bipush (pc := 27) dX12_harmBy_27 (v := (81 : Int32)) (by decide) ?_
    refine x_iconst (pc := 29) dX12_harmBy_29 (v := (2 : Int32)) (by decide) ?_
    refine x_iload_n (pc := 30) dX12_harmBy_30 rfl ?_
    refine x_imul (pc := 31) dX12_harmBy_31 ?_
    refine x_iadd (pc := 32) dX12_harmBy_32 ?_
    obtain ⟨hx6, h⟩ := wo_g h
    refine x_ialdJ (pc := 33) dX12_harmBy_33 rfl rfl (by decide) hx6 ?_
    refine x_imul (pc := 34) dX12_harmBy_34 ?_
    refine x_aload_n (pc := 35) dX12_harmBy_35 rfl ?_
    refine x_getS (pc := 36) dX12_harmBy_36 fX12_89 rfl (by decide) ?_
    refine x_bipush (pc := 39) dX12_harmBy_39 (v := (81 : Int32)) (by decide) ?_
    refine x_iconst (pc := 41) dX12_harmBy_41 (v := (2 : Int32)) (by decide) ?_
    refine x_iload_n (pc := 42) dX12_harmBy_42 rfl ?_
    refine x_imul (pc := 43) dX12_harmBy_43 ?_
    refine x_iadd (pc := 44) dX12_harmBy_44 ?_
    refine x_iconst (pc := 45) dX12_harmBy_45 (v := (1 : Int32)) (by decide) ?_
    refine x_iadd (pc := 46) dX12_harmBy_46 ?_
    obtain ⟨hx7, h⟩ := wo_g h
    refine x_ialdJ (pc := 47) dX12_harmBy_47 rfl rfl (by decide) hx7 ?_
    refine x_iadd (pc := 48) dX12_harmBy_48 ?_
    obtain ⟨hx8, h⟩ := wo_g h
    refine x_ialdJ (pc := 49) dX12_harmBy_49 rfl rfl (by decide) hx8 ?_
    refine x_leti h (fun v9 h => ?_)
    refine x_istore (ls' := [(4, _), (0, _), (2, _), (3, _)]) (pc := 50) dX12_harmBy_50 rfl rfl ?_
    refine x_iload_n (pc := 52) dX12_harmBy_52 rfl ?_
    refine x_iload (pc := 53) dX12_harmBy_53 rfl ?_
    refine x_ldcw (pc := 55) dX12_harmBy_55 kX12_342 ?_
    have j68 : ∀ (u10 : Int32), wo (f_X12_harmBy_J68 l3 l4 u10) Q9 → mi_X mX12_harmBy (3) 68 [(0, vr 12 0), (3, vi l4)] [vi u10, vi l3] m1 QX := by
      intro u10 h
      unfold f_X12_harmBy_J68 at h
      refine x_iadd (pc := 68) dX12_harmBy_68 ?_
      refine x_leti h (fun v11 h => ?_)
      refine x_istore_n (ls' := [(2, _), (0, _), (3, _)]) (pc := 69) dX12_harmBy_69 rfl rfl rfl ?_
      refine x_iinc (ls' := [(3, _), (2, _), (0, _)]) (pc := 70) dX12_harmBy_70 rfl (v := l4 + (1 : Int32)) rfl rfl rfl ?_
      refine x_goto (pc := 73) dX12_harmBy_73 (tgt := 9) (by decide) ?_
      refine x_sub [(0, _), (2, _), (3, _)] ⟨rfl, rfl, rfl, trivial⟩ ?_
      exact hb9 (v11, (l4 + (1 : Int32))) (wo_some h)
    refine x_icmp_lt (pc := 58) dX12_harmBy_58 (tgt := 66) (by decide) (fun c12 => ?_) (fun c12 => ?_)
    · replace h := wo_pos c12 h
      refine x_iload (pc := 66) dX12_harmBy_66 rfl ?_
      refine x_sub [(0, _), (3, _)] ⟨rfl, rfl, trivial⟩ ?_
      exact j68 _ h
    · replace h := wo_neg c12 h
      refine x_bipush (pc := 61) dX12_harmBy_61 (v := (100 : Int32)) (by decide) ?_
      refine x_goto (pc := 63) dX12_harmBy_63 (tgt := 68) (by decide) ?_
      refine x_sub [(0, _), (3, _)] ⟨rfl, rfl, trivial⟩ ?_
      exact j68 _ h
noncomputable def f_X12_passes_J168 (p0 : Int32) (l12 : Int32) (m16 : mi_M) : Option ((Int32 × mi_M) ⊕ (mi_M)) := mi_g (vp_in ((p0 + (30 : Int32)) + l12) 1449) (mi_let (mi_wI m16 64 0 ((p0 + (30 : Int32)) + l12).toNatClampNeg (0 : Int32)) fun m18 => some (.inl ((l12 + (1 : Int32)), m18)))
noncomputable def f_X12_passes_J163 (p0 : Int32) (l12 : Int32) (m22 : mi_M) (u24 : Int32) : Option ((Int32 × mi_M) ⊕ (mi_M)) := mi_bo (f_X12_atMost ((m22.1 64 0 ((p0 + (14 : Int32)) + l12).toNatClampNeg) - u24) m22) fun v25 => mi_g (vp_in ((p0 + (14 : Int32)) + l12) 1449) (mi_let (mi_wI m22 64 0 ((p0 + (14 : Int32)) + l12).toNatClampNeg v25) fun m27 => f_X12_passes_J168 p0 l12 m27)
noncomputable def f_X12_passes_B71 (p0 : Int32) : (Int32 × mi_M) → Option ((Int32 × mi_M) ⊕ (mi_M)) := fun s => match s with | (l12, m13) => mi_bo (f_X12_wrongs m13) fun v14 => if v14 ≤ l12 then some (.inr m13) else mi_bo (f_X12_isOpen p0 l12 m13) fun v15 => if v15 = 0 then f_X12_passes_J168 p0 l12 m13 else mi_g (vp_in ((p0 + (14 : Int32)) + l12) 1449) (mi_g (vp_in (p0 + (0 : Int32)) 1449) (mi_b (f_X12_lawOf (1 : Int32) l12 (m13.1 64 0 ((p0 + (14 : Int32)) + l12).toNatClampNeg) (m13.1 64 0 (p0 + (0 : Int32)).toNatClampNeg) (1 : Int32) m13) fun v21 m22 => mi_g (vp_in ((p0 + (14 : Int32)) + l12) 1449) (if (-9 : Int32) ≤ v21 then if v21 ≤ (9 : Int32) then f_X12_passes_J163 p0 l12 m22 v21 else f_X12_passes_J163 p0 l12 m22 (9 : Int32) else f_X12_passes_J163 p0 l12 m22 (-9 : Int32))))
noncomputable def f_X12_passes_K71 (p0 : Int32) (v2 : Int32) : mi_M → Option (Int32 × mi_M) := fun m8 => mi_g (vp_in (p0 + (0 : Int32)) 1449) (mi_g (vp_in (p0 + (0 : Int32)) 1449) (mi_let (mi_wI m8 64 0 (p0 + (0 : Int32)).toNatClampNeg ((m8.1 64 0 (p0 + (0 : Int32)).toNatClampNeg) + (1 : Int32))) fun m11 => some (v2, m11)))
noncomputable def f_X12_passes_J61 (p0 : Int32) (l32 : Int32) (m33 : mi_M) (u37 : Int32) : Option ((Int32 × mi_M) ⊕ (mi_M)) := mi_g (vp_in ((p0 + (2 : Int32)) + l32) 1449) (mi_let (mi_wI m33 64 0 ((p0 + (2 : Int32)) + l32).toNatClampNeg ((m33.1 64 0 ((p0 + (2 : Int32)) + l32).toNatClampNeg) - u37)) fun m39 => some (.inl ((l32 + (1 : Int32)), m39)))
noncomputable def f_X12_passes_B24 (p0 : Int32) : (Int32 × mi_M) → Option ((Int32 × mi_M) ⊕ (mi_M)) := fun s => match s with | (l32, m33) => mi_bo (f_X12_people m33) fun v34 => if v34 ≤ l32 then some (.inr m33) else mi_g (vp_in ((p0 + (2 : Int32)) + l32) 1449) (mi_g (vp_in ((p0 + (2 : Int32)) + l32) 1449) (if (m33.1 64 0 ((p0 + (2 : Int32)) + l32).toNatClampNeg) ≤ 0 then f_X12_passes_J61 p0 l32 m33 (0 : Int32) else f_X12_passes_J61 p0 l32 m33 (1 : Int32)))
noncomputable def f_X12_passes_K24 (p0 : Int32) (v2 : Int32) : mi_M → Option (Int32 × mi_M) := fun m7 => mi_bo (mi_lp (f_X12_passes_B71 p0) mi_fu ((0 : Int32), m7)) (f_X12_passes_K71 p0 v2)
noncomputable def f_X12_passes (p0 : Int32) (mem : mi_M) : Option (Int32 × mi_M) := mi_bo (f_X12_lampsOf p0 mem) fun v1 => mi_b (f_X12_harmBy v1 mem) fun v2 m3 => mi_g (vp_in (p0 + (1 : Int32)) 1449) (mi_g (vp_in (p0 + (1 : Int32)) 1449) (mi_let (mi_wI m3 64 0 (p0 + (1 : Int32)).toNatClampNeg ((m3.1 64 0 (p0 + (1 : Int32)).toNatClampNeg) + v2)) fun m6 => mi_bo (mi_lp (f_X12_passes_B24 p0) mi_fu ((0 : Int32), m6)) (f_X12_passes_K24 p0 v2)))
set_option maxRecDepth 100000 in
set_option maxHeartbeats 4000000 in
theorem w_X12_passes (p0 : Int32) (mem : mi_M) (a : Int32 × mi_M) (e : f_X12_passes p0 mem = some a) : mi_Ci (4) mX12_passes [vr 12 0, vi p0] mem (fun x m' => x = a.1 ∧ m' = a.2) := by
  unfold mi_Ci
  refine mi_C_intro (ls := [(0, vr 12 0), (1, vi p0)]) (by decide) rfl rfl ?_
  obtain ⟨Q0, hq0, h⟩ : ∃ Q0 : (Int32 × mi_M) → Prop, (∀ b, Q0 b → b = a) ∧ wo (f_X12_passes p0 mem) Q0 := ⟨fun b => b = a, fun _ h => h, wo_eq e⟩
  obtain ⟨QX, hQX⟩ : ∃ QX : Option mi_V → mi_M → Prop, QX = (fun r m' => ∃ x, r = some (vi x) ∧ x = a.1 ∧ m' = a.2) := ⟨_, rfl⟩
  rw [← hQX]
  unfold f_X12_passes at h
  refine x_aload_n (pc := 0) dX12_passes_0 rfl ?_
  refine x_aload_n (pc := 1) dX12_passes_1 rfl ?_
  refine x_iload_n (pc := 2) dX12_passes_2 rfl ?_
  refine z_Vi1 (pc := 3) h dX12_passes_3 lX12_353 (by decide) (by omega) rfl (fun a e => w_X12_lampsOf _ _ a e) (fun v1 h => ?_)
  refine y_Vi1 (pc := 6) h dX12_passes_6 lX12_356 (by decide) (by omega) rfl (fun a e => w_X12_harmBy _ _ a e) (fun v2 m3 h => ?_)
  refine x_istore_n (ls' := [(2, _), (0, _), (1, _)]) (pc := 9) dX12_passes_9 rfl rfl rfl ?_
  refine x_aload_n (pc := 10) dX12_passes_10 rfl ?_
  refine x_getS (pc := 11) dX12_passes_11 fX12_113 rfl (by decide) ?_
  refine x_iload_n (pc := 14) dX12_passes_14 rfl ?_
  refine x_iconst (pc := 15) dX12_passes_15 (v := (1 : Int32)) (by decide) ?_
  refine x_iadd (pc := 16) dX12_passes_16 ?_
  refine x_dup2 (pc := 17) dX12_passes_17 rfl rfl ?_
  obtain ⟨hx4, h⟩ := wo_g h
  refine x_ialdJ (pc := 18) dX12_passes_18 rfl rfl (by decide) hx4 ?_
  refine x_iload_n (pc := 19) dX12_passes_19 rfl ?_
  refine x_iadd (pc := 20) dX12_passes_20 ?_
  obtain ⟨hx5, h⟩ := wo_g h
  refine x_iastJ (pc := 21) dX12_passes_21 rfl rfl (by decide) rfl hx5 ?_
  refine x_letm h (fun m6 h => ?_)
  refine x_iconst (pc := 22) dX12_passes_22 (v := (0 : Int32)) (by decide) ?_
  refine x_istore_n (ls' := [(3, _), (2, _), (0, _), (1, _)]) (pc := 23) dX12_passes_23 rfl rfl rfl ?_
  have k24_0 : ∀ (m7 : mi_M), wo (f_X12_passes_K24 p0 v2 m7) Q0 → mi_X mX12_passes (4) 69 [(0, vr 12 0), (1, vi p0), (2, vi v2)] [] m7 QX := by
    intro m7 h
    unfold f_X12_passes_K24 at h
    try dsimp only at h
    refine x_iconst (pc := 69) dX12_passes_69 (v := (0 : Int32)) (by decide) ?_
    refine x_istore_n (ls' := [(3, _), (0, _), (1, _), (2, _)]) (pc := 70) dX12_passes_70 rfl rfl rfl ?_
    have k71_0 : ∀ (m8 : mi_M), wo (f_X12_passes_K71 p0 v2 m8) Q0 → mi_X mX12_passes (4) 186 [(0, vr 12 0), (1, vi p0), (2, vi v2)] [] m8 QX := by
      intro m8 h
      unfold f_X12_passes_K71 at h
      try dsimp only at h
      refine x_aload_n (pc := 186) dX12_passes_186 rfl ?_
      refine x_getS (pc := 187) dX12_passes_187 fX12_113 rfl (by decide) ?_
      refine x_iload_n (pc := 190) dX12_passes_190 rfl ?_
      refine x_iconst (pc := 191) dX12_passes_191 (v := (0 : Int32)) (by decide) ?_
      refine x_iadd (pc := 192) dX12_passes_192 ?_
      refine x_dup2 (pc := 193) dX12_passes_193 rfl rfl ?_
      obtain ⟨hx9, h⟩ := wo_g h
      refine x_ialdJ (pc := 194) dX12_passes_194 rfl rfl (by decide) hx9 ?_
      refine x_iconst (pc := 195) dX12_passes_195 (v := (1 : Int32)) (by decide) ?_
      refine x_iadd (pc := 196) dX12_passes_196 ?_
      obtain ⟨hx10, h⟩ := wo_g h
      refine x_iastJ (pc := 197) dX12_passes_197 rfl rfl (by decide) rfl hx10 ?_
      refine x_letm h (fun m11 h => ?_)
      refine x_iload_n (pc := 198) dX12_passes_198 rfl ?_
      exact x_iret (pc := 199) dX12_passes_199 rfl (by rw [hQX]; exact ⟨_, rfl, congrArg Prod.fst (hq0 _ (wo_some h)), congrArg Prod.snd (hq0 _ (wo_some h))⟩)
    refine x_sub [(0, _), (1, _), (2, _), (3, _)] ⟨rfl, rfl, rfl, rfl, trivial⟩ ?_
    obtain ⟨ea, eb, h⟩ := wo_bo h
    refine wo_lq (X := fun s => match s with | (l12, m13) => mi_X mX12_passes (4) 71 [(0, vr 12 0), (1, vi p0), (2, vi v2), (3, vi l12)] [] m13 QX) (E := fun e => wo (f_X12_passes_K71 p0 v2 e) Q0) ?_ _ ((0 : Int32), m7) ⟨_, eb, h⟩
    intro Q71 hb71 he71 s h
    obtain ⟨l12, m13⟩ := s
    show mi_X mX12_passes (4) 71 [(0, vr 12 0), (1, vi p0), (2, vi v2), (3, vi l12)] [] m13 QX
    unfold f_X12_passes_B71 at h
    try dsimp only at h
    refine x_iload_n (pc := 71) dX12_passes_71 rfl ?_
    refine x_aload_n (pc := 72) dX12_passes_72 rfl ?_
    refine z_Vi0 (pc := 73) h dX12_passes_73 lX12_273 (by decide) (by omega) rfl (fun a e => w_X12_wrongs _ a e) (fun v14 h => ?_)
    refine x_icmp_ge (pc := 76) dX12_passes_76 (tgt := 186) (by decide) (fun c31 => ?_) (fun c31 => ?_)
    · replace h := wo_pos c31 h
      refine x_sub [(0, _), (1, _), (2, _)] ⟨rfl, rfl, rfl, trivial⟩ ?_
      exact k71_0 _ (he71 m13 (wo_some h))
    · replace h := wo_neg c31 h
      refine x_aload_n (pc := 79) dX12_passes_79 rfl ?_
      refine x_iload_n (pc := 80) dX12_passes_80 rfl ?_
      refine x_iload_n (pc := 81) dX12_passes_81 rfl ?_
      refine z_Vi2 (pc := 82) h dX12_passes_82 lX12_319 (by decide) (by omega) rfl (fun a e => w_X12_isOpen _ _ _ a e) (fun v15 h => ?_)
      have j168 : ∀ (m16 : mi_M), wo (f_X12_passes_J168 p0 l12 m16) Q71 → mi_X mX12_passes (4) 168 [(0, vr 12 0), (1, vi p0), (2, vi v2), (3, vi l12)] [] m16 QX := by
        intro m16 h
        unfold f_X12_passes_J168 at h
        refine x_aload_n (pc := 168) dX12_passes_168 rfl ?_
        refine x_getS (pc := 169) dX12_passes_169 fX12_113 rfl (by decide) ?_
        refine x_iload_n (pc := 172) dX12_passes_172 rfl ?_
        refine x_bipush (pc := 173) dX12_passes_173 (v := (30 : Int32)) (by decide) ?_
        refine x_iadd (pc := 175) dX12_passes_175 ?_
        refine x_iload_n (pc := 176) dX12_passes_176 rfl ?_
        refine x_iadd (pc := 177) dX12_passes_177 ?_
        refine x_iconst (pc := 178) dX12_passes_178 (v := (0 : Int32)) (by decide) ?_
        obtain ⟨hx17, h⟩ := wo_g h
        refine x_iastJ (pc := 179) dX12_passes_179 rfl rfl (by decide) rfl hx17 ?_
        refine x_letm h (fun m18 h => ?_)
        refine x_iinc (ls' := [(3, _), (0, _), (1, _), (2, _)]) (pc := 180) dX12_passes_180 rfl (v := l12 + (1 : Int32)) rfl rfl rfl ?_
        refine x_goto (pc := 183) dX12_passes_183 (tgt := 71) (by decide) ?_
        refine x_sub [(0, _), (1, _), (2, _), (3, _)] ⟨rfl, rfl, rfl, rfl, trivial⟩ ?_
        exact hb71 ((l12 + (1 : Int32)), m18) (wo_some h)
      refine x_if_eq (pc := 85) dX12_passes_85 (tgt := 168) (by decide) (fun c30 => ?_) (fun c30 => ?_)
      · replace h := wo_pos c30 h
        refine x_sub [(0, _), (1, _), (2, _), (3, _)] ⟨rfl, rfl, rfl, rfl, trivial⟩ ?_
        exact j168 _ h
      · replace h := wo_neg c30 h
        refine x_aload_n (pc := 88) dX12_passes_88 rfl ?_
        refine x_iconst (pc := 89) dX12_passes_89 (v := (1 : Int32)) (by decide) ?_
        refine x_iload_n (pc := 90) dX12_passes_90 rfl ?_
        refine x_aload_n (pc := 91) dX12_passes_91 rfl ?_
        refine x_getS (pc := 92) dX12_passes_92 fX12_113 rfl (by decide) ?_
        refine x_iload_n (pc := 95) dX12_passes_95 rfl ?_
        refine x_bipush (pc := 96) dX12_passes_96 (v := (14 : Int32)) (by decide) ?_
        refine x_iadd (pc := 98) dX12_passes_98 ?_
        refine x_iload_n (pc := 99) dX12_passes_99 rfl ?_
        refine x_iadd (pc := 100) dX12_passes_100 ?_
        obtain ⟨hx19, h⟩ := wo_g h
        refine x_ialdJ (pc := 101) dX12_passes_101 rfl rfl (by decide) hx19 ?_
        refine x_aload_n (pc := 102) dX12_passes_102 rfl ?_
        refine x_getS (pc := 103) dX12_passes_103 fX12_113 rfl (by decide) ?_
        refine x_iload_n (pc := 106) dX12_passes_106 rfl ?_
        refine x_iconst (pc := 107) dX12_passes_107 (v := (0 : Int32)) (by decide) ?_
        refine x_iadd (pc := 108) dX12_passes_108 ?_
        obtain ⟨hx20, h⟩ := wo_g h
        refine x_ialdJ (pc := 109) dX12_passes_109 rfl rfl (by decide) hx20 ?_
        refine x_iconst (pc := 110) dX12_passes_110 (v := (1 : Int32)) (by decide) ?_
        refine y_Vi5 (pc := 111) h dX12_passes_111 lX12_329 (by decide) (by omega) rfl (fun a e => w_X12_lawOf _ _ _ _ _ _ a e) (fun v21 m22 h => ?_)
        refine x_istore (ls' := [(4, _), (0, _), (1, _), (2, _), (3, _)]) (pc := 114) dX12_passes_114 rfl rfl ?_
        refine x_aload_n (pc := 116) dX12_passes_116 rfl ?_
        refine x_getS (pc := 117) dX12_passes_117 fX12_113 rfl (by decide) ?_
        refine x_iload_n (pc := 120) dX12_passes_120 rfl ?_
        refine x_bipush (pc := 121) dX12_passes_121 (v := (14 : Int32)) (by decide) ?_
        refine x_iadd (pc := 123) dX12_passes_123 ?_
        refine x_iload_n (pc := 124) dX12_passes_124 rfl ?_
        refine x_iadd (pc := 125) dX12_passes_125 ?_
        refine x_aload_n (pc := 126) dX12_passes_126 rfl ?_
        refine x_getS (pc := 127) dX12_passes_127 fX12_113 rfl (by decide) ?_
        refine x_iload_n (pc := 130) dX12_passes_130 rfl ?_
        refine x_bipush (pc := 131) dX12_passes_131 (v := (14 : Int32)) (by decide) ?_
        refine x_iadd (pc := 133) dX12_passes_133 ?_
        refine x_iload_n (pc := 134) dX12_passes_134 rfl ?_
        refine x_iadd (pc := 135) dX12_passes_135 ?_
        obtain ⟨hx23, h⟩ := wo_g h
        refine x_ialdJ (pc := 136) dX12_passes_136 rfl rfl (by decide) hx23 ?_
        refine x_iload (pc := 137) dX12_passes_137 rfl ?_
        refine x_bipush (pc := 139) dX12_passes_139 (v := (-9 : Int32)) (by decide) ?_
        have j163 : ∀ (u24 : Int32), wo (f_X12_passes_J163 p0 l12 m22 u24) Q71 → mi_X mX12_passes (4) 163 [(0, vr 12 0), (1, vi p0), (2, vi v2), (3, vi l12)] [vi u24, vi (m22.1 64 0 ((p0 + (14 : Int32)) + l12).toNatClampNeg), vi ((p0 + (14 : Int32)) + l12), vr 64 0] m22 QX := by
          intro u24 h
          unfold f_X12_passes_J163 at h
          refine x_isub (pc := 163) dX12_passes_163 ?_
          refine z_Si1 (pc := 164) h dX12_passes_164 lX12_333 (by omega) rfl (fun a e => w_X12_atMost _ _ a e) (fun v25 h => ?_)
          obtain ⟨hx26, h⟩ := wo_g h
          refine x_iastJ (pc := 167) dX12_passes_167 rfl rfl (by decide) rfl hx26 ?_
          refine x_letm h (fun m27 h => ?_)
          refine x_sub [(0, _), (1, _), (2, _), (3, _)] ⟨rfl, rfl, rfl, rfl, trivial⟩ ?_
          exact j168 _ h
        refine x_icmp_ge (pc := 141) dX12_passes_141 (tgt := 149) (by decide) (fun c29 => ?_) (fun c29 => ?_)
        · replace h := wo_pos c29 h
          refine x_iload (pc := 149) dX12_passes_149 rfl ?_
          refine x_bipush (pc := 151) dX12_passes_151 (v := (9 : Int32)) (by decide) ?_
          refine x_icmp_le (pc := 153) dX12_passes_153 (tgt := 161) (by decide) (fun c28 => ?_) (fun c28 => ?_)
          · replace h := wo_pos c28 h
            refine x_iload (pc := 161) dX12_passes_161 rfl ?_
            refine x_sub [(0, _), (1, _), (2, _), (3, _)] ⟨rfl, rfl, rfl, rfl, trivial⟩ ?_
            exact j163 _ h
          · replace h := wo_neg c28 h
            refine x_bipush (pc := 156) dX12_passes_156 (v := (9 : Int32)) (by decide) ?_
            refine x_goto (pc := 158) dX12_passes_158 (tgt := 163) (by decide) ?_
            refine x_sub [(0, _), (1, _), (2, _), (3, _)] ⟨rfl, rfl, rfl, rfl, trivial⟩ ?_
            exact j163 _ h
        · replace h := wo_neg c29 h
          refine x_bipush (pc := 144) dX12_passes_144 (v := (-9 : Int32)) (by decide) ?_
          refine x_goto (pc := 146) dX12_passes_146 (tgt := 163) (by decide) ?_
          refine x_sub [(0, _), (1, _), (2, _), (3, _)] ⟨rfl, rfl, rfl, rfl, trivial⟩ ?_
          exact j163 _ h
  refine x_sub [(0, _), (1, _), (2, _), (3, _)] ⟨rfl, rfl, rfl, rfl, trivial⟩ ?_
  obtain ⟨ea, eb, h⟩ := wo_bo h
  refine wo_lq (X := fun s => match s with | (l32, m33) => mi_X mX12_passes (4) 24 [(0, vr 12 0), (1, vi p0), (2, vi v2), (3, vi l32)] [] m33 QX) (E := fun e => wo (f_X12_passes_K24 p0 v2 e) Q0) ?_ _ ((0 : Int32), m6) ⟨_, eb, h⟩
  intro Q24 hb24 he24 s h
  obtain ⟨l32, m33⟩ := s
  show mi_X mX12_passes (4) 24 [(0, vr 12 0), (1, vi p0), (2, vi v2), (3, vi l32)] [] m33 QX
  unfold f_X12_passes_B24 at h
  try dsimp only at h
  refine x_iload_n (pc := 24) dX12_passes_24 rfl ?_
  refine x_aload_n (pc := 25) dX12_passes_25 rfl ?_
  refine z_Vi0 (pc := 26) h dX12_passes_26 lX12_294 (by decide) (by omega) rfl (fun a e => w_X12_people _ a e) (fun v34 h => ?_)
  refine x_icmp_ge (pc := 29) dX12_passes_29 (tgt := 69) (by decide) (fun c41 => ?_) (fun c41 => ?_)
  · replace h := wo_pos c41 h
    refine x_sub [(0, _), (1, _), (2, _)] ⟨rfl, rfl, rfl, trivial⟩ ?_
    exact k24_0 _ (he24 m33 (wo_some h))
  · replace h := wo_neg c41 h
    refine x_aload_n (pc := 32) dX12_passes_32 rfl ?_
    refine x_getS (pc := 33) dX12_passes_33 fX12_113 rfl (by decide) ?_
    refine x_iload_n (pc := 36) dX12_passes_36 rfl ?_
    refine x_iconst (pc := 37) dX12_passes_37 (v := (2 : Int32)) (by decide) ?_
    refine x_iadd (pc := 38) dX12_passes_38 ?_
    refine x_iload_n (pc := 39) dX12_passes_39 rfl ?_
    refine x_iadd (pc := 40) dX12_passes_40 ?_
    refine x_dup2 (pc := 41) dX12_passes_41 rfl rfl ?_
    obtain ⟨hx35, h⟩ := wo_g h
    refine x_ialdJ (pc := 42) dX12_passes_42 rfl rfl (by decide) hx35 ?_
    refine x_aload_n (pc := 43) dX12_passes_43 rfl ?_
    refine x_getS (pc := 44) dX12_passes_44 fX12_113 rfl (by decide) ?_
    refine x_iload_n (pc := 47) dX12_passes_47 rfl ?_
    refine x_iconst (pc := 48) dX12_passes_48 (v := (2 : Int32)) (by decide) ?_
    refine x_iadd (pc := 49) dX12_passes_49 ?_
    refine x_iload_n (pc := 50) dX12_passes_50 rfl ?_
    refine x_iadd (pc := 51) dX12_passes_51 ?_
    obtain ⟨hx36, h⟩ := wo_g h
    refine x_ialdJ (pc := 52) dX12_passes_52 rfl rfl (by decide) hx36 ?_
    have j61 : ∀ (u37 : Int32), wo (f_X12_passes_J61 p0 l32 m33 u37) Q24 → mi_X mX12_passes (4) 61 [(0, vr 12 0), (1, vi p0), (2, vi v2), (3, vi l32)] [vi u37, vi (m33.1 64 0 ((p0 + (2 : Int32)) + l32).toNatClampNeg), vi ((p0 + (2 : Int32)) + l32), vr 64 0] m33 QX := by
      intro u37 h
      unfold f_X12_passes_J61 at h
      refine x_isub (pc := 61) dX12_passes_61 ?_
      obtain ⟨hx38, h⟩ := wo_g h
      refine x_iastJ (pc := 62) dX12_passes_62 rfl rfl (by decide) rfl hx38 ?_
      refine x_letm h (fun m39 h => ?_)
      refine x_iinc (ls' := [(3, _), (0, _), (1, _), (2, _)]) (pc := 63) dX12_passes_63 rfl (v := l32 + (1 : Int32)) rfl rfl rfl ?_
      refine x_goto (pc := 66) dX12_passes_66 (tgt := 24) (by decide) ?_
      refine x_sub [(0, _), (1, _), (2, _), (3, _)] ⟨rfl, rfl, rfl, rfl, trivial⟩ ?_
      exact hb24 ((l32 + (1 : Int32)), m39) (wo_some h)
    refine x_if_le (pc := 53) dX12_passes_53 (tgt := 60) (by decide) (fun c40 => ?_) (fun c40 => ?_)
    · replace h := wo_pos c40 h
      refine x_iconst (pc := 60) dX12_passes_60 (v := (0 : Int32)) (by decide) ?_
      refine x_sub [(0, _), (1, _), (2, _), (3, _)] ⟨rfl, rfl, rfl, rfl, trivial⟩ ?_
      exact j61 _ h
    · replace h := wo_neg c40 h
      refine x_iconst (pc := 56) dX12_passes_56 (v := (1 : Int32)) (by decide) ?_
      refine x_goto (pc := 57) dX12_passes_57 (tgt := 61) (by decide) ?_
      refine x_sub [(0, _), (1, _), (2, _), (3, _)] ⟨rfl, rfl, rfl, rfl, trivial⟩ ?_
      exact j61 _ h
noncomputable def f_X12_says (p0 : Int32) (p1 : Int32) (mem : mi_M) : Option (Int32 × mi_M) := mi_g (vp_in ((p0 + (14 : Int32)) + p1) 1449) (mi_g (vp_in (p0 + (0 : Int32)) 1449) (mi_b (f_X12_lawOf (0 : Int32) p1 (mem.1 64 0 ((p0 + (14 : Int32)) + p1).toNatClampNeg) (mem.1 64 0 (p0 + (0 : Int32)).toNatClampNeg) (2 : Int32) mem) fun v3 m4 => mi_bo (f_X12_atMost v3 m4) fun v5 => mi_g (vp_in ((p0 + (14 : Int32)) + p1) 1449) (mi_bo (f_X12_atMost ((m4.1 64 0 ((p0 + (14 : Int32)) + p1).toNatClampNeg) - v5) m4) fun v7 => mi_g (vp_in ((p0 + (14 : Int32)) + p1) 1449) (mi_let (mi_wI m4 64 0 ((p0 + (14 : Int32)) + p1).toNatClampNeg v7) fun m9 => mi_g (vp_in ((p0 + (30 : Int32)) + p1) 1449) (mi_let (mi_wI m9 64 0 ((p0 + (30 : Int32)) + p1).toNatClampNeg (1 : Int32)) fun m11 => mi_g (vp_in ((p0 + (14 : Int32)) + p1) 1449) (some ((m11.1 64 0 ((p0 + (14 : Int32)) + p1).toNatClampNeg), m11)))))))
set_option maxRecDepth 100000 in
set_option maxHeartbeats 4000000 in
theorem w_X12_says (p0 : Int32) (p1 : Int32) (mem : mi_M) (a : Int32 × mi_M) (e : f_X12_says p0 p1 mem = some a) : mi_Ci (4) mX12_says [vr 12 0, vi p0, vi p1] mem (fun x m' => x = a.1 ∧ m' = a.2) := by
  unfold mi_Ci
  refine mi_C_intro (ls := [(0, vr 12 0), (1, vi p0), (2, vi p1)]) (by decide) rfl rfl ?_
  obtain ⟨Q0, hq0, h⟩ : ∃ Q0 : (Int32 × mi_M) → Prop, (∀ b, Q0 b → b = a) ∧ wo (f_X12_says p0 p1 mem) Q0 := ⟨fun b => b = a, fun _ h => h, wo_eq e⟩
  obtain ⟨QX, hQX⟩ : ∃ QX : Option mi_V → mi_M → Prop, QX = (fun r m' => ∃ x, r = some (vi x) ∧ x = a.1 ∧ m' = a.2) := ⟨_, rfl⟩
  rw [← hQX]
  unfold f_X12_says at h
  refine x_aload_n (pc := 0) dX12_says_0 rfl ?_
  refine x_iconst (pc := 1) dX12_says_1 (v := (0 : Int32)) (by decide) ?_
  refine x_iload_n (pc := 2) dX12_says_2 rfl ?_
  refine x_aload_n (pc := 3) dX12_says_3 rfl ?_
  refine x_getS (pc := 4) dX12_says_4 fX12_113 rfl (by decide) ?_
  refine x_iload_n (pc := 7) dX12_says_7 rfl ?_
  refine x_bipush (pc := 8) dX12_says_8 (v := (14 : Int32)) (by decide) ?_
  refine x_iadd (pc := 10) dX12_says_10 ?_
  refine x_iload_n (pc := 11) dX12_says_11 rfl ?_
  refine x_iadd (pc := 12) dX12_says_12 ?_
  obtain ⟨hx1, h⟩ := wo_g h
  refine x_ialdJ (pc := 13) dX12_says_13 rfl rfl (by decide) hx1 ?_
  refine x_aload_n (pc := 14) dX12_says_14 rfl ?_
  refine x_getS (pc := 15) dX12_says_15 fX12_113 rfl (by decide) ?_
  refine x_iload_n (pc := 18) dX12_says_18 rfl ?_
  refine x_iconst (pc := 19) dX12_says_19 (v := (0 : Int32)) (by decide) ?_
  refine x_iadd (pc := 20) dX12_says_20 ?_
  obtain ⟨hx2, h⟩ := wo_g h
  refine x_ialdJ (pc := 21) dX12_says_21 rfl rfl (by decide) hx2 ?_
  refine x_iconst (pc := 22) dX12_says_22 (v := (2 : Int32)) (by decide) ?_
  refine y_Vi5 (pc := 23) h dX12_says_23 lX12_329 (by decide) (by omega) rfl (fun a e => w_X12_lawOf _ _ _ _ _ _ a e) (fun v3 m4 h => ?_)
  refine z_Si1 (pc := 26) h dX12_says_26 lX12_333 (by omega) rfl (fun a e => w_X12_atMost _ _ a e) (fun v5 h => ?_)
  refine x_istore_n (ls' := [(3, _), (0, _), (1, _), (2, _)]) (pc := 29) dX12_says_29 rfl rfl rfl ?_
  refine x_aload_n (pc := 30) dX12_says_30 rfl ?_
  refine x_getS (pc := 31) dX12_says_31 fX12_113 rfl (by decide) ?_
  refine x_iload_n (pc := 34) dX12_says_34 rfl ?_
  refine x_bipush (pc := 35) dX12_says_35 (v := (14 : Int32)) (by decide) ?_
  refine x_iadd (pc := 37) dX12_says_37 ?_
  refine x_iload_n (pc := 38) dX12_says_38 rfl ?_
  refine x_iadd (pc := 39) dX12_says_39 ?_
  refine x_aload_n (pc := 40) dX12_says_40 rfl ?_
  refine x_getS (pc := 41) dX12_says_41 fX12_113 rfl (by decide) ?_
  refine x_iload_n (pc := 44) dX12_says_44 rfl ?_
  refine x_bipush (pc := 45) dX12_says_45 (v := (14 : Int32)) (by decide) ?_
  refine x_iadd (pc := 47) dX12_says_47 ?_
  refine x_iload_n (pc := 48) dX12_says_48 rfl ?_
  refine x_iadd (pc := 49) dX12_says_49 ?_
  obtain ⟨hx6, h⟩ := wo_g h
  refine x_ialdJ (pc := 50) dX12_says_50 rfl rfl (by decide) hx6 ?_
  refine x_iload_n (pc := 51) dX12_says_51 rfl ?_
  refine x_isub (pc := 52) dX12_says_52 ?_
  refine z_Si1 (pc := 53) h dX12_says_53 lX12_333 (by omega) rfl (fun a e => w_X12_atMost _ _ a e) (fun v7 h => ?_)
  obtain ⟨hx8, h⟩ := wo_g h
  refine x_iastJ (pc := 56) dX12_says_56 rfl rfl (by decide) rfl hx8 ?_
  refine x_letm h (fun m9 h => ?_)
  refine x_aload_n (pc := 57) dX12_says_57 rfl ?_
  refine x_getS (pc := 58) dX12_says_58 fX12_113 rfl (by decide) ?_
  refine x_iload_n (pc := 61) dX12_says_61 rfl ?_
  refine x_bipush (pc := 62) dX12_says_62 (v := (30 : Int32)) (by decide) ?_
  refine x_iadd (pc := 64) dX12_says_64 ?_
  refine x_iload_n (pc := 65) dX12_says_65 rfl ?_
  refine x_iadd (pc := 66) dX12_says_66 ?_
  refine x_iconst (pc := 67) dX12_says_67 (v := (1 : Int32)) (by decide) ?_
  obtain ⟨hx10, h⟩ := wo_g h
  refine x_iastJ (pc := 68) dX12_says_68 rfl rfl (by decide) rfl hx10 ?_
  refine x_letm h (fun m11 h => ?_)
  refine x_aload_n (pc := 69) dX12_says_69 rfl ?_
  refine x_getS (pc := 70) dX12_says_70 fX12_113 rfl (by decide) ?_
  refine x_iload_n (pc := 73) dX12_says_73 rfl ?_
  refine x_bipush (pc := 74) dX12_says_74 (v := (14 : Int32)) (by decide) ?_
  refine x_iadd (pc := 76) dX12_says_76 ?_
  refine x_iload_n (pc := 77) dX12_says_77 rfl ?_
  refine x_iadd (pc := 78) dX12_says_78 ?_
  obtain ⟨hx12, h⟩ := wo_g h
  refine x_ialdJ (pc := 79) dX12_says_79 rfl rfl (by decide) hx12 ?_
  exact x_iret (pc := 80) dX12_says_80 rfl (by rw [hQX]; exact ⟨_, rfl, congrArg Prod.fst (hq0 _ (wo_some h)), congrArg Prod.snd (hq0 _ (wo_some h))⟩)
noncomputable def f_X12_does_J134 (u1 : Int32) (m2 : mi_M) : Option (Int32 × mi_M) := mi_g (u1 = 0 ∨ u1 = 1) (some (u1, m2))
noncomputable def f_X12_does_J121 (mem : mi_M) (u1 : Int32) : Option (Int32 × mi_M) := if u1 = 0 then f_X12_does_J134 u1 mem else mi_b (f_X12_passes (1323 : Int32) mem) fun v4 m5 => f_X12_does_J134 u1 m5
noncomputable def f_X12_does_J99 (p0 : Int32) (p1 : Int32) (mem : mi_M) (u1 : Int32) : Option (Int32 × mi_M) := if u1 = 0 then f_X12_does_J121 mem u1 else if p0 = (2 : Int32) then mi_b (f_X12_asks (1323 : Int32) p1 mem) fun v7 m8 => f_X12_does_J134 u1 m8 else f_X12_does_J121 mem u1
noncomputable def f_X12_does_J76 (p0 : Int32) (p1 : Int32) (p2 : Int32) (mem : mi_M) (u1 : Int32) : Option (Int32 × mi_M) := if u1 = 0 then f_X12_does_J99 p0 p1 mem u1 else if p0 = (1 : Int32) then mi_b (f_X12_gives (1323 : Int32) p1 p2 mem) fun v11 m12 => f_X12_does_J134 u1 m12 else f_X12_does_J99 p0 p1 mem u1
noncomputable def f_X12_does_J53 (p0 : Int32) (p1 : Int32) (p2 : Int32) (mem : mi_M) (u1 : Int32) : Option (Int32 × mi_M) := if u1 = 0 then f_X12_does_J76 p0 p1 p2 mem u1 else if p0 = 0 then mi_b (f_X12_says (1323 : Int32) p1 mem) fun v15 m16 => f_X12_does_J134 u1 m16 else f_X12_does_J76 p0 p1 p2 mem u1
noncomputable def f_X12_does_J48 (p0 : Int32) (p1 : Int32) (p2 : Int32) (mem : mi_M) : Option (Int32 × mi_M) := f_X12_does_J53 p0 p1 p2 mem (1 : Int32)
noncomputable def f_X12_does (p0 : Int32) (p1 : Int32) (p2 : Int32) (mem : mi_M) : Option (Int32 × mi_M) := if p0 = 0 then mi_bo (f_X12_maySay (1323 : Int32) p1 mem) fun v24 => f_X12_does_J53 p0 p1 p2 mem v24 else if p0 = (1 : Int32) then mi_bo (f_X12_mayGive (1323 : Int32) p1 p2 mem) fun v22 => f_X12_does_J53 p0 p1 p2 mem v22 else if p0 = (3 : Int32) then f_X12_does_J48 p0 p1 p2 mem else mi_bo (f_X12_isOpen (1323 : Int32) p1 mem) fun v19 => if v19 = 0 then f_X12_does_J53 p0 p1 p2 mem (0 : Int32) else f_X12_does_J48 p0 p1 p2 mem
set_option maxRecDepth 100000 in
set_option maxHeartbeats 4000000 in
theorem w_X12_does (p0 : Int32) (p1 : Int32) (p2 : Int32) (mem : mi_M) (a : Int32 × mi_M) (e : f_X12_does p0 p1 p2 mem = some a) : mi_Ci (6) mX12_does [vr 12 0, vi p0, vi p1, vi p2] mem (fun x m' => x = a.1 ∧ m' = a.2) := by
  unfold mi_Ci
  refine mi_C_intro (ls := [(0, vr 12 0), (1, vi p0), (2, vi p1), (3, vi p2)]) (by decide) rfl rfl ?_
  obtain ⟨Q0, hq0, h⟩ : ∃ Q0 : (Int32 × mi_M) → Prop, (∀ b, Q0 b → b = a) ∧ wo (f_X12_does p0 p1 p2 mem) Q0 := ⟨fun b => b = a, fun _ h => h, wo_eq e⟩
  obtain ⟨QX, hQX⟩ : ∃ QX : Option mi_V → mi_M → Prop, QX = (fun r m' => ∃ x, r = some (vi x) ∧ x = a.1 ∧ m' = a.2) := ⟨_, rfl⟩
  rw [← hQX]
  unfold f_X12_does at h
  refine x_iload_n (pc := 0) dX12_does_0 rfl ?_
  have j53 : ∀ (u1 : Int32), wo (f_X12_does_J53 p0 p1 p2 mem u1) Q0 → mi_X mX12_does (6) 53 [(0, vr 12 0), (1, vi p0), (2, vi p1), (3, vi p2)] [vi u1] mem QX := by
    intro u1 h
    unfold f_X12_does_J53 at h
    refine x_istore (ls' := [(4, _), (0, _), (1, _), (2, _), (3, _)]) (pc := 53) dX12_does_53 rfl rfl ?_
    refine x_iload (pc := 55) dX12_does_55 rfl ?_
    have j134 : ∀ (m2 : mi_M), wo (f_X12_does_J134 u1 m2) Q0 → mi_X mX12_does (6) 134 [(4, vi u1)] [] m2 QX := by
      intro m2 h
      unfold f_X12_does_J134 at h
      refine x_iload (pc := 134) dX12_does_134 rfl ?_
      obtain ⟨hb3, h⟩ := wo_g h
      exact x_zretB (pc := 136) dX12_does_136 rfl hb3 (by rw [hQX]; exact ⟨_, rfl, congrArg Prod.fst (hq0 _ (wo_some h)), congrArg Prod.snd (hq0 _ (wo_some h))⟩)
    have j76 : wo (f_X12_does_J76 p0 p1 p2 mem u1) Q0 → mi_X mX12_does (6) 76 [(0, vr 12 0), (1, vi p0), (2, vi p1), (3, vi p2), (4, vi u1)] [] mem QX := by
      intro h
      unfold f_X12_does_J76 at h
      refine x_iload (pc := 76) dX12_does_76 rfl ?_
      have j99 : wo (f_X12_does_J99 p0 p1 mem u1) Q0 → mi_X mX12_does (6) 99 [(0, vr 12 0), (1, vi p0), (2, vi p1), (4, vi u1)] [] mem QX := by
        intro h
        unfold f_X12_does_J99 at h
        refine x_iload (pc := 99) dX12_does_99 rfl ?_
        have j121 : wo (f_X12_does_J121 mem u1) Q0 → mi_X mX12_does (6) 121 [(0, vr 12 0), (4, vi u1)] [] mem QX := by
          intro h
          unfold f_X12_does_J121 at h
          refine x_iload (pc := 121) dX12_does_121 rfl ?_
          refine x_if_eq (pc := 123) dX12_does_123 (tgt := 134) (by decide) (fun c6 => ?_) (fun c6 => ?_)
          · replace h := wo_pos c6 h
            refine x_sub [(4, _)] ⟨rfl, trivial⟩ ?_
            exact j134 _ h
          · replace h := wo_neg c6 h
            refine x_aload_n (pc := 126) dX12_does_126 rfl ?_
            refine x_sipush (pc := 127) dX12_does_127 (v := (1323 : Int32)) (by decide) ?_
            refine y_Vi1 (pc := 130) h dX12_does_130 lX12_386 (by decide) (by omega) rfl (fun a e => w_X12_passes _ _ a e) (fun v4 m5 h => ?_)
            refine x_pop (pc := 133) dX12_does_133 rfl ?_
            refine x_sub [(4, _)] ⟨rfl, trivial⟩ ?_
            exact j134 _ h
        refine x_if_eq (pc := 101) dX12_does_101 (tgt := 121) (by decide) (fun c10 => ?_) (fun c10 => ?_)
        · replace h := wo_pos c10 h
          refine x_sub [(0, _), (4, _)] ⟨rfl, rfl, trivial⟩ ?_
          exact j121 h
        · replace h := wo_neg c10 h
          refine x_iload_n (pc := 104) dX12_does_104 rfl ?_
          refine x_iconst (pc := 105) dX12_does_105 (v := (2 : Int32)) (by decide) ?_
          refine x_icmp_ne (pc := 106) dX12_does_106 (tgt := 121) (by decide) (fun c9 => ?_) (fun c9 => ?_)
          · replace h := wo_neg c9 h
            refine x_sub [(0, _), (4, _)] ⟨rfl, rfl, trivial⟩ ?_
            exact j121 h
          · replace h := wo_pos c9 h
            refine x_aload_n (pc := 109) dX12_does_109 rfl ?_
            refine x_sipush (pc := 110) dX12_does_110 (v := (1323 : Int32)) (by decide) ?_
            refine x_iload_n (pc := 113) dX12_does_113 rfl ?_
            refine y_Vi2 (pc := 114) h dX12_does_114 lX12_383 (by decide) (by omega) rfl (fun a e => w_X12_asks _ _ _ a e) (fun v7 m8 h => ?_)
            refine x_pop (pc := 117) dX12_does_117 rfl ?_
            refine x_goto (pc := 118) dX12_does_118 (tgt := 134) (by decide) ?_
            refine x_sub [(4, _)] ⟨rfl, trivial⟩ ?_
            exact j134 _ h
      refine x_if_eq (pc := 78) dX12_does_78 (tgt := 99) (by decide) (fun c14 => ?_) (fun c14 => ?_)
      · replace h := wo_pos c14 h
        refine x_sub [(0, _), (1, _), (2, _), (4, _)] ⟨rfl, rfl, rfl, rfl, trivial⟩ ?_
        exact j99 h
      · replace h := wo_neg c14 h
        refine x_iload_n (pc := 81) dX12_does_81 rfl ?_
        refine x_iconst (pc := 82) dX12_does_82 (v := (1 : Int32)) (by decide) ?_
        refine x_icmp_ne (pc := 83) dX12_does_83 (tgt := 99) (by decide) (fun c13 => ?_) (fun c13 => ?_)
        · replace h := wo_neg c13 h
          refine x_sub [(0, _), (1, _), (2, _), (4, _)] ⟨rfl, rfl, rfl, rfl, trivial⟩ ?_
          exact j99 h
        · replace h := wo_pos c13 h
          refine x_aload_n (pc := 86) dX12_does_86 rfl ?_
          refine x_sipush (pc := 87) dX12_does_87 (v := (1323 : Int32)) (by decide) ?_
          refine x_iload_n (pc := 90) dX12_does_90 rfl ?_
          refine x_iload_n (pc := 91) dX12_does_91 rfl ?_
          refine y_Vi3 (pc := 92) h dX12_does_92 lX12_380 (by decide) (by omega) rfl (fun a e => w_X12_gives _ _ _ _ a e) (fun v11 m12 h => ?_)
          refine x_pop (pc := 95) dX12_does_95 rfl ?_
          refine x_goto (pc := 96) dX12_does_96 (tgt := 134) (by decide) ?_
          refine x_sub [(4, _)] ⟨rfl, trivial⟩ ?_
          exact j134 _ h
    refine x_if_eq (pc := 57) dX12_does_57 (tgt := 76) (by decide) (fun c18 => ?_) (fun c18 => ?_)
    · replace h := wo_pos c18 h
      refine x_sub [(0, _), (1, _), (2, _), (3, _), (4, _)] ⟨rfl, rfl, rfl, rfl, rfl, trivial⟩ ?_
      exact j76 h
    · replace h := wo_neg c18 h
      refine x_iload_n (pc := 60) dX12_does_60 rfl ?_
      refine x_if_ne (pc := 61) dX12_does_61 (tgt := 76) (by decide) (fun c17 => ?_) (fun c17 => ?_)
      · replace h := wo_neg c17 h
        refine x_sub [(0, _), (1, _), (2, _), (3, _), (4, _)] ⟨rfl, rfl, rfl, rfl, rfl, trivial⟩ ?_
        exact j76 h
      · replace h := wo_pos c17 h
        refine x_aload_n (pc := 64) dX12_does_64 rfl ?_
        refine x_sipush (pc := 65) dX12_does_65 (v := (1323 : Int32)) (by decide) ?_
        refine x_iload_n (pc := 68) dX12_does_68 rfl ?_
        refine y_Vi2 (pc := 69) h dX12_does_69 lX12_374 (by decide) (by omega) rfl (fun a e => w_X12_says _ _ _ a e) (fun v15 m16 h => ?_)
        refine x_pop (pc := 72) dX12_does_72 rfl ?_
        refine x_goto (pc := 73) dX12_does_73 (tgt := 134) (by decide) ?_
        refine x_sub [(4, _)] ⟨rfl, trivial⟩ ?_
        exact j134 _ h
  refine x_if_ne (pc := 1) dX12_does_1 (tgt := 15) (by decide) (fun c25 => ?_) (fun c25 => ?_)
  · replace h := wo_neg c25 h
    refine x_iload_n (pc := 15) dX12_does_15 rfl ?_
    refine x_iconst (pc := 16) dX12_does_16 (v := (1 : Int32)) (by decide) ?_
    refine x_icmp_ne (pc := 17) dX12_does_17 (tgt := 32) (by decide) (fun c23 => ?_) (fun c23 => ?_)
    · replace h := wo_neg c23 h
      refine x_iload_n (pc := 32) dX12_does_32 rfl ?_
      refine x_iconst (pc := 33) dX12_does_33 (v := (3 : Int32)) (by decide) ?_
      have j48 : wo (f_X12_does_J48 p0 p1 p2 mem) Q0 → mi_X mX12_does (6) 48 [(0, vr 12 0), (1, vi p0), (2, vi p1), (3, vi p2)] [] mem QX := by
        intro h
        unfold f_X12_does_J48 at h
        refine x_iconst (pc := 48) dX12_does_48 (v := (1 : Int32)) (by decide) ?_
        refine x_goto (pc := 49) dX12_does_49 (tgt := 53) (by decide) ?_
        refine x_sub [(0, _), (1, _), (2, _), (3, _)] ⟨rfl, rfl, rfl, rfl, trivial⟩ ?_
        exact j53 _ h
      refine x_icmp_eq (pc := 34) dX12_does_34 (tgt := 48) (by decide) (fun c21 => ?_) (fun c21 => ?_)
      · replace h := wo_pos c21 h
        refine x_sub [(0, _), (1, _), (2, _), (3, _)] ⟨rfl, rfl, rfl, rfl, trivial⟩ ?_
        exact j48 h
      · replace h := wo_neg c21 h
        refine x_aload_n (pc := 37) dX12_does_37 rfl ?_
        refine x_sipush (pc := 38) dX12_does_38 (v := (1323 : Int32)) (by decide) ?_
        refine x_iload_n (pc := 41) dX12_does_41 rfl ?_
        refine z_Vi2 (pc := 42) h dX12_does_42 lX12_319 (by decide) (by omega) rfl (fun a e => w_X12_isOpen _ _ _ a e) (fun v19 h => ?_)
        refine x_if_eq (pc := 45) dX12_does_45 (tgt := 52) (by decide) (fun c20 => ?_) (fun c20 => ?_)
        · replace h := wo_pos c20 h
          refine x_iconst (pc := 52) dX12_does_52 (v := (0 : Int32)) (by decide) ?_
          refine x_sub [(0, _), (1, _), (2, _), (3, _)] ⟨rfl, rfl, rfl, rfl, trivial⟩ ?_
          exact j53 _ h
        · replace h := wo_neg c20 h
          refine x_sub [(0, _), (1, _), (2, _), (3, _)] ⟨rfl, rfl, rfl, rfl, trivial⟩ ?_
          exact j48 h
    · replace h := wo_pos c23 h
      refine x_aload_n (pc := 20) dX12_does_20 rfl ?_
      refine x_sipush (pc := 21) dX12_does_21 (v := (1323 : Int32)) (by decide) ?_
      refine x_iload_n (pc := 24) dX12_does_24 rfl ?_
      refine x_iload_n (pc := 25) dX12_does_25 rfl ?_
      refine z_Vi3 (pc := 26) h dX12_does_26 lX12_377 (by decide) (by omega) rfl (fun a e => w_X12_mayGive _ _ _ _ a e) (fun v22 h => ?_)
      refine x_goto (pc := 29) dX12_does_29 (tgt := 53) (by decide) ?_
      refine x_sub [(0, _), (1, _), (2, _), (3, _)] ⟨rfl, rfl, rfl, rfl, trivial⟩ ?_
      exact j53 _ h
  · replace h := wo_pos c25 h
    refine x_aload_n (pc := 4) dX12_does_4 rfl ?_
    refine x_sipush (pc := 5) dX12_does_5 (v := (1323 : Int32)) (by decide) ?_
    refine x_iload_n (pc := 8) dX12_does_8 rfl ?_
    refine z_Vi2 (pc := 9) h dX12_does_9 lX12_368 (by decide) (by omega) rfl (fun a e => w_X12_maySay _ _ _ a e) (fun v24 h => ?_)
    refine x_goto (pc := 12) dX12_does_12 (tgt := 53) (by decide) ?_
    refine x_sub [(0, _), (1, _), (2, _), (3, _)] ⟨rfl, rfl, rfl, rfl, trivial⟩ ?_
    exact j53 _ h
noncomputable def f_X12_draw (p0 : Int32) (mem : mi_M) : Option (Int32 × mi_M) := mi_let (mi_wL mem 12 0 39 ((((mem.2.1 12 0 39) * (1103515245 : Int64)) + (12345 : Int64)) - (((mem.2.1 12 0 39) * (1103515245 : Int64)) + (12345 : Int64)) / (2147483648 : Int64) * (2147483648 : Int64))) fun m1 => mi_g (¬ (p0).toInt64 = 0) (some (((((m1.2.1 12 0 39) / (65536 : Int64)) - ((m1.2.1 12 0 39) / (65536 : Int64)) / (p0).toInt64 * (p0).toInt64)).toInt32, m1))
set_option maxRecDepth 100000 in
set_option maxHeartbeats 4000000 in
theorem w_X12_draw (p0 : Int32) (mem : mi_M) (a : Int32 × mi_M) (e : f_X12_draw p0 mem = some a) : mi_Ci (1) mX12_draw [vr 12 0, vi p0] mem (fun x m' => x = a.1 ∧ m' = a.2) := by
  unfold mi_Ci
  refine mi_C_intro (ls := [(0, vr 12 0), (1, vi p0)]) (by decide) rfl rfl ?_
  obtain ⟨Q0, hq0, h⟩ : ∃ Q0 : (Int32 × mi_M) → Prop, (∀ b, Q0 b → b = a) ∧ wo (f_X12_draw p0 mem) Q0 := ⟨fun b => b = a, fun _ h => h, wo_eq e⟩
  obtain ⟨QX, hQX⟩ : ∃ QX : Option mi_V → mi_M → Prop, QX = (fun r m' => ∃ x, r = some (vi x) ∧ x = a.1 ∧ m' = a.2) := ⟨_, rfl⟩
  rw [← hQX]
  unfold f_X12_draw at h
  refine x_aload_n (pc := 0) dX12_draw_0 rfl ?_
  refine x_aload_n (pc := 1) dX12_draw_1 rfl ?_
  refine x_getL (pc := 2) dX12_draw_2 fX12_447 rfl (by decide) ?_
  refine x_ldc2 (pc := 5) dX12_draw_5 kX12_451 ?_
  refine x_lmul (pc := 8) dX12_draw_8 ?_
  refine x_ldc2 (pc := 9) dX12_draw_9 kX12_453 ?_
  refine x_ladd (pc := 12) dX12_draw_12 ?_
  refine x_ldc2 (pc := 13) dX12_draw_13 kX12_455 ?_
  refine x_lrem (pc := 16) dX12_draw_16 (by decide) ?_
  refine x_putL (pc := 17) dX12_draw_17 fX12_447 rfl (by decide) rfl rfl ?_
  refine x_letm h (fun m1 h => ?_)
  refine x_aload_n (pc := 20) dX12_draw_20 rfl ?_
  refine x_getL (pc := 21) dX12_draw_21 fX12_447 rfl (by decide) ?_
  refine x_ldc2 (pc := 24) dX12_draw_24 kX12_457 ?_
  refine x_ldiv (pc := 27) dX12_draw_27 (by decide) ?_
  refine x_iload_n (pc := 28) dX12_draw_28 rfl ?_
  refine x_i2l (pc := 29) dX12_draw_29 rfl ?_
  obtain ⟨hz2, h⟩ := wo_g h
  refine x_lrem (pc := 30) dX12_draw_30 hz2 ?_
  refine x_l2i (pc := 31) dX12_draw_31 rfl ?_
  exact x_iret (pc := 32) dX12_draw_32 rfl (by rw [hQX]; exact ⟨_, rfl, congrArg Prod.fst (hq0 _ (wo_some h)), congrArg Prod.snd (hq0 _ (wo_some h))⟩)
noncomputable def f_X12_drawsDeed_J97 (m6 : mi_M) : Option (mi_M) := some m6
noncomputable def f_X12_drawsDeed_J72 (v2 : Int32) (v4 : Int32) (m5 : mi_M) : Option (mi_M) := if v4 = (2 : Int32) then mi_bo (f_X12_isOpen (1386 : Int32) v2 m5) fun v7 => if v7 = 0 then f_X12_drawsDeed_J97 m5 else mi_b (f_X12_asks (1386 : Int32) v2 m5) fun v8 m9 => f_X12_drawsDeed_J97 m9 else f_X12_drawsDeed_J97 m5
noncomputable def f_X12_drawsDeed_J42 (v2 : Int32) (v4 : Int32) (m5 : mi_M) : Option (mi_M) := if v4 = (1 : Int32) then mi_bo (f_X12_mayGive (1386 : Int32) v2 (1 : Int32) m5) fun v12 => if v12 = 0 then f_X12_drawsDeed_J72 v2 v4 m5 else mi_b (f_X12_gives (1386 : Int32) v2 (1 : Int32) m5) fun v13 m14 => f_X12_drawsDeed_J97 m14 else f_X12_drawsDeed_J72 v2 v4 m5
noncomputable def f_X12_drawsDeed (mem : mi_M) : Option (mi_M) := mi_bo (f_X12_wrongs mem) fun v1 => mi_b (f_X12_draw v1 mem) fun v2 m3 => mi_b (f_X12_draw (3 : Int32) m3) fun v4 m5 => if v4 = 0 then mi_bo (f_X12_maySay (1386 : Int32) v2 m5) fun v17 => if v17 = 0 then f_X12_drawsDeed_J42 v2 v4 m5 else mi_b (f_X12_says (1386 : Int32) v2 m5) fun v18 m19 => f_X12_drawsDeed_J97 m19 else f_X12_drawsDeed_J42 v2 v4 m5
set_option maxRecDepth 100000 in
set_option maxHeartbeats 4000000 in
theorem w_X12_drawsDeed (mem : mi_M) (a : mi_M) (e : f_X12_drawsDeed  mem = some a) : mi_Cv (6) mX12_drawsDeed [vr 12 0] mem (fun m' => m' = a) := by
  unfold mi_Cv
  refine mi_C_intro (ls := [(0, vr 12 0)]) (by decide) rfl rfl ?_
  obtain ⟨Q0, hq0, h⟩ : ∃ Q0 : mi_M → Prop, (∀ b, Q0 b → b = a) ∧ wo (f_X12_drawsDeed  mem) Q0 := ⟨fun b => b = a, fun _ h => h, wo_eq e⟩
  obtain ⟨QX, hQX⟩ : ∃ QX : Option mi_V → mi_M → Prop, QX = (fun r m' => r = none ∧ m' = a) := ⟨_, rfl⟩
  rw [← hQX]
  unfold f_X12_drawsDeed at h
  refine x_aload_n (pc := 0) dX12_drawsDeed_0 rfl ?_
  refine x_aload_n (pc := 1) dX12_drawsDeed_1 rfl ?_
  refine z_Vi0 (pc := 2) h dX12_drawsDeed_2 lX12_273 (by decide) (by omega) rfl (fun a e => w_X12_wrongs _ a e) (fun v1 h => ?_)
  refine y_Vi1 (pc := 5) h dX12_drawsDeed_5 lX12_459 (by decide) (by omega) rfl (fun a e => w_X12_draw _ _ a e) (fun v2 m3 h => ?_)
  refine x_istore_n (ls' := [(1, _), (0, _)]) (pc := 8) dX12_drawsDeed_8 rfl rfl rfl ?_
  refine x_aload_n (pc := 9) dX12_drawsDeed_9 rfl ?_
  refine x_iconst (pc := 10) dX12_drawsDeed_10 (v := (3 : Int32)) (by decide) ?_
  refine y_Vi1 (pc := 11) h dX12_drawsDeed_11 lX12_459 (by decide) (by omega) rfl (fun a e => w_X12_draw _ _ a e) (fun v4 m5 h => ?_)
  refine x_istore_n (ls' := [(2, _), (1, _), (0, _)]) (pc := 14) dX12_drawsDeed_14 rfl rfl rfl ?_
  refine x_iload_n (pc := 15) dX12_drawsDeed_15 rfl ?_
  have j97 : ∀ (m6 : mi_M), wo (f_X12_drawsDeed_J97 m6) Q0 → mi_X mX12_drawsDeed (6) 97 [] [] m6 QX := by
    intro m6 h
    unfold f_X12_drawsDeed_J97 at h
    exact x_ret (pc := 97) dX12_drawsDeed_97 rfl (by rw [hQX]; exact ⟨rfl, hq0 _ (wo_some h)⟩)
  have j42 : wo (f_X12_drawsDeed_J42 v2 v4 m5) Q0 → mi_X mX12_drawsDeed (6) 42 [(0, vr 12 0), (1, vi v2), (2, vi v4)] [] m5 QX := by
    intro h
    unfold f_X12_drawsDeed_J42 at h
    refine x_iload_n (pc := 42) dX12_drawsDeed_42 rfl ?_
    refine x_iconst (pc := 43) dX12_drawsDeed_43 (v := (1 : Int32)) (by decide) ?_
    have j72 : wo (f_X12_drawsDeed_J72 v2 v4 m5) Q0 → mi_X mX12_drawsDeed (6) 72 [(0, vr 12 0), (1, vi v2), (2, vi v4)] [] m5 QX := by
      intro h
      unfold f_X12_drawsDeed_J72 at h
      refine x_iload_n (pc := 72) dX12_drawsDeed_72 rfl ?_
      refine x_iconst (pc := 73) dX12_drawsDeed_73 (v := (2 : Int32)) (by decide) ?_
      refine x_icmp_ne (pc := 74) dX12_drawsDeed_74 (tgt := 97) (by decide) (fun c11 => ?_) (fun c11 => ?_)
      · replace h := wo_neg c11 h
        refine x_sub [] trivial ?_
        exact j97 _ h
      · replace h := wo_pos c11 h
        refine x_aload_n (pc := 77) dX12_drawsDeed_77 rfl ?_
        refine x_sipush (pc := 78) dX12_drawsDeed_78 (v := (1386 : Int32)) (by decide) ?_
        refine x_iload_n (pc := 81) dX12_drawsDeed_81 rfl ?_
        refine z_Vi2 (pc := 82) h dX12_drawsDeed_82 lX12_319 (by decide) (by omega) rfl (fun a e => w_X12_isOpen _ _ _ a e) (fun v7 h => ?_)
        refine x_if_eq (pc := 85) dX12_drawsDeed_85 (tgt := 97) (by decide) (fun c10 => ?_) (fun c10 => ?_)
        · replace h := wo_pos c10 h
          refine x_sub [] trivial ?_
          exact j97 _ h
        · replace h := wo_neg c10 h
          refine x_aload_n (pc := 88) dX12_drawsDeed_88 rfl ?_
          refine x_sipush (pc := 89) dX12_drawsDeed_89 (v := (1386 : Int32)) (by decide) ?_
          refine x_iload_n (pc := 92) dX12_drawsDeed_92 rfl ?_
          refine y_Vi2 (pc := 93) h dX12_drawsDeed_93 lX12_383 (by decide) (by omega) rfl (fun a e => w_X12_asks _ _ _ a e) (fun v8 m9 h => ?_)
          refine x_pop (pc := 96) dX12_drawsDeed_96 rfl ?_
          refine x_sub [] trivial ?_
          exact j97 _ h
    refine x_icmp_ne (pc := 44) dX12_drawsDeed_44 (tgt := 72) (by decide) (fun c16 => ?_) (fun c16 => ?_)
    · replace h := wo_neg c16 h
      refine x_sub [(0, _), (1, _), (2, _)] ⟨rfl, rfl, rfl, trivial⟩ ?_
      exact j72 h
    · replace h := wo_pos c16 h
      refine x_aload_n (pc := 47) dX12_drawsDeed_47 rfl ?_
      refine x_sipush (pc := 48) dX12_drawsDeed_48 (v := (1386 : Int32)) (by decide) ?_
      refine x_iload_n (pc := 51) dX12_drawsDeed_51 rfl ?_
      refine x_iconst (pc := 52) dX12_drawsDeed_52 (v := (1 : Int32)) (by decide) ?_
      refine z_Vi3 (pc := 53) h dX12_drawsDeed_53 lX12_377 (by decide) (by omega) rfl (fun a e => w_X12_mayGive _ _ _ _ a e) (fun v12 h => ?_)
      refine x_if_eq (pc := 56) dX12_drawsDeed_56 (tgt := 72) (by decide) (fun c15 => ?_) (fun c15 => ?_)
      · replace h := wo_pos c15 h
        refine x_sub [(0, _), (1, _), (2, _)] ⟨rfl, rfl, rfl, trivial⟩ ?_
        exact j72 h
      · replace h := wo_neg c15 h
        refine x_aload_n (pc := 59) dX12_drawsDeed_59 rfl ?_
        refine x_sipush (pc := 60) dX12_drawsDeed_60 (v := (1386 : Int32)) (by decide) ?_
        refine x_iload_n (pc := 63) dX12_drawsDeed_63 rfl ?_
        refine x_iconst (pc := 64) dX12_drawsDeed_64 (v := (1 : Int32)) (by decide) ?_
        refine y_Vi3 (pc := 65) h dX12_drawsDeed_65 lX12_380 (by decide) (by omega) rfl (fun a e => w_X12_gives _ _ _ _ a e) (fun v13 m14 h => ?_)
        refine x_pop (pc := 68) dX12_drawsDeed_68 rfl ?_
        refine x_goto (pc := 69) dX12_drawsDeed_69 (tgt := 97) (by decide) ?_
        refine x_sub [] trivial ?_
        exact j97 _ h
  refine x_if_ne (pc := 16) dX12_drawsDeed_16 (tgt := 42) (by decide) (fun c21 => ?_) (fun c21 => ?_)
  · replace h := wo_neg c21 h
    refine x_sub [(0, _), (1, _), (2, _)] ⟨rfl, rfl, rfl, trivial⟩ ?_
    exact j42 h
  · replace h := wo_pos c21 h
    refine x_aload_n (pc := 19) dX12_drawsDeed_19 rfl ?_
    refine x_sipush (pc := 20) dX12_drawsDeed_20 (v := (1386 : Int32)) (by decide) ?_
    refine x_iload_n (pc := 23) dX12_drawsDeed_23 rfl ?_
    refine z_Vi2 (pc := 24) h dX12_drawsDeed_24 lX12_368 (by decide) (by omega) rfl (fun a e => w_X12_maySay _ _ _ a e) (fun v17 h => ?_)
    refine x_if_eq (pc := 27) dX12_drawsDeed_27 (tgt := 42) (by decide) (fun c20 => ?_) (fun c20 => ?_)
    · replace h := wo_pos c20 h
      refine x_sub [(0, _), (1, _), (2, _)] ⟨rfl, rfl, rfl, trivial⟩ ?_
      exact j42 h
    · replace h := wo_neg c20 h
      refine x_aload_n (pc := 30) dX12_drawsDeed_30 rfl ?_
      refine x_sipush (pc := 31) dX12_drawsDeed_31 (v := (1386 : Int32)) (by decide) ?_
      refine x_iload_n (pc := 34) dX12_drawsDeed_34 rfl ?_
      refine y_Vi2 (pc := 35) h dX12_drawsDeed_35 lX12_374 (by decide) (by omega) rfl (fun a e => w_X12_says _ _ _ a e) (fun v18 m19 h => ?_)
      refine x_pop (pc := 38) dX12_drawsDeed_38 rfl ?_
      refine x_goto (pc := 39) dX12_drawsDeed_39 (tgt := 97) (by decide) ?_
      refine x_sub [] trivial ?_
      exact j97 _ h
noncomputable def f_X12_lay_J69 (l2 : Int32) (m5 : mi_M) : Option ((Int32 × mi_M) ⊕ (mi_M)) := some (.inl ((l2 + (-8 : Int32)), m5))
noncomputable def f_X12_lay_J38 (l2 : Int32) (m3 : mi_M) (v4 : Int32) : Option ((Int32 × mi_M) ⊕ (mi_M)) := if (1000 : Int32) ≤ (m3.1 12 0 2) then f_X12_lay_J69 l2 m3 else mi_g (vp_in (m3.1 12 0 2) 1000) (mi_let (mi_wI m3 51 0 (m3.1 12 0 2).toNatClampNeg v4) fun m7 => mi_let (mi_wI m7 12 0 2 ((m7.1 12 0 2) + (1 : Int32))) fun m8 => f_X12_lay_J69 l2 m8)
noncomputable def f_X12_lay_B3 (p0 : Int64) : (Int32 × mi_M) → Option ((Int32 × mi_M) ⊕ (mi_M)) := fun s => match s with | (l2, m3) => if l2 < 0 then some (.inr m3) else mi_let (((p0 >>> ((l2).toInt64 &&& 63))).toInt32 &&& (255 : Int32)) fun v4 => if v4 = (10 : Int32) then f_X12_lay_J38 l2 m3 v4 else if v4 < (32 : Int32) then f_X12_lay_J69 l2 m3 else if (126 : Int32) < v4 then f_X12_lay_J69 l2 m3 else f_X12_lay_J38 l2 m3 v4
noncomputable def f_X12_lay_K3 : mi_M → Option (mi_M) := fun m1 => some m1
noncomputable def f_X12_lay (p0 : Int64) (mem : mi_M) : Option (mi_M) := mi_bo (mi_lp (f_X12_lay_B3 p0) mi_fu ((56 : Int32), mem)) (f_X12_lay_K3)
set_option maxRecDepth 100000 in
set_option maxHeartbeats 4000000 in
theorem w_X12_lay (p0 : Int64) (mem : mi_M) (a : mi_M) (e : f_X12_lay p0 mem = some a) : mi_Cv (1) mX12_lay [vr 12 0, vl p0] mem (fun m' => m' = a) := by
  unfold mi_Cv
  refine mi_C_intro (ls := [(0, vr 12 0), (1, vl p0)]) (by decide) rfl rfl ?_
  obtain ⟨Q0, hq0, h⟩ : ∃ Q0 : mi_M → Prop, (∀ b, Q0 b → b = a) ∧ wo (f_X12_lay p0 mem) Q0 := ⟨fun b => b = a, fun _ h => h, wo_eq e⟩
  obtain ⟨QX, hQX⟩ : ∃ QX : Option mi_V → mi_M → Prop, QX = (fun r m' => r = none ∧ m' = a) := ⟨_, rfl⟩
  rw [← hQX]
  unfold f_X12_lay at h
  refine x_bipush (pc := 0) dX12_lay_0 (v := (56 : Int32)) (by decide) ?_
  refine x_istore_n (ls' := [(3, _), (0, _), (1, _)]) (pc := 2) dX12_lay_2 rfl rfl rfl ?_
  have k3_0 : ∀ (m1 : mi_M), wo (f_X12_lay_K3 m1) Q0 → mi_X mX12_lay (1) 75 [] [] m1 QX := by
    intro m1 h
    unfold f_X12_lay_K3 at h
    try dsimp only at h
    exact x_ret (pc := 75) dX12_lay_75 rfl (by rw [hQX]; exact ⟨rfl, hq0 _ (wo_some h)⟩)
  refine x_sub [(0, _), (1, _), (3, _)] ⟨rfl, rfl, rfl, trivial⟩ ?_
  obtain ⟨ea, eb, h⟩ := wo_bo h
  refine wo_lq (X := fun s => match s with | (l2, m3) => mi_X mX12_lay (1) 3 [(0, vr 12 0), (1, vl p0), (3, vi l2)] [] m3 QX) (E := fun e => wo (f_X12_lay_K3 e) Q0) ?_ _ ((56 : Int32), mem) ⟨_, eb, h⟩
  intro Q3 hb3 he3 s h
  obtain ⟨l2, m3⟩ := s
  show mi_X mX12_lay (1) 3 [(0, vr 12 0), (1, vl p0), (3, vi l2)] [] m3 QX
  unfold f_X12_lay_B3 at h
  try dsimp only at h
  refine x_iload_n (pc := 3) dX12_lay_3 rfl ?_
  refine x_if_lt (pc := 4) dX12_lay_4 (tgt := 75) (by decide) (fun c13 => ?_) (fun c13 => ?_)
  · replace h := wo_pos c13 h
    refine x_sub [] trivial ?_
    exact k3_0 _ (he3 m3 (wo_some h))
  · replace h := wo_neg c13 h
    refine x_lload_n (pc := 7) dX12_lay_7 rfl ?_
    refine x_iload_n (pc := 8) dX12_lay_8 rfl ?_
    refine x_lshr (pc := 9) dX12_lay_9 rfl ?_
    refine x_l2i (pc := 10) dX12_lay_10 rfl ?_
    refine x_sipush (pc := 11) dX12_lay_11 (v := (255 : Int32)) (by decide) ?_
    refine x_iand (pc := 14) dX12_lay_14 ?_
    refine x_leti h (fun v4 h => ?_)
    refine x_istore (ls' := [(4, _), (0, _), (1, _), (3, _)]) (pc := 15) dX12_lay_15 rfl rfl ?_
    refine x_iload (pc := 17) dX12_lay_17 rfl ?_
    refine x_bipush (pc := 19) dX12_lay_19 (v := (10 : Int32)) (by decide) ?_
    have j69 : ∀ (m5 : mi_M), wo (f_X12_lay_J69 l2 m5) Q3 → mi_X mX12_lay (1) 69 [(0, vr 12 0), (1, vl p0), (3, vi l2)] [] m5 QX := by
      intro m5 h
      unfold f_X12_lay_J69 at h
      refine x_iinc (ls' := [(3, _), (0, _), (1, _)]) (pc := 69) dX12_lay_69 rfl (v := l2 + (-8 : Int32)) rfl rfl rfl ?_
      refine x_goto (pc := 72) dX12_lay_72 (tgt := 3) (by decide) ?_
      refine x_sub [(0, _), (1, _), (3, _)] ⟨rfl, rfl, rfl, trivial⟩ ?_
      exact hb3 ((l2 + (-8 : Int32)), m5) (wo_some h)
    have j38 : wo (f_X12_lay_J38 l2 m3 v4) Q3 → mi_X mX12_lay (1) 38 [(0, vr 12 0), (1, vl p0), (3, vi l2), (4, vi v4)] [] m3 QX := by
      intro h
      unfold f_X12_lay_J38 at h
      refine x_aload_n (pc := 38) dX12_lay_38 rfl ?_
      refine x_getI (pc := 39) dX12_lay_39 fX12_11 rfl (by decide) ?_
      refine x_sipush (pc := 42) dX12_lay_42 (v := (1000 : Int32)) (by decide) ?_
      refine x_icmp_ge (pc := 45) dX12_lay_45 (tgt := 69) (by decide) (fun c9 => ?_) (fun c9 => ?_)
      · replace h := wo_pos c9 h
        refine x_sub [(0, _), (1, _), (3, _)] ⟨rfl, rfl, rfl, trivial⟩ ?_
        exact j69 _ h
      · replace h := wo_neg c9 h
        refine x_aload_n (pc := 48) dX12_lay_48 rfl ?_
        refine x_getS (pc := 49) dX12_lay_49 fX12_14 rfl (by decide) ?_
        refine x_aload_n (pc := 52) dX12_lay_52 rfl ?_
        refine x_getI (pc := 53) dX12_lay_53 fX12_11 rfl (by decide) ?_
        refine x_iload (pc := 56) dX12_lay_56 rfl ?_
        obtain ⟨hx6, h⟩ := wo_g h
        refine x_iastJ (pc := 58) dX12_lay_58 rfl rfl (by decide) rfl hx6 ?_
        refine x_letm h (fun m7 h => ?_)
        refine x_aload_n (pc := 59) dX12_lay_59 rfl ?_
        refine x_dup (pc := 60) dX12_lay_60 rfl ?_
        refine x_getI (pc := 61) dX12_lay_61 fX12_11 rfl (by decide) ?_
        refine x_iconst (pc := 64) dX12_lay_64 (v := (1 : Int32)) (by decide) ?_
        refine x_iadd (pc := 65) dX12_lay_65 ?_
        refine x_putI (pc := 66) dX12_lay_66 fX12_11 rfl (by decide) rfl rfl ?_
        refine x_letm h (fun m8 h => ?_)
        refine x_sub [(0, _), (1, _), (3, _)] ⟨rfl, rfl, rfl, trivial⟩ ?_
        exact j69 _ h
    refine x_icmp_eq (pc := 21) dX12_lay_21 (tgt := 38) (by decide) (fun c12 => ?_) (fun c12 => ?_)
    · replace h := wo_pos c12 h
      refine x_sub [(0, _), (1, _), (3, _), (4, _)] ⟨rfl, rfl, rfl, rfl, trivial⟩ ?_
      exact j38 h
    · replace h := wo_neg c12 h
      refine x_iload (pc := 24) dX12_lay_24 rfl ?_
      refine x_bipush (pc := 26) dX12_lay_26 (v := (32 : Int32)) (by decide) ?_
      refine x_icmp_lt (pc := 28) dX12_lay_28 (tgt := 69) (by decide) (fun c11 => ?_) (fun c11 => ?_)
      · replace h := wo_pos c11 h
        refine x_sub [(0, _), (1, _), (3, _)] ⟨rfl, rfl, rfl, trivial⟩ ?_
        exact j69 _ h
      · replace h := wo_neg c11 h
        refine x_iload (pc := 31) dX12_lay_31 rfl ?_
        refine x_bipush (pc := 33) dX12_lay_33 (v := (126 : Int32)) (by decide) ?_
        refine x_icmp_gt (pc := 35) dX12_lay_35 (tgt := 69) (by decide) (fun c10 => ?_) (fun c10 => ?_)
        · replace h := wo_pos c10 h
          refine x_sub [(0, _), (1, _), (3, _)] ⟨rfl, rfl, rfl, trivial⟩ ?_
          exact j69 _ h
        · replace h := wo_neg c10 h
          refine x_sub [(0, _), (1, _), (3, _), (4, _)] ⟨rfl, rfl, rfl, rfl, trivial⟩ ?_
          exact j38 h
noncomputable def f_X12_feed (p0 : Int64) (p1 : Int64) (p2 : Int64) (mem : mi_M) : Option (Int32 × mi_M) := mi_let (mi_wI mem 12 0 0 (0 : Int32)) fun m1 => mi_bo (f_X12_lay p0 m1) fun m2 => mi_bo (f_X12_lay p1 m2) fun m3 => mi_bo (f_X12_lay p2 m3) fun m4 => some ((m4.1 12 0 2), m4)
set_option maxRecDepth 100000 in
set_option maxHeartbeats 4000000 in
theorem w_X12_feed (p0 : Int64) (p1 : Int64) (p2 : Int64) (mem : mi_M) (a : Int32 × mi_M) (e : f_X12_feed p0 p1 p2 mem = some a) : mi_Ci (2) mX12_feed [vr 12 0, vl p0, vl p1, vl p2] mem (fun x m' => x = a.1 ∧ m' = a.2) := by
  unfold mi_Ci
  refine mi_C_intro (ls := [(0, vr 12 0), (1, vl p0), (3, vl p1), (5, vl p2)]) (by decide) rfl rfl ?_
  obtain ⟨Q0, hq0, h⟩ : ∃ Q0 : (Int32 × mi_M) → Prop, (∀ b, Q0 b → b = a) ∧ wo (f_X12_feed p0 p1 p2 mem) Q0 := ⟨fun b => b = a, fun _ h => h, wo_eq e⟩
  obtain ⟨QX, hQX⟩ : ∃ QX : Option mi_V → mi_M → Prop, QX = (fun r m' => ∃ x, r = some (vi x) ∧ x = a.1 ∧ m' = a.2) := ⟨_, rfl⟩
  rw [← hQX]
  unfold f_X12_feed at h
  refine x_aload_n (pc := 0) dX12_feed_0 rfl ?_
  refine x_iconst (pc := 1) dX12_feed_1 (v := (0 : Int32)) (by decide) ?_
  refine x_putI (pc := 2) dX12_feed_2 fX12_1 rfl (by decide) rfl rfl ?_
  refine x_letm h (fun m1 h => ?_)
  refine x_aload_n (pc := 5) dX12_feed_5 rfl ?_
  refine x_lload_n (pc := 6) dX12_feed_6 rfl ?_
  refine y_Vv1 (pc := 7) h dX12_feed_7 lX12_7 (by decide) (by omega) rfl (fun a e => w_X12_lay _ _ a e) (fun m2 h => ?_)
  refine x_aload_n (pc := 10) dX12_feed_10 rfl ?_
  refine x_lload_n (pc := 11) dX12_feed_11 rfl ?_
  refine y_Vv1 (pc := 12) h dX12_feed_12 lX12_7 (by decide) (by omega) rfl (fun a e => w_X12_lay _ _ a e) (fun m3 h => ?_)
  refine x_aload_n (pc := 15) dX12_feed_15 rfl ?_
  refine x_lload (pc := 16) dX12_feed_16 rfl ?_
  refine y_Vv1 (pc := 18) h dX12_feed_18 lX12_7 (by decide) (by omega) rfl (fun a e => w_X12_lay _ _ a e) (fun m4 h => ?_)
  refine x_aload_n (pc := 21) dX12_feed_21 rfl ?_
  refine x_getI (pc := 22) dX12_feed_22 fX12_11 rfl (by decide) ?_
  exact x_iret (pc := 25) dX12_feed_25 rfl (by rw [hQX]; exact ⟨_, rfl, congrArg Prod.fst (hq0 _ (wo_some h)), congrArg Prod.snd (hq0 _ (wo_some h))⟩)
noncomputable def f_X12_find_J36 (l3 : Int32) (u6 : Int32) : Option ((Int32 × Int32) ⊕ (Int32)) := some (.inl (u6, (l3 + (1 : Int32))))
noncomputable def f_X12_find_B4 (mem : mi_M) : (Int32 × Int32) → Option ((Int32 × Int32) ⊕ (Int32)) := fun s => match s with | (l2, l3) => if (mem.1 12 0 16) ≤ l3 then some (.inr l2) else mi_g (vp_in l3 6) (mi_g (vp_in (mem.1 12 0 7) 1002) (if (lg_cmp (mem.2.1 60 0 l3.toNatClampNeg) (mem.2.1 54 0 (mem.1 12 0 7).toNatClampNeg)) = 0 then f_X12_find_J36 l3 l3 else f_X12_find_J36 l3 l2))
noncomputable def f_X12_find_K4 : Int32 → Option (Int32) := fun e1 => some e1
noncomputable def f_X12_find (mem : mi_M) : Option (Int32) := mi_bo (mi_lp (f_X12_find_B4 mem) mi_fu ((-1 : Int32), (0 : Int32))) (f_X12_find_K4)
set_option maxRecDepth 100000 in
set_option maxHeartbeats 4000000 in
theorem w_X12_find (mem : mi_M) (a : Int32) (e : f_X12_find  mem = some a) : mi_Ci (1) mX12_find [vr 12 0] mem (fun x m' => x = a ∧ m' = mem) := by
  unfold mi_Ci
  refine mi_C_intro (ls := [(0, vr 12 0)]) (by decide) rfl rfl ?_
  obtain ⟨Q0, hq0, h⟩ : ∃ Q0 : Int32 → Prop, (∀ b, Q0 b → b = a) ∧ wo (f_X12_find  mem) Q0 := ⟨fun b => b = a, fun _ h => h, wo_eq e⟩
  obtain ⟨QX, hQX⟩ : ∃ QX : Option mi_V → mi_M → Prop, QX = (fun r m' => ∃ x, r = some (vi x) ∧ x = a ∧ m' = mem) := ⟨_, rfl⟩
  rw [← hQX]
  unfold f_X12_find at h
  refine x_iconst (pc := 0) dX12_find_0 (v := (-1 : Int32)) (by decide) ?_
  refine x_istore_n (ls' := [(1, _), (0, _)]) (pc := 1) dX12_find_1 rfl rfl rfl ?_
  refine x_iconst (pc := 2) dX12_find_2 (v := (0 : Int32)) (by decide) ?_
  refine x_istore_n (ls' := [(2, _), (1, _), (0, _)]) (pc := 3) dX12_find_3 rfl rfl rfl ?_
  have k4_0 : ∀ (e1 : Int32), wo (f_X12_find_K4 e1) Q0 → mi_X mX12_find (1) 43 [(1, vi e1)] [] mem QX := by
    intro e1 h
    unfold f_X12_find_K4 at h
    try dsimp only at h
    refine x_iload_n (pc := 43) dX12_find_43 rfl ?_
    exact x_iret (pc := 44) dX12_find_44 rfl (by rw [hQX]; exact ⟨_, rfl, hq0 _ (wo_some h), rfl⟩)
  refine x_sub [(0, _), (1, _), (2, _)] ⟨rfl, rfl, rfl, trivial⟩ ?_
  obtain ⟨ea, eb, h⟩ := wo_bo h
  refine wo_lq (X := fun s => match s with | (l2, l3) => mi_X mX12_find (1) 4 [(0, vr 12 0), (1, vi l2), (2, vi l3)] [] mem QX) (E := fun e => wo (f_X12_find_K4 e) Q0) ?_ _ ((-1 : Int32), (0 : Int32)) ⟨_, eb, h⟩
  intro Q4 hb4 he4 s h
  obtain ⟨l2, l3⟩ := s
  show mi_X mX12_find (1) 4 [(0, vr 12 0), (1, vi l2), (2, vi l3)] [] mem QX
  unfold f_X12_find_B4 at h
  try dsimp only at h
  refine x_iload_n (pc := 4) dX12_find_4 rfl ?_
  refine x_aload_n (pc := 5) dX12_find_5 rfl ?_
  refine x_getI (pc := 6) dX12_find_6 fX12_208 rfl (by decide) ?_
  refine x_icmp_ge (pc := 9) dX12_find_9 (tgt := 43) (by decide) (fun c8 => ?_) (fun c8 => ?_)
  · replace h := wo_pos c8 h
    refine x_sub [(1, _)] ⟨rfl, trivial⟩ ?_
    exact k4_0 _ (he4 l2 (wo_some h))
  · replace h := wo_neg c8 h
    refine x_aload_n (pc := 12) dX12_find_12 rfl ?_
    refine x_getS (pc := 13) dX12_find_13 fX12_101 rfl (by decide) ?_
    refine x_iload_n (pc := 16) dX12_find_16 rfl ?_
    obtain ⟨hx4, h⟩ := wo_g h
    refine x_laldJ (pc := 17) dX12_find_17 rfl rfl (by decide) hx4 ?_
    refine x_aload_n (pc := 18) dX12_find_18 rfl ?_
    refine x_getS (pc := 19) dX12_find_19 fX12_30 rfl (by decide) ?_
    refine x_aload_n (pc := 22) dX12_find_22 rfl ?_
    refine x_getI (pc := 23) dX12_find_23 fX12_180 rfl (by decide) ?_
    obtain ⟨hx5, h⟩ := wo_g h
    refine x_laldJ (pc := 26) dX12_find_26 rfl rfl (by decide) hx5 ?_
    refine x_lcmp (pc := 27) dX12_find_27 ?_
    have j36 : ∀ (u6 : Int32), wo (f_X12_find_J36 l3 u6) Q4 → mi_X mX12_find (1) 36 [(0, vr 12 0), (2, vi l3)] [vi u6] mem QX := by
      intro u6 h
      unfold f_X12_find_J36 at h
      refine x_istore_n (ls' := [(1, _), (0, _), (2, _)]) (pc := 36) dX12_find_36 rfl rfl rfl ?_
      refine x_iinc (ls' := [(2, _), (1, _), (0, _)]) (pc := 37) dX12_find_37 rfl (v := l3 + (1 : Int32)) rfl rfl rfl ?_
      refine x_goto (pc := 40) dX12_find_40 (tgt := 4) (by decide) ?_
      refine x_sub [(0, _), (1, _), (2, _)] ⟨rfl, rfl, rfl, trivial⟩ ?_
      exact hb4 (u6, (l3 + (1 : Int32))) (wo_some h)
    refine x_if_ne (pc := 28) dX12_find_28 (tgt := 35) (by decide) (fun c7 => ?_) (fun c7 => ?_)
    · replace h := wo_neg c7 h
      refine x_iload_n (pc := 35) dX12_find_35 rfl ?_
      refine x_sub [(0, _), (2, _)] ⟨rfl, rfl, trivial⟩ ?_
      exact j36 _ h
    · replace h := wo_pos c7 h
      refine x_iload_n (pc := 31) dX12_find_31 rfl ?_
      refine x_goto (pc := 32) dX12_find_32 (tgt := 36) (by decide) ?_
      refine x_sub [(0, _), (2, _)] ⟨rfl, rfl, trivial⟩ ?_
      exact j36 _ h
noncomputable def f_X12_fitsSights_J202 (l7 : Int32) (u10 : Int32) : Option ((Int32 × Int32) ⊕ (Int32)) := some (.inl (u10, (l7 + (1 : Int32))))
noncomputable def f_X12_fitsSights_J201 (l7 : Int32) : Option ((Int32 × Int32) ⊕ (Int32)) := f_X12_fitsSights_J202 l7 (0 : Int32)
noncomputable def f_X12_fitsSights_J194 (l7 : Int32) (u14 : Int32) (u16 : Int32) : Option ((Int32 × Int32) ⊕ (Int32)) := if u14 = u16 then f_X12_fitsSights_J202 l7 (1 : Int32) else f_X12_fitsSights_J201 l7
noncomputable def f_X12_fitsSights_J176 (m3 : mi_M) (l7 : Int32) (v9 : Int32) (u14 : Int32) : Option ((Int32 × Int32) ⊕ (Int32)) := mi_g (vp_in (v9 + (2 : Int32)) 1449) (if (m3.1 64 0 (v9 + (2 : Int32)).toNatClampNeg) = (1 : Int32) then f_X12_fitsSights_J194 l7 u14 (1 : Int32) else f_X12_fitsSights_J194 l7 u14 (0 : Int32))
noncomputable def f_X12_fitsSights_B124 (m3 : mi_M) : (Int32 × Int32) → Option ((Int32 × Int32) ⊕ (Int32)) := fun s => match s with | (l6, l7) => mi_g (vp_in (38 : Int32) 1449) (if (m3.1 64 0 (38 : Int32).toNatClampNeg) ≤ l7 then some (.inr l6) else mi_let ((39 : Int32) + ((3 : Int32) * l7)) fun v9 => if l6 = 0 then f_X12_fitsSights_J201 l7 else mi_g (vp_in v9 1449) (mi_g (vp_in (m3.1 64 0 v9.toNatClampNeg) 6) (mi_g (vp_in (v9 + (1 : Int32)) 1449) (if (m3.1 74 0 (m3.1 64 0 v9.toNatClampNeg).toNatClampNeg) ≤ (m3.1 64 0 (v9 + (1 : Int32)).toNatClampNeg) then f_X12_fitsSights_J176 m3 l7 v9 (0 : Int32) else f_X12_fitsSights_J176 m3 l7 v9 (1 : Int32)))))
noncomputable def f_X12_fitsSights_K124 (m3 : mi_M) : Int32 → Option (Int32 × mi_M) := fun e4 => mi_g (e4 = 0 ∨ e4 = 1) (some (e4, m3))
noncomputable def f_X12_fitsSights_J116 (l23 : Int32) (u26 : Int32) (m27 : mi_M) : Option ((Int32 × Int32 × mi_M) ⊕ (Int32 × mi_M)) := some (.inl (u26, (l23 + (1 : Int32)), m27))
noncomputable def f_X12_fitsSights_J69 (l23 : Int32) (m24 : mi_M) (u28 : Int32) : Option ((Int32 × Int32 × mi_M) ⊕ (Int32 × mi_M)) := mi_bo (f_X12_wrongOf l23 (1 : Int32) m24) fun v29 => mi_g (vp_in v29 6) (mi_g (vp_in ((14 : Int32) + l23) 1449) (mi_g (vp_in (0 : Int32) 1449) (mi_b (f_X12_burnOf l23 (m24.1 64 0 ((14 : Int32) + l23).toNatClampNeg) (m24.1 64 0 (0 : Int32).toNatClampNeg) m24) fun v33 m34 => mi_bo (f_X12_atMost ((m24.1 74 0 v29.toNatClampNeg) + v33) m34) fun v35 => mi_g (vp_in v29 6) (mi_let (mi_wI m34 74 0 v29.toNatClampNeg v35) fun m37 => f_X12_fitsSights_J116 l23 u28 m37))))
noncomputable def f_X12_fitsSights_J68 (l23 : Int32) (m24 : mi_M) : Option ((Int32 × Int32 × mi_M) ⊕ (Int32 × mi_M)) := f_X12_fitsSights_J69 l23 m24 (0 : Int32)
noncomputable def f_X12_fitsSights_B34 (p0 : Int32) : (Int32 × Int32 × mi_M) → Option ((Int32 × Int32 × mi_M) ⊕ (Int32 × mi_M)) := fun s => match s with | (l22, l23, m24) => mi_bo (f_X12_wrongs m24) fun v25 => if v25 ≤ l23 then some (.inr (l22, m24)) else if ((p0 >>> (l23 &&& 31)) &&& (1 : Int32)) = (1 : Int32) then if l22 = 0 then f_X12_fitsSights_J68 l23 m24 else mi_bo (f_X12_isRipe (0 : Int32) l23 m24) fun v38 => if v38 = 0 then f_X12_fitsSights_J68 l23 m24 else f_X12_fitsSights_J69 l23 m24 (1 : Int32) else f_X12_fitsSights_J116 l23 l22 m24
noncomputable def f_X12_fitsSights_K34 : (Int32 × mi_M) → Option (Int32 × mi_M) := fun e => match e with | (e2, m3) => mi_bo (mi_lp (f_X12_fitsSights_B124 m3) mi_fu (e2, (0 : Int32))) (f_X12_fitsSights_K124 m3)
noncomputable def f_X12_fitsSights_B2 : (Int32 × mi_M) → Option ((Int32 × mi_M) ⊕ (mi_M)) := fun s => match s with | (l43, m44) => mi_bo (f_X12_people m44) fun v45 => if v45 ≤ l43 then some (.inr m44) else mi_g (vp_in ((2 : Int32) + l43) 1449) (mi_g (vp_in l43 6) (mi_let (mi_wI m44 74 0 l43.toNatClampNeg (m44.1 64 0 ((2 : Int32) + l43).toNatClampNeg)) fun m48 => some (.inl ((l43 + (1 : Int32)), m48))))
noncomputable def f_X12_fitsSights_K2 (p0 : Int32) : mi_M → Option (Int32 × mi_M) := fun m1 => mi_bo (mi_lp (f_X12_fitsSights_B34 p0) mi_fu ((1 : Int32), (0 : Int32), m1)) (f_X12_fitsSights_K34)
noncomputable def f_X12_fitsSights (p0 : Int32) (mem : mi_M) : Option (Int32 × mi_M) := mi_bo (mi_lp (f_X12_fitsSights_B2) mi_fu ((0 : Int32), mem)) (f_X12_fitsSights_K2 p0)
set_option maxRecDepth 100000 in
set_option maxHeartbeats 4000000 in
theorem w_X12_fitsSights (p0 : Int32) (mem : mi_M) (a : Int32 × mi_M) (e : f_X12_fitsSights p0 mem = some a) : mi_Ci (5) mX12_fitsSights [vr 12 0, vi p0] mem (fun x m' => x = a.1 ∧ m' = a.2) := by
  unfold mi_Ci
  refine mi_C_intro (ls := [(0, vr 12 0), (1, vi p0)]) (by decide) rfl rfl ?_
  obtain ⟨Q0, hq0, h⟩ : ∃ Q0 : (Int32 × mi_M) → Prop, (∀ b, Q0 b → b = a) ∧ wo (f_X12_fitsSights p0 mem) Q0 := ⟨fun b => b = a, fun _ h => h, wo_eq e⟩
  obtain ⟨QX, hQX⟩ : ∃ QX : Option mi_V → mi_M → Prop, QX = (fun r m' => ∃ x, r = some (vi x) ∧ x = a.1 ∧ m' = a.2) := ⟨_, rfl⟩
  rw [← hQX]
  unfold f_X12_fitsSights at h
  refine x_iconst (pc := 0) dX12_fitsSights_0 (v := (0 : Int32)) (by decide) ?_
  refine x_istore_n (ls' := [(2, _), (0, _), (1, _)]) (pc := 1) dX12_fitsSights_1 rfl rfl rfl ?_
  have k2_0 : ∀ (m1 : mi_M), wo (f_X12_fitsSights_K2 p0 m1) Q0 → mi_X mX12_fitsSights (5) 30 [(0, vr 12 0), (1, vi p0)] [] m1 QX := by
    intro m1 h
    unfold f_X12_fitsSights_K2 at h
    try dsimp only at h
    refine x_iconst (pc := 30) dX12_fitsSights_30 (v := (1 : Int32)) (by decide) ?_
    refine x_istore_n (ls' := [(2, _), (0, _), (1, _)]) (pc := 31) dX12_fitsSights_31 rfl rfl rfl ?_
    refine x_iconst (pc := 32) dX12_fitsSights_32 (v := (0 : Int32)) (by decide) ?_
    refine x_istore_n (ls' := [(3, _), (2, _), (0, _), (1, _)]) (pc := 33) dX12_fitsSights_33 rfl rfl rfl ?_
    have k34_0 : ∀ (e2 : Int32) (m3 : mi_M), wo (f_X12_fitsSights_K34 (e2, m3)) Q0 → mi_X mX12_fitsSights (5) 122 [(0, vr 12 0), (2, vi e2)] [] m3 QX := by
      intro e2 m3 h
      unfold f_X12_fitsSights_K34 at h
      try dsimp only at h
      refine x_iconst (pc := 122) dX12_fitsSights_122 (v := (0 : Int32)) (by decide) ?_
      refine x_istore_n (ls' := [(3, _), (0, _), (2, _)]) (pc := 123) dX12_fitsSights_123 rfl rfl rfl ?_
      have k124_0 : ∀ (e4 : Int32), wo (f_X12_fitsSights_K124 m3 e4) Q0 → mi_X mX12_fitsSights (5) 209 [(2, vi e4)] [] m3 QX := by
        intro e4 h
        unfold f_X12_fitsSights_K124 at h
        try dsimp only at h
        refine x_iload_n (pc := 209) dX12_fitsSights_209 rfl ?_
        obtain ⟨hb5, h⟩ := wo_g h
        exact x_zretB (pc := 210) dX12_fitsSights_210 rfl hb5 (by rw [hQX]; exact ⟨_, rfl, congrArg Prod.fst (hq0 _ (wo_some h)), congrArg Prod.snd (hq0 _ (wo_some h))⟩)
      refine x_sub [(0, _), (2, _), (3, _)] ⟨rfl, rfl, rfl, trivial⟩ ?_
      obtain ⟨ea, eb, h⟩ := wo_bo h
      refine wo_lq (X := fun s => match s with | (l6, l7) => mi_X mX12_fitsSights (5) 124 [(0, vr 12 0), (2, vi l6), (3, vi l7)] [] m3 QX) (E := fun e => wo (f_X12_fitsSights_K124 m3 e) Q0) ?_ _ (e2, (0 : Int32)) ⟨_, eb, h⟩
      intro Q124 hb124 he124 s h
      obtain ⟨l6, l7⟩ := s
      show mi_X mX12_fitsSights (5) 124 [(0, vr 12 0), (2, vi l6), (3, vi l7)] [] m3 QX
      unfold f_X12_fitsSights_B124 at h
      try dsimp only at h
      refine x_iload_n (pc := 124) dX12_fitsSights_124 rfl ?_
      refine x_aload_n (pc := 125) dX12_fitsSights_125 rfl ?_
      refine x_getS (pc := 126) dX12_fitsSights_126 fX12_113 rfl (by decide) ?_
      refine x_bipush (pc := 129) dX12_fitsSights_129 (v := (38 : Int32)) (by decide) ?_
      obtain ⟨hx8, h⟩ := wo_g h
      refine x_ialdJ (pc := 131) dX12_fitsSights_131 rfl rfl (by decide) hx8 ?_
      refine x_icmp_ge (pc := 132) dX12_fitsSights_132 (tgt := 209) (by decide) (fun c21 => ?_) (fun c21 => ?_)
      · replace h := wo_pos c21 h
        refine x_sub [(2, _)] ⟨rfl, trivial⟩ ?_
        exact k124_0 _ (he124 l6 (wo_some h))
      · replace h := wo_neg c21 h
        refine x_bipush (pc := 135) dX12_fitsSights_135 (v := (39 : Int32)) (by decide) ?_
        refine x_iconst (pc := 137) dX12_fitsSights_137 (v := (3 : Int32)) (by decide) ?_
        refine x_iload_n (pc := 138) dX12_fitsSights_138 rfl ?_
        refine x_imul (pc := 139) dX12_fitsSights_139 ?_
        refine x_iadd (pc := 140) dX12_fitsSights_140 ?_
        refine x_leti h (fun v9 h => ?_)
        refine x_istore (ls' := [(4, _), (0, _), (2, _), (3, _)]) (pc := 141) dX12_fitsSights_141 rfl rfl ?_
        refine x_iload_n (pc := 143) dX12_fitsSights_143 rfl ?_
        have j202 : ∀ (u10 : Int32), wo (f_X12_fitsSights_J202 l7 u10) Q124 → mi_X mX12_fitsSights (5) 202 [(0, vr 12 0), (3, vi l7)] [vi u10] m3 QX := by
          intro u10 h
          unfold f_X12_fitsSights_J202 at h
          refine x_istore_n (ls' := [(2, _), (0, _), (3, _)]) (pc := 202) dX12_fitsSights_202 rfl rfl rfl ?_
          refine x_iinc (ls' := [(3, _), (2, _), (0, _)]) (pc := 203) dX12_fitsSights_203 rfl (v := l7 + (1 : Int32)) rfl rfl rfl ?_
          refine x_goto (pc := 206) dX12_fitsSights_206 (tgt := 124) (by decide) ?_
          refine x_sub [(0, _), (2, _), (3, _)] ⟨rfl, rfl, rfl, trivial⟩ ?_
          exact hb124 (u10, (l7 + (1 : Int32))) (wo_some h)
        have j201 : wo (f_X12_fitsSights_J201 l7) Q124 → mi_X mX12_fitsSights (5) 201 [(0, vr 12 0), (3, vi l7)] [] m3 QX := by
          intro h
          unfold f_X12_fitsSights_J201 at h
          refine x_iconst (pc := 201) dX12_fitsSights_201 (v := (0 : Int32)) (by decide) ?_
          refine x_sub [(0, _), (3, _)] ⟨rfl, rfl, trivial⟩ ?_
          exact j202 _ h
        refine x_if_eq (pc := 144) dX12_fitsSights_144 (tgt := 201) (by decide) (fun c20 => ?_) (fun c20 => ?_)
        · replace h := wo_pos c20 h
          refine x_sub [(0, _), (3, _)] ⟨rfl, rfl, trivial⟩ ?_
          exact j201 h
        · replace h := wo_neg c20 h
          refine x_aload_n (pc := 147) dX12_fitsSights_147 rfl ?_
          refine x_getS (pc := 148) dX12_fitsSights_148 fX12_144 rfl (by decide) ?_
          refine x_aload_n (pc := 151) dX12_fitsSights_151 rfl ?_
          refine x_getS (pc := 152) dX12_fitsSights_152 fX12_113 rfl (by decide) ?_
          refine x_iload (pc := 155) dX12_fitsSights_155 rfl ?_
          obtain ⟨hx11, h⟩ := wo_g h
          refine x_ialdJ (pc := 157) dX12_fitsSights_157 rfl rfl (by decide) hx11 ?_
          obtain ⟨hx12, h⟩ := wo_g h
          refine x_ialdJ (pc := 158) dX12_fitsSights_158 rfl rfl (by decide) hx12 ?_
          refine x_aload_n (pc := 159) dX12_fitsSights_159 rfl ?_
          refine x_getS (pc := 160) dX12_fitsSights_160 fX12_113 rfl (by decide) ?_
          refine x_iload (pc := 163) dX12_fitsSights_163 rfl ?_
          refine x_iconst (pc := 165) dX12_fitsSights_165 (v := (1 : Int32)) (by decide) ?_
          refine x_iadd (pc := 166) dX12_fitsSights_166 ?_
          obtain ⟨hx13, h⟩ := wo_g h
          refine x_ialdJ (pc := 167) dX12_fitsSights_167 rfl rfl (by decide) hx13 ?_
          have j176 : ∀ (u14 : Int32), wo (f_X12_fitsSights_J176 m3 l7 v9 u14) Q124 → mi_X mX12_fitsSights (5) 176 [(0, vr 12 0), (3, vi l7), (4, vi v9)] [vi u14] m3 QX := by
            intro u14 h
            unfold f_X12_fitsSights_J176 at h
            refine x_aload_n (pc := 176) dX12_fitsSights_176 rfl ?_
            refine x_getS (pc := 177) dX12_fitsSights_177 fX12_113 rfl (by decide) ?_
            refine x_iload (pc := 180) dX12_fitsSights_180 rfl ?_
            refine x_iconst (pc := 182) dX12_fitsSights_182 (v := (2 : Int32)) (by decide) ?_
            refine x_iadd (pc := 183) dX12_fitsSights_183 ?_
            obtain ⟨hx15, h⟩ := wo_g h
            refine x_ialdJ (pc := 184) dX12_fitsSights_184 rfl rfl (by decide) hx15 ?_
            refine x_iconst (pc := 185) dX12_fitsSights_185 (v := (1 : Int32)) (by decide) ?_
            have j194 : ∀ (u16 : Int32), wo (f_X12_fitsSights_J194 l7 u14 u16) Q124 → mi_X mX12_fitsSights (5) 194 [(0, vr 12 0), (3, vi l7)] [vi u16, vi u14] m3 QX := by
              intro u16 h
              unfold f_X12_fitsSights_J194 at h
              refine x_icmp_ne (pc := 194) dX12_fitsSights_194 (tgt := 201) (by decide) (fun c17 => ?_) (fun c17 => ?_)
              · replace h := wo_neg c17 h
                refine x_sub [(0, _), (3, _)] ⟨rfl, rfl, trivial⟩ ?_
                exact j201 h
              · replace h := wo_pos c17 h
                refine x_iconst (pc := 197) dX12_fitsSights_197 (v := (1 : Int32)) (by decide) ?_
                refine x_goto (pc := 198) dX12_fitsSights_198 (tgt := 202) (by decide) ?_
                refine x_sub [(0, _), (3, _)] ⟨rfl, rfl, trivial⟩ ?_
                exact j202 _ h
            refine x_icmp_ne (pc := 186) dX12_fitsSights_186 (tgt := 193) (by decide) (fun c18 => ?_) (fun c18 => ?_)
            · replace h := wo_neg c18 h
              refine x_iconst (pc := 193) dX12_fitsSights_193 (v := (0 : Int32)) (by decide) ?_
              refine x_sub [(0, _), (3, _)] ⟨rfl, rfl, trivial⟩ ?_
              exact j194 _ h
            · replace h := wo_pos c18 h
              refine x_iconst (pc := 189) dX12_fitsSights_189 (v := (1 : Int32)) (by decide) ?_
              refine x_goto (pc := 190) dX12_fitsSights_190 (tgt := 194) (by decide) ?_
              refine x_sub [(0, _), (3, _)] ⟨rfl, rfl, trivial⟩ ?_
              exact j194 _ h
          refine x_icmp_le (pc := 168) dX12_fitsSights_168 (tgt := 175) (by decide) (fun c19 => ?_) (fun c19 => ?_)
          · replace h := wo_pos c19 h
            refine x_iconst (pc := 175) dX12_fitsSights_175 (v := (0 : Int32)) (by decide) ?_
            refine x_sub [(0, _), (3, _), (4, _)] ⟨rfl, rfl, rfl, trivial⟩ ?_
            exact j176 _ h
          · replace h := wo_neg c19 h
            refine x_iconst (pc := 171) dX12_fitsSights_171 (v := (1 : Int32)) (by decide) ?_
            refine x_goto (pc := 172) dX12_fitsSights_172 (tgt := 176) (by decide) ?_
            refine x_sub [(0, _), (3, _), (4, _)] ⟨rfl, rfl, rfl, trivial⟩ ?_
            exact j176 _ h
    refine x_sub [(0, _), (1, _), (2, _), (3, _)] ⟨rfl, rfl, rfl, rfl, trivial⟩ ?_
    obtain ⟨ea, eb, h⟩ := wo_bo h
    refine wo_lq (X := fun s => match s with | (l22, l23, m24) => mi_X mX12_fitsSights (5) 34 [(0, vr 12 0), (1, vi p0), (2, vi l22), (3, vi l23)] [] m24 QX) (E := fun e => wo (f_X12_fitsSights_K34 e) Q0) ?_ _ ((1 : Int32), (0 : Int32), m1) ⟨_, eb, h⟩
    intro Q34 hb34 he34 s h
    obtain ⟨l22, l23, m24⟩ := s
    show mi_X mX12_fitsSights (5) 34 [(0, vr 12 0), (1, vi p0), (2, vi l22), (3, vi l23)] [] m24 QX
    unfold f_X12_fitsSights_B34 at h
    try dsimp only at h
    refine x_iload_n (pc := 34) dX12_fitsSights_34 rfl ?_
    refine x_aload_n (pc := 35) dX12_fitsSights_35 rfl ?_
    refine z_Vi0 (pc := 36) h dX12_fitsSights_36 lX12_273 (by decide) (by omega) rfl (fun a e => w_X12_wrongs _ a e) (fun v25 h => ?_)
    refine x_icmp_ge (pc := 39) dX12_fitsSights_39 (tgt := 122) (by decide) (fun c42 => ?_) (fun c42 => ?_)
    · replace h := wo_pos c42 h
      refine x_sub [(0, _), (2, _)] ⟨rfl, rfl, trivial⟩ ?_
      exact k34_0 _ _ (he34 (l22, m24) (wo_some h))
    · replace h := wo_neg c42 h
      refine x_iload_n (pc := 42) dX12_fitsSights_42 rfl ?_
      refine x_iload_n (pc := 43) dX12_fitsSights_43 rfl ?_
      refine x_ishr (pc := 44) dX12_fitsSights_44 ?_
      refine x_iconst (pc := 45) dX12_fitsSights_45 (v := (1 : Int32)) (by decide) ?_
      refine x_iand (pc := 46) dX12_fitsSights_46 ?_
      refine x_iconst (pc := 47) dX12_fitsSights_47 (v := (1 : Int32)) (by decide) ?_
      have j116 : ∀ (u26 : Int32) (m27 : mi_M), wo (f_X12_fitsSights_J116 l23 u26 m27) Q34 → mi_X mX12_fitsSights (5) 116 [(0, vr 12 0), (1, vi p0), (2, vi u26), (3, vi l23)] [] m27 QX := by
        intro u26 m27 h
        unfold f_X12_fitsSights_J116 at h
        refine x_iinc (ls' := [(3, _), (0, _), (1, _), (2, _)]) (pc := 116) dX12_fitsSights_116 rfl (v := l23 + (1 : Int32)) rfl rfl rfl ?_
        refine x_goto (pc := 119) dX12_fitsSights_119 (tgt := 34) (by decide) ?_
        refine x_sub [(0, _), (1, _), (2, _), (3, _)] ⟨rfl, rfl, rfl, rfl, trivial⟩ ?_
        exact hb34 (u26, (l23 + (1 : Int32)), m27) (wo_some h)
      refine x_icmp_ne (pc := 48) dX12_fitsSights_48 (tgt := 116) (by decide) (fun c41 => ?_) (fun c41 => ?_)
      · replace h := wo_neg c41 h
        refine x_sub [(0, _), (1, _), (2, _), (3, _)] ⟨rfl, rfl, rfl, rfl, trivial⟩ ?_
        exact j116 _ _ h
      · replace h := wo_pos c41 h
        refine x_iload_n (pc := 51) dX12_fitsSights_51 rfl ?_
        have j69 : ∀ (u28 : Int32), wo (f_X12_fitsSights_J69 l23 m24 u28) Q34 → mi_X mX12_fitsSights (5) 69 [(0, vr 12 0), (1, vi p0), (3, vi l23)] [vi u28] m24 QX := by
          intro u28 h
          unfold f_X12_fitsSights_J69 at h
          refine x_istore_n (ls' := [(2, _), (0, _), (1, _), (3, _)]) (pc := 69) dX12_fitsSights_69 rfl rfl rfl ?_
          refine x_aload_n (pc := 70) dX12_fitsSights_70 rfl ?_
          refine x_iload_n (pc := 71) dX12_fitsSights_71 rfl ?_
          refine x_iconst (pc := 72) dX12_fitsSights_72 (v := (1 : Int32)) (by decide) ?_
          refine z_Vi2 (pc := 73) h dX12_fitsSights_73 lX12_297 (by decide) (by omega) rfl (fun a e => w_X12_wrongOf _ _ _ a e) (fun v29 h => ?_)
          refine x_istore (ls' := [(4, _), (2, _), (0, _), (1, _), (3, _)]) (pc := 76) dX12_fitsSights_76 rfl rfl ?_
          refine x_aload_n (pc := 78) dX12_fitsSights_78 rfl ?_
          refine x_getS (pc := 79) dX12_fitsSights_79 fX12_144 rfl (by decide) ?_
          refine x_iload (pc := 82) dX12_fitsSights_82 rfl ?_
          refine x_aload_n (pc := 84) dX12_fitsSights_84 rfl ?_
          refine x_getS (pc := 85) dX12_fitsSights_85 fX12_144 rfl (by decide) ?_
          refine x_iload (pc := 88) dX12_fitsSights_88 rfl ?_
          obtain ⟨hx30, h⟩ := wo_g h
          refine x_ialdJ (pc := 90) dX12_fitsSights_90 rfl rfl (by decide) hx30 ?_
          refine x_aload_n (pc := 91) dX12_fitsSights_91 rfl ?_
          refine x_iload_n (pc := 92) dX12_fitsSights_92 rfl ?_
          refine x_aload_n (pc := 93) dX12_fitsSights_93 rfl ?_
          refine x_getS (pc := 94) dX12_fitsSights_94 fX12_113 rfl (by decide) ?_
          refine x_bipush (pc := 97) dX12_fitsSights_97 (v := (14 : Int32)) (by decide) ?_
          refine x_iload_n (pc := 99) dX12_fitsSights_99 rfl ?_
          refine x_iadd (pc := 100) dX12_fitsSights_100 ?_
          obtain ⟨hx31, h⟩ := wo_g h
          refine x_ialdJ (pc := 101) dX12_fitsSights_101 rfl rfl (by decide) hx31 ?_
          refine x_aload_n (pc := 102) dX12_fitsSights_102 rfl ?_
          refine x_getS (pc := 103) dX12_fitsSights_103 fX12_113 rfl (by decide) ?_
          refine x_iconst (pc := 106) dX12_fitsSights_106 (v := (0 : Int32)) (by decide) ?_
          obtain ⟨hx32, h⟩ := wo_g h
          refine x_ialdJ (pc := 107) dX12_fitsSights_107 rfl rfl (by decide) hx32 ?_
          refine y_Vi3 (pc := 108) h dX12_fitsSights_108 lX12_339 (by decide) (by omega) rfl (fun a e => w_X12_burnOf _ _ _ _ a e) (fun v33 m34 h => ?_)
          refine x_iadd (pc := 111) dX12_fitsSights_111 ?_
          refine z_Si1 (pc := 112) h dX12_fitsSights_112 lX12_333 (by omega) rfl (fun a e => w_X12_atMost _ _ a e) (fun v35 h => ?_)
          obtain ⟨hx36, h⟩ := wo_g h
          refine x_iastJ (pc := 115) dX12_fitsSights_115 rfl rfl (by decide) rfl hx36 ?_
          refine x_letm h (fun m37 h => ?_)
          refine x_sub [(0, _), (1, _), (2, _), (3, _)] ⟨rfl, rfl, rfl, rfl, trivial⟩ ?_
          exact j116 _ _ h
        have j68 : wo (f_X12_fitsSights_J68 l23 m24) Q34 → mi_X mX12_fitsSights (5) 68 [(0, vr 12 0), (1, vi p0), (3, vi l23)] [] m24 QX := by
          intro h
          unfold f_X12_fitsSights_J68 at h
          refine x_iconst (pc := 68) dX12_fitsSights_68 (v := (0 : Int32)) (by decide) ?_
          refine x_sub [(0, _), (1, _), (3, _)] ⟨rfl, rfl, rfl, trivial⟩ ?_
          exact j69 _ h
        refine x_if_eq (pc := 52) dX12_fitsSights_52 (tgt := 68) (by decide) (fun c40 => ?_) (fun c40 => ?_)
        · replace h := wo_pos c40 h
          refine x_sub [(0, _), (1, _), (3, _)] ⟨rfl, rfl, rfl, trivial⟩ ?_
          exact j68 h
        · replace h := wo_neg c40 h
          refine x_aload_n (pc := 55) dX12_fitsSights_55 rfl ?_
          refine x_iconst (pc := 56) dX12_fitsSights_56 (v := (0 : Int32)) (by decide) ?_
          refine x_iload_n (pc := 57) dX12_fitsSights_57 rfl ?_
          refine z_Vi2 (pc := 58) h dX12_fitsSights_58 lX12_336 (by decide) (by omega) rfl (fun a e => w_X12_isRipe _ _ _ a e) (fun v38 h => ?_)
          refine x_if_eq (pc := 61) dX12_fitsSights_61 (tgt := 68) (by decide) (fun c39 => ?_) (fun c39 => ?_)
          · replace h := wo_pos c39 h
            refine x_sub [(0, _), (1, _), (3, _)] ⟨rfl, rfl, rfl, trivial⟩ ?_
            exact j68 h
          · replace h := wo_neg c39 h
            refine x_iconst (pc := 64) dX12_fitsSights_64 (v := (1 : Int32)) (by decide) ?_
            refine x_goto (pc := 65) dX12_fitsSights_65 (tgt := 69) (by decide) ?_
            refine x_sub [(0, _), (1, _), (3, _)] ⟨rfl, rfl, rfl, trivial⟩ ?_
            exact j69 _ h
  refine x_sub [(0, _), (1, _), (2, _)] ⟨rfl, rfl, rfl, trivial⟩ ?_
  obtain ⟨ea, eb, h⟩ := wo_bo h
  refine wo_lq (X := fun s => match s with | (l43, m44) => mi_X mX12_fitsSights (5) 2 [(0, vr 12 0), (1, vi p0), (2, vi l43)] [] m44 QX) (E := fun e => wo (f_X12_fitsSights_K2 p0 e) Q0) ?_ _ ((0 : Int32), mem) ⟨_, eb, h⟩
  intro Q2 hb2 he2 s h
  obtain ⟨l43, m44⟩ := s
  show mi_X mX12_fitsSights (5) 2 [(0, vr 12 0), (1, vi p0), (2, vi l43)] [] m44 QX
  unfold f_X12_fitsSights_B2 at h
  try dsimp only at h
  refine x_iload_n (pc := 2) dX12_fitsSights_2 rfl ?_
  refine x_aload_n (pc := 3) dX12_fitsSights_3 rfl ?_
  refine z_Vi0 (pc := 4) h dX12_fitsSights_4 lX12_294 (by decide) (by omega) rfl (fun a e => w_X12_people _ a e) (fun v45 h => ?_)
  refine x_icmp_ge (pc := 7) dX12_fitsSights_7 (tgt := 30) (by decide) (fun c49 => ?_) (fun c49 => ?_)
  · replace h := wo_pos c49 h
    refine x_sub [(0, _), (1, _)] ⟨rfl, rfl, trivial⟩ ?_
    exact k2_0 _ (he2 m44 (wo_some h))
  · replace h := wo_neg c49 h
    refine x_aload_n (pc := 10) dX12_fitsSights_10 rfl ?_
    refine x_getS (pc := 11) dX12_fitsSights_11 fX12_144 rfl (by decide) ?_
    refine x_iload_n (pc := 14) dX12_fitsSights_14 rfl ?_
    refine x_aload_n (pc := 15) dX12_fitsSights_15 rfl ?_
    refine x_getS (pc := 16) dX12_fitsSights_16 fX12_113 rfl (by decide) ?_
    refine x_iconst (pc := 19) dX12_fitsSights_19 (v := (2 : Int32)) (by decide) ?_
    refine x_iload_n (pc := 20) dX12_fitsSights_20 rfl ?_
    refine x_iadd (pc := 21) dX12_fitsSights_21 ?_
    obtain ⟨hx46, h⟩ := wo_g h
    refine x_ialdJ (pc := 22) dX12_fitsSights_22 rfl rfl (by decide) hx46 ?_
    obtain ⟨hx47, h⟩ := wo_g h
    refine x_iastJ (pc := 23) dX12_fitsSights_23 rfl rfl (by decide) rfl hx47 ?_
    refine x_letm h (fun m48 h => ?_)
    refine x_iinc (ls' := [(2, _), (0, _), (1, _)]) (pc := 24) dX12_fitsSights_24 rfl (v := l43 + (1 : Int32)) rfl rfl rfl ?_
    refine x_goto (pc := 27) dX12_fitsSights_27 (tgt := 2) (by decide) ?_
    refine x_sub [(0, _), (1, _), (2, _)] ⟨rfl, rfl, rfl, trivial⟩ ?_
    exact hb2 ((l43 + (1 : Int32)), m48) (wo_some h)
noncomputable def f_X12_give_J33 (m1 : mi_M) : Option (Int32 × mi_M) := some ((-1 : Int32), m1)
noncomputable def f_X12_give (p0 : Int32) (p1 : Int32) (mem : mi_M) : Option (Int32 × mi_M) := mi_let (mi_wI mem 12 0 0 (0 : Int32)) fun m1 => mi_bo (f_X12_isWrong p0 m1) fun v2 => if v2 = 0 then f_X12_give_J33 m1 else mi_bo (f_X12_within p1 (1 : Int32) (99 : Int32) m1) fun v3 => if v3 = 0 then f_X12_give_J33 m1 else mi_bo (f_X12_mayGive (0 : Int32) p0 p1 m1) fun v4 => if v4 = 0 then f_X12_give_J33 m1 else mi_bo (f_X12_keeps m1) fun m5 => mi_b (f_X12_gives (0 : Int32) p0 p1 m5) fun v6 m7 => some (v6, m7)
set_option maxRecDepth 100000 in
set_option maxHeartbeats 4000000 in
theorem w_X12_give (p0 : Int32) (p1 : Int32) (mem : mi_M) (a : Int32 × mi_M) (e : f_X12_give p0 p1 mem = some a) : mi_Ci (5) mX12_give [vr 12 0, vi p0, vi p1] mem (fun x m' => x = a.1 ∧ m' = a.2) := by
  unfold mi_Ci
  refine mi_C_intro (ls := [(0, vr 12 0), (1, vi p0), (2, vi p1)]) (by decide) rfl rfl ?_
  obtain ⟨Q0, hq0, h⟩ : ∃ Q0 : (Int32 × mi_M) → Prop, (∀ b, Q0 b → b = a) ∧ wo (f_X12_give p0 p1 mem) Q0 := ⟨fun b => b = a, fun _ h => h, wo_eq e⟩
  obtain ⟨QX, hQX⟩ : ∃ QX : Option mi_V → mi_M → Prop, QX = (fun r m' => ∃ x, r = some (vi x) ∧ x = a.1 ∧ m' = a.2) := ⟨_, rfl⟩
  rw [← hQX]
  unfold f_X12_give at h
  refine x_aload_n (pc := 0) dX12_give_0 rfl ?_
  refine x_iconst (pc := 1) dX12_give_1 (v := (0 : Int32)) (by decide) ?_
  refine x_putI (pc := 2) dX12_give_2 fX12_1 rfl (by decide) rfl rfl ?_
  refine x_letm h (fun m1 h => ?_)
  refine x_aload_n (pc := 5) dX12_give_5 rfl ?_
  refine x_iload_n (pc := 6) dX12_give_6 rfl ?_
  refine z_Vi1 (pc := 7) h dX12_give_7 lX12_313 (by decide) (by omega) rfl (fun a e => w_X12_isWrong _ _ a e) (fun v2 h => ?_)
  have j33 : wo (f_X12_give_J33 m1) Q0 → mi_X mX12_give (5) 33 [] [] m1 QX := by
    intro h
    unfold f_X12_give_J33 at h
    refine x_iconst (pc := 33) dX12_give_33 (v := (-1 : Int32)) (by decide) ?_
    exact x_iret (pc := 34) dX12_give_34 rfl (by rw [hQX]; exact ⟨_, rfl, congrArg Prod.fst (hq0 _ (wo_some h)), congrArg Prod.snd (hq0 _ (wo_some h))⟩)
  refine x_if_eq (pc := 10) dX12_give_10 (tgt := 33) (by decide) (fun c10 => ?_) (fun c10 => ?_)
  · replace h := wo_pos c10 h
    refine x_sub [] trivial ?_
    exact j33 h
  · replace h := wo_neg c10 h
    refine x_iload_n (pc := 13) dX12_give_13 rfl ?_
    refine x_iconst (pc := 14) dX12_give_14 (v := (1 : Int32)) (by decide) ?_
    refine x_bipush (pc := 15) dX12_give_15 (v := (99 : Int32)) (by decide) ?_
    refine z_Si3 (pc := 17) h dX12_give_17 lX12_362 (by omega) rfl (fun a e => w_X12_within _ _ _ _ a e) (fun v3 h => ?_)
    refine x_if_eq (pc := 20) dX12_give_20 (tgt := 33) (by decide) (fun c9 => ?_) (fun c9 => ?_)
    · replace h := wo_pos c9 h
      refine x_sub [] trivial ?_
      exact j33 h
    · replace h := wo_neg c9 h
      refine x_aload_n (pc := 23) dX12_give_23 rfl ?_
      refine x_iconst (pc := 24) dX12_give_24 (v := (0 : Int32)) (by decide) ?_
      refine x_iload_n (pc := 25) dX12_give_25 rfl ?_
      refine x_iload_n (pc := 26) dX12_give_26 rfl ?_
      refine z_Vi3 (pc := 27) h dX12_give_27 lX12_377 (by decide) (by omega) rfl (fun a e => w_X12_mayGive _ _ _ _ a e) (fun v4 h => ?_)
      refine x_if_ne (pc := 30) dX12_give_30 (tgt := 35) (by decide) (fun c8 => ?_) (fun c8 => ?_)
      · replace h := wo_neg c8 h
        refine x_aload_n (pc := 35) dX12_give_35 rfl ?_
        refine y_Vv0 (pc := 36) h dX12_give_36 lX12_371 (by decide) (by omega) rfl (fun a e => w_X12_keeps _ a e) (fun m5 h => ?_)
        refine x_aload_n (pc := 39) dX12_give_39 rfl ?_
        refine x_iconst (pc := 40) dX12_give_40 (v := (0 : Int32)) (by decide) ?_
        refine x_iload_n (pc := 41) dX12_give_41 rfl ?_
        refine x_iload_n (pc := 42) dX12_give_42 rfl ?_
        refine y_Vi3 (pc := 43) h dX12_give_43 lX12_380 (by decide) (by omega) rfl (fun a e => w_X12_gives _ _ _ _ a e) (fun v6 m7 h => ?_)
        exact x_iret (pc := 46) dX12_give_46 rfl (by rw [hQX]; exact ⟨_, rfl, congrArg Prod.fst (hq0 _ (wo_some h)), congrArg Prod.snd (hq0 _ (wo_some h))⟩)
      · replace h := wo_pos c8 h
        refine x_sub [] trivial ?_
        exact j33 h
noncomputable def f_X12_grudges_J67 (l4 : Int32) (l5 : Int32) (u8 : Int32) : Option ((Int32 × Int32) ⊕ (Int32)) := mi_let (l4 ||| u8) fun v9 => some (.inl (v9, (l5 + (1 : Int32))))
noncomputable def f_X12_grudges_J66 (l4 : Int32) (l5 : Int32) : Option ((Int32 × Int32) ⊕ (Int32)) := f_X12_grudges_J67 l4 l5 (0 : Int32)
noncomputable def f_X12_grudges_J52 (p0 : Int32) (m1 : mi_M) (l4 : Int32) (l5 : Int32) (u10 : Int32) : Option ((Int32 × Int32) ⊕ (Int32)) := mi_bo (f_X12_wrongOf l5 u10 m1) fun v11 => if v11 = p0 then f_X12_grudges_J67 l4 l5 ((1 : Int32) <<< (l5 &&& 31)) else f_X12_grudges_J66 l4 l5
noncomputable def f_X12_grudges_B20 (p0 : Int32) (p1 : Int32) (m1 : mi_M) : (Int32 × Int32) → Option ((Int32 × Int32) ⊕ (Int32)) := fun s => match s with | (l4, l5) => mi_bo (f_X12_wrongs m1) fun v6 => if v6 ≤ l5 then some (.inr l4) else mi_bo (f_X12_isOpen (0 : Int32) l5 m1) fun v7 => if v7 = 0 then f_X12_grudges_J66 l4 l5 else if p1 = 0 then f_X12_grudges_J52 p0 m1 l4 l5 (1 : Int32) else f_X12_grudges_J52 p0 m1 l4 l5 (0 : Int32)
noncomputable def f_X12_grudges_K20 (m1 : mi_M) : Int32 → Option (Int32 × mi_M) := fun e3 => some (e3, m1)
noncomputable def f_X12_grudges (p0 : Int32) (p1 : Int32) (mem : mi_M) : Option (Int32 × mi_M) := mi_let (mi_wI mem 12 0 0 (0 : Int32)) fun m1 => mi_bo (f_X12_isPerson p0 m1) fun v2 => if v2 = 0 then some ((-1 : Int32), m1) else mi_bo (mi_lp (f_X12_grudges_B20 p0 p1 m1) mi_fu ((0 : Int32), (0 : Int32))) (f_X12_grudges_K20 m1)
set_option maxRecDepth 100000 in
set_option maxHeartbeats 4000000 in
theorem w_X12_grudges (p0 : Int32) (p1 : Int32) (mem : mi_M) (a : Int32 × mi_M) (e : f_X12_grudges p0 p1 mem = some a) : mi_Ci (4) mX12_grudges [vr 12 0, vi p0, vi p1] mem (fun x m' => x = a.1 ∧ m' = a.2) := by
  unfold mi_Ci
  refine mi_C_intro (ls := [(0, vr 12 0), (1, vi p0), (2, vi p1)]) (by decide) rfl rfl ?_
  obtain ⟨Q0, hq0, h⟩ : ∃ Q0 : (Int32 × mi_M) → Prop, (∀ b, Q0 b → b = a) ∧ wo (f_X12_grudges p0 p1 mem) Q0 := ⟨fun b => b = a, fun _ h => h, wo_eq e⟩
  obtain ⟨QX, hQX⟩ : ∃ QX : Option mi_V → mi_M → Prop, QX = (fun r m' => ∃ x, r = some (vi x) ∧ x = a.1 ∧ m' = a.2) := ⟨_, rfl⟩
  rw [← hQX]
  unfold f_X12_grudges at h
  refine x_aload_n (pc := 0) dX12_grudges_0 rfl ?_
  refine x_iconst (pc := 1) dX12_grudges_1 (v := (0 : Int32)) (by decide) ?_
  refine x_putI (pc := 2) dX12_grudges_2 fX12_1 rfl (by decide) rfl rfl ?_
  refine x_letm h (fun m1 h => ?_)
  refine x_aload_n (pc := 5) dX12_grudges_5 rfl ?_
  refine x_iload_n (pc := 6) dX12_grudges_6 rfl ?_
  refine z_Vi1 (pc := 7) h dX12_grudges_7 lX12_359 (by decide) (by omega) rfl (fun a e => w_X12_isPerson _ _ a e) (fun v2 h => ?_)
  refine x_if_ne (pc := 10) dX12_grudges_10 (tgt := 15) (by decide) (fun c16 => ?_) (fun c16 => ?_)
  · replace h := wo_neg c16 h
    refine x_iconst (pc := 15) dX12_grudges_15 (v := (0 : Int32)) (by decide) ?_
    refine x_istore_n (ls' := [(3, _), (0, _), (1, _), (2, _)]) (pc := 16) dX12_grudges_16 rfl rfl rfl ?_
    refine x_iconst (pc := 17) dX12_grudges_17 (v := (0 : Int32)) (by decide) ?_
    refine x_istore (ls' := [(4, _), (3, _), (0, _), (1, _), (2, _)]) (pc := 18) dX12_grudges_18 rfl rfl ?_
    have k20_0 : ∀ (e3 : Int32), wo (f_X12_grudges_K20 m1 e3) Q0 → mi_X mX12_grudges (4) 75 [(3, vi e3)] [] m1 QX := by
      intro e3 h
      unfold f_X12_grudges_K20 at h
      try dsimp only at h
      refine x_iload_n (pc := 75) dX12_grudges_75 rfl ?_
      exact x_iret (pc := 76) dX12_grudges_76 rfl (by rw [hQX]; exact ⟨_, rfl, congrArg Prod.fst (hq0 _ (wo_some h)), congrArg Prod.snd (hq0 _ (wo_some h))⟩)
    refine x_sub [(0, _), (1, _), (2, _), (3, _), (4, _)] ⟨rfl, rfl, rfl, rfl, rfl, trivial⟩ ?_
    obtain ⟨ea, eb, h⟩ := wo_bo h
    refine wo_lq (X := fun s => match s with | (l4, l5) => mi_X mX12_grudges (4) 20 [(0, vr 12 0), (1, vi p0), (2, vi p1), (3, vi l4), (4, vi l5)] [] m1 QX) (E := fun e => wo (f_X12_grudges_K20 m1 e) Q0) ?_ _ ((0 : Int32), (0 : Int32)) ⟨_, eb, h⟩
    intro Q20 hb20 he20 s h
    obtain ⟨l4, l5⟩ := s
    show mi_X mX12_grudges (4) 20 [(0, vr 12 0), (1, vi p0), (2, vi p1), (3, vi l4), (4, vi l5)] [] m1 QX
    unfold f_X12_grudges_B20 at h
    try dsimp only at h
    refine x_iload (pc := 20) dX12_grudges_20 rfl ?_
    refine x_aload_n (pc := 22) dX12_grudges_22 rfl ?_
    refine z_Vi0 (pc := 23) h dX12_grudges_23 lX12_273 (by decide) (by omega) rfl (fun a e => w_X12_wrongs _ a e) (fun v6 h => ?_)
    refine x_icmp_ge (pc := 26) dX12_grudges_26 (tgt := 75) (by decide) (fun c15 => ?_) (fun c15 => ?_)
    · replace h := wo_pos c15 h
      refine x_sub [(3, _)] ⟨rfl, trivial⟩ ?_
      exact k20_0 _ (he20 l4 (wo_some h))
    · replace h := wo_neg c15 h
      refine x_iload_n (pc := 29) dX12_grudges_29 rfl ?_
      refine x_aload_n (pc := 30) dX12_grudges_30 rfl ?_
      refine x_iconst (pc := 31) dX12_grudges_31 (v := (0 : Int32)) (by decide) ?_
      refine x_iload (pc := 32) dX12_grudges_32 rfl ?_
      refine z_Vi2 (pc := 34) h dX12_grudges_34 lX12_319 (by decide) (by omega) rfl (fun a e => w_X12_isOpen _ _ _ a e) (fun v7 h => ?_)
      have j67 : ∀ (u8 : Int32), wo (f_X12_grudges_J67 l4 l5 u8) Q20 → mi_X mX12_grudges (4) 67 [(0, vr 12 0), (1, vi p0), (2, vi p1), (4, vi l5)] [vi u8, vi l4] m1 QX := by
        intro u8 h
        unfold f_X12_grudges_J67 at h
        refine x_ior (pc := 67) dX12_grudges_67 ?_
        refine x_leti h (fun v9 h => ?_)
        refine x_istore_n (ls' := [(3, _), (0, _), (1, _), (2, _), (4, _)]) (pc := 68) dX12_grudges_68 rfl rfl rfl ?_
        refine x_iinc (ls' := [(4, _), (3, _), (0, _), (1, _), (2, _)]) (pc := 69) dX12_grudges_69 rfl (v := l5 + (1 : Int32)) rfl rfl rfl ?_
        refine x_goto (pc := 72) dX12_grudges_72 (tgt := 20) (by decide) ?_
        refine x_sub [(0, _), (1, _), (2, _), (3, _), (4, _)] ⟨rfl, rfl, rfl, rfl, rfl, trivial⟩ ?_
        exact hb20 (v9, (l5 + (1 : Int32))) (wo_some h)
      have j66 : wo (f_X12_grudges_J66 l4 l5) Q20 → mi_X mX12_grudges (4) 66 [(0, vr 12 0), (1, vi p0), (2, vi p1), (4, vi l5)] [vi l4] m1 QX := by
        intro h
        unfold f_X12_grudges_J66 at h
        refine x_iconst (pc := 66) dX12_grudges_66 (v := (0 : Int32)) (by decide) ?_
        refine x_sub [(0, _), (1, _), (2, _), (4, _)] ⟨rfl, rfl, rfl, rfl, trivial⟩ ?_
        exact j67 _ h
      refine x_if_eq (pc := 37) dX12_grudges_37 (tgt := 66) (by decide) (fun c14 => ?_) (fun c14 => ?_)
      · replace h := wo_pos c14 h
        refine x_sub [(0, _), (1, _), (2, _), (4, _)] ⟨rfl, rfl, rfl, rfl, trivial⟩ ?_
        exact j66 h
      · replace h := wo_neg c14 h
        refine x_aload_n (pc := 40) dX12_grudges_40 rfl ?_
        refine x_iload (pc := 41) dX12_grudges_41 rfl ?_
        refine x_iload_n (pc := 43) dX12_grudges_43 rfl ?_
        have j52 : ∀ (u10 : Int32), wo (f_X12_grudges_J52 p0 m1 l4 l5 u10) Q20 → mi_X mX12_grudges (4) 52 [(0, vr 12 0), (1, vi p0), (2, vi p1), (4, vi l5)] [vi u10, vi l5, vr 12 0, vi l4] m1 QX := by
          intro u10 h
          unfold f_X12_grudges_J52 at h
          refine z_Vi2 (pc := 52) h dX12_grudges_52 lX12_297 (by decide) (by omega) rfl (fun a e => w_X12_wrongOf _ _ _ a e) (fun v11 h => ?_)
          refine x_iload_n (pc := 55) dX12_grudges_55 rfl ?_
          refine x_icmp_ne (pc := 56) dX12_grudges_56 (tgt := 66) (by decide) (fun c12 => ?_) (fun c12 => ?_)
          · replace h := wo_neg c12 h
            refine x_sub [(0, _), (1, _), (2, _), (4, _)] ⟨rfl, rfl, rfl, rfl, trivial⟩ ?_
            exact j66 h
          · replace h := wo_pos c12 h
            refine x_iconst (pc := 59) dX12_grudges_59 (v := (1 : Int32)) (by decide) ?_
            refine x_iload (pc := 60) dX12_grudges_60 rfl ?_
            refine x_ishl (pc := 62) dX12_grudges_62 ?_
            refine x_goto (pc := 63) dX12_grudges_63 (tgt := 67) (by decide) ?_
            refine x_sub [(0, _), (1, _), (2, _), (4, _)] ⟨rfl, rfl, rfl, rfl, trivial⟩ ?_
            exact j67 _ h
        refine x_if_eq (pc := 44) dX12_grudges_44 (tgt := 51) (by decide) (fun c13 => ?_) (fun c13 => ?_)
        · replace h := wo_pos c13 h
          refine x_iconst (pc := 51) dX12_grudges_51 (v := (1 : Int32)) (by decide) ?_
          refine x_sub [(0, _), (1, _), (2, _), (4, _)] ⟨rfl, rfl, rfl, rfl, trivial⟩ ?_
          exact j52 _ h
        · replace h := wo_neg c13 h
          refine x_iconst (pc := 47) dX12_grudges_47 (v := (0 : Int32)) (by decide) ?_
          refine x_goto (pc := 48) dX12_grudges_48 (tgt := 52) (by decide) ?_
          refine x_sub [(0, _), (1, _), (2, _), (4, _)] ⟨rfl, rfl, rfl, rfl, trivial⟩ ?_
          exact j52 _ h
  · replace h := wo_pos c16 h
    refine x_iconst (pc := 13) dX12_grudges_13 (v := (-1 : Int32)) (by decide) ?_
    exact x_iret (pc := 14) dX12_grudges_14 rfl (by rw [hQX]; exact ⟨_, rfl, congrArg Prod.fst (hq0 _ (wo_some h)), congrArg Prod.snd (hq0 _ (wo_some h))⟩)
noncomputable def f_X12_harm (mem : mi_M) : Option (Int32 × mi_M) := mi_let (mi_wI mem 12 0 0 (0 : Int32)) fun m1 => mi_bo (f_X12_lampsOf (0 : Int32) m1) fun v2 => mi_b (f_X12_harmBy v2 m1) fun v3 m4 => some (v3, m4)
set_option maxRecDepth 100000 in
set_option maxHeartbeats 4000000 in
theorem w_X12_harm (mem : mi_M) (a : Int32 × mi_M) (e : f_X12_harm  mem = some a) : mi_Ci (4) mX12_harm [vr 12 0] mem (fun x m' => x = a.1 ∧ m' = a.2) := by
  unfold mi_Ci
  refine mi_C_intro (ls := [(0, vr 12 0)]) (by decide) rfl rfl ?_
  obtain ⟨Q0, hq0, h⟩ : ∃ Q0 : (Int32 × mi_M) → Prop, (∀ b, Q0 b → b = a) ∧ wo (f_X12_harm  mem) Q0 := ⟨fun b => b = a, fun _ h => h, wo_eq e⟩
  obtain ⟨QX, hQX⟩ : ∃ QX : Option mi_V → mi_M → Prop, QX = (fun r m' => ∃ x, r = some (vi x) ∧ x = a.1 ∧ m' = a.2) := ⟨_, rfl⟩
  rw [← hQX]
  unfold f_X12_harm at h
  refine x_aload_n (pc := 0) dX12_harm_0 rfl ?_
  refine x_iconst (pc := 1) dX12_harm_1 (v := (0 : Int32)) (by decide) ?_
  refine x_putI (pc := 2) dX12_harm_2 fX12_1 rfl (by decide) rfl rfl ?_
  refine x_letm h (fun m1 h => ?_)
  refine x_aload_n (pc := 5) dX12_harm_5 rfl ?_
  refine x_aload_n (pc := 6) dX12_harm_6 rfl ?_
  refine x_iconst (pc := 7) dX12_harm_7 (v := (0 : Int32)) (by decide) ?_
  refine z_Vi1 (pc := 8) h dX12_harm_8 lX12_353 (by decide) (by omega) rfl (fun a e => w_X12_lampsOf _ _ a e) (fun v2 h => ?_)
  refine y_Vi1 (pc := 11) h dX12_harm_11 lX12_356 (by decide) (by omega) rfl (fun a e => w_X12_harmBy _ _ a e) (fun v3 m4 h => ?_)
  exact x_iret (pc := 14) dX12_harm_14 rfl (by rw [hQX]; exact ⟨_, rfl, congrArg Prod.fst (hq0 _ (wo_some h)), congrArg Prod.snd (hq0 _ (wo_some h))⟩)
noncomputable def f_X12_isLit_J24 (m1 : mi_M) (u3 : Int32) : Option (Int32 × mi_M) := mi_g (u3 = 0 ∨ u3 = 1) (some (u3, m1))
noncomputable def f_X12_isLit (p0 : Int32) (p1 : Int32) (p2 : Int32) (mem : mi_M) : Option (Int32 × mi_M) := mi_bo (f_X12_laysWays p0 mem) fun m1 => mi_g (vp_in (((6 : Int32) * p1) + p2) 36) (if (m1.1 66 0 (((6 : Int32) * p1) + p2).toNatClampNeg) = 0 then f_X12_isLit_J24 m1 (1 : Int32) else f_X12_isLit_J24 m1 (0 : Int32))
set_option maxRecDepth 100000 in
set_option maxHeartbeats 4000000 in
theorem w_X12_isLit (p0 : Int32) (p1 : Int32) (p2 : Int32) (mem : mi_M) (a : Int32 × mi_M) (e : f_X12_isLit p0 p1 p2 mem = some a) : mi_Ci (3) mX12_isLit [vr 12 0, vi p0, vi p1, vi p2] mem (fun x m' => x = a.1 ∧ m' = a.2) := by
  unfold mi_Ci
  refine mi_C_intro (ls := [(0, vr 12 0), (1, vi p0), (2, vi p1), (3, vi p2)]) (by decide) rfl rfl ?_
  obtain ⟨Q0, hq0, h⟩ : ∃ Q0 : (Int32 × mi_M) → Prop, (∀ b, Q0 b → b = a) ∧ wo (f_X12_isLit p0 p1 p2 mem) Q0 := ⟨fun b => b = a, fun _ h => h, wo_eq e⟩
  obtain ⟨QX, hQX⟩ : ∃ QX : Option mi_V → mi_M → Prop, QX = (fun r m' => ∃ x, r = some (vi x) ∧ x = a.1 ∧ m' = a.2) := ⟨_, rfl⟩
  rw [← hQX]
  unfold f_X12_isLit at h
  refine x_aload_n (pc := 0) dX12_isLit_0 rfl ?_
  refine x_iload_n (pc := 1) dX12_isLit_1 rfl ?_
  refine y_Vv1 (pc := 2) h dX12_isLit_2 lX12_347 (by decide) (by omega) rfl (fun a e => w_X12_laysWays _ _ a e) (fun m1 h => ?_)
  refine x_aload_n (pc := 5) dX12_isLit_5 rfl ?_
  refine x_getS (pc := 6) dX12_isLit_6 fX12_120 rfl (by decide) ?_
  refine x_bipush (pc := 9) dX12_isLit_9 (v := (6 : Int32)) (by decide) ?_
  refine x_iload_n (pc := 11) dX12_isLit_11 rfl ?_
  refine x_imul (pc := 12) dX12_isLit_12 ?_
  refine x_iload_n (pc := 13) dX12_isLit_13 rfl ?_
  refine x_iadd (pc := 14) dX12_isLit_14 ?_
  obtain ⟨hx2, h⟩ := wo_g h
  refine x_ialdJ (pc := 15) dX12_isLit_15 rfl rfl (by decide) hx2 ?_
  have j24 : ∀ (u3 : Int32), wo (f_X12_isLit_J24 m1 u3) Q0 → mi_X mX12_isLit (3) 24 [] [vi u3] m1 QX := by
    intro u3 h
    unfold f_X12_isLit_J24 at h
    obtain ⟨hb4, h⟩ := wo_g h
    exact x_zretB (pc := 24) dX12_isLit_24 rfl hb4 (by rw [hQX]; exact ⟨_, rfl, congrArg Prod.fst (hq0 _ (wo_some h)), congrArg Prod.snd (hq0 _ (wo_some h))⟩)
  refine x_if_ne (pc := 16) dX12_isLit_16 (tgt := 23) (by decide) (fun c5 => ?_) (fun c5 => ?_)
  · replace h := wo_neg c5 h
    refine x_iconst (pc := 23) dX12_isLit_23 (v := (0 : Int32)) (by decide) ?_
    refine x_sub [] trivial ?_
    exact j24 _ h
  · replace h := wo_pos c5 h
    refine x_iconst (pc := 19) dX12_isLit_19 (v := (1 : Int32)) (by decide) ?_
    refine x_goto (pc := 20) dX12_isLit_20 (tgt := 24) (by decide) ?_
    refine x_sub [] trivial ?_
    exact j24 _ h
noncomputable def f_X12_isName_J35 (u1 : Int32) : Option (Int32) := mi_g (u1 = 0 ∨ u1 = 1) (some u1)
noncomputable def f_X12_isName_J34 : Option (Int32) := f_X12_isName_J35 (0 : Int32)
noncomputable def f_X12_isName (mem : mi_M) : Option (Int32) := if (mem.1 12 0 8) = 0 then mi_g (vp_in (mem.1 12 0 7) 1002) (if (mem.1 52 0 (mem.1 12 0 7).toNatClampNeg) = (1 : Int32) then mi_bo (f_X12_wordHere (0 : Int32) (23 : Int32) mem) fun v4 => if 0 ≤ v4 then f_X12_isName_J34 else f_X12_isName_J35 (1 : Int32) else f_X12_isName_J34) else f_X12_isName_J34
set_option maxRecDepth 100000 in
set_option maxHeartbeats 4000000 in
theorem w_X12_isName (mem : mi_M) (a : Int32) (e : f_X12_isName  mem = some a) : mi_Ci (3) mX12_isName [vr 12 0] mem (fun x m' => x = a ∧ m' = mem) := by
  unfold mi_Ci
  refine mi_C_intro (ls := [(0, vr 12 0)]) (by decide) rfl rfl ?_
  obtain ⟨Q0, hq0, h⟩ : ∃ Q0 : Int32 → Prop, (∀ b, Q0 b → b = a) ∧ wo (f_X12_isName  mem) Q0 := ⟨fun b => b = a, fun _ h => h, wo_eq e⟩
  obtain ⟨QX, hQX⟩ : ∃ QX : Option mi_V → mi_M → Prop, QX = (fun r m' => ∃ x, r = some (vi x) ∧ x = a ∧ m' = mem) := ⟨_, rfl⟩
  rw [← hQX]
  unfold f_X12_isName at h
  refine x_aload_n (pc := 0) dX12_isName_0 rfl ?_
  refine x_getI (pc := 1) dX12_isName_1 fX12_183 rfl (by decide) ?_
  have j35 : ∀ (u1 : Int32), wo (f_X12_isName_J35 u1) Q0 → mi_X mX12_isName (3) 35 [] [vi u1] mem QX := by
    intro u1 h
    unfold f_X12_isName_J35 at h
    obtain ⟨hb2, h⟩ := wo_g h
    exact x_zretB (pc := 35) dX12_isName_35 rfl hb2 (by rw [hQX]; exact ⟨_, rfl, hq0 _ (wo_some h), rfl⟩)
  have j34 : wo (f_X12_isName_J34) Q0 → mi_X mX12_isName (3) 34 [] [] mem QX := by
    intro h
    unfold f_X12_isName_J34 at h
    refine x_iconst (pc := 34) dX12_isName_34 (v := (0 : Int32)) (by decide) ?_
    refine x_sub [] trivial ?_
    exact j35 _ h
  refine x_if_ne (pc := 4) dX12_isName_4 (tgt := 34) (by decide) (fun c7 => ?_) (fun c7 => ?_)
  · replace h := wo_neg c7 h
    refine x_sub [] trivial ?_
    exact j34 h
  · replace h := wo_pos c7 h
    refine x_aload_n (pc := 7) dX12_isName_7 rfl ?_
    refine x_getS (pc := 8) dX12_isName_8 fX12_24 rfl (by decide) ?_
    refine x_aload_n (pc := 11) dX12_isName_11 rfl ?_
    refine x_getI (pc := 12) dX12_isName_12 fX12_180 rfl (by decide) ?_
    obtain ⟨hx3, h⟩ := wo_g h
    refine x_ialdJ (pc := 15) dX12_isName_15 rfl rfl (by decide) hx3 ?_
    refine x_iconst (pc := 16) dX12_isName_16 (v := (1 : Int32)) (by decide) ?_
    refine x_icmp_ne (pc := 17) dX12_isName_17 (tgt := 34) (by decide) (fun c6 => ?_) (fun c6 => ?_)
    · replace h := wo_neg c6 h
      refine x_sub [] trivial ?_
      exact j34 h
    · replace h := wo_pos c6 h
      refine x_aload_n (pc := 20) dX12_isName_20 rfl ?_
      refine x_iconst (pc := 21) dX12_isName_21 (v := (0 : Int32)) (by decide) ?_
      refine x_bipush (pc := 22) dX12_isName_22 (v := (23 : Int32)) (by decide) ?_
      refine z_Vi2 (pc := 24) h dX12_isName_24 lX12_205 (by decide) (by omega) rfl (fun a e => w_X12_wordHere _ _ _ a e) (fun v4 h => ?_)
      refine x_if_ge (pc := 27) dX12_isName_27 (tgt := 34) (by decide) (fun c5 => ?_) (fun c5 => ?_)
      · replace h := wo_pos c5 h
        refine x_sub [] trivial ?_
        exact j34 h
      · replace h := wo_neg c5 h
        refine x_iconst (pc := 30) dX12_isName_30 (v := (1 : Int32)) (by decide) ?_
        refine x_goto (pc := 31) dX12_isName_31 (tgt := 35) (by decide) ?_
        refine x_sub [] trivial ?_
        exact j35 _ h
noncomputable def f_X12_overMany_B4 (p0 : Int32) (mem : mi_M) : (Int32 × Int32) → Option ((Int32 × Int32) ⊕ (Int32)) := fun s => match s with | (l2, l3) => mi_bo (f_X12_wrongs mem) fun v4 => if v4 ≤ l3 then some (.inr l2) else mi_g (vp_in ((p0 + (22 : Int32)) + l3) 1449) (mi_let (l2 + (mem.1 64 0 ((p0 + (22 : Int32)) + l3).toNatClampNeg)) fun v6 => some (.inl (v6, (l3 + (1 : Int32)))))
noncomputable def f_X12_overMany_K4 : Int32 → Option (Int32) := fun e1 => some e1
noncomputable def f_X12_overMany (p0 : Int32) (mem : mi_M) : Option (Int32) := mi_bo (mi_lp (f_X12_overMany_B4 p0 mem) mi_fu ((0 : Int32), (0 : Int32))) (f_X12_overMany_K4)
set_option maxRecDepth 100000 in
set_option maxHeartbeats 4000000 in
theorem w_X12_overMany (p0 : Int32) (mem : mi_M) (a : Int32) (e : f_X12_overMany p0 mem = some a) : mi_Ci (2) mX12_overMany [vr 12 0, vi p0] mem (fun x m' => x = a ∧ m' = mem) := by
  unfold mi_Ci
  refine mi_C_intro (ls := [(0, vr 12 0), (1, vi p0)]) (by decide) rfl rfl ?_
  obtain ⟨Q0, hq0, h⟩ : ∃ Q0 : Int32 → Prop, (∀ b, Q0 b → b = a) ∧ wo (f_X12_overMany p0 mem) Q0 := ⟨fun b => b = a, fun _ h => h, wo_eq e⟩
  obtain ⟨QX, hQX⟩ : ∃ QX : Option mi_V → mi_M → Prop, QX = (fun r m' => ∃ x, r = some (vi x) ∧ x = a ∧ m' = mem) := ⟨_, rfl⟩
  rw [← hQX]
  unfold f_X12_overMany at h
  refine x_iconst (pc := 0) dX12_overMany_0 (v := (0 : Int32)) (by decide) ?_
  refine x_istore_n (ls' := [(2, _), (0, _), (1, _)]) (pc := 1) dX12_overMany_1 rfl rfl rfl ?_
  refine x_iconst (pc := 2) dX12_overMany_2 (v := (0 : Int32)) (by decide) ?_
  refine x_istore_n (ls' := [(3, _), (2, _), (0, _), (1, _)]) (pc := 3) dX12_overMany_3 rfl rfl rfl ?_
  have k4_0 : ∀ (e1 : Int32), wo (f_X12_overMany_K4 e1) Q0 → mi_X mX12_overMany (2) 32 [(2, vi e1)] [] mem QX := by
    intro e1 h
    unfold f_X12_overMany_K4 at h
    try dsimp only at h
    refine x_iload_n (pc := 32) dX12_overMany_32 rfl ?_
    exact x_iret (pc := 33) dX12_overMany_33 rfl (by rw [hQX]; exact ⟨_, rfl, hq0 _ (wo_some h), rfl⟩)
  refine x_sub [(0, _), (1, _), (2, _), (3, _)] ⟨rfl, rfl, rfl, rfl, trivial⟩ ?_
  obtain ⟨ea, eb, h⟩ := wo_bo h
  refine wo_lq (X := fun s => match s with | (l2, l3) => mi_X mX12_overMany (2) 4 [(0, vr 12 0), (1, vi p0), (2, vi l2), (3, vi l3)] [] mem QX) (E := fun e => wo (f_X12_overMany_K4 e) Q0) ?_ _ ((0 : Int32), (0 : Int32)) ⟨_, eb, h⟩
  intro Q4 hb4 he4 s h
  obtain ⟨l2, l3⟩ := s
  show mi_X mX12_overMany (2) 4 [(0, vr 12 0), (1, vi p0), (2, vi l2), (3, vi l3)] [] mem QX
  unfold f_X12_overMany_B4 at h
  try dsimp only at h
  refine x_iload_n (pc := 4) dX12_overMany_4 rfl ?_
  refine x_aload_n (pc := 5) dX12_overMany_5 rfl ?_
  refine z_Vi0 (pc := 6) h dX12_overMany_6 lX12_273 (by decide) (by omega) rfl (fun a e => w_X12_wrongs _ a e) (fun v4 h => ?_)
  refine x_icmp_ge (pc := 9) dX12_overMany_9 (tgt := 32) (by decide) (fun c7 => ?_) (fun c7 => ?_)
  · replace h := wo_pos c7 h
    refine x_sub [(2, _)] ⟨rfl, trivial⟩ ?_
    exact k4_0 _ (he4 l2 (wo_some h))
  · replace h := wo_neg c7 h
    refine x_iload_n (pc := 12) dX12_overMany_12 rfl ?_
    refine x_aload_n (pc := 13) dX12_overMany_13 rfl ?_
    refine x_getS (pc := 14) dX12_overMany_14 fX12_113 rfl (by decide) ?_
    refine x_iload_n (pc := 17) dX12_overMany_17 rfl ?_
    refine x_bipush (pc := 18) dX12_overMany_18 (v := (22 : Int32)) (by decide) ?_
    refine x_iadd (pc := 20) dX12_overMany_20 ?_
    refine x_iload_n (pc := 21) dX12_overMany_21 rfl ?_
    refine x_iadd (pc := 22) dX12_overMany_22 ?_
    obtain ⟨hx5, h⟩ := wo_g h
    refine x_ialdJ (pc := 23) dX12_overMany_23 rfl rfl (by decide) hx5 ?_
    refine x_iadd (pc := 24) dX12_overMany_24 ?_
    refine x_leti h (fun v6 h => ?_)
    refine x_istore_n (ls' := [(2, _), (0, _), (1, _), (3, _)]) (pc := 25) dX12_overMany_25 rfl rfl rfl ?_
    refine x_iinc (ls' := [(3, _), (2, _), (0, _), (1, _)]) (pc := 26) dX12_overMany_26 rfl (v := l3 + (1 : Int32)) rfl rfl rfl ?_
    refine x_goto (pc := 29) dX12_overMany_29 (tgt := 4) (by decide) ?_
    refine x_sub [(0, _), (1, _), (2, _), (3, _)] ⟨rfl, rfl, rfl, rfl, trivial⟩ ?_
    exact hb4 (v6, (l3 + (1 : Int32))) (wo_some h)
noncomputable def f_X12_judged_J126 (m5 : mi_M) (u6 : Int32) : Option (Int32 × mi_M) := some (u6, m5)
noncomputable def f_X12_judged_J88 (l12 : Int32) (m19 : mi_M) (u20 : Int32) : Option ((Int32 × Int32 × mi_M) ⊕ (Int32 × mi_M)) := some (.inl (u20, (l12 + (1 : Int32)), m19))
noncomputable def f_X12_judged_J87 (l11 : Int32) (l12 : Int32) (m19 : mi_M) : Option ((Int32 × Int32 × mi_M) ⊕ (Int32 × mi_M)) := f_X12_judged_J88 l12 m19 l11
noncomputable def f_X12_judged_B28 : (Int32 × Int32 × mi_M) → Option ((Int32 × Int32 × mi_M) ⊕ (Int32 × mi_M)) := fun s => match s with | (l11, l12, m13) => mi_g (vp_in (0 : Int32) 200) (if (m13.1 61 0 (0 : Int32).toNatClampNeg) ≤ l12 then some (.inr (l11, m13)) else mi_g (vp_in ((1 : Int32) + ((3 : Int32) * l12)) 200) (mi_g (vp_in ((2 : Int32) + ((3 : Int32) * l12)) 200) (mi_g (vp_in ((3 : Int32) + ((3 : Int32) * l12)) 200) (mi_b (f_X12_does (m13.1 61 0 ((1 : Int32) + ((3 : Int32) * l12)).toNatClampNeg) (m13.1 61 0 ((2 : Int32) + ((3 : Int32) * l12)).toNatClampNeg) (m13.1 61 0 ((3 : Int32) + ((3 : Int32) * l12)).toNatClampNeg) m13) fun v18 m19 => if v18 = 0 then if 0 ≤ l11 then f_X12_judged_J87 l11 l12 m19 else f_X12_judged_J88 l12 m19 l12 else f_X12_judged_J87 l11 l12 m19))))
noncomputable def f_X12_judged_K28 (p0 : Int32) : (Int32 × mi_M) → Option (Int32 × mi_M) := fun e => match e with | (e4, m5) => if p0 = 0 then f_X12_judged_J126 m5 e4 else if p0 = (1 : Int32) then mi_bo (f_X12_overMany (1323 : Int32) m5) fun v8 => f_X12_judged_J126 m5 v8 else mi_g (vp_in (1324 : Int32) 1449) (f_X12_judged_J126 m5 (m5.1 64 0 (1324 : Int32).toNatClampNeg))
noncomputable def f_X12_judged (p0 : Int32) (mem : mi_M) : Option (Int32 × mi_M) := mi_let (mi_wI mem 12 0 0 (0 : Int32)) fun m1 => mi_bo (f_X12_within p0 (0 : Int32) (2 : Int32) m1) fun v2 => if v2 = 0 then some ((-2 : Int32), m1) else mi_bo (f_X12_starts (1323 : Int32) m1) fun m3 => mi_bo (mi_lp (f_X12_judged_B28) mi_fu ((-1 : Int32), (0 : Int32), m3)) (f_X12_judged_K28 p0)
set_option maxRecDepth 100000 in
set_option maxHeartbeats 4000000 in
theorem w_X12_judged (p0 : Int32) (mem : mi_M) (a : Int32 × mi_M) (e : f_X12_judged p0 mem = some a) : mi_Ci (7) mX12_judged [vr 12 0, vi p0] mem (fun x m' => x = a.1 ∧ m' = a.2) := by
  unfold mi_Ci
  refine mi_C_intro (ls := [(0, vr 12 0), (1, vi p0)]) (by decide) rfl rfl ?_
  obtain ⟨Q0, hq0, h⟩ : ∃ Q0 : (Int32 × mi_M) → Prop, (∀ b, Q0 b → b = a) ∧ wo (f_X12_judged p0 mem) Q0 := ⟨fun b => b = a, fun _ h => h, wo_eq e⟩
  obtain ⟨QX, hQX⟩ : ∃ QX : Option mi_V → mi_M → Prop, QX = (fun r m' => ∃ x, r = some (vi x) ∧ x = a.1 ∧ m' = a.2) := ⟨_, rfl⟩
  rw [← hQX]
  unfold f_X12_judged at h
  refine x_aload_n (pc := 0) dX12_judged_0 rfl ?_
  refine x_iconst (pc := 1) dX12_judged_1 (v := (0 : Int32)) (by decide) ?_
  refine x_putI (pc := 2) dX12_judged_2 fX12_1 rfl (by decide) rfl rfl ?_
  refine x_letm h (fun m1 h => ?_)
  refine x_iload_n (pc := 5) dX12_judged_5 rfl ?_
  refine x_iconst (pc := 6) dX12_judged_6 (v := (0 : Int32)) (by decide) ?_
  refine x_iconst (pc := 7) dX12_judged_7 (v := (2 : Int32)) (by decide) ?_
  refine z_Si3 (pc := 8) h dX12_judged_8 lX12_362 (by omega) rfl (fun a e => w_X12_within _ _ _ _ a e) (fun v2 h => ?_)
  refine x_if_ne (pc := 11) dX12_judged_11 (tgt := 17) (by decide) (fun c24 => ?_) (fun c24 => ?_)
  · replace h := wo_neg c24 h
    refine x_aload_n (pc := 17) dX12_judged_17 rfl ?_
    refine x_sipush (pc := 18) dX12_judged_18 (v := (1323 : Int32)) (by decide) ?_
    refine y_Vv1 (pc := 21) h dX12_judged_21 lX12_303 (by decide) (by omega) rfl (fun a e => w_X12_starts _ _ a e) (fun m3 h => ?_)
    refine x_iconst (pc := 24) dX12_judged_24 (v := (-1 : Int32)) (by decide) ?_
    refine x_istore_n (ls' := [(2, _), (0, _), (1, _)]) (pc := 25) dX12_judged_25 rfl rfl rfl ?_
    refine x_iconst (pc := 26) dX12_judged_26 (v := (0 : Int32)) (by decide) ?_
    refine x_istore_n (ls' := [(3, _), (2, _), (0, _), (1, _)]) (pc := 27) dX12_judged_27 rfl rfl rfl ?_
    have k28_0 : ∀ (e4 : Int32) (m5 : mi_M), wo (f_X12_judged_K28 p0 (e4, m5)) Q0 → mi_X mX12_judged (7) 95 [(0, vr 12 0), (1, vi p0), (2, vi e4)] [] m5 QX := by
      intro e4 m5 h
      unfold f_X12_judged_K28 at h
      try dsimp only at h
      refine x_iload_n (pc := 95) dX12_judged_95 rfl ?_
      have j126 : ∀ (u6 : Int32), wo (f_X12_judged_J126 m5 u6) Q0 → mi_X mX12_judged (7) 126 [] [vi u6] m5 QX := by
        intro u6 h
        unfold f_X12_judged_J126 at h
        exact x_iret (pc := 126) dX12_judged_126 rfl (by rw [hQX]; exact ⟨_, rfl, congrArg Prod.fst (hq0 _ (wo_some h)), congrArg Prod.snd (hq0 _ (wo_some h))⟩)
      refine x_if_ne (pc := 96) dX12_judged_96 (tgt := 103) (by decide) (fun c10 => ?_) (fun c10 => ?_)
      · replace h := wo_neg c10 h
        refine x_iload_n (pc := 103) dX12_judged_103 rfl ?_
        refine x_iconst (pc := 104) dX12_judged_104 (v := (1 : Int32)) (by decide) ?_
        refine x_icmp_ne (pc := 105) dX12_judged_105 (tgt := 118) (by decide) (fun c9 => ?_) (fun c9 => ?_)
        · replace h := wo_neg c9 h
          refine x_aload_n (pc := 118) dX12_judged_118 rfl ?_
          refine x_getS (pc := 119) dX12_judged_119 fX12_113 rfl (by decide) ?_
          refine x_sipush (pc := 122) dX12_judged_122 (v := (1324 : Int32)) (by decide) ?_
          obtain ⟨hx7, h⟩ := wo_g h
          refine x_ialdJ (pc := 125) dX12_judged_125 rfl rfl (by decide) hx7 ?_
          refine x_sub [] trivial ?_
          exact j126 _ h
        · replace h := wo_pos c9 h
          refine x_aload_n (pc := 108) dX12_judged_108 rfl ?_
          refine x_sipush (pc := 109) dX12_judged_109 (v := (1323 : Int32)) (by decide) ?_
          refine z_Vi1 (pc := 112) h dX12_judged_112 lX12_392 (by decide) (by omega) rfl (fun a e => w_X12_overMany _ _ a e) (fun v8 h => ?_)
          refine x_goto (pc := 115) dX12_judged_115 (tgt := 126) (by decide) ?_
          refine x_sub [] trivial ?_
          exact j126 _ h
      · replace h := wo_pos c10 h
        refine x_iload_n (pc := 99) dX12_judged_99 rfl ?_
        refine x_goto (pc := 100) dX12_judged_100 (tgt := 126) (by decide) ?_
        refine x_sub [] trivial ?_
        exact j126 _ h
    refine x_sub [(0, _), (1, _), (2, _), (3, _)] ⟨rfl, rfl, rfl, rfl, trivial⟩ ?_
    obtain ⟨ea, eb, h⟩ := wo_bo h
    refine wo_lq (X := fun s => match s with | (l11, l12, m13) => mi_X mX12_judged (7) 28 [(0, vr 12 0), (1, vi p0), (2, vi l11), (3, vi l12)] [] m13 QX) (E := fun e => wo (f_X12_judged_K28 p0 e) Q0) ?_ _ ((-1 : Int32), (0 : Int32), m3) ⟨_, eb, h⟩
    intro Q28 hb28 he28 s h
    obtain ⟨l11, l12, m13⟩ := s
    show mi_X mX12_judged (7) 28 [(0, vr 12 0), (1, vi p0), (2, vi l11), (3, vi l12)] [] m13 QX
    unfold f_X12_judged_B28 at h
    try dsimp only at h
    refine x_iload_n (pc := 28) dX12_judged_28 rfl ?_
    refine x_aload_n (pc := 29) dX12_judged_29 rfl ?_
    refine x_getS (pc := 30) dX12_judged_30 fX12_104 rfl (by decide) ?_
    refine x_iconst (pc := 33) dX12_judged_33 (v := (0 : Int32)) (by decide) ?_
    obtain ⟨hx14, h⟩ := wo_g h
    refine x_ialdJ (pc := 34) dX12_judged_34 rfl rfl (by decide) hx14 ?_
    refine x_icmp_ge (pc := 35) dX12_judged_35 (tgt := 95) (by decide) (fun c23 => ?_) (fun c23 => ?_)
    · replace h := wo_pos c23 h
      refine x_sub [(0, _), (1, _), (2, _)] ⟨rfl, rfl, rfl, trivial⟩ ?_
      exact k28_0 _ _ (he28 (l11, m13) (wo_some h))
    · replace h := wo_neg c23 h
      refine x_aload_n (pc := 38) dX12_judged_38 rfl ?_
      refine x_aload_n (pc := 39) dX12_judged_39 rfl ?_
      refine x_getS (pc := 40) dX12_judged_40 fX12_104 rfl (by decide) ?_
      refine x_iconst (pc := 43) dX12_judged_43 (v := (1 : Int32)) (by decide) ?_
      refine x_iconst (pc := 44) dX12_judged_44 (v := (3 : Int32)) (by decide) ?_
      refine x_iload_n (pc := 45) dX12_judged_45 rfl ?_
      refine x_imul (pc := 46) dX12_judged_46 ?_
      refine x_iadd (pc := 47) dX12_judged_47 ?_
      obtain ⟨hx15, h⟩ := wo_g h
      refine x_ialdJ (pc := 48) dX12_judged_48 rfl rfl (by decide) hx15 ?_
      refine x_aload_n (pc := 49) dX12_judged_49 rfl ?_
      refine x_getS (pc := 50) dX12_judged_50 fX12_104 rfl (by decide) ?_
      refine x_iconst (pc := 53) dX12_judged_53 (v := (2 : Int32)) (by decide) ?_
      refine x_iconst (pc := 54) dX12_judged_54 (v := (3 : Int32)) (by decide) ?_
      refine x_iload_n (pc := 55) dX12_judged_55 rfl ?_
      refine x_imul (pc := 56) dX12_judged_56 ?_
      refine x_iadd (pc := 57) dX12_judged_57 ?_
      obtain ⟨hx16, h⟩ := wo_g h
      refine x_ialdJ (pc := 58) dX12_judged_58 rfl rfl (by decide) hx16 ?_
      refine x_aload_n (pc := 59) dX12_judged_59 rfl ?_
      refine x_getS (pc := 60) dX12_judged_60 fX12_104 rfl (by decide) ?_
      refine x_iconst (pc := 63) dX12_judged_63 (v := (3 : Int32)) (by decide) ?_
      refine x_iconst (pc := 64) dX12_judged_64 (v := (3 : Int32)) (by decide) ?_
      refine x_iload_n (pc := 65) dX12_judged_65 rfl ?_
      refine x_imul (pc := 66) dX12_judged_66 ?_
      refine x_iadd (pc := 67) dX12_judged_67 ?_
      obtain ⟨hx17, h⟩ := wo_g h
      refine x_ialdJ (pc := 68) dX12_judged_68 rfl rfl (by decide) hx17 ?_
      refine y_Vi3 (pc := 69) h dX12_judged_69 lX12_389 (by decide) (by omega) rfl (fun a e => w_X12_does _ _ _ _ a e) (fun v18 m19 h => ?_)
      refine x_istore (ls' := [(4, _), (0, _), (1, _), (2, _), (3, _)]) (pc := 72) dX12_judged_72 rfl rfl ?_
      refine x_iload (pc := 74) dX12_judged_74 rfl ?_
      have j88 : ∀ (u20 : Int32), wo (f_X12_judged_J88 l12 m19 u20) Q28 → mi_X mX12_judged (7) 88 [(0, vr 12 0), (1, vi p0), (3, vi l12)] [vi u20] m19 QX := by
        intro u20 h
        unfold f_X12_judged_J88 at h
        refine x_istore_n (ls' := [(2, _), (0, _), (1, _), (3, _)]) (pc := 88) dX12_judged_88 rfl rfl rfl ?_
        refine x_iinc (ls' := [(3, _), (2, _), (0, _), (1, _)]) (pc := 89) dX12_judged_89 rfl (v := l12 + (1 : Int32)) rfl rfl rfl ?_
        refine x_goto (pc := 92) dX12_judged_92 (tgt := 28) (by decide) ?_
        refine x_sub [(0, _), (1, _), (2, _), (3, _)] ⟨rfl, rfl, rfl, rfl, trivial⟩ ?_
        exact hb28 (u20, (l12 + (1 : Int32)), m19) (wo_some h)
      have j87 : wo (f_X12_judged_J87 l11 l12 m19) Q28 → mi_X mX12_judged (7) 87 [(0, vr 12 0), (1, vi p0), (2, vi l11), (3, vi l12)] [] m19 QX := by
        intro h
        unfold f_X12_judged_J87 at h
        refine x_iload_n (pc := 87) dX12_judged_87 rfl ?_
        refine x_sub [(0, _), (1, _), (3, _)] ⟨rfl, rfl, rfl, trivial⟩ ?_
        exact j88 _ h
      refine x_if_ne (pc := 76) dX12_judged_76 (tgt := 87) (by decide) (fun c22 => ?_) (fun c22 => ?_)
      · replace h := wo_neg c22 h
        refine x_sub [(0, _), (1, _), (2, _), (3, _)] ⟨rfl, rfl, rfl, rfl, trivial⟩ ?_
        exact j87 h
      · replace h := wo_pos c22 h
        refine x_iload_n (pc := 79) dX12_judged_79 rfl ?_
        refine x_if_ge (pc := 80) dX12_judged_80 (tgt := 87) (by decide) (fun c21 => ?_) (fun c21 => ?_)
        · replace h := wo_pos c21 h
          refine x_sub [(0, _), (1, _), (2, _), (3, _)] ⟨rfl, rfl, rfl, rfl, trivial⟩ ?_
          exact j87 h
        · replace h := wo_neg c21 h
          refine x_iload_n (pc := 83) dX12_judged_83 rfl ?_
          refine x_goto (pc := 84) dX12_judged_84 (tgt := 88) (by decide) ?_
          refine x_sub [(0, _), (1, _), (3, _)] ⟨rfl, rfl, rfl, trivial⟩ ?_
          exact j88 _ h
  · replace h := wo_pos c24 h
    refine x_bipush (pc := 14) dX12_judged_14 (v := (-2 : Int32)) (by decide) ?_
    exact x_iret (pc := 16) dX12_judged_16 rfl (by rw [hQX]; exact ⟨_, rfl, congrArg Prod.fst (hq0 _ (wo_some h)), congrArg Prod.snd (hq0 _ (wo_some h))⟩)
noncomputable def f_X12_lamps (mem : mi_M) : Option (Int32 × mi_M) := mi_let (mi_wI mem 12 0 0 (0 : Int32)) fun m1 => mi_bo (f_X12_lampsOf (0 : Int32) m1) fun v2 => some (v2, m1)
set_option maxRecDepth 100000 in
set_option maxHeartbeats 4000000 in
theorem w_X12_lamps (mem : mi_M) (a : Int32 × mi_M) (e : f_X12_lamps  mem = some a) : mi_Ci (3) mX12_lamps [vr 12 0] mem (fun x m' => x = a.1 ∧ m' = a.2) := by
  unfold mi_Ci
  refine mi_C_intro (ls := [(0, vr 12 0)]) (by decide) rfl rfl ?_
  obtain ⟨Q0, hq0, h⟩ : ∃ Q0 : (Int32 × mi_M) → Prop, (∀ b, Q0 b → b = a) ∧ wo (f_X12_lamps  mem) Q0 := ⟨fun b => b = a, fun _ h => h, wo_eq e⟩
  obtain ⟨QX, hQX⟩ : ∃ QX : Option mi_V → mi_M → Prop, QX = (fun r m' => ∃ x, r = some (vi x) ∧ x = a.1 ∧ m' = a.2) := ⟨_, rfl⟩
  rw [← hQX]
  unfold f_X12_lamps at h
  refine x_aload_n (pc := 0) dX12_lamps_0 rfl ?_
  refine x_iconst (pc := 1) dX12_lamps_1 (v := (0 : Int32)) (by decide) ?_
  refine x_putI (pc := 2) dX12_lamps_2 fX12_1 rfl (by decide) rfl rfl ?_
  refine x_letm h (fun m1 h => ?_)
  refine x_aload_n (pc := 5) dX12_lamps_5 rfl ?_
  refine x_iconst (pc := 6) dX12_lamps_6 (v := (0 : Int32)) (by decide) ?_
  refine z_Vi1 (pc := 7) h dX12_lamps_7 lX12_353 (by decide) (by omega) rfl (fun a e => w_X12_lampsOf _ _ a e) (fun v2 h => ?_)
  exact x_iret (pc := 10) dX12_lamps_10 rfl (by rw [hQX]; exact ⟨_, rfl, congrArg Prod.fst (hq0 _ (wo_some h)), congrArg Prod.snd (hq0 _ (wo_some h))⟩)
noncomputable def f_X12_lampsBehind_J32 (l2 : Int32) (l3 : Int32) (u6 : Int32) : Option ((Int32 × Int32) ⊕ (Int32)) := mi_let (l2 ||| u6) fun v7 => some (.inl (v7, (l3 + (1 : Int32))))
noncomputable def f_X12_lampsBehind_B4 (p0 : Int32) (mem : mi_M) : (Int32 × Int32) → Option ((Int32 × Int32) ⊕ (Int32)) := fun s => match s with | (l2, l3) => mi_bo (f_X12_people mem) fun v4 => if v4 ≤ l3 then some (.inr l2) else mi_g (vp_in ((2 : Int32) + l3) 1449) (if (mem.1 64 0 ((2 : Int32) + l3).toNatClampNeg) ≤ p0 then f_X12_lampsBehind_J32 l2 l3 (0 : Int32) else f_X12_lampsBehind_J32 l2 l3 ((1 : Int32) <<< (l3 &&& 31)))
noncomputable def f_X12_lampsBehind_K4 : Int32 → Option (Int32) := fun e1 => some e1
noncomputable def f_X12_lampsBehind (p0 : Int32) (mem : mi_M) : Option (Int32) := mi_bo (mi_lp (f_X12_lampsBehind_B4 p0 mem) mi_fu ((0 : Int32), (0 : Int32))) (f_X12_lampsBehind_K4)
set_option maxRecDepth 100000 in
set_option maxHeartbeats 4000000 in
theorem w_X12_lampsBehind (p0 : Int32) (mem : mi_M) (a : Int32) (e : f_X12_lampsBehind p0 mem = some a) : mi_Ci (2) mX12_lampsBehind [vr 12 0, vi p0] mem (fun x m' => x = a ∧ m' = mem) := by
  unfold mi_Ci
  refine mi_C_intro (ls := [(0, vr 12 0), (1, vi p0)]) (by decide) rfl rfl ?_
  obtain ⟨Q0, hq0, h⟩ : ∃ Q0 : Int32 → Prop, (∀ b, Q0 b → b = a) ∧ wo (f_X12_lampsBehind p0 mem) Q0 := ⟨fun b => b = a, fun _ h => h, wo_eq e⟩
  obtain ⟨QX, hQX⟩ : ∃ QX : Option mi_V → mi_M → Prop, QX = (fun r m' => ∃ x, r = some (vi x) ∧ x = a ∧ m' = mem) := ⟨_, rfl⟩
  rw [← hQX]
  unfold f_X12_lampsBehind at h
  refine x_iconst (pc := 0) dX12_lampsBehind_0 (v := (0 : Int32)) (by decide) ?_
  refine x_istore_n (ls' := [(2, _), (0, _), (1, _)]) (pc := 1) dX12_lampsBehind_1 rfl rfl rfl ?_
  refine x_iconst (pc := 2) dX12_lampsBehind_2 (v := (0 : Int32)) (by decide) ?_
  refine x_istore_n (ls' := [(3, _), (2, _), (0, _), (1, _)]) (pc := 3) dX12_lampsBehind_3 rfl rfl rfl ?_
  have k4_0 : ∀ (e1 : Int32), wo (f_X12_lampsBehind_K4 e1) Q0 → mi_X mX12_lampsBehind (2) 40 [(2, vi e1)] [] mem QX := by
    intro e1 h
    unfold f_X12_lampsBehind_K4 at h
    try dsimp only at h
    refine x_iload_n (pc := 40) dX12_lampsBehind_40 rfl ?_
    exact x_iret (pc := 41) dX12_lampsBehind_41 rfl (by rw [hQX]; exact ⟨_, rfl, hq0 _ (wo_some h), rfl⟩)
  refine x_sub [(0, _), (1, _), (2, _), (3, _)] ⟨rfl, rfl, rfl, rfl, trivial⟩ ?_
  obtain ⟨ea, eb, h⟩ := wo_bo h
  refine wo_lq (X := fun s => match s with | (l2, l3) => mi_X mX12_lampsBehind (2) 4 [(0, vr 12 0), (1, vi p0), (2, vi l2), (3, vi l3)] [] mem QX) (E := fun e => wo (f_X12_lampsBehind_K4 e) Q0) ?_ _ ((0 : Int32), (0 : Int32)) ⟨_, eb, h⟩
  intro Q4 hb4 he4 s h
  obtain ⟨l2, l3⟩ := s
  show mi_X mX12_lampsBehind (2) 4 [(0, vr 12 0), (1, vi p0), (2, vi l2), (3, vi l3)] [] mem QX
  unfold f_X12_lampsBehind_B4 at h
  try dsimp only at h
  refine x_iload_n (pc := 4) dX12_lampsBehind_4 rfl ?_
  refine x_aload_n (pc := 5) dX12_lampsBehind_5 rfl ?_
  refine z_Vi0 (pc := 6) h dX12_lampsBehind_6 lX12_294 (by decide) (by omega) rfl (fun a e => w_X12_people _ a e) (fun v4 h => ?_)
  refine x_icmp_ge (pc := 9) dX12_lampsBehind_9 (tgt := 40) (by decide) (fun c9 => ?_) (fun c9 => ?_)
  · replace h := wo_pos c9 h
    refine x_sub [(2, _)] ⟨rfl, trivial⟩ ?_
    exact k4_0 _ (he4 l2 (wo_some h))
  · replace h := wo_neg c9 h
    refine x_iload_n (pc := 12) dX12_lampsBehind_12 rfl ?_
    refine x_aload_n (pc := 13) dX12_lampsBehind_13 rfl ?_
    refine x_getS (pc := 14) dX12_lampsBehind_14 fX12_113 rfl (by decide) ?_
    refine x_iconst (pc := 17) dX12_lampsBehind_17 (v := (2 : Int32)) (by decide) ?_
    refine x_iload_n (pc := 18) dX12_lampsBehind_18 rfl ?_
    refine x_iadd (pc := 19) dX12_lampsBehind_19 ?_
    obtain ⟨hx5, h⟩ := wo_g h
    refine x_ialdJ (pc := 20) dX12_lampsBehind_20 rfl rfl (by decide) hx5 ?_
    refine x_iload_n (pc := 21) dX12_lampsBehind_21 rfl ?_
    have j32 : ∀ (u6 : Int32), wo (f_X12_lampsBehind_J32 l2 l3 u6) Q4 → mi_X mX12_lampsBehind (2) 32 [(0, vr 12 0), (1, vi p0), (3, vi l3)] [vi u6, vi l2] mem QX := by
      intro u6 h
      unfold f_X12_lampsBehind_J32 at h
      refine x_ior (pc := 32) dX12_lampsBehind_32 ?_
      refine x_leti h (fun v7 h => ?_)
      refine x_istore_n (ls' := [(2, _), (0, _), (1, _), (3, _)]) (pc := 33) dX12_lampsBehind_33 rfl rfl rfl ?_
      refine x_iinc (ls' := [(3, _), (2, _), (0, _), (1, _)]) (pc := 34) dX12_lampsBehind_34 rfl (v := l3 + (1 : Int32)) rfl rfl rfl ?_
      refine x_goto (pc := 37) dX12_lampsBehind_37 (tgt := 4) (by decide) ?_
      refine x_sub [(0, _), (1, _), (2, _), (3, _)] ⟨rfl, rfl, rfl, rfl, trivial⟩ ?_
      exact hb4 (v7, (l3 + (1 : Int32))) (wo_some h)
    refine x_icmp_le (pc := 22) dX12_lampsBehind_22 (tgt := 31) (by decide) (fun c8 => ?_) (fun c8 => ?_)
    · replace h := wo_pos c8 h
      refine x_iconst (pc := 31) dX12_lampsBehind_31 (v := (0 : Int32)) (by decide) ?_
      refine x_sub [(0, _), (1, _), (3, _)] ⟨rfl, rfl, rfl, trivial⟩ ?_
      exact j32 _ h
    · replace h := wo_neg c8 h
      refine x_iconst (pc := 25) dX12_lampsBehind_25 (v := (1 : Int32)) (by decide) ?_
      refine x_iload_n (pc := 26) dX12_lampsBehind_26 rfl ?_
      refine x_ishl (pc := 27) dX12_lampsBehind_27 ?_
      refine x_goto (pc := 28) dX12_lampsBehind_28 (tgt := 32) (by decide) ?_
      refine x_sub [(0, _), (1, _), (3, _)] ⟨rfl, rfl, rfl, trivial⟩ ?_
      exact j32 _ h
noncomputable def f_X12_lampsWith_J102 (l4 : Int32) (l5 : Int32) (m12 : mi_M) (u13 : Int32) : Option ((Int32 × Int32 × mi_M) ⊕ (Int32 × mi_M)) := mi_let (l4 ||| u13) fun v14 => some (.inl (v14, (l5 + (1 : Int32)), m12))
noncomputable def f_X12_lampsWith_J82 (l4 : Int32) (l5 : Int32) (u11 : Int32) (m12 : mi_M) : Option ((Int32 × Int32 × mi_M) ⊕ (Int32 × mi_M)) := if u11 = 0 then f_X12_lampsWith_J102 l4 l5 m12 (0 : Int32) else mi_bo (f_X12_wrongOf l5 (1 : Int32) m12) fun v15 => f_X12_lampsWith_J102 l4 l5 m12 ((1 : Int32) <<< (v15 &&& 31))
noncomputable def f_X12_lampsWith_J81 (l4 : Int32) (l5 : Int32) (m17 : mi_M) : Option ((Int32 × Int32 × mi_M) ⊕ (Int32 × mi_M)) := f_X12_lampsWith_J82 l4 l5 (0 : Int32) m17
noncomputable def f_X12_lampsWith_J50 (p0 : Int32) (l4 : Int32) (l5 : Int32) (m6 : mi_M) (u10 : Int32) : Option ((Int32 × Int32 × mi_M) ⊕ (Int32 × mi_M)) := if ((p0 >>> (l5 &&& 31)) &&& (1 : Int32)) = (1 : Int32) then mi_g (vp_in (0 : Int32) 1449) (mi_b (f_X12_burnOf l5 u10 (m6.1 64 0 (0 : Int32).toNatClampNeg) m6) fun v19 m20 => if v19 ≤ 0 then f_X12_lampsWith_J81 l4 l5 m20 else f_X12_lampsWith_J82 l4 l5 (1 : Int32) m20) else f_X12_lampsWith_J81 l4 l5 m6
noncomputable def f_X12_lampsWith_B8 (p0 : Int32) : (Int32 × Int32 × mi_M) → Option ((Int32 × Int32 × mi_M) ⊕ (Int32 × mi_M)) := fun s => match s with | (l4, l5, m6) => mi_bo (f_X12_wrongs m6) fun v7 => if v7 ≤ l5 then some (.inr (l4, m6)) else mi_g (vp_in ((14 : Int32) + l5) 1449) (mi_bo (f_X12_barOf l5 m6) fun v9 => if v9 ≤ (m6.1 64 0 ((14 : Int32) + l5).toNatClampNeg) then mi_bo (f_X12_barOf l5 m6) fun v23 => f_X12_lampsWith_J50 p0 l4 l5 m6 v23 else mi_g (vp_in ((14 : Int32) + l5) 1449) (f_X12_lampsWith_J50 p0 l4 l5 m6 (m6.1 64 0 ((14 : Int32) + l5).toNatClampNeg)))
noncomputable def f_X12_lampsWith_K8 : (Int32 × mi_M) → Option (Int32 × mi_M) := fun e => match e with | (e2, m3) => some (e2, m3)
noncomputable def f_X12_lampsWith (p0 : Int32) (mem : mi_M) : Option (Int32 × mi_M) := mi_bo (f_X12_lampsOf (0 : Int32) mem) fun v1 => mi_bo (mi_lp (f_X12_lampsWith_B8 p0) mi_fu (v1, (0 : Int32), mem)) (f_X12_lampsWith_K8)
set_option maxRecDepth 100000 in
set_option maxHeartbeats 4000000 in
theorem w_X12_lampsWith (p0 : Int32) (mem : mi_M) (a : Int32 × mi_M) (e : f_X12_lampsWith p0 mem = some a) : mi_Ci (5) mX12_lampsWith [vr 12 0, vi p0] mem (fun x m' => x = a.1 ∧ m' = a.2) := by
  unfold mi_Ci
  refine mi_C_intro (ls := [(0, vr 12 0), (1, vi p0)]) (by decide) rfl rfl ?_
  obtain ⟨Q0, hq0, h⟩ : ∃ Q0 : (Int32 × mi_M) → Prop, (∀ b, Q0 b → b = a) ∧ wo (f_X12_lampsWith p0 mem) Q0 := ⟨fun b => b = a, fun _ h => h, wo_eq e⟩
  obtain ⟨QX, hQX⟩ : ∃ QX : Option mi_V → mi_M → Prop, QX = (fun r m' => ∃ x, r = some (vi x) ∧ x = a.1 ∧ m' = a.2) := ⟨_, rfl⟩
  rw [← hQX]
  unfold f_X12_lampsWith at h
  refine x_aload_n (pc := 0) dX12_lampsWith_0 rfl ?_
  refine x_iconst (pc := 1) dX12_lampsWith_1 (v := (0 : Int32)) (by decide) ?_
  refine z_Vi1 (pc := 2) h dX12_lampsWith_2 lX12_353 (by decide) (by omega) rfl (fun a e => w_X12_lampsOf _ _ a e) (fun v1 h => ?_)
  refine x_istore_n (ls' := [(2, _), (0, _), (1, _)]) (pc := 5) dX12_lampsWith_5 rfl rfl rfl ?_
  refine x_iconst (pc := 6) dX12_lampsWith_6 (v := (0 : Int32)) (by decide) ?_
  refine x_istore_n (ls' := [(3, _), (2, _), (0, _), (1, _)]) (pc := 7) dX12_lampsWith_7 rfl rfl rfl ?_
  have k8_0 : ∀ (e2 : Int32) (m3 : mi_M), wo (f_X12_lampsWith_K8 (e2, m3)) Q0 → mi_X mX12_lampsWith (5) 110 [(2, vi e2)] [] m3 QX := by
    intro e2 m3 h
    unfold f_X12_lampsWith_K8 at h
    try dsimp only at h
    refine x_iload_n (pc := 110) dX12_lampsWith_110 rfl ?_
    exact x_iret (pc := 111) dX12_lampsWith_111 rfl (by rw [hQX]; exact ⟨_, rfl, congrArg Prod.fst (hq0 _ (wo_some h)), congrArg Prod.snd (hq0 _ (wo_some h))⟩)
  refine x_sub [(0, _), (1, _), (2, _), (3, _)] ⟨rfl, rfl, rfl, rfl, trivial⟩ ?_
  obtain ⟨ea, eb, h⟩ := wo_bo h
  refine wo_lq (X := fun s => match s with | (l4, l5, m6) => mi_X mX12_lampsWith (5) 8 [(0, vr 12 0), (1, vi p0), (2, vi l4), (3, vi l5)] [] m6 QX) (E := fun e => wo (f_X12_lampsWith_K8 e) Q0) ?_ _ (v1, (0 : Int32), mem) ⟨_, eb, h⟩
  intro Q8 hb8 he8 s h
  obtain ⟨l4, l5, m6⟩ := s
  show mi_X mX12_lampsWith (5) 8 [(0, vr 12 0), (1, vi p0), (2, vi l4), (3, vi l5)] [] m6 QX
  unfold f_X12_lampsWith_B8 at h
  try dsimp only at h
  refine x_iload_n (pc := 8) dX12_lampsWith_8 rfl ?_
  refine x_aload_n (pc := 9) dX12_lampsWith_9 rfl ?_
  refine z_Vi0 (pc := 10) h dX12_lampsWith_10 lX12_273 (by decide) (by omega) rfl (fun a e => w_X12_wrongs _ a e) (fun v7 h => ?_)
  refine x_icmp_ge (pc := 13) dX12_lampsWith_13 (tgt := 110) (by decide) (fun c26 => ?_) (fun c26 => ?_)
  · replace h := wo_pos c26 h
    refine x_sub [(2, _)] ⟨rfl, trivial⟩ ?_
    exact k8_0 _ _ (he8 (l4, m6) (wo_some h))
  · replace h := wo_neg c26 h
    refine x_aload_n (pc := 16) dX12_lampsWith_16 rfl ?_
    refine x_getS (pc := 17) dX12_lampsWith_17 fX12_113 rfl (by decide) ?_
    refine x_bipush (pc := 20) dX12_lampsWith_20 (v := (14 : Int32)) (by decide) ?_
    refine x_iload_n (pc := 22) dX12_lampsWith_22 rfl ?_
    refine x_iadd (pc := 23) dX12_lampsWith_23 ?_
    obtain ⟨hx8, h⟩ := wo_g h
    refine x_ialdJ (pc := 24) dX12_lampsWith_24 rfl rfl (by decide) hx8 ?_
    refine x_aload_n (pc := 25) dX12_lampsWith_25 rfl ?_
    refine x_iload_n (pc := 26) dX12_lampsWith_26 rfl ?_
    refine z_Vi1 (pc := 27) h dX12_lampsWith_27 lX12_323 (by decide) (by omega) rfl (fun a e => w_X12_barOf _ _ a e) (fun v9 h => ?_)
    have j50 : ∀ (u10 : Int32), wo (f_X12_lampsWith_J50 p0 l4 l5 m6 u10) Q8 → mi_X mX12_lampsWith (5) 50 [(0, vr 12 0), (1, vi p0), (2, vi l4), (3, vi l5)] [vi u10] m6 QX := by
      intro u10 h
      unfold f_X12_lampsWith_J50 at h
      refine x_istore (ls' := [(4, _), (0, _), (1, _), (2, _), (3, _)]) (pc := 50) dX12_lampsWith_50 rfl rfl ?_
      refine x_iload_n (pc := 52) dX12_lampsWith_52 rfl ?_
      refine x_iload_n (pc := 53) dX12_lampsWith_53 rfl ?_
      refine x_ishr (pc := 54) dX12_lampsWith_54 ?_
      refine x_iconst (pc := 55) dX12_lampsWith_55 (v := (1 : Int32)) (by decide) ?_
      refine x_iand (pc := 56) dX12_lampsWith_56 ?_
      refine x_iconst (pc := 57) dX12_lampsWith_57 (v := (1 : Int32)) (by decide) ?_
      have j82 : ∀ (u11 : Int32) (m12 : mi_M), wo (f_X12_lampsWith_J82 l4 l5 u11 m12) Q8 → mi_X mX12_lampsWith (5) 82 [(0, vr 12 0), (1, vi p0), (2, vi l4), (3, vi l5)] [vi u11] m12 QX := by
        intro u11 m12 h
        unfold f_X12_lampsWith_J82 at h
        refine x_istore (ls' := [(5, _), (0, _), (1, _), (2, _), (3, _)]) (pc := 82) dX12_lampsWith_82 rfl rfl ?_
        refine x_iload_n (pc := 84) dX12_lampsWith_84 rfl ?_
        refine x_iload (pc := 85) dX12_lampsWith_85 rfl ?_
        have j102 : ∀ (u13 : Int32), wo (f_X12_lampsWith_J102 l4 l5 m12 u13) Q8 → mi_X mX12_lampsWith (5) 102 [(0, vr 12 0), (1, vi p0), (3, vi l5)] [vi u13, vi l4] m12 QX := by
          intro u13 h
          unfold f_X12_lampsWith_J102 at h
          refine x_ior (pc := 102) dX12_lampsWith_102 ?_
          refine x_leti h (fun v14 h => ?_)
          refine x_istore_n (ls' := [(2, _), (0, _), (1, _), (3, _)]) (pc := 103) dX12_lampsWith_103 rfl rfl rfl ?_
          refine x_iinc (ls' := [(3, _), (2, _), (0, _), (1, _)]) (pc := 104) dX12_lampsWith_104 rfl (v := l5 + (1 : Int32)) rfl rfl rfl ?_
          refine x_goto (pc := 107) dX12_lampsWith_107 (tgt := 8) (by decide) ?_
          refine x_sub [(0, _), (1, _), (2, _), (3, _)] ⟨rfl, rfl, rfl, rfl, trivial⟩ ?_
          exact hb8 (v14, (l5 + (1 : Int32)), m12) (wo_some h)
        refine x_if_eq (pc := 87) dX12_lampsWith_87 (tgt := 101) (by decide) (fun c16 => ?_) (fun c16 => ?_)
        · replace h := wo_pos c16 h
          refine x_iconst (pc := 101) dX12_lampsWith_101 (v := (0 : Int32)) (by decide) ?_
          refine x_sub [(0, _), (1, _), (3, _)] ⟨rfl, rfl, rfl, trivial⟩ ?_
          exact j102 _ h
        · replace h := wo_neg c16 h
          refine x_iconst (pc := 90) dX12_lampsWith_90 (v := (1 : Int32)) (by decide) ?_
          refine x_aload_n (pc := 91) dX12_lampsWith_91 rfl ?_
          refine x_iload_n (pc := 92) dX12_lampsWith_92 rfl ?_
          refine x_iconst (pc := 93) dX12_lampsWith_93 (v := (1 : Int32)) (by decide) ?_
          refine z_Vi2 (pc := 94) h dX12_lampsWith_94 lX12_297 (by decide) (by omega) rfl (fun a e => w_X12_wrongOf _ _ _ a e) (fun v15 h => ?_)
          refine x_ishl (pc := 97) dX12_lampsWith_97 ?_
          refine x_goto (pc := 98) dX12_lampsWith_98 (tgt := 102) (by decide) ?_
          refine x_sub [(0, _), (1, _), (3, _)] ⟨rfl, rfl, rfl, trivial⟩ ?_
          exact j102 _ h
      have j81 : ∀ (m17 : mi_M), wo (f_X12_lampsWith_J81 l4 l5 m17) Q8 → mi_X mX12_lampsWith (5) 81 [(0, vr 12 0), (1, vi p0), (2, vi l4), (3, vi l5)] [] m17 QX := by
        intro m17 h
        unfold f_X12_lampsWith_J81 at h
        refine x_iconst (pc := 81) dX12_lampsWith_81 (v := (0 : Int32)) (by decide) ?_
        refine x_sub [(0, _), (1, _), (2, _), (3, _)] ⟨rfl, rfl, rfl, rfl, trivial⟩ ?_
        exact j82 _ _ h
      refine x_icmp_ne (pc := 58) dX12_lampsWith_58 (tgt := 81) (by decide) (fun c22 => ?_) (fun c22 => ?_)
      · replace h := wo_neg c22 h
        refine x_sub [(0, _), (1, _), (2, _), (3, _)] ⟨rfl, rfl, rfl, rfl, trivial⟩ ?_
        exact j81 _ h
      · replace h := wo_pos c22 h
        refine x_aload_n (pc := 61) dX12_lampsWith_61 rfl ?_
        refine x_iload_n (pc := 62) dX12_lampsWith_62 rfl ?_
        refine x_iload (pc := 63) dX12_lampsWith_63 rfl ?_
        refine x_aload_n (pc := 65) dX12_lampsWith_65 rfl ?_
        refine x_getS (pc := 66) dX12_lampsWith_66 fX12_113 rfl (by decide) ?_
        refine x_iconst (pc := 69) dX12_lampsWith_69 (v := (0 : Int32)) (by decide) ?_
        obtain ⟨hx18, h⟩ := wo_g h
        refine x_ialdJ (pc := 70) dX12_lampsWith_70 rfl rfl (by decide) hx18 ?_
        refine y_Vi3 (pc := 71) h dX12_lampsWith_71 lX12_339 (by decide) (by omega) rfl (fun a e => w_X12_burnOf _ _ _ _ a e) (fun v19 m20 h => ?_)
        refine x_if_le (pc := 74) dX12_lampsWith_74 (tgt := 81) (by decide) (fun c21 => ?_) (fun c21 => ?_)
        · replace h := wo_pos c21 h
          refine x_sub [(0, _), (1, _), (2, _), (3, _)] ⟨rfl, rfl, rfl, rfl, trivial⟩ ?_
          exact j81 _ h
        · replace h := wo_neg c21 h
          refine x_iconst (pc := 77) dX12_lampsWith_77 (v := (1 : Int32)) (by decide) ?_
          refine x_goto (pc := 78) dX12_lampsWith_78 (tgt := 82) (by decide) ?_
          refine x_sub [(0, _), (1, _), (2, _), (3, _)] ⟨rfl, rfl, rfl, rfl, trivial⟩ ?_
          exact j82 _ _ h
    refine x_icmp_ge (pc := 30) dX12_lampsWith_30 (tgt := 45) (by decide) (fun c25 => ?_) (fun c25 => ?_)
    · replace h := wo_pos c25 h
      refine x_aload_n (pc := 45) dX12_lampsWith_45 rfl ?_
      refine x_iload_n (pc := 46) dX12_lampsWith_46 rfl ?_
      refine z_Vi1 (pc := 47) h dX12_lampsWith_47 lX12_323 (by decide) (by omega) rfl (fun a e => w_X12_barOf _ _ a e) (fun v23 h => ?_)
      refine x_sub [(0, _), (1, _), (2, _), (3, _)] ⟨rfl, rfl, rfl, rfl, trivial⟩ ?_
      exact j50 _ h
    · replace h := wo_neg c25 h
      refine x_aload_n (pc := 33) dX12_lampsWith_33 rfl ?_
      refine x_getS (pc := 34) dX12_lampsWith_34 fX12_113 rfl (by decide) ?_
      refine x_bipush (pc := 37) dX12_lampsWith_37 (v := (14 : Int32)) (by decide) ?_
      refine x_iload_n (pc := 39) dX12_lampsWith_39 rfl ?_
      refine x_iadd (pc := 40) dX12_lampsWith_40 ?_
      obtain ⟨hx24, h⟩ := wo_g h
      refine x_ialdJ (pc := 41) dX12_lampsWith_41 rfl rfl (by decide) hx24 ?_
      refine x_goto (pc := 42) dX12_lampsWith_42 (tgt := 50) (by decide) ?_
      refine x_sub [(0, _), (1, _), (2, _), (3, _)] ⟨rfl, rfl, rfl, rfl, trivial⟩ ?_
      exact j50 _ h
noncomputable def f_X12_law_J25 (m1 : mi_M) : Option (Int32 × mi_M) := some ((-1 : Int32), m1)
noncomputable def f_X12_law_J87 (l16 : Int32) (m20 : mi_M) : Option ((Int32 × mi_M) ⊕ (mi_M)) := some (.inl ((l16 + (1 : Int32)), m20))
noncomputable def f_X12_law_B56 : (Int32 × mi_M) → Option ((Int32 × mi_M) ⊕ (mi_M)) := fun s => match s with | (l16, m17) => mi_bo (f_X12_wrongs m17) fun v18 => if v18 ≤ l16 then some (.inr m17) else mi_bo (f_X12_isRipe (1323 : Int32) l16 m17) fun v19 => if v19 = 0 then f_X12_law_J87 l16 m17 else mi_b (f_X12_asks (1323 : Int32) l16 m17) fun v21 m22 => f_X12_law_J87 l16 m22
noncomputable def f_X12_law_K56 (l9 : Int32) (l10 : Int32) : mi_M → Option ((Int32 × Int32 × mi_M) ⊕ (Int32 × mi_M)) := fun m12 => mi_b (f_X12_passes (1323 : Int32) m12) fun v13 m14 => mi_let (l9 + v13) fun v15 => some (.inl (v15, (l10 + (1 : Int32)), m14))
noncomputable def f_X12_law_B47 (p0 : Int32) : (Int32 × Int32 × mi_M) → Option ((Int32 × Int32 × mi_M) ⊕ (Int32 × mi_M)) := fun s => match s with | (l9, l10, m11) => if p0 ≤ l10 then some (.inr (l9, m11)) else mi_bo (mi_lp (f_X12_law_B56) mi_fu ((0 : Int32), m11)) (f_X12_law_K56 l9 l10)
noncomputable def f_X12_law_K47 : (Int32 × mi_M) → Option (Int32 × mi_M) := fun e => match e with | (e6, m7) => mi_let (mi_wI m7 12 0 24 (0 : Int32)) fun m8 => some (e6, m8)
noncomputable def f_X12_law (p0 : Int32) (p1 : Int32) (mem : mi_M) : Option (Int32 × mi_M) := mi_let (mi_wI mem 12 0 0 (0 : Int32)) fun m1 => mi_bo (f_X12_within p0 (1 : Int32) (30 : Int32) m1) fun v2 => if v2 = 0 then f_X12_law_J25 m1 else mi_bo (f_X12_within p1 (0 : Int32) (9 : Int32) m1) fun v3 => if v3 = 0 then f_X12_law_J25 m1 else mi_bo (f_X12_copies (0 : Int32) (1323 : Int32) (38 : Int32) m1) fun m4 => mi_let (mi_wI m4 12 0 24 p1) fun m5 => mi_bo (mi_lp (f_X12_law_B47 p0) mi_fu ((0 : Int32), (0 : Int32), m5)) (f_X12_law_K47)
set_option maxRecDepth 100000 in
set_option maxHeartbeats 4000000 in
theorem w_X12_law (p0 : Int32) (p1 : Int32) (mem : mi_M) (a : Int32 × mi_M) (e : f_X12_law p0 p1 mem = some a) : mi_Ci (6) mX12_law [vr 12 0, vi p0, vi p1] mem (fun x m' => x = a.1 ∧ m' = a.2) := by
  unfold mi_Ci
  refine mi_C_intro (ls := [(0, vr 12 0), (1, vi p0), (2, vi p1)]) (by decide) rfl rfl ?_
  obtain ⟨Q0, hq0, h⟩ : ∃ Q0 : (Int32 × mi_M) → Prop, (∀ b, Q0 b → b = a) ∧ wo (f_X12_law p0 p1 mem) Q0 := ⟨fun b => b = a, fun _ h => h, wo_eq e⟩
  obtain ⟨QX, hQX⟩ : ∃ QX : Option mi_V → mi_M → Prop, QX = (fun r m' => ∃ x, r = some (vi x) ∧ x = a.1 ∧ m' = a.2) := ⟨_, rfl⟩
  rw [← hQX]
  unfold f_X12_law at h
  refine x_aload_n (pc := 0) dX12_law_0 rfl ?_
  refine x_iconst (pc := 1) dX12_law_1 (v := (0 : Int32)) (by decide) ?_
  refine x_putI (pc := 2) dX12_law_2 fX12_1 rfl (by decide) rfl rfl ?_
  refine x_letm h (fun m1 h => ?_)
  refine x_iload_n (pc := 5) dX12_law_5 rfl ?_
  refine x_iconst (pc := 6) dX12_law_6 (v := (1 : Int32)) (by decide) ?_
  refine x_bipush (pc := 7) dX12_law_7 (v := (30 : Int32)) (by decide) ?_
  refine z_Si3 (pc := 9) h dX12_law_9 lX12_362 (by omega) rfl (fun a e => w_X12_within _ _ _ _ a e) (fun v2 h => ?_)
  have j25 : wo (f_X12_law_J25 m1) Q0 → mi_X mX12_law (6) 25 [] [] m1 QX := by
    intro h
    unfold f_X12_law_J25 at h
    refine x_iconst (pc := 25) dX12_law_25 (v := (-1 : Int32)) (by decide) ?_
    exact x_iret (pc := 26) dX12_law_26 rfl (by rw [hQX]; exact ⟨_, rfl, congrArg Prod.fst (hq0 _ (wo_some h)), congrArg Prod.snd (hq0 _ (wo_some h))⟩)
  refine x_if_eq (pc := 12) dX12_law_12 (tgt := 25) (by decide) (fun c27 => ?_) (fun c27 => ?_)
  · replace h := wo_pos c27 h
    refine x_sub [] trivial ?_
    exact j25 h
  · replace h := wo_neg c27 h
    refine x_iload_n (pc := 15) dX12_law_15 rfl ?_
    refine x_iconst (pc := 16) dX12_law_16 (v := (0 : Int32)) (by decide) ?_
    refine x_bipush (pc := 17) dX12_law_17 (v := (9 : Int32)) (by decide) ?_
    refine z_Si3 (pc := 19) h dX12_law_19 lX12_362 (by omega) rfl (fun a e => w_X12_within _ _ _ _ a e) (fun v3 h => ?_)
    refine x_if_ne (pc := 22) dX12_law_22 (tgt := 27) (by decide) (fun c26 => ?_) (fun c26 => ?_)
    · replace h := wo_neg c26 h
      refine x_aload_n (pc := 27) dX12_law_27 rfl ?_
      refine x_iconst (pc := 28) dX12_law_28 (v := (0 : Int32)) (by decide) ?_
      refine x_sipush (pc := 29) dX12_law_29 (v := (1323 : Int32)) (by decide) ?_
      refine x_bipush (pc := 32) dX12_law_32 (v := (38 : Int32)) (by decide) ?_
      refine y_Vv3 (pc := 34) h dX12_law_34 lX12_309 (by decide) (by omega) rfl (fun a e => w_X12_copies _ _ _ _ a e) (fun m4 h => ?_)
      refine x_aload_n (pc := 37) dX12_law_37 rfl ?_
      refine x_iload_n (pc := 38) dX12_law_38 rfl ?_
      refine x_putI (pc := 39) dX12_law_39 fX12_300 rfl (by decide) rfl rfl ?_
      refine x_letm h (fun m5 h => ?_)
      refine x_iconst (pc := 42) dX12_law_42 (v := (0 : Int32)) (by decide) ?_
      refine x_istore_n (ls' := [(3, _), (0, _), (1, _), (2, _)]) (pc := 43) dX12_law_43 rfl rfl rfl ?_
      refine x_iconst (pc := 44) dX12_law_44 (v := (0 : Int32)) (by decide) ?_
      refine x_istore (ls' := [(4, _), (3, _), (0, _), (1, _), (2, _)]) (pc := 45) dX12_law_45 rfl rfl ?_
      have k47_0 : ∀ (e6 : Int32) (m7 : mi_M), wo (f_X12_law_K47 (e6, m7)) Q0 → mi_X mX12_law (6) 109 [(0, vr 12 0), (3, vi e6)] [] m7 QX := by
        intro e6 m7 h
        unfold f_X12_law_K47 at h
        try dsimp only at h
        refine x_aload_n (pc := 109) dX12_law_109 rfl ?_
        refine x_iconst (pc := 110) dX12_law_110 (v := (0 : Int32)) (by decide) ?_
        refine x_putI (pc := 111) dX12_law_111 fX12_300 rfl (by decide) rfl rfl ?_
        refine x_letm h (fun m8 h => ?_)
        refine x_iload_n (pc := 114) dX12_law_114 rfl ?_
        exact x_iret (pc := 115) dX12_law_115 rfl (by rw [hQX]; exact ⟨_, rfl, congrArg Prod.fst (hq0 _ (wo_some h)), congrArg Prod.snd (hq0 _ (wo_some h))⟩)
      refine x_sub [(0, _), (1, _), (3, _), (4, _)] ⟨rfl, rfl, rfl, rfl, trivial⟩ ?_
      obtain ⟨ea, eb, h⟩ := wo_bo h
      refine wo_lq (X := fun s => match s with | (l9, l10, m11) => mi_X mX12_law (6) 47 [(0, vr 12 0), (1, vi p0), (3, vi l9), (4, vi l10)] [] m11 QX) (E := fun e => wo (f_X12_law_K47 e) Q0) ?_ _ ((0 : Int32), (0 : Int32), m5) ⟨_, eb, h⟩
      intro Q47 hb47 he47 s h
      obtain ⟨l9, l10, m11⟩ := s
      show mi_X mX12_law (6) 47 [(0, vr 12 0), (1, vi p0), (3, vi l9), (4, vi l10)] [] m11 QX
      unfold f_X12_law_B47 at h
      try dsimp only at h
      refine x_iload (pc := 47) dX12_law_47 rfl ?_
      refine x_iload_n (pc := 49) dX12_law_49 rfl ?_
      refine x_icmp_ge (pc := 50) dX12_law_50 (tgt := 109) (by decide) (fun c25 => ?_) (fun c25 => ?_)
      · replace h := wo_pos c25 h
        refine x_sub [(0, _), (3, _)] ⟨rfl, rfl, trivial⟩ ?_
        exact k47_0 _ _ (he47 (l9, m11) (wo_some h))
      · replace h := wo_neg c25 h
        refine x_iconst (pc := 53) dX12_law_53 (v := (0 : Int32)) (by decide) ?_
        refine x_istore (ls' := [(5, _), (0, _), (1, _), (3, _), (4, _)]) (pc := 54) dX12_law_54 rfl rfl ?_
        have k56_0 : ∀ (m12 : mi_M), wo (f_X12_law_K56 l9 l10 m12) Q47 → mi_X mX12_law (6) 93 [(0, vr 12 0), (1, vi p0), (3, vi l9), (4, vi l10)] [] m12 QX := by
          intro m12 h
          unfold f_X12_law_K56 at h
          try dsimp only at h
          refine x_iload_n (pc := 93) dX12_law_93 rfl ?_
          refine x_aload_n (pc := 94) dX12_law_94 rfl ?_
          refine x_sipush (pc := 95) dX12_law_95 (v := (1323 : Int32)) (by decide) ?_
          refine y_Vi1 (pc := 98) h dX12_law_98 lX12_386 (by decide) (by omega) rfl (fun a e => w_X12_passes _ _ a e) (fun v13 m14 h => ?_)
          refine x_iadd (pc := 101) dX12_law_101 ?_
          refine x_leti h (fun v15 h => ?_)
          refine x_istore_n (ls' := [(3, _), (0, _), (1, _), (4, _)]) (pc := 102) dX12_law_102 rfl rfl rfl ?_
          refine x_iinc (ls' := [(4, _), (3, _), (0, _), (1, _)]) (pc := 103) dX12_law_103 rfl (v := l10 + (1 : Int32)) rfl rfl rfl ?_
          refine x_goto (pc := 106) dX12_law_106 (tgt := 47) (by decide) ?_
          refine x_sub [(0, _), (1, _), (3, _), (4, _)] ⟨rfl, rfl, rfl, rfl, trivial⟩ ?_
          exact hb47 (v15, (l10 + (1 : Int32)), m14) (wo_some h)
        refine x_sub [(0, _), (1, _), (3, _), (4, _), (5, _)] ⟨rfl, rfl, rfl, rfl, rfl, trivial⟩ ?_
        obtain ⟨ea, eb, h⟩ := wo_bo h
        refine wo_lq (X := fun s => match s with | (l16, m17) => mi_X mX12_law (6) 56 [(0, vr 12 0), (1, vi p0), (3, vi l9), (4, vi l10), (5, vi l16)] [] m17 QX) (E := fun e => wo (f_X12_law_K56 l9 l10 e) Q47) ?_ _ ((0 : Int32), m11) ⟨_, eb, h⟩
        intro Q56 hb56 he56 s h
        obtain ⟨l16, m17⟩ := s
        show mi_X mX12_law (6) 56 [(0, vr 12 0), (1, vi p0), (3, vi l9), (4, vi l10), (5, vi l16)] [] m17 QX
        unfold f_X12_law_B56 at h
        try dsimp only at h
        refine x_iload (pc := 56) dX12_law_56 rfl ?_
        refine x_aload_n (pc := 58) dX12_law_58 rfl ?_
        refine z_Vi0 (pc := 59) h dX12_law_59 lX12_273 (by decide) (by omega) rfl (fun a e => w_X12_wrongs _ a e) (fun v18 h => ?_)
        refine x_icmp_ge (pc := 62) dX12_law_62 (tgt := 93) (by decide) (fun c24 => ?_) (fun c24 => ?_)
        · replace h := wo_pos c24 h
          refine x_sub [(0, _), (1, _), (3, _), (4, _)] ⟨rfl, rfl, rfl, rfl, trivial⟩ ?_
          exact k56_0 _ (he56 m17 (wo_some h))
        · replace h := wo_neg c24 h
          refine x_aload_n (pc := 65) dX12_law_65 rfl ?_
          refine x_sipush (pc := 66) dX12_law_66 (v := (1323 : Int32)) (by decide) ?_
          refine x_iload (pc := 69) dX12_law_69 rfl ?_
          refine z_Vi2 (pc := 71) h dX12_law_71 lX12_336 (by decide) (by omega) rfl (fun a e => w_X12_isRipe _ _ _ a e) (fun v19 h => ?_)
          have j87 : ∀ (m20 : mi_M), wo (f_X12_law_J87 l16 m20) Q56 → mi_X mX12_law (6) 87 [(0, vr 12 0), (1, vi p0), (3, vi l9), (4, vi l10), (5, vi l16)] [] m20 QX := by
            intro m20 h
            unfold f_X12_law_J87 at h
            refine x_iinc (ls' := [(5, _), (0, _), (1, _), (3, _), (4, _)]) (pc := 87) dX12_law_87 rfl (v := l16 + (1 : Int32)) rfl rfl rfl ?_
            refine x_goto (pc := 90) dX12_law_90 (tgt := 56) (by decide) ?_
            refine x_sub [(0, _), (1, _), (3, _), (4, _), (5, _)] ⟨rfl, rfl, rfl, rfl, rfl, trivial⟩ ?_
            exact hb56 ((l16 + (1 : Int32)), m20) (wo_some h)
          refine x_if_eq (pc := 74) dX12_law_74 (tgt := 87) (by decide) (fun c23 => ?_) (fun c23 => ?_)
          · replace h := wo_pos c23 h
            refine x_sub [(0, _), (1, _), (3, _), (4, _), (5, _)] ⟨rfl, rfl, rfl, rfl, rfl, trivial⟩ ?_
            exact j87 _ h
          · replace h := wo_neg c23 h
            refine x_aload_n (pc := 77) dX12_law_77 rfl ?_
            refine x_sipush (pc := 78) dX12_law_78 (v := (1323 : Int32)) (by decide) ?_
            refine x_iload (pc := 81) dX12_law_81 rfl ?_
            refine y_Vi2 (pc := 83) h dX12_law_83 lX12_383 (by decide) (by omega) rfl (fun a e => w_X12_asks _ _ _ a e) (fun v21 m22 h => ?_)
            refine x_pop (pc := 86) dX12_law_86 rfl ?_
            refine x_sub [(0, _), (1, _), (3, _), (4, _), (5, _)] ⟨rfl, rfl, rfl, rfl, rfl, trivial⟩ ?_
            exact j87 _ h
    · replace h := wo_pos c26 h
      refine x_sub [] trivial ?_
      exact j25 h
noncomputable def f_X12_laysSteps_J129 (l7 : Int32) (m8 : mi_M) (u13 : Int32) : Option ((Int32 × mi_M) ⊕ (mi_M)) := mi_g (vp_in l7 36) (mi_let (mi_wI m8 72 0 l7.toNatClampNeg u13) fun m15 => some (.inl ((l7 + (1 : Int32)), m15)))
noncomputable def f_X12_laysSteps_B68 (l3 : Int32) : (Int32 × mi_M) → Option ((Int32 × mi_M) ⊕ (mi_M)) := fun s => match s with | (l7, m8) => if (36 : Int32) ≤ l7 then some (.inr m8) else mi_g (vp_in (((6 : Int32) * (l7 / (6 : Int32))) + l3) 36) (mi_g (vp_in (((6 : Int32) * l3) + (l7 - l7 / (6 : Int32) * (6 : Int32))) 36) (mi_let ((m8.1 72 0 (((6 : Int32) * (l7 / (6 : Int32))) + l3).toNatClampNeg) + (m8.1 72 0 (((6 : Int32) * l3) + (l7 - l7 / (6 : Int32) * (6 : Int32))).toNatClampNeg)) fun v11 => mi_g (vp_in l7 36) (if (m8.1 72 0 l7.toNatClampNeg) ≤ v11 then mi_g (vp_in l7 36) (f_X12_laysSteps_J129 l7 m8 (m8.1 72 0 l7.toNatClampNeg)) else f_X12_laysSteps_J129 l7 m8 v11)))
noncomputable def f_X12_laysSteps_K68 (l3 : Int32) : mi_M → Option ((Int32 × mi_M) ⊕ (mi_M)) := fun m6 => some (.inl ((l3 + (1 : Int32)), m6))
noncomputable def f_X12_laysSteps_B58 : (Int32 × mi_M) → Option ((Int32 × mi_M) ⊕ (mi_M)) := fun s => match s with | (l3, m4) => mi_bo (f_X12_people m4) fun v5 => if v5 ≤ l3 then some (.inr m4) else mi_bo (mi_lp (f_X12_laysSteps_B68 l3) mi_fu ((0 : Int32), m4)) (f_X12_laysSteps_K68 l3)
noncomputable def f_X12_laysSteps_K58 : mi_M → Option (mi_M) := fun m2 => some m2
noncomputable def f_X12_laysSteps_J49 (l20 : Int32) (m21 : mi_M) (u24 : Int32) : Option ((Int32 × mi_M) ⊕ (mi_M)) := mi_g (vp_in l20 36) (mi_let (mi_wI m21 72 0 l20.toNatClampNeg u24) fun m26 => some (.inl ((l20 + (1 : Int32)), m26)))
noncomputable def f_X12_laysSteps_B2 : (Int32 × mi_M) → Option ((Int32 × mi_M) ⊕ (mi_M)) := fun s => match s with | (l20, m21) => if (36 : Int32) ≤ l20 then some (.inr m21) else mi_g (vp_in ((21 : Int32) + l20) 200) (mi_let (m21.1 56 0 ((21 : Int32) + l20).toNatClampNeg) fun v23 => if (l20 / (6 : Int32)) = (l20 - l20 / (6 : Int32) * (6 : Int32)) then f_X12_laysSteps_J49 l20 m21 (0 : Int32) else if v23 = 0 then f_X12_laysSteps_J49 l20 m21 (1000000 : Int32) else f_X12_laysSteps_J49 l20 m21 v23)
noncomputable def f_X12_laysSteps_K2 : mi_M → Option (mi_M) := fun m1 => mi_bo (mi_lp (f_X12_laysSteps_B58) mi_fu ((0 : Int32), m1)) (f_X12_laysSteps_K58)
noncomputable def f_X12_laysSteps (mem : mi_M) : Option (mi_M) := mi_bo (mi_lp (f_X12_laysSteps_B2) mi_fu ((0 : Int32), mem)) (f_X12_laysSteps_K2)
set_option maxRecDepth 100000 in
set_option maxHeartbeats 4000000 in
theorem w_X12_laysSteps (mem : mi_M) (a : mi_M) (e : f_X12_laysSteps  mem = some a) : mi_Cv (2) mX12_laysSteps [vr 12 0] mem (fun m' => m' = a) := by
  unfold mi_Cv
  refine mi_C_intro (ls := [(0, vr 12 0)]) (by decide) rfl rfl ?_
  obtain ⟨Q0, hq0, h⟩ : ∃ Q0 : mi_M → Prop, (∀ b, Q0 b → b = a) ∧ wo (f_X12_laysSteps  mem) Q0 := ⟨fun b => b = a, fun _ h => h, wo_eq e⟩
  obtain ⟨QX, hQX⟩ : ∃ QX : Option mi_V → mi_M → Prop, QX = (fun r m' => r = none ∧ m' = a) := ⟨_, rfl⟩
  rw [← hQX]
  unfold f_X12_laysSteps at h
  refine x_iconst (pc := 0) dX12_laysSteps_0 (v := (0 : Int32)) (by decide) ?_
  refine x_istore_n (ls' := [(1, _), (0, _)]) (pc := 1) dX12_laysSteps_1 rfl rfl rfl ?_
  have k2_0 : ∀ (m1 : mi_M), wo (f_X12_laysSteps_K2 m1) Q0 → mi_X mX12_laysSteps (2) 56 [(0, vr 12 0)] [] m1 QX := by
    intro m1 h
    unfold f_X12_laysSteps_K2 at h
    try dsimp only at h
    refine x_iconst (pc := 56) dX12_laysSteps_56 (v := (0 : Int32)) (by decide) ?_
    refine x_istore_n (ls' := [(1, _), (0, _)]) (pc := 57) dX12_laysSteps_57 rfl rfl rfl ?_
    have k58_0 : ∀ (m2 : mi_M), wo (f_X12_laysSteps_K58 m2) Q0 → mi_X mX12_laysSteps (2) 142 [] [] m2 QX := by
      intro m2 h
      unfold f_X12_laysSteps_K58 at h
      try dsimp only at h
      exact x_ret (pc := 142) dX12_laysSteps_142 rfl (by rw [hQX]; exact ⟨rfl, hq0 _ (wo_some h)⟩)
    refine x_sub [(0, _), (1, _)] ⟨rfl, rfl, trivial⟩ ?_
    obtain ⟨ea, eb, h⟩ := wo_bo h
    refine wo_lq (X := fun s => match s with | (l3, m4) => mi_X mX12_laysSteps (2) 58 [(0, vr 12 0), (1, vi l3)] [] m4 QX) (E := fun e => wo (f_X12_laysSteps_K58 e) Q0) ?_ _ ((0 : Int32), m1) ⟨_, eb, h⟩
    intro Q58 hb58 he58 s h
    obtain ⟨l3, m4⟩ := s
    show mi_X mX12_laysSteps (2) 58 [(0, vr 12 0), (1, vi l3)] [] m4 QX
    unfold f_X12_laysSteps_B58 at h
    try dsimp only at h
    refine x_iload_n (pc := 58) dX12_laysSteps_58 rfl ?_
    refine x_aload_n (pc := 59) dX12_laysSteps_59 rfl ?_
    refine z_Vi0 (pc := 60) h dX12_laysSteps_60 lX12_294 (by decide) (by omega) rfl (fun a e => w_X12_people _ a e) (fun v5 h => ?_)
    refine x_icmp_ge (pc := 63) dX12_laysSteps_63 (tgt := 142) (by decide) (fun c19 => ?_) (fun c19 => ?_)
    · replace h := wo_pos c19 h
      refine x_sub [] trivial ?_
      exact k58_0 _ (he58 m4 (wo_some h))
    · replace h := wo_neg c19 h
      refine x_iconst (pc := 66) dX12_laysSteps_66 (v := (0 : Int32)) (by decide) ?_
      refine x_istore_n (ls' := [(2, _), (0, _), (1, _)]) (pc := 67) dX12_laysSteps_67 rfl rfl rfl ?_
      have k68_0 : ∀ (m6 : mi_M), wo (f_X12_laysSteps_K68 l3 m6) Q58 → mi_X mX12_laysSteps (2) 136 [(0, vr 12 0), (1, vi l3)] [] m6 QX := by
        intro m6 h
        unfold f_X12_laysSteps_K68 at h
        try dsimp only at h
        refine x_iinc (ls' := [(1, _), (0, _)]) (pc := 136) dX12_laysSteps_136 rfl (v := l3 + (1 : Int32)) rfl rfl rfl ?_
        refine x_goto (pc := 139) dX12_laysSteps_139 (tgt := 58) (by decide) ?_
        refine x_sub [(0, _), (1, _)] ⟨rfl, rfl, trivial⟩ ?_
        exact hb58 ((l3 + (1 : Int32)), m6) (wo_some h)
      refine x_sub [(0, _), (1, _), (2, _)] ⟨rfl, rfl, rfl, trivial⟩ ?_
      obtain ⟨ea, eb, h⟩ := wo_bo h
      refine wo_lq (X := fun s => match s with | (l7, m8) => mi_X mX12_laysSteps (2) 68 [(0, vr 12 0), (1, vi l3), (2, vi l7)] [] m8 QX) (E := fun e => wo (f_X12_laysSteps_K68 l3 e) Q58) ?_ _ ((0 : Int32), m4) ⟨_, eb, h⟩
      intro Q68 hb68 he68 s h
      obtain ⟨l7, m8⟩ := s
      show mi_X mX12_laysSteps (2) 68 [(0, vr 12 0), (1, vi l3), (2, vi l7)] [] m8 QX
      unfold f_X12_laysSteps_B68 at h
      try dsimp only at h
      refine x_iload_n (pc := 68) dX12_laysSteps_68 rfl ?_
      refine x_bipush (pc := 69) dX12_laysSteps_69 (v := (36 : Int32)) (by decide) ?_
      refine x_icmp_ge (pc := 71) dX12_laysSteps_71 (tgt := 136) (by decide) (fun c18 => ?_) (fun c18 => ?_)
      · replace h := wo_pos c18 h
        refine x_sub [(0, _), (1, _)] ⟨rfl, rfl, trivial⟩ ?_
        exact k68_0 _ (he68 m8 (wo_some h))
      · replace h := wo_neg c18 h
        refine x_aload_n (pc := 74) dX12_laysSteps_74 rfl ?_
        refine x_getS (pc := 75) dX12_laysSteps_75 fX12_138 rfl (by decide) ?_
        refine x_bipush (pc := 78) dX12_laysSteps_78 (v := (6 : Int32)) (by decide) ?_
        refine x_iload_n (pc := 80) dX12_laysSteps_80 rfl ?_
        refine x_bipush (pc := 81) dX12_laysSteps_81 (v := (6 : Int32)) (by decide) ?_
        refine x_idiv (pc := 83) dX12_laysSteps_83 (by decide) ?_
        refine x_imul (pc := 84) dX12_laysSteps_84 ?_
        refine x_iload_n (pc := 85) dX12_laysSteps_85 rfl ?_
        refine x_iadd (pc := 86) dX12_laysSteps_86 ?_
        obtain ⟨hx9, h⟩ := wo_g h
        refine x_ialdJ (pc := 87) dX12_laysSteps_87 rfl rfl (by decide) hx9 ?_
        refine x_aload_n (pc := 88) dX12_laysSteps_88 rfl ?_
        refine x_getS (pc := 89) dX12_laysSteps_89 fX12_138 rfl (by decide) ?_
        refine x_bipush (pc := 92) dX12_laysSteps_92 (v := (6 : Int32)) (by decide) ?_
        refine x_iload_n (pc := 94) dX12_laysSteps_94 rfl ?_
        refine x_imul (pc := 95) dX12_laysSteps_95 ?_
        refine x_iload_n (pc := 96) dX12_laysSteps_96 rfl ?_
        refine x_bipush (pc := 97) dX12_laysSteps_97 (v := (6 : Int32)) (by decide) ?_
        refine x_irem (pc := 99) dX12_laysSteps_99 (by decide) ?_
        refine x_iadd (pc := 100) dX12_laysSteps_100 ?_
        obtain ⟨hx10, h⟩ := wo_g h
        refine x_ialdJ (pc := 101) dX12_laysSteps_101 rfl rfl (by decide) hx10 ?_
        refine x_iadd (pc := 102) dX12_laysSteps_102 ?_
        refine x_leti h (fun v11 h => ?_)
        refine x_istore_n (ls' := [(3, _), (0, _), (1, _), (2, _)]) (pc := 103) dX12_laysSteps_103 rfl rfl rfl ?_
        refine x_aload_n (pc := 104) dX12_laysSteps_104 rfl ?_
        refine x_getS (pc := 105) dX12_laysSteps_105 fX12_138 rfl (by decide) ?_
        refine x_iload_n (pc := 108) dX12_laysSteps_108 rfl ?_
        refine x_iload_n (pc := 109) dX12_laysSteps_109 rfl ?_
        refine x_aload_n (pc := 110) dX12_laysSteps_110 rfl ?_
        refine x_getS (pc := 111) dX12_laysSteps_111 fX12_138 rfl (by decide) ?_
        refine x_iload_n (pc := 114) dX12_laysSteps_114 rfl ?_
        obtain ⟨hx12, h⟩ := wo_g h
        refine x_ialdJ (pc := 115) dX12_laysSteps_115 rfl rfl (by decide) hx12 ?_
        have j129 : ∀ (u13 : Int32), wo (f_X12_laysSteps_J129 l7 m8 u13) Q68 → mi_X mX12_laysSteps (2) 129 [(0, vr 12 0), (1, vi l3), (2, vi l7)] [vi u13, vi l7, vr 72 0] m8 QX := by
          intro u13 h
          unfold f_X12_laysSteps_J129 at h
          obtain ⟨hx14, h⟩ := wo_g h
          refine x_iastJ (pc := 129) dX12_laysSteps_129 rfl rfl (by decide) rfl hx14 ?_
          refine x_letm h (fun m15 h => ?_)
          refine x_iinc (ls' := [(2, _), (0, _), (1, _)]) (pc := 130) dX12_laysSteps_130 rfl (v := l7 + (1 : Int32)) rfl rfl rfl ?_
          refine x_goto (pc := 133) dX12_laysSteps_133 (tgt := 68) (by decide) ?_
          refine x_sub [(0, _), (1, _), (2, _)] ⟨rfl, rfl, rfl, trivial⟩ ?_
          exact hb68 ((l7 + (1 : Int32)), m15) (wo_some h)
        refine x_icmp_ge (pc := 116) dX12_laysSteps_116 (tgt := 123) (by decide) (fun c17 => ?_) (fun c17 => ?_)
        · replace h := wo_pos c17 h
          refine x_aload_n (pc := 123) dX12_laysSteps_123 rfl ?_
          refine x_getS (pc := 124) dX12_laysSteps_124 fX12_138 rfl (by decide) ?_
          refine x_iload_n (pc := 127) dX12_laysSteps_127 rfl ?_
          obtain ⟨hx16, h⟩ := wo_g h
          refine x_ialdJ (pc := 128) dX12_laysSteps_128 rfl rfl (by decide) hx16 ?_
          refine x_sub [(0, _), (1, _), (2, _)] ⟨rfl, rfl, rfl, trivial⟩ ?_
          exact j129 _ h
        · replace h := wo_neg c17 h
          refine x_iload_n (pc := 119) dX12_laysSteps_119 rfl ?_
          refine x_goto (pc := 120) dX12_laysSteps_120 (tgt := 129) (by decide) ?_
          refine x_sub [(0, _), (1, _), (2, _)] ⟨rfl, rfl, rfl, trivial⟩ ?_
          exact j129 _ h
  refine x_sub [(0, _), (1, _)] ⟨rfl, rfl, trivial⟩ ?_
  obtain ⟨ea, eb, h⟩ := wo_bo h
  refine wo_lq (X := fun s => match s with | (l20, m21) => mi_X mX12_laysSteps (2) 2 [(0, vr 12 0), (1, vi l20)] [] m21 QX) (E := fun e => wo (f_X12_laysSteps_K2 e) Q0) ?_ _ ((0 : Int32), mem) ⟨_, eb, h⟩
  intro Q2 hb2 he2 s h
  obtain ⟨l20, m21⟩ := s
  show mi_X mX12_laysSteps (2) 2 [(0, vr 12 0), (1, vi l20)] [] m21 QX
  unfold f_X12_laysSteps_B2 at h
  try dsimp only at h
  refine x_iload_n (pc := 2) dX12_laysSteps_2 rfl ?_
  refine x_bipush (pc := 3) dX12_laysSteps_3 (v := (36 : Int32)) (by decide) ?_
  refine x_icmp_ge (pc := 5) dX12_laysSteps_5 (tgt := 56) (by decide) (fun c29 => ?_) (fun c29 => ?_)
  · replace h := wo_pos c29 h
    refine x_sub [(0, _)] ⟨rfl, trivial⟩ ?_
    exact k2_0 _ (he2 m21 (wo_some h))
  · replace h := wo_neg c29 h
    refine x_aload_n (pc := 8) dX12_laysSteps_8 rfl ?_
    refine x_getS (pc := 9) dX12_laysSteps_9 fX12_89 rfl (by decide) ?_
    refine x_bipush (pc := 12) dX12_laysSteps_12 (v := (21 : Int32)) (by decide) ?_
    refine x_iload_n (pc := 14) dX12_laysSteps_14 rfl ?_
    refine x_iadd (pc := 15) dX12_laysSteps_15 ?_
    obtain ⟨hx22, h⟩ := wo_g h
    refine x_ialdJ (pc := 16) dX12_laysSteps_16 rfl rfl (by decide) hx22 ?_
    refine x_leti h (fun v23 h => ?_)
    refine x_istore_n (ls' := [(2, _), (0, _), (1, _)]) (pc := 17) dX12_laysSteps_17 rfl rfl rfl ?_
    refine x_aload_n (pc := 18) dX12_laysSteps_18 rfl ?_
    refine x_getS (pc := 19) dX12_laysSteps_19 fX12_138 rfl (by decide) ?_
    refine x_iload_n (pc := 22) dX12_laysSteps_22 rfl ?_
    refine x_iload_n (pc := 23) dX12_laysSteps_23 rfl ?_
    refine x_bipush (pc := 24) dX12_laysSteps_24 (v := (6 : Int32)) (by decide) ?_
    refine x_idiv (pc := 26) dX12_laysSteps_26 (by decide) ?_
    refine x_iload_n (pc := 27) dX12_laysSteps_27 rfl ?_
    refine x_bipush (pc := 28) dX12_laysSteps_28 (v := (6 : Int32)) (by decide) ?_
    refine x_irem (pc := 30) dX12_laysSteps_30 (by decide) ?_
    have j49 : ∀ (u24 : Int32), wo (f_X12_laysSteps_J49 l20 m21 u24) Q2 → mi_X mX12_laysSteps (2) 49 [(0, vr 12 0), (1, vi l20)] [vi u24, vi l20, vr 72 0] m21 QX := by
      intro u24 h
      unfold f_X12_laysSteps_J49 at h
      obtain ⟨hx25, h⟩ := wo_g h
      refine x_iastJ (pc := 49) dX12_laysSteps_49 rfl rfl (by decide) rfl hx25 ?_
      refine x_letm h (fun m26 h => ?_)
      refine x_iinc (ls' := [(1, _), (0, _)]) (pc := 50) dX12_laysSteps_50 rfl (v := l20 + (1 : Int32)) rfl rfl rfl ?_
      refine x_goto (pc := 53) dX12_laysSteps_53 (tgt := 2) (by decide) ?_
      refine x_sub [(0, _), (1, _)] ⟨rfl, rfl, trivial⟩ ?_
      exact hb2 ((l20 + (1 : Int32)), m26) (wo_some h)
    refine x_icmp_ne (pc := 31) dX12_laysSteps_31 (tgt := 38) (by decide) (fun c28 => ?_) (fun c28 => ?_)
    · replace h := wo_neg c28 h
      refine x_iload_n (pc := 38) dX12_laysSteps_38 rfl ?_
      refine x_if_ne (pc := 39) dX12_laysSteps_39 (tgt := 48) (by decide) (fun c27 => ?_) (fun c27 => ?_)
      · replace h := wo_neg c27 h
        refine x_iload_n (pc := 48) dX12_laysSteps_48 rfl ?_
        refine x_sub [(0, _), (1, _)] ⟨rfl, rfl, trivial⟩ ?_
        exact j49 _ h
      · replace h := wo_pos c27 h
        refine x_ldcw (pc := 42) dX12_laysSteps_42 kX12_342 ?_
        refine x_goto (pc := 45) dX12_laysSteps_45 (tgt := 49) (by decide) ?_
        refine x_sub [(0, _), (1, _)] ⟨rfl, rfl, trivial⟩ ?_
        exact j49 _ h
    · replace h := wo_pos c28 h
      refine x_iconst (pc := 34) dX12_laysSteps_34 (v := (0 : Int32)) (by decide) ?_
      refine x_goto (pc := 35) dX12_laysSteps_35 (tgt := 49) (by decide) ?_
      refine x_sub [(0, _), (1, _)] ⟨rfl, rfl, trivial⟩ ?_
      exact j49 _ h
noncomputable def f_X12_look_J190 (l8 : Int32) (u13 : Int32) (u14 : Int32) : Option ((Int32 × Int32 × Int32) ⊕ (Int32)) := some (.inl (u13, u14, (l8 + (1 : Int32))))
noncomputable def f_X12_look_J177 (l7 : Int32) (l8 : Int32) (u12 : Int32) (u13 : Int32) : Option ((Int32 × Int32 × Int32) ⊕ (Int32)) := if l7 ≤ u12 then f_X12_look_J190 l8 u13 l7 else f_X12_look_J190 l8 u13 u12
noncomputable def f_X12_look_J163 (l6 : Int32) (l7 : Int32) (l8 : Int32) (u12 : Int32) : Option ((Int32 × Int32 × Int32) ⊕ (Int32)) := if l7 ≤ u12 then f_X12_look_J177 l7 l8 u12 l6 else f_X12_look_J177 l7 l8 u12 l8
noncomputable def f_X12_look_B113 (e3 : Int32) (m4 : mi_M) : (Int32 × Int32 × Int32) → Option ((Int32 × Int32 × Int32) ⊕ (Int32)) := fun s => match s with | (l6, l7, l8) => mi_bo (f_X12_people m4) fun v9 => if ((10 : Int32) * v9) ≤ l8 then some (.inr l6) else mi_g (vp_in l8 60) (mi_g (vp_in l8 60) (if (m4.1 75 0 l8.toNatClampNeg) ≤ (e3 - (m4.1 75 0 l8.toNatClampNeg)) then mi_g (vp_in l8 60) (f_X12_look_J163 l6 l7 l8 (e3 - (m4.1 75 0 l8.toNatClampNeg))) else mi_g (vp_in l8 60) (f_X12_look_J163 l6 l7 l8 (m4.1 75 0 l8.toNatClampNeg))))
noncomputable def f_X12_look_K113 (m4 : mi_M) : Int32 → Option (Int32 × mi_M) := fun e5 => some (e5, m4)
noncomputable def f_X12_look_J100 (l22 : Int32) (u27 : Int32) (m28 : mi_M) : Option ((Int32 × Int32 × mi_M) ⊕ (Int32 × mi_M)) := some (.inl (u27, (l22 + (1 : Int32)), m28))
noncomputable def f_X12_look_J92 (l30 : Int32) (m31 : mi_M) (u35 : Int32) : Option ((Int32 × mi_M) ⊕ (mi_M)) := mi_g (vp_in l30 60) (mi_let (mi_wI m31 75 0 l30.toNatClampNeg ((m31.1 75 0 l30.toNatClampNeg) + u35)) fun m37 => some (.inl ((l30 + (1 : Int32)), m37)))
noncomputable def f_X12_look_B53 : (Int32 × mi_M) → Option ((Int32 × mi_M) ⊕ (mi_M)) := fun s => match s with | (l30, m31) => mi_bo (f_X12_people m31) fun v32 => if ((10 : Int32) * v32) ≤ l30 then some (.inr m31) else mi_g (vp_in l30 60) (mi_g (vp_in (l30 / (10 : Int32)) 6) (if (m31.1 74 0 (l30 / (10 : Int32)).toNatClampNeg) ≤ (l30 - l30 / (10 : Int32) * (10 : Int32)) then f_X12_look_J92 l30 m31 (0 : Int32) else f_X12_look_J92 l30 m31 (1 : Int32)))
noncomputable def f_X12_look_K53 (l21 : Int32) (l22 : Int32) : mi_M → Option ((Int32 × Int32 × mi_M) ⊕ (Int32 × mi_M)) := fun m29 => f_X12_look_J100 l22 (l21 + (1 : Int32)) m29
noncomputable def f_X12_look_B30 : (Int32 × Int32 × mi_M) → Option ((Int32 × Int32 × mi_M) ⊕ (Int32 × mi_M)) := fun s => match s with | (l21, l22, m23) => mi_bo (f_X12_wrongs m23) fun v24 => if ((1 : Int32) <<< (v24 &&& 31)) ≤ l22 then some (.inr (l21, m23)) else mi_b (f_X12_fitsSights l22 m23) fun v25 m26 => if v25 = 0 then f_X12_look_J100 l22 l21 m26 else mi_bo (mi_lp (f_X12_look_B53) mi_fu ((0 : Int32), m26)) (f_X12_look_K53 l21 l22)
noncomputable def f_X12_look_K30 : (Int32 × mi_M) → Option (Int32 × mi_M) := fun e => match e with | (e3, m4) => mi_bo (mi_lp (f_X12_look_B113 e3 m4) mi_fu ((-1 : Int32), e3, (0 : Int32))) (f_X12_look_K113 m4)
noncomputable def f_X12_look_B7 : (Int32 × mi_M) → Option ((Int32 × mi_M) ⊕ (mi_M)) := fun s => match s with | (l42, m43) => if (60 : Int32) ≤ l42 then some (.inr m43) else mi_g (vp_in l42 60) (mi_let (mi_wI m43 75 0 l42.toNatClampNeg (0 : Int32)) fun m45 => some (.inl ((l42 + (1 : Int32)), m45)))
noncomputable def f_X12_look_K7 : mi_M → Option (Int32 × mi_M) := fun m2 => mi_bo (mi_lp (f_X12_look_B30) mi_fu ((0 : Int32), (0 : Int32), m2)) (f_X12_look_K30)
noncomputable def f_X12_look (mem : mi_M) : Option (Int32 × mi_M) := mi_let (mi_wI mem 12 0 0 (0 : Int32)) fun m1 => mi_bo (mi_lp (f_X12_look_B7) mi_fu ((0 : Int32), m1)) (f_X12_look_K7)
set_option maxRecDepth 100000 in
set_option maxHeartbeats 4000000 in
theorem w_X12_look (mem : mi_M) (a : Int32 × mi_M) (e : f_X12_look  mem = some a) : mi_Ci (6) mX12_look [vr 12 0] mem (fun x m' => x = a.1 ∧ m' = a.2) := by
  unfold mi_Ci
  refine mi_C_intro (ls := [(0, vr 12 0)]) (by decide) rfl rfl ?_
  obtain ⟨Q0, hq0, h⟩ : ∃ Q0 : (Int32 × mi_M) → Prop, (∀ b, Q0 b → b = a) ∧ wo (f_X12_look  mem) Q0 := ⟨fun b => b = a, fun _ h => h, wo_eq e⟩
  obtain ⟨QX, hQX⟩ : ∃ QX : Option mi_V → mi_M → Prop, QX = (fun r m' => ∃ x, r = some (vi x) ∧ x = a.1 ∧ m' = a.2) := ⟨_, rfl⟩
  rw [← hQX]
  unfold f_X12_look at h
  refine x_aload_n (pc := 0) dX12_look_0 rfl ?_
  refine x_iconst (pc := 1) dX12_look_1 (v := (0 : Int32)) (by decide) ?_
  refine x_putI (pc := 2) dX12_look_2 fX12_1 rfl (by decide) rfl rfl ?_
  refine x_letm h (fun m1 h => ?_)
  refine x_iconst (pc := 5) dX12_look_5 (v := (0 : Int32)) (by decide) ?_
  refine x_istore_n (ls' := [(1, _), (0, _)]) (pc := 6) dX12_look_6 rfl rfl rfl ?_
  have k7_0 : ∀ (m2 : mi_M), wo (f_X12_look_K7 m2) Q0 → mi_X mX12_look (6) 26 [(0, vr 12 0)] [] m2 QX := by
    intro m2 h
    unfold f_X12_look_K7 at h
    try dsimp only at h
    refine x_iconst (pc := 26) dX12_look_26 (v := (0 : Int32)) (by decide) ?_
    refine x_istore_n (ls' := [(1, _), (0, _)]) (pc := 27) dX12_look_27 rfl rfl rfl ?_
    refine x_iconst (pc := 28) dX12_look_28 (v := (0 : Int32)) (by decide) ?_
    refine x_istore_n (ls' := [(2, _), (1, _), (0, _)]) (pc := 29) dX12_look_29 rfl rfl rfl ?_
    have k30_0 : ∀ (e3 : Int32) (m4 : mi_M), wo (f_X12_look_K30 (e3, m4)) Q0 → mi_X mX12_look (6) 106 [(0, vr 12 0), (1, vi e3)] [] m4 QX := by
      intro e3 m4 h
      unfold f_X12_look_K30 at h
      try dsimp only at h
      refine x_iconst (pc := 106) dX12_look_106 (v := (-1 : Int32)) (by decide) ?_
      refine x_istore_n (ls' := [(2, _), (0, _), (1, _)]) (pc := 107) dX12_look_107 rfl rfl rfl ?_
      refine x_iload_n (pc := 108) dX12_look_108 rfl ?_
      refine x_istore_n (ls' := [(3, _), (2, _), (0, _), (1, _)]) (pc := 109) dX12_look_109 rfl rfl rfl ?_
      refine x_iconst (pc := 110) dX12_look_110 (v := (0 : Int32)) (by decide) ?_
      refine x_istore (ls' := [(4, _), (3, _), (2, _), (0, _), (1, _)]) (pc := 111) dX12_look_111 rfl rfl ?_
      have k113_0 : ∀ (e5 : Int32), wo (f_X12_look_K113 m4 e5) Q0 → mi_X mX12_look (6) 197 [(2, vi e5)] [] m4 QX := by
        intro e5 h
        unfold f_X12_look_K113 at h
        try dsimp only at h
        refine x_iload_n (pc := 197) dX12_look_197 rfl ?_
        exact x_iret (pc := 198) dX12_look_198 rfl (by rw [hQX]; exact ⟨_, rfl, congrArg Prod.fst (hq0 _ (wo_some h)), congrArg Prod.snd (hq0 _ (wo_some h))⟩)
      refine x_sub [(0, _), (1, _), (2, _), (3, _), (4, _)] ⟨rfl, rfl, rfl, rfl, rfl, trivial⟩ ?_
      obtain ⟨ea, eb, h⟩ := wo_bo h
      refine wo_lq (X := fun s => match s with | (l6, l7, l8) => mi_X mX12_look (6) 113 [(0, vr 12 0), (1, vi e3), (2, vi l6), (3, vi l7), (4, vi l8)] [] m4 QX) (E := fun e => wo (f_X12_look_K113 m4 e) Q0) ?_ _ ((-1 : Int32), e3, (0 : Int32)) ⟨_, eb, h⟩
      intro Q113 hb113 he113 s h
      obtain ⟨l6, l7, l8⟩ := s
      show mi_X mX12_look (6) 113 [(0, vr 12 0), (1, vi e3), (2, vi l6), (3, vi l7), (4, vi l8)] [] m4 QX
      unfold f_X12_look_B113 at h
      try dsimp only at h
      refine x_iload (pc := 113) dX12_look_113 rfl ?_
      refine x_bipush (pc := 115) dX12_look_115 (v := (10 : Int32)) (by decide) ?_
      refine x_aload_n (pc := 117) dX12_look_117 rfl ?_
      refine z_Vi0 (pc := 118) h dX12_look_118 lX12_294 (by decide) (by omega) rfl (fun a e => w_X12_people _ a e) (fun v9 h => ?_)
      refine x_imul (pc := 121) dX12_look_121 ?_
      refine x_icmp_ge (pc := 122) dX12_look_122 (tgt := 197) (by decide) (fun c20 => ?_) (fun c20 => ?_)
      · replace h := wo_pos c20 h
        refine x_sub [(2, _)] ⟨rfl, trivial⟩ ?_
        exact k113_0 _ (he113 l6 (wo_some h))
      · replace h := wo_neg c20 h
        refine x_aload_n (pc := 125) dX12_look_125 rfl ?_
        refine x_getS (pc := 126) dX12_look_126 fX12_147 rfl (by decide) ?_
        refine x_iload (pc := 129) dX12_look_129 rfl ?_
        obtain ⟨hx10, h⟩ := wo_g h
        refine x_ialdJ (pc := 131) dX12_look_131 rfl rfl (by decide) hx10 ?_
        refine x_iload_n (pc := 132) dX12_look_132 rfl ?_
        refine x_aload_n (pc := 133) dX12_look_133 rfl ?_
        refine x_getS (pc := 134) dX12_look_134 fX12_147 rfl (by decide) ?_
        refine x_iload (pc := 137) dX12_look_137 rfl ?_
        obtain ⟨hx11, h⟩ := wo_g h
        refine x_ialdJ (pc := 139) dX12_look_139 rfl rfl (by decide) hx11 ?_
        refine x_isub (pc := 140) dX12_look_140 ?_
        have j163 : ∀ (u12 : Int32), wo (f_X12_look_J163 l6 l7 l8 u12) Q113 → mi_X mX12_look (6) 163 [(0, vr 12 0), (1, vi e3), (2, vi l6), (3, vi l7), (4, vi l8)] [vi u12] m4 QX := by
          intro u12 h
          unfold f_X12_look_J163 at h
          refine x_istore (ls' := [(5, _), (0, _), (1, _), (2, _), (3, _), (4, _)]) (pc := 163) dX12_look_163 rfl rfl ?_
          refine x_iload (pc := 165) dX12_look_165 rfl ?_
          refine x_iload_n (pc := 167) dX12_look_167 rfl ?_
          have j177 : ∀ (u13 : Int32), wo (f_X12_look_J177 l7 l8 u12 u13) Q113 → mi_X mX12_look (6) 177 [(0, vr 12 0), (1, vi e3), (3, vi l7), (4, vi l8), (5, vi u12)] [vi u13] m4 QX := by
            intro u13 h
            unfold f_X12_look_J177 at h
            refine x_istore_n (ls' := [(2, _), (0, _), (1, _), (3, _), (4, _), (5, _)]) (pc := 177) dX12_look_177 rfl rfl rfl ?_
            refine x_iload (pc := 178) dX12_look_178 rfl ?_
            refine x_iload_n (pc := 180) dX12_look_180 rfl ?_
            have j190 : ∀ (u14 : Int32), wo (f_X12_look_J190 l8 u13 u14) Q113 → mi_X mX12_look (6) 190 [(0, vr 12 0), (1, vi e3), (2, vi u13), (4, vi l8)] [vi u14] m4 QX := by
              intro u14 h
              unfold f_X12_look_J190 at h
              refine x_istore_n (ls' := [(3, _), (0, _), (1, _), (2, _), (4, _)]) (pc := 190) dX12_look_190 rfl rfl rfl ?_
              refine x_iinc (ls' := [(4, _), (3, _), (0, _), (1, _), (2, _)]) (pc := 191) dX12_look_191 rfl (v := l8 + (1 : Int32)) rfl rfl rfl ?_
              refine x_goto (pc := 194) dX12_look_194 (tgt := 113) (by decide) ?_
              refine x_sub [(0, _), (1, _), (2, _), (3, _), (4, _)] ⟨rfl, rfl, rfl, rfl, rfl, trivial⟩ ?_
              exact hb113 (u13, u14, (l8 + (1 : Int32))) (wo_some h)
            refine x_icmp_ge (pc := 181) dX12_look_181 (tgt := 189) (by decide) (fun c15 => ?_) (fun c15 => ?_)
            · replace h := wo_pos c15 h
              refine x_iload_n (pc := 189) dX12_look_189 rfl ?_
              refine x_sub [(0, _), (1, _), (2, _), (4, _)] ⟨rfl, rfl, rfl, rfl, trivial⟩ ?_
              exact j190 _ h
            · replace h := wo_neg c15 h
              refine x_iload (pc := 184) dX12_look_184 rfl ?_
              refine x_goto (pc := 186) dX12_look_186 (tgt := 190) (by decide) ?_
              refine x_sub [(0, _), (1, _), (2, _), (4, _)] ⟨rfl, rfl, rfl, rfl, trivial⟩ ?_
              exact j190 _ h
          refine x_icmp_ge (pc := 168) dX12_look_168 (tgt := 176) (by decide) (fun c16 => ?_) (fun c16 => ?_)
          · replace h := wo_pos c16 h
            refine x_iload_n (pc := 176) dX12_look_176 rfl ?_
            refine x_sub [(0, _), (1, _), (3, _), (4, _), (5, _)] ⟨rfl, rfl, rfl, rfl, rfl, trivial⟩ ?_
            exact j177 _ h
          · replace h := wo_neg c16 h
            refine x_iload (pc := 171) dX12_look_171 rfl ?_
            refine x_goto (pc := 173) dX12_look_173 (tgt := 177) (by decide) ?_
            refine x_sub [(0, _), (1, _), (3, _), (4, _), (5, _)] ⟨rfl, rfl, rfl, rfl, rfl, trivial⟩ ?_
            exact j177 _ h
        refine x_icmp_le (pc := 141) dX12_look_141 (tgt := 154) (by decide) (fun c19 => ?_) (fun c19 => ?_)
        · replace h := wo_pos c19 h
          refine x_iload_n (pc := 154) dX12_look_154 rfl ?_
          refine x_aload_n (pc := 155) dX12_look_155 rfl ?_
          refine x_getS (pc := 156) dX12_look_156 fX12_147 rfl (by decide) ?_
          refine x_iload (pc := 159) dX12_look_159 rfl ?_
          obtain ⟨hx17, h⟩ := wo_g h
          refine x_ialdJ (pc := 161) dX12_look_161 rfl rfl (by decide) hx17 ?_
          refine x_isub (pc := 162) dX12_look_162 ?_
          refine x_sub [(0, _), (1, _), (2, _), (3, _), (4, _)] ⟨rfl, rfl, rfl, rfl, rfl, trivial⟩ ?_
          exact j163 _ h
        · replace h := wo_neg c19 h
          refine x_aload_n (pc := 144) dX12_look_144 rfl ?_
          refine x_getS (pc := 145) dX12_look_145 fX12_147 rfl (by decide) ?_
          refine x_iload (pc := 148) dX12_look_148 rfl ?_
          obtain ⟨hx18, h⟩ := wo_g h
          refine x_ialdJ (pc := 150) dX12_look_150 rfl rfl (by decide) hx18 ?_
          refine x_goto (pc := 151) dX12_look_151 (tgt := 163) (by decide) ?_
          refine x_sub [(0, _), (1, _), (2, _), (3, _), (4, _)] ⟨rfl, rfl, rfl, rfl, rfl, trivial⟩ ?_
          exact j163 _ h
    refine x_sub [(0, _), (1, _), (2, _)] ⟨rfl, rfl, rfl, trivial⟩ ?_
    obtain ⟨ea, eb, h⟩ := wo_bo h
    refine wo_lq (X := fun s => match s with | (l21, l22, m23) => mi_X mX12_look (6) 30 [(0, vr 12 0), (1, vi l21), (2, vi l22)] [] m23 QX) (E := fun e => wo (f_X12_look_K30 e) Q0) ?_ _ ((0 : Int32), (0 : Int32), m2) ⟨_, eb, h⟩
    intro Q30 hb30 he30 s h
    obtain ⟨l21, l22, m23⟩ := s
    show mi_X mX12_look (6) 30 [(0, vr 12 0), (1, vi l21), (2, vi l22)] [] m23 QX
    unfold f_X12_look_B30 at h
    try dsimp only at h
    refine x_iload_n (pc := 30) dX12_look_30 rfl ?_
    refine x_iconst (pc := 31) dX12_look_31 (v := (1 : Int32)) (by decide) ?_
    refine x_aload_n (pc := 32) dX12_look_32 rfl ?_
    refine z_Vi0 (pc := 33) h dX12_look_33 lX12_273 (by decide) (by omega) rfl (fun a e => w_X12_wrongs _ a e) (fun v24 h => ?_)
    refine x_ishl (pc := 36) dX12_look_36 ?_
    refine x_icmp_ge (pc := 37) dX12_look_37 (tgt := 106) (by decide) (fun c41 => ?_) (fun c41 => ?_)
    · replace h := wo_pos c41 h
      refine x_sub [(0, _), (1, _)] ⟨rfl, rfl, trivial⟩ ?_
      exact k30_0 _ _ (he30 (l21, m23) (wo_some h))
    · replace h := wo_neg c41 h
      refine x_aload_n (pc := 40) dX12_look_40 rfl ?_
      refine x_iload_n (pc := 41) dX12_look_41 rfl ?_
      refine y_Vi1 (pc := 42) h dX12_look_42 lX12_440 (by decide) (by omega) rfl (fun a e => w_X12_fitsSights _ _ a e) (fun v25 m26 h => ?_)
      have j100 : ∀ (u27 : Int32) (m28 : mi_M), wo (f_X12_look_J100 l22 u27 m28) Q30 → mi_X mX12_look (6) 100 [(0, vr 12 0), (1, vi u27), (2, vi l22)] [] m28 QX := by
        intro u27 m28 h
        unfold f_X12_look_J100 at h
        refine x_iinc (ls' := [(2, _), (0, _), (1, _)]) (pc := 100) dX12_look_100 rfl (v := l22 + (1 : Int32)) rfl rfl rfl ?_
        refine x_goto (pc := 103) dX12_look_103 (tgt := 30) (by decide) ?_
        refine x_sub [(0, _), (1, _), (2, _)] ⟨rfl, rfl, rfl, trivial⟩ ?_
        exact hb30 (u27, (l22 + (1 : Int32)), m28) (wo_some h)
      refine x_if_eq (pc := 45) dX12_look_45 (tgt := 100) (by decide) (fun c40 => ?_) (fun c40 => ?_)
      · replace h := wo_pos c40 h
        refine x_sub [(0, _), (1, _), (2, _)] ⟨rfl, rfl, rfl, trivial⟩ ?_
        exact j100 _ _ h
      · replace h := wo_neg c40 h
        refine x_iinc (ls' := [(1, _), (0, _), (2, _)]) (pc := 48) dX12_look_48 rfl (v := l21 + (1 : Int32)) rfl rfl rfl ?_
        refine x_iconst (pc := 51) dX12_look_51 (v := (0 : Int32)) (by decide) ?_
        refine x_istore_n (ls' := [(3, _), (1, _), (0, _), (2, _)]) (pc := 52) dX12_look_52 rfl rfl rfl ?_
        have k53_0 : ∀ (m29 : mi_M), wo (f_X12_look_K53 l21 l22 m29) Q30 → mi_X mX12_look (6) 100 [(0, vr 12 0), (1, vi (l21 + (1 : Int32))), (2, vi l22)] [] m29 QX := by
          intro m29 h
          unfold f_X12_look_K53 at h
          try dsimp only at h
          refine x_sub [(0, _), (1, _), (2, _)] ⟨rfl, rfl, rfl, trivial⟩ ?_
          exact j100 _ _ h
        refine x_sub [(0, _), (1, _), (2, _), (3, _)] ⟨rfl, rfl, rfl, rfl, trivial⟩ ?_
        obtain ⟨ea, eb, h⟩ := wo_bo h
        refine wo_lq (X := fun s => match s with | (l30, m31) => mi_X mX12_look (6) 53 [(0, vr 12 0), (1, vi (l21 + (1 : Int32))), (2, vi l22), (3, vi l30)] [] m31 QX) (E := fun e => wo (f_X12_look_K53 l21 l22 e) Q30) ?_ _ ((0 : Int32), m26) ⟨_, eb, h⟩
        intro Q53 hb53 he53 s h
        obtain ⟨l30, m31⟩ := s
        show mi_X mX12_look (6) 53 [(0, vr 12 0), (1, vi (l21 + (1 : Int32))), (2, vi l22), (3, vi l30)] [] m31 QX
        unfold f_X12_look_B53 at h
        try dsimp only at h
        refine x_iload_n (pc := 53) dX12_look_53 rfl ?_
        refine x_bipush (pc := 54) dX12_look_54 (v := (10 : Int32)) (by decide) ?_
        refine x_aload_n (pc := 56) dX12_look_56 rfl ?_
        refine z_Vi0 (pc := 57) h dX12_look_57 lX12_294 (by decide) (by omega) rfl (fun a e => w_X12_people _ a e) (fun v32 h => ?_)
        refine x_imul (pc := 60) dX12_look_60 ?_
        refine x_icmp_ge (pc := 61) dX12_look_61 (tgt := 100) (by decide) (fun c39 => ?_) (fun c39 => ?_)
        · replace h := wo_pos c39 h
          refine x_sub [(0, _), (1, _), (2, _)] ⟨rfl, rfl, rfl, trivial⟩ ?_
          exact k53_0 _ (he53 m31 (wo_some h))
        · replace h := wo_neg c39 h
          refine x_aload_n (pc := 64) dX12_look_64 rfl ?_
          refine x_getS (pc := 65) dX12_look_65 fX12_147 rfl (by decide) ?_
          refine x_iload_n (pc := 68) dX12_look_68 rfl ?_
          refine x_dup2 (pc := 69) dX12_look_69 rfl rfl ?_
          obtain ⟨hx33, h⟩ := wo_g h
          refine x_ialdJ (pc := 70) dX12_look_70 rfl rfl (by decide) hx33 ?_
          refine x_aload_n (pc := 71) dX12_look_71 rfl ?_
          refine x_getS (pc := 72) dX12_look_72 fX12_144 rfl (by decide) ?_
          refine x_iload_n (pc := 75) dX12_look_75 rfl ?_
          refine x_bipush (pc := 76) dX12_look_76 (v := (10 : Int32)) (by decide) ?_
          refine x_idiv (pc := 78) dX12_look_78 (by decide) ?_
          obtain ⟨hx34, h⟩ := wo_g h
          refine x_ialdJ (pc := 79) dX12_look_79 rfl rfl (by decide) hx34 ?_
          refine x_iload_n (pc := 80) dX12_look_80 rfl ?_
          refine x_bipush (pc := 81) dX12_look_81 (v := (10 : Int32)) (by decide) ?_
          refine x_irem (pc := 83) dX12_look_83 (by decide) ?_
          have j92 : ∀ (u35 : Int32), wo (f_X12_look_J92 l30 m31 u35) Q53 → mi_X mX12_look (6) 92 [(0, vr 12 0), (1, vi (l21 + (1 : Int32))), (2, vi l22), (3, vi l30)] [vi u35, vi (m31.1 75 0 l30.toNatClampNeg), vi l30, vr 75 0] m31 QX := by
            intro u35 h
            unfold f_X12_look_J92 at h
            refine x_iadd (pc := 92) dX12_look_92 ?_
            obtain ⟨hx36, h⟩ := wo_g h
            refine x_iastJ (pc := 93) dX12_look_93 rfl rfl (by decide) rfl hx36 ?_
            refine x_letm h (fun m37 h => ?_)
            refine x_iinc (ls' := [(3, _), (0, _), (1, _), (2, _)]) (pc := 94) dX12_look_94 rfl (v := l30 + (1 : Int32)) rfl rfl rfl ?_
            refine x_goto (pc := 97) dX12_look_97 (tgt := 53) (by decide) ?_
            refine x_sub [(0, _), (1, _), (2, _), (3, _)] ⟨rfl, rfl, rfl, rfl, trivial⟩ ?_
            exact hb53 ((l30 + (1 : Int32)), m37) (wo_some h)
          refine x_icmp_le (pc := 84) dX12_look_84 (tgt := 91) (by decide) (fun c38 => ?_) (fun c38 => ?_)
          · replace h := wo_pos c38 h
            refine x_iconst (pc := 91) dX12_look_91 (v := (0 : Int32)) (by decide) ?_
            refine x_sub [(0, _), (1, _), (2, _), (3, _)] ⟨rfl, rfl, rfl, rfl, trivial⟩ ?_
            exact j92 _ h
          · replace h := wo_neg c38 h
            refine x_iconst (pc := 87) dX12_look_87 (v := (1 : Int32)) (by decide) ?_
            refine x_goto (pc := 88) dX12_look_88 (tgt := 92) (by decide) ?_
            refine x_sub [(0, _), (1, _), (2, _), (3, _)] ⟨rfl, rfl, rfl, rfl, trivial⟩ ?_
            exact j92 _ h
  refine x_sub [(0, _), (1, _)] ⟨rfl, rfl, trivial⟩ ?_
  obtain ⟨ea, eb, h⟩ := wo_bo h
  refine wo_lq (X := fun s => match s with | (l42, m43) => mi_X mX12_look (6) 7 [(0, vr 12 0), (1, vi l42)] [] m43 QX) (E := fun e => wo (f_X12_look_K7 e) Q0) ?_ _ ((0 : Int32), m1) ⟨_, eb, h⟩
  intro Q7 hb7 he7 s h
  obtain ⟨l42, m43⟩ := s
  show mi_X mX12_look (6) 7 [(0, vr 12 0), (1, vi l42)] [] m43 QX
  unfold f_X12_look_B7 at h
  try dsimp only at h
  refine x_iload_n (pc := 7) dX12_look_7 rfl ?_
  refine x_bipush (pc := 8) dX12_look_8 (v := (60 : Int32)) (by decide) ?_
  refine x_icmp_ge (pc := 10) dX12_look_10 (tgt := 26) (by decide) (fun c46 => ?_) (fun c46 => ?_)
  · replace h := wo_pos c46 h
    refine x_sub [(0, _)] ⟨rfl, trivial⟩ ?_
    exact k7_0 _ (he7 m43 (wo_some h))
  · replace h := wo_neg c46 h
    refine x_aload_n (pc := 13) dX12_look_13 rfl ?_
    refine x_getS (pc := 14) dX12_look_14 fX12_147 rfl (by decide) ?_
    refine x_iload_n (pc := 17) dX12_look_17 rfl ?_
    refine x_iconst (pc := 18) dX12_look_18 (v := (0 : Int32)) (by decide) ?_
    obtain ⟨hx44, h⟩ := wo_g h
    refine x_iastJ (pc := 19) dX12_look_19 rfl rfl (by decide) rfl hx44 ?_
    refine x_letm h (fun m45 h => ?_)
    refine x_iinc (ls' := [(1, _), (0, _)]) (pc := 20) dX12_look_20 rfl (v := l42 + (1 : Int32)) rfl rfl rfl ?_
    refine x_goto (pc := 23) dX12_look_23 (tgt := 7) (by decide) ?_
    refine x_sub [(0, _), (1, _)] ⟨rfl, rfl, trivial⟩ ?_
    exact hb7 ((l42 + (1 : Int32)), m45) (wo_some h)
noncomputable def f_X12_losesBy_J19 (u1 : Int32) : Option (Int32) := some u1
noncomputable def f_X12_losesBy (p0 : Int32) (p1 : Int32) (p2 : Int32) (p3 : Int32) (mem : mi_M) : Option (Int32) := if p0 = (1 : Int32) then f_X12_losesBy_J19 p3 else if p1 = (1 : Int32) then f_X12_losesBy_J19 (0 : Int32) else f_X12_losesBy_J19 p2
set_option maxRecDepth 100000 in
set_option maxHeartbeats 4000000 in
theorem w_X12_losesBy (p0 : Int32) (p1 : Int32) (p2 : Int32) (p3 : Int32) (mem : mi_M) (a : Int32) (e : f_X12_losesBy p0 p1 p2 p3 mem = some a) : mi_Ci (1) mX12_losesBy [vi p0, vi p1, vi p2, vi p3] mem (fun x m' => x = a ∧ m' = mem) := by
  unfold mi_Ci
  refine mi_C_intro (ls := [(0, vi p0), (1, vi p1), (2, vi p2), (3, vi p3)]) (by decide) rfl rfl ?_
  obtain ⟨Q0, hq0, h⟩ : ∃ Q0 : Int32 → Prop, (∀ b, Q0 b → b = a) ∧ wo (f_X12_losesBy p0 p1 p2 p3 mem) Q0 := ⟨fun b => b = a, fun _ h => h, wo_eq e⟩
  obtain ⟨QX, hQX⟩ : ∃ QX : Option mi_V → mi_M → Prop, QX = (fun r m' => ∃ x, r = some (vi x) ∧ x = a ∧ m' = mem) := ⟨_, rfl⟩
  rw [← hQX]
  unfold f_X12_losesBy at h
  refine x_iload_n (pc := 0) dX12_losesBy_0 rfl ?_
  refine x_iconst (pc := 1) dX12_losesBy_1 (v := (1 : Int32)) (by decide) ?_
  have j19 : ∀ (u1 : Int32), wo (f_X12_losesBy_J19 u1) Q0 → mi_X mX12_losesBy (1) 19 [] [vi u1] mem QX := by
    intro u1 h
    unfold f_X12_losesBy_J19 at h
    exact x_iret (pc := 19) dX12_losesBy_19 rfl (by rw [hQX]; exact ⟨_, rfl, hq0 _ (wo_some h), rfl⟩)
  refine x_icmp_ne (pc := 2) dX12_losesBy_2 (tgt := 9) (by decide) (fun c3 => ?_) (fun c3 => ?_)
  · replace h := wo_neg c3 h
    refine x_iload_n (pc := 9) dX12_losesBy_9 rfl ?_
    refine x_iconst (pc := 10) dX12_losesBy_10 (v := (1 : Int32)) (by decide) ?_
    refine x_icmp_ne (pc := 11) dX12_losesBy_11 (tgt := 18) (by decide) (fun c2 => ?_) (fun c2 => ?_)
    · replace h := wo_neg c2 h
      refine x_iload_n (pc := 18) dX12_losesBy_18 rfl ?_
      refine x_sub [] trivial ?_
      exact j19 _ h
    · replace h := wo_pos c2 h
      refine x_iconst (pc := 14) dX12_losesBy_14 (v := (0 : Int32)) (by decide) ?_
      refine x_goto (pc := 15) dX12_losesBy_15 (tgt := 19) (by decide) ?_
      refine x_sub [] trivial ?_
      exact j19 _ h
  · replace h := wo_pos c3 h
    refine x_iload_n (pc := 5) dX12_losesBy_5 rfl ?_
    refine x_goto (pc := 6) dX12_losesBy_6 (tgt := 19) (by decide) ?_
    refine x_sub [] trivial ?_
    exact j19 _ h
noncomputable def f_X12_mark_J27 (m1 : mi_M) : Option (Int32 × mi_M) := mi_g ((0 : Int32) = 0 ∨ (0 : Int32) = 1) (some ((0 : Int32), m1))
noncomputable def f_X12_mark_J83 (m8 : mi_M) (u9 : Int32) : Option (Int32 × mi_M) := mi_let (mi_wI m8 12 0 22 u9) fun m10 => mi_g ((1 : Int32) = 0 ∨ (1 : Int32) = 1) (some ((1 : Int32), m10))
noncomputable def f_X12_mark_J65 (p1 : Int32) (m5 : mi_M) (u6 : Int32) (u7 : Int32) : Option (Int32 × mi_M) := mi_bo (f_X12_copies u6 u7 (63 : Int32) m5) fun m8 => if p1 = 0 then f_X12_mark_J83 m8 (m8.1 12 0 22) else f_X12_mark_J83 m8 (0 : Int32)
noncomputable def f_X12_mark_J51 (p0 : Int32) (p1 : Int32) (m5 : mi_M) (u6 : Int32) : Option (Int32 × mi_M) := if p1 = 0 then f_X12_mark_J65 p1 m5 u6 ((63 : Int32) * ((1 : Int32) + p0)) else f_X12_mark_J65 p1 m5 u6 (0 : Int32)
noncomputable def f_X12_mark_J29 (p0 : Int32) (p1 : Int32) (m1 : mi_M) : Option (Int32 × mi_M) := mi_g (vp_in p0 4) (mi_let (mi_wI m1 65 0 p0.toNatClampNeg (vp_nar .boolean (1 : Int32))) fun m5 => if p1 = 0 then f_X12_mark_J51 p0 p1 m5 (0 : Int32) else f_X12_mark_J51 p0 p1 m5 ((63 : Int32) * ((1 : Int32) + p0)))
noncomputable def f_X12_mark (p0 : Int32) (p1 : Int32) (mem : mi_M) : Option (Int32 × mi_M) := mi_let (mi_wI mem 12 0 0 (0 : Int32)) fun m1 => mi_bo (f_X12_within p0 (0 : Int32) (3 : Int32) m1) fun v2 => if v2 = 0 then f_X12_mark_J27 m1 else if p1 = 0 then f_X12_mark_J29 p0 p1 m1 else mi_g (vp_in p0 4) (if (m1.1 65 0 p0.toNatClampNeg) = 0 then f_X12_mark_J27 m1 else f_X12_mark_J29 p0 p1 m1)
set_option maxRecDepth 100000 in
set_option maxHeartbeats 4000000 in
theorem w_X12_mark (p0 : Int32) (p1 : Int32) (mem : mi_M) (a : Int32 × mi_M) (e : f_X12_mark p0 p1 mem = some a) : mi_Ci (2) mX12_mark [vr 12 0, vi p0, vi p1] mem (fun x m' => x = a.1 ∧ m' = a.2) := by
  unfold mi_Ci
  refine mi_C_intro (ls := [(0, vr 12 0), (1, vi p0), (2, vi p1)]) (by decide) rfl rfl ?_
  obtain ⟨Q0, hq0, h⟩ : ∃ Q0 : (Int32 × mi_M) → Prop, (∀ b, Q0 b → b = a) ∧ wo (f_X12_mark p0 p1 mem) Q0 := ⟨fun b => b = a, fun _ h => h, wo_eq e⟩
  obtain ⟨QX, hQX⟩ : ∃ QX : Option mi_V → mi_M → Prop, QX = (fun r m' => ∃ x, r = some (vi x) ∧ x = a.1 ∧ m' = a.2) := ⟨_, rfl⟩
  rw [← hQX]
  unfold f_X12_mark at h
  refine x_aload_n (pc := 0) dX12_mark_0 rfl ?_
  refine x_iconst (pc := 1) dX12_mark_1 (v := (0 : Int32)) (by decide) ?_
  refine x_putI (pc := 2) dX12_mark_2 fX12_1 rfl (by decide) rfl rfl ?_
  refine x_letm h (fun m1 h => ?_)
  refine x_iload_n (pc := 5) dX12_mark_5 rfl ?_
  refine x_iconst (pc := 6) dX12_mark_6 (v := (0 : Int32)) (by decide) ?_
  refine x_iconst (pc := 7) dX12_mark_7 (v := (3 : Int32)) (by decide) ?_
  refine z_Si3 (pc := 8) h dX12_mark_8 lX12_362 (by omega) rfl (fun a e => w_X12_within _ _ _ _ a e) (fun v2 h => ?_)
  have j27 : wo (f_X12_mark_J27 m1) Q0 → mi_X mX12_mark (2) 27 [] [] m1 QX := by
    intro h
    unfold f_X12_mark_J27 at h
    refine x_iconst (pc := 27) dX12_mark_27 (v := (0 : Int32)) (by decide) ?_
    obtain ⟨hb3, h⟩ := wo_g h
    exact x_zretB (pc := 28) dX12_mark_28 rfl hb3 (by rw [hQX]; exact ⟨_, rfl, congrArg Prod.fst (hq0 _ (wo_some h)), congrArg Prod.snd (hq0 _ (wo_some h))⟩)
  refine x_if_eq (pc := 11) dX12_mark_11 (tgt := 27) (by decide) (fun c18 => ?_) (fun c18 => ?_)
  · replace h := wo_pos c18 h
    refine x_sub [] trivial ?_
    exact j27 h
  · replace h := wo_neg c18 h
    refine x_iload_n (pc := 14) dX12_mark_14 rfl ?_
    have j29 : wo (f_X12_mark_J29 p0 p1 m1) Q0 → mi_X mX12_mark (2) 29 [(0, vr 12 0), (1, vi p0), (2, vi p1)] [] m1 QX := by
      intro h
      unfold f_X12_mark_J29 at h
      refine x_aload_n (pc := 29) dX12_mark_29 rfl ?_
      refine x_getS (pc := 30) dX12_mark_30 fX12_116 rfl (by decide) ?_
      refine x_iload_n (pc := 33) dX12_mark_33 rfl ?_
      refine x_iconst (pc := 34) dX12_mark_34 (v := (1 : Int32)) (by decide) ?_
      obtain ⟨hx4, h⟩ := wo_g h
      refine x_zastJ (pc := 35) dX12_mark_35 rfl rfl (by decide) rfl hx4 ?_
      refine x_letm h (fun m5 h => ?_)
      refine x_aload_n (pc := 36) dX12_mark_36 rfl ?_
      refine x_iload_n (pc := 37) dX12_mark_37 rfl ?_
      have j51 : ∀ (u6 : Int32), wo (f_X12_mark_J51 p0 p1 m5 u6) Q0 → mi_X mX12_mark (2) 51 [(0, vr 12 0), (1, vi p0), (2, vi p1)] [vi u6, vr 12 0] m5 QX := by
        intro u6 h
        unfold f_X12_mark_J51 at h
        refine x_iload_n (pc := 51) dX12_mark_51 rfl ?_
        have j65 : ∀ (u7 : Int32), wo (f_X12_mark_J65 p1 m5 u6 u7) Q0 → mi_X mX12_mark (2) 65 [(0, vr 12 0), (2, vi p1)] [vi u7, vi u6, vr 12 0] m5 QX := by
          intro u7 h
          unfold f_X12_mark_J65 at h
          refine x_bipush (pc := 65) dX12_mark_65 (v := (63 : Int32)) (by decide) ?_
          refine y_Vv3 (pc := 67) h dX12_mark_67 lX12_309 (by decide) (by omega) rfl (fun a e => w_X12_copies _ _ _ _ a e) (fun m8 h => ?_)
          refine x_aload_n (pc := 70) dX12_mark_70 rfl ?_
          refine x_iload_n (pc := 71) dX12_mark_71 rfl ?_
          have j83 : ∀ (u9 : Int32), wo (f_X12_mark_J83 m8 u9) Q0 → mi_X mX12_mark (2) 83 [] [vi u9, vr 12 0] m8 QX := by
            intro u9 h
            unfold f_X12_mark_J83 at h
            refine x_putI (pc := 83) dX12_mark_83 fX12_306 rfl (by decide) rfl rfl ?_
            refine x_letm h (fun m10 h => ?_)
            refine x_iconst (pc := 86) dX12_mark_86 (v := (1 : Int32)) (by decide) ?_
            obtain ⟨hb11, h⟩ := wo_g h
            exact x_zretB (pc := 87) dX12_mark_87 rfl hb11 (by rw [hQX]; exact ⟨_, rfl, congrArg Prod.fst (hq0 _ (wo_some h)), congrArg Prod.snd (hq0 _ (wo_some h))⟩)
          refine x_if_eq (pc := 72) dX12_mark_72 (tgt := 79) (by decide) (fun c12 => ?_) (fun c12 => ?_)
          · replace h := wo_pos c12 h
            refine x_aload_n (pc := 79) dX12_mark_79 rfl ?_
            refine x_getI (pc := 80) dX12_mark_80 fX12_306 rfl (by decide) ?_
            refine x_sub [] trivial ?_
            exact j83 _ h
          · replace h := wo_neg c12 h
            refine x_iconst (pc := 75) dX12_mark_75 (v := (0 : Int32)) (by decide) ?_
            refine x_goto (pc := 76) dX12_mark_76 (tgt := 83) (by decide) ?_
            refine x_sub [] trivial ?_
            exact j83 _ h
        refine x_if_eq (pc := 52) dX12_mark_52 (tgt := 59) (by decide) (fun c13 => ?_) (fun c13 => ?_)
        · replace h := wo_pos c13 h
          refine x_bipush (pc := 59) dX12_mark_59 (v := (63 : Int32)) (by decide) ?_
          refine x_iconst (pc := 61) dX12_mark_61 (v := (1 : Int32)) (by decide) ?_
          refine x_iload_n (pc := 62) dX12_mark_62 rfl ?_
          refine x_iadd (pc := 63) dX12_mark_63 ?_
          refine x_imul (pc := 64) dX12_mark_64 ?_
          refine x_sub [(0, _), (2, _)] ⟨rfl, rfl, trivial⟩ ?_
          exact j65 _ h
        · replace h := wo_neg c13 h
          refine x_iconst (pc := 55) dX12_mark_55 (v := (0 : Int32)) (by decide) ?_
          refine x_goto (pc := 56) dX12_mark_56 (tgt := 65) (by decide) ?_
          refine x_sub [(0, _), (2, _)] ⟨rfl, rfl, trivial⟩ ?_
          exact j65 _ h
      refine x_if_eq (pc := 38) dX12_mark_38 (tgt := 50) (by decide) (fun c14 => ?_) (fun c14 => ?_)
      · replace h := wo_pos c14 h
        refine x_iconst (pc := 50) dX12_mark_50 (v := (0 : Int32)) (by decide) ?_
        refine x_sub [(0, _), (1, _), (2, _)] ⟨rfl, rfl, rfl, trivial⟩ ?_
        exact j51 _ h
      · replace h := wo_neg c14 h
        refine x_bipush (pc := 41) dX12_mark_41 (v := (63 : Int32)) (by decide) ?_
        refine x_iconst (pc := 43) dX12_mark_43 (v := (1 : Int32)) (by decide) ?_
        refine x_iload_n (pc := 44) dX12_mark_44 rfl ?_
        refine x_iadd (pc := 45) dX12_mark_45 ?_
        refine x_imul (pc := 46) dX12_mark_46 ?_
        refine x_goto (pc := 47) dX12_mark_47 (tgt := 51) (by decide) ?_
        refine x_sub [(0, _), (1, _), (2, _)] ⟨rfl, rfl, rfl, trivial⟩ ?_
        exact j51 _ h
    refine x_if_eq (pc := 15) dX12_mark_15 (tgt := 29) (by decide) (fun c17 => ?_) (fun c17 => ?_)
    · replace h := wo_pos c17 h
      refine x_sub [(0, _), (1, _), (2, _)] ⟨rfl, rfl, rfl, trivial⟩ ?_
      exact j29 h
    · replace h := wo_neg c17 h
      refine x_aload_n (pc := 18) dX12_mark_18 rfl ?_
      refine x_getS (pc := 19) dX12_mark_19 fX12_116 rfl (by decide) ?_
      refine x_iload_n (pc := 22) dX12_mark_22 rfl ?_
      obtain ⟨hx15, h⟩ := wo_g h
      refine x_zaldJ (pc := 23) dX12_mark_23 rfl rfl (by decide) hx15 ?_
      refine x_if_ne (pc := 24) dX12_mark_24 (tgt := 29) (by decide) (fun c16 => ?_) (fun c16 => ?_)
      · replace h := wo_neg c16 h
        refine x_sub [(0, _), (1, _), (2, _)] ⟨rfl, rfl, rfl, trivial⟩ ?_
        exact j29 h
      · replace h := wo_pos c16 h
        refine x_sub [] trivial ?_
        exact j27 h
noncomputable def f_X12_middle_J128 (l7 : Int32) (u11 : Int32) (u12 : Int32) : Option ((Int32 × Int32 × Int32) ⊕ (Int32)) := some (.inl (u11, u12, (l7 + (1 : Int32))))
noncomputable def f_X12_middle_J116 (l6 : Int32) (l7 : Int32) (e9 : Int32) (u10 : Int32) (u11 : Int32) : Option ((Int32 × Int32 × Int32) ⊕ (Int32)) := if u10 = 0 then f_X12_middle_J128 l7 u11 l6 else f_X12_middle_J128 l7 u11 e9
noncomputable def f_X12_middle_J104 (l5 : Int32) (l6 : Int32) (l7 : Int32) (e9 : Int32) (u10 : Int32) : Option ((Int32 × Int32 × Int32) ⊕ (Int32)) := if u10 = 0 then f_X12_middle_J116 l6 l7 e9 u10 l5 else f_X12_middle_J116 l6 l7 e9 u10 l7
noncomputable def f_X12_middle_J99 (l5 : Int32) (l6 : Int32) (l7 : Int32) (e9 : Int32) : Option ((Int32 × Int32 × Int32) ⊕ (Int32)) := f_X12_middle_J104 l5 l6 l7 e9 (1 : Int32)
noncomputable def f_X12_middle_J80 (l17 : Int32) (l18 : Int32) (u21 : Int32) : Option ((Int32 × Int32) ⊕ (Int32)) := mi_let (l17 + u21) fun v22 => some (.inl (v22, (l18 + (1 : Int32))))
noncomputable def f_X12_middle_B34 (m3 : mi_M) (l7 : Int32) : (Int32 × Int32) → Option ((Int32 × Int32) ⊕ (Int32)) := fun s => match s with | (l17, l18) => mi_bo (f_X12_people m3) fun v19 => if v19 ≤ l18 then some (.inr l17) else mi_g (vp_in (((6 : Int32) * l7) + l18) 36) (if (m3.1 66 0 (((6 : Int32) * l7) + l18).toNatClampNeg) < (1000000 : Int32) then mi_g (vp_in (((6 : Int32) * l7) + l18) 36) (f_X12_middle_J80 l17 l18 (m3.1 66 0 (((6 : Int32) * l7) + l18).toNatClampNeg)) else f_X12_middle_J80 l17 l18 (100 : Int32))
noncomputable def f_X12_middle_K34 (l5 : Int32) (l6 : Int32) (l7 : Int32) : Int32 → Option ((Int32 × Int32 × Int32) ⊕ (Int32)) := fun e9 => if l5 < 0 then f_X12_middle_J99 l5 l6 l7 e9 else if l6 ≤ e9 then f_X12_middle_J104 l5 l6 l7 e9 (0 : Int32) else f_X12_middle_J99 l5 l6 l7 e9
noncomputable def f_X12_middle_B20 (m3 : mi_M) : (Int32 × Int32 × Int32) → Option ((Int32 × Int32 × Int32) ⊕ (Int32)) := fun s => match s with | (l5, l6, l7) => mi_bo (f_X12_people m3) fun v8 => if v8 ≤ l7 then some (.inr l5) else mi_bo (mi_lp (f_X12_middle_B34 m3 l7) mi_fu ((0 : Int32), (0 : Int32))) (f_X12_middle_K34 l5 l6 l7)
noncomputable def f_X12_middle_K20 (m3 : mi_M) : Int32 → Option (Int32 × mi_M) := fun e4 => some (e4, m3)
noncomputable def f_X12_middle (mem : mi_M) : Option (Int32 × mi_M) := mi_let (mi_wI mem 12 0 0 (0 : Int32)) fun m1 => mi_bo (f_X12_lampsOf (0 : Int32) m1) fun v2 => mi_bo (f_X12_laysWays v2 m1) fun m3 => mi_bo (mi_lp (f_X12_middle_B20 m3) mi_fu ((-1 : Int32), (0 : Int32), (0 : Int32))) (f_X12_middle_K20 m3)
set_option maxRecDepth 100000 in
set_option maxHeartbeats 4000000 in
theorem w_X12_middle (mem : mi_M) (a : Int32 × mi_M) (e : f_X12_middle  mem = some a) : mi_Ci (3) mX12_middle [vr 12 0] mem (fun x m' => x = a.1 ∧ m' = a.2) := by
  unfold mi_Ci
  refine mi_C_intro (ls := [(0, vr 12 0)]) (by decide) rfl rfl ?_
  obtain ⟨Q0, hq0, h⟩ : ∃ Q0 : (Int32 × mi_M) → Prop, (∀ b, Q0 b → b = a) ∧ wo (f_X12_middle  mem) Q0 := ⟨fun b => b = a, fun _ h => h, wo_eq e⟩
  obtain ⟨QX, hQX⟩ : ∃ QX : Option mi_V → mi_M → Prop, QX = (fun r m' => ∃ x, r = some (vi x) ∧ x = a.1 ∧ m' = a.2) := ⟨_, rfl⟩
  rw [← hQX]
  unfold f_X12_middle at h
  refine x_aload_n (pc := 0) dX12_middle_0 rfl ?_
  refine x_iconst (pc := 1) dX12_middle_1 (v := (0 : Int32)) (by decide) ?_
  refine x_putI (pc := 2) dX12_middle_2 fX12_1 rfl (by decide) rfl rfl ?_
  refine x_letm h (fun m1 h => ?_)
  refine x_aload_n (pc := 5) dX12_middle_5 rfl ?_
  refine x_aload_n (pc := 6) dX12_middle_6 rfl ?_
  refine x_iconst (pc := 7) dX12_middle_7 (v := (0 : Int32)) (by decide) ?_
  refine z_Vi1 (pc := 8) h dX12_middle_8 lX12_353 (by decide) (by omega) rfl (fun a e => w_X12_lampsOf _ _ a e) (fun v2 h => ?_)
  refine y_Vv1 (pc := 11) h dX12_middle_11 lX12_347 (by decide) (by omega) rfl (fun a e => w_X12_laysWays _ _ a e) (fun m3 h => ?_)
  refine x_iconst (pc := 14) dX12_middle_14 (v := (-1 : Int32)) (by decide) ?_
  refine x_istore_n (ls' := [(1, _), (0, _)]) (pc := 15) dX12_middle_15 rfl rfl rfl ?_
  refine x_iconst (pc := 16) dX12_middle_16 (v := (0 : Int32)) (by decide) ?_
  refine x_istore_n (ls' := [(2, _), (1, _), (0, _)]) (pc := 17) dX12_middle_17 rfl rfl rfl ?_
  refine x_iconst (pc := 18) dX12_middle_18 (v := (0 : Int32)) (by decide) ?_
  refine x_istore_n (ls' := [(3, _), (2, _), (1, _), (0, _)]) (pc := 19) dX12_middle_19 rfl rfl rfl ?_
  have k20_0 : ∀ (e4 : Int32), wo (f_X12_middle_K20 m3 e4) Q0 → mi_X mX12_middle (3) 135 [(1, vi e4)] [] m3 QX := by
    intro e4 h
    unfold f_X12_middle_K20 at h
    try dsimp only at h
    refine x_iload_n (pc := 135) dX12_middle_135 rfl ?_
    exact x_iret (pc := 136) dX12_middle_136 rfl (by rw [hQX]; exact ⟨_, rfl, congrArg Prod.fst (hq0 _ (wo_some h)), congrArg Prod.snd (hq0 _ (wo_some h))⟩)
  refine x_sub [(0, _), (1, _), (2, _), (3, _)] ⟨rfl, rfl, rfl, rfl, trivial⟩ ?_
  obtain ⟨ea, eb, h⟩ := wo_bo h
  refine wo_lq (X := fun s => match s with | (l5, l6, l7) => mi_X mX12_middle (3) 20 [(0, vr 12 0), (1, vi l5), (2, vi l6), (3, vi l7)] [] m3 QX) (E := fun e => wo (f_X12_middle_K20 m3 e) Q0) ?_ _ ((-1 : Int32), (0 : Int32), (0 : Int32)) ⟨_, eb, h⟩
  intro Q20 hb20 he20 s h
  obtain ⟨l5, l6, l7⟩ := s
  show mi_X mX12_middle (3) 20 [(0, vr 12 0), (1, vi l5), (2, vi l6), (3, vi l7)] [] m3 QX
  unfold f_X12_middle_B20 at h
  try dsimp only at h
  refine x_iload_n (pc := 20) dX12_middle_20 rfl ?_
  refine x_aload_n (pc := 21) dX12_middle_21 rfl ?_
  refine z_Vi0 (pc := 22) h dX12_middle_22 lX12_294 (by decide) (by omega) rfl (fun a e => w_X12_people _ a e) (fun v8 h => ?_)
  refine x_icmp_ge (pc := 25) dX12_middle_25 (tgt := 135) (by decide) (fun c26 => ?_) (fun c26 => ?_)
  · replace h := wo_pos c26 h
    refine x_sub [(1, _)] ⟨rfl, trivial⟩ ?_
    exact k20_0 _ (he20 l5 (wo_some h))
  · replace h := wo_neg c26 h
    refine x_iconst (pc := 28) dX12_middle_28 (v := (0 : Int32)) (by decide) ?_
    refine x_istore (ls' := [(4, _), (0, _), (1, _), (2, _), (3, _)]) (pc := 29) dX12_middle_29 rfl rfl ?_
    refine x_iconst (pc := 31) dX12_middle_31 (v := (0 : Int32)) (by decide) ?_
    refine x_istore (ls' := [(5, _), (4, _), (0, _), (1, _), (2, _), (3, _)]) (pc := 32) dX12_middle_32 rfl rfl ?_
    have k34_0 : ∀ (e9 : Int32), wo (f_X12_middle_K34 l5 l6 l7 e9) Q20 → mi_X mX12_middle (3) 89 [(0, vr 12 0), (1, vi l5), (2, vi l6), (3, vi l7), (4, vi e9)] [] m3 QX := by
      intro e9 h
      unfold f_X12_middle_K34 at h
      try dsimp only at h
      refine x_iload_n (pc := 89) dX12_middle_89 rfl ?_
      have j104 : ∀ (u10 : Int32), wo (f_X12_middle_J104 l5 l6 l7 e9 u10) Q20 → mi_X mX12_middle (3) 104 [(0, vr 12 0), (1, vi l5), (2, vi l6), (3, vi l7), (4, vi e9)] [vi u10] m3 QX := by
        intro u10 h
        unfold f_X12_middle_J104 at h
        refine x_istore (ls' := [(5, _), (0, _), (1, _), (2, _), (3, _), (4, _)]) (pc := 104) dX12_middle_104 rfl rfl ?_
        refine x_iload (pc := 106) dX12_middle_106 rfl ?_
        have j116 : ∀ (u11 : Int32), wo (f_X12_middle_J116 l6 l7 e9 u10 u11) Q20 → mi_X mX12_middle (3) 116 [(0, vr 12 0), (2, vi l6), (3, vi l7), (4, vi e9), (5, vi u10)] [vi u11] m3 QX := by
          intro u11 h
          unfold f_X12_middle_J116 at h
          refine x_istore_n (ls' := [(1, _), (0, _), (2, _), (3, _), (4, _), (5, _)]) (pc := 116) dX12_middle_116 rfl rfl rfl ?_
          refine x_iload (pc := 117) dX12_middle_117 rfl ?_
          have j128 : ∀ (u12 : Int32), wo (f_X12_middle_J128 l7 u11 u12) Q20 → mi_X mX12_middle (3) 128 [(0, vr 12 0), (1, vi u11), (3, vi l7)] [vi u12] m3 QX := by
            intro u12 h
            unfold f_X12_middle_J128 at h
            refine x_istore_n (ls' := [(2, _), (0, _), (1, _), (3, _)]) (pc := 128) dX12_middle_128 rfl rfl rfl ?_
            refine x_iinc (ls' := [(3, _), (2, _), (0, _), (1, _)]) (pc := 129) dX12_middle_129 rfl (v := l7 + (1 : Int32)) rfl rfl rfl ?_
            refine x_goto (pc := 132) dX12_middle_132 (tgt := 20) (by decide) ?_
            refine x_sub [(0, _), (1, _), (2, _), (3, _)] ⟨rfl, rfl, rfl, rfl, trivial⟩ ?_
            exact hb20 (u11, u12, (l7 + (1 : Int32))) (wo_some h)
          refine x_if_eq (pc := 119) dX12_middle_119 (tgt := 127) (by decide) (fun c13 => ?_) (fun c13 => ?_)
          · replace h := wo_pos c13 h
            refine x_iload_n (pc := 127) dX12_middle_127 rfl ?_
            refine x_sub [(0, _), (1, _), (3, _)] ⟨rfl, rfl, rfl, trivial⟩ ?_
            exact j128 _ h
          · replace h := wo_neg c13 h
            refine x_iload (pc := 122) dX12_middle_122 rfl ?_
            refine x_goto (pc := 124) dX12_middle_124 (tgt := 128) (by decide) ?_
            refine x_sub [(0, _), (1, _), (3, _)] ⟨rfl, rfl, rfl, trivial⟩ ?_
            exact j128 _ h
        refine x_if_eq (pc := 108) dX12_middle_108 (tgt := 115) (by decide) (fun c14 => ?_) (fun c14 => ?_)
        · replace h := wo_pos c14 h
          refine x_iload_n (pc := 115) dX12_middle_115 rfl ?_
          refine x_sub [(0, _), (2, _), (3, _), (4, _), (5, _)] ⟨rfl, rfl, rfl, rfl, rfl, trivial⟩ ?_
          exact j116 _ h
        · replace h := wo_neg c14 h
          refine x_iload_n (pc := 111) dX12_middle_111 rfl ?_
          refine x_goto (pc := 112) dX12_middle_112 (tgt := 116) (by decide) ?_
          refine x_sub [(0, _), (2, _), (3, _), (4, _), (5, _)] ⟨rfl, rfl, rfl, rfl, rfl, trivial⟩ ?_
          exact j116 _ h
      have j99 : wo (f_X12_middle_J99 l5 l6 l7 e9) Q20 → mi_X mX12_middle (3) 99 [(0, vr 12 0), (1, vi l5), (2, vi l6), (3, vi l7), (4, vi e9)] [] m3 QX := by
        intro h
        unfold f_X12_middle_J99 at h
        refine x_iconst (pc := 99) dX12_middle_99 (v := (1 : Int32)) (by decide) ?_
        refine x_goto (pc := 100) dX12_middle_100 (tgt := 104) (by decide) ?_
        refine x_sub [(0, _), (1, _), (2, _), (3, _), (4, _)] ⟨rfl, rfl, rfl, rfl, rfl, trivial⟩ ?_
        exact j104 _ h
      refine x_if_lt (pc := 90) dX12_middle_90 (tgt := 99) (by decide) (fun c16 => ?_) (fun c16 => ?_)
      · replace h := wo_pos c16 h
        refine x_sub [(0, _), (1, _), (2, _), (3, _), (4, _)] ⟨rfl, rfl, rfl, rfl, rfl, trivial⟩ ?_
        exact j99 h
      · replace h := wo_neg c16 h
        refine x_iload (pc := 93) dX12_middle_93 rfl ?_
        refine x_iload_n (pc := 95) dX12_middle_95 rfl ?_
        refine x_icmp_ge (pc := 96) dX12_middle_96 (tgt := 103) (by decide) (fun c15 => ?_) (fun c15 => ?_)
        · replace h := wo_pos c15 h
          refine x_iconst (pc := 103) dX12_middle_103 (v := (0 : Int32)) (by decide) ?_
          refine x_sub [(0, _), (1, _), (2, _), (3, _), (4, _)] ⟨rfl, rfl, rfl, rfl, rfl, trivial⟩ ?_
          exact j104 _ h
        · replace h := wo_neg c15 h
          refine x_sub [(0, _), (1, _), (2, _), (3, _), (4, _)] ⟨rfl, rfl, rfl, rfl, rfl, trivial⟩ ?_
          exact j99 h
    refine x_sub [(0, _), (1, _), (2, _), (3, _), (4, _), (5, _)] ⟨rfl, rfl, rfl, rfl, rfl, rfl, trivial⟩ ?_
    obtain ⟨ea, eb, h⟩ := wo_bo h
    refine wo_lq (X := fun s => match s with | (l17, l18) => mi_X mX12_middle (3) 34 [(0, vr 12 0), (1, vi l5), (2, vi l6), (3, vi l7), (4, vi l17), (5, vi l18)] [] m3 QX) (E := fun e => wo (f_X12_middle_K34 l5 l6 l7 e) Q20) ?_ _ ((0 : Int32), (0 : Int32)) ⟨_, eb, h⟩
    intro Q34 hb34 he34 s h
    obtain ⟨l17, l18⟩ := s
    show mi_X mX12_middle (3) 34 [(0, vr 12 0), (1, vi l5), (2, vi l6), (3, vi l7), (4, vi l17), (5, vi l18)] [] m3 QX
    unfold f_X12_middle_B34 at h
    try dsimp only at h
    refine x_iload (pc := 34) dX12_middle_34 rfl ?_
    refine x_aload_n (pc := 36) dX12_middle_36 rfl ?_
    refine z_Vi0 (pc := 37) h dX12_middle_37 lX12_294 (by decide) (by omega) rfl (fun a e => w_X12_people _ a e) (fun v19 h => ?_)
    refine x_icmp_ge (pc := 40) dX12_middle_40 (tgt := 89) (by decide) (fun c25 => ?_) (fun c25 => ?_)
    · replace h := wo_pos c25 h
      refine x_sub [(0, _), (1, _), (2, _), (3, _), (4, _)] ⟨rfl, rfl, rfl, rfl, rfl, trivial⟩ ?_
      exact k34_0 _ (he34 l17 (wo_some h))
    · replace h := wo_neg c25 h
      refine x_iload (pc := 43) dX12_middle_43 rfl ?_
      refine x_aload_n (pc := 45) dX12_middle_45 rfl ?_
      refine x_getS (pc := 46) dX12_middle_46 fX12_120 rfl (by decide) ?_
      refine x_bipush (pc := 49) dX12_middle_49 (v := (6 : Int32)) (by decide) ?_
      refine x_iload_n (pc := 51) dX12_middle_51 rfl ?_
      refine x_imul (pc := 52) dX12_middle_52 ?_
      refine x_iload (pc := 53) dX12_middle_53 rfl ?_
      refine x_iadd (pc := 55) dX12_middle_55 ?_
      obtain ⟨hx20, h⟩ := wo_g h
      refine x_ialdJ (pc := 56) dX12_middle_56 rfl rfl (by decide) hx20 ?_
      refine x_ldcw (pc := 57) dX12_middle_57 kX12_342 ?_
      have j80 : ∀ (u21 : Int32), wo (f_X12_middle_J80 l17 l18 u21) Q34 → mi_X mX12_middle (3) 80 [(0, vr 12 0), (1, vi l5), (2, vi l6), (3, vi l7), (5, vi l18)] [vi u21, vi l17] m3 QX := by
        intro u21 h
        unfold f_X12_middle_J80 at h
        refine x_iadd (pc := 80) dX12_middle_80 ?_
        refine x_leti h (fun v22 h => ?_)
        refine x_istore (ls' := [(4, _), (0, _), (1, _), (2, _), (3, _), (5, _)]) (pc := 81) dX12_middle_81 rfl rfl ?_
        refine x_iinc (ls' := [(5, _), (4, _), (0, _), (1, _), (2, _), (3, _)]) (pc := 83) dX12_middle_83 rfl (v := l18 + (1 : Int32)) rfl rfl rfl ?_
        refine x_goto (pc := 86) dX12_middle_86 (tgt := 34) (by decide) ?_
        refine x_sub [(0, _), (1, _), (2, _), (3, _), (4, _), (5, _)] ⟨rfl, rfl, rfl, rfl, rfl, rfl, trivial⟩ ?_
        exact hb34 (v22, (l18 + (1 : Int32))) (wo_some h)
      refine x_icmp_lt (pc := 60) dX12_middle_60 (tgt := 68) (by decide) (fun c24 => ?_) (fun c24 => ?_)
      · replace h := wo_pos c24 h
        refine x_aload_n (pc := 68) dX12_middle_68 rfl ?_
        refine x_getS (pc := 69) dX12_middle_69 fX12_120 rfl (by decide) ?_
        refine x_bipush (pc := 72) dX12_middle_72 (v := (6 : Int32)) (by decide) ?_
        refine x_iload_n (pc := 74) dX12_middle_74 rfl ?_
        refine x_imul (pc := 75) dX12_middle_75 ?_
        refine x_iload (pc := 76) dX12_middle_76 rfl ?_
        refine x_iadd (pc := 78) dX12_middle_78 ?_
        obtain ⟨hx23, h⟩ := wo_g h
        refine x_ialdJ (pc := 79) dX12_middle_79 rfl rfl (by decide) hx23 ?_
        refine x_sub [(0, _), (1, _), (2, _), (3, _), (5, _)] ⟨rfl, rfl, rfl, rfl, rfl, trivial⟩ ?_
        exact j80 _ h
      · replace h := wo_neg c24 h
        refine x_bipush (pc := 63) dX12_middle_63 (v := (100 : Int32)) (by decide) ?_
        refine x_goto (pc := 65) dX12_middle_65 (tgt := 80) (by decide) ?_
        refine x_sub [(0, _), (1, _), (2, _), (3, _), (5, _)] ⟨rfl, rfl, rfl, rfl, rfl, trivial⟩ ?_
        exact j80 _ h
noncomputable def f_X12_need_J47 (l5 : Int32) (u8 : Int32) (m9 : mi_M) : Option ((Int32 × Int32 × mi_M) ⊕ (Int32 × mi_M)) := some (.inl (u8, (l5 + (1 : Int32)), m9))
noncomputable def f_X12_need_J46 (l4 : Int32) (l5 : Int32) (m10 : mi_M) : Option ((Int32 × Int32 × mi_M) ⊕ (Int32 × mi_M)) := f_X12_need_J47 l5 l4 m10
noncomputable def f_X12_need_J34 (l4 : Int32) (l5 : Int32) (m6 : mi_M) : Option ((Int32 × Int32 × mi_M) ⊕ (Int32 × mi_M)) := mi_b (f_X12_allLit l5 m6) fun v11 m12 => if v11 = 0 then f_X12_need_J46 l4 l5 m12 else f_X12_need_J47 l5 l5 m12
noncomputable def f_X12_need_B9 : (Int32 × Int32 × mi_M) → Option ((Int32 × Int32 × mi_M) ⊕ (Int32 × mi_M)) := fun s => match s with | (l4, l5, m6) => mi_bo (f_X12_people m6) fun v7 => if ((1 : Int32) <<< (v7 &&& 31)) ≤ l5 then some (.inr (l4, m6)) else if l4 < 0 then f_X12_need_J34 l4 l5 m6 else mi_bo (f_X12_bits l5 m6) fun v14 => mi_bo (f_X12_bits l4 m6) fun v15 => if v15 ≤ v14 then f_X12_need_J46 l4 l5 m6 else f_X12_need_J34 l4 l5 m6
noncomputable def f_X12_need_K9 : (Int32 × mi_M) → Option (Int32 × mi_M) := fun e => match e with | (e2, m3) => some (e2, m3)
noncomputable def f_X12_need (mem : mi_M) : Option (Int32 × mi_M) := mi_let (mi_wI mem 12 0 0 (0 : Int32)) fun m1 => mi_bo (mi_lp (f_X12_need_B9) mi_fu ((-1 : Int32), (0 : Int32), m1)) (f_X12_need_K9)
set_option maxRecDepth 100000 in
set_option maxHeartbeats 4000000 in
theorem w_X12_need (mem : mi_M) (a : Int32 × mi_M) (e : f_X12_need  mem = some a) : mi_Ci (4) mX12_need [vr 12 0] mem (fun x m' => x = a.1 ∧ m' = a.2) := by
  unfold mi_Ci
  refine mi_C_intro (ls := [(0, vr 12 0)]) (by decide) rfl rfl ?_
  obtain ⟨Q0, hq0, h⟩ : ∃ Q0 : (Int32 × mi_M) → Prop, (∀ b, Q0 b → b = a) ∧ wo (f_X12_need  mem) Q0 := ⟨fun b => b = a, fun _ h => h, wo_eq e⟩
  obtain ⟨QX, hQX⟩ : ∃ QX : Option mi_V → mi_M → Prop, QX = (fun r m' => ∃ x, r = some (vi x) ∧ x = a.1 ∧ m' = a.2) := ⟨_, rfl⟩
  rw [← hQX]
  unfold f_X12_need at h
  refine x_aload_n (pc := 0) dX12_need_0 rfl ?_
  refine x_iconst (pc := 1) dX12_need_1 (v := (0 : Int32)) (by decide) ?_
  refine x_putI (pc := 2) dX12_need_2 fX12_1 rfl (by decide) rfl rfl ?_
  refine x_letm h (fun m1 h => ?_)
  refine x_iconst (pc := 5) dX12_need_5 (v := (-1 : Int32)) (by decide) ?_
  refine x_istore_n (ls' := [(1, _), (0, _)]) (pc := 6) dX12_need_6 rfl rfl rfl ?_
  refine x_iconst (pc := 7) dX12_need_7 (v := (0 : Int32)) (by decide) ?_
  refine x_istore_n (ls' := [(2, _), (1, _), (0, _)]) (pc := 8) dX12_need_8 rfl rfl rfl ?_
  have k9_0 : ∀ (e2 : Int32) (m3 : mi_M), wo (f_X12_need_K9 (e2, m3)) Q0 → mi_X mX12_need (4) 54 [(1, vi e2)] [] m3 QX := by
    intro e2 m3 h
    unfold f_X12_need_K9 at h
    try dsimp only at h
    refine x_iload_n (pc := 54) dX12_need_54 rfl ?_
    exact x_iret (pc := 55) dX12_need_55 rfl (by rw [hQX]; exact ⟨_, rfl, congrArg Prod.fst (hq0 _ (wo_some h)), congrArg Prod.snd (hq0 _ (wo_some h))⟩)
  refine x_sub [(0, _), (1, _), (2, _)] ⟨rfl, rfl, rfl, trivial⟩ ?_
  obtain ⟨ea, eb, h⟩ := wo_bo h
  refine wo_lq (X := fun s => match s with | (l4, l5, m6) => mi_X mX12_need (4) 9 [(0, vr 12 0), (1, vi l4), (2, vi l5)] [] m6 QX) (E := fun e => wo (f_X12_need_K9 e) Q0) ?_ _ ((-1 : Int32), (0 : Int32), m1) ⟨_, eb, h⟩
  intro Q9 hb9 he9 s h
  obtain ⟨l4, l5, m6⟩ := s
  show mi_X mX12_need (4) 9 [(0, vr 12 0), (1, vi l4), (2, vi l5)] [] m6 QX
  unfold f_X12_need_B9 at h
  try dsimp only at h
  refine x_iload_n (pc := 9) dX12_need_9 rfl ?_
  refine x_iconst (pc := 10) dX12_need_10 (v := (1 : Int32)) (by decide) ?_
  refine x_aload_n (pc := 11) dX12_need_11 rfl ?_
  refine z_Vi0 (pc := 12) h dX12_need_12 lX12_294 (by decide) (by omega) rfl (fun a e => w_X12_people _ a e) (fun v7 h => ?_)
  refine x_ishl (pc := 15) dX12_need_15 ?_
  refine x_icmp_ge (pc := 16) dX12_need_16 (tgt := 54) (by decide) (fun c18 => ?_) (fun c18 => ?_)
  · replace h := wo_pos c18 h
    refine x_sub [(1, _)] ⟨rfl, trivial⟩ ?_
    exact k9_0 _ _ (he9 (l4, m6) (wo_some h))
  · replace h := wo_neg c18 h
    refine x_iload_n (pc := 19) dX12_need_19 rfl ?_
    have j47 : ∀ (u8 : Int32) (m9 : mi_M), wo (f_X12_need_J47 l5 u8 m9) Q9 → mi_X mX12_need (4) 47 [(0, vr 12 0), (2, vi l5)] [vi u8] m9 QX := by
      intro u8 m9 h
      unfold f_X12_need_J47 at h
      refine x_istore_n (ls' := [(1, _), (0, _), (2, _)]) (pc := 47) dX12_need_47 rfl rfl rfl ?_
      refine x_iinc (ls' := [(2, _), (1, _), (0, _)]) (pc := 48) dX12_need_48 rfl (v := l5 + (1 : Int32)) rfl rfl rfl ?_
      refine x_goto (pc := 51) dX12_need_51 (tgt := 9) (by decide) ?_
      refine x_sub [(0, _), (1, _), (2, _)] ⟨rfl, rfl, rfl, trivial⟩ ?_
      exact hb9 (u8, (l5 + (1 : Int32)), m9) (wo_some h)
    have j46 : ∀ (m10 : mi_M), wo (f_X12_need_J46 l4 l5 m10) Q9 → mi_X mX12_need (4) 46 [(0, vr 12 0), (1, vi l4), (2, vi l5)] [] m10 QX := by
      intro m10 h
      unfold f_X12_need_J46 at h
      refine x_iload_n (pc := 46) dX12_need_46 rfl ?_
      refine x_sub [(0, _), (2, _)] ⟨rfl, rfl, trivial⟩ ?_
      exact j47 _ _ h
    have j34 : wo (f_X12_need_J34 l4 l5 m6) Q9 → mi_X mX12_need (4) 34 [(0, vr 12 0), (1, vi l4), (2, vi l5)] [] m6 QX := by
      intro h
      unfold f_X12_need_J34 at h
      refine x_aload_n (pc := 34) dX12_need_34 rfl ?_
      refine x_iload_n (pc := 35) dX12_need_35 rfl ?_
      refine y_Vi1 (pc := 36) h dX12_need_36 lX12_435 (by decide) (by omega) rfl (fun a e => w_X12_allLit _ _ a e) (fun v11 m12 h => ?_)
      refine x_if_eq (pc := 39) dX12_need_39 (tgt := 46) (by decide) (fun c13 => ?_) (fun c13 => ?_)
      · replace h := wo_pos c13 h
        refine x_sub [(0, _), (1, _), (2, _)] ⟨rfl, rfl, rfl, trivial⟩ ?_
        exact j46 _ h
      · replace h := wo_neg c13 h
        refine x_iload_n (pc := 42) dX12_need_42 rfl ?_
        refine x_goto (pc := 43) dX12_need_43 (tgt := 47) (by decide) ?_
        refine x_sub [(0, _), (2, _)] ⟨rfl, rfl, trivial⟩ ?_
        exact j47 _ _ h
    refine x_if_lt (pc := 20) dX12_need_20 (tgt := 34) (by decide) (fun c17 => ?_) (fun c17 => ?_)
    · replace h := wo_pos c17 h
      refine x_sub [(0, _), (1, _), (2, _)] ⟨rfl, rfl, rfl, trivial⟩ ?_
      exact j34 h
    · replace h := wo_neg c17 h
      refine x_iload_n (pc := 23) dX12_need_23 rfl ?_
      refine z_Si1 (pc := 24) h dX12_need_24 lX12_429 (by omega) rfl (fun a e => w_X12_bits _ _ a e) (fun v14 h => ?_)
      refine x_iload_n (pc := 27) dX12_need_27 rfl ?_
      refine z_Si1 (pc := 28) h dX12_need_28 lX12_429 (by omega) rfl (fun a e => w_X12_bits _ _ a e) (fun v15 h => ?_)
      refine x_icmp_ge (pc := 31) dX12_need_31 (tgt := 46) (by decide) (fun c16 => ?_) (fun c16 => ?_)
      · replace h := wo_pos c16 h
        refine x_sub [(0, _), (1, _), (2, _)] ⟨rfl, rfl, rfl, trivial⟩ ?_
        exact j46 _ h
      · replace h := wo_neg c16 h
        refine x_sub [(0, _), (1, _), (2, _)] ⟨rfl, rfl, rfl, trivial⟩ ?_
        exact j34 h
noncomputable def f_X12_night (mem : mi_M) : Option (Int32 × mi_M) := mi_let (mi_wI mem 12 0 0 (0 : Int32)) fun m1 => mi_bo (f_X12_keeps m1) fun m2 => mi_b (f_X12_passes (0 : Int32) m2) fun v3 m4 => some (v3, m4)
set_option maxRecDepth 100000 in
set_option maxHeartbeats 4000000 in
theorem w_X12_night (mem : mi_M) (a : Int32 × mi_M) (e : f_X12_night  mem = some a) : mi_Ci (5) mX12_night [vr 12 0] mem (fun x m' => x = a.1 ∧ m' = a.2) := by
  unfold mi_Ci
  refine mi_C_intro (ls := [(0, vr 12 0)]) (by decide) rfl rfl ?_
  obtain ⟨Q0, hq0, h⟩ : ∃ Q0 : (Int32 × mi_M) → Prop, (∀ b, Q0 b → b = a) ∧ wo (f_X12_night  mem) Q0 := ⟨fun b => b = a, fun _ h => h, wo_eq e⟩
  obtain ⟨QX, hQX⟩ : ∃ QX : Option mi_V → mi_M → Prop, QX = (fun r m' => ∃ x, r = some (vi x) ∧ x = a.1 ∧ m' = a.2) := ⟨_, rfl⟩
  rw [← hQX]
  unfold f_X12_night at h
  refine x_aload_n (pc := 0) dX12_night_0 rfl ?_
  refine x_iconst (pc := 1) dX12_night_1 (v := (0 : Int32)) (by decide) ?_
  refine x_putI (pc := 2) dX12_night_2 fX12_1 rfl (by decide) rfl rfl ?_
  refine x_letm h (fun m1 h => ?_)
  refine x_aload_n (pc := 5) dX12_night_5 rfl ?_
  refine y_Vv0 (pc := 6) h dX12_night_6 lX12_371 (by decide) (by omega) rfl (fun a e => w_X12_keeps _ a e) (fun m2 h => ?_)
  refine x_aload_n (pc := 9) dX12_night_9 rfl ?_
  refine x_iconst (pc := 10) dX12_night_10 (v := (0 : Int32)) (by decide) ?_
  refine y_Vi1 (pc := 11) h dX12_night_11 lX12_386 (by decide) (by omega) rfl (fun a e => w_X12_passes _ _ a e) (fun v3 m4 h => ?_)
  exact x_iret (pc := 14) dX12_night_14 rfl (by rw [hQX]; exact ⟨_, rfl, congrArg Prod.fst (hq0 _ (wo_some h)), congrArg Prod.snd (hq0 _ (wo_some h))⟩)
noncomputable def f_X12_pay_J23 (m1 : mi_M) : Option (Int32 × mi_M) := some ((-1 : Int32), m1)
noncomputable def f_X12_pay_J110 (m6 : mi_M) (u7 : Int32) : Option (Int32 × mi_M) := some (u7, m6)
noncomputable def f_X12_pay_J93 (l11 : Int32) (u16 : Int32) (u17 : Int32) (m18 : mi_M) : Option ((Int32 × Int32 × Int32 × mi_M) ⊕ (Int32 × Int32 × mi_M)) := some (.inl (u16, u17, (l11 + (1 : Int32)), m18))
noncomputable def f_X12_pay_J70 (p0 : Int32) (p1 : Int32) (l9 : Int32) (l10 : Int32) (l11 : Int32) (v14 : Int32) (m15 : mi_M) : Option ((Int32 × Int32 × Int32 × mi_M) ⊕ (Int32 × Int32 × mi_M)) := mi_b (f_X12_lampsWith l11 m15) fun v19 m20 => mi_b (f_X12_isLit v19 p0 p1 m20) fun v21 m22 => if v21 = 0 then f_X12_pay_J93 l11 l9 l10 m22 else f_X12_pay_J93 l11 l11 v14 m22
noncomputable def f_X12_pay_B34 (p0 : Int32) (p1 : Int32) : (Int32 × Int32 × Int32 × mi_M) → Option ((Int32 × Int32 × Int32 × mi_M) ⊕ (Int32 × Int32 × mi_M)) := fun s => match s with | (l9, l10, l11, m12) => mi_bo (f_X12_wrongs m12) fun v13 => if ((1 : Int32) <<< (v13 &&& 31)) ≤ l11 then some (.inr (l9, l10, m12)) else mi_b (f_X12_costOf l11 m12) fun v14 m15 => if v14 < 0 then f_X12_pay_J93 l11 l9 l10 m15 else if l9 < 0 then f_X12_pay_J70 p0 p1 l9 l10 l11 v14 m15 else if l10 ≤ v14 then f_X12_pay_J93 l11 l9 l10 m15 else f_X12_pay_J70 p0 p1 l9 l10 l11 v14 m15
noncomputable def f_X12_pay_K34 (p2 : Int32) : (Int32 × Int32 × mi_M) → Option (Int32 × mi_M) := fun e => match e with | (e4, e5, m6) => if p2 = 0 then f_X12_pay_J110 m6 e5 else f_X12_pay_J110 m6 e4
noncomputable def f_X12_pay (p0 : Int32) (p1 : Int32) (p2 : Int32) (mem : mi_M) : Option (Int32 × mi_M) := mi_let (mi_wI mem 12 0 0 (0 : Int32)) fun m1 => mi_bo (f_X12_areTwo p0 p1 m1) fun v2 => if v2 = 0 then f_X12_pay_J23 m1 else mi_bo (f_X12_within p2 (0 : Int32) (1 : Int32) m1) fun v3 => if v3 = 0 then f_X12_pay_J23 m1 else mi_bo (mi_lp (f_X12_pay_B34 p0 p1) mi_fu ((-1 : Int32), (-1 : Int32), (0 : Int32), m1)) (f_X12_pay_K34 p2)
set_option maxRecDepth 100000 in
set_option maxHeartbeats 4000000 in
theorem w_X12_pay (p0 : Int32) (p1 : Int32) (p2 : Int32) (mem : mi_M) (a : Int32 × mi_M) (e : f_X12_pay p0 p1 p2 mem = some a) : mi_Ci (6) mX12_pay [vr 12 0, vi p0, vi p1, vi p2] mem (fun x m' => x = a.1 ∧ m' = a.2) := by
  unfold mi_Ci
  refine mi_C_intro (ls := [(0, vr 12 0), (1, vi p0), (2, vi p1), (3, vi p2)]) (by decide) rfl rfl ?_
  obtain ⟨Q0, hq0, h⟩ : ∃ Q0 : (Int32 × mi_M) → Prop, (∀ b, Q0 b → b = a) ∧ wo (f_X12_pay p0 p1 p2 mem) Q0 := ⟨fun b => b = a, fun _ h => h, wo_eq e⟩
  obtain ⟨QX, hQX⟩ : ∃ QX : Option mi_V → mi_M → Prop, QX = (fun r m' => ∃ x, r = some (vi x) ∧ x = a.1 ∧ m' = a.2) := ⟨_, rfl⟩
  rw [← hQX]
  unfold f_X12_pay at h
  refine x_aload_n (pc := 0) dX12_pay_0 rfl ?_
  refine x_iconst (pc := 1) dX12_pay_1 (v := (0 : Int32)) (by decide) ?_
  refine x_putI (pc := 2) dX12_pay_2 fX12_1 rfl (by decide) rfl rfl ?_
  refine x_letm h (fun m1 h => ?_)
  refine x_aload_n (pc := 5) dX12_pay_5 rfl ?_
  refine x_iload_n (pc := 6) dX12_pay_6 rfl ?_
  refine x_iload_n (pc := 7) dX12_pay_7 rfl ?_
  refine z_Vi2 (pc := 8) h dX12_pay_8 lX12_365 (by decide) (by omega) rfl (fun a e => w_X12_areTwo _ _ _ a e) (fun v2 h => ?_)
  have j23 : wo (f_X12_pay_J23 m1) Q0 → mi_X mX12_pay (6) 23 [] [] m1 QX := by
    intro h
    unfold f_X12_pay_J23 at h
    refine x_iconst (pc := 23) dX12_pay_23 (v := (-1 : Int32)) (by decide) ?_
    exact x_iret (pc := 24) dX12_pay_24 rfl (by rw [hQX]; exact ⟨_, rfl, congrArg Prod.fst (hq0 _ (wo_some h)), congrArg Prod.snd (hq0 _ (wo_some h))⟩)
  refine x_if_eq (pc := 11) dX12_pay_11 (tgt := 23) (by decide) (fun c29 => ?_) (fun c29 => ?_)
  · replace h := wo_pos c29 h
    refine x_sub [] trivial ?_
    exact j23 h
  · replace h := wo_neg c29 h
    refine x_iload_n (pc := 14) dX12_pay_14 rfl ?_
    refine x_iconst (pc := 15) dX12_pay_15 (v := (0 : Int32)) (by decide) ?_
    refine x_iconst (pc := 16) dX12_pay_16 (v := (1 : Int32)) (by decide) ?_
    refine z_Si3 (pc := 17) h dX12_pay_17 lX12_362 (by omega) rfl (fun a e => w_X12_within _ _ _ _ a e) (fun v3 h => ?_)
    refine x_if_ne (pc := 20) dX12_pay_20 (tgt := 25) (by decide) (fun c28 => ?_) (fun c28 => ?_)
    · replace h := wo_neg c28 h
      refine x_iconst (pc := 25) dX12_pay_25 (v := (-1 : Int32)) (by decide) ?_
      refine x_istore (ls' := [(4, _), (0, _), (1, _), (2, _), (3, _)]) (pc := 26) dX12_pay_26 rfl rfl ?_
      refine x_iconst (pc := 28) dX12_pay_28 (v := (-1 : Int32)) (by decide) ?_
      refine x_istore (ls' := [(5, _), (4, _), (0, _), (1, _), (2, _), (3, _)]) (pc := 29) dX12_pay_29 rfl rfl ?_
      refine x_iconst (pc := 31) dX12_pay_31 (v := (0 : Int32)) (by decide) ?_
      refine x_istore (ls' := [(6, _), (5, _), (4, _), (0, _), (1, _), (2, _), (3, _)]) (pc := 32) dX12_pay_32 rfl rfl ?_
      have k34_0 : ∀ (e4 : Int32) (e5 : Int32) (m6 : mi_M), wo (f_X12_pay_K34 p2 (e4, e5, m6)) Q0 → mi_X mX12_pay (6) 99 [(3, vi p2), (4, vi e4), (5, vi e5)] [] m6 QX := by
        intro e4 e5 m6 h
        unfold f_X12_pay_K34 at h
        try dsimp only at h
        refine x_iload_n (pc := 99) dX12_pay_99 rfl ?_
        have j110 : ∀ (u7 : Int32), wo (f_X12_pay_J110 m6 u7) Q0 → mi_X mX12_pay (6) 110 [] [vi u7] m6 QX := by
          intro u7 h
          unfold f_X12_pay_J110 at h
          exact x_iret (pc := 110) dX12_pay_110 rfl (by rw [hQX]; exact ⟨_, rfl, congrArg Prod.fst (hq0 _ (wo_some h)), congrArg Prod.snd (hq0 _ (wo_some h))⟩)
        refine x_if_ne (pc := 100) dX12_pay_100 (tgt := 108) (by decide) (fun c8 => ?_) (fun c8 => ?_)
        · replace h := wo_neg c8 h
          refine x_iload (pc := 108) dX12_pay_108 rfl ?_
          refine x_sub [] trivial ?_
          exact j110 _ h
        · replace h := wo_pos c8 h
          refine x_iload (pc := 103) dX12_pay_103 rfl ?_
          refine x_goto (pc := 105) dX12_pay_105 (tgt := 110) (by decide) ?_
          refine x_sub [] trivial ?_
          exact j110 _ h
      refine x_sub [(0, _), (1, _), (2, _), (3, _), (4, _), (5, _), (6, _)] ⟨rfl, rfl, rfl, rfl, rfl, rfl, rfl, trivial⟩ ?_
      obtain ⟨ea, eb, h⟩ := wo_bo h
      refine wo_lq (X := fun s => match s with | (l9, l10, l11, m12) => mi_X mX12_pay (6) 34 [(0, vr 12 0), (1, vi p0), (2, vi p1), (3, vi p2), (4, vi l9), (5, vi l10), (6, vi l11)] [] m12 QX) (E := fun e => wo (f_X12_pay_K34 p2 e) Q0) ?_ _ ((-1 : Int32), (-1 : Int32), (0 : Int32), m1) ⟨_, eb, h⟩
      intro Q34 hb34 he34 s h
      obtain ⟨l9, l10, l11, m12⟩ := s
      show mi_X mX12_pay (6) 34 [(0, vr 12 0), (1, vi p0), (2, vi p1), (3, vi p2), (4, vi l9), (5, vi l10), (6, vi l11)] [] m12 QX
      unfold f_X12_pay_B34 at h
      try dsimp only at h
      refine x_iload (pc := 34) dX12_pay_34 rfl ?_
      refine x_iconst (pc := 36) dX12_pay_36 (v := (1 : Int32)) (by decide) ?_
      refine x_aload_n (pc := 37) dX12_pay_37 rfl ?_
      refine z_Vi0 (pc := 38) h dX12_pay_38 lX12_273 (by decide) (by omega) rfl (fun a e => w_X12_wrongs _ a e) (fun v13 h => ?_)
      refine x_ishl (pc := 41) dX12_pay_41 ?_
      refine x_icmp_ge (pc := 42) dX12_pay_42 (tgt := 99) (by decide) (fun c27 => ?_) (fun c27 => ?_)
      · replace h := wo_pos c27 h
        refine x_sub [(3, _), (4, _), (5, _)] ⟨rfl, rfl, rfl, trivial⟩ ?_
        exact k34_0 _ _ _ (he34 (l9, l10, m12) (wo_some h))
      · replace h := wo_neg c27 h
        refine x_aload_n (pc := 45) dX12_pay_45 rfl ?_
        refine x_iload (pc := 46) dX12_pay_46 rfl ?_
        refine y_Vi1 (pc := 48) h dX12_pay_48 lX12_395 (by decide) (by omega) rfl (fun a e => w_X12_costOf _ _ a e) (fun v14 m15 h => ?_)
        refine x_istore (ls' := [(7, _), (0, _), (1, _), (2, _), (3, _), (4, _), (5, _), (6, _)]) (pc := 51) dX12_pay_51 rfl rfl ?_
        refine x_iload (pc := 53) dX12_pay_53 rfl ?_
        have j93 : ∀ (u16 : Int32) (u17 : Int32) (m18 : mi_M), wo (f_X12_pay_J93 l11 u16 u17 m18) Q34 → mi_X mX12_pay (6) 93 [(0, vr 12 0), (1, vi p0), (2, vi p1), (3, vi p2), (4, vi u16), (5, vi u17), (6, vi l11)] [] m18 QX := by
          intro u16 u17 m18 h
          unfold f_X12_pay_J93 at h
          refine x_iinc (ls' := [(6, _), (0, _), (1, _), (2, _), (3, _), (4, _), (5, _)]) (pc := 93) dX12_pay_93 rfl (v := l11 + (1 : Int32)) rfl rfl rfl ?_
          refine x_goto (pc := 96) dX12_pay_96 (tgt := 34) (by decide) ?_
          refine x_sub [(0, _), (1, _), (2, _), (3, _), (4, _), (5, _), (6, _)] ⟨rfl, rfl, rfl, rfl, rfl, rfl, rfl, trivial⟩ ?_
          exact hb34 (u16, u17, (l11 + (1 : Int32)), m18) (wo_some h)
        refine x_if_lt (pc := 55) dX12_pay_55 (tgt := 93) (by decide) (fun c26 => ?_) (fun c26 => ?_)
        · replace h := wo_pos c26 h
          refine x_sub [(0, _), (1, _), (2, _), (3, _), (4, _), (5, _), (6, _)] ⟨rfl, rfl, rfl, rfl, rfl, rfl, rfl, trivial⟩ ?_
          exact j93 _ _ _ h
        · replace h := wo_neg c26 h
          refine x_iload (pc := 58) dX12_pay_58 rfl ?_
          have j70 : wo (f_X12_pay_J70 p0 p1 l9 l10 l11 v14 m15) Q34 → mi_X mX12_pay (6) 70 [(0, vr 12 0), (1, vi p0), (2, vi p1), (3, vi p2), (4, vi l9), (5, vi l10), (6, vi l11), (7, vi v14)] [] m15 QX := by
            intro h
            unfold f_X12_pay_J70 at h
            refine x_aload_n (pc := 70) dX12_pay_70 rfl ?_
            refine x_aload_n (pc := 71) dX12_pay_71 rfl ?_
            refine x_iload (pc := 72) dX12_pay_72 rfl ?_
            refine y_Vi1 (pc := 74) h dX12_pay_74 lX12_398 (by decide) (by omega) rfl (fun a e => w_X12_lampsWith _ _ a e) (fun v19 m20 h => ?_)
            refine x_iload_n (pc := 77) dX12_pay_77 rfl ?_
            refine x_iload_n (pc := 78) dX12_pay_78 rfl ?_
            refine y_Vi3 (pc := 79) h dX12_pay_79 lX12_401 (by decide) (by omega) rfl (fun a e => w_X12_isLit _ _ _ _ a e) (fun v21 m22 h => ?_)
            refine x_if_eq (pc := 82) dX12_pay_82 (tgt := 93) (by decide) (fun c23 => ?_) (fun c23 => ?_)
            · replace h := wo_pos c23 h
              refine x_sub [(0, _), (1, _), (2, _), (3, _), (4, _), (5, _), (6, _)] ⟨rfl, rfl, rfl, rfl, rfl, rfl, rfl, trivial⟩ ?_
              exact j93 _ _ _ h
            · replace h := wo_neg c23 h
              refine x_iload (pc := 85) dX12_pay_85 rfl ?_
              refine x_istore (ls' := [(4, _), (0, _), (1, _), (2, _), (3, _), (5, _), (6, _), (7, _)]) (pc := 87) dX12_pay_87 rfl rfl ?_
              refine x_iload (pc := 89) dX12_pay_89 rfl ?_
              refine x_istore (ls' := [(5, _), (4, _), (0, _), (1, _), (2, _), (3, _), (6, _), (7, _)]) (pc := 91) dX12_pay_91 rfl rfl ?_
              refine x_sub [(0, _), (1, _), (2, _), (3, _), (4, _), (5, _), (6, _)] ⟨rfl, rfl, rfl, rfl, rfl, rfl, rfl, trivial⟩ ?_
              exact j93 _ _ _ h
          refine x_if_lt (pc := 60) dX12_pay_60 (tgt := 70) (by decide) (fun c25 => ?_) (fun c25 => ?_)
          · replace h := wo_pos c25 h
            refine x_sub [(0, _), (1, _), (2, _), (3, _), (4, _), (5, _), (6, _), (7, _)] ⟨rfl, rfl, rfl, rfl, rfl, rfl, rfl, rfl, trivial⟩ ?_
            exact j70 h
          · replace h := wo_neg c25 h
            refine x_iload (pc := 63) dX12_pay_63 rfl ?_
            refine x_iload (pc := 65) dX12_pay_65 rfl ?_
            refine x_icmp_ge (pc := 67) dX12_pay_67 (tgt := 93) (by decide) (fun c24 => ?_) (fun c24 => ?_)
            · replace h := wo_pos c24 h
              refine x_sub [(0, _), (1, _), (2, _), (3, _), (4, _), (5, _), (6, _)] ⟨rfl, rfl, rfl, rfl, rfl, rfl, rfl, trivial⟩ ?_
              exact j93 _ _ _ h
            · replace h := wo_neg c24 h
              refine x_sub [(0, _), (1, _), (2, _), (3, _), (4, _), (5, _), (6, _), (7, _)] ⟨rfl, rfl, rfl, rfl, rfl, rfl, rfl, rfl, trivial⟩ ?_
              exact j70 h
    · replace h := wo_pos c28 h
      refine x_sub [] trivial ?_
      exact j23 h
noncomputable def f_X12_person_J22 (m1 : mi_M) : Option (Int32 × mi_M) := some ((-1 : Int32), m1)
noncomputable def f_X12_person_J61 (m1 : mi_M) (u4 : Int32) : Option (Int32 × mi_M) := some (u4, m1)
noncomputable def f_X12_person (p0 : Int32) (p1 : Int32) (mem : mi_M) : Option (Int32 × mi_M) := mi_let (mi_wI mem 12 0 0 (0 : Int32)) fun m1 => mi_bo (f_X12_isPerson p0 m1) fun v2 => if v2 = 0 then f_X12_person_J22 m1 else mi_bo (f_X12_within p1 (0 : Int32) (2 : Int32) m1) fun v3 => if v3 = 0 then f_X12_person_J22 m1 else if p1 = 0 then mi_bo (f_X12_kindOf p0 m1) fun v8 => f_X12_person_J61 m1 v8 else if p1 = (1 : Int32) then mi_g (vp_in ((8 : Int32) + p0) 1449) (f_X12_person_J61 m1 (m1.1 64 0 ((8 : Int32) + p0).toNatClampNeg)) else mi_g (vp_in ((2 : Int32) + p0) 1449) (f_X12_person_J61 m1 (m1.1 64 0 ((2 : Int32) + p0).toNatClampNeg))
set_option maxRecDepth 100000 in
set_option maxHeartbeats 4000000 in
theorem w_X12_person (p0 : Int32) (p1 : Int32) (mem : mi_M) (a : Int32 × mi_M) (e : f_X12_person p0 p1 mem = some a) : mi_Ci (3) mX12_person [vr 12 0, vi p0, vi p1] mem (fun x m' => x = a.1 ∧ m' = a.2) := by
  unfold mi_Ci
  refine mi_C_intro (ls := [(0, vr 12 0), (1, vi p0), (2, vi p1)]) (by decide) rfl rfl ?_
  obtain ⟨Q0, hq0, h⟩ : ∃ Q0 : (Int32 × mi_M) → Prop, (∀ b, Q0 b → b = a) ∧ wo (f_X12_person p0 p1 mem) Q0 := ⟨fun b => b = a, fun _ h => h, wo_eq e⟩
  obtain ⟨QX, hQX⟩ : ∃ QX : Option mi_V → mi_M → Prop, QX = (fun r m' => ∃ x, r = some (vi x) ∧ x = a.1 ∧ m' = a.2) := ⟨_, rfl⟩
  rw [← hQX]
  unfold f_X12_person at h
  refine x_aload_n (pc := 0) dX12_person_0 rfl ?_
  refine x_iconst (pc := 1) dX12_person_1 (v := (0 : Int32)) (by decide) ?_
  refine x_putI (pc := 2) dX12_person_2 fX12_1 rfl (by decide) rfl rfl ?_
  refine x_letm h (fun m1 h => ?_)
  refine x_aload_n (pc := 5) dX12_person_5 rfl ?_
  refine x_iload_n (pc := 6) dX12_person_6 rfl ?_
  refine z_Vi1 (pc := 7) h dX12_person_7 lX12_359 (by decide) (by omega) rfl (fun a e => w_X12_isPerson _ _ a e) (fun v2 h => ?_)
  have j22 : wo (f_X12_person_J22 m1) Q0 → mi_X mX12_person (3) 22 [] [] m1 QX := by
    intro h
    unfold f_X12_person_J22 at h
    refine x_iconst (pc := 22) dX12_person_22 (v := (-1 : Int32)) (by decide) ?_
    exact x_iret (pc := 23) dX12_person_23 rfl (by rw [hQX]; exact ⟨_, rfl, congrArg Prod.fst (hq0 _ (wo_some h)), congrArg Prod.snd (hq0 _ (wo_some h))⟩)
  refine x_if_eq (pc := 10) dX12_person_10 (tgt := 22) (by decide) (fun c11 => ?_) (fun c11 => ?_)
  · replace h := wo_pos c11 h
    refine x_sub [] trivial ?_
    exact j22 h
  · replace h := wo_neg c11 h
    refine x_iload_n (pc := 13) dX12_person_13 rfl ?_
    refine x_iconst (pc := 14) dX12_person_14 (v := (0 : Int32)) (by decide) ?_
    refine x_iconst (pc := 15) dX12_person_15 (v := (2 : Int32)) (by decide) ?_
    refine z_Si3 (pc := 16) h dX12_person_16 lX12_362 (by omega) rfl (fun a e => w_X12_within _ _ _ _ a e) (fun v3 h => ?_)
    refine x_if_ne (pc := 19) dX12_person_19 (tgt := 24) (by decide) (fun c10 => ?_) (fun c10 => ?_)
    · replace h := wo_neg c10 h
      refine x_iload_n (pc := 24) dX12_person_24 rfl ?_
      have j61 : ∀ (u4 : Int32), wo (f_X12_person_J61 m1 u4) Q0 → mi_X mX12_person (3) 61 [] [vi u4] m1 QX := by
        intro u4 h
        unfold f_X12_person_J61 at h
        exact x_iret (pc := 61) dX12_person_61 rfl (by rw [hQX]; exact ⟨_, rfl, congrArg Prod.fst (hq0 _ (wo_some h)), congrArg Prod.snd (hq0 _ (wo_some h))⟩)
      refine x_if_ne (pc := 25) dX12_person_25 (tgt := 36) (by decide) (fun c9 => ?_) (fun c9 => ?_)
      · replace h := wo_neg c9 h
        refine x_iload_n (pc := 36) dX12_person_36 rfl ?_
        refine x_iconst (pc := 37) dX12_person_37 (v := (1 : Int32)) (by decide) ?_
        refine x_icmp_ne (pc := 38) dX12_person_38 (tgt := 53) (by decide) (fun c7 => ?_) (fun c7 => ?_)
        · replace h := wo_neg c7 h
          refine x_aload_n (pc := 53) dX12_person_53 rfl ?_
          refine x_getS (pc := 54) dX12_person_54 fX12_113 rfl (by decide) ?_
          refine x_iconst (pc := 57) dX12_person_57 (v := (2 : Int32)) (by decide) ?_
          refine x_iload_n (pc := 58) dX12_person_58 rfl ?_
          refine x_iadd (pc := 59) dX12_person_59 ?_
          obtain ⟨hx5, h⟩ := wo_g h
          refine x_ialdJ (pc := 60) dX12_person_60 rfl rfl (by decide) hx5 ?_
          refine x_sub [] trivial ?_
          exact j61 _ h
        · replace h := wo_pos c7 h
          refine x_aload_n (pc := 41) dX12_person_41 rfl ?_
          refine x_getS (pc := 42) dX12_person_42 fX12_113 rfl (by decide) ?_
          refine x_bipush (pc := 45) dX12_person_45 (v := (8 : Int32)) (by decide) ?_
          refine x_iload_n (pc := 47) dX12_person_47 rfl ?_
          refine x_iadd (pc := 48) dX12_person_48 ?_
          obtain ⟨hx6, h⟩ := wo_g h
          refine x_ialdJ (pc := 49) dX12_person_49 rfl rfl (by decide) hx6 ?_
          refine x_goto (pc := 50) dX12_person_50 (tgt := 61) (by decide) ?_
          refine x_sub [] trivial ?_
          exact j61 _ h
      · replace h := wo_pos c9 h
        refine x_aload_n (pc := 28) dX12_person_28 rfl ?_
        refine x_iload_n (pc := 29) dX12_person_29 rfl ?_
        refine z_Vi1 (pc := 30) h dX12_person_30 lX12_316 (by decide) (by omega) rfl (fun a e => w_X12_kindOf _ _ a e) (fun v8 h => ?_)
        refine x_goto (pc := 33) dX12_person_33 (tgt := 61) (by decide) ?_
        refine x_sub [] trivial ?_
        exact j61 _ h
    · replace h := wo_pos c10 h
      refine x_sub [] trivial ?_
      exact j22 h
noncomputable def f_X12_price_J24 (m1 : mi_M) : Option (Int32 × mi_M) := some ((-1 : Int32), m1)
noncomputable def f_X12_price_J103 (m5 : mi_M) (u9 : Int32) : Option (Int32 × mi_M) := some (u9, m5)
noncomputable def f_X12_price_J63 (l11 : Int32) (m14 : mi_M) : Option ((Int32 × mi_M) ⊕ (mi_M)) := mi_b (f_X12_passes (1323 : Int32) m14) fun v15 m16 => some (.inl ((l11 + (1 : Int32)), m16))
noncomputable def f_X12_price_B38 (p0 : Int32) (p1 : Int32) : (Int32 × mi_M) → Option ((Int32 × mi_M) ⊕ (mi_M)) := fun s => match s with | (l11, m12) => if p1 ≤ l11 then some (.inr m12) else mi_bo (f_X12_maySay (1323 : Int32) p0 m12) fun v13 => if v13 = 0 then f_X12_price_J63 l11 m12 else mi_b (f_X12_says (1323 : Int32) p0 m12) fun v17 m18 => f_X12_price_J63 l11 m18
noncomputable def f_X12_price_K38 (p0 : Int32) : mi_M → Option (Int32 × mi_M) := fun m5 => mi_g (vp_in ((1337 : Int32) + p0) 1449) (mi_bo (f_X12_barOf p0 m5) fun v7 => mi_let ((m5.1 64 0 ((1337 : Int32) + p0).toNatClampNeg) - v7) fun v8 => if 0 ≤ v8 then f_X12_price_J103 m5 v8 else f_X12_price_J103 m5 (0 : Int32))
noncomputable def f_X12_price (p0 : Int32) (p1 : Int32) (mem : mi_M) : Option (Int32 × mi_M) := mi_let (mi_wI mem 12 0 0 (0 : Int32)) fun m1 => mi_bo (f_X12_isOpen (0 : Int32) p0 m1) fun v2 => if v2 = 0 then f_X12_price_J24 m1 else mi_bo (f_X12_within p1 (0 : Int32) (30 : Int32) m1) fun v3 => if v3 = 0 then f_X12_price_J24 m1 else mi_bo (f_X12_copies (0 : Int32) (1323 : Int32) (38 : Int32) m1) fun m4 => mi_bo (mi_lp (f_X12_price_B38 p0 p1) mi_fu ((0 : Int32), m4)) (f_X12_price_K38 p0)
set_option maxRecDepth 100000 in
set_option maxHeartbeats 4000000 in
theorem w_X12_price (p0 : Int32) (p1 : Int32) (mem : mi_M) (a : Int32 × mi_M) (e : f_X12_price p0 p1 mem = some a) : mi_Ci (5) mX12_price [vr 12 0, vi p0, vi p1] mem (fun x m' => x = a.1 ∧ m' = a.2) := by
  unfold mi_Ci
  refine mi_C_intro (ls := [(0, vr 12 0), (1, vi p0), (2, vi p1)]) (by decide) rfl rfl ?_
  obtain ⟨Q0, hq0, h⟩ : ∃ Q0 : (Int32 × mi_M) → Prop, (∀ b, Q0 b → b = a) ∧ wo (f_X12_price p0 p1 mem) Q0 := ⟨fun b => b = a, fun _ h => h, wo_eq e⟩
  obtain ⟨QX, hQX⟩ : ∃ QX : Option mi_V → mi_M → Prop, QX = (fun r m' => ∃ x, r = some (vi x) ∧ x = a.1 ∧ m' = a.2) := ⟨_, rfl⟩
  rw [← hQX]
  unfold f_X12_price at h
  refine x_aload_n (pc := 0) dX12_price_0 rfl ?_
  refine x_iconst (pc := 1) dX12_price_1 (v := (0 : Int32)) (by decide) ?_
  refine x_putI (pc := 2) dX12_price_2 fX12_1 rfl (by decide) rfl rfl ?_
  refine x_letm h (fun m1 h => ?_)
  refine x_aload_n (pc := 5) dX12_price_5 rfl ?_
  refine x_iconst (pc := 6) dX12_price_6 (v := (0 : Int32)) (by decide) ?_
  refine x_iload_n (pc := 7) dX12_price_7 rfl ?_
  refine z_Vi2 (pc := 8) h dX12_price_8 lX12_319 (by decide) (by omega) rfl (fun a e => w_X12_isOpen _ _ _ a e) (fun v2 h => ?_)
  have j24 : wo (f_X12_price_J24 m1) Q0 → mi_X mX12_price (5) 24 [] [] m1 QX := by
    intro h
    unfold f_X12_price_J24 at h
    refine x_iconst (pc := 24) dX12_price_24 (v := (-1 : Int32)) (by decide) ?_
    exact x_iret (pc := 25) dX12_price_25 rfl (by rw [hQX]; exact ⟨_, rfl, congrArg Prod.fst (hq0 _ (wo_some h)), congrArg Prod.snd (hq0 _ (wo_some h))⟩)
  refine x_if_eq (pc := 11) dX12_price_11 (tgt := 24) (by decide) (fun c22 => ?_) (fun c22 => ?_)
  · replace h := wo_pos c22 h
    refine x_sub [] trivial ?_
    exact j24 h
  · replace h := wo_neg c22 h
    refine x_iload_n (pc := 14) dX12_price_14 rfl ?_
    refine x_iconst (pc := 15) dX12_price_15 (v := (0 : Int32)) (by decide) ?_
    refine x_bipush (pc := 16) dX12_price_16 (v := (30 : Int32)) (by decide) ?_
    refine z_Si3 (pc := 18) h dX12_price_18 lX12_362 (by omega) rfl (fun a e => w_X12_within _ _ _ _ a e) (fun v3 h => ?_)
    refine x_if_ne (pc := 21) dX12_price_21 (tgt := 26) (by decide) (fun c21 => ?_) (fun c21 => ?_)
    · replace h := wo_neg c21 h
      refine x_aload_n (pc := 26) dX12_price_26 rfl ?_
      refine x_iconst (pc := 27) dX12_price_27 (v := (0 : Int32)) (by decide) ?_
      refine x_sipush (pc := 28) dX12_price_28 (v := (1323 : Int32)) (by decide) ?_
      refine x_bipush (pc := 31) dX12_price_31 (v := (38 : Int32)) (by decide) ?_
      refine y_Vv3 (pc := 33) h dX12_price_33 lX12_309 (by decide) (by omega) rfl (fun a e => w_X12_copies _ _ _ _ a e) (fun m4 h => ?_)
      refine x_iconst (pc := 36) dX12_price_36 (v := (0 : Int32)) (by decide) ?_
      refine x_istore_n (ls' := [(3, _), (0, _), (1, _), (2, _)]) (pc := 37) dX12_price_37 rfl rfl rfl ?_
      have k38_0 : ∀ (m5 : mi_M), wo (f_X12_price_K38 p0 m5) Q0 → mi_X mX12_price (5) 77 [(0, vr 12 0), (1, vi p0)] [] m5 QX := by
        intro m5 h
        unfold f_X12_price_K38 at h
        try dsimp only at h
        refine x_aload_n (pc := 77) dX12_price_77 rfl ?_
        refine x_getS (pc := 78) dX12_price_78 fX12_113 rfl (by decide) ?_
        refine x_sipush (pc := 81) dX12_price_81 (v := (1337 : Int32)) (by decide) ?_
        refine x_iload_n (pc := 84) dX12_price_84 rfl ?_
        refine x_iadd (pc := 85) dX12_price_85 ?_
        obtain ⟨hx6, h⟩ := wo_g h
        refine x_ialdJ (pc := 86) dX12_price_86 rfl rfl (by decide) hx6 ?_
        refine x_aload_n (pc := 87) dX12_price_87 rfl ?_
        refine x_iload_n (pc := 88) dX12_price_88 rfl ?_
        refine z_Vi1 (pc := 89) h dX12_price_89 lX12_323 (by decide) (by omega) rfl (fun a e => w_X12_barOf _ _ a e) (fun v7 h => ?_)
        refine x_isub (pc := 92) dX12_price_92 ?_
        refine x_leti h (fun v8 h => ?_)
        refine x_istore_n (ls' := [(3, _), (0, _), (1, _)]) (pc := 93) dX12_price_93 rfl rfl rfl ?_
        refine x_iload_n (pc := 94) dX12_price_94 rfl ?_
        have j103 : ∀ (u9 : Int32), wo (f_X12_price_J103 m5 u9) Q0 → mi_X mX12_price (5) 103 [] [vi u9] m5 QX := by
          intro u9 h
          unfold f_X12_price_J103 at h
          exact x_iret (pc := 103) dX12_price_103 rfl (by rw [hQX]; exact ⟨_, rfl, congrArg Prod.fst (hq0 _ (wo_some h)), congrArg Prod.snd (hq0 _ (wo_some h))⟩)
        refine x_if_ge (pc := 95) dX12_price_95 (tgt := 102) (by decide) (fun c10 => ?_) (fun c10 => ?_)
        · replace h := wo_pos c10 h
          refine x_iload_n (pc := 102) dX12_price_102 rfl ?_
          refine x_sub [] trivial ?_
          exact j103 _ h
        · replace h := wo_neg c10 h
          refine x_iconst (pc := 98) dX12_price_98 (v := (0 : Int32)) (by decide) ?_
          refine x_goto (pc := 99) dX12_price_99 (tgt := 103) (by decide) ?_
          refine x_sub [] trivial ?_
          exact j103 _ h
      refine x_sub [(0, _), (1, _), (2, _), (3, _)] ⟨rfl, rfl, rfl, rfl, trivial⟩ ?_
      obtain ⟨ea, eb, h⟩ := wo_bo h
      refine wo_lq (X := fun s => match s with | (l11, m12) => mi_X mX12_price (5) 38 [(0, vr 12 0), (1, vi p0), (2, vi p1), (3, vi l11)] [] m12 QX) (E := fun e => wo (f_X12_price_K38 p0 e) Q0) ?_ _ ((0 : Int32), m4) ⟨_, eb, h⟩
      intro Q38 hb38 he38 s h
      obtain ⟨l11, m12⟩ := s
      show mi_X mX12_price (5) 38 [(0, vr 12 0), (1, vi p0), (2, vi p1), (3, vi l11)] [] m12 QX
      unfold f_X12_price_B38 at h
      try dsimp only at h
      refine x_iload_n (pc := 38) dX12_price_38 rfl ?_
      refine x_iload_n (pc := 39) dX12_price_39 rfl ?_
      refine x_icmp_ge (pc := 40) dX12_price_40 (tgt := 77) (by decide) (fun c20 => ?_) (fun c20 => ?_)
      · replace h := wo_pos c20 h
        refine x_sub [(0, _), (1, _)] ⟨rfl, rfl, trivial⟩ ?_
        exact k38_0 _ (he38 m12 (wo_some h))
      · replace h := wo_neg c20 h
        refine x_aload_n (pc := 43) dX12_price_43 rfl ?_
        refine x_sipush (pc := 44) dX12_price_44 (v := (1323 : Int32)) (by decide) ?_
        refine x_iload_n (pc := 47) dX12_price_47 rfl ?_
        refine z_Vi2 (pc := 48) h dX12_price_48 lX12_368 (by decide) (by omega) rfl (fun a e => w_X12_maySay _ _ _ a e) (fun v13 h => ?_)
        have j63 : ∀ (m14 : mi_M), wo (f_X12_price_J63 l11 m14) Q38 → mi_X mX12_price (5) 63 [(0, vr 12 0), (1, vi p0), (2, vi p1), (3, vi l11)] [] m14 QX := by
          intro m14 h
          unfold f_X12_price_J63 at h
          refine x_aload_n (pc := 63) dX12_price_63 rfl ?_
          refine x_sipush (pc := 64) dX12_price_64 (v := (1323 : Int32)) (by decide) ?_
          refine y_Vi1 (pc := 67) h dX12_price_67 lX12_386 (by decide) (by omega) rfl (fun a e => w_X12_passes _ _ a e) (fun v15 m16 h => ?_)
          refine x_pop (pc := 70) dX12_price_70 rfl ?_
          refine x_iinc (ls' := [(3, _), (0, _), (1, _), (2, _)]) (pc := 71) dX12_price_71 rfl (v := l11 + (1 : Int32)) rfl rfl rfl ?_
          refine x_goto (pc := 74) dX12_price_74 (tgt := 38) (by decide) ?_
          refine x_sub [(0, _), (1, _), (2, _), (3, _)] ⟨rfl, rfl, rfl, rfl, trivial⟩ ?_
          exact hb38 ((l11 + (1 : Int32)), m16) (wo_some h)
        refine x_if_eq (pc := 51) dX12_price_51 (tgt := 63) (by decide) (fun c19 => ?_) (fun c19 => ?_)
        · replace h := wo_pos c19 h
          refine x_sub [(0, _), (1, _), (2, _), (3, _)] ⟨rfl, rfl, rfl, rfl, trivial⟩ ?_
          exact j63 _ h
        · replace h := wo_neg c19 h
          refine x_aload_n (pc := 54) dX12_price_54 rfl ?_
          refine x_sipush (pc := 55) dX12_price_55 (v := (1323 : Int32)) (by decide) ?_
          refine x_iload_n (pc := 58) dX12_price_58 rfl ?_
          refine y_Vi2 (pc := 59) h dX12_price_59 lX12_374 (by decide) (by omega) rfl (fun a e => w_X12_says _ _ _ a e) (fun v17 m18 h => ?_)
          refine x_pop (pc := 62) dX12_price_62 rfl ?_
          refine x_sub [(0, _), (1, _), (2, _), (3, _)] ⟨rfl, rfl, rfl, rfl, trivial⟩ ?_
          exact j63 _ h
    · replace h := wo_pos c21 h
      refine x_sub [] trivial ?_
      exact j24 h
noncomputable def f_X12_takeNumber_J70 (m1 : mi_M) : Option (Int32 × mi_M) := if (m1.1 12 0 8) ≤ 0 then mi_let (mi_wI m1 12 0 7 ((m1.1 12 0 7) + (1 : Int32))) fun m2 => mi_g (vp_in ((m2.1 12 0 7) - (1 : Int32)) 1002) (some (((m2.2.1 54 0 ((m2.1 12 0 7) - (1 : Int32)).toNatClampNeg)).toInt32, m2)) else some ((0 : Int32), m1)
noncomputable def f_X12_takeNumber_J65 (mem : mi_M) : Option (Int32 × mi_M) := mi_bo (f_X12_wrong (4 : Int32) mem) fun m6 => f_X12_takeNumber_J70 m6
noncomputable def f_X12_takeNumber_J28 (p0 : Int32) (p1 : Int32) (mem : mi_M) : Option (Int32 × mi_M) := if (mem.1 12 0 8) = 0 then mi_g (vp_in (mem.1 12 0 7) 1002) (if (lg_cmp (mem.2.1 54 0 (mem.1 12 0 7).toNatClampNeg) ((p0).toInt64)) < 0 then f_X12_takeNumber_J65 mem else mi_g (vp_in (mem.1 12 0 7) 1002) (if (lg_cmp (mem.2.1 54 0 (mem.1 12 0 7).toNatClampNeg) ((p1).toInt64)) ≤ 0 then f_X12_takeNumber_J70 mem else f_X12_takeNumber_J65 mem)) else f_X12_takeNumber_J70 mem
noncomputable def f_X12_takeNumber (p0 : Int32) (p1 : Int32) (mem : mi_M) : Option (Int32 × mi_M) := if (mem.1 12 0 8) = 0 then mi_g (vp_in (mem.1 12 0 7) 1002) (if (mem.1 52 0 (mem.1 12 0 7).toNatClampNeg) = (2 : Int32) then f_X12_takeNumber_J28 p0 p1 mem else mi_bo (f_X12_wrong (1 : Int32) mem) fun m12 => f_X12_takeNumber_J70 m12) else f_X12_takeNumber_J28 p0 p1 mem
set_option maxRecDepth 100000 in
set_option maxHeartbeats 4000000 in
theorem w_X12_takeNumber (p0 : Int32) (p1 : Int32) (mem : mi_M) (a : Int32 × mi_M) (e : f_X12_takeNumber p0 p1 mem = some a) : mi_Ci (2) mX12_takeNumber [vr 12 0, vi p0, vi p1] mem (fun x m' => x = a.1 ∧ m' = a.2) := by
  unfold mi_Ci
  refine mi_C_intro (ls := [(0, vr 12 0), (1, vi p0), (2, vi p1)]) (by decide) rfl rfl ?_
  obtain ⟨Q0, hq0, h⟩ : ∃ Q0 : (Int32 × mi_M) → Prop, (∀ b, Q0 b → b = a) ∧ wo (f_X12_takeNumber p0 p1 mem) Q0 := ⟨fun b => b = a, fun _ h => h, wo_eq e⟩
  obtain ⟨QX, hQX⟩ : ∃ QX : Option mi_V → mi_M → Prop, QX = (fun r m' => ∃ x, r = some (vi x) ∧ x = a.1 ∧ m' = a.2) := ⟨_, rfl⟩
  rw [← hQX]
  unfold f_X12_takeNumber at h
  refine x_aload_n (pc := 0) dX12_takeNumber_0 rfl ?_
  refine x_getI (pc := 1) dX12_takeNumber_1 fX12_183 rfl (by decide) ?_
  have j70 : ∀ (m1 : mi_M), wo (f_X12_takeNumber_J70 m1) Q0 → mi_X mX12_takeNumber (2) 70 [(0, vr 12 0)] [] m1 QX := by
    intro m1 h
    unfold f_X12_takeNumber_J70 at h
    refine x_aload_n (pc := 70) dX12_takeNumber_70 rfl ?_
    refine x_getI (pc := 71) dX12_takeNumber_71 fX12_183 rfl (by decide) ?_
    refine x_if_le (pc := 74) dX12_takeNumber_74 (tgt := 79) (by decide) (fun c4 => ?_) (fun c4 => ?_)
    · replace h := wo_pos c4 h
      refine x_aload_n (pc := 79) dX12_takeNumber_79 rfl ?_
      refine x_dup (pc := 80) dX12_takeNumber_80 rfl ?_
      refine x_getI (pc := 81) dX12_takeNumber_81 fX12_180 rfl (by decide) ?_
      refine x_iconst (pc := 84) dX12_takeNumber_84 (v := (1 : Int32)) (by decide) ?_
      refine x_iadd (pc := 85) dX12_takeNumber_85 ?_
      refine x_putI (pc := 86) dX12_takeNumber_86 fX12_180 rfl (by decide) rfl rfl ?_
      refine x_letm h (fun m2 h => ?_)
      refine x_aload_n (pc := 89) dX12_takeNumber_89 rfl ?_
      refine x_getS (pc := 90) dX12_takeNumber_90 fX12_30 rfl (by decide) ?_
      refine x_aload_n (pc := 93) dX12_takeNumber_93 rfl ?_
      refine x_getI (pc := 94) dX12_takeNumber_94 fX12_180 rfl (by decide) ?_
      refine x_iconst (pc := 97) dX12_takeNumber_97 (v := (1 : Int32)) (by decide) ?_
      refine x_isub (pc := 98) dX12_takeNumber_98 ?_
      obtain ⟨hx3, h⟩ := wo_g h
      refine x_laldJ (pc := 99) dX12_takeNumber_99 rfl rfl (by decide) hx3 ?_
      refine x_l2i (pc := 100) dX12_takeNumber_100 rfl ?_
      exact x_iret (pc := 101) dX12_takeNumber_101 rfl (by rw [hQX]; exact ⟨_, rfl, congrArg Prod.fst (hq0 _ (wo_some h)), congrArg Prod.snd (hq0 _ (wo_some h))⟩)
    · replace h := wo_neg c4 h
      refine x_iconst (pc := 77) dX12_takeNumber_77 (v := (0 : Int32)) (by decide) ?_
      exact x_iret (pc := 78) dX12_takeNumber_78 rfl (by rw [hQX]; exact ⟨_, rfl, congrArg Prod.fst (hq0 _ (wo_some h)), congrArg Prod.snd (hq0 _ (wo_some h))⟩)
  have j28 : wo (f_X12_takeNumber_J28 p0 p1 mem) Q0 → mi_X mX12_takeNumber (2) 28 [(0, vr 12 0), (1, vi p0), (2, vi p1)] [] mem QX := by
    intro h
    unfold f_X12_takeNumber_J28 at h
    refine x_aload_n (pc := 28) dX12_takeNumber_28 rfl ?_
    refine x_getI (pc := 29) dX12_takeNumber_29 fX12_183 rfl (by decide) ?_
    refine x_if_ne (pc := 32) dX12_takeNumber_32 (tgt := 70) (by decide) (fun c10 => ?_) (fun c10 => ?_)
    · replace h := wo_neg c10 h
      refine x_sub [(0, _)] ⟨rfl, trivial⟩ ?_
      exact j70 _ h
    · replace h := wo_pos c10 h
      refine x_aload_n (pc := 35) dX12_takeNumber_35 rfl ?_
      refine x_getS (pc := 36) dX12_takeNumber_36 fX12_30 rfl (by decide) ?_
      refine x_aload_n (pc := 39) dX12_takeNumber_39 rfl ?_
      refine x_getI (pc := 40) dX12_takeNumber_40 fX12_180 rfl (by decide) ?_
      obtain ⟨hx5, h⟩ := wo_g h
      refine x_laldJ (pc := 43) dX12_takeNumber_43 rfl rfl (by decide) hx5 ?_
      refine x_iload_n (pc := 44) dX12_takeNumber_44 rfl ?_
      refine x_i2l (pc := 45) dX12_takeNumber_45 rfl ?_
      refine x_lcmp (pc := 46) dX12_takeNumber_46 ?_
      have j65 : wo (f_X12_takeNumber_J65 mem) Q0 → mi_X mX12_takeNumber (2) 65 [(0, vr 12 0)] [] mem QX := by
        intro h
        unfold f_X12_takeNumber_J65 at h
        refine x_aload_n (pc := 65) dX12_takeNumber_65 rfl ?_
        refine x_iconst (pc := 66) dX12_takeNumber_66 (v := (4 : Int32)) (by decide) ?_
        refine y_Vv1 (pc := 67) h dX12_takeNumber_67 lX12_189 (by decide) (by omega) rfl (fun a e => w_X12_wrong _ _ a e) (fun m6 h => ?_)
        refine x_sub [(0, _)] ⟨rfl, trivial⟩ ?_
        exact j70 _ h
      refine x_if_lt (pc := 47) dX12_takeNumber_47 (tgt := 65) (by decide) (fun c9 => ?_) (fun c9 => ?_)
      · replace h := wo_pos c9 h
        refine x_sub [(0, _)] ⟨rfl, trivial⟩ ?_
        exact j65 h
      · replace h := wo_neg c9 h
        refine x_aload_n (pc := 50) dX12_takeNumber_50 rfl ?_
        refine x_getS (pc := 51) dX12_takeNumber_51 fX12_30 rfl (by decide) ?_
        refine x_aload_n (pc := 54) dX12_takeNumber_54 rfl ?_
        refine x_getI (pc := 55) dX12_takeNumber_55 fX12_180 rfl (by decide) ?_
        obtain ⟨hx7, h⟩ := wo_g h
        refine x_laldJ (pc := 58) dX12_takeNumber_58 rfl rfl (by decide) hx7 ?_
        refine x_iload_n (pc := 59) dX12_takeNumber_59 rfl ?_
        refine x_i2l (pc := 60) dX12_takeNumber_60 rfl ?_
        refine x_lcmp (pc := 61) dX12_takeNumber_61 ?_
        refine x_if_le (pc := 62) dX12_takeNumber_62 (tgt := 70) (by decide) (fun c8 => ?_) (fun c8 => ?_)
        · replace h := wo_pos c8 h
          refine x_sub [(0, _)] ⟨rfl, trivial⟩ ?_
          exact j70 _ h
        · replace h := wo_neg c8 h
          refine x_sub [(0, _)] ⟨rfl, trivial⟩ ?_
          exact j65 h
  refine x_if_ne (pc := 4) dX12_takeNumber_4 (tgt := 28) (by decide) (fun c14 => ?_) (fun c14 => ?_)
  · replace h := wo_neg c14 h
    refine x_sub [(0, _), (1, _), (2, _)] ⟨rfl, rfl, rfl, trivial⟩ ?_
    exact j28 h
  · replace h := wo_pos c14 h
    refine x_aload_n (pc := 7) dX12_takeNumber_7 rfl ?_
    refine x_getS (pc := 8) dX12_takeNumber_8 fX12_24 rfl (by decide) ?_
    refine x_aload_n (pc := 11) dX12_takeNumber_11 rfl ?_
    refine x_getI (pc := 12) dX12_takeNumber_12 fX12_180 rfl (by decide) ?_
    obtain ⟨hx11, h⟩ := wo_g h
    refine x_ialdJ (pc := 15) dX12_takeNumber_15 rfl rfl (by decide) hx11 ?_
    refine x_iconst (pc := 16) dX12_takeNumber_16 (v := (2 : Int32)) (by decide) ?_
    refine x_icmp_eq (pc := 17) dX12_takeNumber_17 (tgt := 28) (by decide) (fun c13 => ?_) (fun c13 => ?_)
    · replace h := wo_pos c13 h
      refine x_sub [(0, _), (1, _), (2, _)] ⟨rfl, rfl, rfl, trivial⟩ ?_
      exact j28 h
    · replace h := wo_neg c13 h
      refine x_aload_n (pc := 20) dX12_takeNumber_20 rfl ?_
      refine x_iconst (pc := 21) dX12_takeNumber_21 (v := (1 : Int32)) (by decide) ?_
      refine y_Vv1 (pc := 22) h dX12_takeNumber_22 lX12_189 (by decide) (by omega) rfl (fun a e => w_X12_wrong _ _ a e) (fun m12 h => ?_)
      refine x_goto (pc := 25) dX12_takeNumber_25 (tgt := 70) (by decide) ?_
      refine x_sub [(0, _)] ⟨rfl, trivial⟩ ?_
      exact j70 _ h
noncomputable def f_X12_toldHere_J63 (m3 : mi_M) (u4 : Int32) : Option (Int32 × mi_M) := some (u4, m3)
noncomputable def f_X12_toldHere_J51 (u2 : Int32) (m3 : mi_M) : Option (Int32 × mi_M) := if (m3.1 12 0 8) ≤ 0 then f_X12_toldHere_J63 m3 u2 else f_X12_toldHere_J63 m3 (0 : Int32)
noncomputable def f_X12_toldHere_J34 (m1 : mi_M) (u2 : Int32) : Option (Int32 × mi_M) := if (m1.1 12 0 8) = 0 then if 0 ≤ u2 then f_X12_toldHere_J51 u2 m1 else mi_bo (f_X12_wrong (2 : Int32) m1) fun m6 => f_X12_toldHere_J51 u2 m6 else f_X12_toldHere_J51 u2 m1
noncomputable def f_X12_toldHere_J19 (m1 : mi_M) : Option (Int32 × mi_M) := if (m1.1 12 0 8) ≤ 0 then mi_bo (f_X12_find m1) fun v9 => f_X12_toldHere_J34 m1 v9 else f_X12_toldHere_J34 m1 (-1 : Int32)
noncomputable def f_X12_toldHere (mem : mi_M) : Option (Int32 × mi_M) := if (mem.1 12 0 8) = 0 then mi_bo (f_X12_isName mem) fun v11 => if v11 = 0 then mi_bo (f_X12_wrong (1 : Int32) mem) fun m12 => f_X12_toldHere_J19 m12 else f_X12_toldHere_J19 mem else f_X12_toldHere_J19 mem
set_option maxRecDepth 100000 in
set_option maxHeartbeats 4000000 in
theorem w_X12_toldHere (mem : mi_M) (a : Int32 × mi_M) (e : f_X12_toldHere  mem = some a) : mi_Ci (4) mX12_toldHere [vr 12 0] mem (fun x m' => x = a.1 ∧ m' = a.2) := by
  unfold mi_Ci
  refine mi_C_intro (ls := [(0, vr 12 0)]) (by decide) rfl rfl ?_
  obtain ⟨Q0, hq0, h⟩ : ∃ Q0 : (Int32 × mi_M) → Prop, (∀ b, Q0 b → b = a) ∧ wo (f_X12_toldHere  mem) Q0 := ⟨fun b => b = a, fun _ h => h, wo_eq e⟩
  obtain ⟨QX, hQX⟩ : ∃ QX : Option mi_V → mi_M → Prop, QX = (fun r m' => ∃ x, r = some (vi x) ∧ x = a.1 ∧ m' = a.2) := ⟨_, rfl⟩
  rw [← hQX]
  unfold f_X12_toldHere at h
  refine x_aload_n (pc := 0) dX12_toldHere_0 rfl ?_
  refine x_getI (pc := 1) dX12_toldHere_1 fX12_183 rfl (by decide) ?_
  have j19 : ∀ (m1 : mi_M), wo (f_X12_toldHere_J19 m1) Q0 → mi_X mX12_toldHere (4) 19 [(0, vr 12 0)] [] m1 QX := by
    intro m1 h
    unfold f_X12_toldHere_J19 at h
    refine x_aload_n (pc := 19) dX12_toldHere_19 rfl ?_
    refine x_getI (pc := 20) dX12_toldHere_20 fX12_183 rfl (by decide) ?_
    have j34 : ∀ (u2 : Int32), wo (f_X12_toldHere_J34 m1 u2) Q0 → mi_X mX12_toldHere (4) 34 [(0, vr 12 0)] [vi u2] m1 QX := by
      intro u2 h
      unfold f_X12_toldHere_J34 at h
      refine x_istore_n (ls' := [(1, _), (0, _)]) (pc := 34) dX12_toldHere_34 rfl rfl rfl ?_
      refine x_aload_n (pc := 35) dX12_toldHere_35 rfl ?_
      refine x_getI (pc := 36) dX12_toldHere_36 fX12_183 rfl (by decide) ?_
      have j51 : ∀ (m3 : mi_M), wo (f_X12_toldHere_J51 u2 m3) Q0 → mi_X mX12_toldHere (4) 51 [(0, vr 12 0), (1, vi u2)] [] m3 QX := by
        intro m3 h
        unfold f_X12_toldHere_J51 at h
        refine x_aload_n (pc := 51) dX12_toldHere_51 rfl ?_
        refine x_getI (pc := 52) dX12_toldHere_52 fX12_183 rfl (by decide) ?_
        have j63 : ∀ (u4 : Int32), wo (f_X12_toldHere_J63 m3 u4) Q0 → mi_X mX12_toldHere (4) 63 [] [vi u4] m3 QX := by
          intro u4 h
          unfold f_X12_toldHere_J63 at h
          exact x_iret (pc := 63) dX12_toldHere_63 rfl (by rw [hQX]; exact ⟨_, rfl, congrArg Prod.fst (hq0 _ (wo_some h)), congrArg Prod.snd (hq0 _ (wo_some h))⟩)
        refine x_if_le (pc := 55) dX12_toldHere_55 (tgt := 62) (by decide) (fun c5 => ?_) (fun c5 => ?_)
        · replace h := wo_pos c5 h
          refine x_iload_n (pc := 62) dX12_toldHere_62 rfl ?_
          refine x_sub [] trivial ?_
          exact j63 _ h
        · replace h := wo_neg c5 h
          refine x_iconst (pc := 58) dX12_toldHere_58 (v := (0 : Int32)) (by decide) ?_
          refine x_goto (pc := 59) dX12_toldHere_59 (tgt := 63) (by decide) ?_
          refine x_sub [] trivial ?_
          exact j63 _ h
      refine x_if_ne (pc := 39) dX12_toldHere_39 (tgt := 51) (by decide) (fun c8 => ?_) (fun c8 => ?_)
      · replace h := wo_neg c8 h
        refine x_sub [(0, _), (1, _)] ⟨rfl, rfl, trivial⟩ ?_
        exact j51 _ h
      · replace h := wo_pos c8 h
        refine x_iload_n (pc := 42) dX12_toldHere_42 rfl ?_
        refine x_if_ge (pc := 43) dX12_toldHere_43 (tgt := 51) (by decide) (fun c7 => ?_) (fun c7 => ?_)
        · replace h := wo_pos c7 h
          refine x_sub [(0, _), (1, _)] ⟨rfl, rfl, trivial⟩ ?_
          exact j51 _ h
        · replace h := wo_neg c7 h
          refine x_aload_n (pc := 46) dX12_toldHere_46 rfl ?_
          refine x_iconst (pc := 47) dX12_toldHere_47 (v := (2 : Int32)) (by decide) ?_
          refine y_Vv1 (pc := 48) h dX12_toldHere_48 lX12_189 (by decide) (by omega) rfl (fun a e => w_X12_wrong _ _ a e) (fun m6 h => ?_)
          refine x_sub [(0, _), (1, _)] ⟨rfl, rfl, trivial⟩ ?_
          exact j51 _ h
    refine x_if_le (pc := 23) dX12_toldHere_23 (tgt := 30) (by decide) (fun c10 => ?_) (fun c10 => ?_)
    · replace h := wo_pos c10 h
      refine x_aload_n (pc := 30) dX12_toldHere_30 rfl ?_
      refine z_Vi0 (pc := 31) h dX12_toldHere_31 lX12_215 (by decide) (by omega) rfl (fun a e => w_X12_find _ a e) (fun v9 h => ?_)
      refine x_sub [(0, _)] ⟨rfl, trivial⟩ ?_
      exact j34 _ h
    · replace h := wo_neg c10 h
      refine x_iconst (pc := 26) dX12_toldHere_26 (v := (-1 : Int32)) (by decide) ?_
      refine x_goto (pc := 27) dX12_toldHere_27 (tgt := 34) (by decide) ?_
      refine x_sub [(0, _)] ⟨rfl, trivial⟩ ?_
      exact j34 _ h
  refine x_if_ne (pc := 4) dX12_toldHere_4 (tgt := 19) (by decide) (fun c14 => ?_) (fun c14 => ?_)
  · replace h := wo_neg c14 h
    refine x_sub [(0, _)] ⟨rfl, trivial⟩ ?_
    exact j19 _ h
  · replace h := wo_pos c14 h
    refine x_aload_n (pc := 7) dX12_toldHere_7 rfl ?_
    refine z_Vi0 (pc := 8) h dX12_toldHere_8 lX12_211 (by decide) (by omega) rfl (fun a e => w_X12_isName _ a e) (fun v11 h => ?_)
    refine x_if_ne (pc := 11) dX12_toldHere_11 (tgt := 19) (by decide) (fun c13 => ?_) (fun c13 => ?_)
    · replace h := wo_neg c13 h
      refine x_sub [(0, _)] ⟨rfl, trivial⟩ ?_
      exact j19 _ h
    · replace h := wo_pos c13 h
      refine x_aload_n (pc := 14) dX12_toldHere_14 rfl ?_
      refine x_iconst (pc := 15) dX12_toldHere_15 (v := (1 : Int32)) (by decide) ?_
      refine y_Vv1 (pc := 16) h dX12_toldHere_16 lX12_189 (by decide) (by omega) rfl (fun a e => w_X12_wrong _ _ a e) (fun m12 h => ?_)
      refine x_sub [(0, _)] ⟨rfl, trivial⟩ ?_
      exact j19 _ h
noncomputable def f_X12_takeOther_J60 (v1 : Int32) (m3 : mi_M) (u4 : Int32) : Option (Int32 × mi_M) := mi_let (mi_wI m3 12 0 7 ((m3.1 12 0 7) + u4)) fun m5 => some (v1, m5)
noncomputable def f_X12_takeOther_J43 (v1 : Int32) (m3 : mi_M) : Option (Int32 × mi_M) := if (m3.1 12 0 8) ≤ 0 then f_X12_takeOther_J60 v1 m3 (1 : Int32) else f_X12_takeOther_J60 v1 m3 (0 : Int32)
noncomputable def f_X12_takeOther_J38 (v1 : Int32) (m2 : mi_M) : Option (Int32 × mi_M) := mi_bo (f_X12_wrong (3 : Int32) m2) fun m7 => f_X12_takeOther_J43 v1 m7
noncomputable def f_X12_takeOther (p0 : Int32) (p1 : Int32) (mem : mi_M) : Option (Int32 × mi_M) := mi_b (f_X12_toldHere mem) fun v1 m2 => if (m2.1 12 0 8) = 0 then if v1 = p0 then f_X12_takeOther_J38 v1 m2 else if p1 = 0 then f_X12_takeOther_J43 v1 m2 else mi_g (vp_in (((121 : Int32) + ((6 : Int32) * p0)) + v1) 200) (if (m2.1 56 0 (((121 : Int32) + ((6 : Int32) * p0)) + v1).toNatClampNeg) ≤ 0 then f_X12_takeOther_J43 v1 m2 else f_X12_takeOther_J38 v1 m2) else f_X12_takeOther_J43 v1 m2
set_option maxRecDepth 100000 in
set_option maxHeartbeats 4000000 in
theorem w_X12_takeOther (p0 : Int32) (p1 : Int32) (mem : mi_M) (a : Int32 × mi_M) (e : f_X12_takeOther p0 p1 mem = some a) : mi_Ci (5) mX12_takeOther [vr 12 0, vi p0, vi p1] mem (fun x m' => x = a.1 ∧ m' = a.2) := by
  unfold mi_Ci
  refine mi_C_intro (ls := [(0, vr 12 0), (1, vi p0), (2, vi p1)]) (by decide) rfl rfl ?_
  obtain ⟨Q0, hq0, h⟩ : ∃ Q0 : (Int32 × mi_M) → Prop, (∀ b, Q0 b → b = a) ∧ wo (f_X12_takeOther p0 p1 mem) Q0 := ⟨fun b => b = a, fun _ h => h, wo_eq e⟩
  obtain ⟨QX, hQX⟩ : ∃ QX : Option mi_V → mi_M → Prop, QX = (fun r m' => ∃ x, r = some (vi x) ∧ x = a.1 ∧ m' = a.2) := ⟨_, rfl⟩
  rw [← hQX]
  unfold f_X12_takeOther at h
  refine x_aload_n (pc := 0) dX12_takeOther_0 rfl ?_
  refine y_Vi0 (pc := 1) h dX12_takeOther_1 lX12_219 (by decide) (by omega) rfl (fun a e => w_X12_toldHere _ a e) (fun v1 m2 h => ?_)
  refine x_istore_n (ls' := [(3, _), (0, _), (1, _), (2, _)]) (pc := 4) dX12_takeOther_4 rfl rfl rfl ?_
  refine x_aload_n (pc := 5) dX12_takeOther_5 rfl ?_
  refine x_getI (pc := 6) dX12_takeOther_6 fX12_183 rfl (by decide) ?_
  have j43 : ∀ (m3 : mi_M), wo (f_X12_takeOther_J43 v1 m3) Q0 → mi_X mX12_takeOther (5) 43 [(0, vr 12 0), (3, vi v1)] [] m3 QX := by
    intro m3 h
    unfold f_X12_takeOther_J43 at h
    refine x_aload_n (pc := 43) dX12_takeOther_43 rfl ?_
    refine x_dup (pc := 44) dX12_takeOther_44 rfl ?_
    refine x_getI (pc := 45) dX12_takeOther_45 fX12_180 rfl (by decide) ?_
    refine x_aload_n (pc := 48) dX12_takeOther_48 rfl ?_
    refine x_getI (pc := 49) dX12_takeOther_49 fX12_183 rfl (by decide) ?_
    have j60 : ∀ (u4 : Int32), wo (f_X12_takeOther_J60 v1 m3 u4) Q0 → mi_X mX12_takeOther (5) 60 [(3, vi v1)] [vi u4, vi (m3.1 12 0 7), vr 12 0] m3 QX := by
      intro u4 h
      unfold f_X12_takeOther_J60 at h
      refine x_iadd (pc := 60) dX12_takeOther_60 ?_
      refine x_putI (pc := 61) dX12_takeOther_61 fX12_180 rfl (by decide) rfl rfl ?_
      refine x_letm h (fun m5 h => ?_)
      refine x_iload_n (pc := 64) dX12_takeOther_64 rfl ?_
      exact x_iret (pc := 65) dX12_takeOther_65 rfl (by rw [hQX]; exact ⟨_, rfl, congrArg Prod.fst (hq0 _ (wo_some h)), congrArg Prod.snd (hq0 _ (wo_some h))⟩)
    refine x_if_le (pc := 52) dX12_takeOther_52 (tgt := 59) (by decide) (fun c6 => ?_) (fun c6 => ?_)
    · replace h := wo_pos c6 h
      refine x_iconst (pc := 59) dX12_takeOther_59 (v := (1 : Int32)) (by decide) ?_
      refine x_sub [(3, _)] ⟨rfl, trivial⟩ ?_
      exact j60 _ h
    · replace h := wo_neg c6 h
      refine x_iconst (pc := 55) dX12_takeOther_55 (v := (0 : Int32)) (by decide) ?_
      refine x_goto (pc := 56) dX12_takeOther_56 (tgt := 60) (by decide) ?_
      refine x_sub [(3, _)] ⟨rfl, trivial⟩ ?_
      exact j60 _ h
  refine x_if_ne (pc := 9) dX12_takeOther_9 (tgt := 43) (by decide) (fun c12 => ?_) (fun c12 => ?_)
  · replace h := wo_neg c12 h
    refine x_sub [(0, _), (3, _)] ⟨rfl, rfl, trivial⟩ ?_
    exact j43 _ h
  · replace h := wo_pos c12 h
    refine x_iload_n (pc := 12) dX12_takeOther_12 rfl ?_
    refine x_iload_n (pc := 13) dX12_takeOther_13 rfl ?_
    have j38 : wo (f_X12_takeOther_J38 v1 m2) Q0 → mi_X mX12_takeOther (5) 38 [(0, vr 12 0), (3, vi v1)] [] m2 QX := by
      intro h
      unfold f_X12_takeOther_J38 at h
      refine x_aload_n (pc := 38) dX12_takeOther_38 rfl ?_
      refine x_iconst (pc := 39) dX12_takeOther_39 (v := (3 : Int32)) (by decide) ?_
      refine y_Vv1 (pc := 40) h dX12_takeOther_40 lX12_189 (by decide) (by omega) rfl (fun a e => w_X12_wrong _ _ a e) (fun m7 h => ?_)
      refine x_sub [(0, _), (3, _)] ⟨rfl, rfl, trivial⟩ ?_
      exact j43 _ h
    refine x_icmp_eq (pc := 14) dX12_takeOther_14 (tgt := 38) (by decide) (fun c11 => ?_) (fun c11 => ?_)
    · replace h := wo_pos c11 h
      refine x_sub [(0, _), (3, _)] ⟨rfl, rfl, trivial⟩ ?_
      exact j38 h
    · replace h := wo_neg c11 h
      refine x_iload_n (pc := 17) dX12_takeOther_17 rfl ?_
      refine x_if_eq (pc := 18) dX12_takeOther_18 (tgt := 43) (by decide) (fun c10 => ?_) (fun c10 => ?_)
      · replace h := wo_pos c10 h
        refine x_sub [(0, _), (3, _)] ⟨rfl, rfl, trivial⟩ ?_
        exact j43 _ h
      · replace h := wo_neg c10 h
        refine x_aload_n (pc := 21) dX12_takeOther_21 rfl ?_
        refine x_getS (pc := 22) dX12_takeOther_22 fX12_89 rfl (by decide) ?_
        refine x_bipush (pc := 25) dX12_takeOther_25 (v := (121 : Int32)) (by decide) ?_
        refine x_bipush (pc := 27) dX12_takeOther_27 (v := (6 : Int32)) (by decide) ?_
        refine x_iload_n (pc := 29) dX12_takeOther_29 rfl ?_
        refine x_imul (pc := 30) dX12_takeOther_30 ?_
        refine x_iadd (pc := 31) dX12_takeOther_31 ?_
        refine x_iload_n (pc := 32) dX12_takeOther_32 rfl ?_
        refine x_iadd (pc := 33) dX12_takeOther_33 ?_
        obtain ⟨hx8, h⟩ := wo_g h
        refine x_ialdJ (pc := 34) dX12_takeOther_34 rfl rfl (by decide) hx8 ?_
        refine x_if_le (pc := 35) dX12_takeOther_35 (tgt := 43) (by decide) (fun c9 => ?_) (fun c9 => ?_)
        · replace h := wo_pos c9 h
          refine x_sub [(0, _), (3, _)] ⟨rfl, rfl, trivial⟩ ?_
          exact j43 _ h
        · replace h := wo_neg c9 h
          refine x_sub [(0, _), (3, _)] ⟨rfl, rfl, trivial⟩ ?_
          exact j38 h
noncomputable def f_X12_takeTold_J22 (v1 : Int32) (m2 : mi_M) (u3 : Int32) : Option (Int32 × mi_M) := mi_let (mi_wI m2 12 0 7 ((m2.1 12 0 7) + u3)) fun m4 => some (v1, m4)
noncomputable def f_X12_takeTold (mem : mi_M) : Option (Int32 × mi_M) := mi_b (f_X12_toldHere mem) fun v1 m2 => if (m2.1 12 0 8) ≤ 0 then f_X12_takeTold_J22 v1 m2 (1 : Int32) else f_X12_takeTold_J22 v1 m2 (0 : Int32)
set_option maxRecDepth 100000 in
set_option maxHeartbeats 4000000 in
theorem w_X12_takeTold (mem : mi_M) (a : Int32 × mi_M) (e : f_X12_takeTold  mem = some a) : mi_Ci (5) mX12_takeTold [vr 12 0] mem (fun x m' => x = a.1 ∧ m' = a.2) := by
  unfold mi_Ci
  refine mi_C_intro (ls := [(0, vr 12 0)]) (by decide) rfl rfl ?_
  obtain ⟨Q0, hq0, h⟩ : ∃ Q0 : (Int32 × mi_M) → Prop, (∀ b, Q0 b → b = a) ∧ wo (f_X12_takeTold  mem) Q0 := ⟨fun b => b = a, fun _ h => h, wo_eq e⟩
  obtain ⟨QX, hQX⟩ : ∃ QX : Option mi_V → mi_M → Prop, QX = (fun r m' => ∃ x, r = some (vi x) ∧ x = a.1 ∧ m' = a.2) := ⟨_, rfl⟩
  rw [← hQX]
  unfold f_X12_takeTold at h
  refine x_aload_n (pc := 0) dX12_takeTold_0 rfl ?_
  refine y_Vi0 (pc := 1) h dX12_takeTold_1 lX12_219 (by decide) (by omega) rfl (fun a e => w_X12_toldHere _ a e) (fun v1 m2 h => ?_)
  refine x_istore_n (ls' := [(1, _), (0, _)]) (pc := 4) dX12_takeTold_4 rfl rfl rfl ?_
  refine x_aload_n (pc := 5) dX12_takeTold_5 rfl ?_
  refine x_dup (pc := 6) dX12_takeTold_6 rfl ?_
  refine x_getI (pc := 7) dX12_takeTold_7 fX12_180 rfl (by decide) ?_
  refine x_aload_n (pc := 10) dX12_takeTold_10 rfl ?_
  refine x_getI (pc := 11) dX12_takeTold_11 fX12_183 rfl (by decide) ?_
  have j22 : ∀ (u3 : Int32), wo (f_X12_takeTold_J22 v1 m2 u3) Q0 → mi_X mX12_takeTold (5) 22 [(1, vi v1)] [vi u3, vi (m2.1 12 0 7), vr 12 0] m2 QX := by
    intro u3 h
    unfold f_X12_takeTold_J22 at h
    refine x_iadd (pc := 22) dX12_takeTold_22 ?_
    refine x_putI (pc := 23) dX12_takeTold_23 fX12_180 rfl (by decide) rfl rfl ?_
    refine x_letm h (fun m4 h => ?_)
    refine x_iload_n (pc := 26) dX12_takeTold_26 rfl ?_
    exact x_iret (pc := 27) dX12_takeTold_27 rfl (by rw [hQX]; exact ⟨_, rfl, congrArg Prod.fst (hq0 _ (wo_some h)), congrArg Prod.snd (hq0 _ (wo_some h))⟩)
  refine x_if_le (pc := 14) dX12_takeTold_14 (tgt := 21) (by decide) (fun c5 => ?_) (fun c5 => ?_)
  · replace h := wo_pos c5 h
    refine x_iconst (pc := 21) dX12_takeTold_21 (v := (1 : Int32)) (by decide) ?_
    refine x_sub [(1, _)] ⟨rfl, trivial⟩ ?_
    exact j22 _ h
  · replace h := wo_neg c5 h
    refine x_iconst (pc := 17) dX12_takeTold_17 (v := (0 : Int32)) (by decide) ?_
    refine x_goto (pc := 18) dX12_takeTold_18 (tgt := 22) (by decide) ?_
    refine x_sub [(1, _)] ⟨rfl, trivial⟩ ?_
    exact j22 _ h
noncomputable def f_X12_readLane_J78 (m8 : mi_M) : Option (mi_M) := some m8
noncomputable def f_X12_readLane (mem : mi_M) : Option (mi_M) := mi_let (mi_wI mem 12 0 7 ((mem.1 12 0 7) + (1 : Int32))) fun m1 => mi_b (f_X12_takeTold m1) fun v2 m3 => mi_b (f_X12_takeOther v2 (1 : Int32) m3) fun v4 m5 => mi_b (f_X12_takeNumber (1 : Int32) (30 : Int32) m5) fun v6 m7 => if (m7.1 12 0 8) = 0 then mi_g (vp_in (((121 : Int32) + ((6 : Int32) * v2)) + v4) 200) (mi_let (mi_wI m7 56 0 (((121 : Int32) + ((6 : Int32) * v2)) + v4).toNatClampNeg v6) fun m10 => mi_g (vp_in (((121 : Int32) + ((6 : Int32) * v4)) + v2) 200) (mi_let (mi_wI m10 56 0 (((121 : Int32) + ((6 : Int32) * v4)) + v2).toNatClampNeg v6) fun m12 => mi_g (vp_in (101 : Int32) 200) (mi_g (vp_in (101 : Int32) 200) (mi_let (mi_wI m12 56 0 (101 : Int32).toNatClampNeg ((m12.1 56 0 (101 : Int32).toNatClampNeg) + (1 : Int32))) fun m15 => f_X12_readLane_J78 m15)))) else f_X12_readLane_J78 m7
set_option maxRecDepth 100000 in
set_option maxHeartbeats 4000000 in
theorem w_X12_readLane (mem : mi_M) (a : mi_M) (e : f_X12_readLane  mem = some a) : mi_Cv (6) mX12_readLane [vr 12 0] mem (fun m' => m' = a) := by
  unfold mi_Cv
  refine mi_C_intro (ls := [(0, vr 12 0)]) (by decide) rfl rfl ?_
  obtain ⟨Q0, hq0, h⟩ : ∃ Q0 : mi_M → Prop, (∀ b, Q0 b → b = a) ∧ wo (f_X12_readLane  mem) Q0 := ⟨fun b => b = a, fun _ h => h, wo_eq e⟩
  obtain ⟨QX, hQX⟩ : ∃ QX : Option mi_V → mi_M → Prop, QX = (fun r m' => r = none ∧ m' = a) := ⟨_, rfl⟩
  rw [← hQX]
  unfold f_X12_readLane at h
  refine x_aload_n (pc := 0) dX12_readLane_0 rfl ?_
  refine x_dup (pc := 1) dX12_readLane_1 rfl ?_
  refine x_getI (pc := 2) dX12_readLane_2 fX12_180 rfl (by decide) ?_
  refine x_iconst (pc := 5) dX12_readLane_5 (v := (1 : Int32)) (by decide) ?_
  refine x_iadd (pc := 6) dX12_readLane_6 ?_
  refine x_putI (pc := 7) dX12_readLane_7 fX12_180 rfl (by decide) rfl rfl ?_
  refine x_letm h (fun m1 h => ?_)
  refine x_aload_n (pc := 10) dX12_readLane_10 rfl ?_
  refine y_Vi0 (pc := 11) h dX12_readLane_11 lX12_259 (by decide) (by omega) rfl (fun a e => w_X12_takeTold _ a e) (fun v2 m3 h => ?_)
  refine x_istore_n (ls' := [(1, _), (0, _)]) (pc := 14) dX12_readLane_14 rfl rfl rfl ?_
  refine x_aload_n (pc := 15) dX12_readLane_15 rfl ?_
  refine x_iload_n (pc := 16) dX12_readLane_16 rfl ?_
  refine x_iconst (pc := 17) dX12_readLane_17 (v := (1 : Int32)) (by decide) ?_
  refine y_Vi2 (pc := 18) h dX12_readLane_18 lX12_262 (by decide) (by omega) rfl (fun a e => w_X12_takeOther _ _ _ a e) (fun v4 m5 h => ?_)
  refine x_istore_n (ls' := [(2, _), (1, _), (0, _)]) (pc := 21) dX12_readLane_21 rfl rfl rfl ?_
  refine x_aload_n (pc := 22) dX12_readLane_22 rfl ?_
  refine x_iconst (pc := 23) dX12_readLane_23 (v := (1 : Int32)) (by decide) ?_
  refine x_bipush (pc := 24) dX12_readLane_24 (v := (30 : Int32)) (by decide) ?_
  refine y_Vi2 (pc := 26) h dX12_readLane_26 lX12_201 (by decide) (by omega) rfl (fun a e => w_X12_takeNumber _ _ _ a e) (fun v6 m7 h => ?_)
  refine x_istore_n (ls' := [(3, _), (2, _), (1, _), (0, _)]) (pc := 29) dX12_readLane_29 rfl rfl rfl ?_
  refine x_aload_n (pc := 30) dX12_readLane_30 rfl ?_
  refine x_getI (pc := 31) dX12_readLane_31 fX12_183 rfl (by decide) ?_
  have j78 : ∀ (m8 : mi_M), wo (f_X12_readLane_J78 m8) Q0 → mi_X mX12_readLane (6) 78 [] [] m8 QX := by
    intro m8 h
    unfold f_X12_readLane_J78 at h
    exact x_ret (pc := 78) dX12_readLane_78 rfl (by rw [hQX]; exact ⟨rfl, hq0 _ (wo_some h)⟩)
  refine x_if_ne (pc := 34) dX12_readLane_34 (tgt := 78) (by decide) (fun c16 => ?_) (fun c16 => ?_)
  · replace h := wo_neg c16 h
    refine x_sub [] trivial ?_
    exact j78 _ h
  · replace h := wo_pos c16 h
    refine x_aload_n (pc := 37) dX12_readLane_37 rfl ?_
    refine x_getS (pc := 38) dX12_readLane_38 fX12_89 rfl (by decide) ?_
    refine x_bipush (pc := 41) dX12_readLane_41 (v := (121 : Int32)) (by decide) ?_
    refine x_bipush (pc := 43) dX12_readLane_43 (v := (6 : Int32)) (by decide) ?_
    refine x_iload_n (pc := 45) dX12_readLane_45 rfl ?_
    refine x_imul (pc := 46) dX12_readLane_46 ?_
    refine x_iadd (pc := 47) dX12_readLane_47 ?_
    refine x_iload_n (pc := 48) dX12_readLane_48 rfl ?_
    refine x_iadd (pc := 49) dX12_readLane_49 ?_
    refine x_iload_n (pc := 50) dX12_readLane_50 rfl ?_
    obtain ⟨hx9, h⟩ := wo_g h
    refine x_iastJ (pc := 51) dX12_readLane_51 rfl rfl (by decide) rfl hx9 ?_
    refine x_letm h (fun m10 h => ?_)
    refine x_aload_n (pc := 52) dX12_readLane_52 rfl ?_
    refine x_getS (pc := 53) dX12_readLane_53 fX12_89 rfl (by decide) ?_
    refine x_bipush (pc := 56) dX12_readLane_56 (v := (121 : Int32)) (by decide) ?_
    refine x_bipush (pc := 58) dX12_readLane_58 (v := (6 : Int32)) (by decide) ?_
    refine x_iload_n (pc := 60) dX12_readLane_60 rfl ?_
    refine x_imul (pc := 61) dX12_readLane_61 ?_
    refine x_iadd (pc := 62) dX12_readLane_62 ?_
    refine x_iload_n (pc := 63) dX12_readLane_63 rfl ?_
    refine x_iadd (pc := 64) dX12_readLane_64 ?_
    refine x_iload_n (pc := 65) dX12_readLane_65 rfl ?_
    obtain ⟨hx11, h⟩ := wo_g h
    refine x_iastJ (pc := 66) dX12_readLane_66 rfl rfl (by decide) rfl hx11 ?_
    refine x_letm h (fun m12 h => ?_)
    refine x_aload_n (pc := 67) dX12_readLane_67 rfl ?_
    refine x_getS (pc := 68) dX12_readLane_68 fX12_89 rfl (by decide) ?_
    refine x_bipush (pc := 71) dX12_readLane_71 (v := (101 : Int32)) (by decide) ?_
    refine x_dup2 (pc := 73) dX12_readLane_73 rfl rfl ?_
    obtain ⟨hx13, h⟩ := wo_g h
    refine x_ialdJ (pc := 74) dX12_readLane_74 rfl rfl (by decide) hx13 ?_
    refine x_iconst (pc := 75) dX12_readLane_75 (v := (1 : Int32)) (by decide) ?_
    refine x_iadd (pc := 76) dX12_readLane_76 ?_
    obtain ⟨hx14, h⟩ := wo_g h
    refine x_iastJ (pc := 77) dX12_readLane_77 rfl rfl (by decide) rfl hx14 ?_
    refine x_letm h (fun m15 h => ?_)
    refine x_sub [] trivial ?_
    exact j78 _ h
noncomputable def f_X12_readOnce_J126 (m5 : mi_M) : Option (mi_M) := some m5
noncomputable def f_X12_readOnce_J93 (v1 : Int32) (m4 : mi_M) (u10 : Int32) : Option (mi_M) := mi_b (f_X12_takeNumber (0 : Int32) u10 m4) fun v11 m12 => mi_g (vp_in ((104 : Int32) + v1) 200) (mi_let (mi_wI m12 56 0 ((104 : Int32) + v1).toNatClampNeg v11) fun m14 => f_X12_readOnce_J126 m14)
noncomputable def f_X12_readOnce_J37 (v1 : Int32) (m2 : mi_M) : Option (mi_M) := if (m2.1 12 0 8) ≤ 0 then mi_let (mi_wI m2 12 0 17 ((m2.1 12 0 17) ||| ((1 : Int32) <<< (v1 &&& 31)))) fun m3 => mi_let (mi_wI m3 12 0 7 ((m3.1 12 0 7) + (1 : Int32))) fun m4 => if (2 : Int32) ≤ v1 then mi_g (vp_in (((106 : Int32) + v1) - (2 : Int32)) 200) (mi_let (mi_wI m4 56 0 (((106 : Int32) + v1) - (2 : Int32)).toNatClampNeg (m4.1 12 0 13)) fun m7 => mi_bo (f_X12_all (0 : Int32) m7) fun m8 => mi_bo (f_X12_emit (0 : Int32) (0 : Int32) m8) fun m9 => f_X12_readOnce_J126 m9) else if v1 = 0 then f_X12_readOnce_J93 v1 m4 (30 : Int32) else f_X12_readOnce_J93 v1 m4 (10 : Int32) else some m2
noncomputable def f_X12_readOnce (mem : mi_M) : Option (mi_M) := mi_bo (f_X12_wordHere (7 : Int32) (5 : Int32) mem) fun v1 => if 0 ≤ v1 then if (((mem.1 12 0 17) >>> (v1 &&& 31)) &&& (1 : Int32)) = (1 : Int32) then mi_bo (f_X12_wrong (3 : Int32) mem) fun m18 => f_X12_readOnce_J37 v1 m18 else f_X12_readOnce_J37 v1 mem else mi_bo (f_X12_wrong (1 : Int32) mem) fun m20 => f_X12_readOnce_J37 v1 m20
set_option maxRecDepth 100000 in
set_option maxHeartbeats 4000000 in
theorem w_X12_readOnce (mem : mi_M) (a : mi_M) (e : f_X12_readOnce  mem = some a) : mi_Cv (44) mX12_readOnce [vr 12 0] mem (fun m' => m' = a) := by
  unfold mi_Cv
  refine mi_C_intro (ls := [(0, vr 12 0)]) (by decide) rfl rfl ?_
  obtain ⟨Q0, hq0, h⟩ : ∃ Q0 : mi_M → Prop, (∀ b, Q0 b → b = a) ∧ wo (f_X12_readOnce  mem) Q0 := ⟨fun b => b = a, fun _ h => h, wo_eq e⟩
  obtain ⟨QX, hQX⟩ : ∃ QX : Option mi_V → mi_M → Prop, QX = (fun r m' => r = none ∧ m' = a) := ⟨_, rfl⟩
  rw [← hQX]
  unfold f_X12_readOnce at h
  refine x_aload_n (pc := 0) dX12_readOnce_0 rfl ?_
  refine x_bipush (pc := 1) dX12_readOnce_1 (v := (7 : Int32)) (by decide) ?_
  refine x_iconst (pc := 3) dX12_readOnce_3 (v := (5 : Int32)) (by decide) ?_
  refine z_Vi2 (pc := 4) h dX12_readOnce_4 lX12_205 (by decide) (by omega) rfl (fun a e => w_X12_wordHere _ _ _ a e) (fun v1 h => ?_)
  refine x_istore_n (ls' := [(1, _), (0, _)]) (pc := 7) dX12_readOnce_7 rfl rfl rfl ?_
  refine x_iload_n (pc := 8) dX12_readOnce_8 rfl ?_
  have j37 : ∀ (m2 : mi_M), wo (f_X12_readOnce_J37 v1 m2) Q0 → mi_X mX12_readOnce (44) 37 [(0, vr 12 0), (1, vi v1)] [] m2 QX := by
    intro m2 h
    unfold f_X12_readOnce_J37 at h
    refine x_aload_n (pc := 37) dX12_readOnce_37 rfl ?_
    refine x_getI (pc := 38) dX12_readOnce_38 fX12_183 rfl (by decide) ?_
    refine x_if_le (pc := 41) dX12_readOnce_41 (tgt := 45) (by decide) (fun c17 => ?_) (fun c17 => ?_)
    · replace h := wo_pos c17 h
      refine x_aload_n (pc := 45) dX12_readOnce_45 rfl ?_
      refine x_dup (pc := 46) dX12_readOnce_46 rfl ?_
      refine x_getI (pc := 47) dX12_readOnce_47 fX12_228 rfl (by decide) ?_
      refine x_iconst (pc := 50) dX12_readOnce_50 (v := (1 : Int32)) (by decide) ?_
      refine x_iload_n (pc := 51) dX12_readOnce_51 rfl ?_
      refine x_ishl (pc := 52) dX12_readOnce_52 ?_
      refine x_ior (pc := 53) dX12_readOnce_53 ?_
      refine x_putI (pc := 54) dX12_readOnce_54 fX12_228 rfl (by decide) rfl rfl ?_
      refine x_letm h (fun m3 h => ?_)
      refine x_aload_n (pc := 57) dX12_readOnce_57 rfl ?_
      refine x_dup (pc := 58) dX12_readOnce_58 rfl ?_
      refine x_getI (pc := 59) dX12_readOnce_59 fX12_180 rfl (by decide) ?_
      refine x_iconst (pc := 62) dX12_readOnce_62 (v := (1 : Int32)) (by decide) ?_
      refine x_iadd (pc := 63) dX12_readOnce_63 ?_
      refine x_putI (pc := 64) dX12_readOnce_64 fX12_180 rfl (by decide) rfl rfl ?_
      refine x_letm h (fun m4 h => ?_)
      refine x_iload_n (pc := 67) dX12_readOnce_67 rfl ?_
      refine x_iconst (pc := 68) dX12_readOnce_68 (v := (2 : Int32)) (by decide) ?_
      have j126 : ∀ (m5 : mi_M), wo (f_X12_readOnce_J126 m5) Q0 → mi_X mX12_readOnce (44) 126 [] [] m5 QX := by
        intro m5 h
        unfold f_X12_readOnce_J126 at h
        exact x_ret (pc := 126) dX12_readOnce_126 rfl (by rw [hQX]; exact ⟨rfl, hq0 _ (wo_some h)⟩)
      refine x_icmp_ge (pc := 69) dX12_readOnce_69 (tgt := 100) (by decide) (fun c16 => ?_) (fun c16 => ?_)
      · replace h := wo_pos c16 h
        refine x_aload_n (pc := 100) dX12_readOnce_100 rfl ?_
        refine x_getS (pc := 101) dX12_readOnce_101 fX12_89 rfl (by decide) ?_
        refine x_bipush (pc := 104) dX12_readOnce_104 (v := (106 : Int32)) (by decide) ?_
        refine x_iload_n (pc := 106) dX12_readOnce_106 rfl ?_
        refine x_iadd (pc := 107) dX12_readOnce_107 ?_
        refine x_iconst (pc := 108) dX12_readOnce_108 (v := (2 : Int32)) (by decide) ?_
        refine x_isub (pc := 109) dX12_readOnce_109 ?_
        refine x_aload_n (pc := 110) dX12_readOnce_110 rfl ?_
        refine x_getI (pc := 111) dX12_readOnce_111 fX12_225 rfl (by decide) ?_
        obtain ⟨hx6, h⟩ := wo_g h
        refine x_iastJ (pc := 114) dX12_readOnce_114 rfl rfl (by decide) rfl hx6 ?_
        refine x_letm h (fun m7 h => ?_)
        refine x_aload_n (pc := 115) dX12_readOnce_115 rfl ?_
        refine x_iconst (pc := 116) dX12_readOnce_116 (v := (0 : Int32)) (by decide) ?_
        refine y_Vv1 (pc := 117) h dX12_readOnce_117 lX12_266 (by decide) (by omega) rfl (fun a e => w_X12_all _ _ a e) (fun m8 h => ?_)
        refine x_aload_n (pc := 120) dX12_readOnce_120 rfl ?_
        refine x_iconst (pc := 121) dX12_readOnce_121 (v := (0 : Int32)) (by decide) ?_
        refine x_iconst (pc := 122) dX12_readOnce_122 (v := (0 : Int32)) (by decide) ?_
        refine y_Vv2 (pc := 123) h dX12_readOnce_123 lX12_269 (by decide) (by omega) rfl (fun a e => w_X12_emit _ _ _ a e) (fun m9 h => ?_)
        refine x_sub [] trivial ?_
        exact j126 _ h
      · replace h := wo_neg c16 h
        refine x_aload_n (pc := 72) dX12_readOnce_72 rfl ?_
        refine x_getS (pc := 73) dX12_readOnce_73 fX12_89 rfl (by decide) ?_
        refine x_bipush (pc := 76) dX12_readOnce_76 (v := (104 : Int32)) (by decide) ?_
        refine x_iload_n (pc := 78) dX12_readOnce_78 rfl ?_
        refine x_iadd (pc := 79) dX12_readOnce_79 ?_
        refine x_aload_n (pc := 80) dX12_readOnce_80 rfl ?_
        refine x_iconst (pc := 81) dX12_readOnce_81 (v := (0 : Int32)) (by decide) ?_
        refine x_iload_n (pc := 82) dX12_readOnce_82 rfl ?_
        have j93 : ∀ (u10 : Int32), wo (f_X12_readOnce_J93 v1 m4 u10) Q0 → mi_X mX12_readOnce (44) 93 [] [vi u10, vi (0 : Int32), vr 12 0, vi ((104 : Int32) + v1), vr 56 0] m4 QX := by
          intro u10 h
          unfold f_X12_readOnce_J93 at h
          refine y_Vi2 (pc := 93) h dX12_readOnce_93 lX12_201 (by decide) (by omega) rfl (fun a e => w_X12_takeNumber _ _ _ a e) (fun v11 m12 h => ?_)
          obtain ⟨hx13, h⟩ := wo_g h
          refine x_iastJ (pc := 96) dX12_readOnce_96 rfl rfl (by decide) rfl hx13 ?_
          refine x_letm h (fun m14 h => ?_)
          refine x_goto (pc := 97) dX12_readOnce_97 (tgt := 126) (by decide) ?_
          refine x_sub [] trivial ?_
          exact j126 _ h
        refine x_if_ne (pc := 83) dX12_readOnce_83 (tgt := 91) (by decide) (fun c15 => ?_) (fun c15 => ?_)
        · replace h := wo_neg c15 h
          refine x_bipush (pc := 91) dX12_readOnce_91 (v := (10 : Int32)) (by decide) ?_
          refine x_sub [] trivial ?_
          exact j93 _ h
        · replace h := wo_pos c15 h
          refine x_bipush (pc := 86) dX12_readOnce_86 (v := (30 : Int32)) (by decide) ?_
          refine x_goto (pc := 88) dX12_readOnce_88 (tgt := 93) (by decide) ?_
          refine x_sub [] trivial ?_
          exact j93 _ h
    · replace h := wo_neg c17 h
      exact x_ret (pc := 44) dX12_readOnce_44 rfl (by rw [hQX]; exact ⟨rfl, hq0 _ (wo_some h)⟩)
  refine x_if_ge (pc := 9) dX12_readOnce_9 (tgt := 20) (by decide) (fun c21 => ?_) (fun c21 => ?_)
  · replace h := wo_pos c21 h
    refine x_aload_n (pc := 20) dX12_readOnce_20 rfl ?_
    refine x_getI (pc := 21) dX12_readOnce_21 fX12_228 rfl (by decide) ?_
    refine x_iload_n (pc := 24) dX12_readOnce_24 rfl ?_
    refine x_ishr (pc := 25) dX12_readOnce_25 ?_
    refine x_iconst (pc := 26) dX12_readOnce_26 (v := (1 : Int32)) (by decide) ?_
    refine x_iand (pc := 27) dX12_readOnce_27 ?_
    refine x_iconst (pc := 28) dX12_readOnce_28 (v := (1 : Int32)) (by decide) ?_
    refine x_icmp_ne (pc := 29) dX12_readOnce_29 (tgt := 37) (by decide) (fun c19 => ?_) (fun c19 => ?_)
    · replace h := wo_neg c19 h
      refine x_sub [(0, _), (1, _)] ⟨rfl, rfl, trivial⟩ ?_
      exact j37 _ h
    · replace h := wo_pos c19 h
      refine x_aload_n (pc := 32) dX12_readOnce_32 rfl ?_
      refine x_iconst (pc := 33) dX12_readOnce_33 (v := (3 : Int32)) (by decide) ?_
      refine y_Vv1 (pc := 34) h dX12_readOnce_34 lX12_189 (by decide) (by omega) rfl (fun a e => w_X12_wrong _ _ a e) (fun m18 h => ?_)
      refine x_sub [(0, _), (1, _)] ⟨rfl, rfl, trivial⟩ ?_
      exact j37 _ h
  · replace h := wo_neg c21 h
    refine x_aload_n (pc := 12) dX12_readOnce_12 rfl ?_
    refine x_iconst (pc := 13) dX12_readOnce_13 (v := (1 : Int32)) (by decide) ?_
    refine y_Vv1 (pc := 14) h dX12_readOnce_14 lX12_189 (by decide) (by omega) rfl (fun a e => w_X12_wrong _ _ a e) (fun m20 h => ?_)
    refine x_goto (pc := 17) dX12_readOnce_17 (tgt := 37) (by decide) ?_
    refine x_sub [(0, _), (1, _)] ⟨rfl, rfl, trivial⟩ ?_
    exact j37 _ h
noncomputable def f_X12_takeWord_J13 (m3 : mi_M) : Option (mi_M) := some m3
noncomputable def f_X12_takeWord (p0 : Int32) (mem : mi_M) : Option (mi_M) := mi_b (f_X12_hasWord p0 mem) fun v1 m2 => if v1 = 0 then mi_bo (f_X12_wrong (1 : Int32) m2) fun m4 => f_X12_takeWord_J13 m4 else f_X12_takeWord_J13 m2
set_option maxRecDepth 100000 in
set_option maxHeartbeats 4000000 in
theorem w_X12_takeWord (p0 : Int32) (mem : mi_M) (a : mi_M) (e : f_X12_takeWord p0 mem = some a) : mi_Cv (3) mX12_takeWord [vr 12 0, vi p0] mem (fun m' => m' = a) := by
  unfold mi_Cv
  refine mi_C_intro (ls := [(0, vr 12 0), (1, vi p0)]) (by decide) rfl rfl ?_
  obtain ⟨Q0, hq0, h⟩ : ∃ Q0 : mi_M → Prop, (∀ b, Q0 b → b = a) ∧ wo (f_X12_takeWord p0 mem) Q0 := ⟨fun b => b = a, fun _ h => h, wo_eq e⟩
  obtain ⟨QX, hQX⟩ : ∃ QX : Option mi_V → mi_M → Prop, QX = (fun r m' => r = none ∧ m' = a) := ⟨_, rfl⟩
  rw [← hQX]
  unfold f_X12_takeWord at h
  refine x_aload_n (pc := 0) dX12_takeWord_0 rfl ?_
  refine x_iload_n (pc := 1) dX12_takeWord_1 rfl ?_
  refine y_Vi1 (pc := 2) h dX12_takeWord_2 lX12_195 (by decide) (by omega) rfl (fun a e => w_X12_hasWord _ _ a e) (fun v1 m2 h => ?_)
  have j13 : ∀ (m3 : mi_M), wo (f_X12_takeWord_J13 m3) Q0 → mi_X mX12_takeWord (3) 13 [] [] m3 QX := by
    intro m3 h
    unfold f_X12_takeWord_J13 at h
    exact x_ret (pc := 13) dX12_takeWord_13 rfl (by rw [hQX]; exact ⟨rfl, hq0 _ (wo_some h)⟩)
  refine x_if_ne (pc := 5) dX12_takeWord_5 (tgt := 13) (by decide) (fun c5 => ?_) (fun c5 => ?_)
  · replace h := wo_neg c5 h
    refine x_sub [] trivial ?_
    exact j13 _ h
  · replace h := wo_pos c5 h
    refine x_aload_n (pc := 8) dX12_takeWord_8 rfl ?_
    refine x_iconst (pc := 9) dX12_takeWord_9 (v := (1 : Int32)) (by decide) ?_
    refine y_Vv1 (pc := 10) h dX12_takeWord_10 lX12_189 (by decide) (by omega) rfl (fun a e => w_X12_wrong _ _ a e) (fun m4 h => ?_)
    refine x_sub [] trivial ?_
    exact j13 _ h
noncomputable def f_X12_takeAfter (p0 : Int32) (p1 : Int32) (p2 : Int32) (mem : mi_M) : Option (Int32 × mi_M) := mi_bo (f_X12_takeWord p0 mem) fun m1 => mi_b (f_X12_takeNumber p1 p2 m1) fun v2 m3 => some (v2, m3)
set_option maxRecDepth 100000 in
set_option maxHeartbeats 4000000 in
theorem w_X12_takeAfter (p0 : Int32) (p1 : Int32) (p2 : Int32) (mem : mi_M) (a : Int32 × mi_M) (e : f_X12_takeAfter p0 p1 p2 mem = some a) : mi_Ci (4) mX12_takeAfter [vr 12 0, vi p0, vi p1, vi p2] mem (fun x m' => x = a.1 ∧ m' = a.2) := by
  unfold mi_Ci
  refine mi_C_intro (ls := [(0, vr 12 0), (1, vi p0), (2, vi p1), (3, vi p2)]) (by decide) rfl rfl ?_
  obtain ⟨Q0, hq0, h⟩ : ∃ Q0 : (Int32 × mi_M) → Prop, (∀ b, Q0 b → b = a) ∧ wo (f_X12_takeAfter p0 p1 p2 mem) Q0 := ⟨fun b => b = a, fun _ h => h, wo_eq e⟩
  obtain ⟨QX, hQX⟩ : ∃ QX : Option mi_V → mi_M → Prop, QX = (fun r m' => ∃ x, r = some (vi x) ∧ x = a.1 ∧ m' = a.2) := ⟨_, rfl⟩
  rw [← hQX]
  unfold f_X12_takeAfter at h
  refine x_aload_n (pc := 0) dX12_takeAfter_0 rfl ?_
  refine x_iload_n (pc := 1) dX12_takeAfter_1 rfl ?_
  refine y_Vv1 (pc := 2) h dX12_takeAfter_2 lX12_198 (by decide) (by omega) rfl (fun a e => w_X12_takeWord _ _ a e) (fun m1 h => ?_)
  refine x_aload_n (pc := 5) dX12_takeAfter_5 rfl ?_
  refine x_iload_n (pc := 6) dX12_takeAfter_6 rfl ?_
  refine x_iload_n (pc := 7) dX12_takeAfter_7 rfl ?_
  refine y_Vi2 (pc := 8) h dX12_takeAfter_8 lX12_201 (by decide) (by omega) rfl (fun a e => w_X12_takeNumber _ _ _ a e) (fun v2 m3 h => ?_)
  exact x_iret (pc := 11) dX12_takeAfter_11 rfl (by rw [hQX]; exact ⟨_, rfl, congrArg Prod.fst (hq0 _ (wo_some h)), congrArg Prod.snd (hq0 _ (wo_some h))⟩)
noncomputable def f_X12_takeOne_J67 (m4 : mi_M) (u5 : Int32) : Option (Int32 × mi_M) := some (u5, m4)
noncomputable def f_X12_takeOne_J51 (u1 : Int32) (m2 : mi_M) (u3 : Int32) : Option (Int32 × mi_M) := mi_let (mi_wI m2 12 0 7 ((m2.1 12 0 7) + u3)) fun m4 => if (m4.1 12 0 8) ≤ 0 then f_X12_takeOne_J67 m4 u1 else f_X12_takeOne_J67 m4 (0 : Int32)
noncomputable def f_X12_takeOne_J34 (u1 : Int32) (m2 : mi_M) : Option (Int32 × mi_M) := if (m2.1 12 0 8) ≤ 0 then f_X12_takeOne_J51 u1 m2 (1 : Int32) else f_X12_takeOne_J51 u1 m2 (0 : Int32)
noncomputable def f_X12_takeOne_J17 (mem : mi_M) (u1 : Int32) : Option (Int32 × mi_M) := if (mem.1 12 0 8) = 0 then if 0 ≤ u1 then f_X12_takeOne_J34 u1 mem else mi_bo (f_X12_wrong (1 : Int32) mem) fun m8 => f_X12_takeOne_J34 u1 m8 else f_X12_takeOne_J34 u1 mem
noncomputable def f_X12_takeOne (p0 : Int32) (p1 : Int32) (mem : mi_M) : Option (Int32 × mi_M) := if (mem.1 12 0 8) ≤ 0 then mi_bo (f_X12_wordHere p0 p1 mem) fun v11 => f_X12_takeOne_J17 mem v11 else f_X12_takeOne_J17 mem (-1 : Int32)
set_option maxRecDepth 100000 in
set_option maxHeartbeats 4000000 in
theorem w_X12_takeOne (p0 : Int32) (p1 : Int32) (mem : mi_M) (a : Int32 × mi_M) (e : f_X12_takeOne p0 p1 mem = some a) : mi_Ci (3) mX12_takeOne [vr 12 0, vi p0, vi p1] mem (fun x m' => x = a.1 ∧ m' = a.2) := by
  unfold mi_Ci
  refine mi_C_intro (ls := [(0, vr 12 0), (1, vi p0), (2, vi p1)]) (by decide) rfl rfl ?_
  obtain ⟨Q0, hq0, h⟩ : ∃ Q0 : (Int32 × mi_M) → Prop, (∀ b, Q0 b → b = a) ∧ wo (f_X12_takeOne p0 p1 mem) Q0 := ⟨fun b => b = a, fun _ h => h, wo_eq e⟩
  obtain ⟨QX, hQX⟩ : ∃ QX : Option mi_V → mi_M → Prop, QX = (fun r m' => ∃ x, r = some (vi x) ∧ x = a.1 ∧ m' = a.2) := ⟨_, rfl⟩
  rw [← hQX]
  unfold f_X12_takeOne at h
  refine x_aload_n (pc := 0) dX12_takeOne_0 rfl ?_
  refine x_getI (pc := 1) dX12_takeOne_1 fX12_183 rfl (by decide) ?_
  have j17 : ∀ (u1 : Int32), wo (f_X12_takeOne_J17 mem u1) Q0 → mi_X mX12_takeOne (3) 17 [(0, vr 12 0)] [vi u1] mem QX := by
    intro u1 h
    unfold f_X12_takeOne_J17 at h
    refine x_istore_n (ls' := [(3, _), (0, _)]) (pc := 17) dX12_takeOne_17 rfl rfl rfl ?_
    refine x_aload_n (pc := 18) dX12_takeOne_18 rfl ?_
    refine x_getI (pc := 19) dX12_takeOne_19 fX12_183 rfl (by decide) ?_
    have j34 : ∀ (m2 : mi_M), wo (f_X12_takeOne_J34 u1 m2) Q0 → mi_X mX12_takeOne (3) 34 [(0, vr 12 0), (3, vi u1)] [] m2 QX := by
      intro m2 h
      unfold f_X12_takeOne_J34 at h
      refine x_aload_n (pc := 34) dX12_takeOne_34 rfl ?_
      refine x_dup (pc := 35) dX12_takeOne_35 rfl ?_
      refine x_getI (pc := 36) dX12_takeOne_36 fX12_180 rfl (by decide) ?_
      refine x_aload_n (pc := 39) dX12_takeOne_39 rfl ?_
      refine x_getI (pc := 40) dX12_takeOne_40 fX12_183 rfl (by decide) ?_
      have j51 : ∀ (u3 : Int32), wo (f_X12_takeOne_J51 u1 m2 u3) Q0 → mi_X mX12_takeOne (3) 51 [(0, vr 12 0), (3, vi u1)] [vi u3, vi (m2.1 12 0 7), vr 12 0] m2 QX := by
        intro u3 h
        unfold f_X12_takeOne_J51 at h
        refine x_iadd (pc := 51) dX12_takeOne_51 ?_
        refine x_putI (pc := 52) dX12_takeOne_52 fX12_180 rfl (by decide) rfl rfl ?_
        refine x_letm h (fun m4 h => ?_)
        refine x_aload_n (pc := 55) dX12_takeOne_55 rfl ?_
        refine x_getI (pc := 56) dX12_takeOne_56 fX12_183 rfl (by decide) ?_
        have j67 : ∀ (u5 : Int32), wo (f_X12_takeOne_J67 m4 u5) Q0 → mi_X mX12_takeOne (3) 67 [] [vi u5] m4 QX := by
          intro u5 h
          unfold f_X12_takeOne_J67 at h
          exact x_iret (pc := 67) dX12_takeOne_67 rfl (by rw [hQX]; exact ⟨_, rfl, congrArg Prod.fst (hq0 _ (wo_some h)), congrArg Prod.snd (hq0 _ (wo_some h))⟩)
        refine x_if_le (pc := 59) dX12_takeOne_59 (tgt := 66) (by decide) (fun c6 => ?_) (fun c6 => ?_)
        · replace h := wo_pos c6 h
          refine x_iload_n (pc := 66) dX12_takeOne_66 rfl ?_
          refine x_sub [] trivial ?_
          exact j67 _ h
        · replace h := wo_neg c6 h
          refine x_iconst (pc := 62) dX12_takeOne_62 (v := (0 : Int32)) (by decide) ?_
          refine x_goto (pc := 63) dX12_takeOne_63 (tgt := 67) (by decide) ?_
          refine x_sub [] trivial ?_
          exact j67 _ h
      refine x_if_le (pc := 43) dX12_takeOne_43 (tgt := 50) (by decide) (fun c7 => ?_) (fun c7 => ?_)
      · replace h := wo_pos c7 h
        refine x_iconst (pc := 50) dX12_takeOne_50 (v := (1 : Int32)) (by decide) ?_
        refine x_sub [(0, _), (3, _)] ⟨rfl, rfl, trivial⟩ ?_
        exact j51 _ h
      · replace h := wo_neg c7 h
        refine x_iconst (pc := 46) dX12_takeOne_46 (v := (0 : Int32)) (by decide) ?_
        refine x_goto (pc := 47) dX12_takeOne_47 (tgt := 51) (by decide) ?_
        refine x_sub [(0, _), (3, _)] ⟨rfl, rfl, trivial⟩ ?_
        exact j51 _ h
    refine x_if_ne (pc := 22) dX12_takeOne_22 (tgt := 34) (by decide) (fun c10 => ?_) (fun c10 => ?_)
    · replace h := wo_neg c10 h
      refine x_sub [(0, _), (3, _)] ⟨rfl, rfl, trivial⟩ ?_
      exact j34 _ h
    · replace h := wo_pos c10 h
      refine x_iload_n (pc := 25) dX12_takeOne_25 rfl ?_
      refine x_if_ge (pc := 26) dX12_takeOne_26 (tgt := 34) (by decide) (fun c9 => ?_) (fun c9 => ?_)
      · replace h := wo_pos c9 h
        refine x_sub [(0, _), (3, _)] ⟨rfl, rfl, trivial⟩ ?_
        exact j34 _ h
      · replace h := wo_neg c9 h
        refine x_aload_n (pc := 29) dX12_takeOne_29 rfl ?_
        refine x_iconst (pc := 30) dX12_takeOne_30 (v := (1 : Int32)) (by decide) ?_
        refine y_Vv1 (pc := 31) h dX12_takeOne_31 lX12_189 (by decide) (by omega) rfl (fun a e => w_X12_wrong _ _ a e) (fun m8 h => ?_)
        refine x_sub [(0, _), (3, _)] ⟨rfl, rfl, trivial⟩ ?_
        exact j34 _ h
  refine x_if_le (pc := 4) dX12_takeOne_4 (tgt := 11) (by decide) (fun c12 => ?_) (fun c12 => ?_)
  · replace h := wo_pos c12 h
    refine x_aload_n (pc := 11) dX12_takeOne_11 rfl ?_
    refine x_iload_n (pc := 12) dX12_takeOne_12 rfl ?_
    refine x_iload_n (pc := 13) dX12_takeOne_13 rfl ?_
    refine z_Vi2 (pc := 14) h dX12_takeOne_14 lX12_205 (by decide) (by omega) rfl (fun a e => w_X12_wordHere _ _ _ a e) (fun v11 h => ?_)
    refine x_sub [(0, _)] ⟨rfl, trivial⟩ ?_
    exact j17 _ h
  · replace h := wo_neg c12 h
    refine x_iconst (pc := 7) dX12_takeOne_7 (v := (-1 : Int32)) (by decide) ?_
    refine x_goto (pc := 8) dX12_takeOne_8 (tgt := 17) (by decide) ?_
    refine x_sub [(0, _)] ⟨rfl, trivial⟩ ?_
    exact j17 _ h
