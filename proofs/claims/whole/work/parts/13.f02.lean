noncomputable def f_X7_passNumber (p0 : Int32) (p1 : Int32) (mem : mi_M) : Option (Int32 × mi_M) := if (mem.1 6 0 1) = (3 : Int32) then mi_bo (f_X11_isWithin (mem.1 6 0 3) p0 p1 mem) fun v1 => if v1 = 0 then mi_b (f_X7_fail (4 : Int32) mem) fun v4 m5 => mi_g (v4 = 0 ∨ v4 = 1) (some (v4, m5)) else mi_bo (f_X6_advance mem) fun m2 => mi_g ((1 : Int32) = 0 ∨ (1 : Int32) = 1) (some ((1 : Int32), m2)) else mi_b (f_X7_fail (1 : Int32) mem) fun v8 m9 => mi_g (v8 = 0 ∨ v8 = 1) (some (v8, m9))
set_option maxRecDepth 100000 in
set_option maxHeartbeats 4000000 in
theorem w_X7_passNumber (p0 : Int32) (p1 : Int32) (mem : mi_M) (a : Int32 × mi_M) (e : f_X7_passNumber p0 p1 mem = some a) : mi_Ci (6) mX7_passNumber [vr 7 0, vi p0, vi p1] mem (fun x m' => x = a.1 ∧ m' = a.2) := by
  unfold mi_Ci
  refine mi_C_intro (ls := [(0, vr 7 0), (1, vi p0), (2, vi p1)]) (by decide) rfl rfl ?_
  obtain ⟨Q0, hq0, h⟩ : ∃ Q0 : (Int32 × mi_M) → Prop, (∀ b, Q0 b → b = a) ∧ wo (f_X7_passNumber p0 p1 mem) Q0 := ⟨fun b => b = a, fun _ h => h, wo_eq e⟩
  obtain ⟨QX, hQX⟩ : ∃ QX : Option mi_V → mi_M → Prop, QX = (fun r m' => ∃ x, r = some (vi x) ∧ x = a.1 ∧ m' = a.2) := ⟨_, rfl⟩
  rw [← hQX]
  unfold f_X7_passNumber at h
  refine x_aload_n (pc := 0) dX7_passNumber_0 rfl ?_
  refine x_getC (pc := 1) dX7_passNumber_1 fX7_12 rfl (by decide) ?_
  refine x_getI (pc := 4) dX7_passNumber_4 fX7_30 rfl (by decide) ?_
  refine x_iconst (pc := 7) dX7_passNumber_7 (v := (3 : Int32)) (by decide) ?_
  refine x_icmp_eq (pc := 8) dX7_passNumber_8 (tgt := 17) (by decide) (fun c11 => ?_) (fun c11 => ?_)
  · replace h := wo_pos c11 h
    refine x_aload_n (pc := 17) dX7_passNumber_17 rfl ?_
    refine x_getC (pc := 18) dX7_passNumber_18 fX7_12 rfl (by decide) ?_
    refine x_getI (pc := 21) dX7_passNumber_21 fX7_98 rfl (by decide) ?_
    refine x_iload_n (pc := 24) dX7_passNumber_24 rfl ?_
    refine x_iload_n (pc := 25) dX7_passNumber_25 rfl ?_
    refine z_Ni3 (pc := 26) h dX7_passNumber_26 nX7_204 (by omega) rfl (fun a e => w_X11_isWithin _ _ _ _ a e) (fun v1 h => ?_)
    refine x_if_ne (pc := 29) dX7_passNumber_29 (tgt := 38) (by decide) (fun c7 => ?_) (fun c7 => ?_)
    · replace h := wo_neg c7 h
      refine x_aload_n (pc := 38) dX7_passNumber_38 rfl ?_
      refine x_getC (pc := 39) dX7_passNumber_39 fX7_12 rfl (by decide) ?_
      refine y_Vv0 (pc := 42) h dX7_passNumber_42 lX7_75 (by decide) (by omega) rfl (fun a e => w_X6_advance _ a e) (fun m2 h => ?_)
      refine x_iconst (pc := 45) dX7_passNumber_45 (v := (1 : Int32)) (by decide) ?_
      obtain ⟨hb3, h⟩ := wo_g h
      exact x_zretB (pc := 46) dX7_passNumber_46 rfl hb3 (by rw [hQX]; exact ⟨_, rfl, congrArg Prod.fst (hq0 _ (wo_some h)), congrArg Prod.snd (hq0 _ (wo_some h))⟩)
    · replace h := wo_pos c7 h
      refine x_aload_n (pc := 32) dX7_passNumber_32 rfl ?_
      refine x_iconst (pc := 33) dX7_passNumber_33 (v := (4 : Int32)) (by decide) ?_
      refine y_Vi1 (pc := 34) h dX7_passNumber_34 lX7_39 (by decide) (by omega) rfl (fun a e => w_X7_fail _ _ a e) (fun v4 m5 h => ?_)
      obtain ⟨hb6, h⟩ := wo_g h
      exact x_zretB (pc := 37) dX7_passNumber_37 rfl hb6 (by rw [hQX]; exact ⟨_, rfl, congrArg Prod.fst (hq0 _ (wo_some h)), congrArg Prod.snd (hq0 _ (wo_some h))⟩)
  · replace h := wo_neg c11 h
    refine x_aload_n (pc := 11) dX7_passNumber_11 rfl ?_
    refine x_iconst (pc := 12) dX7_passNumber_12 (v := (1 : Int32)) (by decide) ?_
    refine y_Vi1 (pc := 13) h dX7_passNumber_13 lX7_39 (by decide) (by omega) rfl (fun a e => w_X7_fail _ _ a e) (fun v8 m9 h => ?_)
    obtain ⟨hb10, h⟩ := wo_g h
    exact x_zretB (pc := 16) dX7_passNumber_16 rfl hb10 (by rw [hQX]; exact ⟨_, rfl, congrArg Prod.fst (hq0 _ (wo_some h)), congrArg Prod.snd (hq0 _ (wo_some h))⟩)
noncomputable def f_X6_isSign_J21 (u1 : Int32) : Option (Int32) := mi_g (u1 = 0 ∨ u1 = 1) (some u1)
noncomputable def f_X6_isSign_J20 : Option (Int32) := f_X6_isSign_J21 (0 : Int32)
noncomputable def f_X6_isSign (p0 : Int32) (mem : mi_M) : Option (Int32) := if (mem.1 6 0 1) = (4 : Int32) then if (mem.1 6 0 3) = p0 then f_X6_isSign_J21 (1 : Int32) else f_X6_isSign_J20 else f_X6_isSign_J20
set_option maxRecDepth 100000 in
set_option maxHeartbeats 4000000 in
theorem w_X6_isSign (p0 : Int32) (mem : mi_M) (a : Int32) (e : f_X6_isSign p0 mem = some a) : mi_Ci (1) mX6_isSign [vr 6 0, vi p0] mem (fun x m' => x = a ∧ m' = mem) := by
  unfold mi_Ci
  refine mi_C_intro (ls := [(0, vr 6 0), (1, vi p0)]) (by decide) rfl rfl ?_
  obtain ⟨Q0, hq0, h⟩ : ∃ Q0 : Int32 → Prop, (∀ b, Q0 b → b = a) ∧ wo (f_X6_isSign p0 mem) Q0 := ⟨fun b => b = a, fun _ h => h, wo_eq e⟩
  obtain ⟨QX, hQX⟩ : ∃ QX : Option mi_V → mi_M → Prop, QX = (fun r m' => ∃ x, r = some (vi x) ∧ x = a ∧ m' = mem) := ⟨_, rfl⟩
  rw [← hQX]
  unfold f_X6_isSign at h
  refine x_aload_n (pc := 0) dX6_isSign_0 rfl ?_
  refine x_getI (pc := 1) dX6_isSign_1 fX6_41 rfl (by decide) ?_
  refine x_iconst (pc := 4) dX6_isSign_4 (v := (4 : Int32)) (by decide) ?_
  have j21 : ∀ (u1 : Int32), wo (f_X6_isSign_J21 u1) Q0 → mi_X mX6_isSign (1) 21 [] [vi u1] mem QX := by
    intro u1 h
    unfold f_X6_isSign_J21 at h
    obtain ⟨hb2, h⟩ := wo_g h
    exact x_zretB (pc := 21) dX6_isSign_21 rfl hb2 (by rw [hQX]; exact ⟨_, rfl, hq0 _ (wo_some h), rfl⟩)
  have j20 : wo (f_X6_isSign_J20) Q0 → mi_X mX6_isSign (1) 20 [] [] mem QX := by
    intro h
    unfold f_X6_isSign_J20 at h
    refine x_iconst (pc := 20) dX6_isSign_20 (v := (0 : Int32)) (by decide) ?_
    refine x_sub [] trivial ?_
    exact j21 _ h
  refine x_icmp_ne (pc := 5) dX6_isSign_5 (tgt := 20) (by decide) (fun c4 => ?_) (fun c4 => ?_)
  · replace h := wo_neg c4 h
    refine x_sub [] trivial ?_
    exact j20 h
  · replace h := wo_pos c4 h
    refine x_aload_n (pc := 8) dX6_isSign_8 rfl ?_
    refine x_getI (pc := 9) dX6_isSign_9 fX6_34 rfl (by decide) ?_
    refine x_iload_n (pc := 12) dX6_isSign_12 rfl ?_
    refine x_icmp_ne (pc := 13) dX6_isSign_13 (tgt := 20) (by decide) (fun c3 => ?_) (fun c3 => ?_)
    · replace h := wo_neg c3 h
      refine x_sub [] trivial ?_
      exact j20 h
    · replace h := wo_pos c3 h
      refine x_iconst (pc := 16) dX6_isSign_16 (v := (1 : Int32)) (by decide) ?_
      refine x_goto (pc := 17) dX6_isSign_17 (tgt := 21) (by decide) ?_
      refine x_sub [] trivial ?_
      exact j21 _ h
noncomputable def f_X7_passSign (p0 : Int32) (mem : mi_M) : Option (Int32 × mi_M) := mi_bo (f_X6_isSign p0 mem) fun v1 => if v1 = 0 then mi_b (f_X7_fail (1 : Int32) mem) fun v4 m5 => mi_g (v4 = 0 ∨ v4 = 1) (some (v4, m5)) else mi_bo (f_X6_advance mem) fun m2 => mi_g ((1 : Int32) = 0 ∨ (1 : Int32) = 1) (some ((1 : Int32), m2))
set_option maxRecDepth 100000 in
set_option maxHeartbeats 4000000 in
theorem w_X7_passSign (p0 : Int32) (mem : mi_M) (a : Int32 × mi_M) (e : f_X7_passSign p0 mem = some a) : mi_Ci (6) mX7_passSign [vr 7 0, vi p0] mem (fun x m' => x = a.1 ∧ m' = a.2) := by
  unfold mi_Ci
  refine mi_C_intro (ls := [(0, vr 7 0), (1, vi p0)]) (by decide) rfl rfl ?_
  obtain ⟨Q0, hq0, h⟩ : ∃ Q0 : (Int32 × mi_M) → Prop, (∀ b, Q0 b → b = a) ∧ wo (f_X7_passSign p0 mem) Q0 := ⟨fun b => b = a, fun _ h => h, wo_eq e⟩
  obtain ⟨QX, hQX⟩ : ∃ QX : Option mi_V → mi_M → Prop, QX = (fun r m' => ∃ x, r = some (vi x) ∧ x = a.1 ∧ m' = a.2) := ⟨_, rfl⟩
  rw [← hQX]
  unfold f_X7_passSign at h
  refine x_aload_n (pc := 0) dX7_passSign_0 rfl ?_
  refine x_getC (pc := 1) dX7_passSign_1 fX7_12 rfl (by decide) ?_
  refine x_iload_n (pc := 4) dX7_passSign_4 rfl ?_
  refine z_Vi1 (pc := 5) h dX7_passSign_5 lX7_188 (by decide) (by omega) rfl (fun a e => w_X6_isSign _ _ a e) (fun v1 h => ?_)
  refine x_if_ne (pc := 8) dX7_passSign_8 (tgt := 17) (by decide) (fun c7 => ?_) (fun c7 => ?_)
  · replace h := wo_neg c7 h
    refine x_aload_n (pc := 17) dX7_passSign_17 rfl ?_
    refine x_getC (pc := 18) dX7_passSign_18 fX7_12 rfl (by decide) ?_
    refine y_Vv0 (pc := 21) h dX7_passSign_21 lX7_75 (by decide) (by omega) rfl (fun a e => w_X6_advance _ a e) (fun m2 h => ?_)
    refine x_iconst (pc := 24) dX7_passSign_24 (v := (1 : Int32)) (by decide) ?_
    obtain ⟨hb3, h⟩ := wo_g h
    exact x_zretB (pc := 25) dX7_passSign_25 rfl hb3 (by rw [hQX]; exact ⟨_, rfl, congrArg Prod.fst (hq0 _ (wo_some h)), congrArg Prod.snd (hq0 _ (wo_some h))⟩)
  · replace h := wo_pos c7 h
    refine x_aload_n (pc := 11) dX7_passSign_11 rfl ?_
    refine x_iconst (pc := 12) dX7_passSign_12 (v := (1 : Int32)) (by decide) ?_
    refine y_Vi1 (pc := 13) h dX7_passSign_13 lX7_39 (by decide) (by omega) rfl (fun a e => w_X7_fail _ _ a e) (fun v4 m5 h => ?_)
    obtain ⟨hb6, h⟩ := wo_g h
    exact x_zretB (pc := 16) dX7_passSign_16 rfl hb6 (by rw [hQX]; exact ⟨_, rfl, congrArg Prod.fst (hq0 _ (wo_some h)), congrArg Prod.snd (hq0 _ (wo_some h))⟩)
noncomputable def f_X9_addLane (i0 : Nat) (p0 : Int32) (p1 : Int32) (p2 : Int32) (mem : mi_M) : Option (mi_M) := mi_g (vp_in p0 6) (mi_g (vp_in p1 6) (mi_let (mi_wI mem 76 (6 * i0 + 0 + p0.toNatClampNeg) p1.toNatClampNeg p2) fun m3 => mi_g (vp_in p1 6) (mi_g (vp_in p0 6) (mi_let (mi_wI m3 76 (6 * i0 + 0 + p1.toNatClampNeg) p0.toNatClampNeg p2) fun m6 => mi_let (mi_wI m6 9 i0 0 ((m6.1 9 i0 0) + (1 : Int32))) fun m7 => some m7))))
set_option maxRecDepth 100000 in
set_option maxHeartbeats 4000000 in
theorem w_X9_addLane (i0 : Nat) (p0 : Int32) (p1 : Int32) (p2 : Int32) (hi0 : i0 < mi_n 9) (mem : mi_M) (a : mi_M) (e : f_X9_addLane i0 p0 p1 p2 mem = some a) : mi_Cv (1) mX9_addLane [vr 9 i0, vi p0, vi p1, vi p2] mem (fun m' => m' = a) := by
  unfold mi_Cv
  refine mi_C_intro (ls := [(0, vr 9 i0), (1, vi p0), (2, vi p1), (3, vi p2)]) (by decide) rfl rfl ?_
  obtain ⟨Q0, hq0, h⟩ : ∃ Q0 : mi_M → Prop, (∀ b, Q0 b → b = a) ∧ wo (f_X9_addLane i0 p0 p1 p2 mem) Q0 := ⟨fun b => b = a, fun _ h => h, wo_eq e⟩
  obtain ⟨QX, hQX⟩ : ∃ QX : Option mi_V → mi_M → Prop, QX = (fun r m' => r = none ∧ m' = a) := ⟨_, rfl⟩
  rw [← hQX]
  unfold f_X9_addLane at h
  refine x_aload_n (pc := 0) dX9_addLane_0 rfl ?_
  refine x_getS (pc := 1) dX9_addLane_1 fX9_11 rfl hi0 ?_
  refine x_iload_n (pc := 4) dX9_addLane_4 rfl ?_
  obtain ⟨hx1, h⟩ := wo_g h
  refine x_aaldRowJ (pc := 5) dX9_addLane_5 rfl rfl hi0 rfl hx1 ?_
  refine x_iload_n (pc := 6) dX9_addLane_6 rfl ?_
  refine x_iload_n (pc := 7) dX9_addLane_7 rfl ?_
  obtain ⟨hx2, h⟩ := wo_g h
  refine x_iastJ (pc := 8) dX9_addLane_8 rfl rfl (by have h1 := (mi_vin hx1).1; have h2 : (i0 : Nat) < 2 := hi0; show _ < (12 : Nat); omega) rfl hx2 ?_
  refine x_letm h (fun m3 h => ?_)
  refine x_aload_n (pc := 9) dX9_addLane_9 rfl ?_
  refine x_getS (pc := 10) dX9_addLane_10 fX9_11 rfl hi0 ?_
  refine x_iload_n (pc := 13) dX9_addLane_13 rfl ?_
  obtain ⟨hx4, h⟩ := wo_g h
  refine x_aaldRowJ (pc := 14) dX9_addLane_14 rfl rfl hi0 rfl hx4 ?_
  refine x_iload_n (pc := 15) dX9_addLane_15 rfl ?_
  refine x_iload_n (pc := 16) dX9_addLane_16 rfl ?_
  obtain ⟨hx5, h⟩ := wo_g h
  refine x_iastJ (pc := 17) dX9_addLane_17 rfl rfl (by have h1 := (mi_vin hx4).1; have h2 : (i0 : Nat) < 2 := hi0; show _ < (12 : Nat); omega) rfl hx5 ?_
  refine x_letm h (fun m6 h => ?_)
  refine x_aload_n (pc := 18) dX9_addLane_18 rfl ?_
  refine x_dup (pc := 19) dX9_addLane_19 rfl ?_
  refine x_getI (pc := 20) dX9_addLane_20 fX9_26 rfl hi0 ?_
  refine x_iconst (pc := 23) dX9_addLane_23 (v := (1 : Int32)) (by decide) ?_
  refine x_iadd (pc := 24) dX9_addLane_24 ?_
  refine x_putI (pc := 25) dX9_addLane_25 fX9_26 rfl hi0 rfl rfl ?_
  refine x_letm h (fun m7 h => ?_)
  exact x_ret (pc := 28) dX9_addLane_28 rfl (by rw [hQX]; exact ⟨rfl, hq0 _ (wo_some h)⟩)
noncomputable def f_X9_hasLane_J16 (u3 : Int32) : Option (Int32) := mi_g (u3 = 0 ∨ u3 = 1) (some u3)
noncomputable def f_X9_hasLane (i0 : Nat) (p0 : Int32) (p1 : Int32) (mem : mi_M) : Option (Int32) := mi_g (vp_in p0 6) (mi_g (vp_in p1 6) (if (mem.1 76 (6 * i0 + 0 + p0.toNatClampNeg) p1.toNatClampNeg) = 0 then f_X9_hasLane_J16 (0 : Int32) else f_X9_hasLane_J16 (1 : Int32)))
set_option maxRecDepth 100000 in
set_option maxHeartbeats 4000000 in
theorem w_X9_hasLane (i0 : Nat) (p0 : Int32) (p1 : Int32) (hi0 : i0 < mi_n 9) (mem : mi_M) (a : Int32) (e : f_X9_hasLane i0 p0 p1 mem = some a) : mi_Ci (1) mX9_hasLane [vr 9 i0, vi p0, vi p1] mem (fun x m' => x = a ∧ m' = mem) := by
  unfold mi_Ci
  refine mi_C_intro (ls := [(0, vr 9 i0), (1, vi p0), (2, vi p1)]) (by decide) rfl rfl ?_
  obtain ⟨Q0, hq0, h⟩ : ∃ Q0 : Int32 → Prop, (∀ b, Q0 b → b = a) ∧ wo (f_X9_hasLane i0 p0 p1 mem) Q0 := ⟨fun b => b = a, fun _ h => h, wo_eq e⟩
  obtain ⟨QX, hQX⟩ : ∃ QX : Option mi_V → mi_M → Prop, QX = (fun r m' => ∃ x, r = some (vi x) ∧ x = a ∧ m' = mem) := ⟨_, rfl⟩
  rw [← hQX]
  unfold f_X9_hasLane at h
  refine x_aload_n (pc := 0) dX9_hasLane_0 rfl ?_
  refine x_getS (pc := 1) dX9_hasLane_1 fX9_11 rfl hi0 ?_
  refine x_iload_n (pc := 4) dX9_hasLane_4 rfl ?_
  obtain ⟨hx1, h⟩ := wo_g h
  refine x_aaldRowJ (pc := 5) dX9_hasLane_5 rfl rfl hi0 rfl hx1 ?_
  refine x_iload_n (pc := 6) dX9_hasLane_6 rfl ?_
  obtain ⟨hx2, h⟩ := wo_g h
  refine x_ialdJ (pc := 7) dX9_hasLane_7 rfl rfl (by have h1 := (mi_vin hx1).1; have h2 : (i0 : Nat) < 2 := hi0; show _ < (12 : Nat); omega) hx2 ?_
  have j16 : ∀ (u3 : Int32), wo (f_X9_hasLane_J16 u3) Q0 → mi_X mX9_hasLane (1) 16 [] [vi u3] mem QX := by
    intro u3 h
    unfold f_X9_hasLane_J16 at h
    obtain ⟨hb4, h⟩ := wo_g h
    exact x_zretB (pc := 16) dX9_hasLane_16 rfl hb4 (by rw [hQX]; exact ⟨_, rfl, hq0 _ (wo_some h), rfl⟩)
  refine x_if_eq (pc := 8) dX9_hasLane_8 (tgt := 15) (by decide) (fun c5 => ?_) (fun c5 => ?_)
  · replace h := wo_pos c5 h
    refine x_iconst (pc := 15) dX9_hasLane_15 (v := (0 : Int32)) (by decide) ?_
    refine x_sub [] trivial ?_
    exact j16 _ h
  · replace h := wo_neg c5 h
    refine x_iconst (pc := 11) dX9_hasLane_11 (v := (1 : Int32)) (by decide) ?_
    refine x_goto (pc := 12) dX9_hasLane_12 (tgt := 16) (by decide) ?_
    refine x_sub [] trivial ?_
    exact j16 _ h
noncomputable def f_X7_readLane_J72 (p0 : Nat) (v2 : Int32) (m4 : mi_M) (v5 : Int32) : Option (Int32 × mi_M) := mi_b (f_X7_passDoor p0 v2 m4) fun v7 m8 => if v7 = 0 then mi_g ((0 : Int32) = 0 ∨ (0 : Int32) = 1) (some ((0 : Int32), m8)) else mi_let (m8.1 6 0 3) fun v9 => mi_b (f_X7_passNumber (1 : Int32) (30 : Int32) m8) fun v10 m11 => if v10 = 0 then mi_g ((0 : Int32) = 0 ∨ (0 : Int32) = 1) (some ((0 : Int32), m11)) else mi_bo (f_X9_addLane p0 v2 v5 v9 m11) fun m12 => mi_b (f_X7_passSign (59 : Int32) m12) fun v13 m14 => mi_g (v13 = 0 ∨ v13 = 1) (some (v13, m14))
noncomputable def f_X7_readLane (p0 : Nat) (mem : mi_M) : Option (Int32 × mi_M) := mi_bo (f_X6_advance mem) fun m1 => mi_bo (f_X8_personNamed p0 (m1.2.1 6 0 4) m1) fun v2 => mi_b (f_X7_passDoor p0 (-1 : Int32) m1) fun v3 m4 => if v3 = 0 then mi_g ((0 : Int32) = 0 ∨ (0 : Int32) = 1) (some ((0 : Int32), m4)) else mi_bo (f_X8_personNamed p0 (m4.2.1 6 0 4) m4) fun v5 => mi_bo (f_X7_isName m4) fun v6 => if v6 = 0 then f_X7_readLane_J72 p0 v2 m4 v5 else if v5 = (-1 : Int32) then f_X7_readLane_J72 p0 v2 m4 v5 else mi_bo (f_X9_hasLane p0 v2 v5 m4) fun v20 => if v20 = 0 then f_X7_readLane_J72 p0 v2 m4 v5 else mi_b (f_X7_fail (3 : Int32) m4) fun v21 m22 => mi_g (v21 = 0 ∨ v21 = 1) (some (v21, m22))
set_option maxRecDepth 100000 in
set_option maxHeartbeats 4000000 in
theorem w_X7_readLane (p0 : Nat) (hp0 : p0 < mi_n 8) (mem : mi_M) (a : Int32 × mi_M) (e : f_X7_readLane p0 mem = some a) : mi_Ci (8) mX7_readLane [vr 7 0, vr 8 p0] mem (fun x m' => x = a.1 ∧ m' = a.2) := by
  unfold mi_Ci
  refine mi_C_intro (ls := [(0, vr 7 0), (1, vr 8 p0)]) (by decide) rfl rfl ?_
  obtain ⟨Q0, hq0, h⟩ : ∃ Q0 : (Int32 × mi_M) → Prop, (∀ b, Q0 b → b = a) ∧ wo (f_X7_readLane p0 mem) Q0 := ⟨fun b => b = a, fun _ h => h, wo_eq e⟩
  obtain ⟨QX, hQX⟩ : ∃ QX : Option mi_V → mi_M → Prop, QX = (fun r m' => ∃ x, r = some (vi x) ∧ x = a.1 ∧ m' = a.2) := ⟨_, rfl⟩
  rw [← hQX]
  unfold f_X7_readLane at h
  refine x_aload_n (pc := 0) dX7_readLane_0 rfl ?_
  refine x_getC (pc := 1) dX7_readLane_1 fX7_12 rfl (by decide) ?_
  refine y_Vv0 (pc := 4) h dX7_readLane_4 lX7_75 (by decide) (by omega) rfl (fun a e => w_X6_advance _ a e) (fun m1 h => ?_)
  refine x_aload_n (pc := 7) dX7_readLane_7 rfl ?_
  refine x_aload_n (pc := 8) dX7_readLane_8 rfl ?_
  refine x_getC (pc := 9) dX7_readLane_9 fX7_12 rfl (by decide) ?_
  refine x_getL (pc := 12) dX7_readLane_12 fX7_82 rfl (by decide) ?_
  refine z_Vi1 (pc := 15) h dX7_readLane_15 lX7_86 hp0 (by omega) rfl (fun a e => w_X8_personNamed _ _ hp0 _ a e) (fun v2 h => ?_)
  refine x_istore_n (ls' := [(2, _), (0, _), (1, _)]) (pc := 18) dX7_readLane_18 rfl rfl rfl ?_
  refine x_aload_n (pc := 19) dX7_readLane_19 rfl ?_
  refine x_aload_n (pc := 20) dX7_readLane_20 rfl ?_
  refine x_iconst (pc := 21) dX7_readLane_21 (v := (-1 : Int32)) (by decide) ?_
  refine y_Vi2 (pc := 22) h dX7_readLane_22 lX7_113 (by decide) (by omega) rfl (fun a e => w_X7_passDoor _ _ hp0 _ a e) (fun v3 m4 h => ?_)
  refine x_if_ne (pc := 25) dX7_readLane_25 (tgt := 30) (by decide) (fun c28 => ?_) (fun c28 => ?_)
  · replace h := wo_neg c28 h
    refine x_aload_n (pc := 30) dX7_readLane_30 rfl ?_
    refine x_aload_n (pc := 31) dX7_readLane_31 rfl ?_
    refine x_getC (pc := 32) dX7_readLane_32 fX7_12 rfl (by decide) ?_
    refine x_getL (pc := 35) dX7_readLane_35 fX7_82 rfl (by decide) ?_
    refine z_Vi1 (pc := 38) h dX7_readLane_38 lX7_86 hp0 (by omega) rfl (fun a e => w_X8_personNamed _ _ hp0 _ a e) (fun v5 h => ?_)
    refine x_istore_n (ls' := [(3, _), (2, _), (0, _), (1, _)]) (pc := 41) dX7_readLane_41 rfl rfl rfl ?_
    refine x_aload_n (pc := 42) dX7_readLane_42 rfl ?_
    refine z_Vi0 (pc := 43) h dX7_readLane_43 lX7_78 (by decide) (by omega) rfl (fun a e => w_X7_isName _ a e) (fun v6 h => ?_)
    have j72 : wo (f_X7_readLane_J72 p0 v2 m4 v5) Q0 → mi_X mX7_readLane (8) 72 [(0, vr 7 0), (1, vr 8 p0), (2, vi v2), (3, vi v5)] [] m4 QX := by
      intro h
      unfold f_X7_readLane_J72 at h
      refine x_aload_n (pc := 72) dX7_readLane_72 rfl ?_
      refine x_aload_n (pc := 73) dX7_readLane_73 rfl ?_
      refine x_iload_n (pc := 74) dX7_readLane_74 rfl ?_
      refine y_Vi2 (pc := 75) h dX7_readLane_75 lX7_113 (by decide) (by omega) rfl (fun a e => w_X7_passDoor _ _ hp0 _ a e) (fun v7 m8 h => ?_)
      refine x_if_ne (pc := 78) dX7_readLane_78 (tgt := 83) (by decide) (fun c19 => ?_) (fun c19 => ?_)
      · replace h := wo_neg c19 h
        refine x_aload_n (pc := 83) dX7_readLane_83 rfl ?_
        refine x_getC (pc := 84) dX7_readLane_84 fX7_12 rfl (by decide) ?_
        refine x_getI (pc := 87) dX7_readLane_87 fX7_98 rfl (by decide) ?_
        refine x_leti h (fun v9 h => ?_)
        refine x_istore (ls' := [(4, _), (0, _), (1, _), (2, _), (3, _)]) (pc := 90) dX7_readLane_90 rfl rfl ?_
        refine x_aload_n (pc := 92) dX7_readLane_92 rfl ?_
        refine x_iconst (pc := 93) dX7_readLane_93 (v := (1 : Int32)) (by decide) ?_
        refine x_bipush (pc := 94) dX7_readLane_94 (v := (30 : Int32)) (by decide) ?_
        refine y_Vi2 (pc := 96) h dX7_readLane_96 lX7_101 (by decide) (by omega) rfl (fun a e => w_X7_passNumber _ _ _ a e) (fun v10 m11 h => ?_)
        refine x_if_ne (pc := 99) dX7_readLane_99 (tgt := 104) (by decide) (fun c17 => ?_) (fun c17 => ?_)
        · replace h := wo_neg c17 h
          refine x_aload_n (pc := 104) dX7_readLane_104 rfl ?_
          refine x_getS (pc := 105) dX7_readLane_105 fX7_116 rfl hp0 ?_
          refine x_iload_n (pc := 108) dX7_readLane_108 rfl ?_
          refine x_iload_n (pc := 109) dX7_readLane_109 rfl ?_
          refine x_iload (pc := 110) dX7_readLane_110 rfl ?_
          refine y_Vv3 (pc := 112) h dX7_readLane_112 lX7_125 hp0 (by omega) rfl (fun a e => w_X9_addLane _ _ _ _ hp0 _ a e) (fun m12 h => ?_)
          refine x_aload_n (pc := 115) dX7_readLane_115 rfl ?_
          refine x_bipush (pc := 116) dX7_readLane_116 (v := (59 : Int32)) (by decide) ?_
          refine y_Vi1 (pc := 118) h dX7_readLane_118 lX7_109 (by decide) (by omega) rfl (fun a e => w_X7_passSign _ _ a e) (fun v13 m14 h => ?_)
          obtain ⟨hb15, h⟩ := wo_g h
          exact x_zretB (pc := 121) dX7_readLane_121 rfl hb15 (by rw [hQX]; exact ⟨_, rfl, congrArg Prod.fst (hq0 _ (wo_some h)), congrArg Prod.snd (hq0 _ (wo_some h))⟩)
        · replace h := wo_pos c17 h
          refine x_iconst (pc := 102) dX7_readLane_102 (v := (0 : Int32)) (by decide) ?_
          obtain ⟨hb16, h⟩ := wo_g h
          exact x_zretB (pc := 103) dX7_readLane_103 rfl hb16 (by rw [hQX]; exact ⟨_, rfl, congrArg Prod.fst (hq0 _ (wo_some h)), congrArg Prod.snd (hq0 _ (wo_some h))⟩)
      · replace h := wo_pos c19 h
        refine x_iconst (pc := 81) dX7_readLane_81 (v := (0 : Int32)) (by decide) ?_
        obtain ⟨hb18, h⟩ := wo_g h
        exact x_zretB (pc := 82) dX7_readLane_82 rfl hb18 (by rw [hQX]; exact ⟨_, rfl, congrArg Prod.fst (hq0 _ (wo_some h)), congrArg Prod.snd (hq0 _ (wo_some h))⟩)
    refine x_if_eq (pc := 46) dX7_readLane_46 (tgt := 72) (by decide) (fun c26 => ?_) (fun c26 => ?_)
    · replace h := wo_pos c26 h
      refine x_sub [(0, _), (1, _), (2, _), (3, _)] ⟨rfl, rfl, rfl, rfl, trivial⟩ ?_
      exact j72 h
    · replace h := wo_neg c26 h
      refine x_iload_n (pc := 49) dX7_readLane_49 rfl ?_
      refine x_iconst (pc := 50) dX7_readLane_50 (v := (-1 : Int32)) (by decide) ?_
      refine x_icmp_eq (pc := 51) dX7_readLane_51 (tgt := 72) (by decide) (fun c25 => ?_) (fun c25 => ?_)
      · replace h := wo_pos c25 h
        refine x_sub [(0, _), (1, _), (2, _), (3, _)] ⟨rfl, rfl, rfl, rfl, trivial⟩ ?_
        exact j72 h
      · replace h := wo_neg c25 h
        refine x_aload_n (pc := 54) dX7_readLane_54 rfl ?_
        refine x_getS (pc := 55) dX7_readLane_55 fX7_116 rfl hp0 ?_
        refine x_iload_n (pc := 58) dX7_readLane_58 rfl ?_
        refine x_iload_n (pc := 59) dX7_readLane_59 rfl ?_
        refine z_Vi2 (pc := 60) h dX7_readLane_60 lX7_120 hp0 (by omega) rfl (fun a e => w_X9_hasLane _ _ _ hp0 _ a e) (fun v20 h => ?_)
        refine x_if_eq (pc := 63) dX7_readLane_63 (tgt := 72) (by decide) (fun c24 => ?_) (fun c24 => ?_)
        · replace h := wo_pos c24 h
          refine x_sub [(0, _), (1, _), (2, _), (3, _)] ⟨rfl, rfl, rfl, rfl, trivial⟩ ?_
          exact j72 h
        · replace h := wo_neg c24 h
          refine x_aload_n (pc := 66) dX7_readLane_66 rfl ?_
          refine x_iconst (pc := 67) dX7_readLane_67 (v := (3 : Int32)) (by decide) ?_
          refine y_Vi1 (pc := 68) h dX7_readLane_68 lX7_39 (by decide) (by omega) rfl (fun a e => w_X7_fail _ _ a e) (fun v21 m22 h => ?_)
          obtain ⟨hb23, h⟩ := wo_g h
          exact x_zretB (pc := 71) dX7_readLane_71 rfl hb23 (by rw [hQX]; exact ⟨_, rfl, congrArg Prod.fst (hq0 _ (wo_some h)), congrArg Prod.snd (hq0 _ (wo_some h))⟩)
  · replace h := wo_pos c28 h
    refine x_iconst (pc := 28) dX7_readLane_28 (v := (0 : Int32)) (by decide) ?_
    obtain ⟨hb27, h⟩ := wo_g h
    exact x_zretB (pc := 29) dX7_readLane_29 rfl hb27 (by rw [hQX]; exact ⟨_, rfl, congrArg Prod.fst (hq0 _ (wo_some h)), congrArg Prod.snd (hq0 _ (wo_some h))⟩)
noncomputable def f_X1_begin (i0 : Nat) (p0 : Int32) (mem : mi_M) : Option (mi_M) := mi_g (vp_in p0 3) (mi_let (mi_wI mem 17 i0 p0.toNatClampNeg (mem.1 1 i0 4)) fun m2 => some m2)
set_option maxRecDepth 100000 in
set_option maxHeartbeats 4000000 in
theorem w_X1_begin (i0 : Nat) (p0 : Int32) (hi0 : i0 < mi_n 1) (mem : mi_M) (a : mi_M) (e : f_X1_begin i0 p0 mem = some a) : mi_Cv (1) mX1_begin [vr 1 i0, vi p0] mem (fun m' => m' = a) := by
  unfold mi_Cv
  refine mi_C_intro (ls := [(0, vr 1 i0), (1, vi p0)]) (by decide) rfl rfl ?_
  obtain ⟨Q0, hq0, h⟩ : ∃ Q0 : mi_M → Prop, (∀ b, Q0 b → b = a) ∧ wo (f_X1_begin i0 p0 mem) Q0 := ⟨fun b => b = a, fun _ h => h, wo_eq e⟩
  obtain ⟨QX, hQX⟩ : ∃ QX : Option mi_V → mi_M → Prop, QX = (fun r m' => r = none ∧ m' = a) := ⟨_, rfl⟩
  rw [← hQX]
  unfold f_X1_begin at h
  refine x_aload_n (pc := 0) dX1_begin_0 rfl ?_
  refine x_getS (pc := 1) dX1_begin_1 fX1_15 rfl hi0 ?_
  refine x_iload_n (pc := 4) dX1_begin_4 rfl ?_
  refine x_aload_n (pc := 5) dX1_begin_5 rfl ?_
  refine x_getI (pc := 6) dX1_begin_6 fX1_24 rfl hi0 ?_
  obtain ⟨hx1, h⟩ := wo_g h
  refine x_iastJ (pc := 9) dX1_begin_9 rfl rfl hi0 rfl hx1 ?_
  refine x_letm h (fun m2 h => ?_)
  exact x_ret (pc := 10) dX1_begin_10 rfl (by rw [hQX]; exact ⟨rfl, hq0 _ (wo_some h)⟩)
noncomputable def f_X1_end (i0 : Nat) (p0 : Int32) (mem : mi_M) : Option (mi_M) := mi_g (vp_in p0 3) (mi_let (mi_wI mem 18 i0 p0.toNatClampNeg (mem.1 1 i0 4)) fun m2 => some m2)
set_option maxRecDepth 100000 in
set_option maxHeartbeats 4000000 in
theorem w_X1_end (i0 : Nat) (p0 : Int32) (hi0 : i0 < mi_n 1) (mem : mi_M) (a : mi_M) (e : f_X1_end i0 p0 mem = some a) : mi_Cv (1) mX1_end [vr 1 i0, vi p0] mem (fun m' => m' = a) := by
  unfold mi_Cv
  refine mi_C_intro (ls := [(0, vr 1 i0), (1, vi p0)]) (by decide) rfl rfl ?_
  obtain ⟨Q0, hq0, h⟩ : ∃ Q0 : mi_M → Prop, (∀ b, Q0 b → b = a) ∧ wo (f_X1_end i0 p0 mem) Q0 := ⟨fun b => b = a, fun _ h => h, wo_eq e⟩
  obtain ⟨QX, hQX⟩ : ∃ QX : Option mi_V → mi_M → Prop, QX = (fun r m' => r = none ∧ m' = a) := ⟨_, rfl⟩
  rw [← hQX]
  unfold f_X1_end at h
  refine x_aload_n (pc := 0) dX1_end_0 rfl ?_
  refine x_getS (pc := 1) dX1_end_1 fX1_18 rfl hi0 ?_
  refine x_iload_n (pc := 4) dX1_end_4 rfl ?_
  refine x_aload_n (pc := 5) dX1_end_5 rfl ?_
  refine x_getI (pc := 6) dX1_end_6 fX1_24 rfl hi0 ?_
  obtain ⟨hx1, h⟩ := wo_g h
  refine x_iastJ (pc := 9) dX1_end_9 rfl rfl hi0 rfl hx1 ?_
  refine x_letm h (fun m2 h => ?_)
  exact x_ret (pc := 10) dX1_end_10 rfl (by rw [hQX]; exact ⟨rfl, hq0 _ (wo_some h)⟩)
noncomputable def f_X1_put_J32 (m1 : mi_M) : Option (mi_M) := some m1
noncomputable def f_X1_put (i0 : Nat) (p0 : Int32) (mem : mi_M) : Option (mi_M) := if (1003 : Int32) ≤ (mem.1 1 i0 4) then f_X1_put_J32 mem else mi_g (vp_in (mem.1 1 i0 4) 1003) (mi_let (mi_wI mem 16 i0 (mem.1 1 i0 4).toNatClampNeg p0) fun m3 => mi_let (mi_wI m3 1 i0 4 ((m3.1 1 i0 4) + (1 : Int32))) fun m4 => f_X1_put_J32 m4)
set_option maxRecDepth 100000 in
set_option maxHeartbeats 4000000 in
theorem w_X1_put (i0 : Nat) (p0 : Int32) (hi0 : i0 < mi_n 1) (mem : mi_M) (a : mi_M) (e : f_X1_put i0 p0 mem = some a) : mi_Cv (1) mX1_put [vr 1 i0, vi p0] mem (fun m' => m' = a) := by
  unfold mi_Cv
  refine mi_C_intro (ls := [(0, vr 1 i0), (1, vi p0)]) (by decide) rfl rfl ?_
  obtain ⟨Q0, hq0, h⟩ : ∃ Q0 : mi_M → Prop, (∀ b, Q0 b → b = a) ∧ wo (f_X1_put i0 p0 mem) Q0 := ⟨fun b => b = a, fun _ h => h, wo_eq e⟩
  obtain ⟨QX, hQX⟩ : ∃ QX : Option mi_V → mi_M → Prop, QX = (fun r m' => r = none ∧ m' = a) := ⟨_, rfl⟩
  rw [← hQX]
  unfold f_X1_put at h
  refine x_aload_n (pc := 0) dX1_put_0 rfl ?_
  refine x_getI (pc := 1) dX1_put_1 fX1_24 rfl hi0 ?_
  refine x_aload_n (pc := 4) dX1_put_4 rfl ?_
  refine x_getS (pc := 5) dX1_put_5 fX1_11 rfl hi0 ?_
  refine x_alen (pc := 8) dX1_put_8 rfl (by decide) rfl hi0 (v := (1003 : Int32)) (by decide) ?_
  have j32 : ∀ (m1 : mi_M), wo (f_X1_put_J32 m1) Q0 → mi_X mX1_put (1) 32 [] [] m1 QX := by
    intro m1 h
    unfold f_X1_put_J32 at h
    exact x_ret (pc := 32) dX1_put_32 rfl (by rw [hQX]; exact ⟨rfl, hq0 _ (wo_some h)⟩)
  refine x_icmp_ge (pc := 9) dX1_put_9 (tgt := 32) (by decide) (fun c5 => ?_) (fun c5 => ?_)
  · replace h := wo_pos c5 h
    refine x_sub [] trivial ?_
    exact j32 _ h
  · replace h := wo_neg c5 h
    refine x_aload_n (pc := 12) dX1_put_12 rfl ?_
    refine x_getS (pc := 13) dX1_put_13 fX1_11 rfl hi0 ?_
    refine x_aload_n (pc := 16) dX1_put_16 rfl ?_
    refine x_getI (pc := 17) dX1_put_17 fX1_24 rfl hi0 ?_
    refine x_iload_n (pc := 20) dX1_put_20 rfl ?_
    obtain ⟨hx2, h⟩ := wo_g h
    refine x_iastJ (pc := 21) dX1_put_21 rfl rfl hi0 rfl hx2 ?_
    refine x_letm h (fun m3 h => ?_)
    refine x_aload_n (pc := 22) dX1_put_22 rfl ?_
    refine x_dup (pc := 23) dX1_put_23 rfl ?_
    refine x_getI (pc := 24) dX1_put_24 fX1_24 rfl hi0 ?_
    refine x_iconst (pc := 27) dX1_put_27 (v := (1 : Int32)) (by decide) ?_
    refine x_iadd (pc := 28) dX1_put_28 ?_
    refine x_putI (pc := 29) dX1_put_29 fX1_24 rfl hi0 rfl rfl ?_
    refine x_letm h (fun m4 h => ?_)
    refine x_sub [] trivial ?_
    exact j32 _ h
noncomputable def f_X7_joiner_J51 (u3 : Int32) : Option (Int32) := some u3
noncomputable def f_X7_joiner_J87 (u7 : Int32) : Option (Int32) := some u7
noncomputable def f_X7_joiner_J123 (u13 : Int32) : Option (Int32) := some u13
noncomputable def f_X7_joiner_J142 (u18 : Int32) : Option (Int32) := some u18
noncomputable def f_X7_joiner (p0 : Int32) (mem : mi_M) : Option (Int32) := if p0 = (0 : Int32) then mi_bo (f_X6_among 11 mem) fun v2 => if v2 = (-1 : Int32) then f_X7_joiner_J51 (0 : Int32) else f_X7_joiner_J51 ((-5 : Int32) - v2) else if p0 = (1 : Int32) then mi_bo (f_X6_isSign (60 : Int32) mem) fun v6 => if v6 = 0 then mi_bo (f_X6_isSign (61 : Int32) mem) fun v8 => if v8 = 0 then f_X7_joiner_J87 (0 : Int32) else f_X7_joiner_J87 (-8 : Int32) else f_X7_joiner_J87 (-7 : Int32) else if p0 = (2 : Int32) then mi_bo (f_X6_isSign (43 : Int32) mem) fun v12 => if v12 = 0 then mi_bo (f_X6_isSign (45 : Int32) mem) fun v14 => if v14 = 0 then f_X7_joiner_J123 (0 : Int32) else f_X7_joiner_J123 (-10 : Int32) else f_X7_joiner_J123 (-9 : Int32) else mi_bo (f_X6_isSign (42 : Int32) mem) fun v17 => if v17 = 0 then f_X7_joiner_J142 (0 : Int32) else f_X7_joiner_J142 (-11 : Int32)
set_option maxRecDepth 100000 in
set_option maxHeartbeats 4000000 in
theorem w_X7_joiner (p0 : Int32) (mem : mi_M) (a : Int32) (e : f_X7_joiner p0 mem = some a) : mi_Ci (6) mX7_joiner [vr 7 0, vi p0] mem (fun x m' => x = a ∧ m' = mem) := by
  unfold mi_Ci
  refine mi_C_intro (ls := [(0, vr 7 0), (1, vi p0)]) (by decide) rfl rfl ?_
  obtain ⟨Q0, hq0, h⟩ : ∃ Q0 : Int32 → Prop, (∀ b, Q0 b → b = a) ∧ wo (f_X7_joiner p0 mem) Q0 := ⟨fun b => b = a, fun _ h => h, wo_eq e⟩
  obtain ⟨QX, hQX⟩ : ∃ QX : Option mi_V → mi_M → Prop, QX = (fun r m' => ∃ x, r = some (vi x) ∧ x = a ∧ m' = mem) := ⟨_, rfl⟩
  rw [← hQX]
  unfold f_X7_joiner at h
  refine x_iload_n (pc := 0) dX7_joiner_0 rfl ?_
  by_cases c1 : p0 = (0 : Int32)
  · replace h := wo_pos c1 h
    refine x_swT (pc := 1) (c := (0 : Int32)) c1 dX7_joiner_1 (by decide) (by decide) rfl (tgt := 28) (by decide) ?_
    refine x_aload_n (pc := 28) dX7_joiner_28 rfl ?_
    refine x_getC (pc := 29) dX7_joiner_29 fX7_12 rfl (by decide) ?_
    refine x_ldcS (pc := 32) dX7_joiner_32 (n := 11) (tx := "and or") (by decide) ?_
    refine z_Vi1 (pc := 34) h dX7_joiner_34 lX7_35 (by decide) (by omega) rfl (fun a e => w_X6_among _ (by decide) _ a e) (fun v2 h => ?_)
    refine x_istore_n (ls' := [(2, _), (0, _), (1, _)]) (pc := 37) dX7_joiner_37 rfl rfl rfl ?_
    refine x_iload_n (pc := 38) dX7_joiner_38 rfl ?_
    refine x_iconst (pc := 39) dX7_joiner_39 (v := (-1 : Int32)) (by decide) ?_
    have j51 : ∀ (u3 : Int32), wo (f_X7_joiner_J51 u3) Q0 → mi_X mX7_joiner (6) 51 [] [vi u3] mem QX := by
      intro u3 h
      unfold f_X7_joiner_J51 at h
      exact x_iret (pc := 51) dX7_joiner_51 rfl (by rw [hQX]; exact ⟨_, rfl, hq0 _ (wo_some h), rfl⟩)
    refine x_icmp_ne (pc := 40) dX7_joiner_40 (tgt := 47) (by decide) (fun c4 => ?_) (fun c4 => ?_)
    · replace h := wo_neg c4 h
      refine x_bipush (pc := 47) dX7_joiner_47 (v := (-5 : Int32)) (by decide) ?_
      refine x_iload_n (pc := 49) dX7_joiner_49 rfl ?_
      refine x_isub (pc := 50) dX7_joiner_50 ?_
      refine x_sub [] trivial ?_
      exact j51 _ h
    · replace h := wo_pos c4 h
      refine x_iconst (pc := 43) dX7_joiner_43 (v := (0 : Int32)) (by decide) ?_
      refine x_goto (pc := 44) dX7_joiner_44 (tgt := 51) (by decide) ?_
      refine x_sub [] trivial ?_
      exact j51 _ h
  · replace h := wo_neg c1 h
    by_cases c5 : p0 = (1 : Int32)
    · replace h := wo_pos c5 h
      refine x_swT (pc := 1) (c := (1 : Int32)) c5 dX7_joiner_1 (by decide) (by decide) rfl (tgt := 52) (by decide) ?_
      refine x_aload_n (pc := 52) dX7_joiner_52 rfl ?_
      refine x_getC (pc := 53) dX7_joiner_53 fX7_12 rfl (by decide) ?_
      refine x_bipush (pc := 56) dX7_joiner_56 (v := (60 : Int32)) (by decide) ?_
      refine z_Vi1 (pc := 58) h dX7_joiner_58 lX7_188 (by decide) (by omega) rfl (fun a e => w_X6_isSign _ _ a e) (fun v6 h => ?_)
      have j87 : ∀ (u7 : Int32), wo (f_X7_joiner_J87 u7) Q0 → mi_X mX7_joiner (6) 87 [] [vi u7] mem QX := by
        intro u7 h
        unfold f_X7_joiner_J87 at h
        exact x_iret (pc := 87) dX7_joiner_87 rfl (by rw [hQX]; exact ⟨_, rfl, hq0 _ (wo_some h), rfl⟩)
      refine x_if_eq (pc := 61) dX7_joiner_61 (tgt := 69) (by decide) (fun c10 => ?_) (fun c10 => ?_)
      · replace h := wo_pos c10 h
        refine x_aload_n (pc := 69) dX7_joiner_69 rfl ?_
        refine x_getC (pc := 70) dX7_joiner_70 fX7_12 rfl (by decide) ?_
        refine x_bipush (pc := 73) dX7_joiner_73 (v := (61 : Int32)) (by decide) ?_
        refine z_Vi1 (pc := 75) h dX7_joiner_75 lX7_188 (by decide) (by omega) rfl (fun a e => w_X6_isSign _ _ a e) (fun v8 h => ?_)
        refine x_if_eq (pc := 78) dX7_joiner_78 (tgt := 86) (by decide) (fun c9 => ?_) (fun c9 => ?_)
        · replace h := wo_pos c9 h
          refine x_iconst (pc := 86) dX7_joiner_86 (v := (0 : Int32)) (by decide) ?_
          refine x_sub [] trivial ?_
          exact j87 _ h
        · replace h := wo_neg c9 h
          refine x_bipush (pc := 81) dX7_joiner_81 (v := (-8 : Int32)) (by decide) ?_
          refine x_goto (pc := 83) dX7_joiner_83 (tgt := 87) (by decide) ?_
          refine x_sub [] trivial ?_
          exact j87 _ h
      · replace h := wo_neg c10 h
        refine x_bipush (pc := 64) dX7_joiner_64 (v := (-7 : Int32)) (by decide) ?_
        refine x_goto (pc := 66) dX7_joiner_66 (tgt := 87) (by decide) ?_
        refine x_sub [] trivial ?_
        exact j87 _ h
    · replace h := wo_neg c5 h
      by_cases c11 : p0 = (2 : Int32)
      · replace h := wo_pos c11 h
        refine x_swT (pc := 1) (c := (2 : Int32)) c11 dX7_joiner_1 (by decide) (by decide) rfl (tgt := 88) (by decide) ?_
        refine x_aload_n (pc := 88) dX7_joiner_88 rfl ?_
        refine x_getC (pc := 89) dX7_joiner_89 fX7_12 rfl (by decide) ?_
        refine x_bipush (pc := 92) dX7_joiner_92 (v := (43 : Int32)) (by decide) ?_
        refine z_Vi1 (pc := 94) h dX7_joiner_94 lX7_188 (by decide) (by omega) rfl (fun a e => w_X6_isSign _ _ a e) (fun v12 h => ?_)
        have j123 : ∀ (u13 : Int32), wo (f_X7_joiner_J123 u13) Q0 → mi_X mX7_joiner (6) 123 [] [vi u13] mem QX := by
          intro u13 h
          unfold f_X7_joiner_J123 at h
          exact x_iret (pc := 123) dX7_joiner_123 rfl (by rw [hQX]; exact ⟨_, rfl, hq0 _ (wo_some h), rfl⟩)
        refine x_if_eq (pc := 97) dX7_joiner_97 (tgt := 105) (by decide) (fun c16 => ?_) (fun c16 => ?_)
        · replace h := wo_pos c16 h
          refine x_aload_n (pc := 105) dX7_joiner_105 rfl ?_
          refine x_getC (pc := 106) dX7_joiner_106 fX7_12 rfl (by decide) ?_
          refine x_bipush (pc := 109) dX7_joiner_109 (v := (45 : Int32)) (by decide) ?_
          refine z_Vi1 (pc := 111) h dX7_joiner_111 lX7_188 (by decide) (by omega) rfl (fun a e => w_X6_isSign _ _ a e) (fun v14 h => ?_)
          refine x_if_eq (pc := 114) dX7_joiner_114 (tgt := 122) (by decide) (fun c15 => ?_) (fun c15 => ?_)
          · replace h := wo_pos c15 h
            refine x_iconst (pc := 122) dX7_joiner_122 (v := (0 : Int32)) (by decide) ?_
            refine x_sub [] trivial ?_
            exact j123 _ h
          · replace h := wo_neg c15 h
            refine x_bipush (pc := 117) dX7_joiner_117 (v := (-10 : Int32)) (by decide) ?_
            refine x_goto (pc := 119) dX7_joiner_119 (tgt := 123) (by decide) ?_
            refine x_sub [] trivial ?_
            exact j123 _ h
        · replace h := wo_neg c16 h
          refine x_bipush (pc := 100) dX7_joiner_100 (v := (-9 : Int32)) (by decide) ?_
          refine x_goto (pc := 102) dX7_joiner_102 (tgt := 123) (by decide) ?_
          refine x_sub [] trivial ?_
          exact j123 _ h
      · replace h := wo_neg c11 h
        refine x_tableOut (pc := 1) dX7_joiner_1 (by have := lv_neT (a := 0) c1 (by decide); have := lv_neT (a := 1) c5 (by decide); have := lv_neT (a := 2) c11 (by decide); omega) (tgt := 124) (by decide) ?_
        refine x_aload_n (pc := 124) dX7_joiner_124 rfl ?_
        refine x_getC (pc := 125) dX7_joiner_125 fX7_12 rfl (by decide) ?_
        refine x_bipush (pc := 128) dX7_joiner_128 (v := (42 : Int32)) (by decide) ?_
        refine z_Vi1 (pc := 130) h dX7_joiner_130 lX7_188 (by decide) (by omega) rfl (fun a e => w_X6_isSign _ _ a e) (fun v17 h => ?_)
        have j142 : ∀ (u18 : Int32), wo (f_X7_joiner_J142 u18) Q0 → mi_X mX7_joiner (6) 142 [] [vi u18] mem QX := by
          intro u18 h
          unfold f_X7_joiner_J142 at h
          exact x_iret (pc := 142) dX7_joiner_142 rfl (by rw [hQX]; exact ⟨_, rfl, hq0 _ (wo_some h), rfl⟩)
        refine x_if_eq (pc := 133) dX7_joiner_133 (tgt := 141) (by decide) (fun c19 => ?_) (fun c19 => ?_)
        · replace h := wo_pos c19 h
          refine x_iconst (pc := 141) dX7_joiner_141 (v := (0 : Int32)) (by decide) ?_
          refine x_sub [] trivial ?_
          exact j142 _ h
        · replace h := wo_neg c19 h
          refine x_bipush (pc := 136) dX7_joiner_136 (v := (-11 : Int32)) (by decide) ?_
          refine x_goto (pc := 138) dX7_joiner_138 (tgt := 142) (by decide) ?_
          refine x_sub [] trivial ?_
          exact j142 _ h
noncomputable def f_X7_readPart_J170 (p0 : Nat) (m6 : mi_M) (u7 : Int32) : Option (Int32 × mi_M) := mi_bo (f_X1_put p0 u7 m6) fun m8 => mi_g ((1 : Int32) = 0 ∨ (1 : Int32) = 1) (some ((1 : Int32), m8))
noncomputable def f_X7_readPart_J153 (u13 : Int32) (m14 : mi_M) : Option (Int32 × mi_M) := mi_g (u13 = 0 ∨ u13 = 1) (some (u13, m14))
noncomputable def f_X7_readPart_J152 (m16 : mi_M) : Option (Int32 × mi_M) := f_X7_readPart_J153 (0 : Int32) m16
noncomputable def f_X7_readPart_J72 (rc : (Nat → Int32 → mi_M → Option (Int32 × mi_M)) × (Nat → Int32 → Int32 → mi_M → Option (Int32 × mi_M))) (p0 : Nat) (p1 : Int32) (mem : mi_M) (u2 : Int32) (v3 : Int32) (v4 : Int32) : Option (Int32 × mi_M) := if p1 < (5 : Int32) then mi_let (mem.1 6 0 3) fun v5 => mi_bo (f_X6_advance mem) fun m6 => if u2 = 0 then if v3 = 0 then if v4 = (-1 : Int32) then f_X7_readPart_J170 p0 m6 v5 else f_X7_readPart_J170 p0 m6 ((-1 : Int32) - v4) else mi_b (rc.2 p0 (0 : Int32) (p1 + (1 : Int32)) m6) fun v11 m12 => if v11 = 0 then f_X7_readPart_J152 m12 else mi_b (f_X7_passSign (41 : Int32) m12) fun v17 m18 => if v17 = 0 then f_X7_readPart_J152 m18 else f_X7_readPart_J153 (1 : Int32) m18 else mi_b (rc.1 p0 (p1 + (1 : Int32)) m6) fun v22 m23 => mi_bo (f_X1_put p0 (-4 : Int32) m23) fun m24 => mi_g (v22 = 0 ∨ v22 = 1) (some (v22, m24)) else mi_b (f_X7_fail (5 : Int32) mem) fun v27 m28 => mi_g (v27 = 0 ∨ v27 = 1) (some (v27, m28))
noncomputable def f_X7_readPart_J17 (rc : (Nat → Int32 → mi_M → Option (Int32 × mi_M)) × (Nat → Int32 → Int32 → mi_M → Option (Int32 × mi_M))) (p0 : Nat) (p1 : Int32) (mem : mi_M) (u2 : Int32) : Option (Int32 × mi_M) := mi_bo (f_X6_isSign (40 : Int32) mem) fun v3 => mi_bo (f_X6_among 10 mem) fun v4 => if u2 = 0 then if v3 = 0 then if v4 = (-1 : Int32) then if (mem.1 6 0 1) = (3 : Int32) then f_X7_readPart_J72 rc p0 p1 mem u2 v3 v4 else mi_b (f_X7_fail (1 : Int32) mem) fun v31 m32 => mi_g (v31 = 0 ∨ v31 = 1) (some (v31, m32)) else f_X7_readPart_J72 rc p0 p1 mem u2 v3 v4 else f_X7_readPart_J72 rc p0 p1 mem u2 v3 v4 else f_X7_readPart_J72 rc p0 p1 mem u2 v3 v4
noncomputable def f_X7_readPart_ (rc : (Nat → Int32 → mi_M → Option (Int32 × mi_M)) × (Nat → Int32 → Int32 → mi_M → Option (Int32 × mi_M))) (p0 : Nat) (p1 : Int32) (mem : mi_M) : Option (Int32 × mi_M) := mi_bo (f_X6_among 9 mem) fun v1 => if v1 = 0 then f_X7_readPart_J17 rc p0 p1 mem (1 : Int32) else f_X7_readPart_J17 rc p0 p1 mem (0 : Int32)
set_option maxRecDepth 100000 in
set_option maxHeartbeats 4000000 in
theorem w_X7_readPart_ (n : Nat) (rc : (Nat → Int32 → mi_M → Option (Int32 × mi_M)) × (Nat → Int32 → Int32 → mi_M → Option (Int32 × mi_M))) (H0 : ∀ (p0 : Nat) (p1 : Int32) (hp0 : p0 < mi_n 1) (mem : mi_M) (a : Int32 × mi_M), rc.1 p0 p1 mem = some a → mi_Ci (7 + n) mX7_readPart [vr 7 0, vr 1 p0, vi p1] mem (fun x m' => x = a.1 ∧ m' = a.2)) (H1 : ∀ (p0 : Nat) (p1 : Int32) (p2 : Int32) (hp0 : p0 < mi_n 1) (mem : mi_M) (a : Int32 × mi_M), rc.2 p0 p1 p2 mem = some a → mi_Ci (7 + n) mX7_readTerm [vr 7 0, vr 1 p0, vi p1, vi p2] mem (fun x m' => x = a.1 ∧ m' = a.2)) (p0 : Nat) (p1 : Int32) (hp0 : p0 < mi_n 1) (mem : mi_M) (a : Int32 × mi_M) (e : f_X7_readPart_ rc p0 p1 mem = some a) : mi_Ci (7 + (n + 1)) mX7_readPart [vr 7 0, vr 1 p0, vi p1] mem (fun x m' => x = a.1 ∧ m' = a.2) := by
  unfold mi_Ci
  refine mi_C_intro (ls := [(0, vr 7 0), (1, vr 1 p0), (2, vi p1)]) (by decide) rfl rfl ?_
  obtain ⟨Q0, hq0, h⟩ : ∃ Q0 : (Int32 × mi_M) → Prop, (∀ b, Q0 b → b = a) ∧ wo (f_X7_readPart_ rc p0 p1 mem) Q0 := ⟨fun b => b = a, fun _ h => h, wo_eq e⟩
  obtain ⟨QX, hQX⟩ : ∃ QX : Option mi_V → mi_M → Prop, QX = (fun r m' => ∃ x, r = some (vi x) ∧ x = a.1 ∧ m' = a.2) := ⟨_, rfl⟩
  rw [← hQX]
  unfold f_X7_readPart_ at h
  refine x_aload_n (pc := 0) dX7_readPart_0 rfl ?_
  refine x_getC (pc := 1) dX7_readPart_1 fX7_12 rfl (by decide) ?_
  refine x_ldcS (pc := 4) dX7_readPart_4 (n := 9) (tx := "not") (by decide) ?_
  refine z_Vi1 (pc := 6) h dX7_readPart_6 lX7_35 (by decide) (by omega) rfl (fun a e => w_X6_among _ (by decide) _ a e) (fun v1 h => ?_)
  have j17 : ∀ (u2 : Int32), wo (f_X7_readPart_J17 rc p0 p1 mem u2) Q0 → mi_X mX7_readPart (7 + (n + 1)) 17 [(0, vr 7 0), (1, vr 1 p0), (2, vi p1)] [vi u2] mem QX := by
    intro u2 h
    unfold f_X7_readPart_J17 at h
    refine x_istore_n (ls' := [(3, _), (0, _), (1, _), (2, _)]) (pc := 17) dX7_readPart_17 rfl rfl rfl ?_
    refine x_aload_n (pc := 18) dX7_readPart_18 rfl ?_
    refine x_getC (pc := 19) dX7_readPart_19 fX7_12 rfl (by decide) ?_
    refine x_bipush (pc := 22) dX7_readPart_22 (v := (40 : Int32)) (by decide) ?_
    refine z_Vi1 (pc := 24) h dX7_readPart_24 lX7_188 (by decide) (by omega) rfl (fun a e => w_X6_isSign _ _ a e) (fun v3 h => ?_)
    refine x_istore (ls' := [(4, _), (3, _), (0, _), (1, _), (2, _)]) (pc := 27) dX7_readPart_27 rfl rfl ?_
    refine x_aload_n (pc := 29) dX7_readPart_29 rfl ?_
    refine x_getC (pc := 30) dX7_readPart_30 fX7_12 rfl (by decide) ?_
    refine x_ldcS (pc := 33) dX7_readPart_33 (n := 10) (tx := "large sore nights") (by decide) ?_
    refine z_Vi1 (pc := 35) h dX7_readPart_35 lX7_35 (by decide) (by omega) rfl (fun a e => w_X6_among _ (by decide) _ a e) (fun v4 h => ?_)
    refine x_istore (ls' := [(5, _), (4, _), (3, _), (0, _), (1, _), (2, _)]) (pc := 38) dX7_readPart_38 rfl rfl ?_
    refine x_iload_n (pc := 40) dX7_readPart_40 rfl ?_
    have j72 : wo (f_X7_readPart_J72 rc p0 p1 mem u2 v3 v4) Q0 → mi_X mX7_readPart (7 + (n + 1)) 72 [(0, vr 7 0), (1, vr 1 p0), (2, vi p1), (3, vi u2), (4, vi v3), (5, vi v4)] [] mem QX := by
      intro h
      unfold f_X7_readPart_J72 at h
      refine x_iload_n (pc := 72) dX7_readPart_72 rfl ?_
      refine x_iconst (pc := 73) dX7_readPart_73 (v := (5 : Int32)) (by decide) ?_
      refine x_icmp_lt (pc := 74) dX7_readPart_74 (tgt := 83) (by decide) (fun c30 => ?_) (fun c30 => ?_)
      · replace h := wo_pos c30 h
        refine x_aload_n (pc := 83) dX7_readPart_83 rfl ?_
        refine x_getC (pc := 84) dX7_readPart_84 fX7_12 rfl (by decide) ?_
        refine x_getI (pc := 87) dX7_readPart_87 fX7_98 rfl (by decide) ?_
        refine x_leti h (fun v5 h => ?_)
        refine x_istore (ls' := [(6, _), (0, _), (1, _), (2, _), (3, _), (4, _), (5, _)]) (pc := 90) dX7_readPart_90 rfl rfl ?_
        refine x_aload_n (pc := 92) dX7_readPart_92 rfl ?_
        refine x_getC (pc := 93) dX7_readPart_93 fX7_12 rfl (by decide) ?_
        refine y_Vv0 (pc := 96) h dX7_readPart_96 lX7_75 (by decide) (by omega) rfl (fun a e => w_X6_advance _ a e) (fun m6 h => ?_)
        refine x_iload_n (pc := 99) dX7_readPart_99 rfl ?_
        refine x_if_eq (pc := 100) dX7_readPart_100 (tgt := 122) (by decide) (fun c26 => ?_) (fun c26 => ?_)
        · replace h := wo_pos c26 h
          refine x_iload (pc := 122) dX7_readPart_122 rfl ?_
          refine x_if_eq (pc := 124) dX7_readPart_124 (tgt := 154) (by decide) (fun c21 => ?_) (fun c21 => ?_)
          · replace h := wo_pos c21 h
            refine x_aload_n (pc := 154) dX7_readPart_154 rfl ?_
            refine x_iload (pc := 155) dX7_readPart_155 rfl ?_
            refine x_iconst (pc := 157) dX7_readPart_157 (v := (-1 : Int32)) (by decide) ?_
            have j170 : ∀ (u7 : Int32), wo (f_X7_readPart_J170 p0 m6 u7) Q0 → mi_X mX7_readPart (7 + (n + 1)) 170 [] [vi u7, vr 1 p0] m6 QX := by
              intro u7 h
              unfold f_X7_readPart_J170 at h
              refine y_Vv1 (pc := 170) h dX7_readPart_170 lX7_183 hp0 (by omega) rfl (fun a e => w_X1_put _ _ hp0 _ a e) (fun m8 h => ?_)
              refine x_iconst (pc := 173) dX7_readPart_173 (v := (1 : Int32)) (by decide) ?_
              obtain ⟨hb9, h⟩ := wo_g h
              exact x_zretB (pc := 174) dX7_readPart_174 rfl hb9 (by rw [hQX]; exact ⟨_, rfl, congrArg Prod.fst (hq0 _ (wo_some h)), congrArg Prod.snd (hq0 _ (wo_some h))⟩)
            refine x_icmp_ne (pc := 158) dX7_readPart_158 (tgt := 166) (by decide) (fun c10 => ?_) (fun c10 => ?_)
            · replace h := wo_neg c10 h
              refine x_iconst (pc := 166) dX7_readPart_166 (v := (-1 : Int32)) (by decide) ?_
              refine x_iload (pc := 167) dX7_readPart_167 rfl ?_
              refine x_isub (pc := 169) dX7_readPart_169 ?_
              refine x_sub [] trivial ?_
              exact j170 _ h
            · replace h := wo_pos c10 h
              refine x_iload (pc := 161) dX7_readPart_161 rfl ?_
              refine x_goto (pc := 163) dX7_readPart_163 (tgt := 170) (by decide) ?_
              refine x_sub [] trivial ?_
              exact j170 _ h
          · replace h := wo_neg c21 h
            refine x_aload_n (pc := 127) dX7_readPart_127 rfl ?_
            refine x_aload_n (pc := 128) dX7_readPart_128 rfl ?_
            refine x_iconst (pc := 129) dX7_readPart_129 (v := (0 : Int32)) (by decide) ?_
            refine x_iload_n (pc := 130) dX7_readPart_130 rfl ?_
            refine x_iconst (pc := 131) dX7_readPart_131 (v := (1 : Int32)) (by decide) ?_
            refine x_iadd (pc := 132) dX7_readPart_132 ?_
            refine y_Vi3 (pc := 133) h dX7_readPart_133 lX7_168 (by decide) (by omega) rfl (fun a e => H1 _ _ _ hp0 _ a e) (fun v11 m12 h => ?_)
            have j153 : ∀ (u13 : Int32) (m14 : mi_M), wo (f_X7_readPart_J153 u13 m14) Q0 → mi_X mX7_readPart (7 + (n + 1)) 153 [] [vi u13] m14 QX := by
              intro u13 m14 h
              unfold f_X7_readPart_J153 at h
              obtain ⟨hb15, h⟩ := wo_g h
              exact x_zretB (pc := 153) dX7_readPart_153 rfl hb15 (by rw [hQX]; exact ⟨_, rfl, congrArg Prod.fst (hq0 _ (wo_some h)), congrArg Prod.snd (hq0 _ (wo_some h))⟩)
            have j152 : ∀ (m16 : mi_M), wo (f_X7_readPart_J152 m16) Q0 → mi_X mX7_readPart (7 + (n + 1)) 152 [] [] m16 QX := by
              intro m16 h
              unfold f_X7_readPart_J152 at h
              refine x_iconst (pc := 152) dX7_readPart_152 (v := (0 : Int32)) (by decide) ?_
              refine x_sub [] trivial ?_
              exact j153 _ _ h
            refine x_if_eq (pc := 136) dX7_readPart_136 (tgt := 152) (by decide) (fun c20 => ?_) (fun c20 => ?_)
            · replace h := wo_pos c20 h
              refine x_sub [] trivial ?_
              exact j152 _ h
            · replace h := wo_neg c20 h
              refine x_aload_n (pc := 139) dX7_readPart_139 rfl ?_
              refine x_bipush (pc := 140) dX7_readPart_140 (v := (41 : Int32)) (by decide) ?_
              refine y_Vi1 (pc := 142) h dX7_readPart_142 lX7_109 (by decide) (by omega) rfl (fun a e => w_X7_passSign _ _ a e) (fun v17 m18 h => ?_)
              refine x_if_eq (pc := 145) dX7_readPart_145 (tgt := 152) (by decide) (fun c19 => ?_) (fun c19 => ?_)
              · replace h := wo_pos c19 h
                refine x_sub [] trivial ?_
                exact j152 _ h
              · replace h := wo_neg c19 h
                refine x_iconst (pc := 148) dX7_readPart_148 (v := (1 : Int32)) (by decide) ?_
                refine x_goto (pc := 149) dX7_readPart_149 (tgt := 153) (by decide) ?_
                refine x_sub [] trivial ?_
                exact j153 _ _ h
        · replace h := wo_neg c26 h
          refine x_aload_n (pc := 103) dX7_readPart_103 rfl ?_
          refine x_aload_n (pc := 104) dX7_readPart_104 rfl ?_
          refine x_iload_n (pc := 105) dX7_readPart_105 rfl ?_
          refine x_iconst (pc := 106) dX7_readPart_106 (v := (1 : Int32)) (by decide) ?_
          refine x_iadd (pc := 107) dX7_readPart_107 ?_
          refine y_Vi2 (pc := 108) h dX7_readPart_108 lX7_175 (by decide) (by omega) rfl (fun a e => H0 _ _ hp0 _ a e) (fun v22 m23 h => ?_)
          refine x_istore (ls' := [(7, _), (6, _), (0, _), (1, _), (2, _), (3, _), (4, _), (5, _)]) (pc := 111) dX7_readPart_111 rfl rfl ?_
          refine x_aload_n (pc := 113) dX7_readPart_113 rfl ?_
          refine x_bipush (pc := 114) dX7_readPart_114 (v := (-4 : Int32)) (by decide) ?_
          refine y_Vv1 (pc := 116) h dX7_readPart_116 lX7_183 hp0 (by omega) rfl (fun a e => w_X1_put _ _ hp0 _ a e) (fun m24 h => ?_)
          refine x_iload (pc := 119) dX7_readPart_119 rfl ?_
          obtain ⟨hb25, h⟩ := wo_g h
          exact x_zretB (pc := 121) dX7_readPart_121 rfl hb25 (by rw [hQX]; exact ⟨_, rfl, congrArg Prod.fst (hq0 _ (wo_some h)), congrArg Prod.snd (hq0 _ (wo_some h))⟩)
      · replace h := wo_neg c30 h
        refine x_aload_n (pc := 77) dX7_readPart_77 rfl ?_
        refine x_iconst (pc := 78) dX7_readPart_78 (v := (5 : Int32)) (by decide) ?_
        refine y_Vi1 (pc := 79) h dX7_readPart_79 lX7_39 (by decide) (by omega) rfl (fun a e => w_X7_fail _ _ a e) (fun v27 m28 h => ?_)
        obtain ⟨hb29, h⟩ := wo_g h
        exact x_zretB (pc := 82) dX7_readPart_82 rfl hb29 (by rw [hQX]; exact ⟨_, rfl, congrArg Prod.fst (hq0 _ (wo_some h)), congrArg Prod.snd (hq0 _ (wo_some h))⟩)
    refine x_if_ne (pc := 41) dX7_readPart_41 (tgt := 72) (by decide) (fun c37 => ?_) (fun c37 => ?_)
    · replace h := wo_neg c37 h
      refine x_sub [(0, _), (1, _), (2, _), (3, _), (4, _), (5, _)] ⟨rfl, rfl, rfl, rfl, rfl, rfl, trivial⟩ ?_
      exact j72 h
    · replace h := wo_pos c37 h
      refine x_iload (pc := 44) dX7_readPart_44 rfl ?_
      refine x_if_ne (pc := 46) dX7_readPart_46 (tgt := 72) (by decide) (fun c36 => ?_) (fun c36 => ?_)
      · replace h := wo_neg c36 h
        refine x_sub [(0, _), (1, _), (2, _), (3, _), (4, _), (5, _)] ⟨rfl, rfl, rfl, rfl, rfl, rfl, trivial⟩ ?_
        exact j72 h
      · replace h := wo_pos c36 h
        refine x_iload (pc := 49) dX7_readPart_49 rfl ?_
        refine x_iconst (pc := 51) dX7_readPart_51 (v := (-1 : Int32)) (by decide) ?_
        refine x_icmp_ne (pc := 52) dX7_readPart_52 (tgt := 72) (by decide) (fun c35 => ?_) (fun c35 => ?_)
        · replace h := wo_neg c35 h
          refine x_sub [(0, _), (1, _), (2, _), (3, _), (4, _), (5, _)] ⟨rfl, rfl, rfl, rfl, rfl, rfl, trivial⟩ ?_
          exact j72 h
        · replace h := wo_pos c35 h
          refine x_aload_n (pc := 55) dX7_readPart_55 rfl ?_
          refine x_getC (pc := 56) dX7_readPart_56 fX7_12 rfl (by decide) ?_
          refine x_getI (pc := 59) dX7_readPart_59 fX7_30 rfl (by decide) ?_
          refine x_iconst (pc := 62) dX7_readPart_62 (v := (3 : Int32)) (by decide) ?_
          refine x_icmp_eq (pc := 63) dX7_readPart_63 (tgt := 72) (by decide) (fun c34 => ?_) (fun c34 => ?_)
          · replace h := wo_pos c34 h
            refine x_sub [(0, _), (1, _), (2, _), (3, _), (4, _), (5, _)] ⟨rfl, rfl, rfl, rfl, rfl, rfl, trivial⟩ ?_
            exact j72 h
          · replace h := wo_neg c34 h
            refine x_aload_n (pc := 66) dX7_readPart_66 rfl ?_
            refine x_iconst (pc := 67) dX7_readPart_67 (v := (1 : Int32)) (by decide) ?_
            refine y_Vi1 (pc := 68) h dX7_readPart_68 lX7_39 (by decide) (by omega) rfl (fun a e => w_X7_fail _ _ a e) (fun v31 m32 h => ?_)
            obtain ⟨hb33, h⟩ := wo_g h
            exact x_zretB (pc := 71) dX7_readPart_71 rfl hb33 (by rw [hQX]; exact ⟨_, rfl, congrArg Prod.fst (hq0 _ (wo_some h)), congrArg Prod.snd (hq0 _ (wo_some h))⟩)
  refine x_if_ne (pc := 9) dX7_readPart_9 (tgt := 16) (by decide) (fun c38 => ?_) (fun c38 => ?_)
  · replace h := wo_neg c38 h
    refine x_iconst (pc := 16) dX7_readPart_16 (v := (0 : Int32)) (by decide) ?_
    refine x_sub [(0, _), (1, _), (2, _)] ⟨rfl, rfl, rfl, trivial⟩ ?_
    exact j17 _ h
  · replace h := wo_pos c38 h
    refine x_iconst (pc := 12) dX7_readPart_12 (v := (1 : Int32)) (by decide) ?_
    refine x_goto (pc := 13) dX7_readPart_13 (tgt := 17) (by decide) ?_
    refine x_sub [(0, _), (1, _), (2, _)] ⟨rfl, rfl, rfl, trivial⟩ ?_
    exact j17 _ h
noncomputable def f_X7_readTerm_B43 (rc : (Nat → Int32 → mi_M → Option (Int32 × mi_M)) × (Nat → Int32 → Int32 → mi_M → Option (Int32 × mi_M))) (p0 : Nat) (p1 : Int32) (p2 : Int32) (u3 : Int32) : (Int32 × mi_M) → Option ((Int32 × mi_M) ⊕ (mi_M ⊕ mi_M ⊕ mi_M)) := fun s => match s with | (l10, m11) => if u3 ≤ l10 then some (.inr (.inr (.inr m11))) else mi_bo (f_X7_joiner p1 m11) fun v12 => if v12 = 0 then some (.inr (.inl m11)) else mi_bo (f_X6_advance m11) fun m13 => mi_b (rc.2 p0 (p1 + (1 : Int32)) p2 m13) fun v14 m15 => if v14 = 0 then some (.inr (.inr (.inl m15))) else mi_bo (f_X1_put p0 v12 m15) fun m16 => some (.inl ((l10 + (1 : Int32)), m16))
noncomputable def f_X7_readTerm_K43 : (mi_M ⊕ mi_M ⊕ mi_M) → Option (Int32 × mi_M) := fun e => match e with | (.inl m4) => mi_g ((1 : Int32) = 0 ∨ (1 : Int32) = 1) (some ((1 : Int32), m4)) | (.inr (.inl m6)) => mi_g ((0 : Int32) = 0 ∨ (0 : Int32) = 1) (some ((0 : Int32), m6)) | (.inr (.inr m8)) => mi_g ((1 : Int32) = 0 ∨ (1 : Int32) = 1) (some ((1 : Int32), m8))
noncomputable def f_X7_readTerm_J38 (rc : (Nat → Int32 → mi_M → Option (Int32 × mi_M)) × (Nat → Int32 → Int32 → mi_M → Option (Int32 × mi_M))) (p0 : Nat) (p1 : Int32) (p2 : Int32) (m2 : mi_M) (u3 : Int32) : Option (Int32 × mi_M) := mi_bo (mi_lp (f_X7_readTerm_B43 rc p0 p1 p2 u3) mi_fu ((0 : Int32), m2)) (f_X7_readTerm_K43)
noncomputable def f_X7_readTerm_ (rc : (Nat → Int32 → mi_M → Option (Int32 × mi_M)) × (Nat → Int32 → Int32 → mi_M → Option (Int32 × mi_M))) (p0 : Nat) (p1 : Int32) (p2 : Int32) (mem : mi_M) : Option (Int32 × mi_M) := if p1 ≤ (3 : Int32) then mi_b (rc.2 p0 (p1 + (1 : Int32)) p2 mem) fun v1 m2 => if v1 = 0 then mi_g ((0 : Int32) = 0 ∨ (0 : Int32) = 1) (some ((0 : Int32), m2)) else if p1 = (1 : Int32) then f_X7_readTerm_J38 rc p0 p1 p2 m2 (1 : Int32) else f_X7_readTerm_J38 rc p0 p1 p2 m2 (1000 : Int32) else mi_b (rc.1 p0 p2 mem) fun v23 m24 => mi_g (v23 = 0 ∨ v23 = 1) (some (v23, m24))
set_option maxRecDepth 100000 in
set_option maxHeartbeats 4000000 in
theorem w_X7_readTerm_ (n : Nat) (rc : (Nat → Int32 → mi_M → Option (Int32 × mi_M)) × (Nat → Int32 → Int32 → mi_M → Option (Int32 × mi_M))) (H0 : ∀ (p0 : Nat) (p1 : Int32) (hp0 : p0 < mi_n 1) (mem : mi_M) (a : Int32 × mi_M), rc.1 p0 p1 mem = some a → mi_Ci (7 + n) mX7_readPart [vr 7 0, vr 1 p0, vi p1] mem (fun x m' => x = a.1 ∧ m' = a.2)) (H1 : ∀ (p0 : Nat) (p1 : Int32) (p2 : Int32) (hp0 : p0 < mi_n 1) (mem : mi_M) (a : Int32 × mi_M), rc.2 p0 p1 p2 mem = some a → mi_Ci (7 + n) mX7_readTerm [vr 7 0, vr 1 p0, vi p1, vi p2] mem (fun x m' => x = a.1 ∧ m' = a.2)) (p0 : Nat) (p1 : Int32) (p2 : Int32) (hp0 : p0 < mi_n 1) (mem : mi_M) (a : Int32 × mi_M) (e : f_X7_readTerm_ rc p0 p1 p2 mem = some a) : mi_Ci (7 + (n + 1)) mX7_readTerm [vr 7 0, vr 1 p0, vi p1, vi p2] mem (fun x m' => x = a.1 ∧ m' = a.2) := by
  unfold mi_Ci
  refine mi_C_intro (ls := [(0, vr 7 0), (1, vr 1 p0), (2, vi p1), (3, vi p2)]) (by decide) rfl rfl ?_
  obtain ⟨Q0, hq0, h⟩ : ∃ Q0 : (Int32 × mi_M) → Prop, (∀ b, Q0 b → b = a) ∧ wo (f_X7_readTerm_ rc p0 p1 p2 mem) Q0 := ⟨fun b => b = a, fun _ h => h, wo_eq e⟩
  obtain ⟨QX, hQX⟩ : ∃ QX : Option mi_V → mi_M → Prop, QX = (fun r m' => ∃ x, r = some (vi x) ∧ x = a.1 ∧ m' = a.2) := ⟨_, rfl⟩
  rw [← hQX]
  unfold f_X7_readTerm_ at h
  refine x_iload_n (pc := 0) dX7_readTerm_0 rfl ?_
  refine x_iconst (pc := 1) dX7_readTerm_1 (v := (3 : Int32)) (by decide) ?_
  refine x_icmp_le (pc := 2) dX7_readTerm_2 (tgt := 12) (by decide) (fun c26 => ?_) (fun c26 => ?_)
  · replace h := wo_pos c26 h
    refine x_aload_n (pc := 12) dX7_readTerm_12 rfl ?_
    refine x_aload_n (pc := 13) dX7_readTerm_13 rfl ?_
    refine x_iload_n (pc := 14) dX7_readTerm_14 rfl ?_
    refine x_iconst (pc := 15) dX7_readTerm_15 (v := (1 : Int32)) (by decide) ?_
    refine x_iadd (pc := 16) dX7_readTerm_16 ?_
    refine x_iload_n (pc := 17) dX7_readTerm_17 rfl ?_
    refine y_Vi3 (pc := 18) h dX7_readTerm_18 lX7_168 (by decide) (by omega) rfl (fun a e => H1 _ _ _ hp0 _ a e) (fun v1 m2 h => ?_)
    refine x_if_ne (pc := 21) dX7_readTerm_21 (tgt := 26) (by decide) (fun c22 => ?_) (fun c22 => ?_)
    · replace h := wo_neg c22 h
      refine x_iload_n (pc := 26) dX7_readTerm_26 rfl ?_
      refine x_iconst (pc := 27) dX7_readTerm_27 (v := (1 : Int32)) (by decide) ?_
      have j38 : ∀ (u3 : Int32), wo (f_X7_readTerm_J38 rc p0 p1 p2 m2 u3) Q0 → mi_X mX7_readTerm (7 + (n + 1)) 38 [(0, vr 7 0), (1, vr 1 p0), (2, vi p1), (3, vi p2)] [vi u3] m2 QX := by
        intro u3 h
        unfold f_X7_readTerm_J38 at h
        refine x_istore (ls' := [(4, _), (0, _), (1, _), (2, _), (3, _)]) (pc := 38) dX7_readTerm_38 rfl rfl ?_
        refine x_iconst (pc := 40) dX7_readTerm_40 (v := (0 : Int32)) (by decide) ?_
        refine x_istore (ls' := [(5, _), (4, _), (0, _), (1, _), (2, _), (3, _)]) (pc := 41) dX7_readTerm_41 rfl rfl ?_
        have k43_0 : ∀ (m4 : mi_M), wo (f_X7_readTerm_K43 (.inl m4)) Q0 → mi_X mX7_readTerm (7 + (n + 1)) 62 [] [] m4 QX := by
          intro m4 h
          unfold f_X7_readTerm_K43 at h
          try dsimp only at h
          refine x_iconst (pc := 62) dX7_readTerm_62 (v := (1 : Int32)) (by decide) ?_
          obtain ⟨hb5, h⟩ := wo_g h
          exact x_zretB (pc := 63) dX7_readTerm_63 rfl hb5 (by rw [hQX]; exact ⟨_, rfl, congrArg Prod.fst (hq0 _ (wo_some h)), congrArg Prod.snd (hq0 _ (wo_some h))⟩)
        have k43_1 : ∀ (m6 : mi_M), wo (f_X7_readTerm_K43 (.inr (.inl m6))) Q0 → mi_X mX7_readTerm (7 + (n + 1)) 83 [] [] m6 QX := by
          intro m6 h
          unfold f_X7_readTerm_K43 at h
          try dsimp only at h
          refine x_iconst (pc := 83) dX7_readTerm_83 (v := (0 : Int32)) (by decide) ?_
          obtain ⟨hb7, h⟩ := wo_g h
          exact x_zretB (pc := 84) dX7_readTerm_84 rfl hb7 (by rw [hQX]; exact ⟨_, rfl, congrArg Prod.fst (hq0 _ (wo_some h)), congrArg Prod.snd (hq0 _ (wo_some h))⟩)
        have k43_2 : ∀ (m8 : mi_M), wo (f_X7_readTerm_K43 (.inr (.inr m8))) Q0 → mi_X mX7_readTerm (7 + (n + 1)) 97 [] [] m8 QX := by
          intro m8 h
          unfold f_X7_readTerm_K43 at h
          try dsimp only at h
          refine x_iconst (pc := 97) dX7_readTerm_97 (v := (1 : Int32)) (by decide) ?_
          obtain ⟨hb9, h⟩ := wo_g h
          exact x_zretB (pc := 98) dX7_readTerm_98 rfl hb9 (by rw [hQX]; exact ⟨_, rfl, congrArg Prod.fst (hq0 _ (wo_some h)), congrArg Prod.snd (hq0 _ (wo_some h))⟩)
        refine x_sub [(0, _), (1, _), (2, _), (3, _), (4, _), (5, _)] ⟨rfl, rfl, rfl, rfl, rfl, rfl, trivial⟩ ?_
        obtain ⟨ea, eb, h⟩ := wo_bo h
        refine wo_lq (X := fun s => match s with | (l10, m11) => mi_X mX7_readTerm (7 + (n + 1)) 43 [(0, vr 7 0), (1, vr 1 p0), (2, vi p1), (3, vi p2), (4, vi u3), (5, vi l10)] [] m11 QX) (E := fun e => wo (f_X7_readTerm_K43 e) Q0) ?_ _ ((0 : Int32), m2) ⟨_, eb, h⟩
        intro Q43 hb43 he43 s h
        obtain ⟨l10, m11⟩ := s
        show mi_X mX7_readTerm (7 + (n + 1)) 43 [(0, vr 7 0), (1, vr 1 p0), (2, vi p1), (3, vi p2), (4, vi u3), (5, vi l10)] [] m11 QX
        unfold f_X7_readTerm_B43 at h
        try dsimp only at h
        refine x_iload (pc := 43) dX7_readTerm_43 rfl ?_
        refine x_iload (pc := 45) dX7_readTerm_45 rfl ?_
        refine x_icmp_ge (pc := 47) dX7_readTerm_47 (tgt := 97) (by decide) (fun c19 => ?_) (fun c19 => ?_)
        · replace h := wo_pos c19 h
          refine x_sub [] trivial ?_
          exact k43_2 _ (he43 (.inr (.inr m11)) (wo_some h))
        · replace h := wo_neg c19 h
          refine x_aload_n (pc := 50) dX7_readTerm_50 rfl ?_
          refine x_iload_n (pc := 51) dX7_readTerm_51 rfl ?_
          refine z_Vi1 (pc := 52) h dX7_readTerm_52 lX7_179 (by decide) (by omega) rfl (fun a e => w_X7_joiner _ _ a e) (fun v12 h => ?_)
          refine x_istore (ls' := [(6, _), (0, _), (1, _), (2, _), (3, _), (4, _), (5, _)]) (pc := 55) dX7_readTerm_55 rfl rfl ?_
          refine x_iload (pc := 57) dX7_readTerm_57 rfl ?_
          refine x_if_ne (pc := 59) dX7_readTerm_59 (tgt := 64) (by decide) (fun c18 => ?_) (fun c18 => ?_)
          · replace h := wo_neg c18 h
            refine x_aload_n (pc := 64) dX7_readTerm_64 rfl ?_
            refine x_getC (pc := 65) dX7_readTerm_65 fX7_12 rfl (by decide) ?_
            refine y_Vv0 (pc := 68) h dX7_readTerm_68 lX7_75 (by decide) (by omega) rfl (fun a e => w_X6_advance _ a e) (fun m13 h => ?_)
            refine x_aload_n (pc := 71) dX7_readTerm_71 rfl ?_
            refine x_aload_n (pc := 72) dX7_readTerm_72 rfl ?_
            refine x_iload_n (pc := 73) dX7_readTerm_73 rfl ?_
            refine x_iconst (pc := 74) dX7_readTerm_74 (v := (1 : Int32)) (by decide) ?_
            refine x_iadd (pc := 75) dX7_readTerm_75 ?_
            refine x_iload_n (pc := 76) dX7_readTerm_76 rfl ?_
            refine y_Vi3 (pc := 77) h dX7_readTerm_77 lX7_168 (by decide) (by omega) rfl (fun a e => H1 _ _ _ hp0 _ a e) (fun v14 m15 h => ?_)
            refine x_if_ne (pc := 80) dX7_readTerm_80 (tgt := 85) (by decide) (fun c17 => ?_) (fun c17 => ?_)
            · replace h := wo_neg c17 h
              refine x_aload_n (pc := 85) dX7_readTerm_85 rfl ?_
              refine x_iload (pc := 86) dX7_readTerm_86 rfl ?_
              refine y_Vv1 (pc := 88) h dX7_readTerm_88 lX7_183 hp0 (by omega) rfl (fun a e => w_X1_put _ _ hp0 _ a e) (fun m16 h => ?_)
              refine x_iinc (ls' := [(5, _), (6, _), (0, _), (1, _), (2, _), (3, _), (4, _)]) (pc := 91) dX7_readTerm_91 rfl (v := l10 + (1 : Int32)) rfl rfl rfl ?_
              refine x_goto (pc := 94) dX7_readTerm_94 (tgt := 43) (by decide) ?_
              refine x_sub [(0, _), (1, _), (2, _), (3, _), (4, _), (5, _)] ⟨rfl, rfl, rfl, rfl, rfl, rfl, trivial⟩ ?_
              exact hb43 ((l10 + (1 : Int32)), m16) (wo_some h)
            · replace h := wo_pos c17 h
              refine x_sub [] trivial ?_
              exact k43_1 _ (he43 (.inr (.inl m15)) (wo_some h))
          · replace h := wo_pos c18 h
            refine x_sub [] trivial ?_
            exact k43_0 _ (he43 (.inl m11) (wo_some h))
      refine x_icmp_ne (pc := 28) dX7_readTerm_28 (tgt := 35) (by decide) (fun c20 => ?_) (fun c20 => ?_)
      · replace h := wo_neg c20 h
        refine x_sipush (pc := 35) dX7_readTerm_35 (v := (1000 : Int32)) (by decide) ?_
        refine x_sub [(0, _), (1, _), (2, _), (3, _)] ⟨rfl, rfl, rfl, rfl, trivial⟩ ?_
        exact j38 _ h
      · replace h := wo_pos c20 h
        refine x_iconst (pc := 31) dX7_readTerm_31 (v := (1 : Int32)) (by decide) ?_
        refine x_goto (pc := 32) dX7_readTerm_32 (tgt := 38) (by decide) ?_
        refine x_sub [(0, _), (1, _), (2, _), (3, _)] ⟨rfl, rfl, rfl, rfl, trivial⟩ ?_
        exact j38 _ h
    · replace h := wo_pos c22 h
      refine x_iconst (pc := 24) dX7_readTerm_24 (v := (0 : Int32)) (by decide) ?_
      obtain ⟨hb21, h⟩ := wo_g h
      exact x_zretB (pc := 25) dX7_readTerm_25 rfl hb21 (by rw [hQX]; exact ⟨_, rfl, congrArg Prod.fst (hq0 _ (wo_some h)), congrArg Prod.snd (hq0 _ (wo_some h))⟩)
  · replace h := wo_neg c26 h
    refine x_aload_n (pc := 5) dX7_readTerm_5 rfl ?_
    refine x_aload_n (pc := 6) dX7_readTerm_6 rfl ?_
    refine x_iload_n (pc := 7) dX7_readTerm_7 rfl ?_
    refine y_Vi2 (pc := 8) h dX7_readTerm_8 lX7_175 (by decide) (by omega) rfl (fun a e => H0 _ _ hp0 _ a e) (fun v23 m24 h => ?_)
    obtain ⟨hb25, h⟩ := wo_g h
    exact x_zretB (pc := 11) dX7_readTerm_11 rfl hb25 (by rw [hQX]; exact ⟨_, rfl, congrArg Prod.fst (hq0 _ (wo_some h)), congrArg Prod.snd (hq0 _ (wo_some h))⟩)
noncomputable def fg_X7_readPart : Nat → (Nat → Int32 → mi_M → Option (Int32 × mi_M)) × (Nat → Int32 → Int32 → mi_M → Option (Int32 × mi_M))
  | 0 => (fun _ _ _ => none, fun _ _ _ _ => none)
  | n + 1 => (f_X7_readPart_ (fg_X7_readPart n), f_X7_readTerm_ (fg_X7_readPart n))
theorem wg_X7_readPart : ∀ n : Nat, (∀ (p0 : Nat) (p1 : Int32) (hp0 : p0 < mi_n 1) (mem : mi_M) (a : Int32 × mi_M), (fg_X7_readPart n).1 p0 p1 mem = some a → mi_Ci (7 + n) mX7_readPart [vr 7 0, vr 1 p0, vi p1] mem (fun x m' => x = a.1 ∧ m' = a.2)) ∧ (∀ (p0 : Nat) (p1 : Int32) (p2 : Int32) (hp0 : p0 < mi_n 1) (mem : mi_M) (a : Int32 × mi_M), (fg_X7_readPart n).2 p0 p1 p2 mem = some a → mi_Ci (7 + n) mX7_readTerm [vr 7 0, vr 1 p0, vi p1, vi p2] mem (fun x m' => x = a.1 ∧ m' = a.2))
  | 0 => ⟨fun _ _ _ _ _ e => (by cases e), fun _ _ _ _ _ _ e => (by cases e)⟩
  | n + 1 => by
    have ih := wg_X7_readPart n
    exact ⟨w_X7_readPart_ n (fg_X7_readPart n) ih.1 ih.2, w_X7_readTerm_ n (fg_X7_readPart n) ih.1 ih.2⟩
noncomputable def f_X7_readPart (p0 : Nat) (p1 : Int32) (mem : mi_M) : Option (Int32 × mi_M) := (fg_X7_readPart mi_dp).1 p0 p1 mem
theorem w_X7_readPart (p0 : Nat) (p1 : Int32) (hp0 : p0 < mi_n 1) (mem : mi_M) (a : Int32 × mi_M) (e : f_X7_readPart p0 p1 mem = some a) : mi_Ci (47) mX7_readPart [vr 7 0, vr 1 p0, vi p1] mem (fun x m' => x = a.1 ∧ m' = a.2) := (wg_X7_readPart mi_dp).1 p0 p1 hp0 mem a e
noncomputable def f_X7_readTerm (p0 : Nat) (p1 : Int32) (p2 : Int32) (mem : mi_M) : Option (Int32 × mi_M) := (fg_X7_readPart mi_dp).2 p0 p1 p2 mem
theorem w_X7_readTerm (p0 : Nat) (p1 : Int32) (p2 : Int32) (hp0 : p0 < mi_n 1) (mem : mi_M) (a : Int32 × mi_M) (e : f_X7_readTerm p0 p1 p2 mem = some a) : mi_Ci (47) mX7_readTerm [vr 7 0, vr 1 p0, vi p1, vi p2] mem (fun x m' => x = a.1 ∧ m' = a.2) := (wg_X7_readPart mi_dp).2 p0 p1 p2 hp0 mem a e
noncomputable def f_X7_readOnce_J164 (u9 : Int32) (m10 : mi_M) : Option (Int32 × mi_M) := mi_g (u9 = 0 ∨ u9 = 1) (some (u9, m10))
noncomputable def f_X7_readOnce_J163 (m12 : mi_M) : Option (Int32 × mi_M) := f_X7_readOnce_J164 (0 : Int32) m12
noncomputable def f_X7_readOnce_J112 (u20 : Int32) (m21 : mi_M) : Option (Int32 × mi_M) := mi_g (u20 = 0 ∨ u20 = 1) (some (u20, m21))
noncomputable def f_X7_readOnce_J111 (m23 : mi_M) : Option (Int32 × mi_M) := f_X7_readOnce_J112 (0 : Int32) m23
noncomputable def f_X7_readOnce_J77 (u32 : Int32) (m33 : mi_M) : Option (Int32 × mi_M) := mi_g (u32 = 0 ∨ u32 = 1) (some (u32, m33))
noncomputable def f_X7_readOnce_J76 (m35 : mi_M) : Option (Int32 × mi_M) := f_X7_readOnce_J77 (0 : Int32) m35
noncomputable def f_X7_readOnce (p0 : Nat) (p1 : Int32) (mem : mi_M) : Option (Int32 × mi_M) := mi_bo (f_X11_holds (mem.1 8 p0 4) p1 mem) fun v1 => if v1 = 0 then mi_let (mi_wI mem 8 p0 4 ((mem.1 8 p0 4) ||| ((1 : Int32) <<< (p1 &&& 31)))) fun m2 => mi_bo (f_X6_advance m2) fun m3 => mi_let (m3.1 6 0 3) fun v4 => if p1 = 0 then mi_let (mi_wI m3 8 p0 2 v4) fun m29 => mi_b (f_X7_passNumber (0 : Int32) (30 : Int32) m29) fun v30 m31 => if v30 = 0 then f_X7_readOnce_J76 m31 else mi_b (f_X7_passSign (59 : Int32) m31) fun v36 m37 => if v36 = 0 then f_X7_readOnce_J76 m37 else f_X7_readOnce_J77 (1 : Int32) m37 else if p1 = (1 : Int32) then mi_let (mi_wI m3 8 p0 3 v4) fun m17 => mi_b (f_X7_passNumber (0 : Int32) (10 : Int32) m17) fun v18 m19 => if v18 = 0 then f_X7_readOnce_J111 m19 else mi_b (f_X7_passSign (59 : Int32) m19) fun v24 m25 => if v24 = 0 then f_X7_readOnce_J111 m25 else f_X7_readOnce_J112 (1 : Int32) m25 else mi_bo (f_X1_begin p0 (p1 - (2 : Int32)) m3) fun m5 => mi_b (f_X7_readTerm p0 (0 : Int32) (0 : Int32) m5) fun v6 m7 => mi_bo (f_X1_end p0 (p1 - (2 : Int32)) m7) fun m8 => if v6 = 0 then f_X7_readOnce_J163 m8 else mi_b (f_X7_passSign (59 : Int32) m8) fun v13 m14 => if v13 = 0 then f_X7_readOnce_J163 m14 else f_X7_readOnce_J164 (1 : Int32) m14 else mi_b (f_X7_fail (3 : Int32) mem) fun v41 m42 => mi_g (v41 = 0 ∨ v41 = 1) (some (v41, m42))
set_option maxRecDepth 100000 in
set_option maxHeartbeats 4000000 in
theorem w_X7_readOnce (p0 : Nat) (p1 : Int32) (hp0 : p0 < mi_n 8) (mem : mi_M) (a : Int32 × mi_M) (e : f_X7_readOnce p0 p1 mem = some a) : mi_Ci (48) mX7_readOnce [vr 7 0, vr 8 p0, vi p1] mem (fun x m' => x = a.1 ∧ m' = a.2) := by
  unfold mi_Ci
  refine mi_C_intro (ls := [(0, vr 7 0), (1, vr 8 p0), (2, vi p1)]) (by decide) rfl rfl ?_
  obtain ⟨Q0, hq0, h⟩ : ∃ Q0 : (Int32 × mi_M) → Prop, (∀ b, Q0 b → b = a) ∧ wo (f_X7_readOnce p0 p1 mem) Q0 := ⟨fun b => b = a, fun _ h => h, wo_eq e⟩
  obtain ⟨QX, hQX⟩ : ∃ QX : Option mi_V → mi_M → Prop, QX = (fun r m' => ∃ x, r = some (vi x) ∧ x = a.1 ∧ m' = a.2) := ⟨_, rfl⟩
  rw [← hQX]
  unfold f_X7_readOnce at h
  refine x_aload_n (pc := 0) dX7_readOnce_0 rfl ?_
  refine x_getI (pc := 1) dX7_readOnce_1 fX7_146 rfl hp0 ?_
  refine x_iload_n (pc := 4) dX7_readOnce_4 rfl ?_
  refine z_Ni2 (pc := 5) h dX7_readOnce_5 nX7_149 (by omega) rfl (fun a e => w_X11_holds _ _ _ a e) (fun v1 h => ?_)
  refine x_if_eq (pc := 8) dX7_readOnce_8 (tgt := 17) (by decide) (fun c44 => ?_) (fun c44 => ?_)
  · replace h := wo_pos c44 h
    refine x_aload_n (pc := 17) dX7_readOnce_17 rfl ?_
    refine x_dup (pc := 18) dX7_readOnce_18 rfl ?_
    refine x_getI (pc := 19) dX7_readOnce_19 fX7_146 rfl hp0 ?_
    refine x_iconst (pc := 22) dX7_readOnce_22 (v := (1 : Int32)) (by decide) ?_
    refine x_iload_n (pc := 23) dX7_readOnce_23 rfl ?_
    refine x_ishl (pc := 24) dX7_readOnce_24 ?_
    refine x_ior (pc := 25) dX7_readOnce_25 ?_
    refine x_putI (pc := 26) dX7_readOnce_26 fX7_146 rfl hp0 rfl rfl ?_
    refine x_letm h (fun m2 h => ?_)
    refine x_aload_n (pc := 29) dX7_readOnce_29 rfl ?_
    refine x_getC (pc := 30) dX7_readOnce_30 fX7_12 rfl (by decide) ?_
    refine y_Vv0 (pc := 33) h dX7_readOnce_33 lX7_75 (by decide) (by omega) rfl (fun a e => w_X6_advance _ a e) (fun m3 h => ?_)
    refine x_aload_n (pc := 36) dX7_readOnce_36 rfl ?_
    refine x_getC (pc := 37) dX7_readOnce_37 fX7_12 rfl (by decide) ?_
    refine x_getI (pc := 40) dX7_readOnce_40 fX7_98 rfl (by decide) ?_
    refine x_leti h (fun v4 h => ?_)
    refine x_istore_n (ls' := [(3, _), (0, _), (1, _), (2, _)]) (pc := 43) dX7_readOnce_43 rfl rfl rfl ?_
    refine x_iload_n (pc := 44) dX7_readOnce_44 rfl ?_
    refine x_if_ne (pc := 45) dX7_readOnce_45 (tgt := 78) (by decide) (fun c40 => ?_) (fun c40 => ?_)
    · replace h := wo_neg c40 h
      refine x_iload_n (pc := 78) dX7_readOnce_78 rfl ?_
      refine x_iconst (pc := 79) dX7_readOnce_79 (v := (1 : Int32)) (by decide) ?_
      refine x_icmp_ne (pc := 80) dX7_readOnce_80 (tgt := 113) (by decide) (fun c28 => ?_) (fun c28 => ?_)
      · replace h := wo_neg c28 h
        refine x_aload_n (pc := 113) dX7_readOnce_113 rfl ?_
        refine x_getS (pc := 114) dX7_readOnce_114 fX7_158 rfl hp0 ?_
        refine x_iload_n (pc := 117) dX7_readOnce_117 rfl ?_
        refine x_iconst (pc := 118) dX7_readOnce_118 (v := (2 : Int32)) (by decide) ?_
        refine x_isub (pc := 119) dX7_readOnce_119 ?_
        refine y_Vv1 (pc := 120) h dX7_readOnce_120 lX7_162 hp0 (by omega) rfl (fun a e => w_X1_begin _ _ hp0 _ a e) (fun m5 h => ?_)
        refine x_aload_n (pc := 123) dX7_readOnce_123 rfl ?_
        refine x_aload_n (pc := 124) dX7_readOnce_124 rfl ?_
        refine x_getS (pc := 125) dX7_readOnce_125 fX7_158 rfl hp0 ?_
        refine x_iconst (pc := 128) dX7_readOnce_128 (v := (0 : Int32)) (by decide) ?_
        refine x_iconst (pc := 129) dX7_readOnce_129 (v := (0 : Int32)) (by decide) ?_
        refine y_Vi3 (pc := 130) h dX7_readOnce_130 lX7_168 (by decide) (by omega) rfl (fun a e => w_X7_readTerm _ _ _ hp0 _ a e) (fun v6 m7 h => ?_)
        refine x_istore (ls' := [(4, _), (3, _), (0, _), (1, _), (2, _)]) (pc := 133) dX7_readOnce_133 rfl rfl ?_
        refine x_aload_n (pc := 135) dX7_readOnce_135 rfl ?_
        refine x_getS (pc := 136) dX7_readOnce_136 fX7_158 rfl hp0 ?_
        refine x_iload_n (pc := 139) dX7_readOnce_139 rfl ?_
        refine x_iconst (pc := 140) dX7_readOnce_140 (v := (2 : Int32)) (by decide) ?_
        refine x_isub (pc := 141) dX7_readOnce_141 ?_
        refine y_Vv1 (pc := 142) h dX7_readOnce_142 lX7_172 hp0 (by omega) rfl (fun a e => w_X1_end _ _ hp0 _ a e) (fun m8 h => ?_)
        refine x_iload (pc := 145) dX7_readOnce_145 rfl ?_
        have j164 : ∀ (u9 : Int32) (m10 : mi_M), wo (f_X7_readOnce_J164 u9 m10) Q0 → mi_X mX7_readOnce (48) 164 [] [vi u9] m10 QX := by
          intro u9 m10 h
          unfold f_X7_readOnce_J164 at h
          obtain ⟨hb11, h⟩ := wo_g h
          exact x_zretB (pc := 164) dX7_readOnce_164 rfl hb11 (by rw [hQX]; exact ⟨_, rfl, congrArg Prod.fst (hq0 _ (wo_some h)), congrArg Prod.snd (hq0 _ (wo_some h))⟩)
        have j163 : ∀ (m12 : mi_M), wo (f_X7_readOnce_J163 m12) Q0 → mi_X mX7_readOnce (48) 163 [] [] m12 QX := by
          intro m12 h
          unfold f_X7_readOnce_J163 at h
          refine x_iconst (pc := 163) dX7_readOnce_163 (v := (0 : Int32)) (by decide) ?_
          refine x_sub [] trivial ?_
          exact j164 _ _ h
        refine x_if_eq (pc := 147) dX7_readOnce_147 (tgt := 163) (by decide) (fun c16 => ?_) (fun c16 => ?_)
        · replace h := wo_pos c16 h
          refine x_sub [] trivial ?_
          exact j163 _ h
        · replace h := wo_neg c16 h
          refine x_aload_n (pc := 150) dX7_readOnce_150 rfl ?_
          refine x_bipush (pc := 151) dX7_readOnce_151 (v := (59 : Int32)) (by decide) ?_
          refine y_Vi1 (pc := 153) h dX7_readOnce_153 lX7_109 (by decide) (by omega) rfl (fun a e => w_X7_passSign _ _ a e) (fun v13 m14 h => ?_)
          refine x_if_eq (pc := 156) dX7_readOnce_156 (tgt := 163) (by decide) (fun c15 => ?_) (fun c15 => ?_)
          · replace h := wo_pos c15 h
            refine x_sub [] trivial ?_
            exact j163 _ h
          · replace h := wo_neg c15 h
            refine x_iconst (pc := 159) dX7_readOnce_159 (v := (1 : Int32)) (by decide) ?_
            refine x_goto (pc := 160) dX7_readOnce_160 (tgt := 164) (by decide) ?_
            refine x_sub [] trivial ?_
            exact j164 _ _ h
      · replace h := wo_pos c28 h
        refine x_aload_n (pc := 83) dX7_readOnce_83 rfl ?_
        refine x_iload_n (pc := 84) dX7_readOnce_84 rfl ?_
        refine x_putI (pc := 85) dX7_readOnce_85 fX7_155 rfl hp0 rfl rfl ?_
        refine x_letm h (fun m17 h => ?_)
        refine x_aload_n (pc := 88) dX7_readOnce_88 rfl ?_
        refine x_iconst (pc := 89) dX7_readOnce_89 (v := (0 : Int32)) (by decide) ?_
        refine x_bipush (pc := 90) dX7_readOnce_90 (v := (10 : Int32)) (by decide) ?_
        refine y_Vi2 (pc := 92) h dX7_readOnce_92 lX7_101 (by decide) (by omega) rfl (fun a e => w_X7_passNumber _ _ _ a e) (fun v18 m19 h => ?_)
        have j112 : ∀ (u20 : Int32) (m21 : mi_M), wo (f_X7_readOnce_J112 u20 m21) Q0 → mi_X mX7_readOnce (48) 112 [] [vi u20] m21 QX := by
          intro u20 m21 h
          unfold f_X7_readOnce_J112 at h
          obtain ⟨hb22, h⟩ := wo_g h
          exact x_zretB (pc := 112) dX7_readOnce_112 rfl hb22 (by rw [hQX]; exact ⟨_, rfl, congrArg Prod.fst (hq0 _ (wo_some h)), congrArg Prod.snd (hq0 _ (wo_some h))⟩)
        have j111 : ∀ (m23 : mi_M), wo (f_X7_readOnce_J111 m23) Q0 → mi_X mX7_readOnce (48) 111 [] [] m23 QX := by
          intro m23 h
          unfold f_X7_readOnce_J111 at h
          refine x_iconst (pc := 111) dX7_readOnce_111 (v := (0 : Int32)) (by decide) ?_
          refine x_sub [] trivial ?_
          exact j112 _ _ h
        refine x_if_eq (pc := 95) dX7_readOnce_95 (tgt := 111) (by decide) (fun c27 => ?_) (fun c27 => ?_)
        · replace h := wo_pos c27 h
          refine x_sub [] trivial ?_
          exact j111 _ h
        · replace h := wo_neg c27 h
          refine x_aload_n (pc := 98) dX7_readOnce_98 rfl ?_
          refine x_bipush (pc := 99) dX7_readOnce_99 (v := (59 : Int32)) (by decide) ?_
          refine y_Vi1 (pc := 101) h dX7_readOnce_101 lX7_109 (by decide) (by omega) rfl (fun a e => w_X7_passSign _ _ a e) (fun v24 m25 h => ?_)
          refine x_if_eq (pc := 104) dX7_readOnce_104 (tgt := 111) (by decide) (fun c26 => ?_) (fun c26 => ?_)
          · replace h := wo_pos c26 h
            refine x_sub [] trivial ?_
            exact j111 _ h
          · replace h := wo_neg c26 h
            refine x_iconst (pc := 107) dX7_readOnce_107 (v := (1 : Int32)) (by decide) ?_
            refine x_goto (pc := 108) dX7_readOnce_108 (tgt := 112) (by decide) ?_
            refine x_sub [] trivial ?_
            exact j112 _ _ h
    · replace h := wo_pos c40 h
      refine x_aload_n (pc := 48) dX7_readOnce_48 rfl ?_
      refine x_iload_n (pc := 49) dX7_readOnce_49 rfl ?_
      refine x_putI (pc := 50) dX7_readOnce_50 fX7_152 rfl hp0 rfl rfl ?_
      refine x_letm h (fun m29 h => ?_)
      refine x_aload_n (pc := 53) dX7_readOnce_53 rfl ?_
      refine x_iconst (pc := 54) dX7_readOnce_54 (v := (0 : Int32)) (by decide) ?_
      refine x_bipush (pc := 55) dX7_readOnce_55 (v := (30 : Int32)) (by decide) ?_
      refine y_Vi2 (pc := 57) h dX7_readOnce_57 lX7_101 (by decide) (by omega) rfl (fun a e => w_X7_passNumber _ _ _ a e) (fun v30 m31 h => ?_)
      have j77 : ∀ (u32 : Int32) (m33 : mi_M), wo (f_X7_readOnce_J77 u32 m33) Q0 → mi_X mX7_readOnce (48) 77 [] [vi u32] m33 QX := by
        intro u32 m33 h
        unfold f_X7_readOnce_J77 at h
        obtain ⟨hb34, h⟩ := wo_g h
        exact x_zretB (pc := 77) dX7_readOnce_77 rfl hb34 (by rw [hQX]; exact ⟨_, rfl, congrArg Prod.fst (hq0 _ (wo_some h)), congrArg Prod.snd (hq0 _ (wo_some h))⟩)
      have j76 : ∀ (m35 : mi_M), wo (f_X7_readOnce_J76 m35) Q0 → mi_X mX7_readOnce (48) 76 [] [] m35 QX := by
        intro m35 h
        unfold f_X7_readOnce_J76 at h
        refine x_iconst (pc := 76) dX7_readOnce_76 (v := (0 : Int32)) (by decide) ?_
        refine x_sub [] trivial ?_
        exact j77 _ _ h
      refine x_if_eq (pc := 60) dX7_readOnce_60 (tgt := 76) (by decide) (fun c39 => ?_) (fun c39 => ?_)
      · replace h := wo_pos c39 h
        refine x_sub [] trivial ?_
        exact j76 _ h
      · replace h := wo_neg c39 h
        refine x_aload_n (pc := 63) dX7_readOnce_63 rfl ?_
        refine x_bipush (pc := 64) dX7_readOnce_64 (v := (59 : Int32)) (by decide) ?_
        refine y_Vi1 (pc := 66) h dX7_readOnce_66 lX7_109 (by decide) (by omega) rfl (fun a e => w_X7_passSign _ _ a e) (fun v36 m37 h => ?_)
        refine x_if_eq (pc := 69) dX7_readOnce_69 (tgt := 76) (by decide) (fun c38 => ?_) (fun c38 => ?_)
        · replace h := wo_pos c38 h
          refine x_sub [] trivial ?_
          exact j76 _ h
        · replace h := wo_neg c38 h
          refine x_iconst (pc := 72) dX7_readOnce_72 (v := (1 : Int32)) (by decide) ?_
          refine x_goto (pc := 73) dX7_readOnce_73 (tgt := 77) (by decide) ?_
          refine x_sub [] trivial ?_
          exact j77 _ _ h
  · replace h := wo_neg c44 h
    refine x_aload_n (pc := 11) dX7_readOnce_11 rfl ?_
    refine x_iconst (pc := 12) dX7_readOnce_12 (v := (3 : Int32)) (by decide) ?_
    refine y_Vi1 (pc := 13) h dX7_readOnce_13 lX7_39 (by decide) (by omega) rfl (fun a e => w_X7_fail _ _ a e) (fun v41 m42 h => ?_)
    obtain ⟨hb43, h⟩ := wo_g h
    exact x_zretB (pc := 16) dX7_readOnce_16 rfl hb43 (by rw [hQX]; exact ⟨_, rfl, congrArg Prod.fst (hq0 _ (wo_some h)), congrArg Prod.snd (hq0 _ (wo_some h))⟩)
noncomputable def f_X7_pass (p0 : Nat) (mem : mi_M) : Option (Int32 × mi_M) := mi_bo (f_X6_among p0 mem) fun v1 => if v1 = (-1 : Int32) then mi_b (f_X7_fail (1 : Int32) mem) fun v4 m5 => mi_g (v4 = 0 ∨ v4 = 1) (some (v4, m5)) else mi_bo (f_X6_advance mem) fun m2 => mi_g ((1 : Int32) = 0 ∨ (1 : Int32) = 1) (some ((1 : Int32), m2))
set_option maxRecDepth 100000 in
set_option maxHeartbeats 4000000 in
theorem w_X7_pass (p0 : Nat) (hp0 : p0 < 12) (mem : mi_M) (a : Int32 × mi_M) (e : f_X7_pass p0 mem = some a) : mi_Ci (6) mX7_pass [vr 7 0, vr 300 p0] mem (fun x m' => x = a.1 ∧ m' = a.2) := by
  unfold mi_Ci
  refine mi_C_intro (ls := [(0, vr 7 0), (1, vr 300 p0)]) (by decide) rfl rfl ?_
  obtain ⟨Q0, hq0, h⟩ : ∃ Q0 : (Int32 × mi_M) → Prop, (∀ b, Q0 b → b = a) ∧ wo (f_X7_pass p0 mem) Q0 := ⟨fun b => b = a, fun _ h => h, wo_eq e⟩
  obtain ⟨QX, hQX⟩ : ∃ QX : Option mi_V → mi_M → Prop, QX = (fun r m' => ∃ x, r = some (vi x) ∧ x = a.1 ∧ m' = a.2) := ⟨_, rfl⟩
  rw [← hQX]
  unfold f_X7_pass at h
  refine x_aload_n (pc := 0) dX7_pass_0 rfl ?_
  refine x_getC (pc := 1) dX7_pass_1 fX7_12 rfl (by decide) ?_
  refine x_aload_n (pc := 4) dX7_pass_4 rfl ?_
  refine z_Vi1 (pc := 5) h dX7_pass_5 lX7_35 (by decide) (by omega) rfl (fun a e => w_X6_among _ hp0 _ a e) (fun v1 h => ?_)
  refine x_iconst (pc := 8) dX7_pass_8 (v := (-1 : Int32)) (by decide) ?_
  refine x_icmp_ne (pc := 9) dX7_pass_9 (tgt := 18) (by decide) (fun c7 => ?_) (fun c7 => ?_)
  · replace h := wo_neg c7 h
    refine x_aload_n (pc := 18) dX7_pass_18 rfl ?_
    refine x_getC (pc := 19) dX7_pass_19 fX7_12 rfl (by decide) ?_
    refine y_Vv0 (pc := 22) h dX7_pass_22 lX7_75 (by decide) (by omega) rfl (fun a e => w_X6_advance _ a e) (fun m2 h => ?_)
    refine x_iconst (pc := 25) dX7_pass_25 (v := (1 : Int32)) (by decide) ?_
    obtain ⟨hb3, h⟩ := wo_g h
    exact x_zretB (pc := 26) dX7_pass_26 rfl hb3 (by rw [hQX]; exact ⟨_, rfl, congrArg Prod.fst (hq0 _ (wo_some h)), congrArg Prod.snd (hq0 _ (wo_some h))⟩)
  · replace h := wo_pos c7 h
    refine x_aload_n (pc := 12) dX7_pass_12 rfl ?_
    refine x_iconst (pc := 13) dX7_pass_13 (v := (1 : Int32)) (by decide) ?_
    refine y_Vi1 (pc := 14) h dX7_pass_14 lX7_39 (by decide) (by omega) rfl (fun a e => w_X7_fail _ _ a e) (fun v4 m5 h => ?_)
    obtain ⟨hb6, h⟩ := wo_g h
    exact x_zretB (pc := 17) dX7_pass_17 rfl hb6 (by rw [hQX]; exact ⟨_, rfl, congrArg Prod.fst (hq0 _ (wo_some h)), congrArg Prod.snd (hq0 _ (wo_some h))⟩)
noncomputable def f_X8_addPerson_J50 (m1 : mi_M) : Option (mi_M) := some m1
noncomputable def f_X8_addPerson (i0 : Nat) (p0 : Int64) (p1 : Int32) (p2 : Int32) (mem : mi_M) : Option (mi_M) := if (6 : Int32) ≤ (mem.1 8 i0 0) then f_X8_addPerson_J50 mem else mi_g (vp_in (mem.1 8 i0 0) 6) (mi_let (mi_wL mem 38 i0 (mem.1 8 i0 0).toNatClampNeg p0) fun m3 => mi_g (vp_in (m3.1 8 i0 0) 6) (mi_let (mi_wI m3 39 i0 (m3.1 8 i0 0).toNatClampNeg p1) fun m5 => mi_g (vp_in (m5.1 8 i0 0) 6) (mi_let (mi_wI m5 40 i0 (m5.1 8 i0 0).toNatClampNeg p2) fun m7 => mi_let (mi_wI m7 8 i0 0 ((m7.1 8 i0 0) + (1 : Int32))) fun m8 => f_X8_addPerson_J50 m8)))
set_option maxRecDepth 100000 in
set_option maxHeartbeats 4000000 in
theorem w_X8_addPerson (i0 : Nat) (p0 : Int64) (p1 : Int32) (p2 : Int32) (hi0 : i0 < mi_n 8) (mem : mi_M) (a : mi_M) (e : f_X8_addPerson i0 p0 p1 p2 mem = some a) : mi_Cv (1) mX8_addPerson [vr 8 i0, vl p0, vi p1, vi p2] mem (fun m' => m' = a) := by
  unfold mi_Cv
  refine mi_C_intro (ls := [(0, vr 8 i0), (1, vl p0), (3, vi p1), (4, vi p2)]) (by decide) rfl rfl ?_
  obtain ⟨Q0, hq0, h⟩ : ∃ Q0 : mi_M → Prop, (∀ b, Q0 b → b = a) ∧ wo (f_X8_addPerson i0 p0 p1 p2 mem) Q0 := ⟨fun b => b = a, fun _ h => h, wo_eq e⟩
  obtain ⟨QX, hQX⟩ : ∃ QX : Option mi_V → mi_M → Prop, QX = (fun r m' => r = none ∧ m' = a) := ⟨_, rfl⟩
  rw [← hQX]
  unfold f_X8_addPerson at h
  refine x_aload_n (pc := 0) dX8_addPerson_0 rfl ?_
  refine x_getI (pc := 1) dX8_addPerson_1 fX8_45 rfl hi0 ?_
  refine x_bipush (pc := 4) dX8_addPerson_4 (v := (6 : Int32)) (by decide) ?_
  have j50 : ∀ (m1 : mi_M), wo (f_X8_addPerson_J50 m1) Q0 → mi_X mX8_addPerson (1) 50 [] [] m1 QX := by
    intro m1 h
    unfold f_X8_addPerson_J50 at h
    exact x_ret (pc := 50) dX8_addPerson_50 rfl (by rw [hQX]; exact ⟨rfl, hq0 _ (wo_some h)⟩)
  refine x_icmp_ge (pc := 6) dX8_addPerson_6 (tgt := 50) (by decide) (fun c9 => ?_) (fun c9 => ?_)
  · replace h := wo_pos c9 h
    refine x_sub [] trivial ?_
    exact j50 _ h
  · replace h := wo_neg c9 h
    refine x_aload_n (pc := 9) dX8_addPerson_9 rfl ?_
    refine x_getS (pc := 10) dX8_addPerson_10 fX8_9 rfl hi0 ?_
    refine x_aload_n (pc := 13) dX8_addPerson_13 rfl ?_
    refine x_getI (pc := 14) dX8_addPerson_14 fX8_45 rfl hi0 ?_
    refine x_lload_n (pc := 17) dX8_addPerson_17 rfl ?_
    obtain ⟨hx2, h⟩ := wo_g h
    refine x_lastJ (pc := 18) dX8_addPerson_18 rfl rfl hi0 rfl hx2 ?_
    refine x_letm h (fun m3 h => ?_)
    refine x_aload_n (pc := 19) dX8_addPerson_19 rfl ?_
    refine x_getS (pc := 20) dX8_addPerson_20 fX8_15 rfl hi0 ?_
    refine x_aload_n (pc := 23) dX8_addPerson_23 rfl ?_
    refine x_getI (pc := 24) dX8_addPerson_24 fX8_45 rfl hi0 ?_
    refine x_iload_n (pc := 27) dX8_addPerson_27 rfl ?_
    obtain ⟨hx4, h⟩ := wo_g h
    refine x_iastJ (pc := 28) dX8_addPerson_28 rfl rfl hi0 rfl hx4 ?_
    refine x_letm h (fun m5 h => ?_)
    refine x_aload_n (pc := 29) dX8_addPerson_29 rfl ?_
    refine x_getS (pc := 30) dX8_addPerson_30 fX8_19 rfl hi0 ?_
    refine x_aload_n (pc := 33) dX8_addPerson_33 rfl ?_
    refine x_getI (pc := 34) dX8_addPerson_34 fX8_45 rfl hi0 ?_
    refine x_iload (pc := 37) dX8_addPerson_37 rfl ?_
    obtain ⟨hx6, h⟩ := wo_g h
    refine x_iastJ (pc := 39) dX8_addPerson_39 rfl rfl hi0 rfl hx6 ?_
    refine x_letm h (fun m7 h => ?_)
    refine x_aload_n (pc := 40) dX8_addPerson_40 rfl ?_
    refine x_dup (pc := 41) dX8_addPerson_41 rfl ?_
    refine x_getI (pc := 42) dX8_addPerson_42 fX8_45 rfl hi0 ?_
    refine x_iconst (pc := 45) dX8_addPerson_45 (v := (1 : Int32)) (by decide) ?_
    refine x_iadd (pc := 46) dX8_addPerson_46 ?_
    refine x_putI (pc := 47) dX8_addPerson_47 fX8_45 rfl hi0 rfl rfl ?_
    refine x_letm h (fun m8 h => ?_)
    refine x_sub [] trivial ?_
    exact j50 _ h
noncomputable def f_X7_readPerson (p0 : Nat) (mem : mi_M) : Option (Int32 × mi_M) := if (mem.1 8 p0 0) < (6 : Int32) then mi_bo (f_X6_advance mem) fun m1 => mi_bo (f_X7_isName m1) fun v2 => if v2 = 0 then mi_b (f_X7_fail (1 : Int32) m1) fun v29 m30 => mi_g (v29 = 0 ∨ v29 = 1) (some (v29, m30)) else mi_bo (f_X8_personNamed p0 (m1.2.1 6 0 4) m1) fun v3 => if v3 = (-1 : Int32) then mi_let (m1.2.1 6 0 4) fun v4 => mi_bo (f_X6_advance m1) fun m5 => mi_bo (f_X6_among 3 m5) fun v6 => if v6 = (-1 : Int32) then mi_b (f_X7_fail (1 : Int32) m5) fun v21 m22 => mi_g (v21 = 0 ∨ v21 = 1) (some (v21, m22)) else mi_bo (f_X6_advance m5) fun m7 => mi_b (f_X7_pass 6 m7) fun v8 m9 => if v8 = 0 then mi_g ((0 : Int32) = 0 ∨ (0 : Int32) = 1) (some ((0 : Int32), m9)) else mi_let (m9.1 6 0 3) fun v10 => mi_b (f_X7_passNumber (0 : Int32) (999 : Int32) m9) fun v11 m12 => if v11 = 0 then mi_g ((0 : Int32) = 0 ∨ (0 : Int32) = 1) (some ((0 : Int32), m12)) else mi_bo (f_X8_addPerson p0 v4 v6 v10 m12) fun m13 => mi_b (f_X7_passSign (59 : Int32) m13) fun v14 m15 => mi_g (v14 = 0 ∨ v14 = 1) (some (v14, m15)) else mi_b (f_X7_fail (3 : Int32) m1) fun v25 m26 => mi_g (v25 = 0 ∨ v25 = 1) (some (v25, m26)) else mi_b (f_X7_fail (5 : Int32) mem) fun v33 m34 => mi_g (v33 = 0 ∨ v33 = 1) (some (v33, m34))
set_option maxRecDepth 100000 in
set_option maxHeartbeats 4000000 in
theorem w_X7_readPerson (p0 : Nat) (hp0 : p0 < mi_n 8) (mem : mi_M) (a : Int32 × mi_M) (e : f_X7_readPerson p0 mem = some a) : mi_Ci (7) mX7_readPerson [vr 7 0, vr 8 p0] mem (fun x m' => x = a.1 ∧ m' = a.2) := by
  unfold mi_Ci
  refine mi_C_intro (ls := [(0, vr 7 0), (1, vr 8 p0)]) (by decide) rfl rfl ?_
  obtain ⟨Q0, hq0, h⟩ : ∃ Q0 : (Int32 × mi_M) → Prop, (∀ b, Q0 b → b = a) ∧ wo (f_X7_readPerson p0 mem) Q0 := ⟨fun b => b = a, fun _ h => h, wo_eq e⟩
  obtain ⟨QX, hQX⟩ : ∃ QX : Option mi_V → mi_M → Prop, QX = (fun r m' => ∃ x, r = some (vi x) ∧ x = a.1 ∧ m' = a.2) := ⟨_, rfl⟩
  rw [← hQX]
  unfold f_X7_readPerson at h
  refine x_aload_n (pc := 0) dX7_readPerson_0 rfl ?_
  refine x_getI (pc := 1) dX7_readPerson_1 fX7_72 rfl hp0 ?_
  refine x_bipush (pc := 4) dX7_readPerson_4 (v := (6 : Int32)) (by decide) ?_
  refine x_icmp_lt (pc := 6) dX7_readPerson_6 (tgt := 15) (by decide) (fun c36 => ?_) (fun c36 => ?_)
  · replace h := wo_pos c36 h
    refine x_aload_n (pc := 15) dX7_readPerson_15 rfl ?_
    refine x_getC (pc := 16) dX7_readPerson_16 fX7_12 rfl (by decide) ?_
    refine y_Vv0 (pc := 19) h dX7_readPerson_19 lX7_75 (by decide) (by omega) rfl (fun a e => w_X6_advance _ a e) (fun m1 h => ?_)
    refine x_aload_n (pc := 22) dX7_readPerson_22 rfl ?_
    refine z_Vi0 (pc := 23) h dX7_readPerson_23 lX7_78 (by decide) (by omega) rfl (fun a e => w_X7_isName _ a e) (fun v2 h => ?_)
    refine x_if_ne (pc := 26) dX7_readPerson_26 (tgt := 35) (by decide) (fun c32 => ?_) (fun c32 => ?_)
    · replace h := wo_neg c32 h
      refine x_aload_n (pc := 35) dX7_readPerson_35 rfl ?_
      refine x_aload_n (pc := 36) dX7_readPerson_36 rfl ?_
      refine x_getC (pc := 37) dX7_readPerson_37 fX7_12 rfl (by decide) ?_
      refine x_getL (pc := 40) dX7_readPerson_40 fX7_82 rfl (by decide) ?_
      refine z_Vi1 (pc := 43) h dX7_readPerson_43 lX7_86 hp0 (by omega) rfl (fun a e => w_X8_personNamed _ _ hp0 _ a e) (fun v3 h => ?_)
      refine x_iconst (pc := 46) dX7_readPerson_46 (v := (-1 : Int32)) (by decide) ?_
      refine x_icmp_eq (pc := 47) dX7_readPerson_47 (tgt := 56) (by decide) (fun c28 => ?_) (fun c28 => ?_)
      · replace h := wo_pos c28 h
        refine x_aload_n (pc := 56) dX7_readPerson_56 rfl ?_
        refine x_getC (pc := 57) dX7_readPerson_57 fX7_12 rfl (by decide) ?_
        refine x_getL (pc := 60) dX7_readPerson_60 fX7_82 rfl (by decide) ?_
        refine x_letl h (fun v4 h => ?_)
        refine x_lstore_n (ls' := [(2, _), (0, _), (1, _)]) (pc := 63) dX7_readPerson_63 rfl rfl rfl ?_
        refine x_aload_n (pc := 64) dX7_readPerson_64 rfl ?_
        refine x_getC (pc := 65) dX7_readPerson_65 fX7_12 rfl (by decide) ?_
        refine y_Vv0 (pc := 68) h dX7_readPerson_68 lX7_75 (by decide) (by omega) rfl (fun a e => w_X6_advance _ a e) (fun m5 h => ?_)
        refine x_aload_n (pc := 71) dX7_readPerson_71 rfl ?_
        refine x_getC (pc := 72) dX7_readPerson_72 fX7_12 rfl (by decide) ?_
        refine x_ldcS (pc := 75) dX7_readPerson_75 (n := 3) (tx := "plain sulky saint priest") (by decide) ?_
        refine z_Vi1 (pc := 77) h dX7_readPerson_77 lX7_35 (by decide) (by omega) rfl (fun a e => w_X6_among _ (by decide) _ a e) (fun v6 h => ?_)
        refine x_istore (ls' := [(4, _), (2, _), (0, _), (1, _)]) (pc := 80) dX7_readPerson_80 rfl rfl ?_
        refine x_iload (pc := 82) dX7_readPerson_82 rfl ?_
        refine x_iconst (pc := 84) dX7_readPerson_84 (v := (-1 : Int32)) (by decide) ?_
        refine x_icmp_ne (pc := 85) dX7_readPerson_85 (tgt := 94) (by decide) (fun c24 => ?_) (fun c24 => ?_)
        · replace h := wo_neg c24 h
          refine x_aload_n (pc := 94) dX7_readPerson_94 rfl ?_
          refine x_getC (pc := 95) dX7_readPerson_95 fX7_12 rfl (by decide) ?_
          refine y_Vv0 (pc := 98) h dX7_readPerson_98 lX7_75 (by decide) (by omega) rfl (fun a e => w_X6_advance _ a e) (fun m7 h => ?_)
          refine x_aload_n (pc := 101) dX7_readPerson_101 rfl ?_
          refine x_ldcS (pc := 102) dX7_readPerson_102 (n := 6) (tx := "coins") (by decide) ?_
          refine y_Vi1 (pc := 104) h dX7_readPerson_104 lX7_94 (by decide) (by omega) rfl (fun a e => w_X7_pass _ (by decide) _ a e) (fun v8 m9 h => ?_)
          refine x_if_ne (pc := 107) dX7_readPerson_107 (tgt := 112) (by decide) (fun c20 => ?_) (fun c20 => ?_)
          · replace h := wo_neg c20 h
            refine x_aload_n (pc := 112) dX7_readPerson_112 rfl ?_
            refine x_getC (pc := 113) dX7_readPerson_113 fX7_12 rfl (by decide) ?_
            refine x_getI (pc := 116) dX7_readPerson_116 fX7_98 rfl (by decide) ?_
            refine x_leti h (fun v10 h => ?_)
            refine x_istore (ls' := [(5, _), (4, _), (2, _), (0, _), (1, _)]) (pc := 119) dX7_readPerson_119 rfl rfl ?_
            refine x_aload_n (pc := 121) dX7_readPerson_121 rfl ?_
            refine x_iconst (pc := 122) dX7_readPerson_122 (v := (0 : Int32)) (by decide) ?_
            refine x_sipush (pc := 123) dX7_readPerson_123 (v := (999 : Int32)) (by decide) ?_
            refine y_Vi2 (pc := 126) h dX7_readPerson_126 lX7_101 (by decide) (by omega) rfl (fun a e => w_X7_passNumber _ _ _ a e) (fun v11 m12 h => ?_)
            refine x_if_ne (pc := 129) dX7_readPerson_129 (tgt := 134) (by decide) (fun c18 => ?_) (fun c18 => ?_)
            · replace h := wo_neg c18 h
              refine x_aload_n (pc := 134) dX7_readPerson_134 rfl ?_
              refine x_lload_n (pc := 135) dX7_readPerson_135 rfl ?_
              refine x_iload (pc := 136) dX7_readPerson_136 rfl ?_
              refine x_iload (pc := 138) dX7_readPerson_138 rfl ?_
              refine y_Vv3 (pc := 140) h dX7_readPerson_140 lX7_105 hp0 (by omega) rfl (fun a e => w_X8_addPerson _ _ _ _ hp0 _ a e) (fun m13 h => ?_)
              refine x_aload_n (pc := 143) dX7_readPerson_143 rfl ?_
              refine x_bipush (pc := 144) dX7_readPerson_144 (v := (59 : Int32)) (by decide) ?_
              refine y_Vi1 (pc := 146) h dX7_readPerson_146 lX7_109 (by decide) (by omega) rfl (fun a e => w_X7_passSign _ _ a e) (fun v14 m15 h => ?_)
              obtain ⟨hb16, h⟩ := wo_g h
              exact x_zretB (pc := 149) dX7_readPerson_149 rfl hb16 (by rw [hQX]; exact ⟨_, rfl, congrArg Prod.fst (hq0 _ (wo_some h)), congrArg Prod.snd (hq0 _ (wo_some h))⟩)
            · replace h := wo_pos c18 h
              refine x_iconst (pc := 132) dX7_readPerson_132 (v := (0 : Int32)) (by decide) ?_
              obtain ⟨hb17, h⟩ := wo_g h
              exact x_zretB (pc := 133) dX7_readPerson_133 rfl hb17 (by rw [hQX]; exact ⟨_, rfl, congrArg Prod.fst (hq0 _ (wo_some h)), congrArg Prod.snd (hq0 _ (wo_some h))⟩)
          · replace h := wo_pos c20 h
            refine x_iconst (pc := 110) dX7_readPerson_110 (v := (0 : Int32)) (by decide) ?_
            obtain ⟨hb19, h⟩ := wo_g h
            exact x_zretB (pc := 111) dX7_readPerson_111 rfl hb19 (by rw [hQX]; exact ⟨_, rfl, congrArg Prod.fst (hq0 _ (wo_some h)), congrArg Prod.snd (hq0 _ (wo_some h))⟩)
        · replace h := wo_pos c24 h
          refine x_aload_n (pc := 88) dX7_readPerson_88 rfl ?_
          refine x_iconst (pc := 89) dX7_readPerson_89 (v := (1 : Int32)) (by decide) ?_
          refine y_Vi1 (pc := 90) h dX7_readPerson_90 lX7_39 (by decide) (by omega) rfl (fun a e => w_X7_fail _ _ a e) (fun v21 m22 h => ?_)
          obtain ⟨hb23, h⟩ := wo_g h
          exact x_zretB (pc := 93) dX7_readPerson_93 rfl hb23 (by rw [hQX]; exact ⟨_, rfl, congrArg Prod.fst (hq0 _ (wo_some h)), congrArg Prod.snd (hq0 _ (wo_some h))⟩)
      · replace h := wo_neg c28 h
        refine x_aload_n (pc := 50) dX7_readPerson_50 rfl ?_
        refine x_iconst (pc := 51) dX7_readPerson_51 (v := (3 : Int32)) (by decide) ?_
        refine y_Vi1 (pc := 52) h dX7_readPerson_52 lX7_39 (by decide) (by omega) rfl (fun a e => w_X7_fail _ _ a e) (fun v25 m26 h => ?_)
        obtain ⟨hb27, h⟩ := wo_g h
        exact x_zretB (pc := 55) dX7_readPerson_55 rfl hb27 (by rw [hQX]; exact ⟨_, rfl, congrArg Prod.fst (hq0 _ (wo_some h)), congrArg Prod.snd (hq0 _ (wo_some h))⟩)
    · replace h := wo_pos c32 h
      refine x_aload_n (pc := 29) dX7_readPerson_29 rfl ?_
      refine x_iconst (pc := 30) dX7_readPerson_30 (v := (1 : Int32)) (by decide) ?_
      refine y_Vi1 (pc := 31) h dX7_readPerson_31 lX7_39 (by decide) (by omega) rfl (fun a e => w_X7_fail _ _ a e) (fun v29 m30 h => ?_)
      obtain ⟨hb31, h⟩ := wo_g h
      exact x_zretB (pc := 34) dX7_readPerson_34 rfl hb31 (by rw [hQX]; exact ⟨_, rfl, congrArg Prod.fst (hq0 _ (wo_some h)), congrArg Prod.snd (hq0 _ (wo_some h))⟩)
  · replace h := wo_neg c36 h
    refine x_aload_n (pc := 9) dX7_readPerson_9 rfl ?_
    refine x_iconst (pc := 10) dX7_readPerson_10 (v := (5 : Int32)) (by decide) ?_
    refine y_Vi1 (pc := 11) h dX7_readPerson_11 lX7_39 (by decide) (by omega) rfl (fun a e => w_X7_fail _ _ a e) (fun v33 m34 h => ?_)
    obtain ⟨hb35, h⟩ := wo_g h
    exact x_zretB (pc := 14) dX7_readPerson_14 rfl hb35 (by rw [hQX]; exact ⟨_, rfl, congrArg Prod.fst (hq0 _ (wo_some h)), congrArg Prod.snd (hq0 _ (wo_some h))⟩)
noncomputable def f_X9_addWalk_J38 (m1 : mi_M) : Option (mi_M) := some m1
noncomputable def f_X9_addWalk (i0 : Nat) (p0 : Int32) (p1 : Int32) (mem : mi_M) : Option (mi_M) := if (4 : Int32) ≤ (mem.1 9 i0 1) then f_X9_addWalk_J38 mem else mi_g (vp_in (mem.1 9 i0 1) 4) (mi_let (mi_wI mem 45 i0 (mem.1 9 i0 1).toNatClampNeg p0) fun m3 => mi_g (vp_in (m3.1 9 i0 1) 4) (mi_let (mi_wI m3 46 i0 (m3.1 9 i0 1).toNatClampNeg p1) fun m5 => mi_let (mi_wI m5 9 i0 1 ((m5.1 9 i0 1) + (1 : Int32))) fun m6 => f_X9_addWalk_J38 m6))
set_option maxRecDepth 100000 in
set_option maxHeartbeats 4000000 in
theorem w_X9_addWalk (i0 : Nat) (p0 : Int32) (p1 : Int32) (hi0 : i0 < mi_n 9) (mem : mi_M) (a : mi_M) (e : f_X9_addWalk i0 p0 p1 mem = some a) : mi_Cv (1) mX9_addWalk [vr 9 i0, vi p0, vi p1] mem (fun m' => m' = a) := by
  unfold mi_Cv
  refine mi_C_intro (ls := [(0, vr 9 i0), (1, vi p0), (2, vi p1)]) (by decide) rfl rfl ?_
  obtain ⟨Q0, hq0, h⟩ : ∃ Q0 : mi_M → Prop, (∀ b, Q0 b → b = a) ∧ wo (f_X9_addWalk i0 p0 p1 mem) Q0 := ⟨fun b => b = a, fun _ h => h, wo_eq e⟩
  obtain ⟨QX, hQX⟩ : ∃ QX : Option mi_V → mi_M → Prop, QX = (fun r m' => r = none ∧ m' = a) := ⟨_, rfl⟩
  rw [← hQX]
  unfold f_X9_addWalk at h
  refine x_aload_n (pc := 0) dX9_addWalk_0 rfl ?_
  refine x_getI (pc := 1) dX9_addWalk_1 fX9_30 rfl hi0 ?_
  refine x_iconst (pc := 4) dX9_addWalk_4 (v := (4 : Int32)) (by decide) ?_
  have j38 : ∀ (m1 : mi_M), wo (f_X9_addWalk_J38 m1) Q0 → mi_X mX9_addWalk (1) 38 [] [] m1 QX := by
    intro m1 h
    unfold f_X9_addWalk_J38 at h
    exact x_ret (pc := 38) dX9_addWalk_38 rfl (by rw [hQX]; exact ⟨rfl, hq0 _ (wo_some h)⟩)
  refine x_icmp_ge (pc := 5) dX9_addWalk_5 (tgt := 38) (by decide) (fun c7 => ?_) (fun c7 => ?_)
  · replace h := wo_pos c7 h
    refine x_sub [] trivial ?_
    exact j38 _ h
  · replace h := wo_neg c7 h
    refine x_aload_n (pc := 8) dX9_addWalk_8 rfl ?_
    refine x_getS (pc := 9) dX9_addWalk_9 fX9_16 rfl hi0 ?_
    refine x_aload_n (pc := 12) dX9_addWalk_12 rfl ?_
    refine x_getI (pc := 13) dX9_addWalk_13 fX9_30 rfl hi0 ?_
    refine x_iload_n (pc := 16) dX9_addWalk_16 rfl ?_
    obtain ⟨hx2, h⟩ := wo_g h
    refine x_iastJ (pc := 17) dX9_addWalk_17 rfl rfl hi0 rfl hx2 ?_
    refine x_letm h (fun m3 h => ?_)
    refine x_aload_n (pc := 18) dX9_addWalk_18 rfl ?_
    refine x_getS (pc := 19) dX9_addWalk_19 fX9_20 rfl hi0 ?_
    refine x_aload_n (pc := 22) dX9_addWalk_22 rfl ?_
    refine x_getI (pc := 23) dX9_addWalk_23 fX9_30 rfl hi0 ?_
    refine x_iload_n (pc := 26) dX9_addWalk_26 rfl ?_
    obtain ⟨hx4, h⟩ := wo_g h
    refine x_iastJ (pc := 27) dX9_addWalk_27 rfl rfl hi0 rfl hx4 ?_
    refine x_letm h (fun m5 h => ?_)
    refine x_aload_n (pc := 28) dX9_addWalk_28 rfl ?_
    refine x_dup (pc := 29) dX9_addWalk_29 rfl ?_
    refine x_getI (pc := 30) dX9_addWalk_30 fX9_30 rfl hi0 ?_
    refine x_iconst (pc := 33) dX9_addWalk_33 (v := (1 : Int32)) (by decide) ?_
    refine x_iadd (pc := 34) dX9_addWalk_34 ?_
    refine x_putI (pc := 35) dX9_addWalk_35 fX9_30 rfl hi0 rfl rfl ?_
    refine x_letm h (fun m6 h => ?_)
    refine x_sub [] trivial ?_
    exact j38 _ h
noncomputable def f_X7_readWalk_J54 (m5 : mi_M) : Option (Int32 × mi_M) := mi_g ((0 : Int32) = 0 ∨ (0 : Int32) = 1) (some ((0 : Int32), m5))
noncomputable def f_X7_readWalk (p0 : Nat) (mem : mi_M) : Option (Int32 × mi_M) := if (mem.1 9 p0 1) < (4 : Int32) then mi_bo (f_X6_advance mem) fun m1 => mi_bo (f_X8_personNamed p0 (m1.2.1 6 0 4) m1) fun v2 => mi_b (f_X7_passDoor p0 (-1 : Int32) m1) fun v3 m4 => if v3 = 0 then f_X7_readWalk_J54 m4 else mi_b (f_X7_pass 7 m4) fun v7 m8 => if v7 = 0 then f_X7_readWalk_J54 m8 else mi_bo (f_X8_personNamed p0 (m8.2.1 6 0 4) m8) fun v9 => mi_b (f_X7_passDoor p0 v2 m8) fun v10 m11 => if v10 = 0 then mi_g ((0 : Int32) = 0 ∨ (0 : Int32) = 1) (some ((0 : Int32), m11)) else mi_bo (f_X9_addWalk p0 v2 v9 m11) fun m12 => mi_b (f_X7_passSign (59 : Int32) m12) fun v13 m14 => mi_g (v13 = 0 ∨ v13 = 1) (some (v13, m14)) else mi_b (f_X7_fail (5 : Int32) mem) fun v20 m21 => mi_g (v20 = 0 ∨ v20 = 1) (some (v20, m21))
set_option maxRecDepth 100000 in
set_option maxHeartbeats 4000000 in
theorem w_X7_readWalk (p0 : Nat) (hp0 : p0 < mi_n 8) (mem : mi_M) (a : Int32 × mi_M) (e : f_X7_readWalk p0 mem = some a) : mi_Ci (8) mX7_readWalk [vr 7 0, vr 8 p0] mem (fun x m' => x = a.1 ∧ m' = a.2) := by
  unfold mi_Ci
  refine mi_C_intro (ls := [(0, vr 7 0), (1, vr 8 p0)]) (by decide) rfl rfl ?_
  obtain ⟨Q0, hq0, h⟩ : ∃ Q0 : (Int32 × mi_M) → Prop, (∀ b, Q0 b → b = a) ∧ wo (f_X7_readWalk p0 mem) Q0 := ⟨fun b => b = a, fun _ h => h, wo_eq e⟩
  obtain ⟨QX, hQX⟩ : ∃ QX : Option mi_V → mi_M → Prop, QX = (fun r m' => ∃ x, r = some (vi x) ∧ x = a.1 ∧ m' = a.2) := ⟨_, rfl⟩
  rw [← hQX]
  unfold f_X7_readWalk at h
  refine x_aload_n (pc := 0) dX7_readWalk_0 rfl ?_
  refine x_getS (pc := 1) dX7_readWalk_1 fX7_116 rfl hp0 ?_
  refine x_getI (pc := 4) dX7_readWalk_4 fX7_139 rfl hp0 ?_
  refine x_iconst (pc := 7) dX7_readWalk_7 (v := (4 : Int32)) (by decide) ?_
  refine x_icmp_lt (pc := 8) dX7_readWalk_8 (tgt := 17) (by decide) (fun c23 => ?_) (fun c23 => ?_)
  · replace h := wo_pos c23 h
    refine x_aload_n (pc := 17) dX7_readWalk_17 rfl ?_
    refine x_getC (pc := 18) dX7_readWalk_18 fX7_12 rfl (by decide) ?_
    refine y_Vv0 (pc := 21) h dX7_readWalk_21 lX7_75 (by decide) (by omega) rfl (fun a e => w_X6_advance _ a e) (fun m1 h => ?_)
    refine x_aload_n (pc := 24) dX7_readWalk_24 rfl ?_
    refine x_aload_n (pc := 25) dX7_readWalk_25 rfl ?_
    refine x_getC (pc := 26) dX7_readWalk_26 fX7_12 rfl (by decide) ?_
    refine x_getL (pc := 29) dX7_readWalk_29 fX7_82 rfl (by decide) ?_
    refine z_Vi1 (pc := 32) h dX7_readWalk_32 lX7_86 hp0 (by omega) rfl (fun a e => w_X8_personNamed _ _ hp0 _ a e) (fun v2 h => ?_)
    refine x_istore_n (ls' := [(2, _), (0, _), (1, _)]) (pc := 35) dX7_readWalk_35 rfl rfl rfl ?_
    refine x_aload_n (pc := 36) dX7_readWalk_36 rfl ?_
    refine x_aload_n (pc := 37) dX7_readWalk_37 rfl ?_
    refine x_iconst (pc := 38) dX7_readWalk_38 (v := (-1 : Int32)) (by decide) ?_
    refine y_Vi2 (pc := 39) h dX7_readWalk_39 lX7_113 (by decide) (by omega) rfl (fun a e => w_X7_passDoor _ _ hp0 _ a e) (fun v3 m4 h => ?_)
    have j54 : ∀ (m5 : mi_M), wo (f_X7_readWalk_J54 m5) Q0 → mi_X mX7_readWalk (8) 54 [] [] m5 QX := by
      intro m5 h
      unfold f_X7_readWalk_J54 at h
      refine x_iconst (pc := 54) dX7_readWalk_54 (v := (0 : Int32)) (by decide) ?_
      obtain ⟨hb6, h⟩ := wo_g h
      exact x_zretB (pc := 55) dX7_readWalk_55 rfl hb6 (by rw [hQX]; exact ⟨_, rfl, congrArg Prod.fst (hq0 _ (wo_some h)), congrArg Prod.snd (hq0 _ (wo_some h))⟩)
    refine x_if_eq (pc := 42) dX7_readWalk_42 (tgt := 54) (by decide) (fun c19 => ?_) (fun c19 => ?_)
    · replace h := wo_pos c19 h
      refine x_sub [] trivial ?_
      exact j54 _ h
    · replace h := wo_neg c19 h
      refine x_aload_n (pc := 45) dX7_readWalk_45 rfl ?_
      refine x_ldcS (pc := 46) dX7_readWalk_46 (n := 7) (tx := "to") (by decide) ?_
      refine y_Vi1 (pc := 48) h dX7_readWalk_48 lX7_94 (by decide) (by omega) rfl (fun a e => w_X7_pass _ (by decide) _ a e) (fun v7 m8 h => ?_)
      refine x_if_ne (pc := 51) dX7_readWalk_51 (tgt := 56) (by decide) (fun c18 => ?_) (fun c18 => ?_)
      · replace h := wo_neg c18 h
        refine x_aload_n (pc := 56) dX7_readWalk_56 rfl ?_
        refine x_aload_n (pc := 57) dX7_readWalk_57 rfl ?_
        refine x_getC (pc := 58) dX7_readWalk_58 fX7_12 rfl (by decide) ?_
        refine x_getL (pc := 61) dX7_readWalk_61 fX7_82 rfl (by decide) ?_
        refine z_Vi1 (pc := 64) h dX7_readWalk_64 lX7_86 hp0 (by omega) rfl (fun a e => w_X8_personNamed _ _ hp0 _ a e) (fun v9 h => ?_)
        refine x_istore_n (ls' := [(3, _), (2, _), (0, _), (1, _)]) (pc := 67) dX7_readWalk_67 rfl rfl rfl ?_
        refine x_aload_n (pc := 68) dX7_readWalk_68 rfl ?_
        refine x_aload_n (pc := 69) dX7_readWalk_69 rfl ?_
        refine x_iload_n (pc := 70) dX7_readWalk_70 rfl ?_
        refine y_Vi2 (pc := 71) h dX7_readWalk_71 lX7_113 (by decide) (by omega) rfl (fun a e => w_X7_passDoor _ _ hp0 _ a e) (fun v10 m11 h => ?_)
        refine x_if_ne (pc := 74) dX7_readWalk_74 (tgt := 79) (by decide) (fun c17 => ?_) (fun c17 => ?_)
        · replace h := wo_neg c17 h
          refine x_aload_n (pc := 79) dX7_readWalk_79 rfl ?_
          refine x_getS (pc := 80) dX7_readWalk_80 fX7_116 rfl hp0 ?_
          refine x_iload_n (pc := 83) dX7_readWalk_83 rfl ?_
          refine x_iload_n (pc := 84) dX7_readWalk_84 rfl ?_
          refine y_Vv2 (pc := 85) h dX7_readWalk_85 lX7_142 hp0 (by omega) rfl (fun a e => w_X9_addWalk _ _ _ hp0 _ a e) (fun m12 h => ?_)
          refine x_aload_n (pc := 88) dX7_readWalk_88 rfl ?_
          refine x_bipush (pc := 89) dX7_readWalk_89 (v := (59 : Int32)) (by decide) ?_
          refine y_Vi1 (pc := 91) h dX7_readWalk_91 lX7_109 (by decide) (by omega) rfl (fun a e => w_X7_passSign _ _ a e) (fun v13 m14 h => ?_)
          obtain ⟨hb15, h⟩ := wo_g h
          exact x_zretB (pc := 94) dX7_readWalk_94 rfl hb15 (by rw [hQX]; exact ⟨_, rfl, congrArg Prod.fst (hq0 _ (wo_some h)), congrArg Prod.snd (hq0 _ (wo_some h))⟩)
        · replace h := wo_pos c17 h
          refine x_iconst (pc := 77) dX7_readWalk_77 (v := (0 : Int32)) (by decide) ?_
          obtain ⟨hb16, h⟩ := wo_g h
          exact x_zretB (pc := 78) dX7_readWalk_78 rfl hb16 (by rw [hQX]; exact ⟨_, rfl, congrArg Prod.fst (hq0 _ (wo_some h)), congrArg Prod.snd (hq0 _ (wo_some h))⟩)
      · replace h := wo_pos c18 h
        refine x_sub [] trivial ?_
        exact j54 _ h
  · replace h := wo_neg c23 h
    refine x_aload_n (pc := 11) dX7_readWalk_11 rfl ?_
    refine x_iconst (pc := 12) dX7_readWalk_12 (v := (5 : Int32)) (by decide) ?_
    refine y_Vi1 (pc := 13) h dX7_readWalk_13 lX7_39 (by decide) (by omega) rfl (fun a e => w_X7_fail _ _ a e) (fun v20 m21 h => ?_)
    obtain ⟨hb22, h⟩ := wo_g h
    exact x_zretB (pc := 16) dX7_readWalk_16 rfl hb22 (by rw [hQX]; exact ⟨_, rfl, congrArg Prod.fst (hq0 _ (wo_some h)), congrArg Prod.snd (hq0 _ (wo_some h))⟩)
noncomputable def f_X8_addWrong_J49 (m1 : mi_M) : Option (mi_M) := some m1
noncomputable def f_X8_addWrong (i0 : Nat) (p0 : Int32) (p1 : Int32) (p2 : Int32) (mem : mi_M) : Option (mi_M) := if (8 : Int32) ≤ (mem.1 8 i0 1) then f_X8_addWrong_J49 mem else mi_g (vp_in (mem.1 8 i0 1) 8) (mi_let (mi_wI mem 41 i0 (mem.1 8 i0 1).toNatClampNeg p0) fun m3 => mi_g (vp_in (m3.1 8 i0 1) 8) (mi_let (mi_wI m3 42 i0 (m3.1 8 i0 1).toNatClampNeg p1) fun m5 => mi_g (vp_in (m5.1 8 i0 1) 8) (mi_let (mi_wI m5 43 i0 (m5.1 8 i0 1).toNatClampNeg p2) fun m7 => mi_let (mi_wI m7 8 i0 1 ((m7.1 8 i0 1) + (1 : Int32))) fun m8 => f_X8_addWrong_J49 m8)))
set_option maxRecDepth 100000 in
set_option maxHeartbeats 4000000 in
theorem w_X8_addWrong (i0 : Nat) (p0 : Int32) (p1 : Int32) (p2 : Int32) (hi0 : i0 < mi_n 8) (mem : mi_M) (a : mi_M) (e : f_X8_addWrong i0 p0 p1 p2 mem = some a) : mi_Cv (1) mX8_addWrong [vr 8 i0, vi p0, vi p1, vi p2] mem (fun m' => m' = a) := by
  unfold mi_Cv
  refine mi_C_intro (ls := [(0, vr 8 i0), (1, vi p0), (2, vi p1), (3, vi p2)]) (by decide) rfl rfl ?_
  obtain ⟨Q0, hq0, h⟩ : ∃ Q0 : mi_M → Prop, (∀ b, Q0 b → b = a) ∧ wo (f_X8_addWrong i0 p0 p1 p2 mem) Q0 := ⟨fun b => b = a, fun _ h => h, wo_eq e⟩
  obtain ⟨QX, hQX⟩ : ∃ QX : Option mi_V → mi_M → Prop, QX = (fun r m' => r = none ∧ m' = a) := ⟨_, rfl⟩
  rw [← hQX]
  unfold f_X8_addWrong at h
  refine x_aload_n (pc := 0) dX8_addWrong_0 rfl ?_
  refine x_getI (pc := 1) dX8_addWrong_1 fX8_49 rfl hi0 ?_
  refine x_bipush (pc := 4) dX8_addWrong_4 (v := (8 : Int32)) (by decide) ?_
  have j49 : ∀ (m1 : mi_M), wo (f_X8_addWrong_J49 m1) Q0 → mi_X mX8_addWrong (1) 49 [] [] m1 QX := by
    intro m1 h
    unfold f_X8_addWrong_J49 at h
    exact x_ret (pc := 49) dX8_addWrong_49 rfl (by rw [hQX]; exact ⟨rfl, hq0 _ (wo_some h)⟩)
  refine x_icmp_ge (pc := 6) dX8_addWrong_6 (tgt := 49) (by decide) (fun c9 => ?_) (fun c9 => ?_)
  · replace h := wo_pos c9 h
    refine x_sub [] trivial ?_
    exact j49 _ h
  · replace h := wo_neg c9 h
    refine x_aload_n (pc := 9) dX8_addWrong_9 rfl ?_
    refine x_getS (pc := 10) dX8_addWrong_10 fX8_22 rfl hi0 ?_
    refine x_aload_n (pc := 13) dX8_addWrong_13 rfl ?_
    refine x_getI (pc := 14) dX8_addWrong_14 fX8_49 rfl hi0 ?_
    refine x_iload_n (pc := 17) dX8_addWrong_17 rfl ?_
    obtain ⟨hx2, h⟩ := wo_g h
    refine x_iastJ (pc := 18) dX8_addWrong_18 rfl rfl hi0 rfl hx2 ?_
    refine x_letm h (fun m3 h => ?_)
    refine x_aload_n (pc := 19) dX8_addWrong_19 rfl ?_
    refine x_getS (pc := 20) dX8_addWrong_20 fX8_25 rfl hi0 ?_
    refine x_aload_n (pc := 23) dX8_addWrong_23 rfl ?_
    refine x_getI (pc := 24) dX8_addWrong_24 fX8_49 rfl hi0 ?_
    refine x_iload_n (pc := 27) dX8_addWrong_27 rfl ?_
    obtain ⟨hx4, h⟩ := wo_g h
    refine x_iastJ (pc := 28) dX8_addWrong_28 rfl rfl hi0 rfl hx4 ?_
    refine x_letm h (fun m5 h => ?_)
    refine x_aload_n (pc := 29) dX8_addWrong_29 rfl ?_
    refine x_getS (pc := 30) dX8_addWrong_30 fX8_28 rfl hi0 ?_
    refine x_aload_n (pc := 33) dX8_addWrong_33 rfl ?_
    refine x_getI (pc := 34) dX8_addWrong_34 fX8_49 rfl hi0 ?_
    refine x_iload_n (pc := 37) dX8_addWrong_37 rfl ?_
    obtain ⟨hx6, h⟩ := wo_g h
    refine x_iastJ (pc := 38) dX8_addWrong_38 rfl rfl hi0 rfl hx6 ?_
    refine x_letm h (fun m7 h => ?_)
    refine x_aload_n (pc := 39) dX8_addWrong_39 rfl ?_
    refine x_dup (pc := 40) dX8_addWrong_40 rfl ?_
    refine x_getI (pc := 41) dX8_addWrong_41 fX8_49 rfl hi0 ?_
    refine x_iconst (pc := 44) dX8_addWrong_44 (v := (1 : Int32)) (by decide) ?_
    refine x_iadd (pc := 45) dX8_addWrong_45 ?_
    refine x_putI (pc := 46) dX8_addWrong_46 fX8_49 rfl hi0 rfl rfl ?_
    refine x_letm h (fun m8 h => ?_)
    refine x_sub [] trivial ?_
    exact j49 _ h
noncomputable def f_X7_readWrong_J52 (m5 : mi_M) : Option (Int32 × mi_M) := mi_g ((0 : Int32) = 0 ∨ (0 : Int32) = 1) (some ((0 : Int32), m5))
noncomputable def f_X7_readWrong_J84 (m12 : mi_M) : Option (Int32 × mi_M) := mi_g ((0 : Int32) = 0 ∨ (0 : Int32) = 1) (some ((0 : Int32), m12))
noncomputable def f_X7_readWrong (p0 : Nat) (mem : mi_M) : Option (Int32 × mi_M) := if (mem.1 8 p0 1) < (8 : Int32) then mi_bo (f_X6_advance mem) fun m1 => mi_bo (f_X8_personNamed p0 (m1.2.1 6 0 4) m1) fun v2 => mi_b (f_X7_passDoor p0 (-1 : Int32) m1) fun v3 m4 => if v3 = 0 then f_X7_readWrong_J52 m4 else mi_b (f_X7_pass 7 m4) fun v7 m8 => if v7 = 0 then f_X7_readWrong_J52 m8 else mi_bo (f_X8_personNamed p0 (m8.2.1 6 0 4) m8) fun v9 => mi_b (f_X7_passDoor p0 v2 m8) fun v10 m11 => if v10 = 0 then f_X7_readWrong_J84 m11 else mi_b (f_X7_pass 8 m11) fun v14 m15 => if v14 = 0 then f_X7_readWrong_J84 m15 else mi_let (m15.1 6 0 3) fun v16 => mi_b (f_X7_passNumber (1 : Int32) (9 : Int32) m15) fun v17 m18 => if v17 = 0 then mi_g ((0 : Int32) = 0 ∨ (0 : Int32) = 1) (some ((0 : Int32), m18)) else mi_bo (f_X8_addWrong p0 v2 v9 v16 m18) fun m19 => mi_b (f_X7_passSign (59 : Int32) m19) fun v20 m21 => mi_g (v20 = 0 ∨ v20 = 1) (some (v20, m21)) else mi_b (f_X7_fail (5 : Int32) mem) fun v29 m30 => mi_g (v29 = 0 ∨ v29 = 1) (some (v29, m30))
set_option maxRecDepth 100000 in
set_option maxHeartbeats 4000000 in
theorem w_X7_readWrong (p0 : Nat) (hp0 : p0 < mi_n 8) (mem : mi_M) (a : Int32 × mi_M) (e : f_X7_readWrong p0 mem = some a) : mi_Ci (8) mX7_readWrong [vr 7 0, vr 8 p0] mem (fun x m' => x = a.1 ∧ m' = a.2) := by
  unfold mi_Ci
  refine mi_C_intro (ls := [(0, vr 7 0), (1, vr 8 p0)]) (by decide) rfl rfl ?_
  obtain ⟨Q0, hq0, h⟩ : ∃ Q0 : (Int32 × mi_M) → Prop, (∀ b, Q0 b → b = a) ∧ wo (f_X7_readWrong p0 mem) Q0 := ⟨fun b => b = a, fun _ h => h, wo_eq e⟩
  obtain ⟨QX, hQX⟩ : ∃ QX : Option mi_V → mi_M → Prop, QX = (fun r m' => ∃ x, r = some (vi x) ∧ x = a.1 ∧ m' = a.2) := ⟨_, rfl⟩
  rw [← hQX]
  unfold f_X7_readWrong at h
  refine x_aload_n (pc := 0) dX7_readWrong_0 rfl ?_
  refine x_getI (pc := 1) dX7_readWrong_1 fX7_129 rfl hp0 ?_
  refine x_bipush (pc := 4) dX7_readWrong_4 (v := (8 : Int32)) (by decide) ?_
  refine x_icmp_lt (pc := 6) dX7_readWrong_6 (tgt := 15) (by decide) (fun c32 => ?_) (fun c32 => ?_)
  · replace h := wo_pos c32 h
    refine x_aload_n (pc := 15) dX7_readWrong_15 rfl ?_
    refine x_getC (pc := 16) dX7_readWrong_16 fX7_12 rfl (by decide) ?_
    refine y_Vv0 (pc := 19) h dX7_readWrong_19 lX7_75 (by decide) (by omega) rfl (fun a e => w_X6_advance _ a e) (fun m1 h => ?_)
    refine x_aload_n (pc := 22) dX7_readWrong_22 rfl ?_
    refine x_aload_n (pc := 23) dX7_readWrong_23 rfl ?_
    refine x_getC (pc := 24) dX7_readWrong_24 fX7_12 rfl (by decide) ?_
    refine x_getL (pc := 27) dX7_readWrong_27 fX7_82 rfl (by decide) ?_
    refine z_Vi1 (pc := 30) h dX7_readWrong_30 lX7_86 hp0 (by omega) rfl (fun a e => w_X8_personNamed _ _ hp0 _ a e) (fun v2 h => ?_)
    refine x_istore_n (ls' := [(2, _), (0, _), (1, _)]) (pc := 33) dX7_readWrong_33 rfl rfl rfl ?_
    refine x_aload_n (pc := 34) dX7_readWrong_34 rfl ?_
    refine x_aload_n (pc := 35) dX7_readWrong_35 rfl ?_
    refine x_iconst (pc := 36) dX7_readWrong_36 (v := (-1 : Int32)) (by decide) ?_
    refine y_Vi2 (pc := 37) h dX7_readWrong_37 lX7_113 (by decide) (by omega) rfl (fun a e => w_X7_passDoor _ _ hp0 _ a e) (fun v3 m4 h => ?_)
    have j52 : ∀ (m5 : mi_M), wo (f_X7_readWrong_J52 m5) Q0 → mi_X mX7_readWrong (8) 52 [] [] m5 QX := by
      intro m5 h
      unfold f_X7_readWrong_J52 at h
      refine x_iconst (pc := 52) dX7_readWrong_52 (v := (0 : Int32)) (by decide) ?_
      obtain ⟨hb6, h⟩ := wo_g h
      exact x_zretB (pc := 53) dX7_readWrong_53 rfl hb6 (by rw [hQX]; exact ⟨_, rfl, congrArg Prod.fst (hq0 _ (wo_some h)), congrArg Prod.snd (hq0 _ (wo_some h))⟩)
    refine x_if_eq (pc := 40) dX7_readWrong_40 (tgt := 52) (by decide) (fun c28 => ?_) (fun c28 => ?_)
    · replace h := wo_pos c28 h
      refine x_sub [] trivial ?_
      exact j52 _ h
    · replace h := wo_neg c28 h
      refine x_aload_n (pc := 43) dX7_readWrong_43 rfl ?_
      refine x_ldcS (pc := 44) dX7_readWrong_44 (n := 7) (tx := "to") (by decide) ?_
      refine y_Vi1 (pc := 46) h dX7_readWrong_46 lX7_94 (by decide) (by omega) rfl (fun a e => w_X7_pass _ (by decide) _ a e) (fun v7 m8 h => ?_)
      refine x_if_ne (pc := 49) dX7_readWrong_49 (tgt := 54) (by decide) (fun c27 => ?_) (fun c27 => ?_)
      · replace h := wo_neg c27 h
        refine x_aload_n (pc := 54) dX7_readWrong_54 rfl ?_
        refine x_aload_n (pc := 55) dX7_readWrong_55 rfl ?_
        refine x_getC (pc := 56) dX7_readWrong_56 fX7_12 rfl (by decide) ?_
        refine x_getL (pc := 59) dX7_readWrong_59 fX7_82 rfl (by decide) ?_
        refine z_Vi1 (pc := 62) h dX7_readWrong_62 lX7_86 hp0 (by omega) rfl (fun a e => w_X8_personNamed _ _ hp0 _ a e) (fun v9 h => ?_)
        refine x_istore_n (ls' := [(3, _), (2, _), (0, _), (1, _)]) (pc := 65) dX7_readWrong_65 rfl rfl rfl ?_
        refine x_aload_n (pc := 66) dX7_readWrong_66 rfl ?_
        refine x_aload_n (pc := 67) dX7_readWrong_67 rfl ?_
        refine x_iload_n (pc := 68) dX7_readWrong_68 rfl ?_
        refine y_Vi2 (pc := 69) h dX7_readWrong_69 lX7_113 (by decide) (by omega) rfl (fun a e => w_X7_passDoor _ _ hp0 _ a e) (fun v10 m11 h => ?_)
        have j84 : ∀ (m12 : mi_M), wo (f_X7_readWrong_J84 m12) Q0 → mi_X mX7_readWrong (8) 84 [] [] m12 QX := by
          intro m12 h
          unfold f_X7_readWrong_J84 at h
          refine x_iconst (pc := 84) dX7_readWrong_84 (v := (0 : Int32)) (by decide) ?_
          obtain ⟨hb13, h⟩ := wo_g h
          exact x_zretB (pc := 85) dX7_readWrong_85 rfl hb13 (by rw [hQX]; exact ⟨_, rfl, congrArg Prod.fst (hq0 _ (wo_some h)), congrArg Prod.snd (hq0 _ (wo_some h))⟩)
        refine x_if_eq (pc := 72) dX7_readWrong_72 (tgt := 84) (by decide) (fun c26 => ?_) (fun c26 => ?_)
        · replace h := wo_pos c26 h
          refine x_sub [] trivial ?_
          exact j84 _ h
        · replace h := wo_neg c26 h
          refine x_aload_n (pc := 75) dX7_readWrong_75 rfl ?_
          refine x_ldcS (pc := 76) dX7_readWrong_76 (n := 8) (tx := "size") (by decide) ?_
          refine y_Vi1 (pc := 78) h dX7_readWrong_78 lX7_94 (by decide) (by omega) rfl (fun a e => w_X7_pass _ (by decide) _ a e) (fun v14 m15 h => ?_)
          refine x_if_ne (pc := 81) dX7_readWrong_81 (tgt := 86) (by decide) (fun c25 => ?_) (fun c25 => ?_)
          · replace h := wo_neg c25 h
            refine x_aload_n (pc := 86) dX7_readWrong_86 rfl ?_
            refine x_getC (pc := 87) dX7_readWrong_87 fX7_12 rfl (by decide) ?_
            refine x_getI (pc := 90) dX7_readWrong_90 fX7_98 rfl (by decide) ?_
            refine x_leti h (fun v16 h => ?_)
            refine x_istore (ls' := [(4, _), (3, _), (2, _), (0, _), (1, _)]) (pc := 93) dX7_readWrong_93 rfl rfl ?_
            refine x_aload_n (pc := 95) dX7_readWrong_95 rfl ?_
            refine x_iconst (pc := 96) dX7_readWrong_96 (v := (1 : Int32)) (by decide) ?_
            refine x_bipush (pc := 97) dX7_readWrong_97 (v := (9 : Int32)) (by decide) ?_
            refine y_Vi2 (pc := 99) h dX7_readWrong_99 lX7_101 (by decide) (by omega) rfl (fun a e => w_X7_passNumber _ _ _ a e) (fun v17 m18 h => ?_)
            refine x_if_ne (pc := 102) dX7_readWrong_102 (tgt := 107) (by decide) (fun c24 => ?_) (fun c24 => ?_)
            · replace h := wo_neg c24 h
              refine x_aload_n (pc := 107) dX7_readWrong_107 rfl ?_
              refine x_iload_n (pc := 108) dX7_readWrong_108 rfl ?_
              refine x_iload_n (pc := 109) dX7_readWrong_109 rfl ?_
              refine x_iload (pc := 110) dX7_readWrong_110 rfl ?_
              refine y_Vv3 (pc := 112) h dX7_readWrong_112 lX7_136 hp0 (by omega) rfl (fun a e => w_X8_addWrong _ _ _ _ hp0 _ a e) (fun m19 h => ?_)
              refine x_aload_n (pc := 115) dX7_readWrong_115 rfl ?_
              refine x_bipush (pc := 116) dX7_readWrong_116 (v := (59 : Int32)) (by decide) ?_
              refine y_Vi1 (pc := 118) h dX7_readWrong_118 lX7_109 (by decide) (by omega) rfl (fun a e => w_X7_passSign _ _ a e) (fun v20 m21 h => ?_)
              obtain ⟨hb22, h⟩ := wo_g h
              exact x_zretB (pc := 121) dX7_readWrong_121 rfl hb22 (by rw [hQX]; exact ⟨_, rfl, congrArg Prod.fst (hq0 _ (wo_some h)), congrArg Prod.snd (hq0 _ (wo_some h))⟩)
            · replace h := wo_pos c24 h
              refine x_iconst (pc := 105) dX7_readWrong_105 (v := (0 : Int32)) (by decide) ?_
              obtain ⟨hb23, h⟩ := wo_g h
              exact x_zretB (pc := 106) dX7_readWrong_106 rfl hb23 (by rw [hQX]; exact ⟨_, rfl, congrArg Prod.fst (hq0 _ (wo_some h)), congrArg Prod.snd (hq0 _ (wo_some h))⟩)
          · replace h := wo_pos c25 h
            refine x_sub [] trivial ?_
            exact j84 _ h
      · replace h := wo_pos c27 h
        refine x_sub [] trivial ?_
        exact j52 _ h
  · replace h := wo_neg c32 h
    refine x_aload_n (pc := 9) dX7_readWrong_9 rfl ?_
    refine x_iconst (pc := 10) dX7_readWrong_10 (v := (5 : Int32)) (by decide) ?_
    refine y_Vi1 (pc := 11) h dX7_readWrong_11 lX7_39 (by decide) (by omega) rfl (fun a e => w_X7_fail _ _ a e) (fun v29 m30 h => ?_)
    obtain ⟨hb31, h⟩ := wo_g h
    exact x_zretB (pc := 14) dX7_readWrong_14 rfl hb31 (by rw [hQX]; exact ⟨_, rfl, congrArg Prod.fst (hq0 _ (wo_some h)), congrArg Prod.snd (hq0 _ (wo_some h))⟩)
noncomputable def f_X1_clear (i0 : Nat) (mem : mi_M) : Option (mi_M) := mi_let (mi_wI mem 1 i0 4 (0 : Int32)) fun m1 => mi_bo (f_X1_begin i0 (0 : Int32) m1) fun m2 => mi_bo (f_X1_put i0 (2 : Int32) m2) fun m3 => mi_bo (f_X1_end i0 (0 : Int32) m3) fun m4 => mi_bo (f_X1_begin i0 (1 : Int32) m4) fun m5 => mi_bo (f_X1_put i0 (1 : Int32) m5) fun m6 => mi_bo (f_X1_end i0 (1 : Int32) m6) fun m7 => mi_bo (f_X1_begin i0 (2 : Int32) m7) fun m8 => mi_bo (f_X1_put i0 (-1 : Int32) m8) fun m9 => mi_bo (f_X1_end i0 (2 : Int32) m9) fun m10 => some m10
set_option maxRecDepth 100000 in
set_option maxHeartbeats 4000000 in
theorem w_X1_clear (i0 : Nat) (hi0 : i0 < mi_n 1) (mem : mi_M) (a : mi_M) (e : f_X1_clear i0 mem = some a) : mi_Cv (2) mX1_clear [vr 1 i0] mem (fun m' => m' = a) := by
  unfold mi_Cv
  refine mi_C_intro (ls := [(0, vr 1 i0)]) (by decide) rfl rfl ?_
  obtain ⟨Q0, hq0, h⟩ : ∃ Q0 : mi_M → Prop, (∀ b, Q0 b → b = a) ∧ wo (f_X1_clear i0 mem) Q0 := ⟨fun b => b = a, fun _ h => h, wo_eq e⟩
  obtain ⟨QX, hQX⟩ : ∃ QX : Option mi_V → mi_M → Prop, QX = (fun r m' => r = none ∧ m' = a) := ⟨_, rfl⟩
  rw [← hQX]
  unfold f_X1_clear at h
  refine x_aload_n (pc := 0) dX1_clear_0 rfl ?_
  refine x_iconst (pc := 1) dX1_clear_1 (v := (0 : Int32)) (by decide) ?_
  refine x_putI (pc := 2) dX1_clear_2 fX1_24 rfl hi0 rfl rfl ?_
  refine x_letm h (fun m1 h => ?_)
  refine x_aload_n (pc := 5) dX1_clear_5 rfl ?_
  refine x_iconst (pc := 6) dX1_clear_6 (v := (0 : Int32)) (by decide) ?_
  refine y_Vv1 (pc := 7) h dX1_clear_7 lX1_28 hi0 (by omega) rfl (fun a e => w_X1_begin _ _ hi0 _ a e) (fun m2 h => ?_)
  refine x_aload_n (pc := 10) dX1_clear_10 rfl ?_
  refine x_iconst (pc := 11) dX1_clear_11 (v := (2 : Int32)) (by decide) ?_
  refine y_Vv1 (pc := 12) h dX1_clear_12 lX1_32 hi0 (by omega) rfl (fun a e => w_X1_put _ _ hi0 _ a e) (fun m3 h => ?_)
  refine x_aload_n (pc := 15) dX1_clear_15 rfl ?_
  refine x_iconst (pc := 16) dX1_clear_16 (v := (0 : Int32)) (by decide) ?_
  refine y_Vv1 (pc := 17) h dX1_clear_17 lX1_35 hi0 (by omega) rfl (fun a e => w_X1_end _ _ hi0 _ a e) (fun m4 h => ?_)
  refine x_aload_n (pc := 20) dX1_clear_20 rfl ?_
  refine x_iconst (pc := 21) dX1_clear_21 (v := (1 : Int32)) (by decide) ?_
  refine y_Vv1 (pc := 22) h dX1_clear_22 lX1_28 hi0 (by omega) rfl (fun a e => w_X1_begin _ _ hi0 _ a e) (fun m5 h => ?_)
  refine x_aload_n (pc := 25) dX1_clear_25 rfl ?_
  refine x_iconst (pc := 26) dX1_clear_26 (v := (1 : Int32)) (by decide) ?_
  refine y_Vv1 (pc := 27) h dX1_clear_27 lX1_32 hi0 (by omega) rfl (fun a e => w_X1_put _ _ hi0 _ a e) (fun m6 h => ?_)
  refine x_aload_n (pc := 30) dX1_clear_30 rfl ?_
  refine x_iconst (pc := 31) dX1_clear_31 (v := (1 : Int32)) (by decide) ?_
  refine y_Vv1 (pc := 32) h dX1_clear_32 lX1_35 hi0 (by omega) rfl (fun a e => w_X1_end _ _ hi0 _ a e) (fun m7 h => ?_)
  refine x_aload_n (pc := 35) dX1_clear_35 rfl ?_
  refine x_iconst (pc := 36) dX1_clear_36 (v := (2 : Int32)) (by decide) ?_
  refine y_Vv1 (pc := 37) h dX1_clear_37 lX1_28 hi0 (by omega) rfl (fun a e => w_X1_begin _ _ hi0 _ a e) (fun m8 h => ?_)
  refine x_aload_n (pc := 40) dX1_clear_40 rfl ?_
  refine x_iconst (pc := 41) dX1_clear_41 (v := (-1 : Int32)) (by decide) ?_
  refine y_Vv1 (pc := 42) h dX1_clear_42 lX1_32 hi0 (by omega) rfl (fun a e => w_X1_put _ _ hi0 _ a e) (fun m9 h => ?_)
  refine x_aload_n (pc := 45) dX1_clear_45 rfl ?_
  refine x_iconst (pc := 46) dX1_clear_46 (v := (2 : Int32)) (by decide) ?_
  refine y_Vv1 (pc := 47) h dX1_clear_47 lX1_35 hi0 (by omega) rfl (fun a e => w_X1_end _ _ hi0 _ a e) (fun m10 h => ?_)
  exact x_ret (pc := 50) dX1_clear_50 rfl (by rw [hQX]; exact ⟨rfl, hq0 _ (wo_some h)⟩)
noncomputable def f_X9_clear_B25 (i0 : Nat) (l5 : Int32) : (Int32 × mi_M) → Option ((Int32 × mi_M) ⊕ (mi_M)) := fun s => match s with | (l8, m9) => if (6 : Int32) ≤ l8 then some (.inr m9) else mi_g (vp_in l5 6) (mi_g (vp_in l8 6) (mi_let (mi_wI m9 76 (6 * i0 + 0 + l5.toNatClampNeg) l8.toNatClampNeg (0 : Int32)) fun m12 => some (.inl ((l8 + (1 : Int32)), m12))))
noncomputable def f_X9_clear_K25 (l5 : Int32) : mi_M → Option ((Int32 × mi_M) ⊕ (mi_M)) := fun m7 => some (.inl ((l5 + (1 : Int32)), m7))
noncomputable def f_X9_clear_B17 (i0 : Nat) : (Int32 × mi_M) → Option ((Int32 × mi_M) ⊕ (mi_M)) := fun s => match s with | (l5, m6) => if (6 : Int32) ≤ l5 then some (.inr m6) else mi_bo (mi_lp (f_X9_clear_B25 i0 l5) mi_fu ((0 : Int32), m6)) (f_X9_clear_K25 l5)
noncomputable def f_X9_clear_K17 : mi_M → Option (mi_M) := fun m4 => some m4
noncomputable def f_X9_clear (i0 : Nat) (mem : mi_M) : Option (mi_M) := mi_let (mi_wI mem 9 i0 0 (0 : Int32)) fun m1 => mi_let (mi_wI m1 9 i0 1 (0 : Int32)) fun m2 => mi_let (mi_wL m2 9 i0 6 (0 : Int64)) fun m3 => mi_bo (mi_lp (f_X9_clear_B17 i0) mi_fu ((0 : Int32), m3)) (f_X9_clear_K17)
set_option maxRecDepth 100000 in
set_option maxHeartbeats 4000000 in
theorem w_X9_clear (i0 : Nat) (hi0 : i0 < mi_n 9) (mem : mi_M) (a : mi_M) (e : f_X9_clear i0 mem = some a) : mi_Cv (1) mX9_clear [vr 9 i0] mem (fun m' => m' = a) := by
  unfold mi_Cv
  refine mi_C_intro (ls := [(0, vr 9 i0)]) (by decide) rfl rfl ?_
  obtain ⟨Q0, hq0, h⟩ : ∃ Q0 : mi_M → Prop, (∀ b, Q0 b → b = a) ∧ wo (f_X9_clear i0 mem) Q0 := ⟨fun b => b = a, fun _ h => h, wo_eq e⟩
  obtain ⟨QX, hQX⟩ : ∃ QX : Option mi_V → mi_M → Prop, QX = (fun r m' => r = none ∧ m' = a) := ⟨_, rfl⟩
  rw [← hQX]
  unfold f_X9_clear at h
  refine x_aload_n (pc := 0) dX9_clear_0 rfl ?_
  refine x_iconst (pc := 1) dX9_clear_1 (v := (0 : Int32)) (by decide) ?_
  refine x_putI (pc := 2) dX9_clear_2 fX9_26 rfl hi0 rfl rfl ?_
  refine x_letm h (fun m1 h => ?_)
  refine x_aload_n (pc := 5) dX9_clear_5 rfl ?_
  refine x_iconst (pc := 6) dX9_clear_6 (v := (0 : Int32)) (by decide) ?_
  refine x_putI (pc := 7) dX9_clear_7 fX9_30 rfl hi0 rfl rfl ?_
  refine x_letm h (fun m2 h => ?_)
  refine x_aload_n (pc := 10) dX9_clear_10 rfl ?_
  refine x_lconst (pc := 11) dX9_clear_11 (v := (0 : Int64)) (by decide) ?_
  refine x_putL (pc := 12) dX9_clear_12 fX9_33 rfl hi0 rfl rfl ?_
  refine x_letm h (fun m3 h => ?_)
  refine x_iconst (pc := 15) dX9_clear_15 (v := (0 : Int32)) (by decide) ?_
  refine x_istore_n (ls' := [(1, _), (0, _)]) (pc := 16) dX9_clear_16 rfl rfl rfl ?_
  have k17_0 : ∀ (m4 : mi_M), wo (f_X9_clear_K17 m4) Q0 → mi_X mX9_clear (1) 52 [] [] m4 QX := by
    intro m4 h
    unfold f_X9_clear_K17 at h
    try dsimp only at h
    exact x_ret (pc := 52) dX9_clear_52 rfl (by rw [hQX]; exact ⟨rfl, hq0 _ (wo_some h)⟩)
  refine x_sub [(0, _), (1, _)] ⟨rfl, rfl, trivial⟩ ?_
  obtain ⟨ea, eb, h⟩ := wo_bo h
  refine wo_lq (X := fun s => match s with | (l5, m6) => mi_X mX9_clear (1) 17 [(0, vr 9 i0), (1, vi l5)] [] m6 QX) (E := fun e => wo (f_X9_clear_K17 e) Q0) ?_ _ ((0 : Int32), m3) ⟨_, eb, h⟩
  intro Q17 hb17 he17 s h
  obtain ⟨l5, m6⟩ := s
  show mi_X mX9_clear (1) 17 [(0, vr 9 i0), (1, vi l5)] [] m6 QX
  unfold f_X9_clear_B17 at h
  try dsimp only at h
  refine x_iload_n (pc := 17) dX9_clear_17 rfl ?_
  refine x_bipush (pc := 18) dX9_clear_18 (v := (6 : Int32)) (by decide) ?_
  refine x_icmp_ge (pc := 20) dX9_clear_20 (tgt := 52) (by decide) (fun c14 => ?_) (fun c14 => ?_)
  · replace h := wo_pos c14 h
    refine x_sub [] trivial ?_
    exact k17_0 _ (he17 m6 (wo_some h))
  · replace h := wo_neg c14 h
    refine x_iconst (pc := 23) dX9_clear_23 (v := (0 : Int32)) (by decide) ?_
    refine x_istore_n (ls' := [(2, _), (0, _), (1, _)]) (pc := 24) dX9_clear_24 rfl rfl rfl ?_
    have k25_0 : ∀ (m7 : mi_M), wo (f_X9_clear_K25 l5 m7) Q17 → mi_X mX9_clear (1) 46 [(0, vr 9 i0), (1, vi l5)] [] m7 QX := by
      intro m7 h
      unfold f_X9_clear_K25 at h
      try dsimp only at h
      refine x_iinc (ls' := [(1, _), (0, _)]) (pc := 46) dX9_clear_46 rfl (v := l5 + (1 : Int32)) rfl rfl rfl ?_
      refine x_goto (pc := 49) dX9_clear_49 (tgt := 17) (by decide) ?_
      refine x_sub [(0, _), (1, _)] ⟨rfl, rfl, trivial⟩ ?_
      exact hb17 ((l5 + (1 : Int32)), m7) (wo_some h)
    refine x_sub [(0, _), (1, _), (2, _)] ⟨rfl, rfl, rfl, trivial⟩ ?_
    obtain ⟨ea, eb, h⟩ := wo_bo h
    refine wo_lq (X := fun s => match s with | (l8, m9) => mi_X mX9_clear (1) 25 [(0, vr 9 i0), (1, vi l5), (2, vi l8)] [] m9 QX) (E := fun e => wo (f_X9_clear_K25 l5 e) Q17) ?_ _ ((0 : Int32), m6) ⟨_, eb, h⟩
    intro Q25 hb25 he25 s h
    obtain ⟨l8, m9⟩ := s
    show mi_X mX9_clear (1) 25 [(0, vr 9 i0), (1, vi l5), (2, vi l8)] [] m9 QX
    unfold f_X9_clear_B25 at h
    try dsimp only at h
    refine x_iload_n (pc := 25) dX9_clear_25 rfl ?_
    refine x_bipush (pc := 26) dX9_clear_26 (v := (6 : Int32)) (by decide) ?_
    refine x_icmp_ge (pc := 28) dX9_clear_28 (tgt := 46) (by decide) (fun c13 => ?_) (fun c13 => ?_)
    · replace h := wo_pos c13 h
      refine x_sub [(0, _), (1, _)] ⟨rfl, rfl, trivial⟩ ?_
      exact k25_0 _ (he25 m9 (wo_some h))
    · replace h := wo_neg c13 h
      refine x_aload_n (pc := 31) dX9_clear_31 rfl ?_
      refine x_getS (pc := 32) dX9_clear_32 fX9_11 rfl hi0 ?_
      refine x_iload_n (pc := 35) dX9_clear_35 rfl ?_
      obtain ⟨hx10, h⟩ := wo_g h
      refine x_aaldRowJ (pc := 36) dX9_clear_36 rfl rfl hi0 rfl hx10 ?_
      refine x_iload_n (pc := 37) dX9_clear_37 rfl ?_
      refine x_iconst (pc := 38) dX9_clear_38 (v := (0 : Int32)) (by decide) ?_
      obtain ⟨hx11, h⟩ := wo_g h
      refine x_iastJ (pc := 39) dX9_clear_39 rfl rfl (by have h1 := (mi_vin hx10).1; have h2 : (i0 : Nat) < 2 := hi0; show _ < (12 : Nat); omega) rfl hx11 ?_
      refine x_letm h (fun m12 h => ?_)
      refine x_iinc (ls' := [(2, _), (0, _), (1, _)]) (pc := 40) dX9_clear_40 rfl (v := l8 + (1 : Int32)) rfl rfl rfl ?_
      refine x_goto (pc := 43) dX9_clear_43 (tgt := 25) (by decide) ?_
      refine x_sub [(0, _), (1, _), (2, _)] ⟨rfl, rfl, rfl, trivial⟩ ?_
      exact hb25 ((l8 + (1 : Int32)), m12) (wo_some h)
noncomputable def f_X8_clear (i0 : Nat) (mem : mi_M) : Option (mi_M) := mi_let (mi_wI mem 8 i0 0 (0 : Int32)) fun m1 => mi_let (mi_wI m1 8 i0 1 (0 : Int32)) fun m2 => mi_let (mi_wI m2 8 i0 2 (3 : Int32)) fun m3 => mi_let (mi_wI m3 8 i0 3 (0 : Int32)) fun m4 => mi_let (mi_wI m4 8 i0 4 (0 : Int32)) fun m5 => mi_bo (f_X1_clear i0 m5) fun m6 => mi_bo (f_X9_clear i0 m6) fun m7 => some m7
set_option maxRecDepth 100000 in
set_option maxHeartbeats 4000000 in
theorem w_X8_clear (i0 : Nat) (hi0 : i0 < mi_n 8) (mem : mi_M) (a : mi_M) (e : f_X8_clear i0 mem = some a) : mi_Cv (3) mX8_clear [vr 8 i0] mem (fun m' => m' = a) := by
  unfold mi_Cv
  refine mi_C_intro (ls := [(0, vr 8 i0)]) (by decide) rfl rfl ?_
  obtain ⟨Q0, hq0, h⟩ : ∃ Q0 : mi_M → Prop, (∀ b, Q0 b → b = a) ∧ wo (f_X8_clear i0 mem) Q0 := ⟨fun b => b = a, fun _ h => h, wo_eq e⟩
  obtain ⟨QX, hQX⟩ : ∃ QX : Option mi_V → mi_M → Prop, QX = (fun r m' => r = none ∧ m' = a) := ⟨_, rfl⟩
  rw [← hQX]
  unfold f_X8_clear at h
  refine x_aload_n (pc := 0) dX8_clear_0 rfl ?_
  refine x_iconst (pc := 1) dX8_clear_1 (v := (0 : Int32)) (by decide) ?_
  refine x_putI (pc := 2) dX8_clear_2 fX8_45 rfl hi0 rfl rfl ?_
  refine x_letm h (fun m1 h => ?_)
  refine x_aload_n (pc := 5) dX8_clear_5 rfl ?_
  refine x_iconst (pc := 6) dX8_clear_6 (v := (0 : Int32)) (by decide) ?_
  refine x_putI (pc := 7) dX8_clear_7 fX8_49 rfl hi0 rfl rfl ?_
  refine x_letm h (fun m2 h => ?_)
  refine x_aload_n (pc := 10) dX8_clear_10 rfl ?_
  refine x_iconst (pc := 11) dX8_clear_11 (v := (3 : Int32)) (by decide) ?_
  refine x_putI (pc := 12) dX8_clear_12 fX8_52 rfl hi0 rfl rfl ?_
  refine x_letm h (fun m3 h => ?_)
  refine x_aload_n (pc := 15) dX8_clear_15 rfl ?_
  refine x_iconst (pc := 16) dX8_clear_16 (v := (0 : Int32)) (by decide) ?_
  refine x_putI (pc := 17) dX8_clear_17 fX8_55 rfl hi0 rfl rfl ?_
  refine x_letm h (fun m4 h => ?_)
  refine x_aload_n (pc := 20) dX8_clear_20 rfl ?_
  refine x_iconst (pc := 21) dX8_clear_21 (v := (0 : Int32)) (by decide) ?_
  refine x_putI (pc := 22) dX8_clear_22 fX8_58 rfl hi0 rfl rfl ?_
  refine x_letm h (fun m5 h => ?_)
  refine x_aload_n (pc := 25) dX8_clear_25 rfl ?_
  refine x_getS (pc := 26) dX8_clear_26 fX8_34 rfl hi0 ?_
  refine y_Vv0 (pc := 29) h dX8_clear_29 lX8_61 hi0 (by omega) rfl (fun a e => w_X1_clear _ hi0 _ a e) (fun m6 h => ?_)
  refine x_aload_n (pc := 32) dX8_clear_32 rfl ?_
  refine x_getS (pc := 33) dX8_clear_33 fX8_41 rfl hi0 ?_
  refine y_Vv0 (pc := 36) h dX8_clear_36 lX8_64 hi0 (by omega) rfl (fun a e => w_X9_clear _ hi0 _ a e) (fun m7 h => ?_)
  exact x_ret (pc := 39) dX8_clear_39 rfl (by rw [hQX]; exact ⟨rfl, hq0 _ (wo_some h)⟩)
noncomputable def f_X7_readTown_J143 (l7 : Int32) (u10 : Int32) (m11 : mi_M) : Option ((Int32 × Int32 × mi_M) ⊕ (mi_M)) := some (.inl (u10, (l7 + (1 : Int32)), m11))
noncomputable def f_X7_readTown_B20 (p0 : Nat) : (Int32 × Int32 × mi_M) → Option ((Int32 × Int32 × mi_M) ⊕ (mi_M)) := fun s => match s with | (l6, l7, m8) => if (1000 : Int32) ≤ l7 then some (.inr m8) else if l6 = 0 then some (.inr m8) else if (m8.1 6 0 1) = 0 then some (.inr m8) else mi_bo (f_X6_among 1 m8) fun v9 => if v9 = (-1 : Int32) then mi_b (f_X7_fail (1 : Int32) m8) fun v13 m14 => f_X7_readTown_J143 l7 v13 m14 else if v9 = (0 : Int32) then mi_b (f_X7_readPerson p0 m8) fun v16 m17 => f_X7_readTown_J143 l7 v16 m17 else if v9 = (1 : Int32) then mi_b (f_X7_readLane p0 m8) fun v19 m20 => f_X7_readTown_J143 l7 v19 m20 else if v9 = (2 : Int32) then mi_b (f_X7_readWrong p0 m8) fun v22 m23 => f_X7_readTown_J143 l7 v22 m23 else if v9 = (3 : Int32) then mi_b (f_X7_readWalk p0 m8) fun v25 m26 => f_X7_readTown_J143 l7 v25 m26 else mi_b (f_X7_readOnce p0 (v9 - (4 : Int32)) m8) fun v27 m28 => f_X7_readTown_J143 l7 v27 m28
noncomputable def f_X7_readTown_K20 : mi_M → Option (Int32 × mi_M) := fun m4 => mi_let (mi_wI m4 6 0 0 (0 : Int32)) fun m5 => some ((m5.1 7 0 1), m5)
noncomputable def f_X7_readTown (p0 : Nat) (mem : mi_M) : Option (Int32 × mi_M) := mi_bo (f_X8_clear p0 mem) fun m1 => mi_let (mi_wI m1 7 0 1 (0 : Int32)) fun m2 => mi_bo (f_X6_rewind m2) fun m3 => mi_bo (mi_lp (f_X7_readTown_B20 p0) mi_fu ((1 : Int32), (0 : Int32), m3)) (f_X7_readTown_K20)
set_option maxRecDepth 100000 in
set_option maxHeartbeats 4000000 in
theorem w_X7_readTown (p0 : Nat) (hp0 : p0 < mi_n 8) (mem : mi_M) (a : Int32 × mi_M) (e : f_X7_readTown p0 mem = some a) : mi_Ci (49) mX7_readTown [vr 7 0, vr 8 p0] mem (fun x m' => x = a.1 ∧ m' = a.2) := by
  unfold mi_Ci
  refine mi_C_intro (ls := [(0, vr 7 0), (1, vr 8 p0)]) (by decide) rfl rfl ?_
  obtain ⟨Q0, hq0, h⟩ : ∃ Q0 : (Int32 × mi_M) → Prop, (∀ b, Q0 b → b = a) ∧ wo (f_X7_readTown p0 mem) Q0 := ⟨fun b => b = a, fun _ h => h, wo_eq e⟩
  obtain ⟨QX, hQX⟩ : ∃ QX : Option mi_V → mi_M → Prop, QX = (fun r m' => ∃ x, r = some (vi x) ∧ x = a.1 ∧ m' = a.2) := ⟨_, rfl⟩
  rw [← hQX]
  unfold f_X7_readTown at h
  refine x_aload_n (pc := 0) dX7_readTown_0 rfl ?_
  refine y_Vv0 (pc := 1) h dX7_readTown_1 lX7_18 hp0 (by omega) rfl (fun a e => w_X8_clear _ hp0 _ a e) (fun m1 h => ?_)
  refine x_aload_n (pc := 4) dX7_readTown_4 rfl ?_
  refine x_iconst (pc := 5) dX7_readTown_5 (v := (0 : Int32)) (by decide) ?_
  refine x_putI (pc := 6) dX7_readTown_6 fX7_23 rfl (by decide) rfl rfl ?_
  refine x_letm h (fun m2 h => ?_)
  refine x_aload_n (pc := 9) dX7_readTown_9 rfl ?_
  refine x_getC (pc := 10) dX7_readTown_10 fX7_12 rfl (by decide) ?_
  refine y_Vv0 (pc := 13) h dX7_readTown_13 lX7_27 (by decide) (by omega) rfl (fun a e => w_X6_rewind _ a e) (fun m3 h => ?_)
  refine x_iconst (pc := 16) dX7_readTown_16 (v := (1 : Int32)) (by decide) ?_
  refine x_istore_n (ls' := [(2, _), (0, _), (1, _)]) (pc := 17) dX7_readTown_17 rfl rfl rfl ?_
  refine x_iconst (pc := 18) dX7_readTown_18 (v := (0 : Int32)) (by decide) ?_
  refine x_istore_n (ls' := [(3, _), (2, _), (0, _), (1, _)]) (pc := 19) dX7_readTown_19 rfl rfl rfl ?_
  have k20_0 : ∀ (m4 : mi_M), wo (f_X7_readTown_K20 m4) Q0 → mi_X mX7_readTown (49) 149 [(0, vr 7 0)] [] m4 QX := by
    intro m4 h
    unfold f_X7_readTown_K20 at h
    try dsimp only at h
    refine x_aload_n (pc := 149) dX7_readTown_149 rfl ?_
    refine x_getC (pc := 150) dX7_readTown_150 fX7_12 rfl (by decide) ?_
    refine x_iconst (pc := 153) dX7_readTown_153 (v := (0 : Int32)) (by decide) ?_
    refine x_putI (pc := 154) dX7_readTown_154 fX7_60 rfl (by decide) rfl rfl ?_
    refine x_letm h (fun m5 h => ?_)
    refine x_aload_n (pc := 157) dX7_readTown_157 rfl ?_
    refine x_getI (pc := 158) dX7_readTown_158 fX7_23 rfl (by decide) ?_
    exact x_iret (pc := 161) dX7_readTown_161 rfl (by rw [hQX]; exact ⟨_, rfl, congrArg Prod.fst (hq0 _ (wo_some h)), congrArg Prod.snd (hq0 _ (wo_some h))⟩)
  refine x_sub [(0, _), (1, _), (2, _), (3, _)] ⟨rfl, rfl, rfl, rfl, trivial⟩ ?_
  obtain ⟨ea, eb, h⟩ := wo_bo h
  refine wo_lq (X := fun s => match s with | (l6, l7, m8) => mi_X mX7_readTown (49) 20 [(0, vr 7 0), (1, vr 8 p0), (2, vi l6), (3, vi l7)] [] m8 QX) (E := fun e => wo (f_X7_readTown_K20 e) Q0) ?_ _ ((1 : Int32), (0 : Int32), m3) ⟨_, eb, h⟩
  intro Q20 hb20 he20 s h
  obtain ⟨l6, l7, m8⟩ := s
  show mi_X mX7_readTown (49) 20 [(0, vr 7 0), (1, vr 8 p0), (2, vi l6), (3, vi l7)] [] m8 QX
  unfold f_X7_readTown_B20 at h
  try dsimp only at h
  refine x_iload_n (pc := 20) dX7_readTown_20 rfl ?_
  refine x_sipush (pc := 21) dX7_readTown_21 (v := (1000 : Int32)) (by decide) ?_
  refine x_icmp_ge (pc := 24) dX7_readTown_24 (tgt := 149) (by decide) (fun c31 => ?_) (fun c31 => ?_)
  · replace h := wo_pos c31 h
    refine x_sub [(0, _)] ⟨rfl, trivial⟩ ?_
    exact k20_0 _ (he20 m8 (wo_some h))
  · replace h := wo_neg c31 h
    refine x_iload_n (pc := 27) dX7_readTown_27 rfl ?_
    refine x_if_eq (pc := 28) dX7_readTown_28 (tgt := 149) (by decide) (fun c30 => ?_) (fun c30 => ?_)
    · replace h := wo_pos c30 h
      refine x_sub [(0, _)] ⟨rfl, trivial⟩ ?_
      exact k20_0 _ (he20 m8 (wo_some h))
    · replace h := wo_neg c30 h
      refine x_aload_n (pc := 31) dX7_readTown_31 rfl ?_
      refine x_getC (pc := 32) dX7_readTown_32 fX7_12 rfl (by decide) ?_
      refine x_getI (pc := 35) dX7_readTown_35 fX7_30 rfl (by decide) ?_
      refine x_if_eq (pc := 38) dX7_readTown_38 (tgt := 149) (by decide) (fun c29 => ?_) (fun c29 => ?_)
      · replace h := wo_pos c29 h
        refine x_sub [(0, _)] ⟨rfl, trivial⟩ ?_
        exact k20_0 _ (he20 m8 (wo_some h))
      · replace h := wo_neg c29 h
        refine x_aload_n (pc := 41) dX7_readTown_41 rfl ?_
        refine x_getC (pc := 42) dX7_readTown_42 fX7_12 rfl (by decide) ?_
        refine x_ldcS (pc := 45) dX7_readTown_45 (n := 1) (tx := "person lane wrong walk bar wind words heals burns") (by decide) ?_
        refine z_Vi1 (pc := 47) h dX7_readTown_47 lX7_35 (by decide) (by omega) rfl (fun a e => w_X6_among _ (by decide) _ a e) (fun v9 h => ?_)
        refine x_istore (ls' := [(4, _), (0, _), (1, _), (2, _), (3, _)]) (pc := 50) dX7_readTown_50 rfl rfl ?_
        refine x_iload (pc := 52) dX7_readTown_52 rfl ?_
        have j143 : ∀ (u10 : Int32) (m11 : mi_M), wo (f_X7_readTown_J143 l7 u10 m11) Q20 → mi_X mX7_readTown (49) 143 [(0, vr 7 0), (1, vr 8 p0), (2, vi u10), (3, vi l7)] [] m11 QX := by
          intro u10 m11 h
          unfold f_X7_readTown_J143 at h
          refine x_iinc (ls' := [(3, _), (0, _), (1, _), (2, _)]) (pc := 143) dX7_readTown_143 rfl (v := l7 + (1 : Int32)) rfl rfl rfl ?_
          refine x_goto (pc := 146) dX7_readTown_146 (tgt := 20) (by decide) ?_
          refine x_sub [(0, _), (1, _), (2, _), (3, _)] ⟨rfl, rfl, rfl, rfl, trivial⟩ ?_
          exact hb20 (u10, (l7 + (1 : Int32)), m11) (wo_some h)
        by_cases c12 : v9 = (-1 : Int32)
        · replace h := wo_pos c12 h
          refine x_swT (pc := 54) (c := (-1 : Int32)) c12 dX7_readTown_54 (by decide) (by decide) rfl (tgt := 88) (by decide) ?_
          refine x_aload_n (pc := 88) dX7_readTown_88 rfl ?_
          refine x_iconst (pc := 89) dX7_readTown_89 (v := (1 : Int32)) (by decide) ?_
          refine y_Vi1 (pc := 90) h dX7_readTown_90 lX7_39 (by decide) (by omega) rfl (fun a e => w_X7_fail _ _ a e) (fun v13 m14 h => ?_)
          refine x_istore_n (ls' := [(2, _), (4, _), (0, _), (1, _), (3, _)]) (pc := 93) dX7_readTown_93 rfl rfl rfl ?_
          refine x_goto (pc := 94) dX7_readTown_94 (tgt := 143) (by decide) ?_
          refine x_sub [(0, _), (1, _), (2, _), (3, _)] ⟨rfl, rfl, rfl, rfl, trivial⟩ ?_
          exact j143 _ _ h
        · replace h := wo_neg c12 h
          by_cases c15 : v9 = (0 : Int32)
          · replace h := wo_pos c15 h
            refine x_swT (pc := 54) (c := (0 : Int32)) c15 dX7_readTown_54 (by decide) (by decide) rfl (tgt := 97) (by decide) ?_
            refine x_aload_n (pc := 97) dX7_readTown_97 rfl ?_
            refine x_aload_n (pc := 98) dX7_readTown_98 rfl ?_
            refine y_Vi1 (pc := 99) h dX7_readTown_99 lX7_43 (by decide) (by omega) rfl (fun a e => w_X7_readPerson _ hp0 _ a e) (fun v16 m17 h => ?_)
            refine x_istore_n (ls' := [(2, _), (4, _), (0, _), (1, _), (3, _)]) (pc := 102) dX7_readTown_102 rfl rfl rfl ?_
            refine x_goto (pc := 103) dX7_readTown_103 (tgt := 143) (by decide) ?_
            refine x_sub [(0, _), (1, _), (2, _), (3, _)] ⟨rfl, rfl, rfl, rfl, trivial⟩ ?_
            exact j143 _ _ h
          · replace h := wo_neg c15 h
            by_cases c18 : v9 = (1 : Int32)
            · replace h := wo_pos c18 h
              refine x_swT (pc := 54) (c := (1 : Int32)) c18 dX7_readTown_54 (by decide) (by decide) rfl (tgt := 106) (by decide) ?_
              refine x_aload_n (pc := 106) dX7_readTown_106 rfl ?_
              refine x_aload_n (pc := 107) dX7_readTown_107 rfl ?_
              refine y_Vi1 (pc := 108) h dX7_readTown_108 lX7_47 (by decide) (by omega) rfl (fun a e => w_X7_readLane _ hp0 _ a e) (fun v19 m20 h => ?_)
              refine x_istore_n (ls' := [(2, _), (4, _), (0, _), (1, _), (3, _)]) (pc := 111) dX7_readTown_111 rfl rfl rfl ?_
              refine x_goto (pc := 112) dX7_readTown_112 (tgt := 143) (by decide) ?_
              refine x_sub [(0, _), (1, _), (2, _), (3, _)] ⟨rfl, rfl, rfl, rfl, trivial⟩ ?_
              exact j143 _ _ h
            · replace h := wo_neg c18 h
              by_cases c21 : v9 = (2 : Int32)
              · replace h := wo_pos c21 h
                refine x_swT (pc := 54) (c := (2 : Int32)) c21 dX7_readTown_54 (by decide) (by decide) rfl (tgt := 115) (by decide) ?_
                refine x_aload_n (pc := 115) dX7_readTown_115 rfl ?_
                refine x_aload_n (pc := 116) dX7_readTown_116 rfl ?_
                refine y_Vi1 (pc := 117) h dX7_readTown_117 lX7_50 (by decide) (by omega) rfl (fun a e => w_X7_readWrong _ hp0 _ a e) (fun v22 m23 h => ?_)
                refine x_istore_n (ls' := [(2, _), (4, _), (0, _), (1, _), (3, _)]) (pc := 120) dX7_readTown_120 rfl rfl rfl ?_
                refine x_goto (pc := 121) dX7_readTown_121 (tgt := 143) (by decide) ?_
                refine x_sub [(0, _), (1, _), (2, _), (3, _)] ⟨rfl, rfl, rfl, rfl, trivial⟩ ?_
                exact j143 _ _ h
              · replace h := wo_neg c21 h
                by_cases c24 : v9 = (3 : Int32)
                · replace h := wo_pos c24 h
                  refine x_swT (pc := 54) (c := (3 : Int32)) c24 dX7_readTown_54 (by decide) (by decide) rfl (tgt := 124) (by decide) ?_
                  refine x_aload_n (pc := 124) dX7_readTown_124 rfl ?_
                  refine x_aload_n (pc := 125) dX7_readTown_125 rfl ?_
                  refine y_Vi1 (pc := 126) h dX7_readTown_126 lX7_53 (by decide) (by omega) rfl (fun a e => w_X7_readWalk _ hp0 _ a e) (fun v25 m26 h => ?_)
                  refine x_istore_n (ls' := [(2, _), (4, _), (0, _), (1, _), (3, _)]) (pc := 129) dX7_readTown_129 rfl rfl rfl ?_
                  refine x_goto (pc := 130) dX7_readTown_130 (tgt := 143) (by decide) ?_
                  refine x_sub [(0, _), (1, _), (2, _), (3, _)] ⟨rfl, rfl, rfl, rfl, trivial⟩ ?_
                  exact j143 _ _ h
                · replace h := wo_neg c24 h
                  refine x_tableOut (pc := 54) dX7_readTown_54 (by have := lv_neT (a := -1) c12 (by decide); have := lv_neT (a := 0) c15 (by decide); have := lv_neT (a := 1) c18 (by decide); have := lv_neT (a := 2) c21 (by decide); have := lv_neT (a := 3) c24 (by decide); omega) (tgt := 133) (by decide) ?_
                  refine x_aload_n (pc := 133) dX7_readTown_133 rfl ?_
                  refine x_aload_n (pc := 134) dX7_readTown_134 rfl ?_
                  refine x_iload (pc := 135) dX7_readTown_135 rfl ?_
                  refine x_iconst (pc := 137) dX7_readTown_137 (v := (4 : Int32)) (by decide) ?_
                  refine x_isub (pc := 138) dX7_readTown_138 ?_
                  refine y_Vi2 (pc := 139) h dX7_readTown_139 lX7_56 (by decide) (by omega) rfl (fun a e => w_X7_readOnce _ _ hp0 _ a e) (fun v27 m28 h => ?_)
                  refine x_istore_n (ls' := [(2, _), (4, _), (0, _), (1, _), (3, _)]) (pc := 142) dX7_readTown_142 rfl rfl rfl ?_
                  refine x_sub [(0, _), (1, _), (2, _), (3, _)] ⟨rfl, rfl, rfl, rfl, trivial⟩ ?_
                  exact j143 _ _ h
noncomputable def f_X11_town_J68 (v2 : Int32) (m4 : mi_M) : Option (Int32 × mi_M) := some (v2, m4)
noncomputable def f_X11_town (mem : mi_M) : Option (Int32 × mi_M) := mi_g (mem.2.2 1 < mi_n 8) (mi_b (f_X7_readTown (mem.2.2 1) mem) fun v2 m3 => if v2 = 0 then mi_g (m3.2.2 0 < mi_n 8) (mi_let (m3.2.2 0) fun v6 => mi_g (m3.2.2 1 < mi_n 8) (mi_let (mi_wR m3 0 (m3.2.2 1)) fun m8 => mi_let (mi_wR m8 1 v6) fun m9 => mi_g (m9.2.2 2 < mi_n 10) (mi_let (mi_wI m9 10 (m9.2.2 2) 0 (0 : Int32)) fun m11 => mi_g (m11.2.2 0 < mi_n 8) (mi_bo (f_X5_begin 0 (m11.2.2 0) m11) fun m13 => mi_bo (f_X3_forget m13) fun m14 => mi_let (mi_wI m14 4 0 0 (0 : Int32)) fun m15 => f_X11_town_J68 v2 m15)))) else f_X11_town_J68 v2 m3)
set_option maxRecDepth 100000 in
set_option maxHeartbeats 4000000 in
theorem w_X11_town (mem : mi_M) (a : Int32 × mi_M) (e : f_X11_town  mem = some a) : mi_Ci (50) mX11_town [vr 11 0] mem (fun x m' => x = a.1 ∧ m' = a.2) := by
  unfold mi_Ci
  refine mi_C_intro (ls := [(0, vr 11 0)]) (by decide) rfl rfl ?_
  obtain ⟨Q0, hq0, h⟩ : ∃ Q0 : (Int32 × mi_M) → Prop, (∀ b, Q0 b → b = a) ∧ wo (f_X11_town  mem) Q0 := ⟨fun b => b = a, fun _ h => h, wo_eq e⟩
  obtain ⟨QX, hQX⟩ : ∃ QX : Option mi_V → mi_M → Prop, QX = (fun r m' => ∃ x, r = some (vi x) ∧ x = a.1 ∧ m' = a.2) := ⟨_, rfl⟩
  rw [← hQX]
  unfold f_X11_town at h
  refine x_aload_n (pc := 0) dX11_town_0 rfl ?_
  refine x_getC (pc := 1) dX11_town_1 fX11_10 rfl (by decide) ?_
  refine x_aload_n (pc := 4) dX11_town_4 rfl ?_
  obtain ⟨hm1, h⟩ := wo_g h
  refine x_getM (pc := 5) dX11_town_5 fX11_58 rfl (by decide) ?_
  refine y_Vi1 (pc := 8) h dX11_town_8 lX11_85 (by decide) (by omega) rfl (fun a e => w_X7_readTown _ hm1 _ a e) (fun v2 m3 h => ?_)
  refine x_istore_n (ls' := [(1, _), (0, _)]) (pc := 11) dX11_town_11 rfl rfl rfl ?_
  refine x_iload_n (pc := 12) dX11_town_12 rfl ?_
  have j68 : ∀ (m4 : mi_M), wo (f_X11_town_J68 v2 m4) Q0 → mi_X mX11_town (50) 68 [(1, vi v2)] [] m4 QX := by
    intro m4 h
    unfold f_X11_town_J68 at h
    refine x_iload_n (pc := 68) dX11_town_68 rfl ?_
    exact x_iret (pc := 69) dX11_town_69 rfl (by rw [hQX]; exact ⟨_, rfl, congrArg Prod.fst (hq0 _ (wo_some h)), congrArg Prod.snd (hq0 _ (wo_some h))⟩)
  refine x_if_ne (pc := 13) dX11_town_13 (tgt := 68) (by decide) (fun c16 => ?_) (fun c16 => ?_)
  · replace h := wo_neg c16 h
    refine x_sub [(1, _)] ⟨rfl, trivial⟩ ?_
    exact j68 _ h
  · replace h := wo_pos c16 h
    refine x_aload_n (pc := 16) dX11_town_16 rfl ?_
    obtain ⟨hm5, h⟩ := wo_g h
    refine x_getM (pc := 17) dX11_town_17 fX11_54 rfl (by decide) ?_
    refine x_letr (P := fun v => v < mi_n 8) h hm5 (fun v6 hrv6 h => ?_)
    refine x_astore_n (ls' := [(2, _), (1, _), (0, _)]) (pc := 20) dX11_town_20 rfl rfl rfl ?_
    refine x_aload_n (pc := 21) dX11_town_21 rfl ?_
    refine x_aload_n (pc := 22) dX11_town_22 rfl ?_
    obtain ⟨hm7, h⟩ := wo_g h
    refine x_getM (pc := 23) dX11_town_23 fX11_58 rfl (by decide) ?_
    refine x_putM (pc := 26) dX11_town_26 fX11_54 rfl rfl ⟨_, rfl⟩ ?_
    refine x_letm h (fun m8 h => ?_)
    refine x_aload_n (pc := 29) dX11_town_29 rfl ?_
    refine x_aload_n (pc := 30) dX11_town_30 rfl ?_
    refine x_putM (pc := 31) dX11_town_31 fX11_58 rfl rfl ⟨_, rfl⟩ ?_
    refine x_letm h (fun m9 h => ?_)
    refine x_aload_n (pc := 34) dX11_town_34 rfl ?_
    obtain ⟨hm10, h⟩ := wo_g h
    refine x_getM (pc := 35) dX11_town_35 fX11_64 rfl (by decide) ?_
    refine x_iconst (pc := 38) dX11_town_38 (v := (0 : Int32)) (by decide) ?_
    refine x_putI (pc := 39) dX11_town_39 fX11_89 rfl hm10 rfl rfl ?_
    refine x_letm h (fun m11 h => ?_)
    refine x_aload_n (pc := 42) dX11_town_42 rfl ?_
    refine x_getC (pc := 43) dX11_town_43 fX11_19 rfl (by decide) ?_
    refine x_aload_n (pc := 46) dX11_town_46 rfl ?_
    obtain ⟨hm12, h⟩ := wo_g h
    refine x_getM (pc := 47) dX11_town_47 fX11_54 rfl (by decide) ?_
    refine y_Vv1 (pc := 50) h dX11_town_50 lX11_92 (by decide) (by omega) rfl (fun a e => w_X5_begin _ _ (by decide) hm12 _ a e) (fun m13 h => ?_)
    refine x_aload_n (pc := 53) dX11_town_53 rfl ?_
    refine x_getC (pc := 54) dX11_town_54 fX11_26 rfl (by decide) ?_
    refine y_Vv0 (pc := 57) h dX11_town_57 lX11_96 (by decide) (by omega) rfl (fun a e => w_X3_forget _ a e) (fun m14 h => ?_)
    refine x_aload_n (pc := 60) dX11_town_60 rfl ?_
    refine x_getC (pc := 61) dX11_town_61 fX11_33 rfl (by decide) ?_
    refine x_iconst (pc := 64) dX11_town_64 (v := (0 : Int32)) (by decide) ?_
    refine x_putI (pc := 65) dX11_town_65 fX11_99 rfl (by decide) rfl rfl ?_
    refine x_letm h (fun m15 h => ?_)
    refine x_sub [(1, _)] ⟨rfl, trivial⟩ ?_
    exact j68 _ h
noncomputable def f_X3_stepBack (p0 : Nat) (mem : mi_M) : Option (Int32 × mi_M) := if (mem.1 3 0 0) = 0 then mi_g ((0 : Int32) = 0 ∨ (0 : Int32) = 1) (some ((0 : Int32), mem)) else mi_let (mi_wI mem 3 0 1 ((((mem.1 3 0 1) + (16 : Int32)) - (1 : Int32)) - (((mem.1 3 0 1) + (16 : Int32)) - (1 : Int32)) / (16 : Int32) * (16 : Int32))) fun m1 => mi_let (mi_wI m1 3 0 0 ((m1.1 3 0 0) - (1 : Int32))) fun m2 => mi_g (vp_in (m2.1 3 0 1) 16) (mi_bo (f_X5_become p0 (0 * 0 + 1 + (m2.1 3 0 1).toNatClampNeg) m2) fun m4 => mi_g ((1 : Int32) = 0 ∨ (1 : Int32) = 1) (some ((1 : Int32), m4)))
set_option maxRecDepth 100000 in
set_option maxHeartbeats 4000000 in
theorem w_X3_stepBack (p0 : Nat) (hp0 : p0 < mi_n 5) (mem : mi_M) (a : Int32 × mi_M) (e : f_X3_stepBack p0 mem = some a) : mi_Ci (2) mX3_stepBack [vr 3 0, vr 5 p0] mem (fun x m' => x = a.1 ∧ m' = a.2) := by
  unfold mi_Ci
  refine mi_C_intro (ls := [(0, vr 3 0), (1, vr 5 p0)]) (by decide) rfl rfl ?_
  obtain ⟨Q0, hq0, h⟩ : ∃ Q0 : (Int32 × mi_M) → Prop, (∀ b, Q0 b → b = a) ∧ wo (f_X3_stepBack p0 mem) Q0 := ⟨fun b => b = a, fun _ h => h, wo_eq e⟩
  obtain ⟨QX, hQX⟩ : ∃ QX : Option mi_V → mi_M → Prop, QX = (fun r m' => ∃ x, r = some (vi x) ∧ x = a.1 ∧ m' = a.2) := ⟨_, rfl⟩
  rw [← hQX]
  unfold f_X3_stepBack at h
  refine x_aload_n (pc := 0) dX3_stepBack_0 rfl ?_
  refine x_getI (pc := 1) dX3_stepBack_1 fX3_28 rfl (by decide) ?_
  refine x_if_ne (pc := 4) dX3_stepBack_4 (tgt := 9) (by decide) (fun c7 => ?_) (fun c7 => ?_)
  · replace h := wo_neg c7 h
    refine x_aload_n (pc := 9) dX3_stepBack_9 rfl ?_
    refine x_aload_n (pc := 10) dX3_stepBack_10 rfl ?_
    refine x_getI (pc := 11) dX3_stepBack_11 fX3_35 rfl (by decide) ?_
    refine x_bipush (pc := 14) dX3_stepBack_14 (v := (16 : Int32)) (by decide) ?_
    refine x_iadd (pc := 16) dX3_stepBack_16 ?_
    refine x_iconst (pc := 17) dX3_stepBack_17 (v := (1 : Int32)) (by decide) ?_
    refine x_isub (pc := 18) dX3_stepBack_18 ?_
    refine x_bipush (pc := 19) dX3_stepBack_19 (v := (16 : Int32)) (by decide) ?_
    refine x_irem (pc := 21) dX3_stepBack_21 (by decide) ?_
    refine x_putI (pc := 22) dX3_stepBack_22 fX3_35 rfl (by decide) rfl rfl ?_
    refine x_letm h (fun m1 h => ?_)
    refine x_aload_n (pc := 25) dX3_stepBack_25 rfl ?_
    refine x_dup (pc := 26) dX3_stepBack_26 rfl ?_
    refine x_getI (pc := 27) dX3_stepBack_27 fX3_28 rfl (by decide) ?_
    refine x_iconst (pc := 30) dX3_stepBack_30 (v := (1 : Int32)) (by decide) ?_
    refine x_isub (pc := 31) dX3_stepBack_31 ?_
    refine x_putI (pc := 32) dX3_stepBack_32 fX3_28 rfl (by decide) rfl rfl ?_
    refine x_letm h (fun m2 h => ?_)
    refine x_aload_n (pc := 35) dX3_stepBack_35 rfl ?_
    refine x_aload_n (pc := 36) dX3_stepBack_36 rfl ?_
    refine x_getS (pc := 37) dX3_stepBack_37 fX3_11 rfl (by decide) ?_
    refine x_aload_n (pc := 40) dX3_stepBack_40 rfl ?_
    refine x_getI (pc := 41) dX3_stepBack_41 fX3_35 rfl (by decide) ?_
    obtain ⟨hx3, h⟩ := wo_g h
    refine x_aaldStJ (pc := 44) dX3_stepBack_44 rfl rfl (by decide) rfl hx3 ?_
    refine y_Vv1 (pc := 45) h dX3_stepBack_45 lX3_38 hp0 (by omega) rfl (fun a e => w_X5_become _ _ hp0 (by have h1 := (mi_vin hx3).1; have h2 : (0 : Nat) < 1 := (by decide); show _ < (26 : Nat); omega) _ a e) (fun m4 h => ?_)
    refine x_iconst (pc := 48) dX3_stepBack_48 (v := (1 : Int32)) (by decide) ?_
    obtain ⟨hb5, h⟩ := wo_g h
    exact x_zretB (pc := 49) dX3_stepBack_49 rfl hb5 (by rw [hQX]; exact ⟨_, rfl, congrArg Prod.fst (hq0 _ (wo_some h)), congrArg Prod.snd (hq0 _ (wo_some h))⟩)
  · replace h := wo_pos c7 h
    refine x_iconst (pc := 7) dX3_stepBack_7 (v := (0 : Int32)) (by decide) ?_
    obtain ⟨hb6, h⟩ := wo_g h
    exact x_zretB (pc := 8) dX3_stepBack_8 rfl hb6 (by rw [hQX]; exact ⟨_, rfl, congrArg Prod.fst (hq0 _ (wo_some h)), congrArg Prod.snd (hq0 _ (wo_some h))⟩)
noncomputable def f_X11_undo (mem : mi_M) : Option (Int32 × mi_M) := mi_b (f_X3_stepBack 0 mem) fun v1 m2 => mi_g (v1 = 0 ∨ v1 = 1) (some (v1, m2))
set_option maxRecDepth 100000 in
set_option maxHeartbeats 4000000 in
theorem w_X11_undo (mem : mi_M) (a : Int32 × mi_M) (e : f_X11_undo  mem = some a) : mi_Ci (3) mX11_undo [vr 11 0] mem (fun x m' => x = a.1 ∧ m' = a.2) := by
  unfold mi_Ci
  refine mi_C_intro (ls := [(0, vr 11 0)]) (by decide) rfl rfl ?_
  obtain ⟨Q0, hq0, h⟩ : ∃ Q0 : (Int32 × mi_M) → Prop, (∀ b, Q0 b → b = a) ∧ wo (f_X11_undo  mem) Q0 := ⟨fun b => b = a, fun _ h => h, wo_eq e⟩
  obtain ⟨QX, hQX⟩ : ∃ QX : Option mi_V → mi_M → Prop, QX = (fun r m' => ∃ x, r = some (vi x) ∧ x = a.1 ∧ m' = a.2) := ⟨_, rfl⟩
  rw [← hQX]
  unfold f_X11_undo at h
  refine x_aload_n (pc := 0) dX11_undo_0 rfl ?_
  refine x_getC (pc := 1) dX11_undo_1 fX11_26 rfl (by decide) ?_
  refine x_aload_n (pc := 4) dX11_undo_4 rfl ?_
  refine x_getC (pc := 5) dX11_undo_5 fX11_19 rfl (by decide) ?_
  refine y_Vi1 (pc := 8) h dX11_undo_8 lX11_202 (by decide) (by omega) rfl (fun a e => w_X3_stepBack _ (by decide) _ a e) (fun v1 m2 h => ?_)
  obtain ⟨hb3, h⟩ := wo_g h
  exact x_zretB (pc := 11) dX11_undo_11 rfl hb3 (by rw [hQX]; exact ⟨_, rfl, congrArg Prod.fst (hq0 _ (wo_some h)), congrArg Prod.snd (hq0 _ (wo_some h))⟩)
noncomputable def f_X0_tryAsks_J10 (p1 : Int32) (mem : mi_M) : Option (mi_M) := mi_g (vp_in p1 4) (mi_let (mi_wI mem 0 0 4 (mem.1 5 (0 * 0 + 22 + p1.toNatClampNeg) 1)) fun m2 => mi_let (mi_cp m2 14 0 15 0 3) fun m3 => some m3)
noncomputable def f_X0_tryAsks_J167 (l9 : Int32) (m12 : mi_M) : Option ((Int32 × mi_M) ⊕ (mi_M)) := some (.inl ((l9 + (1 : Int32)), m12))
noncomputable def f_X0_tryAsks_J145 (rc : (Nat → Int32 → Int32 → mi_M → Option (mi_M))) (p0 : Nat) (p1 : Int32) (p2 : Int32) (v7 : Nat) (l9 : Int32) (m15 : mi_M) (u16 : Int32) : Option ((Int32 × mi_M) ⊕ (mi_M)) := mi_g (vp_in p1 3) (mi_let (mi_wI m15 14 0 p1.toNatClampNeg u16) fun m18 => if (m18.1 0 0 4) ≤ (m18.1 5 v7 1) then f_X0_tryAsks_J167 l9 m18 else mi_bo (rc p0 (p1 + (1 : Int32)) p2 m18) fun m19 => f_X0_tryAsks_J167 l9 m19)
noncomputable def f_X0_tryAsks_J123 (rc : (Nat → Int32 → Int32 → mi_M → Option (mi_M))) (p0 : Nat) (p1 : Int32) (p2 : Int32) (v7 : Nat) (l9 : Int32) (u11 : Int32) (m14 : mi_M) : Option ((Int32 × mi_M) ⊕ (mi_M)) := mi_bo (f_X5_sleep v7 p0 m14) fun m15 => if u11 = 0 then f_X0_tryAsks_J145 rc p0 p1 p2 v7 l9 m15 (-1 : Int32) else f_X0_tryAsks_J145 rc p0 p1 p2 v7 l9 m15 l9
noncomputable def f_X0_tryAsks_J102 (rc : (Nat → Int32 → Int32 → mi_M → Option (mi_M))) (p0 : Nat) (p1 : Int32) (p2 : Int32) (v5 : Nat) (v7 : Nat) (l9 : Int32) (m10 : mi_M) (u11 : Int32) : Option ((Int32 × mi_M) ⊕ (mi_M)) := mi_bo (f_X5_become v7 v5 m10) fun m13 => if u11 = 0 then f_X0_tryAsks_J123 rc p0 p1 p2 v7 l9 u11 m13 else mi_bo (f_X5_beg v7 p0 l9 (0 : Int32) m13) fun m22 => f_X0_tryAsks_J123 rc p0 p1 p2 v7 l9 u11 m22
noncomputable def f_X0_tryAsks_J82 (rc : (Nat → Int32 → Int32 → mi_M → Option (mi_M))) (p0 : Nat) (p1 : Int32) (p2 : Int32) (v5 : Nat) (v7 : Nat) (l9 : Int32) (m10 : mi_M) (u11 : Int32) : Option ((Int32 × mi_M) ⊕ (mi_M)) := if u11 = 0 then f_X0_tryAsks_J102 rc p0 p1 p2 v5 v7 l9 m10 u11 else mi_bo (f_X5_isForgiven v5 l9 m10) fun v24 => if v24 = 0 then f_X0_tryAsks_J102 rc p0 p1 p2 v5 v7 l9 m10 u11 else f_X0_tryAsks_J167 l9 m10
noncomputable def f_X0_tryAsks_B59 (rc : (Nat → Int32 → Int32 → mi_M → Option (mi_M))) (p0 : Nat) (p1 : Int32) (p2 : Int32) (v5 : Nat) (v7 : Nat) : (Int32 × mi_M) → Option ((Int32 × mi_M) ⊕ (mi_M)) := fun s => match s with | (l9, m10) => if (m10.1 8 p0 1) < l9 then some (.inr m10) else if (m10.1 8 p0 1) ≤ l9 then f_X0_tryAsks_J82 rc p0 p1 p2 v5 v7 l9 m10 (0 : Int32) else f_X0_tryAsks_J82 rc p0 p1 p2 v5 v7 l9 m10 (1 : Int32)
noncomputable def f_X0_tryAsks_K59 : mi_M → Option (mi_M) := fun m8 => some m8
noncomputable def f_X0_tryAsks_ (rc : (Nat → Int32 → Int32 → mi_M → Option (mi_M))) (p0 : Nat) (p1 : Int32) (p2 : Int32) (mem : mi_M) : Option (mi_M) := if p2 ≤ p1 then f_X0_tryAsks_J10 p1 mem else if p1 < (3 : Int32) then mi_g (vp_in p1 4) (mi_let (0 * 0 + 22 + p1.toNatClampNeg) fun v5 => mi_g (vp_in (p1 + (1 : Int32)) 4) (mi_let (0 * 0 + 22 + (p1 + (1 : Int32)).toNatClampNeg) fun v7 => mi_bo (mi_lp (f_X0_tryAsks_B59 rc p0 p1 p2 v5 v7) mi_fu ((0 : Int32), mem)) (f_X0_tryAsks_K59))) else f_X0_tryAsks_J10 p1 mem
set_option maxRecDepth 100000 in
set_option maxHeartbeats 4000000 in
theorem w_X0_tryAsks_ (n : Nat) (rc : (Nat → Int32 → Int32 → mi_M → Option (mi_M))) (H0 : ∀ (p0 : Nat) (p1 : Int32) (p2 : Int32) (hp0 : p0 < mi_n 8) (mem : mi_M) (a : mi_M), rc p0 p1 p2 mem = some a → mi_Cv (6 + n) mX0_tryAsks [vr 0 0, vr 8 p0, vi p1, vi p2] mem (fun m' => m' = a)) (p0 : Nat) (p1 : Int32) (p2 : Int32) (hp0 : p0 < mi_n 8) (mem : mi_M) (a : mi_M) (e : f_X0_tryAsks_ rc p0 p1 p2 mem = some a) : mi_Cv (6 + (n + 1)) mX0_tryAsks [vr 0 0, vr 8 p0, vi p1, vi p2] mem (fun m' => m' = a) := by
  unfold mi_Cv
  refine mi_C_intro (ls := [(0, vr 0 0), (1, vr 8 p0), (2, vi p1), (3, vi p2)]) (by decide) rfl rfl ?_
  obtain ⟨Q0, hq0, h⟩ : ∃ Q0 : mi_M → Prop, (∀ b, Q0 b → b = a) ∧ wo (f_X0_tryAsks_ rc p0 p1 p2 mem) Q0 := ⟨fun b => b = a, fun _ h => h, wo_eq e⟩
  obtain ⟨QX, hQX⟩ : ∃ QX : Option mi_V → mi_M → Prop, QX = (fun r m' => r = none ∧ m' = a) := ⟨_, rfl⟩
  rw [← hQX]
  unfold f_X0_tryAsks_ at h
  refine x_iload_n (pc := 0) dX0_tryAsks_0 rfl ?_
  refine x_iload_n (pc := 1) dX0_tryAsks_1 rfl ?_
  have j10 : wo (f_X0_tryAsks_J10 p1 mem) Q0 → mi_X mX0_tryAsks (6 + (n + 1)) 10 [(0, vr 0 0), (2, vi p1)] [] mem QX := by
    intro h
    unfold f_X0_tryAsks_J10 at h
    refine x_aload_n (pc := 10) dX0_tryAsks_10 rfl ?_
    refine x_aload_n (pc := 11) dX0_tryAsks_11 rfl ?_
    refine x_getS (pc := 12) dX0_tryAsks_12 fX0_18 rfl (by decide) ?_
    refine x_iload_n (pc := 15) dX0_tryAsks_15 rfl ?_
    obtain ⟨hx1, h⟩ := wo_g h
    refine x_aaldStJ (pc := 16) dX0_tryAsks_16 rfl rfl (by decide) rfl hx1 ?_
    refine x_getI (pc := 17) dX0_tryAsks_17 fX0_65 rfl (by have h1 := (mi_vin hx1).1; have h2 : (0 : Nat) < 1 := (by decide); show _ < (26 : Nat); omega) ?_
    refine x_putI (pc := 20) dX0_tryAsks_20 fX0_69 rfl (by decide) rfl rfl ?_
    refine x_letm h (fun m2 h => ?_)
    refine x_aload_n (pc := 23) dX0_tryAsks_23 rfl ?_
    refine x_getS (pc := 24) dX0_tryAsks_24 fX0_22 rfl (by decide) ?_
    refine x_iconst (pc := 27) dX0_tryAsks_27 (v := (0 : Int32)) (by decide) ?_
    refine x_aload_n (pc := 28) dX0_tryAsks_28 rfl ?_
    refine x_getS (pc := 29) dX0_tryAsks_29 fX0_26 rfl (by decide) ?_
    refine x_iconst (pc := 32) dX0_tryAsks_32 (v := (0 : Int32)) (by decide) ?_
    refine x_iconst (pc := 33) dX0_tryAsks_33 (v := (3 : Int32)) (by decide) ?_
    refine x_acpy (pc := 34) (n := 3) dX0_tryAsks_34 lX0_80 (by omega) rfl rfl rfl rfl rfl (by decide) (by decide) (by decide) (by decide) rfl (by decide) ?_
    refine x_letm h (fun m3 h => ?_)
    exact x_ret (pc := 37) dX0_tryAsks_37 rfl (by rw [hQX]; exact ⟨rfl, hq0 _ (wo_some h)⟩)
  refine x_icmp_ge (pc := 2) dX0_tryAsks_2 (tgt := 10) (by decide) (fun c30 => ?_) (fun c30 => ?_)
  · replace h := wo_pos c30 h
    refine x_sub [(0, _), (2, _)] ⟨rfl, rfl, trivial⟩ ?_
    exact j10 h
  · replace h := wo_neg c30 h
    refine x_iload_n (pc := 5) dX0_tryAsks_5 rfl ?_
    refine x_iconst (pc := 6) dX0_tryAsks_6 (v := (3 : Int32)) (by decide) ?_
    refine x_icmp_lt (pc := 7) dX0_tryAsks_7 (tgt := 38) (by decide) (fun c29 => ?_) (fun c29 => ?_)
    · replace h := wo_pos c29 h
      refine x_aload_n (pc := 38) dX0_tryAsks_38 rfl ?_
      refine x_getS (pc := 39) dX0_tryAsks_39 fX0_18 rfl (by decide) ?_
      refine x_iload_n (pc := 42) dX0_tryAsks_42 rfl ?_
      obtain ⟨hx4, h⟩ := wo_g h
      refine x_aaldStJ (pc := 43) dX0_tryAsks_43 rfl rfl (by decide) rfl hx4 ?_
      refine x_letr (P := fun v => v < mi_n 5) h (by have h1 := (mi_vin hx4).1; have h2 : (0 : Nat) < 1 := (by decide); show _ < (26 : Nat); omega) (fun v5 hrv5 h => ?_)
      refine x_astore (ls' := [(4, _), (0, _), (1, _), (2, _), (3, _)]) (pc := 44) dX0_tryAsks_44 rfl rfl ?_
      refine x_aload_n (pc := 46) dX0_tryAsks_46 rfl ?_
      refine x_getS (pc := 47) dX0_tryAsks_47 fX0_18 rfl (by decide) ?_
      refine x_iload_n (pc := 50) dX0_tryAsks_50 rfl ?_
      refine x_iconst (pc := 51) dX0_tryAsks_51 (v := (1 : Int32)) (by decide) ?_
      refine x_iadd (pc := 52) dX0_tryAsks_52 ?_
      obtain ⟨hx6, h⟩ := wo_g h
      refine x_aaldStJ (pc := 53) dX0_tryAsks_53 rfl rfl (by decide) rfl hx6 ?_
      refine x_letr (P := fun v => v < mi_n 5) h (by have h1 := (mi_vin hx6).1; have h2 : (0 : Nat) < 1 := (by decide); show _ < (26 : Nat); omega) (fun v7 hrv7 h => ?_)
      refine x_astore (ls' := [(5, _), (4, _), (0, _), (1, _), (2, _), (3, _)]) (pc := 54) dX0_tryAsks_54 rfl rfl ?_
      refine x_iconst (pc := 56) dX0_tryAsks_56 (v := (0 : Int32)) (by decide) ?_
      refine x_istore (ls' := [(6, _), (5, _), (4, _), (0, _), (1, _), (2, _), (3, _)]) (pc := 57) dX0_tryAsks_57 rfl rfl ?_
      have k59_0 : ∀ (m8 : mi_M), wo (f_X0_tryAsks_K59 m8) Q0 → mi_X mX0_tryAsks (6 + (n + 1)) 173 [] [] m8 QX := by
        intro m8 h
        unfold f_X0_tryAsks_K59 at h
        try dsimp only at h
        exact x_ret (pc := 173) dX0_tryAsks_173 rfl (by rw [hQX]; exact ⟨rfl, hq0 _ (wo_some h)⟩)
      refine x_sub [(0, _), (1, _), (2, _), (3, _), (4, _), (5, _), (6, _)] ⟨rfl, rfl, rfl, rfl, rfl, rfl, rfl, trivial⟩ ?_
      obtain ⟨ea, eb, h⟩ := wo_bo h
      refine wo_lq (X := fun s => match s with | (l9, m10) => mi_X mX0_tryAsks (6 + (n + 1)) 59 [(0, vr 0 0), (1, vr 8 p0), (2, vi p1), (3, vi p2), (4, vr 5 v5), (5, vr 5 v7), (6, vi l9)] [] m10 QX) (E := fun e => wo (f_X0_tryAsks_K59 e) Q0) ?_ _ ((0 : Int32), mem) ⟨_, eb, h⟩
      intro Q59 hb59 he59 s h
      obtain ⟨l9, m10⟩ := s
      show mi_X mX0_tryAsks (6 + (n + 1)) 59 [(0, vr 0 0), (1, vr 8 p0), (2, vi p1), (3, vi p2), (4, vr 5 v5), (5, vr 5 v7), (6, vi l9)] [] m10 QX
      unfold f_X0_tryAsks_B59 at h
      try dsimp only at h
      refine x_iload (pc := 59) dX0_tryAsks_59 rfl ?_
      refine x_aload_n (pc := 61) dX0_tryAsks_61 rfl ?_
      refine x_getI (pc := 62) dX0_tryAsks_62 fX0_86 rfl hp0 ?_
      refine x_icmp_gt (pc := 65) dX0_tryAsks_65 (tgt := 173) (by decide) (fun c28 => ?_) (fun c28 => ?_)
      · replace h := wo_pos c28 h
        refine x_sub [] trivial ?_
        exact k59_0 _ (he59 m10 (wo_some h))
      · replace h := wo_neg c28 h
        refine x_iload (pc := 68) dX0_tryAsks_68 rfl ?_
        refine x_aload_n (pc := 70) dX0_tryAsks_70 rfl ?_
        refine x_getI (pc := 71) dX0_tryAsks_71 fX0_86 rfl hp0 ?_
        have j82 : ∀ (u11 : Int32), wo (f_X0_tryAsks_J82 rc p0 p1 p2 v5 v7 l9 m10 u11) Q59 → mi_X mX0_tryAsks (6 + (n + 1)) 82 [(0, vr 0 0), (1, vr 8 p0), (2, vi p1), (3, vi p2), (4, vr 5 v5), (5, vr 5 v7), (6, vi l9)] [vi u11] m10 QX := by
          intro u11 h
          unfold f_X0_tryAsks_J82 at h
          refine x_istore (ls' := [(7, _), (0, _), (1, _), (2, _), (3, _), (4, _), (5, _), (6, _)]) (pc := 82) dX0_tryAsks_82 rfl rfl ?_
          refine x_iload (pc := 84) dX0_tryAsks_84 rfl ?_
          have j167 : ∀ (m12 : mi_M), wo (f_X0_tryAsks_J167 l9 m12) Q59 → mi_X mX0_tryAsks (6 + (n + 1)) 167 [(0, vr 0 0), (1, vr 8 p0), (2, vi p1), (3, vi p2), (4, vr 5 v5), (5, vr 5 v7), (6, vi l9)] [] m12 QX := by
            intro m12 h
            unfold f_X0_tryAsks_J167 at h
            refine x_iinc (ls' := [(6, _), (0, _), (1, _), (2, _), (3, _), (4, _), (5, _)]) (pc := 167) dX0_tryAsks_167 rfl (v := l9 + (1 : Int32)) rfl rfl rfl ?_
            refine x_goto (pc := 170) dX0_tryAsks_170 (tgt := 59) (by decide) ?_
            refine x_sub [(0, _), (1, _), (2, _), (3, _), (4, _), (5, _), (6, _)] ⟨rfl, rfl, rfl, rfl, rfl, rfl, rfl, trivial⟩ ?_
            exact hb59 ((l9 + (1 : Int32)), m12) (wo_some h)
          have j102 : wo (f_X0_tryAsks_J102 rc p0 p1 p2 v5 v7 l9 m10 u11) Q59 → mi_X mX0_tryAsks (6 + (n + 1)) 102 [(0, vr 0 0), (1, vr 8 p0), (2, vi p1), (3, vi p2), (4, vr 5 v5), (5, vr 5 v7), (6, vi l9), (7, vi u11)] [] m10 QX := by
            intro h
            unfold f_X0_tryAsks_J102 at h
            refine x_aload (pc := 102) dX0_tryAsks_102 rfl ?_
            refine x_aload (pc := 104) dX0_tryAsks_104 rfl ?_
            refine y_Vv1 (pc := 106) h dX0_tryAsks_106 lX0_72 hrv7 (by omega) rfl (fun a e => w_X5_become _ _ hrv7 hrv5 _ a e) (fun m13 h => ?_)
            refine x_iload (pc := 109) dX0_tryAsks_109 rfl ?_
            have j123 : ∀ (m14 : mi_M), wo (f_X0_tryAsks_J123 rc p0 p1 p2 v7 l9 u11 m14) Q59 → mi_X mX0_tryAsks (6 + (n + 1)) 123 [(0, vr 0 0), (1, vr 8 p0), (2, vi p1), (3, vi p2), (4, vr 5 v5), (5, vr 5 v7), (6, vi l9), (7, vi u11)] [] m14 QX := by
              intro m14 h
              unfold f_X0_tryAsks_J123 at h
              refine x_aload (pc := 123) dX0_tryAsks_123 rfl ?_
              refine x_aload_n (pc := 125) dX0_tryAsks_125 rfl ?_
              refine y_Vv1 (pc := 126) h dX0_tryAsks_126 lX0_98 hrv7 (by omega) rfl (fun a e => w_X5_sleep _ _ hrv7 hp0 _ a e) (fun m15 h => ?_)
              refine x_aload_n (pc := 129) dX0_tryAsks_129 rfl ?_
              refine x_getS (pc := 130) dX0_tryAsks_130 fX0_22 rfl (by decide) ?_
              refine x_iload_n (pc := 133) dX0_tryAsks_133 rfl ?_
              refine x_iload (pc := 134) dX0_tryAsks_134 rfl ?_
              have j145 : ∀ (u16 : Int32), wo (f_X0_tryAsks_J145 rc p0 p1 p2 v7 l9 m15 u16) Q59 → mi_X mX0_tryAsks (6 + (n + 1)) 145 [(0, vr 0 0), (1, vr 8 p0), (2, vi p1), (3, vi p2), (4, vr 5 v5), (5, vr 5 v7), (6, vi l9)] [vi u16, vi p1, vr 14 0] m15 QX := by
                intro u16 h
                unfold f_X0_tryAsks_J145 at h
                obtain ⟨hx17, h⟩ := wo_g h
                refine x_iastJ (pc := 145) dX0_tryAsks_145 rfl rfl (by decide) rfl hx17 ?_
                refine x_letm h (fun m18 h => ?_)
                refine x_aload (pc := 146) dX0_tryAsks_146 rfl ?_
                refine x_getI (pc := 148) dX0_tryAsks_148 fX0_65 rfl hrv7 ?_
                refine x_aload_n (pc := 151) dX0_tryAsks_151 rfl ?_
                refine x_getI (pc := 152) dX0_tryAsks_152 fX0_69 rfl (by decide) ?_
                refine x_icmp_ge (pc := 155) dX0_tryAsks_155 (tgt := 167) (by decide) (fun c20 => ?_) (fun c20 => ?_)
                · replace h := wo_pos c20 h
                  refine x_sub [(0, _), (1, _), (2, _), (3, _), (4, _), (5, _), (6, _)] ⟨rfl, rfl, rfl, rfl, rfl, rfl, rfl, trivial⟩ ?_
                  exact j167 _ h
                · replace h := wo_neg c20 h
                  refine x_aload_n (pc := 158) dX0_tryAsks_158 rfl ?_
                  refine x_aload_n (pc := 159) dX0_tryAsks_159 rfl ?_
                  refine x_iload_n (pc := 160) dX0_tryAsks_160 rfl ?_
                  refine x_iconst (pc := 161) dX0_tryAsks_161 (v := (1 : Int32)) (by decide) ?_
                  refine x_iadd (pc := 162) dX0_tryAsks_162 ?_
                  refine x_iload_n (pc := 163) dX0_tryAsks_163 rfl ?_
                  refine y_Vv3 (pc := 164) h dX0_tryAsks_164 lX0_76 (by decide) (by omega) rfl (fun a e => H0 _ _ _ hp0 _ a e) (fun m19 h => ?_)
                  refine x_sub [(0, _), (1, _), (2, _), (3, _), (4, _), (5, _), (6, _)] ⟨rfl, rfl, rfl, rfl, rfl, rfl, rfl, trivial⟩ ?_
                  exact j167 _ h
              refine x_if_eq (pc := 136) dX0_tryAsks_136 (tgt := 144) (by decide) (fun c21 => ?_) (fun c21 => ?_)
              · replace h := wo_pos c21 h
                refine x_iconst (pc := 144) dX0_tryAsks_144 (v := (-1 : Int32)) (by decide) ?_
                refine x_sub [(0, _), (1, _), (2, _), (3, _), (4, _), (5, _), (6, _)] ⟨rfl, rfl, rfl, rfl, rfl, rfl, rfl, trivial⟩ ?_
                exact j145 _ h
              · replace h := wo_neg c21 h
                refine x_iload (pc := 139) dX0_tryAsks_139 rfl ?_
                refine x_goto (pc := 141) dX0_tryAsks_141 (tgt := 145) (by decide) ?_
                refine x_sub [(0, _), (1, _), (2, _), (3, _), (4, _), (5, _), (6, _)] ⟨rfl, rfl, rfl, rfl, rfl, rfl, rfl, trivial⟩ ?_
                exact j145 _ h
            refine x_if_eq (pc := 111) dX0_tryAsks_111 (tgt := 123) (by decide) (fun c23 => ?_) (fun c23 => ?_)
            · replace h := wo_pos c23 h
              refine x_sub [(0, _), (1, _), (2, _), (3, _), (4, _), (5, _), (6, _), (7, _)] ⟨rfl, rfl, rfl, rfl, rfl, rfl, rfl, rfl, trivial⟩ ?_
              exact j123 _ h
            · replace h := wo_neg c23 h
              refine x_aload (pc := 114) dX0_tryAsks_114 rfl ?_
              refine x_aload_n (pc := 116) dX0_tryAsks_116 rfl ?_
              refine x_iload (pc := 117) dX0_tryAsks_117 rfl ?_
              refine x_iconst (pc := 119) dX0_tryAsks_119 (v := (0 : Int32)) (by decide) ?_
              refine y_Vv3 (pc := 120) h dX0_tryAsks_120 lX0_95 hrv7 (by omega) rfl (fun a e => w_X5_beg _ _ _ _ hrv7 hp0 _ a e) (fun m22 h => ?_)
              refine x_sub [(0, _), (1, _), (2, _), (3, _), (4, _), (5, _), (6, _), (7, _)] ⟨rfl, rfl, rfl, rfl, rfl, rfl, rfl, rfl, trivial⟩ ?_
              exact j123 _ h
          refine x_if_eq (pc := 86) dX0_tryAsks_86 (tgt := 102) (by decide) (fun c26 => ?_) (fun c26 => ?_)
          · replace h := wo_pos c26 h
            refine x_sub [(0, _), (1, _), (2, _), (3, _), (4, _), (5, _), (6, _), (7, _)] ⟨rfl, rfl, rfl, rfl, rfl, rfl, rfl, rfl, trivial⟩ ?_
            exact j102 h
          · replace h := wo_neg c26 h
            refine x_aload (pc := 89) dX0_tryAsks_89 rfl ?_
            refine x_iload (pc := 91) dX0_tryAsks_91 rfl ?_
            refine z_Vi1 (pc := 93) h dX0_tryAsks_93 lX0_91 hrv5 (by omega) rfl (fun a e => w_X5_isForgiven _ _ hrv5 _ a e) (fun v24 h => ?_)
            refine x_if_eq (pc := 96) dX0_tryAsks_96 (tgt := 102) (by decide) (fun c25 => ?_) (fun c25 => ?_)
            · replace h := wo_pos c25 h
              refine x_sub [(0, _), (1, _), (2, _), (3, _), (4, _), (5, _), (6, _), (7, _)] ⟨rfl, rfl, rfl, rfl, rfl, rfl, rfl, rfl, trivial⟩ ?_
              exact j102 h
            · replace h := wo_neg c25 h
              refine x_goto (pc := 99) dX0_tryAsks_99 (tgt := 167) (by decide) ?_
              refine x_sub [(0, _), (1, _), (2, _), (3, _), (4, _), (5, _), (6, _)] ⟨rfl, rfl, rfl, rfl, rfl, rfl, rfl, trivial⟩ ?_
              exact j167 _ h
        refine x_icmp_ge (pc := 74) dX0_tryAsks_74 (tgt := 81) (by decide) (fun c27 => ?_) (fun c27 => ?_)
        · replace h := wo_pos c27 h
          refine x_iconst (pc := 81) dX0_tryAsks_81 (v := (0 : Int32)) (by decide) ?_
          refine x_sub [(0, _), (1, _), (2, _), (3, _), (4, _), (5, _), (6, _)] ⟨rfl, rfl, rfl, rfl, rfl, rfl, rfl, trivial⟩ ?_
          exact j82 _ h
        · replace h := wo_neg c27 h
          refine x_iconst (pc := 77) dX0_tryAsks_77 (v := (1 : Int32)) (by decide) ?_
          refine x_goto (pc := 78) dX0_tryAsks_78 (tgt := 82) (by decide) ?_
          refine x_sub [(0, _), (1, _), (2, _), (3, _), (4, _), (5, _), (6, _)] ⟨rfl, rfl, rfl, rfl, rfl, rfl, rfl, trivial⟩ ?_
          exact j82 _ h
    · replace h := wo_neg c29 h
      refine x_sub [(0, _), (2, _)] ⟨rfl, rfl, trivial⟩ ?_
      exact j10 h
noncomputable def fg_X0_tryAsks : Nat → (Nat → Int32 → Int32 → mi_M → Option (mi_M))
  | 0 => (fun _ _ _ _ => none)
  | n + 1 => (f_X0_tryAsks_ (fg_X0_tryAsks n))
theorem wg_X0_tryAsks : ∀ n : Nat, (∀ (p0 : Nat) (p1 : Int32) (p2 : Int32) (hp0 : p0 < mi_n 8) (mem : mi_M) (a : mi_M), (fg_X0_tryAsks n) p0 p1 p2 mem = some a → mi_Cv (6 + n) mX0_tryAsks [vr 0 0, vr 8 p0, vi p1, vi p2] mem (fun m' => m' = a))
  | 0 => fun _ _ _ _ _ _ e => (by cases e)
  | n + 1 => w_X0_tryAsks_ n (fg_X0_tryAsks n) (wg_X0_tryAsks n)
noncomputable def f_X0_tryAsks (p0 : Nat) (p1 : Int32) (p2 : Int32) (mem : mi_M) : Option (mi_M) := (fg_X0_tryAsks mi_dp) p0 p1 p2 mem
theorem w_X0_tryAsks (p0 : Nat) (p1 : Int32) (p2 : Int32) (hp0 : p0 < mi_n 8) (mem : mi_M) (a : mi_M) (e : f_X0_tryAsks p0 p1 p2 mem = some a) : mi_Cv (46) mX0_tryAsks [vr 0 0, vr 8 p0, vi p1, vi p2] mem (fun m' => m' = a) := (wg_X0_tryAsks mi_dp) p0 p1 p2 hp0 mem a e
noncomputable def f_X0_bestAsks_J54 (m6 : mi_M) (u7 : Int32) : Option (Int32 × mi_M) := some (u7, m6)
noncomputable def f_X0_bestAsks (p0 : Nat) (p1 : Nat) (p2 : Int32) (p3 : Int32) (mem : mi_M) : Option (Int32 × mi_M) := mi_let (mi_wI mem 0 0 4 (1048576 : Int32)) fun m1 => mi_g (vp_in (0 : Int32) 4) (mi_bo (f_X5_become (0 * 0 + 22 + (0 : Int32).toNatClampNeg) p1 m1) fun m3 => mi_g (vp_in (0 : Int32) 4) (mi_let (mi_wI m3 5 (0 * 0 + 22 + (0 : Int32).toNatClampNeg) 1 (0 : Int32)) fun m5 => mi_bo (f_X0_tryAsks p0 (0 : Int32) p2 m5) fun m6 => if p3 = 0 then f_X0_bestAsks_J54 m6 (m6.1 0 0 4) else mi_g (vp_in (p3 - (1 : Int32)) 3) (f_X0_bestAsks_J54 m6 (m6.1 15 0 (p3 - (1 : Int32)).toNatClampNeg))))
set_option maxRecDepth 100000 in
set_option maxHeartbeats 4000000 in
theorem w_X0_bestAsks (p0 : Nat) (p1 : Nat) (p2 : Int32) (p3 : Int32) (hp0 : p0 < mi_n 8) (hp1 : p1 < mi_n 5) (mem : mi_M) (a : Int32 × mi_M) (e : f_X0_bestAsks p0 p1 p2 p3 mem = some a) : mi_Ci (47) mX0_bestAsks [vr 0 0, vr 8 p0, vr 5 p1, vi p2, vi p3] mem (fun x m' => x = a.1 ∧ m' = a.2) := by
  unfold mi_Ci
  refine mi_C_intro (ls := [(0, vr 0 0), (1, vr 8 p0), (2, vr 5 p1), (3, vi p2), (4, vi p3)]) (by decide) rfl rfl ?_
  obtain ⟨Q0, hq0, h⟩ : ∃ Q0 : (Int32 × mi_M) → Prop, (∀ b, Q0 b → b = a) ∧ wo (f_X0_bestAsks p0 p1 p2 p3 mem) Q0 := ⟨fun b => b = a, fun _ h => h, wo_eq e⟩
  obtain ⟨QX, hQX⟩ : ∃ QX : Option mi_V → mi_M → Prop, QX = (fun r m' => ∃ x, r = some (vi x) ∧ x = a.1 ∧ m' = a.2) := ⟨_, rfl⟩
  rw [← hQX]
  unfold f_X0_bestAsks at h
  refine x_aload_n (pc := 0) dX0_bestAsks_0 rfl ?_
  refine x_ldc (pc := 1) dX0_bestAsks_1 kX0_68 ?_
  refine x_putI (pc := 3) dX0_bestAsks_3 fX0_69 rfl (by decide) rfl rfl ?_
  refine x_letm h (fun m1 h => ?_)
  refine x_aload_n (pc := 6) dX0_bestAsks_6 rfl ?_
  refine x_getS (pc := 7) dX0_bestAsks_7 fX0_18 rfl (by decide) ?_
  refine x_iconst (pc := 10) dX0_bestAsks_10 (v := (0 : Int32)) (by decide) ?_
  obtain ⟨hx2, h⟩ := wo_g h
  refine x_aaldStJ (pc := 11) dX0_bestAsks_11 rfl rfl (by decide) rfl hx2 ?_
  refine x_aload_n (pc := 12) dX0_bestAsks_12 rfl ?_
  refine y_Vv1 (pc := 13) h dX0_bestAsks_13 lX0_72 (by have h1 := (mi_vin hx2).1; have h2 : (0 : Nat) < 1 := (by decide); show _ < (26 : Nat); omega) (by omega) rfl (fun a e => w_X5_become _ _ (by have h1 := (mi_vin hx2).1; have h2 : (0 : Nat) < 1 := (by decide); show _ < (26 : Nat); omega) hp1 _ a e) (fun m3 h => ?_)
  refine x_aload_n (pc := 16) dX0_bestAsks_16 rfl ?_
  refine x_getS (pc := 17) dX0_bestAsks_17 fX0_18 rfl (by decide) ?_
  refine x_iconst (pc := 20) dX0_bestAsks_20 (v := (0 : Int32)) (by decide) ?_
  obtain ⟨hx4, h⟩ := wo_g h
  refine x_aaldStJ (pc := 21) dX0_bestAsks_21 rfl rfl (by decide) rfl hx4 ?_
  refine x_iconst (pc := 22) dX0_bestAsks_22 (v := (0 : Int32)) (by decide) ?_
  refine x_putI (pc := 23) dX0_bestAsks_23 fX0_65 rfl (by have h1 := (mi_vin hx4).1; have h2 : (0 : Nat) < 1 := (by decide); show _ < (26 : Nat); omega) rfl rfl ?_
  refine x_letm h (fun m5 h => ?_)
  refine x_aload_n (pc := 26) dX0_bestAsks_26 rfl ?_
  refine x_aload_n (pc := 27) dX0_bestAsks_27 rfl ?_
  refine x_iconst (pc := 28) dX0_bestAsks_28 (v := (0 : Int32)) (by decide) ?_
  refine x_iload_n (pc := 29) dX0_bestAsks_29 rfl ?_
  refine y_Vv3 (pc := 30) h dX0_bestAsks_30 lX0_76 (by decide) (by omega) rfl (fun a e => w_X0_tryAsks _ _ _ hp0 _ a e) (fun m6 h => ?_)
  refine x_iload (pc := 33) dX0_bestAsks_33 rfl ?_
  have j54 : ∀ (u7 : Int32), wo (f_X0_bestAsks_J54 m6 u7) Q0 → mi_X mX0_bestAsks (47) 54 [] [vi u7] m6 QX := by
    intro u7 h
    unfold f_X0_bestAsks_J54 at h
    exact x_iret (pc := 54) dX0_bestAsks_54 rfl (by rw [hQX]; exact ⟨_, rfl, congrArg Prod.fst (hq0 _ (wo_some h)), congrArg Prod.snd (hq0 _ (wo_some h))⟩)
  refine x_if_ne (pc := 35) dX0_bestAsks_35 (tgt := 45) (by decide) (fun c9 => ?_) (fun c9 => ?_)
  · replace h := wo_neg c9 h
    refine x_aload_n (pc := 45) dX0_bestAsks_45 rfl ?_
    refine x_getS (pc := 46) dX0_bestAsks_46 fX0_26 rfl (by decide) ?_
    refine x_iload (pc := 49) dX0_bestAsks_49 rfl ?_
    refine x_iconst (pc := 51) dX0_bestAsks_51 (v := (1 : Int32)) (by decide) ?_
    refine x_isub (pc := 52) dX0_bestAsks_52 ?_
    obtain ⟨hx8, h⟩ := wo_g h
    refine x_ialdJ (pc := 53) dX0_bestAsks_53 rfl rfl (by decide) hx8 ?_
    refine x_sub [] trivial ?_
    exact j54 _ h
  · replace h := wo_pos c9 h
    refine x_aload_n (pc := 38) dX0_bestAsks_38 rfl ?_
    refine x_getI (pc := 39) dX0_bestAsks_39 fX0_69 rfl (by decide) ?_
    refine x_goto (pc := 42) dX0_bestAsks_42 (tgt := 54) (by decide) ?_
    refine x_sub [] trivial ?_
    exact j54 _ h
noncomputable def f_X11_when_J18 (mem : mi_M) : Option (Int32 × mi_M) := some ((-2 : Int32), mem)
noncomputable def f_X11_when (p0 : Int32) (p1 : Int32) (mem : mi_M) : Option (Int32 × mi_M) := mi_bo (f_X11_isWithin p0 (1 : Int32) (3 : Int32) mem) fun v1 => if v1 = 0 then f_X11_when_J18 mem else mi_bo (f_X11_isWithin p1 (0 : Int32) p0 mem) fun v2 => if v2 = 0 then f_X11_when_J18 mem else mi_g (mem.2.2 0 < mi_n 8) (mi_b (f_X0_bestAsks (mem.2.2 0) 0 p0 p1 mem) fun v4 m5 => some (v4, m5))
set_option maxRecDepth 100000 in
set_option maxHeartbeats 4000000 in
theorem w_X11_when (p0 : Int32) (p1 : Int32) (mem : mi_M) (a : Int32 × mi_M) (e : f_X11_when p0 p1 mem = some a) : mi_Ci (48) mX11_when [vr 11 0, vi p0, vi p1] mem (fun x m' => x = a.1 ∧ m' = a.2) := by
  unfold mi_Ci
  refine mi_C_intro (ls := [(0, vr 11 0), (1, vi p0), (2, vi p1)]) (by decide) rfl rfl ?_
  obtain ⟨Q0, hq0, h⟩ : ∃ Q0 : (Int32 × mi_M) → Prop, (∀ b, Q0 b → b = a) ∧ wo (f_X11_when p0 p1 mem) Q0 := ⟨fun b => b = a, fun _ h => h, wo_eq e⟩
  obtain ⟨QX, hQX⟩ : ∃ QX : Option mi_V → mi_M → Prop, QX = (fun r m' => ∃ x, r = some (vi x) ∧ x = a.1 ∧ m' = a.2) := ⟨_, rfl⟩
  rw [← hQX]
  unfold f_X11_when at h
  refine x_iload_n (pc := 0) dX11_when_0 rfl ?_
  refine x_iconst (pc := 1) dX11_when_1 (v := (1 : Int32)) (by decide) ?_
  refine x_iconst (pc := 2) dX11_when_2 (v := (3 : Int32)) (by decide) ?_
  refine z_Si3 (pc := 3) h dX11_when_3 lX11_155 (by omega) rfl (fun a e => w_X11_isWithin _ _ _ _ a e) (fun v1 h => ?_)
  have j18 : wo (f_X11_when_J18 mem) Q0 → mi_X mX11_when (48) 18 [] [] mem QX := by
    intro h
    unfold f_X11_when_J18 at h
    refine x_bipush (pc := 18) dX11_when_18 (v := (-2 : Int32)) (by decide) ?_
    exact x_iret (pc := 20) dX11_when_20 rfl (by rw [hQX]; exact ⟨_, rfl, congrArg Prod.fst (hq0 _ (wo_some h)), congrArg Prod.snd (hq0 _ (wo_some h))⟩)
  refine x_if_eq (pc := 6) dX11_when_6 (tgt := 18) (by decide) (fun c7 => ?_) (fun c7 => ?_)
  · replace h := wo_pos c7 h
    refine x_sub [] trivial ?_
    exact j18 h
  · replace h := wo_neg c7 h
    refine x_iload_n (pc := 9) dX11_when_9 rfl ?_
    refine x_iconst (pc := 10) dX11_when_10 (v := (0 : Int32)) (by decide) ?_
    refine x_iload_n (pc := 11) dX11_when_11 rfl ?_
    refine z_Si3 (pc := 12) h dX11_when_12 lX11_155 (by omega) rfl (fun a e => w_X11_isWithin _ _ _ _ a e) (fun v2 h => ?_)
    refine x_if_ne (pc := 15) dX11_when_15 (tgt := 21) (by decide) (fun c6 => ?_) (fun c6 => ?_)
    · replace h := wo_neg c6 h
      refine x_aload_n (pc := 21) dX11_when_21 rfl ?_
      refine x_getC (pc := 22) dX11_when_22 fX11_40 rfl (by decide) ?_
      refine x_aload_n (pc := 25) dX11_when_25 rfl ?_
      obtain ⟨hm3, h⟩ := wo_g h
      refine x_getM (pc := 26) dX11_when_26 fX11_54 rfl (by decide) ?_
      refine x_aload_n (pc := 29) dX11_when_29 rfl ?_
      refine x_getC (pc := 30) dX11_when_30 fX11_19 rfl (by decide) ?_
      refine x_iload_n (pc := 33) dX11_when_33 rfl ?_
      refine x_iload_n (pc := 34) dX11_when_34 rfl ?_
      refine y_Vi4 (pc := 35) h dX11_when_35 lX11_214 (by decide) (by omega) rfl (fun a e => w_X0_bestAsks _ _ _ _ hm3 (by decide) _ a e) (fun v4 m5 h => ?_)
      exact x_iret (pc := 38) dX11_when_38 rfl (by rw [hQX]; exact ⟨_, rfl, congrArg Prod.fst (hq0 _ (wo_some h)), congrArg Prod.snd (hq0 _ (wo_some h))⟩)
    · replace h := wo_pos c6 h
      refine x_sub [] trivial ?_
      exact j18 h
noncomputable def f_X2_chanceOf_J49 (l3 : Int32) (u5 : Int32) : Option ((Int32 × Int32) ⊕ (Int32)) := some (.inl (u5, (l3 + (1 : Int32))))
noncomputable def f_X2_chanceOf_J47 (l2 : Int32) (l3 : Int32) (u7 : Int32) : Option ((Int32 × Int32) ⊕ (Int32)) := mi_let (l2 * u7) fun v8 => f_X2_chanceOf_J49 l3 v8
noncomputable def f_X2_chanceOf_B5 (p0 : Int32) (p1 : Int32) (p2 : Int32) (mem : mi_M) : (Int32 × Int32) → Option ((Int32 × Int32) ⊕ (Int32)) := fun s => match s with | (l2, l3) => if (6 : Int32) ≤ l3 then some (.inr l2) else mi_bo (f_X11_holds p1 l3 mem) fun v4 => if v4 = 0 then mi_let (l2 * (10 : Int32)) fun v10 => f_X2_chanceOf_J49 l3 v10 else mi_bo (f_X11_holds p2 l3 mem) fun v6 => if v6 = 0 then f_X2_chanceOf_J47 l2 l3 p0 else f_X2_chanceOf_J47 l2 l3 ((10 : Int32) - p0)
noncomputable def f_X2_chanceOf_K5 : Int32 → Option (Int32) := fun e1 => some e1
noncomputable def f_X2_chanceOf (p0 : Int32) (p1 : Int32) (p2 : Int32) (mem : mi_M) : Option (Int32) := mi_bo (mi_lp (f_X2_chanceOf_B5 p0 p1 p2 mem) mi_fu ((1 : Int32), (0 : Int32))) (f_X2_chanceOf_K5)
set_option maxRecDepth 100000 in
set_option maxHeartbeats 4000000 in
theorem w_X2_chanceOf (p0 : Int32) (p1 : Int32) (p2 : Int32) (mem : mi_M) (a : Int32) (e : f_X2_chanceOf p0 p1 p2 mem = some a) : mi_Ci (2) mX2_chanceOf [vi p0, vi p1, vi p2] mem (fun x m' => x = a ∧ m' = mem) := by
  unfold mi_Ci
  refine mi_C_intro (ls := [(0, vi p0), (1, vi p1), (2, vi p2)]) (by decide) rfl rfl ?_
  obtain ⟨Q0, hq0, h⟩ : ∃ Q0 : Int32 → Prop, (∀ b, Q0 b → b = a) ∧ wo (f_X2_chanceOf p0 p1 p2 mem) Q0 := ⟨fun b => b = a, fun _ h => h, wo_eq e⟩
  obtain ⟨QX, hQX⟩ : ∃ QX : Option mi_V → mi_M → Prop, QX = (fun r m' => ∃ x, r = some (vi x) ∧ x = a ∧ m' = mem) := ⟨_, rfl⟩
  rw [← hQX]
  unfold f_X2_chanceOf at h
  refine x_iconst (pc := 0) dX2_chanceOf_0 (v := (1 : Int32)) (by decide) ?_
  refine x_istore_n (ls' := [(3, _), (0, _), (1, _), (2, _)]) (pc := 1) dX2_chanceOf_1 rfl rfl rfl ?_
  refine x_iconst (pc := 2) dX2_chanceOf_2 (v := (0 : Int32)) (by decide) ?_
  refine x_istore (ls' := [(4, _), (3, _), (0, _), (1, _), (2, _)]) (pc := 3) dX2_chanceOf_3 rfl rfl ?_
  have k5_0 : ∀ (e1 : Int32), wo (f_X2_chanceOf_K5 e1) Q0 → mi_X mX2_chanceOf (2) 55 [(3, vi e1)] [] mem QX := by
    intro e1 h
    unfold f_X2_chanceOf_K5 at h
    try dsimp only at h
    refine x_iload_n (pc := 55) dX2_chanceOf_55 rfl ?_
    exact x_iret (pc := 56) dX2_chanceOf_56 rfl (by rw [hQX]; exact ⟨_, rfl, hq0 _ (wo_some h), rfl⟩)
  refine x_sub [(0, _), (1, _), (2, _), (3, _), (4, _)] ⟨rfl, rfl, rfl, rfl, rfl, trivial⟩ ?_
  obtain ⟨ea, eb, h⟩ := wo_bo h
  refine wo_lq (X := fun s => match s with | (l2, l3) => mi_X mX2_chanceOf (2) 5 [(0, vi p0), (1, vi p1), (2, vi p2), (3, vi l2), (4, vi l3)] [] mem QX) (E := fun e => wo (f_X2_chanceOf_K5 e) Q0) ?_ _ ((1 : Int32), (0 : Int32)) ⟨_, eb, h⟩
  intro Q5 hb5 he5 s h
  obtain ⟨l2, l3⟩ := s
  show mi_X mX2_chanceOf (2) 5 [(0, vi p0), (1, vi p1), (2, vi p2), (3, vi l2), (4, vi l3)] [] mem QX
  unfold f_X2_chanceOf_B5 at h
  try dsimp only at h
  refine x_iload (pc := 5) dX2_chanceOf_5 rfl ?_
  refine x_bipush (pc := 7) dX2_chanceOf_7 (v := (6 : Int32)) (by decide) ?_
  refine x_icmp_ge (pc := 9) dX2_chanceOf_9 (tgt := 55) (by decide) (fun c12 => ?_) (fun c12 => ?_)
  · replace h := wo_pos c12 h
    refine x_sub [(3, _)] ⟨rfl, trivial⟩ ?_
    exact k5_0 _ (he5 l2 (wo_some h))
  · replace h := wo_neg c12 h
    refine x_iload_n (pc := 12) dX2_chanceOf_12 rfl ?_
    refine x_iload (pc := 13) dX2_chanceOf_13 rfl ?_
    refine z_Ni2 (pc := 15) h dX2_chanceOf_15 nX2_96 (by omega) rfl (fun a e => w_X11_holds _ _ _ a e) (fun v4 h => ?_)
    have j49 : ∀ (u5 : Int32), wo (f_X2_chanceOf_J49 l3 u5) Q5 → mi_X mX2_chanceOf (2) 49 [(0, vi p0), (1, vi p1), (2, vi p2), (3, vi u5), (4, vi l3)] [] mem QX := by
      intro u5 h
      unfold f_X2_chanceOf_J49 at h
      refine x_iinc (ls' := [(4, _), (0, _), (1, _), (2, _), (3, _)]) (pc := 49) dX2_chanceOf_49 rfl (v := l3 + (1 : Int32)) rfl rfl rfl ?_
      refine x_goto (pc := 52) dX2_chanceOf_52 (tgt := 5) (by decide) ?_
      refine x_sub [(0, _), (1, _), (2, _), (3, _), (4, _)] ⟨rfl, rfl, rfl, rfl, rfl, trivial⟩ ?_
      exact hb5 (u5, (l3 + (1 : Int32))) (wo_some h)
    refine x_if_ne (pc := 18) dX2_chanceOf_18 (tgt := 29) (by decide) (fun c11 => ?_) (fun c11 => ?_)
    · replace h := wo_neg c11 h
      refine x_iload_n (pc := 29) dX2_chanceOf_29 rfl ?_
      refine x_iload_n (pc := 30) dX2_chanceOf_30 rfl ?_
      refine x_iload (pc := 31) dX2_chanceOf_31 rfl ?_
      refine z_Ni2 (pc := 33) h dX2_chanceOf_33 nX2_96 (by omega) rfl (fun a e => w_X11_holds _ _ _ a e) (fun v6 h => ?_)
      have j47 : ∀ (u7 : Int32), wo (f_X2_chanceOf_J47 l2 l3 u7) Q5 → mi_X mX2_chanceOf (2) 47 [(0, vi p0), (1, vi p1), (2, vi p2), (4, vi l3)] [vi u7, vi l2] mem QX := by
        intro u7 h
        unfold f_X2_chanceOf_J47 at h
        refine x_imul (pc := 47) dX2_chanceOf_47 ?_
        refine x_leti h (fun v8 h => ?_)
        refine x_istore_n (ls' := [(3, _), (0, _), (1, _), (2, _), (4, _)]) (pc := 48) dX2_chanceOf_48 rfl rfl rfl ?_
        refine x_sub [(0, _), (1, _), (2, _), (3, _), (4, _)] ⟨rfl, rfl, rfl, rfl, rfl, trivial⟩ ?_
        exact j49 _ h
      refine x_if_eq (pc := 36) dX2_chanceOf_36 (tgt := 46) (by decide) (fun c9 => ?_) (fun c9 => ?_)
      · replace h := wo_pos c9 h
        refine x_iload_n (pc := 46) dX2_chanceOf_46 rfl ?_
        refine x_sub [(0, _), (1, _), (2, _), (4, _)] ⟨rfl, rfl, rfl, rfl, trivial⟩ ?_
        exact j47 _ h
      · replace h := wo_neg c9 h
        refine x_bipush (pc := 39) dX2_chanceOf_39 (v := (10 : Int32)) (by decide) ?_
        refine x_iload_n (pc := 41) dX2_chanceOf_41 rfl ?_
        refine x_isub (pc := 42) dX2_chanceOf_42 ?_
        refine x_goto (pc := 43) dX2_chanceOf_43 (tgt := 47) (by decide) ?_
        refine x_sub [(0, _), (1, _), (2, _), (4, _)] ⟨rfl, rfl, rfl, rfl, trivial⟩ ?_
        exact j47 _ h
    · replace h := wo_pos c11 h
      refine x_iload_n (pc := 21) dX2_chanceOf_21 rfl ?_
      refine x_bipush (pc := 22) dX2_chanceOf_22 (v := (10 : Int32)) (by decide) ?_
      refine x_imul (pc := 24) dX2_chanceOf_24 ?_
      refine x_leti h (fun v10 h => ?_)
      refine x_istore_n (ls' := [(3, _), (0, _), (1, _), (2, _), (4, _)]) (pc := 25) dX2_chanceOf_25 rfl rfl rfl ?_
      refine x_goto (pc := 26) dX2_chanceOf_26 (tgt := 49) (by decide) ?_
      refine x_sub [(0, _), (1, _), (2, _), (3, _), (4, _)] ⟨rfl, rfl, rfl, rfl, rfl, trivial⟩ ?_
      exact j49 _ h
noncomputable def f_X2_chanceInWind_J61 (l5 : Int32) (u8 : Int32) (m9 : mi_M) : Option ((Int32 × Int32 × mi_M) ⊕ (Int32 × mi_M)) := some (.inl (u8, (l5 + (1 : Int32)), m9))
noncomputable def f_X2_chanceInWind_B13 (p0 : Nat) (p2 : Int32) (p3 : Int32) (v1 : Int32) : (Int32 × Int32 × mi_M) → Option ((Int32 × Int32 × mi_M) ⊕ (Int32 × mi_M)) := fun s => match s with | (l4, l5, m6) => if (64 : Int32) ≤ l5 then some (.inr (l4, m6)) else mi_bo (f_X11_isPartOf l5 v1 m6) fun v7 => if v7 = 0 then f_X2_chanceInWind_J61 l5 l4 m6 else mi_b (f_X9_isLit p0 l5 p2 p3 m6) fun v10 m11 => if v10 = 0 then f_X2_chanceInWind_J61 l5 l4 m11 else mi_bo (f_X2_chanceOf (m11.1 8 p0 3) v1 l5 m11) fun v12 => mi_let (l4 + v12) fun v13 => f_X2_chanceInWind_J61 l5 v13 m11
noncomputable def f_X2_chanceInWind_K13 : (Int32 × mi_M) → Option (Int32 × mi_M) := fun e => match e with | (e2, m3) => some (e2, m3)
noncomputable def f_X2_chanceInWind (p0 : Nat) (p1 : Nat) (p2 : Int32) (p3 : Int32) (mem : mi_M) : Option (Int32 × mi_M) := mi_bo (f_X5_burningBehind p1 (0 : Int32) mem) fun v1 => mi_bo (mi_lp (f_X2_chanceInWind_B13 p0 p2 p3 v1) mi_fu ((0 : Int32), (0 : Int32), mem)) (f_X2_chanceInWind_K13)
set_option maxRecDepth 100000 in
set_option maxHeartbeats 4000000 in
theorem w_X2_chanceInWind (p0 : Nat) (p1 : Nat) (p2 : Int32) (p3 : Int32) (hp0 : p0 < mi_n 8) (hp1 : p1 < mi_n 5) (mem : mi_M) (a : Int32 × mi_M) (e : f_X2_chanceInWind p0 p1 p2 p3 mem = some a) : mi_Ci (5) mX2_chanceInWind [vr 2 0, vr 8 p0, vr 5 p1, vi p2, vi p3] mem (fun x m' => x = a.1 ∧ m' = a.2) := by
  unfold mi_Ci
  refine mi_C_intro (ls := [(0, vr 2 0), (1, vr 8 p0), (2, vr 5 p1), (3, vi p2), (4, vi p3)]) (by decide) rfl rfl ?_
  obtain ⟨Q0, hq0, h⟩ : ∃ Q0 : (Int32 × mi_M) → Prop, (∀ b, Q0 b → b = a) ∧ wo (f_X2_chanceInWind p0 p1 p2 p3 mem) Q0 := ⟨fun b => b = a, fun _ h => h, wo_eq e⟩
  obtain ⟨QX, hQX⟩ : ∃ QX : Option mi_V → mi_M → Prop, QX = (fun r m' => ∃ x, r = some (vi x) ∧ x = a.1 ∧ m' = a.2) := ⟨_, rfl⟩
  rw [← hQX]
  unfold f_X2_chanceInWind at h
  refine x_aload_n (pc := 0) dX2_chanceInWind_0 rfl ?_
  refine x_iconst (pc := 1) dX2_chanceInWind_1 (v := (0 : Int32)) (by decide) ?_
  refine z_Vi1 (pc := 2) h dX2_chanceInWind_2 lX2_106 hp1 (by omega) rfl (fun a e => w_X5_burningBehind _ _ hp1 _ a e) (fun v1 h => ?_)
  refine x_istore (ls' := [(5, _), (0, _), (1, _), (2, _), (3, _), (4, _)]) (pc := 5) dX2_chanceInWind_5 rfl rfl ?_
  refine x_iconst (pc := 7) dX2_chanceInWind_7 (v := (0 : Int32)) (by decide) ?_
  refine x_istore (ls' := [(6, _), (5, _), (0, _), (1, _), (2, _), (3, _), (4, _)]) (pc := 8) dX2_chanceInWind_8 rfl rfl ?_
  refine x_iconst (pc := 10) dX2_chanceInWind_10 (v := (0 : Int32)) (by decide) ?_
  refine x_istore (ls' := [(7, _), (6, _), (5, _), (0, _), (1, _), (2, _), (3, _), (4, _)]) (pc := 11) dX2_chanceInWind_11 rfl rfl ?_
  have k13_0 : ∀ (e2 : Int32) (m3 : mi_M), wo (f_X2_chanceInWind_K13 (e2, m3)) Q0 → mi_X mX2_chanceInWind (5) 67 [(6, vi e2)] [] m3 QX := by
    intro e2 m3 h
    unfold f_X2_chanceInWind_K13 at h
    try dsimp only at h
    refine x_iload (pc := 67) dX2_chanceInWind_67 rfl ?_
    exact x_iret (pc := 69) dX2_chanceInWind_69 rfl (by rw [hQX]; exact ⟨_, rfl, congrArg Prod.fst (hq0 _ (wo_some h)), congrArg Prod.snd (hq0 _ (wo_some h))⟩)
  refine x_sub [(1, _), (3, _), (4, _), (5, _), (6, _), (7, _)] ⟨rfl, rfl, rfl, rfl, rfl, rfl, trivial⟩ ?_
  obtain ⟨ea, eb, h⟩ := wo_bo h
  refine wo_lq (X := fun s => match s with | (l4, l5, m6) => mi_X mX2_chanceInWind (5) 13 [(1, vr 8 p0), (3, vi p2), (4, vi p3), (5, vi v1), (6, vi l4), (7, vi l5)] [] m6 QX) (E := fun e => wo (f_X2_chanceInWind_K13 e) Q0) ?_ _ ((0 : Int32), (0 : Int32), mem) ⟨_, eb, h⟩
  intro Q13 hb13 he13 s h
  obtain ⟨l4, l5, m6⟩ := s
  show mi_X mX2_chanceInWind (5) 13 [(1, vr 8 p0), (3, vi p2), (4, vi p3), (5, vi v1), (6, vi l4), (7, vi l5)] [] m6 QX
  unfold f_X2_chanceInWind_B13 at h
  try dsimp only at h
  refine x_iload (pc := 13) dX2_chanceInWind_13 rfl ?_
  refine x_bipush (pc := 15) dX2_chanceInWind_15 (v := (64 : Int32)) (by decide) ?_
  refine x_icmp_ge (pc := 17) dX2_chanceInWind_17 (tgt := 67) (by decide) (fun c16 => ?_) (fun c16 => ?_)
  · replace h := wo_pos c16 h
    refine x_sub [(6, _)] ⟨rfl, trivial⟩ ?_
    exact k13_0 _ _ (he13 (l4, m6) (wo_some h))
  · replace h := wo_neg c16 h
    refine x_iload (pc := 20) dX2_chanceInWind_20 rfl ?_
    refine x_iload (pc := 22) dX2_chanceInWind_22 rfl ?_
    refine z_Ni2 (pc := 24) h dX2_chanceInWind_24 nX2_112 (by omega) rfl (fun a e => w_X11_isPartOf _ _ _ a e) (fun v7 h => ?_)
    have j61 : ∀ (u8 : Int32) (m9 : mi_M), wo (f_X2_chanceInWind_J61 l5 u8 m9) Q13 → mi_X mX2_chanceInWind (5) 61 [(1, vr 8 p0), (3, vi p2), (4, vi p3), (5, vi v1), (6, vi u8), (7, vi l5)] [] m9 QX := by
      intro u8 m9 h
      unfold f_X2_chanceInWind_J61 at h
      refine x_iinc (ls' := [(7, _), (1, _), (3, _), (4, _), (5, _), (6, _)]) (pc := 61) dX2_chanceInWind_61 rfl (v := l5 + (1 : Int32)) rfl rfl rfl ?_
      refine x_goto (pc := 64) dX2_chanceInWind_64 (tgt := 13) (by decide) ?_
      refine x_sub [(1, _), (3, _), (4, _), (5, _), (6, _), (7, _)] ⟨rfl, rfl, rfl, rfl, rfl, rfl, trivial⟩ ?_
      exact hb13 (u8, (l5 + (1 : Int32)), m9) (wo_some h)
    refine x_if_eq (pc := 27) dX2_chanceInWind_27 (tgt := 61) (by decide) (fun c15 => ?_) (fun c15 => ?_)
    · replace h := wo_pos c15 h
      refine x_sub [(1, _), (3, _), (4, _), (5, _), (6, _), (7, _)] ⟨rfl, rfl, rfl, rfl, rfl, rfl, trivial⟩ ?_
      exact j61 _ _ h
    · replace h := wo_neg c15 h
      refine x_aload_n (pc := 30) dX2_chanceInWind_30 rfl ?_
      refine x_getS (pc := 31) dX2_chanceInWind_31 fX2_59 rfl hp0 ?_
      refine x_iload (pc := 34) dX2_chanceInWind_34 rfl ?_
      refine x_iload_n (pc := 36) dX2_chanceInWind_36 rfl ?_
      refine x_iload (pc := 37) dX2_chanceInWind_37 rfl ?_
      refine y_Vi3 (pc := 39) h dX2_chanceInWind_39 lX2_67 hp0 (by omega) rfl (fun a e => w_X9_isLit _ _ _ _ hp0 _ a e) (fun v10 m11 h => ?_)
      refine x_if_eq (pc := 42) dX2_chanceInWind_42 (tgt := 61) (by decide) (fun c14 => ?_) (fun c14 => ?_)
      · replace h := wo_pos c14 h
        refine x_sub [(1, _), (3, _), (4, _), (5, _), (6, _), (7, _)] ⟨rfl, rfl, rfl, rfl, rfl, rfl, trivial⟩ ?_
        exact j61 _ _ h
      · replace h := wo_neg c14 h
        refine x_iload (pc := 45) dX2_chanceInWind_45 rfl ?_
        refine x_aload_n (pc := 47) dX2_chanceInWind_47 rfl ?_
        refine x_getI (pc := 48) dX2_chanceInWind_48 fX2_115 rfl hp0 ?_
        refine x_iload (pc := 51) dX2_chanceInWind_51 rfl ?_
        refine x_iload (pc := 53) dX2_chanceInWind_53 rfl ?_
        refine z_Si3 (pc := 55) h dX2_chanceInWind_55 lX2_118 (by omega) rfl (fun a e => w_X2_chanceOf _ _ _ _ a e) (fun v12 h => ?_)
        refine x_iadd (pc := 58) dX2_chanceInWind_58 ?_
        refine x_leti h (fun v13 h => ?_)
        refine x_istore (ls' := [(6, _), (1, _), (3, _), (4, _), (5, _), (7, _)]) (pc := 59) dX2_chanceInWind_59 rfl rfl ?_
        refine x_sub [(1, _), (3, _), (4, _), (5, _), (6, _), (7, _)] ⟨rfl, rfl, rfl, rfl, rfl, rfl, trivial⟩ ?_
        exact j61 _ _ h
noncomputable def f_X11_wind_J33 (u3 : Int32) (m4 : mi_M) : Option (Int32 × mi_M) := some (u3, m4)
noncomputable def f_X11_wind (p0 : Int32) (p1 : Int32) (mem : mi_M) : Option (Int32 × mi_M) := mi_g (mem.2.2 0 < mi_n 8) (mi_bo (f_X8_hasTwoDoors (mem.2.2 0) p0 p1 mem) fun v2 => if v2 = 0 then f_X11_wind_J33 (-1 : Int32) mem else mi_g (mem.2.2 0 < mi_n 8) (mi_b (f_X2_chanceInWind (mem.2.2 0) 0 p0 p1 mem) fun v6 m7 => f_X11_wind_J33 v6 m7))
set_option maxRecDepth 100000 in
set_option maxHeartbeats 4000000 in
theorem w_X11_wind (p0 : Int32) (p1 : Int32) (mem : mi_M) (a : Int32 × mi_M) (e : f_X11_wind p0 p1 mem = some a) : mi_Ci (6) mX11_wind [vr 11 0, vi p0, vi p1] mem (fun x m' => x = a.1 ∧ m' = a.2) := by
  unfold mi_Ci
  refine mi_C_intro (ls := [(0, vr 11 0), (1, vi p0), (2, vi p1)]) (by decide) rfl rfl ?_
  obtain ⟨Q0, hq0, h⟩ : ∃ Q0 : (Int32 × mi_M) → Prop, (∀ b, Q0 b → b = a) ∧ wo (f_X11_wind p0 p1 mem) Q0 := ⟨fun b => b = a, fun _ h => h, wo_eq e⟩
  obtain ⟨QX, hQX⟩ : ∃ QX : Option mi_V → mi_M → Prop, QX = (fun r m' => ∃ x, r = some (vi x) ∧ x = a.1 ∧ m' = a.2) := ⟨_, rfl⟩
  rw [← hQX]
  unfold f_X11_wind at h
  refine x_aload_n (pc := 0) dX11_wind_0 rfl ?_
  obtain ⟨hm1, h⟩ := wo_g h
  refine x_getM (pc := 1) dX11_wind_1 fX11_54 rfl (by decide) ?_
  refine x_iload_n (pc := 4) dX11_wind_4 rfl ?_
  refine x_iload_n (pc := 5) dX11_wind_5 rfl ?_
  refine z_Vi2 (pc := 6) h dX11_wind_6 lX11_151 hm1 (by omega) rfl (fun a e => w_X8_hasTwoDoors _ _ _ hm1 _ a e) (fun v2 h => ?_)
  have j33 : ∀ (u3 : Int32) (m4 : mi_M), wo (f_X11_wind_J33 u3 m4) Q0 → mi_X mX11_wind (6) 33 [] [vi u3] m4 QX := by
    intro u3 m4 h
    unfold f_X11_wind_J33 at h
    exact x_iret (pc := 33) dX11_wind_33 rfl (by rw [hQX]; exact ⟨_, rfl, congrArg Prod.fst (hq0 _ (wo_some h)), congrArg Prod.snd (hq0 _ (wo_some h))⟩)
  refine x_if_eq (pc := 9) dX11_wind_9 (tgt := 32) (by decide) (fun c8 => ?_) (fun c8 => ?_)
  · replace h := wo_pos c8 h
    refine x_iconst (pc := 32) dX11_wind_32 (v := (-1 : Int32)) (by decide) ?_
    refine x_sub [] trivial ?_
    exact j33 _ _ h
  · replace h := wo_neg c8 h
    refine x_aload_n (pc := 12) dX11_wind_12 rfl ?_
    refine x_getC (pc := 13) dX11_wind_13 fX11_47 rfl (by decide) ?_
    refine x_aload_n (pc := 16) dX11_wind_16 rfl ?_
    obtain ⟨hm5, h⟩ := wo_g h
    refine x_getM (pc := 17) dX11_wind_17 fX11_54 rfl (by decide) ?_
    refine x_aload_n (pc := 20) dX11_wind_20 rfl ?_
    refine x_getC (pc := 21) dX11_wind_21 fX11_19 rfl (by decide) ?_
    refine x_iload_n (pc := 24) dX11_wind_24 rfl ?_
    refine x_iload_n (pc := 25) dX11_wind_25 rfl ?_
    refine y_Vi4 (pc := 26) h dX11_wind_26 lX11_245 (by decide) (by omega) rfl (fun a e => w_X2_chanceInWind _ _ _ _ hm5 (by decide) _ a e) (fun v6 m7 h => ?_)
    refine x_goto (pc := 29) dX11_wind_29 (tgt := 33) (by decide) ?_
    refine x_sub [] trivial ?_
    exact j33 _ _ h
noncomputable def f_X11_wrong_J112 (u16 : Int32) : Option (Int32) := some u16
noncomputable def f_X11_wrong_J129 (u20 : Int32) : Option (Int32) := some u20
noncomputable def f_X11_wrong (p0 : Int32) (p1 : Int32) (mem : mi_M) : Option (Int32) := mi_g (mem.2.2 0 < mi_n 8) (mi_bo (f_X8_hasWrong (mem.2.2 0) p0 mem) fun v2 => if v2 = 0 then some (-1 : Int32) else if p1 = (0 : Int32) then mi_g (mem.2.2 0 < mi_n 8) (mi_g (vp_in p0 8) (some (mem.1 41 (mem.2.2 0) p0.toNatClampNeg))) else if p1 = (1 : Int32) then mi_g (mem.2.2 0 < mi_n 8) (mi_g (vp_in p0 8) (some (mem.1 42 (mem.2.2 0) p0.toNatClampNeg))) else if p1 = (2 : Int32) then mi_g (mem.2.2 0 < mi_n 8) (mi_g (vp_in p0 8) (some (mem.1 43 (mem.2.2 0) p0.toNatClampNeg))) else if p1 = (3 : Int32) then mi_g (vp_in p0 8) (some (mem.1 34 0 p0.toNatClampNeg)) else if p1 = (4 : Int32) then mi_bo (f_X5_isForgiven 0 p0 mem) fun v15 => if v15 = 0 then f_X11_wrong_J112 (0 : Int32) else f_X11_wrong_J112 (1 : Int32) else if p1 = (5 : Int32) then mi_bo (f_X5_isSaid 0 p0 mem) fun v19 => if v19 = 0 then f_X11_wrong_J129 (0 : Int32) else f_X11_wrong_J129 (1 : Int32) else if p1 = (6 : Int32) then mi_g (mem.2.2 0 < mi_n 8) (mi_bo (f_X8_barOf (mem.2.2 0) p0 mem) fun v24 => some v24) else some (-1 : Int32))
set_option maxRecDepth 100000 in
set_option maxHeartbeats 4000000 in
theorem w_X11_wrong (p0 : Int32) (p1 : Int32) (mem : mi_M) (a : Int32) (e : f_X11_wrong p0 p1 mem = some a) : mi_Ci (3) mX11_wrong [vr 11 0, vi p0, vi p1] mem (fun x m' => x = a ∧ m' = mem) := by
  unfold mi_Ci
  refine mi_C_intro (ls := [(0, vr 11 0), (1, vi p0), (2, vi p1)]) (by decide) rfl rfl ?_
  obtain ⟨Q0, hq0, h⟩ : ∃ Q0 : Int32 → Prop, (∀ b, Q0 b → b = a) ∧ wo (f_X11_wrong p0 p1 mem) Q0 := ⟨fun b => b = a, fun _ h => h, wo_eq e⟩
  obtain ⟨QX, hQX⟩ : ∃ QX : Option mi_V → mi_M → Prop, QX = (fun r m' => ∃ x, r = some (vi x) ∧ x = a ∧ m' = mem) := ⟨_, rfl⟩
  rw [← hQX]
  unfold f_X11_wrong at h
  refine x_aload_n (pc := 0) dX11_wrong_0 rfl ?_
  obtain ⟨hm1, h⟩ := wo_g h
  refine x_getM (pc := 1) dX11_wrong_1 fX11_54 rfl (by decide) ?_
  refine x_iload_n (pc := 4) dX11_wrong_4 rfl ?_
  refine z_Vi1 (pc := 5) h dX11_wrong_5 lX11_123 hm1 (by omega) rfl (fun a e => w_X8_hasWrong _ _ hm1 _ a e) (fun v2 h => ?_)
  refine x_if_ne (pc := 8) dX11_wrong_8 (tgt := 13) (by decide) (fun c25 => ?_) (fun c25 => ?_)
  · replace h := wo_neg c25 h
    refine x_iload_n (pc := 13) dX11_wrong_13 rfl ?_
    by_cases c3 : p1 = (0 : Int32)
    · replace h := wo_pos c3 h
      refine x_swT (pc := 14) (c := (0 : Int32)) c3 dX11_wrong_14 (by decide) (by decide) rfl (tgt := 56) (by decide) ?_
      refine x_aload_n (pc := 56) dX11_wrong_56 rfl ?_
      obtain ⟨hm4, h⟩ := wo_g h
      refine x_getM (pc := 57) dX11_wrong_57 fX11_54 rfl (by decide) ?_
      refine x_getS (pc := 60) dX11_wrong_60 fX11_126 rfl hm4 ?_
      refine x_iload_n (pc := 63) dX11_wrong_63 rfl ?_
      obtain ⟨hx5, h⟩ := wo_g h
      refine x_ialdJ (pc := 64) dX11_wrong_64 rfl rfl hm4 hx5 ?_
      exact x_iret (pc := 65) dX11_wrong_65 rfl (by rw [hQX]; exact ⟨_, rfl, hq0 _ (wo_some h), rfl⟩)
    · replace h := wo_neg c3 h
      by_cases c6 : p1 = (1 : Int32)
      · replace h := wo_pos c6 h
        refine x_swT (pc := 14) (c := (1 : Int32)) c6 dX11_wrong_14 (by decide) (by decide) rfl (tgt := 66) (by decide) ?_
        refine x_aload_n (pc := 66) dX11_wrong_66 rfl ?_
        obtain ⟨hm7, h⟩ := wo_g h
        refine x_getM (pc := 67) dX11_wrong_67 fX11_54 rfl (by decide) ?_
        refine x_getS (pc := 70) dX11_wrong_70 fX11_129 rfl hm7 ?_
        refine x_iload_n (pc := 73) dX11_wrong_73 rfl ?_
        obtain ⟨hx8, h⟩ := wo_g h
        refine x_ialdJ (pc := 74) dX11_wrong_74 rfl rfl hm7 hx8 ?_
        exact x_iret (pc := 75) dX11_wrong_75 rfl (by rw [hQX]; exact ⟨_, rfl, hq0 _ (wo_some h), rfl⟩)
      · replace h := wo_neg c6 h
        by_cases c9 : p1 = (2 : Int32)
        · replace h := wo_pos c9 h
          refine x_swT (pc := 14) (c := (2 : Int32)) c9 dX11_wrong_14 (by decide) (by decide) rfl (tgt := 76) (by decide) ?_
          refine x_aload_n (pc := 76) dX11_wrong_76 rfl ?_
          obtain ⟨hm10, h⟩ := wo_g h
          refine x_getM (pc := 77) dX11_wrong_77 fX11_54 rfl (by decide) ?_
          refine x_getS (pc := 80) dX11_wrong_80 fX11_132 rfl hm10 ?_
          refine x_iload_n (pc := 83) dX11_wrong_83 rfl ?_
          obtain ⟨hx11, h⟩ := wo_g h
          refine x_ialdJ (pc := 84) dX11_wrong_84 rfl rfl hm10 hx11 ?_
          exact x_iret (pc := 85) dX11_wrong_85 rfl (by rw [hQX]; exact ⟨_, rfl, hq0 _ (wo_some h), rfl⟩)
        · replace h := wo_neg c9 h
          by_cases c12 : p1 = (3 : Int32)
          · replace h := wo_pos c12 h
            refine x_swT (pc := 14) (c := (3 : Int32)) c12 dX11_wrong_14 (by decide) (by decide) rfl (tgt := 86) (by decide) ?_
            refine x_aload_n (pc := 86) dX11_wrong_86 rfl ?_
            refine x_getC (pc := 87) dX11_wrong_87 fX11_19 rfl (by decide) ?_
            refine x_getS (pc := 90) dX11_wrong_90 fX11_135 rfl (by decide) ?_
            refine x_iload_n (pc := 93) dX11_wrong_93 rfl ?_
            obtain ⟨hx13, h⟩ := wo_g h
            refine x_ialdJ (pc := 94) dX11_wrong_94 rfl rfl (by decide) hx13 ?_
            exact x_iret (pc := 95) dX11_wrong_95 rfl (by rw [hQX]; exact ⟨_, rfl, hq0 _ (wo_some h), rfl⟩)
          · replace h := wo_neg c12 h
            by_cases c14 : p1 = (4 : Int32)
            · replace h := wo_pos c14 h
              refine x_swT (pc := 14) (c := (4 : Int32)) c14 dX11_wrong_14 (by decide) (by decide) rfl (tgt := 96) (by decide) ?_
              refine x_aload_n (pc := 96) dX11_wrong_96 rfl ?_
              refine x_getC (pc := 97) dX11_wrong_97 fX11_19 rfl (by decide) ?_
              refine x_iload_n (pc := 100) dX11_wrong_100 rfl ?_
              refine z_Vi1 (pc := 101) h dX11_wrong_101 lX11_138 (by decide) (by omega) rfl (fun a e => w_X5_isForgiven _ _ (by decide) _ a e) (fun v15 h => ?_)
              have j112 : ∀ (u16 : Int32), wo (f_X11_wrong_J112 u16) Q0 → mi_X mX11_wrong (3) 112 [] [vi u16] mem QX := by
                intro u16 h
                unfold f_X11_wrong_J112 at h
                exact x_iret (pc := 112) dX11_wrong_112 rfl (by rw [hQX]; exact ⟨_, rfl, hq0 _ (wo_some h), rfl⟩)
              refine x_if_eq (pc := 104) dX11_wrong_104 (tgt := 111) (by decide) (fun c17 => ?_) (fun c17 => ?_)
              · replace h := wo_pos c17 h
                refine x_iconst (pc := 111) dX11_wrong_111 (v := (0 : Int32)) (by decide) ?_
                refine x_sub [] trivial ?_
                exact j112 _ h
              · replace h := wo_neg c17 h
                refine x_iconst (pc := 107) dX11_wrong_107 (v := (1 : Int32)) (by decide) ?_
                refine x_goto (pc := 108) dX11_wrong_108 (tgt := 112) (by decide) ?_
                refine x_sub [] trivial ?_
                exact j112 _ h
            · replace h := wo_neg c14 h
              by_cases c18 : p1 = (5 : Int32)
              · replace h := wo_pos c18 h
                refine x_swT (pc := 14) (c := (5 : Int32)) c18 dX11_wrong_14 (by decide) (by decide) rfl (tgt := 113) (by decide) ?_
                refine x_aload_n (pc := 113) dX11_wrong_113 rfl ?_
                refine x_getC (pc := 114) dX11_wrong_114 fX11_19 rfl (by decide) ?_
                refine x_iload_n (pc := 117) dX11_wrong_117 rfl ?_
                refine z_Vi1 (pc := 118) h dX11_wrong_118 lX11_141 (by decide) (by omega) rfl (fun a e => w_X5_isSaid _ _ (by decide) _ a e) (fun v19 h => ?_)
                have j129 : ∀ (u20 : Int32), wo (f_X11_wrong_J129 u20) Q0 → mi_X mX11_wrong (3) 129 [] [vi u20] mem QX := by
                  intro u20 h
                  unfold f_X11_wrong_J129 at h
                  exact x_iret (pc := 129) dX11_wrong_129 rfl (by rw [hQX]; exact ⟨_, rfl, hq0 _ (wo_some h), rfl⟩)
                refine x_if_eq (pc := 121) dX11_wrong_121 (tgt := 128) (by decide) (fun c21 => ?_) (fun c21 => ?_)
                · replace h := wo_pos c21 h
                  refine x_iconst (pc := 128) dX11_wrong_128 (v := (0 : Int32)) (by decide) ?_
                  refine x_sub [] trivial ?_
                  exact j129 _ h
                · replace h := wo_neg c21 h
                  refine x_iconst (pc := 124) dX11_wrong_124 (v := (1 : Int32)) (by decide) ?_
                  refine x_goto (pc := 125) dX11_wrong_125 (tgt := 129) (by decide) ?_
                  refine x_sub [] trivial ?_
                  exact j129 _ h
              · replace h := wo_neg c18 h
                by_cases c22 : p1 = (6 : Int32)
                · replace h := wo_pos c22 h
                  refine x_swT (pc := 14) (c := (6 : Int32)) c22 dX11_wrong_14 (by decide) (by decide) rfl (tgt := 130) (by decide) ?_
                  refine x_aload_n (pc := 130) dX11_wrong_130 rfl ?_
                  obtain ⟨hm23, h⟩ := wo_g h
                  refine x_getM (pc := 131) dX11_wrong_131 fX11_54 rfl (by decide) ?_
                  refine x_iload_n (pc := 134) dX11_wrong_134 rfl ?_
                  refine z_Vi1 (pc := 135) h dX11_wrong_135 lX11_144 hm23 (by omega) rfl (fun a e => w_X8_barOf _ _ hm23 _ a e) (fun v24 h => ?_)
                  exact x_iret (pc := 138) dX11_wrong_138 rfl (by rw [hQX]; exact ⟨_, rfl, hq0 _ (wo_some h), rfl⟩)
                · replace h := wo_neg c22 h
                  refine x_tableOut (pc := 14) dX11_wrong_14 (by have := lv_neT (a := 0) c3 (by decide); have := lv_neT (a := 1) c6 (by decide); have := lv_neT (a := 2) c9 (by decide); have := lv_neT (a := 3) c12 (by decide); have := lv_neT (a := 4) c14 (by decide); have := lv_neT (a := 5) c18 (by decide); have := lv_neT (a := 6) c22 (by decide); omega) (tgt := 139) (by decide) ?_
                  refine x_iconst (pc := 139) dX11_wrong_139 (v := (-1 : Int32)) (by decide) ?_
                  exact x_iret (pc := 140) dX11_wrong_140 rfl (by rw [hQX]; exact ⟨_, rfl, hq0 _ (wo_some h), rfl⟩)
  · replace h := wo_pos c25 h
    refine x_iconst (pc := 11) dX11_wrong_11 (v := (-1 : Int32)) (by decide) ?_
    exact x_iret (pc := 12) dX11_wrong_12 rfl (by rw [hQX]; exact ⟨_, rfl, hq0 _ (wo_some h), rfl⟩)
noncomputable def f_X10_add_J49 (m1 : mi_M) : Option (mi_M) := some m1
noncomputable def f_X10_add (i0 : Nat) (p0 : Int32) (p1 : Int32) (p2 : Int32) (mem : mi_M) : Option (mi_M) := if (30 : Int32) ≤ (mem.1 10 i0 0) then f_X10_add_J49 mem else mi_g (vp_in (mem.1 10 i0 0) 30) (mi_let (mi_wI mem 48 i0 (mem.1 10 i0 0).toNatClampNeg p0) fun m3 => mi_g (vp_in (m3.1 10 i0 0) 30) (mi_let (mi_wI m3 49 i0 (m3.1 10 i0 0).toNatClampNeg p1) fun m5 => mi_g (vp_in (m5.1 10 i0 0) 30) (mi_let (mi_wI m5 50 i0 (m5.1 10 i0 0).toNatClampNeg p2) fun m7 => mi_let (mi_wI m7 10 i0 0 ((m7.1 10 i0 0) + (1 : Int32))) fun m8 => f_X10_add_J49 m8)))
set_option maxRecDepth 100000 in
set_option maxHeartbeats 4000000 in
theorem w_X10_add (i0 : Nat) (p0 : Int32) (p1 : Int32) (p2 : Int32) (hi0 : i0 < mi_n 10) (mem : mi_M) (a : mi_M) (e : f_X10_add i0 p0 p1 p2 mem = some a) : mi_Cv (1) mX10_add [vr 10 i0, vi p0, vi p1, vi p2] mem (fun m' => m' = a) := by
  unfold mi_Cv
  refine mi_C_intro (ls := [(0, vr 10 i0), (1, vi p0), (2, vi p1), (3, vi p2)]) (by decide) rfl rfl ?_
  obtain ⟨Q0, hq0, h⟩ : ∃ Q0 : mi_M → Prop, (∀ b, Q0 b → b = a) ∧ wo (f_X10_add i0 p0 p1 p2 mem) Q0 := ⟨fun b => b = a, fun _ h => h, wo_eq e⟩
  obtain ⟨QX, hQX⟩ : ∃ QX : Option mi_V → mi_M → Prop, QX = (fun r m' => r = none ∧ m' = a) := ⟨_, rfl⟩
  rw [← hQX]
  unfold f_X10_add at h
  refine x_aload_n (pc := 0) dX10_add_0 rfl ?_
  refine x_getI (pc := 1) dX10_add_1 fX10_21 rfl hi0 ?_
  refine x_bipush (pc := 4) dX10_add_4 (v := (30 : Int32)) (by decide) ?_
  have j49 : ∀ (m1 : mi_M), wo (f_X10_add_J49 m1) Q0 → mi_X mX10_add (1) 49 [] [] m1 QX := by
    intro m1 h
    unfold f_X10_add_J49 at h
    exact x_ret (pc := 49) dX10_add_49 rfl (by rw [hQX]; exact ⟨rfl, hq0 _ (wo_some h)⟩)
  refine x_icmp_ge (pc := 6) dX10_add_6 (tgt := 49) (by decide) (fun c9 => ?_) (fun c9 => ?_)
  · replace h := wo_pos c9 h
    refine x_sub [] trivial ?_
    exact j49 _ h
  · replace h := wo_neg c9 h
    refine x_aload_n (pc := 9) dX10_add_9 rfl ?_
    refine x_getS (pc := 10) dX10_add_10 fX10_9 rfl hi0 ?_
    refine x_aload_n (pc := 13) dX10_add_13 rfl ?_
    refine x_getI (pc := 14) dX10_add_14 fX10_21 rfl hi0 ?_
    refine x_iload_n (pc := 17) dX10_add_17 rfl ?_
    obtain ⟨hx2, h⟩ := wo_g h
    refine x_iastJ (pc := 18) dX10_add_18 rfl rfl hi0 rfl hx2 ?_
    refine x_letm h (fun m3 h => ?_)
    refine x_aload_n (pc := 19) dX10_add_19 rfl ?_
    refine x_getS (pc := 20) dX10_add_20 fX10_15 rfl hi0 ?_
    refine x_aload_n (pc := 23) dX10_add_23 rfl ?_
    refine x_getI (pc := 24) dX10_add_24 fX10_21 rfl hi0 ?_
    refine x_iload_n (pc := 27) dX10_add_27 rfl ?_
    obtain ⟨hx4, h⟩ := wo_g h
    refine x_iastJ (pc := 28) dX10_add_28 rfl rfl hi0 rfl hx4 ?_
    refine x_letm h (fun m5 h => ?_)
    refine x_aload_n (pc := 29) dX10_add_29 rfl ?_
    refine x_getS (pc := 30) dX10_add_30 fX10_18 rfl hi0 ?_
    refine x_aload_n (pc := 33) dX10_add_33 rfl ?_
    refine x_getI (pc := 34) dX10_add_34 fX10_21 rfl hi0 ?_
    refine x_iload_n (pc := 37) dX10_add_37 rfl ?_
    obtain ⟨hx6, h⟩ := wo_g h
    refine x_iastJ (pc := 38) dX10_add_38 rfl rfl hi0 rfl hx6 ?_
    refine x_letm h (fun m7 h => ?_)
    refine x_aload_n (pc := 39) dX10_add_39 rfl ?_
    refine x_dup (pc := 40) dX10_add_40 rfl ?_
    refine x_getI (pc := 41) dX10_add_41 fX10_21 rfl hi0 ?_
    refine x_iconst (pc := 44) dX10_add_44 (v := (1 : Int32)) (by decide) ?_
    refine x_iadd (pc := 45) dX10_add_45 ?_
    refine x_putI (pc := 46) dX10_add_46 fX10_21 rfl hi0 rfl rfl ?_
    refine x_letm h (fun m8 h => ?_)
    refine x_sub [] trivial ?_
    exact j49 _ h
noncomputable def f_X7_readYearLine_J114 (p0 : Nat) (v1 : Int32) (u3 : Int32) (u5 : Int32) (m6 : mi_M) : Option (Int32 × mi_M) := mi_bo (f_X10_add p0 v1 u3 u5 m6) fun m7 => mi_b (f_X7_passSign (59 : Int32) m7) fun v8 m9 => mi_g (v8 = 0 ∨ v8 = 1) (some (v8, m9))
noncomputable def f_X7_readYearLine_J95 (p0 : Nat) (v1 : Int32) (u3 : Int32) (m4 : mi_M) (u5 : Int32) : Option (Int32 × mi_M) := if v1 = (1 : Int32) then mi_b (f_X7_passNumber (1 : Int32) (99 : Int32) m4) fun v11 m12 => if v11 = 0 then mi_g ((0 : Int32) = 0 ∨ (0 : Int32) = 1) (some ((0 : Int32), m12)) else f_X7_readYearLine_J114 p0 v1 u3 u5 m12 else f_X7_readYearLine_J114 p0 v1 u3 u5 m4
noncomputable def f_X7_readYearLine_J79 (p0 : Nat) (v1 : Int32) (u3 : Int32) (m4 : mi_M) : Option (Int32 × mi_M) := if v1 = (1 : Int32) then f_X7_readYearLine_J95 p0 v1 u3 m4 (m4.1 6 0 3) else f_X7_readYearLine_J95 p0 v1 u3 m4 (0 : Int32)
noncomputable def f_X7_readYearLine_J59 (p0 : Nat) (p1 : Int32) (v1 : Int32) (m2 : mi_M) (u3 : Int32) : Option (Int32 × mi_M) := if v1 = (3 : Int32) then f_X7_readYearLine_J79 p0 v1 u3 m2 else mi_b (f_X7_passNumber (0 : Int32) (p1 - (1 : Int32)) m2) fun v17 m18 => if v17 = 0 then mi_g ((0 : Int32) = 0 ∨ (0 : Int32) = 1) (some ((0 : Int32), m18)) else f_X7_readYearLine_J79 p0 v1 u3 m18
noncomputable def f_X7_readYearLine (p0 : Nat) (p1 : Int32) (mem : mi_M) : Option (Int32 × mi_M) := mi_bo (f_X6_among 2 mem) fun v1 => if v1 = (-1 : Int32) then mi_b (f_X7_fail (1 : Int32) mem) fun v27 m28 => mi_g (v27 = 0 ∨ v27 = 1) (some (v27, m28)) else if (mem.1 10 p0 0) < (30 : Int32) then mi_bo (f_X6_advance mem) fun m2 => if v1 = (3 : Int32) then f_X7_readYearLine_J59 p0 p1 v1 m2 (0 : Int32) else f_X7_readYearLine_J59 p0 p1 v1 m2 (m2.1 6 0 3) else mi_b (f_X7_fail (5 : Int32) mem) fun v23 m24 => mi_g (v23 = 0 ∨ v23 = 1) (some (v23, m24))
set_option maxRecDepth 100000 in
set_option maxHeartbeats 4000000 in
theorem w_X7_readYearLine (p0 : Nat) (p1 : Int32) (hp0 : p0 < mi_n 10) (mem : mi_M) (a : Int32 × mi_M) (e : f_X7_readYearLine p0 p1 mem = some a) : mi_Ci (7) mX7_readYearLine [vr 7 0, vr 10 p0, vi p1] mem (fun x m' => x = a.1 ∧ m' = a.2) := by
  unfold mi_Ci
  refine mi_C_intro (ls := [(0, vr 7 0), (1, vr 10 p0), (2, vi p1)]) (by decide) rfl rfl ?_
  obtain ⟨Q0, hq0, h⟩ : ∃ Q0 : (Int32 × mi_M) → Prop, (∀ b, Q0 b → b = a) ∧ wo (f_X7_readYearLine p0 p1 mem) Q0 := ⟨fun b => b = a, fun _ h => h, wo_eq e⟩
  obtain ⟨QX, hQX⟩ : ∃ QX : Option mi_V → mi_M → Prop, QX = (fun r m' => ∃ x, r = some (vi x) ∧ x = a.1 ∧ m' = a.2) := ⟨_, rfl⟩
  rw [← hQX]
  unfold f_X7_readYearLine at h
  refine x_aload_n (pc := 0) dX7_readYearLine_0 rfl ?_
  refine x_getC (pc := 1) dX7_readYearLine_1 fX7_12 rfl (by decide) ?_
  refine x_ldcS (pc := 4) dX7_readYearLine_4 (n := 2) (tx := "say give ask night") (by decide) ?_
  refine z_Vi1 (pc := 6) h dX7_readYearLine_6 lX7_35 (by decide) (by omega) rfl (fun a e => w_X6_among _ (by decide) _ a e) (fun v1 h => ?_)
  refine x_istore_n (ls' := [(3, _), (0, _), (1, _), (2, _)]) (pc := 9) dX7_readYearLine_9 rfl rfl rfl ?_
  refine x_iload_n (pc := 10) dX7_readYearLine_10 rfl ?_
  refine x_iconst (pc := 11) dX7_readYearLine_11 (v := (-1 : Int32)) (by decide) ?_
  refine x_icmp_ne (pc := 12) dX7_readYearLine_12 (tgt := 21) (by decide) (fun c30 => ?_) (fun c30 => ?_)
  · replace h := wo_neg c30 h
    refine x_aload_n (pc := 21) dX7_readYearLine_21 rfl ?_
    refine x_getI (pc := 22) dX7_readYearLine_22 fX7_63 rfl hp0 ?_
    refine x_bipush (pc := 25) dX7_readYearLine_25 (v := (30 : Int32)) (by decide) ?_
    refine x_icmp_lt (pc := 27) dX7_readYearLine_27 (tgt := 36) (by decide) (fun c26 => ?_) (fun c26 => ?_)
    · replace h := wo_pos c26 h
      refine x_aload_n (pc := 36) dX7_readYearLine_36 rfl ?_
      refine x_getC (pc := 37) dX7_readYearLine_37 fX7_12 rfl (by decide) ?_
      refine y_Vv0 (pc := 40) h dX7_readYearLine_40 lX7_75 (by decide) (by omega) rfl (fun a e => w_X6_advance _ a e) (fun m2 h => ?_)
      refine x_iload_n (pc := 43) dX7_readYearLine_43 rfl ?_
      refine x_iconst (pc := 44) dX7_readYearLine_44 (v := (3 : Int32)) (by decide) ?_
      have j59 : ∀ (u3 : Int32), wo (f_X7_readYearLine_J59 p0 p1 v1 m2 u3) Q0 → mi_X mX7_readYearLine (7) 59 [(0, vr 7 0), (1, vr 10 p0), (2, vi p1), (3, vi v1)] [vi u3] m2 QX := by
        intro u3 h
        unfold f_X7_readYearLine_J59 at h
        refine x_istore (ls' := [(4, _), (0, _), (1, _), (2, _), (3, _)]) (pc := 59) dX7_readYearLine_59 rfl rfl ?_
        refine x_iload_n (pc := 61) dX7_readYearLine_61 rfl ?_
        refine x_iconst (pc := 62) dX7_readYearLine_62 (v := (3 : Int32)) (by decide) ?_
        have j79 : ∀ (m4 : mi_M), wo (f_X7_readYearLine_J79 p0 v1 u3 m4) Q0 → mi_X mX7_readYearLine (7) 79 [(0, vr 7 0), (1, vr 10 p0), (3, vi v1), (4, vi u3)] [] m4 QX := by
          intro m4 h
          unfold f_X7_readYearLine_J79 at h
          refine x_iload_n (pc := 79) dX7_readYearLine_79 rfl ?_
          refine x_iconst (pc := 80) dX7_readYearLine_80 (v := (1 : Int32)) (by decide) ?_
          have j95 : ∀ (u5 : Int32), wo (f_X7_readYearLine_J95 p0 v1 u3 m4 u5) Q0 → mi_X mX7_readYearLine (7) 95 [(0, vr 7 0), (1, vr 10 p0), (3, vi v1), (4, vi u3)] [vi u5] m4 QX := by
            intro u5 h
            unfold f_X7_readYearLine_J95 at h
            refine x_istore (ls' := [(5, _), (0, _), (1, _), (3, _), (4, _)]) (pc := 95) dX7_readYearLine_95 rfl rfl ?_
            refine x_iload_n (pc := 97) dX7_readYearLine_97 rfl ?_
            refine x_iconst (pc := 98) dX7_readYearLine_98 (v := (1 : Int32)) (by decide) ?_
            have j114 : ∀ (m6 : mi_M), wo (f_X7_readYearLine_J114 p0 v1 u3 u5 m6) Q0 → mi_X mX7_readYearLine (7) 114 [(0, vr 7 0), (1, vr 10 p0), (3, vi v1), (4, vi u3), (5, vi u5)] [] m6 QX := by
              intro m6 h
              unfold f_X7_readYearLine_J114 at h
              refine x_aload_n (pc := 114) dX7_readYearLine_114 rfl ?_
              refine x_iload_n (pc := 115) dX7_readYearLine_115 rfl ?_
              refine x_iload (pc := 116) dX7_readYearLine_116 rfl ?_
              refine x_iload (pc := 118) dX7_readYearLine_118 rfl ?_
              refine y_Vv3 (pc := 120) h dX7_readYearLine_120 lX7_197 hp0 (by omega) rfl (fun a e => w_X10_add _ _ _ _ hp0 _ a e) (fun m7 h => ?_)
              refine x_aload_n (pc := 123) dX7_readYearLine_123 rfl ?_
              refine x_bipush (pc := 124) dX7_readYearLine_124 (v := (59 : Int32)) (by decide) ?_
              refine y_Vi1 (pc := 126) h dX7_readYearLine_126 lX7_109 (by decide) (by omega) rfl (fun a e => w_X7_passSign _ _ a e) (fun v8 m9 h => ?_)
              obtain ⟨hb10, h⟩ := wo_g h
              exact x_zretB (pc := 129) dX7_readYearLine_129 rfl hb10 (by rw [hQX]; exact ⟨_, rfl, congrArg Prod.fst (hq0 _ (wo_some h)), congrArg Prod.snd (hq0 _ (wo_some h))⟩)
            refine x_icmp_ne (pc := 99) dX7_readYearLine_99 (tgt := 114) (by decide) (fun c15 => ?_) (fun c15 => ?_)
            · replace h := wo_neg c15 h
              refine x_sub [(0, _), (1, _), (3, _), (4, _), (5, _)] ⟨rfl, rfl, rfl, rfl, rfl, trivial⟩ ?_
              exact j114 _ h
            · replace h := wo_pos c15 h
              refine x_aload_n (pc := 102) dX7_readYearLine_102 rfl ?_
              refine x_iconst (pc := 103) dX7_readYearLine_103 (v := (1 : Int32)) (by decide) ?_
              refine x_bipush (pc := 104) dX7_readYearLine_104 (v := (99 : Int32)) (by decide) ?_
              refine y_Vi2 (pc := 106) h dX7_readYearLine_106 lX7_101 (by decide) (by omega) rfl (fun a e => w_X7_passNumber _ _ _ a e) (fun v11 m12 h => ?_)
              refine x_if_ne (pc := 109) dX7_readYearLine_109 (tgt := 114) (by decide) (fun c14 => ?_) (fun c14 => ?_)
              · replace h := wo_neg c14 h
                refine x_sub [(0, _), (1, _), (3, _), (4, _), (5, _)] ⟨rfl, rfl, rfl, rfl, rfl, trivial⟩ ?_
                exact j114 _ h
              · replace h := wo_pos c14 h
                refine x_iconst (pc := 112) dX7_readYearLine_112 (v := (0 : Int32)) (by decide) ?_
                obtain ⟨hb13, h⟩ := wo_g h
                exact x_zretB (pc := 113) dX7_readYearLine_113 rfl hb13 (by rw [hQX]; exact ⟨_, rfl, congrArg Prod.fst (hq0 _ (wo_some h)), congrArg Prod.snd (hq0 _ (wo_some h))⟩)
          refine x_icmp_ne (pc := 81) dX7_readYearLine_81 (tgt := 94) (by decide) (fun c16 => ?_) (fun c16 => ?_)
          · replace h := wo_neg c16 h
            refine x_iconst (pc := 94) dX7_readYearLine_94 (v := (0 : Int32)) (by decide) ?_
            refine x_sub [(0, _), (1, _), (3, _), (4, _)] ⟨rfl, rfl, rfl, rfl, trivial⟩ ?_
            exact j95 _ h
          · replace h := wo_pos c16 h
            refine x_aload_n (pc := 84) dX7_readYearLine_84 rfl ?_
            refine x_getC (pc := 85) dX7_readYearLine_85 fX7_12 rfl (by decide) ?_
            refine x_getI (pc := 88) dX7_readYearLine_88 fX7_98 rfl (by decide) ?_
            refine x_goto (pc := 91) dX7_readYearLine_91 (tgt := 95) (by decide) ?_
            refine x_sub [(0, _), (1, _), (3, _), (4, _)] ⟨rfl, rfl, rfl, rfl, trivial⟩ ?_
            exact j95 _ h
        refine x_icmp_eq (pc := 63) dX7_readYearLine_63 (tgt := 79) (by decide) (fun c21 => ?_) (fun c21 => ?_)
        · replace h := wo_pos c21 h
          refine x_sub [(0, _), (1, _), (3, _), (4, _)] ⟨rfl, rfl, rfl, rfl, trivial⟩ ?_
          exact j79 _ h
        · replace h := wo_neg c21 h
          refine x_aload_n (pc := 66) dX7_readYearLine_66 rfl ?_
          refine x_iconst (pc := 67) dX7_readYearLine_67 (v := (0 : Int32)) (by decide) ?_
          refine x_iload_n (pc := 68) dX7_readYearLine_68 rfl ?_
          refine x_iconst (pc := 69) dX7_readYearLine_69 (v := (1 : Int32)) (by decide) ?_
          refine x_isub (pc := 70) dX7_readYearLine_70 ?_
          refine y_Vi2 (pc := 71) h dX7_readYearLine_71 lX7_101 (by decide) (by omega) rfl (fun a e => w_X7_passNumber _ _ _ a e) (fun v17 m18 h => ?_)
          refine x_if_ne (pc := 74) dX7_readYearLine_74 (tgt := 79) (by decide) (fun c20 => ?_) (fun c20 => ?_)
          · replace h := wo_neg c20 h
            refine x_sub [(0, _), (1, _), (3, _), (4, _)] ⟨rfl, rfl, rfl, rfl, trivial⟩ ?_
            exact j79 _ h
          · replace h := wo_pos c20 h
            refine x_iconst (pc := 77) dX7_readYearLine_77 (v := (0 : Int32)) (by decide) ?_
            obtain ⟨hb19, h⟩ := wo_g h
            exact x_zretB (pc := 78) dX7_readYearLine_78 rfl hb19 (by rw [hQX]; exact ⟨_, rfl, congrArg Prod.fst (hq0 _ (wo_some h)), congrArg Prod.snd (hq0 _ (wo_some h))⟩)
      refine x_icmp_ne (pc := 45) dX7_readYearLine_45 (tgt := 52) (by decide) (fun c22 => ?_) (fun c22 => ?_)
      · replace h := wo_neg c22 h
        refine x_aload_n (pc := 52) dX7_readYearLine_52 rfl ?_
        refine x_getC (pc := 53) dX7_readYearLine_53 fX7_12 rfl (by decide) ?_
        refine x_getI (pc := 56) dX7_readYearLine_56 fX7_98 rfl (by decide) ?_
        refine x_sub [(0, _), (1, _), (2, _), (3, _)] ⟨rfl, rfl, rfl, rfl, trivial⟩ ?_
        exact j59 _ h
      · replace h := wo_pos c22 h
        refine x_iconst (pc := 48) dX7_readYearLine_48 (v := (0 : Int32)) (by decide) ?_
        refine x_goto (pc := 49) dX7_readYearLine_49 (tgt := 59) (by decide) ?_
        refine x_sub [(0, _), (1, _), (2, _), (3, _)] ⟨rfl, rfl, rfl, rfl, trivial⟩ ?_
        exact j59 _ h
    · replace h := wo_neg c26 h
      refine x_aload_n (pc := 30) dX7_readYearLine_30 rfl ?_
      refine x_iconst (pc := 31) dX7_readYearLine_31 (v := (5 : Int32)) (by decide) ?_
      refine y_Vi1 (pc := 32) h dX7_readYearLine_32 lX7_39 (by decide) (by omega) rfl (fun a e => w_X7_fail _ _ a e) (fun v23 m24 h => ?_)
      obtain ⟨hb25, h⟩ := wo_g h
      exact x_zretB (pc := 35) dX7_readYearLine_35 rfl hb25 (by rw [hQX]; exact ⟨_, rfl, congrArg Prod.fst (hq0 _ (wo_some h)), congrArg Prod.snd (hq0 _ (wo_some h))⟩)
  · replace h := wo_pos c30 h
    refine x_aload_n (pc := 15) dX7_readYearLine_15 rfl ?_
    refine x_iconst (pc := 16) dX7_readYearLine_16 (v := (1 : Int32)) (by decide) ?_
    refine y_Vi1 (pc := 17) h dX7_readYearLine_17 lX7_39 (by decide) (by omega) rfl (fun a e => w_X7_fail _ _ a e) (fun v27 m28 h => ?_)
    obtain ⟨hb29, h⟩ := wo_g h
    exact x_zretB (pc := 20) dX7_readYearLine_20 rfl hb29 (by rw [hQX]; exact ⟨_, rfl, congrArg Prod.fst (hq0 _ (wo_some h)), congrArg Prod.snd (hq0 _ (wo_some h))⟩)
noncomputable def f_X7_readYear_B22 (p0 : Nat) (p1 : Int32) : (Int32 × Int32 × mi_M) → Option ((Int32 × Int32 × mi_M) ⊕ (mi_M)) := fun s => match s with | (l6, l7, m8) => if (1000 : Int32) ≤ l7 then some (.inr m8) else if l6 = 0 then some (.inr m8) else if (m8.1 6 0 1) = 0 then some (.inr m8) else mi_b (f_X7_readYearLine p0 p1 m8) fun v9 m10 => some (.inl (v9, (l7 + (1 : Int32)), m10))
noncomputable def f_X7_readYear_K22 : mi_M → Option (Int32 × mi_M) := fun m4 => mi_let (mi_wI m4 6 0 0 (0 : Int32)) fun m5 => some ((m5.1 7 0 1), m5)
noncomputable def f_X7_readYear (p0 : Nat) (p1 : Int32) (mem : mi_M) : Option (Int32 × mi_M) := mi_let (mi_wI mem 10 p0 0 (0 : Int32)) fun m1 => mi_let (mi_wI m1 7 0 1 (0 : Int32)) fun m2 => mi_bo (f_X6_rewind m2) fun m3 => mi_bo (mi_lp (f_X7_readYear_B22 p0 p1) mi_fu ((1 : Int32), (0 : Int32), m3)) (f_X7_readYear_K22)
set_option maxRecDepth 100000 in
set_option maxHeartbeats 4000000 in
theorem w_X7_readYear (p0 : Nat) (p1 : Int32) (hp0 : p0 < mi_n 10) (mem : mi_M) (a : Int32 × mi_M) (e : f_X7_readYear p0 p1 mem = some a) : mi_Ci (8) mX7_readYear [vr 7 0, vr 10 p0, vi p1] mem (fun x m' => x = a.1 ∧ m' = a.2) := by
  unfold mi_Ci
  refine mi_C_intro (ls := [(0, vr 7 0), (1, vr 10 p0), (2, vi p1)]) (by decide) rfl rfl ?_
  obtain ⟨Q0, hq0, h⟩ : ∃ Q0 : (Int32 × mi_M) → Prop, (∀ b, Q0 b → b = a) ∧ wo (f_X7_readYear p0 p1 mem) Q0 := ⟨fun b => b = a, fun _ h => h, wo_eq e⟩
  obtain ⟨QX, hQX⟩ : ∃ QX : Option mi_V → mi_M → Prop, QX = (fun r m' => ∃ x, r = some (vi x) ∧ x = a.1 ∧ m' = a.2) := ⟨_, rfl⟩
  rw [← hQX]
  unfold f_X7_readYear at h
  refine x_aload_n (pc := 0) dX7_readYear_0 rfl ?_
  refine x_iconst (pc := 1) dX7_readYear_1 (v := (0 : Int32)) (by decide) ?_
  refine x_putI (pc := 2) dX7_readYear_2 fX7_63 rfl hp0 rfl rfl ?_
  refine x_letm h (fun m1 h => ?_)
  refine x_aload_n (pc := 5) dX7_readYear_5 rfl ?_
  refine x_iconst (pc := 6) dX7_readYear_6 (v := (0 : Int32)) (by decide) ?_
  refine x_putI (pc := 7) dX7_readYear_7 fX7_23 rfl (by decide) rfl rfl ?_
  refine x_letm h (fun m2 h => ?_)
  refine x_aload_n (pc := 10) dX7_readYear_10 rfl ?_
  refine x_getC (pc := 11) dX7_readYear_11 fX7_12 rfl (by decide) ?_
  refine y_Vv0 (pc := 14) h dX7_readYear_14 lX7_27 (by decide) (by omega) rfl (fun a e => w_X6_rewind _ a e) (fun m3 h => ?_)
  refine x_iconst (pc := 17) dX7_readYear_17 (v := (1 : Int32)) (by decide) ?_
  refine x_istore_n (ls' := [(3, _), (0, _), (1, _), (2, _)]) (pc := 18) dX7_readYear_18 rfl rfl rfl ?_
  refine x_iconst (pc := 19) dX7_readYear_19 (v := (0 : Int32)) (by decide) ?_
  refine x_istore (ls' := [(4, _), (3, _), (0, _), (1, _), (2, _)]) (pc := 20) dX7_readYear_20 rfl rfl ?_
  have k22_0 : ∀ (m4 : mi_M), wo (f_X7_readYear_K22 m4) Q0 → mi_X mX7_readYear (8) 57 [(0, vr 7 0)] [] m4 QX := by
    intro m4 h
    unfold f_X7_readYear_K22 at h
    try dsimp only at h
    refine x_aload_n (pc := 57) dX7_readYear_57 rfl ?_
    refine x_getC (pc := 58) dX7_readYear_58 fX7_12 rfl (by decide) ?_
    refine x_iconst (pc := 61) dX7_readYear_61 (v := (0 : Int32)) (by decide) ?_
    refine x_putI (pc := 62) dX7_readYear_62 fX7_60 rfl (by decide) rfl rfl ?_
    refine x_letm h (fun m5 h => ?_)
    refine x_aload_n (pc := 65) dX7_readYear_65 rfl ?_
    refine x_getI (pc := 66) dX7_readYear_66 fX7_23 rfl (by decide) ?_
    exact x_iret (pc := 69) dX7_readYear_69 rfl (by rw [hQX]; exact ⟨_, rfl, congrArg Prod.fst (hq0 _ (wo_some h)), congrArg Prod.snd (hq0 _ (wo_some h))⟩)
  refine x_sub [(0, _), (1, _), (2, _), (3, _), (4, _)] ⟨rfl, rfl, rfl, rfl, rfl, trivial⟩ ?_
  obtain ⟨ea, eb, h⟩ := wo_bo h
  refine wo_lq (X := fun s => match s with | (l6, l7, m8) => mi_X mX7_readYear (8) 22 [(0, vr 7 0), (1, vr 10 p0), (2, vi p1), (3, vi l6), (4, vi l7)] [] m8 QX) (E := fun e => wo (f_X7_readYear_K22 e) Q0) ?_ _ ((1 : Int32), (0 : Int32), m3) ⟨_, eb, h⟩
  intro Q22 hb22 he22 s h
  obtain ⟨l6, l7, m8⟩ := s
  show mi_X mX7_readYear (8) 22 [(0, vr 7 0), (1, vr 10 p0), (2, vi p1), (3, vi l6), (4, vi l7)] [] m8 QX
  unfold f_X7_readYear_B22 at h
  try dsimp only at h
  refine x_iload (pc := 22) dX7_readYear_22 rfl ?_
  refine x_sipush (pc := 24) dX7_readYear_24 (v := (1000 : Int32)) (by decide) ?_
  refine x_icmp_ge (pc := 27) dX7_readYear_27 (tgt := 57) (by decide) (fun c13 => ?_) (fun c13 => ?_)
  · replace h := wo_pos c13 h
    refine x_sub [(0, _)] ⟨rfl, trivial⟩ ?_
    exact k22_0 _ (he22 m8 (wo_some h))
  · replace h := wo_neg c13 h
    refine x_iload_n (pc := 30) dX7_readYear_30 rfl ?_
    refine x_if_eq (pc := 31) dX7_readYear_31 (tgt := 57) (by decide) (fun c12 => ?_) (fun c12 => ?_)
    · replace h := wo_pos c12 h
      refine x_sub [(0, _)] ⟨rfl, trivial⟩ ?_
      exact k22_0 _ (he22 m8 (wo_some h))
    · replace h := wo_neg c12 h
      refine x_aload_n (pc := 34) dX7_readYear_34 rfl ?_
      refine x_getC (pc := 35) dX7_readYear_35 fX7_12 rfl (by decide) ?_
      refine x_getI (pc := 38) dX7_readYear_38 fX7_30 rfl (by decide) ?_
      refine x_if_eq (pc := 41) dX7_readYear_41 (tgt := 57) (by decide) (fun c11 => ?_) (fun c11 => ?_)
      · replace h := wo_pos c11 h
        refine x_sub [(0, _)] ⟨rfl, trivial⟩ ?_
        exact k22_0 _ (he22 m8 (wo_some h))
      · replace h := wo_neg c11 h
        refine x_aload_n (pc := 44) dX7_readYear_44 rfl ?_
        refine x_aload_n (pc := 45) dX7_readYear_45 rfl ?_
        refine x_iload_n (pc := 46) dX7_readYear_46 rfl ?_
        refine y_Vi2 (pc := 47) h dX7_readYear_47 lX7_68 (by decide) (by omega) rfl (fun a e => w_X7_readYearLine _ _ hp0 _ a e) (fun v9 m10 h => ?_)
        refine x_istore_n (ls' := [(3, _), (0, _), (1, _), (2, _), (4, _)]) (pc := 50) dX7_readYear_50 rfl rfl rfl ?_
        refine x_iinc (ls' := [(4, _), (3, _), (0, _), (1, _), (2, _)]) (pc := 51) dX7_readYear_51 rfl (v := l7 + (1 : Int32)) rfl rfl rfl ?_
        refine x_goto (pc := 54) dX7_readYear_54 (tgt := 22) (by decide) ?_
        refine x_sub [(0, _), (1, _), (2, _), (3, _), (4, _)] ⟨rfl, rfl, rfl, rfl, rfl, trivial⟩ ?_
        exact hb22 (v9, (l7 + (1 : Int32)), m10) (wo_some h)
noncomputable def f_X11_year_J41 (v3 : Int32) (m5 : mi_M) : Option (Int32 × mi_M) := some (v3, m5)
noncomputable def f_X11_year (mem : mi_M) : Option (Int32 × mi_M) := mi_g (mem.2.2 3 < mi_n 10) (mi_g (mem.2.2 0 < mi_n 8) (mi_b (f_X7_readYear (mem.2.2 3) (mem.1 8 (mem.2.2 0) 1) mem) fun v3 m4 => if v3 = 0 then mi_g (m4.2.2 2 < mi_n 10) (mi_let (m4.2.2 2) fun v7 => mi_g (m4.2.2 3 < mi_n 10) (mi_let (mi_wR m4 2 (m4.2.2 3)) fun m9 => mi_let (mi_wR m9 3 v7) fun m10 => f_X11_year_J41 v3 m10)) else f_X11_year_J41 v3 m4))
set_option maxRecDepth 100000 in
set_option maxHeartbeats 4000000 in
theorem w_X11_year (mem : mi_M) (a : Int32 × mi_M) (e : f_X11_year  mem = some a) : mi_Ci (9) mX11_year [vr 11 0] mem (fun x m' => x = a.1 ∧ m' = a.2) := by
  unfold mi_Ci
  refine mi_C_intro (ls := [(0, vr 11 0)]) (by decide) rfl rfl ?_
  obtain ⟨Q0, hq0, h⟩ : ∃ Q0 : (Int32 × mi_M) → Prop, (∀ b, Q0 b → b = a) ∧ wo (f_X11_year  mem) Q0 := ⟨fun b => b = a, fun _ h => h, wo_eq e⟩
  obtain ⟨QX, hQX⟩ : ∃ QX : Option mi_V → mi_M → Prop, QX = (fun r m' => ∃ x, r = some (vi x) ∧ x = a.1 ∧ m' = a.2) := ⟨_, rfl⟩
  rw [← hQX]
  unfold f_X11_year at h
  refine x_aload_n (pc := 0) dX11_year_0 rfl ?_
  refine x_getC (pc := 1) dX11_year_1 fX11_10 rfl (by decide) ?_
  refine x_aload_n (pc := 4) dX11_year_4 rfl ?_
  obtain ⟨hm1, h⟩ := wo_g h
  refine x_getM (pc := 5) dX11_year_5 fX11_68 rfl (by decide) ?_
  refine x_aload_n (pc := 8) dX11_year_8 rfl ?_
  obtain ⟨hm2, h⟩ := wo_g h
  refine x_getM (pc := 9) dX11_year_9 fX11_54 rfl (by decide) ?_
  refine x_getI (pc := 12) dX11_year_12 fX11_102 rfl hm2 ?_
  refine y_Vi2 (pc := 15) h dX11_year_15 lX11_105 (by decide) (by omega) rfl (fun a e => w_X7_readYear _ _ hm1 _ a e) (fun v3 m4 h => ?_)
  refine x_istore_n (ls' := [(1, _), (0, _)]) (pc := 18) dX11_year_18 rfl rfl rfl ?_
  refine x_iload_n (pc := 19) dX11_year_19 rfl ?_
  have j41 : ∀ (m5 : mi_M), wo (f_X11_year_J41 v3 m5) Q0 → mi_X mX11_year (9) 41 [(1, vi v3)] [] m5 QX := by
    intro m5 h
    unfold f_X11_year_J41 at h
    refine x_iload_n (pc := 41) dX11_year_41 rfl ?_
    exact x_iret (pc := 42) dX11_year_42 rfl (by rw [hQX]; exact ⟨_, rfl, congrArg Prod.fst (hq0 _ (wo_some h)), congrArg Prod.snd (hq0 _ (wo_some h))⟩)
  refine x_if_ne (pc := 20) dX11_year_20 (tgt := 41) (by decide) (fun c11 => ?_) (fun c11 => ?_)
  · replace h := wo_neg c11 h
    refine x_sub [(1, _)] ⟨rfl, trivial⟩ ?_
    exact j41 _ h
  · replace h := wo_pos c11 h
    refine x_aload_n (pc := 23) dX11_year_23 rfl ?_
    obtain ⟨hm6, h⟩ := wo_g h
    refine x_getM (pc := 24) dX11_year_24 fX11_64 rfl (by decide) ?_
    refine x_letr (P := fun v => v < mi_n 10) h hm6 (fun v7 hrv7 h => ?_)
    refine x_astore_n (ls' := [(2, _), (1, _), (0, _)]) (pc := 27) dX11_year_27 rfl rfl rfl ?_
    refine x_aload_n (pc := 28) dX11_year_28 rfl ?_
    refine x_aload_n (pc := 29) dX11_year_29 rfl ?_
    obtain ⟨hm8, h⟩ := wo_g h
    refine x_getM (pc := 30) dX11_year_30 fX11_68 rfl (by decide) ?_
    refine x_putM (pc := 33) dX11_year_33 fX11_64 rfl rfl ⟨_, rfl⟩ ?_
    refine x_letm h (fun m9 h => ?_)
    refine x_aload_n (pc := 36) dX11_year_36 rfl ?_
    refine x_aload_n (pc := 37) dX11_year_37 rfl ?_
    refine x_putM (pc := 38) dX11_year_38 fX11_68 rfl rfl ⟨_, rfl⟩ ?_
    refine x_letm h (fun m10 h => ?_)
    refine x_sub [(1, _)] ⟨rfl, trivial⟩ ?_
    exact j41 _ h
noncomputable def f_X0_drawBelow_J17 (u1 : Int32) : Option (Int32) := some u1
noncomputable def f_X0_drawBelow (p0 : Int64) (p1 : Int32) (mem : mi_M) : Option (Int32) := if p1 ≤ 0 then f_X0_drawBelow_J17 (0 : Int32) else mi_g (¬ (p1).toInt64 = 0) (f_X0_drawBelow_J17 ((((p0 / (65536 : Int64)) - (p0 / (65536 : Int64)) / (p1).toInt64 * (p1).toInt64)).toInt32))
set_option maxRecDepth 100000 in
set_option maxHeartbeats 4000000 in
theorem w_X0_drawBelow (p0 : Int64) (p1 : Int32) (mem : mi_M) (a : Int32) (e : f_X0_drawBelow p0 p1 mem = some a) : mi_Ci (1) mX0_drawBelow [vl p0, vi p1] mem (fun x m' => x = a ∧ m' = mem) := by
  unfold mi_Ci
  refine mi_C_intro (ls := [(0, vl p0), (2, vi p1)]) (by decide) rfl rfl ?_
  obtain ⟨Q0, hq0, h⟩ : ∃ Q0 : Int32 → Prop, (∀ b, Q0 b → b = a) ∧ wo (f_X0_drawBelow p0 p1 mem) Q0 := ⟨fun b => b = a, fun _ h => h, wo_eq e⟩
  obtain ⟨QX, hQX⟩ : ∃ QX : Option mi_V → mi_M → Prop, QX = (fun r m' => ∃ x, r = some (vi x) ∧ x = a ∧ m' = mem) := ⟨_, rfl⟩
  rw [← hQX]
  unfold f_X0_drawBelow at h
  refine x_iload_n (pc := 0) dX0_drawBelow_0 rfl ?_
  have j17 : ∀ (u1 : Int32), wo (f_X0_drawBelow_J17 u1) Q0 → mi_X mX0_drawBelow (1) 17 [] [vi u1] mem QX := by
    intro u1 h
    unfold f_X0_drawBelow_J17 at h
    exact x_iret (pc := 17) dX0_drawBelow_17 rfl (by rw [hQX]; exact ⟨_, rfl, hq0 _ (wo_some h), rfl⟩)
  refine x_if_le (pc := 1) dX0_drawBelow_1 (tgt := 16) (by decide) (fun c3 => ?_) (fun c3 => ?_)
  · replace h := wo_pos c3 h
    refine x_iconst (pc := 16) dX0_drawBelow_16 (v := (0 : Int32)) (by decide) ?_
    refine x_sub [] trivial ?_
    exact j17 _ h
  · replace h := wo_neg c3 h
    refine x_lload_n (pc := 4) dX0_drawBelow_4 rfl ?_
    refine x_ldc2 (pc := 5) dX0_drawBelow_5 kX0_148 ?_
    refine x_ldiv (pc := 8) dX0_drawBelow_8 (by decide) ?_
    refine x_iload_n (pc := 9) dX0_drawBelow_9 rfl ?_
    refine x_i2l (pc := 10) dX0_drawBelow_10 rfl ?_
    obtain ⟨hz2, h⟩ := wo_g h
    refine x_lrem (pc := 11) dX0_drawBelow_11 hz2 ?_
    refine x_l2i (pc := 12) dX0_drawBelow_12 rfl ?_
    refine x_goto (pc := 13) dX0_drawBelow_13 (tgt := 17) (by decide) ?_
    refine x_sub [] trivial ?_
    exact j17 _ h
noncomputable def f_X0_nextDraw (p0 : Int64) (mem : mi_M) : Option (Int64) := some (((p0 * (1103515245 : Int64)) + (12345 : Int64)) - ((p0 * (1103515245 : Int64)) + (12345 : Int64)) / (2147483648 : Int64) * (2147483648 : Int64))
set_option maxRecDepth 100000 in
set_option maxHeartbeats 4000000 in
theorem w_X0_nextDraw (p0 : Int64) (mem : mi_M) (a : Int64) (e : f_X0_nextDraw p0 mem = some a) : mi_Cl (1) mX0_nextDraw [vl p0] mem (fun x m' => x = a ∧ m' = mem) := by
  unfold mi_Cl
  refine mi_C_intro (ls := [(0, vl p0)]) (by decide) rfl rfl ?_
  obtain ⟨Q0, hq0, h⟩ : ∃ Q0 : Int64 → Prop, (∀ b, Q0 b → b = a) ∧ wo (f_X0_nextDraw p0 mem) Q0 := ⟨fun b => b = a, fun _ h => h, wo_eq e⟩
  obtain ⟨QX, hQX⟩ : ∃ QX : Option mi_V → mi_M → Prop, QX = (fun r m' => ∃ x, r = some (vl x) ∧ x = a ∧ m' = mem) := ⟨_, rfl⟩
  rw [← hQX]
  unfold f_X0_nextDraw at h
  refine x_lload_n (pc := 0) dX0_nextDraw_0 rfl ?_
  refine x_ldc2 (pc := 1) dX0_nextDraw_1 kX0_142 ?_
  refine x_lmul (pc := 4) dX0_nextDraw_4 ?_
  refine x_ldc2 (pc := 5) dX0_nextDraw_5 kX0_144 ?_
  refine x_ladd (pc := 8) dX0_nextDraw_8 ?_
  refine x_ldc2 (pc := 9) dX0_nextDraw_9 kX0_146 ?_
  refine x_lrem (pc := 12) dX0_nextDraw_12 (by decide) ?_
  exact x_lret (pc := 13) dX0_nextDraw_13 rfl (by rw [hQX]; exact ⟨_, rfl, hq0 _ (wo_some h), rfl⟩)
noncomputable def f_X5_lampNights_B4 (i0 : Nat) (mem : mi_M) : (Int32 × Int32) → Option ((Int32 × Int32) ⊕ (Int32)) := fun s => match s with | (l2, l3) => if (6 : Int32) ≤ l3 then some (.inr l2) else mi_g (vp_in l3 6) (mi_let (l2 + (mem.1 35 i0 l3.toNatClampNeg)) fun v5 => some (.inl (v5, (l3 + (1 : Int32)))))
noncomputable def f_X5_lampNights_K4 : Int32 → Option (Int32) := fun e1 => some e1
noncomputable def f_X5_lampNights (i0 : Nat) (mem : mi_M) : Option (Int32) := mi_bo (mi_lp (f_X5_lampNights_B4 i0 mem) mi_fu ((0 : Int32), (0 : Int32))) (f_X5_lampNights_K4)
set_option maxRecDepth 100000 in
set_option maxHeartbeats 4000000 in
theorem w_X5_lampNights (i0 : Nat) (hi0 : i0 < mi_n 5) (mem : mi_M) (a : Int32) (e : f_X5_lampNights i0 mem = some a) : mi_Ci (1) mX5_lampNights [vr 5 i0] mem (fun x m' => x = a ∧ m' = mem) := by
  unfold mi_Ci
  refine mi_C_intro (ls := [(0, vr 5 i0)]) (by decide) rfl rfl ?_
  obtain ⟨Q0, hq0, h⟩ : ∃ Q0 : Int32 → Prop, (∀ b, Q0 b → b = a) ∧ wo (f_X5_lampNights i0 mem) Q0 := ⟨fun b => b = a, fun _ h => h, wo_eq e⟩
  obtain ⟨QX, hQX⟩ : ∃ QX : Option mi_V → mi_M → Prop, QX = (fun r m' => ∃ x, r = some (vi x) ∧ x = a ∧ m' = mem) := ⟨_, rfl⟩
  rw [← hQX]
  unfold f_X5_lampNights at h
  refine x_iconst (pc := 0) dX5_lampNights_0 (v := (0 : Int32)) (by decide) ?_
  refine x_istore_n (ls' := [(1, _), (0, _)]) (pc := 1) dX5_lampNights_1 rfl rfl rfl ?_
  refine x_iconst (pc := 2) dX5_lampNights_2 (v := (0 : Int32)) (by decide) ?_
  refine x_istore_n (ls' := [(2, _), (1, _), (0, _)]) (pc := 3) dX5_lampNights_3 rfl rfl rfl ?_
  have k4_0 : ∀ (e1 : Int32), wo (f_X5_lampNights_K4 e1) Q0 → mi_X mX5_lampNights (1) 25 [(1, vi e1)] [] mem QX := by
    intro e1 h
    unfold f_X5_lampNights_K4 at h
    try dsimp only at h
    refine x_iload_n (pc := 25) dX5_lampNights_25 rfl ?_
    exact x_iret (pc := 26) dX5_lampNights_26 rfl (by rw [hQX]; exact ⟨_, rfl, hq0 _ (wo_some h), rfl⟩)
  refine x_sub [(0, _), (1, _), (2, _)] ⟨rfl, rfl, rfl, trivial⟩ ?_
  obtain ⟨ea, eb, h⟩ := wo_bo h
  refine wo_lq (X := fun s => match s with | (l2, l3) => mi_X mX5_lampNights (1) 4 [(0, vr 5 i0), (1, vi l2), (2, vi l3)] [] mem QX) (E := fun e => wo (f_X5_lampNights_K4 e) Q0) ?_ _ ((0 : Int32), (0 : Int32)) ⟨_, eb, h⟩
  intro Q4 hb4 he4 s h
  obtain ⟨l2, l3⟩ := s
  show mi_X mX5_lampNights (1) 4 [(0, vr 5 i0), (1, vi l2), (2, vi l3)] [] mem QX
  unfold f_X5_lampNights_B4 at h
  try dsimp only at h
  refine x_iload_n (pc := 4) dX5_lampNights_4 rfl ?_
  refine x_bipush (pc := 5) dX5_lampNights_5 (v := (6 : Int32)) (by decide) ?_
  refine x_icmp_ge (pc := 7) dX5_lampNights_7 (tgt := 25) (by decide) (fun c6 => ?_) (fun c6 => ?_)
  · replace h := wo_pos c6 h
    refine x_sub [(1, _)] ⟨rfl, trivial⟩ ?_
    exact k4_0 _ (he4 l2 (wo_some h))
  · replace h := wo_neg c6 h
    refine x_iload_n (pc := 10) dX5_lampNights_10 rfl ?_
    refine x_aload_n (pc := 11) dX5_lampNights_11 rfl ?_
    refine x_getS (pc := 12) dX5_lampNights_12 fX5_15 rfl hi0 ?_
    refine x_iload_n (pc := 15) dX5_lampNights_15 rfl ?_
    obtain ⟨hx4, h⟩ := wo_g h
    refine x_ialdJ (pc := 16) dX5_lampNights_16 rfl rfl hi0 hx4 ?_
    refine x_iadd (pc := 17) dX5_lampNights_17 ?_
    refine x_leti h (fun v5 h => ?_)
    refine x_istore_n (ls' := [(1, _), (0, _), (2, _)]) (pc := 18) dX5_lampNights_18 rfl rfl rfl ?_
    refine x_iinc (ls' := [(2, _), (1, _), (0, _)]) (pc := 19) dX5_lampNights_19 rfl (v := l3 + (1 : Int32)) rfl rfl rfl ?_
    refine x_goto (pc := 22) dX5_lampNights_22 (tgt := 4) (by decide) ?_
    refine x_sub [(0, _), (1, _), (2, _)] ⟨rfl, rfl, rfl, trivial⟩ ?_
    exact hb4 (v5, (l3 + (1 : Int32))) (wo_some h)
noncomputable def f_X0_yearsByDraws_J152 (m4 : mi_M) (u5 : Int32) : Option (Int32 × mi_M) := some (u5, m4)
noncomputable def f_X0_yearsByDraws_J99 (p0 : Nat) (l11 : Int32) (u13 : Int64) (m14 : mi_M) : Option ((Int64 × Int32 × mi_M) ⊕ (mi_M)) := mi_bo (f_X5_sleep 21 p0 m14) fun m15 => some (.inl (u13, (l11 + (1 : Int32)), m15))
noncomputable def f_X0_yearsByDraws_B23 (p0 : Nat) (p3 : Int32) : (Int64 × Int32 × mi_M) → Option ((Int64 × Int32 × mi_M) ⊕ (mi_M)) := fun s => match s with | (l10, l11, m12) => if p3 ≤ l11 then some (.inr m12) else if (m12.1 8 p0 1) ≤ 0 then f_X0_yearsByDraws_J99 p0 l11 l10 m12 else mi_bo (f_X0_nextDraw l10 m12) fun v16 => mi_bo (f_X0_drawBelow v16 (m12.1 8 p0 1) m12) fun v17 => mi_bo (f_X0_nextDraw v16 m12) fun v18 => mi_bo (f_X0_drawBelow v18 (3 : Int32) m12) fun v19 => mi_bo (f_X5_may 21 p0 v19 v17 (1 : Int32) m12) fun v20 => if v20 = 0 then f_X0_yearsByDraws_J99 p0 l11 v18 m12 else mi_bo (f_X5_act 21 p0 v19 v17 (1 : Int32) m12) fun m21 => f_X0_yearsByDraws_J99 p0 l11 v18 m21
noncomputable def f_X0_yearsByDraws_K23 (p4 : Int32) : mi_M → Option (Int32 × mi_M) := fun m4 => if p4 = 0 then some ((m4.1 5 21 1), m4) else if p4 = (1 : Int32) then mi_bo (f_J6_bitCount_0f7a4 (m4.1 5 21 2) m4) fun v7 => f_X0_yearsByDraws_J152 m4 v7 else mi_bo (f_X5_lampNights 21 m4) fun v6 => f_X0_yearsByDraws_J152 m4 v6
noncomputable def f_X0_yearsByDraws (p0 : Nat) (p1 : Nat) (p2 : Int32) (p3 : Int32) (p4 : Int32) (mem : mi_M) : Option (Int32 × mi_M) := mi_bo (f_X5_become 21 p1 mem) fun m1 => mi_let (mi_wI m1 5 21 1 (0 : Int32)) fun m2 => mi_let ((p2).toInt64) fun v3 => mi_bo (mi_lp (f_X0_yearsByDraws_B23 p0 p3) mi_fu (v3, (0 : Int32), m2)) (f_X0_yearsByDraws_K23 p4)
set_option maxRecDepth 100000 in
set_option maxHeartbeats 4000000 in
theorem w_X0_yearsByDraws (p0 : Nat) (p1 : Nat) (p2 : Int32) (p3 : Int32) (p4 : Int32) (hp0 : p0 < mi_n 8) (hp1 : p1 < mi_n 5) (mem : mi_M) (a : Int32 × mi_M) (e : f_X0_yearsByDraws p0 p1 p2 p3 p4 mem = some a) : mi_Ci (7) mX0_yearsByDraws [vr 0 0, vr 8 p0, vr 5 p1, vi p2, vi p3, vi p4] mem (fun x m' => x = a.1 ∧ m' = a.2) := by
  unfold mi_Ci
  refine mi_C_intro (ls := [(0, vr 0 0), (1, vr 8 p0), (2, vr 5 p1), (3, vi p2), (4, vi p3), (5, vi p4)]) (by decide) rfl rfl ?_
  obtain ⟨Q0, hq0, h⟩ : ∃ Q0 : (Int32 × mi_M) → Prop, (∀ b, Q0 b → b = a) ∧ wo (f_X0_yearsByDraws p0 p1 p2 p3 p4 mem) Q0 := ⟨fun b => b = a, fun _ h => h, wo_eq e⟩
  obtain ⟨QX, hQX⟩ : ∃ QX : Option mi_V → mi_M → Prop, QX = (fun r m' => ∃ x, r = some (vi x) ∧ x = a.1 ∧ m' = a.2) := ⟨_, rfl⟩
  rw [← hQX]
  unfold f_X0_yearsByDraws at h
  refine x_aload_n (pc := 0) dX0_yearsByDraws_0 rfl ?_
  refine x_getC (pc := 1) dX0_yearsByDraws_1 fX0_12 rfl (by decide) ?_
  refine x_aload_n (pc := 4) dX0_yearsByDraws_4 rfl ?_
  refine y_Vv1 (pc := 5) h dX0_yearsByDraws_5 lX0_72 (by decide) (by omega) rfl (fun a e => w_X5_become _ _ (by decide) hp1 _ a e) (fun m1 h => ?_)
  refine x_aload_n (pc := 8) dX0_yearsByDraws_8 rfl ?_
  refine x_getC (pc := 9) dX0_yearsByDraws_9 fX0_12 rfl (by decide) ?_
  refine x_iconst (pc := 12) dX0_yearsByDraws_12 (v := (0 : Int32)) (by decide) ?_
  refine x_putI (pc := 13) dX0_yearsByDraws_13 fX0_65 rfl (by decide) rfl rfl ?_
  refine x_letm h (fun m2 h => ?_)
  refine x_iload_n (pc := 16) dX0_yearsByDraws_16 rfl ?_
  refine x_i2l (pc := 17) dX0_yearsByDraws_17 rfl ?_
  refine x_letl h (fun v3 h => ?_)
  refine x_lstore (ls' := [(6, _), (0, _), (1, _), (2, _), (3, _), (4, _), (5, _)]) (pc := 18) dX0_yearsByDraws_18 rfl rfl ?_
  refine x_iconst (pc := 20) dX0_yearsByDraws_20 (v := (0 : Int32)) (by decide) ?_
  refine x_istore (ls' := [(8, _), (6, _), (0, _), (1, _), (2, _), (3, _), (4, _), (5, _)]) (pc := 21) dX0_yearsByDraws_21 rfl rfl ?_
  have k23_0 : ∀ (m4 : mi_M), wo (f_X0_yearsByDraws_K23 p4 m4) Q0 → mi_X mX0_yearsByDraws (7) 113 [(0, vr 0 0), (5, vi p4)] [] m4 QX := by
    intro m4 h
    unfold f_X0_yearsByDraws_K23 at h
    try dsimp only at h
    refine x_iload (pc := 113) dX0_yearsByDraws_113 rfl ?_
    refine x_if_ne (pc := 115) dX0_yearsByDraws_115 (tgt := 126) (by decide) (fun c9 => ?_) (fun c9 => ?_)
    · replace h := wo_neg c9 h
      refine x_iload (pc := 126) dX0_yearsByDraws_126 rfl ?_
      refine x_iconst (pc := 128) dX0_yearsByDraws_128 (v := (1 : Int32)) (by decide) ?_
      have j152 : ∀ (u5 : Int32), wo (f_X0_yearsByDraws_J152 m4 u5) Q0 → mi_X mX0_yearsByDraws (7) 152 [] [vi u5] m4 QX := by
        intro u5 h
        unfold f_X0_yearsByDraws_J152 at h
        exact x_iret (pc := 152) dX0_yearsByDraws_152 rfl (by rw [hQX]; exact ⟨_, rfl, congrArg Prod.fst (hq0 _ (wo_some h)), congrArg Prod.snd (hq0 _ (wo_some h))⟩)
      refine x_icmp_ne (pc := 129) dX0_yearsByDraws_129 (tgt := 145) (by decide) (fun c8 => ?_) (fun c8 => ?_)
      · replace h := wo_neg c8 h
        refine x_aload_n (pc := 145) dX0_yearsByDraws_145 rfl ?_
        refine x_getC (pc := 146) dX0_yearsByDraws_146 fX0_12 rfl (by decide) ?_
        refine z_Vi0 (pc := 149) h dX0_yearsByDraws_149 lX0_138 (by decide) (by omega) rfl (fun a e => w_X5_lampNights _ (by decide) _ a e) (fun v6 h => ?_)
        refine x_sub [] trivial ?_
        exact j152 _ h
      · replace h := wo_pos c8 h
        refine x_aload_n (pc := 132) dX0_yearsByDraws_132 rfl ?_
        refine x_getC (pc := 133) dX0_yearsByDraws_133 fX0_12 rfl (by decide) ?_
        refine x_getI (pc := 136) dX0_yearsByDraws_136 fX0_56 rfl (by decide) ?_
        refine z_Si1 (pc := 139) h dX0_yearsByDraws_139 lX0_59 (by omega) rfl (fun a e => w_J6_bitCount_0f7a4 _ _ a e) (fun v7 h => ?_)
        refine x_goto (pc := 142) dX0_yearsByDraws_142 (tgt := 152) (by decide) ?_
        refine x_sub [] trivial ?_
        exact j152 _ h
    · replace h := wo_pos c9 h
      refine x_aload_n (pc := 118) dX0_yearsByDraws_118 rfl ?_
      refine x_getC (pc := 119) dX0_yearsByDraws_119 fX0_12 rfl (by decide) ?_
      refine x_getI (pc := 122) dX0_yearsByDraws_122 fX0_65 rfl (by decide) ?_
      exact x_iret (pc := 125) dX0_yearsByDraws_125 rfl (by rw [hQX]; exact ⟨_, rfl, congrArg Prod.fst (hq0 _ (wo_some h)), congrArg Prod.snd (hq0 _ (wo_some h))⟩)
  refine x_sub [(0, _), (1, _), (4, _), (5, _), (6, _), (8, _)] ⟨rfl, rfl, rfl, rfl, rfl, rfl, trivial⟩ ?_
  obtain ⟨ea, eb, h⟩ := wo_bo h
  refine wo_lq (X := fun s => match s with | (l10, l11, m12) => mi_X mX0_yearsByDraws (7) 23 [(0, vr 0 0), (1, vr 8 p0), (4, vi p3), (5, vi p4), (6, vl l10), (8, vi l11)] [] m12 QX) (E := fun e => wo (f_X0_yearsByDraws_K23 p4 e) Q0) ?_ _ (v3, (0 : Int32), m2) ⟨_, eb, h⟩
  intro Q23 hb23 he23 s h
  obtain ⟨l10, l11, m12⟩ := s
  show mi_X mX0_yearsByDraws (7) 23 [(0, vr 0 0), (1, vr 8 p0), (4, vi p3), (5, vi p4), (6, vl l10), (8, vi l11)] [] m12 QX
  unfold f_X0_yearsByDraws_B23 at h
  try dsimp only at h
  refine x_iload (pc := 23) dX0_yearsByDraws_23 rfl ?_
  refine x_iload (pc := 25) dX0_yearsByDraws_25 rfl ?_
  refine x_icmp_ge (pc := 27) dX0_yearsByDraws_27 (tgt := 113) (by decide) (fun c24 => ?_) (fun c24 => ?_)
  · replace h := wo_pos c24 h
    refine x_sub [(0, _), (5, _)] ⟨rfl, rfl, trivial⟩ ?_
    exact k23_0 _ (he23 m12 (wo_some h))
  · replace h := wo_neg c24 h
    refine x_aload_n (pc := 30) dX0_yearsByDraws_30 rfl ?_
    refine x_getI (pc := 31) dX0_yearsByDraws_31 fX0_86 rfl hp0 ?_
    have j99 : ∀ (u13 : Int64) (m14 : mi_M), wo (f_X0_yearsByDraws_J99 p0 l11 u13 m14) Q23 → mi_X mX0_yearsByDraws (7) 99 [(0, vr 0 0), (1, vr 8 p0), (4, vi p3), (5, vi p4), (6, vl u13), (8, vi l11)] [] m14 QX := by
      intro u13 m14 h
      unfold f_X0_yearsByDraws_J99 at h
      refine x_aload_n (pc := 99) dX0_yearsByDraws_99 rfl ?_
      refine x_getC (pc := 100) dX0_yearsByDraws_100 fX0_12 rfl (by decide) ?_
      refine x_aload_n (pc := 103) dX0_yearsByDraws_103 rfl ?_
      refine y_Vv1 (pc := 104) h dX0_yearsByDraws_104 lX0_98 (by decide) (by omega) rfl (fun a e => w_X5_sleep _ _ (by decide) hp0 _ a e) (fun m15 h => ?_)
      refine x_iinc (ls' := [(8, _), (0, _), (1, _), (4, _), (5, _), (6, _)]) (pc := 107) dX0_yearsByDraws_107 rfl (v := l11 + (1 : Int32)) rfl rfl rfl ?_
      refine x_goto (pc := 110) dX0_yearsByDraws_110 (tgt := 23) (by decide) ?_
      refine x_sub [(0, _), (1, _), (4, _), (5, _), (6, _), (8, _)] ⟨rfl, rfl, rfl, rfl, rfl, rfl, trivial⟩ ?_
      exact hb23 (u13, (l11 + (1 : Int32)), m15) (wo_some h)
    refine x_if_le (pc := 34) dX0_yearsByDraws_34 (tgt := 99) (by decide) (fun c23 => ?_) (fun c23 => ?_)
    · replace h := wo_pos c23 h
      refine x_sub [(0, _), (1, _), (4, _), (5, _), (6, _), (8, _)] ⟨rfl, rfl, rfl, rfl, rfl, rfl, trivial⟩ ?_
      exact j99 _ _ h
    · replace h := wo_neg c23 h
      refine x_lload (pc := 37) dX0_yearsByDraws_37 rfl ?_
      refine z_Sl1 (pc := 39) h dX0_yearsByDraws_39 lX0_130 (by omega) rfl (fun a e => w_X0_nextDraw _ _ a e) (fun v16 h => ?_)
      refine x_lstore (ls' := [(6, _), (0, _), (1, _), (4, _), (5, _), (8, _)]) (pc := 42) dX0_yearsByDraws_42 rfl rfl ?_
      refine x_lload (pc := 44) dX0_yearsByDraws_44 rfl ?_
      refine x_aload_n (pc := 46) dX0_yearsByDraws_46 rfl ?_
      refine x_getI (pc := 47) dX0_yearsByDraws_47 fX0_86 rfl hp0 ?_
      refine z_Si2 (pc := 50) h dX0_yearsByDraws_50 lX0_134 (by omega) rfl (fun a e => w_X0_drawBelow _ _ _ a e) (fun v17 h => ?_)
      refine x_istore (ls' := [(9, _), (6, _), (0, _), (1, _), (4, _), (5, _), (8, _)]) (pc := 53) dX0_yearsByDraws_53 rfl rfl ?_
      refine x_lload (pc := 55) dX0_yearsByDraws_55 rfl ?_
      refine z_Sl1 (pc := 57) h dX0_yearsByDraws_57 lX0_130 (by omega) rfl (fun a e => w_X0_nextDraw _ _ a e) (fun v18 h => ?_)
      refine x_lstore (ls' := [(6, _), (9, _), (0, _), (1, _), (4, _), (5, _), (8, _)]) (pc := 60) dX0_yearsByDraws_60 rfl rfl ?_
      refine x_lload (pc := 62) dX0_yearsByDraws_62 rfl ?_
      refine x_iconst (pc := 64) dX0_yearsByDraws_64 (v := (3 : Int32)) (by decide) ?_
      refine z_Si2 (pc := 65) h dX0_yearsByDraws_65 lX0_134 (by omega) rfl (fun a e => w_X0_drawBelow _ _ _ a e) (fun v19 h => ?_)
      refine x_istore (ls' := [(10, _), (6, _), (9, _), (0, _), (1, _), (4, _), (5, _), (8, _)]) (pc := 68) dX0_yearsByDraws_68 rfl rfl ?_
      refine x_aload_n (pc := 70) dX0_yearsByDraws_70 rfl ?_
      refine x_getC (pc := 71) dX0_yearsByDraws_71 fX0_12 rfl (by decide) ?_
      refine x_aload_n (pc := 74) dX0_yearsByDraws_74 rfl ?_
      refine x_iload (pc := 75) dX0_yearsByDraws_75 rfl ?_
      refine x_iload (pc := 77) dX0_yearsByDraws_77 rfl ?_
      refine x_iconst (pc := 79) dX0_yearsByDraws_79 (v := (1 : Int32)) (by decide) ?_
      refine z_Vi4 (pc := 80) h dX0_yearsByDraws_80 lX0_48 (by decide) (by omega) rfl (fun a e => w_X5_may _ _ _ _ _ (by decide) hp0 _ a e) (fun v20 h => ?_)
      refine x_if_eq (pc := 83) dX0_yearsByDraws_83 (tgt := 99) (by decide) (fun c22 => ?_) (fun c22 => ?_)
      · replace h := wo_pos c22 h
        refine x_sub [(0, _), (1, _), (4, _), (5, _), (6, _), (8, _)] ⟨rfl, rfl, rfl, rfl, rfl, rfl, trivial⟩ ?_
        exact j99 _ _ h
      · replace h := wo_neg c22 h
        refine x_aload_n (pc := 86) dX0_yearsByDraws_86 rfl ?_
        refine x_getC (pc := 87) dX0_yearsByDraws_87 fX0_12 rfl (by decide) ?_
        refine x_aload_n (pc := 90) dX0_yearsByDraws_90 rfl ?_
        refine x_iload (pc := 91) dX0_yearsByDraws_91 rfl ?_
        refine x_iload (pc := 93) dX0_yearsByDraws_93 rfl ?_
        refine x_iconst (pc := 95) dX0_yearsByDraws_95 (v := (1 : Int32)) (by decide) ?_
        refine y_Vv4 (pc := 96) h dX0_yearsByDraws_96 lX0_52 (by decide) (by omega) rfl (fun a e => w_X5_act _ _ _ _ _ (by decide) hp0 _ a e) (fun m21 h => ?_)
        refine x_sub [(0, _), (1, _), (4, _), (5, _), (6, _), (8, _)] ⟨rfl, rfl, rfl, rfl, rfl, rfl, trivial⟩ ?_
        exact j99 _ _ h
noncomputable def f_X11_years_J30 (mem : mi_M) : Option (Int32 × mi_M) := some ((-1 : Int32), mem)
noncomputable def f_X11_years (p0 : Int32) (p1 : Int32) (p2 : Int32) (mem : mi_M) : Option (Int32 × mi_M) := mi_bo (f_X11_isWithin p0 (0 : Int32) (9999 : Int32) mem) fun v1 => if v1 = 0 then f_X11_years_J30 mem else mi_bo (f_X11_isWithin p1 (1 : Int32) (100 : Int32) mem) fun v2 => if v2 = 0 then f_X11_years_J30 mem else mi_bo (f_X11_isWithin p2 (0 : Int32) (2 : Int32) mem) fun v3 => if v3 = 0 then f_X11_years_J30 mem else mi_g (mem.2.2 0 < mi_n 8) (mi_b (f_X0_yearsByDraws (mem.2.2 0) 0 p0 p1 p2 mem) fun v5 m6 => some (v5, m6))
set_option maxRecDepth 100000 in
set_option maxHeartbeats 4000000 in
theorem w_X11_years (p0 : Int32) (p1 : Int32) (p2 : Int32) (mem : mi_M) (a : Int32 × mi_M) (e : f_X11_years p0 p1 p2 mem = some a) : mi_Ci (8) mX11_years [vr 11 0, vi p0, vi p1, vi p2] mem (fun x m' => x = a.1 ∧ m' = a.2) := by
  unfold mi_Ci
  refine mi_C_intro (ls := [(0, vr 11 0), (1, vi p0), (2, vi p1), (3, vi p2)]) (by decide) rfl rfl ?_
  obtain ⟨Q0, hq0, h⟩ : ∃ Q0 : (Int32 × mi_M) → Prop, (∀ b, Q0 b → b = a) ∧ wo (f_X11_years p0 p1 p2 mem) Q0 := ⟨fun b => b = a, fun _ h => h, wo_eq e⟩
  obtain ⟨QX, hQX⟩ : ∃ QX : Option mi_V → mi_M → Prop, QX = (fun r m' => ∃ x, r = some (vi x) ∧ x = a.1 ∧ m' = a.2) := ⟨_, rfl⟩
  rw [← hQX]
  unfold f_X11_years at h
  refine x_iload_n (pc := 0) dX11_years_0 rfl ?_
  refine x_iconst (pc := 1) dX11_years_1 (v := (0 : Int32)) (by decide) ?_
  refine x_sipush (pc := 2) dX11_years_2 (v := (9999 : Int32)) (by decide) ?_
  refine z_Si3 (pc := 5) h dX11_years_5 lX11_155 (by omega) rfl (fun a e => w_X11_isWithin _ _ _ _ a e) (fun v1 h => ?_)
  have j30 : wo (f_X11_years_J30 mem) Q0 → mi_X mX11_years (8) 30 [] [] mem QX := by
    intro h
    unfold f_X11_years_J30 at h
    refine x_iconst (pc := 30) dX11_years_30 (v := (-1 : Int32)) (by decide) ?_
    exact x_iret (pc := 31) dX11_years_31 rfl (by rw [hQX]; exact ⟨_, rfl, congrArg Prod.fst (hq0 _ (wo_some h)), congrArg Prod.snd (hq0 _ (wo_some h))⟩)
  refine x_if_eq (pc := 8) dX11_years_8 (tgt := 30) (by decide) (fun c9 => ?_) (fun c9 => ?_)
  · replace h := wo_pos c9 h
    refine x_sub [] trivial ?_
    exact j30 h
  · replace h := wo_neg c9 h
    refine x_iload_n (pc := 11) dX11_years_11 rfl ?_
    refine x_iconst (pc := 12) dX11_years_12 (v := (1 : Int32)) (by decide) ?_
    refine x_bipush (pc := 13) dX11_years_13 (v := (100 : Int32)) (by decide) ?_
    refine z_Si3 (pc := 15) h dX11_years_15 lX11_155 (by omega) rfl (fun a e => w_X11_isWithin _ _ _ _ a e) (fun v2 h => ?_)
    refine x_if_eq (pc := 18) dX11_years_18 (tgt := 30) (by decide) (fun c8 => ?_) (fun c8 => ?_)
    · replace h := wo_pos c8 h
      refine x_sub [] trivial ?_
      exact j30 h
    · replace h := wo_neg c8 h
      refine x_iload_n (pc := 21) dX11_years_21 rfl ?_
      refine x_iconst (pc := 22) dX11_years_22 (v := (0 : Int32)) (by decide) ?_
      refine x_iconst (pc := 23) dX11_years_23 (v := (2 : Int32)) (by decide) ?_
      refine z_Si3 (pc := 24) h dX11_years_24 lX11_155 (by omega) rfl (fun a e => w_X11_isWithin _ _ _ _ a e) (fun v3 h => ?_)
      refine x_if_ne (pc := 27) dX11_years_27 (tgt := 32) (by decide) (fun c7 => ?_) (fun c7 => ?_)
      · replace h := wo_neg c7 h
        refine x_aload_n (pc := 32) dX11_years_32 rfl ?_
        refine x_getC (pc := 33) dX11_years_33 fX11_40 rfl (by decide) ?_
        refine x_aload_n (pc := 36) dX11_years_36 rfl ?_
        obtain ⟨hm4, h⟩ := wo_g h
        refine x_getM (pc := 37) dX11_years_37 fX11_54 rfl (by decide) ?_
        refine x_aload_n (pc := 40) dX11_years_40 rfl ?_
        refine x_getC (pc := 41) dX11_years_41 fX11_19 rfl (by decide) ?_
        refine x_iload_n (pc := 44) dX11_years_44 rfl ?_
        refine x_iload_n (pc := 45) dX11_years_45 rfl ?_
        refine x_iload_n (pc := 46) dX11_years_46 rfl ?_
        refine y_Vi5 (pc := 47) h dX11_years_47 lX11_273 (by decide) (by omega) rfl (fun a e => w_X0_yearsByDraws _ _ _ _ _ hm4 (by decide) _ a e) (fun v5 m6 h => ?_)
        exact x_iret (pc := 50) dX11_years_50 rfl (by rw [hQX]; exact ⟨_, rfl, congrArg Prod.fst (hq0 _ (wo_some h)), congrArg Prod.snd (hq0 _ (wo_some h))⟩)
      · replace h := wo_pos c7 h
        refine x_sub [] trivial ?_
        exact j30 h
noncomputable def f_X12_emit (p0 : Int32) (p1 : Int32) (mem : mi_M) : Option (mi_M) := mi_g (vp_in ((1100 : Int32) + (mem.1 12 0 13)) 2200) (mi_let (mi_wI mem 57 0 ((1100 : Int32) + (mem.1 12 0 13)).toNatClampNeg p0) fun m2 => mi_g (vp_in ((1100 : Int32) + (m2.1 12 0 13)) 2200) (mi_let (mi_wI m2 58 0 ((1100 : Int32) + (m2.1 12 0 13)).toNatClampNeg p1) fun m4 => mi_let (mi_wI m4 12 0 13 ((m4.1 12 0 13) + (1 : Int32))) fun m5 => some m5))
set_option maxRecDepth 100000 in
set_option maxHeartbeats 4000000 in
theorem w_X12_emit (p0 : Int32) (p1 : Int32) (mem : mi_M) (a : mi_M) (e : f_X12_emit p0 p1 mem = some a) : mi_Cv (1) mX12_emit [vr 12 0, vi p0, vi p1] mem (fun m' => m' = a) := by
  unfold mi_Cv
  refine mi_C_intro (ls := [(0, vr 12 0), (1, vi p0), (2, vi p1)]) (by decide) rfl rfl ?_
  obtain ⟨Q0, hq0, h⟩ : ∃ Q0 : mi_M → Prop, (∀ b, Q0 b → b = a) ∧ wo (f_X12_emit p0 p1 mem) Q0 := ⟨fun b => b = a, fun _ h => h, wo_eq e⟩
  obtain ⟨QX, hQX⟩ : ∃ QX : Option mi_V → mi_M → Prop, QX = (fun r m' => r = none ∧ m' = a) := ⟨_, rfl⟩
  rw [← hQX]
  unfold f_X12_emit at h
  refine x_aload_n (pc := 0) dX12_emit_0 rfl ?_
  refine x_getS (pc := 1) dX12_emit_1 fX12_92 rfl (by decide) ?_
  refine x_sipush (pc := 4) dX12_emit_4 (v := (1100 : Int32)) (by decide) ?_
  refine x_aload_n (pc := 7) dX12_emit_7 rfl ?_
  refine x_getI (pc := 8) dX12_emit_8 fX12_225 rfl (by decide) ?_
  refine x_iadd (pc := 11) dX12_emit_11 ?_
  refine x_iload_n (pc := 12) dX12_emit_12 rfl ?_
  obtain ⟨hx1, h⟩ := wo_g h
  refine x_iastJ (pc := 13) dX12_emit_13 rfl rfl (by decide) rfl hx1 ?_
  refine x_letm h (fun m2 h => ?_)
  refine x_aload_n (pc := 14) dX12_emit_14 rfl ?_
  refine x_getS (pc := 15) dX12_emit_15 fX12_95 rfl (by decide) ?_
  refine x_sipush (pc := 18) dX12_emit_18 (v := (1100 : Int32)) (by decide) ?_
  refine x_aload_n (pc := 21) dX12_emit_21 rfl ?_
  refine x_getI (pc := 22) dX12_emit_22 fX12_225 rfl (by decide) ?_
  refine x_iadd (pc := 25) dX12_emit_25 ?_
  refine x_iload_n (pc := 26) dX12_emit_26 rfl ?_
  obtain ⟨hx3, h⟩ := wo_g h
  refine x_iastJ (pc := 27) dX12_emit_27 rfl rfl (by decide) rfl hx3 ?_
  refine x_letm h (fun m4 h => ?_)
  refine x_aload_n (pc := 28) dX12_emit_28 rfl ?_
  refine x_dup (pc := 29) dX12_emit_29 rfl ?_
  refine x_getI (pc := 30) dX12_emit_30 fX12_225 rfl (by decide) ?_
  refine x_iconst (pc := 33) dX12_emit_33 (v := (1 : Int32)) (by decide) ?_
  refine x_iadd (pc := 34) dX12_emit_34 ?_
  refine x_putI (pc := 35) dX12_emit_35 fX12_225 rfl (by decide) rfl rfl ?_
  refine x_letm h (fun m5 h => ?_)
  exact x_ret (pc := 38) dX12_emit_38 rfl (by rw [hQX]; exact ⟨rfl, hq0 _ (wo_some h)⟩)
noncomputable def f_X12_isWord_J44 (u1 : Int32) : Option (Int32) := mi_g (u1 = 0 ∨ u1 = 1) (some u1)
noncomputable def f_X12_isWord_J43 : Option (Int32) := f_X12_isWord_J44 (0 : Int32)
noncomputable def f_X12_isWord (p0 : Int32) (mem : mi_M) : Option (Int32) := if (mem.1 12 0 8) = 0 then mi_g (vp_in (mem.1 12 0 7) 1002) (if (mem.1 52 0 (mem.1 12 0 7).toNatClampNeg) = (1 : Int32) then mi_g (vp_in (mem.1 12 0 7) 1002) (mi_g (vp_in p0 26) (if (lg_cmp (mem.2.1 54 0 (mem.1 12 0 7).toNatClampNeg) (mem.2.1 55 0 p0.toNatClampNeg)) = 0 then f_X12_isWord_J44 (1 : Int32) else f_X12_isWord_J43)) else f_X12_isWord_J43) else f_X12_isWord_J43
set_option maxRecDepth 100000 in
set_option maxHeartbeats 4000000 in
theorem w_X12_isWord (p0 : Int32) (mem : mi_M) (a : Int32) (e : f_X12_isWord p0 mem = some a) : mi_Ci (1) mX12_isWord [vr 12 0, vi p0] mem (fun x m' => x = a ∧ m' = mem) := by
  unfold mi_Ci
  refine mi_C_intro (ls := [(0, vr 12 0), (1, vi p0)]) (by decide) rfl rfl ?_
  obtain ⟨Q0, hq0, h⟩ : ∃ Q0 : Int32 → Prop, (∀ b, Q0 b → b = a) ∧ wo (f_X12_isWord p0 mem) Q0 := ⟨fun b => b = a, fun _ h => h, wo_eq e⟩
  obtain ⟨QX, hQX⟩ : ∃ QX : Option mi_V → mi_M → Prop, QX = (fun r m' => ∃ x, r = some (vi x) ∧ x = a ∧ m' = mem) := ⟨_, rfl⟩
  rw [← hQX]
  unfold f_X12_isWord at h
  refine x_aload_n (pc := 0) dX12_isWord_0 rfl ?_
  refine x_getI (pc := 1) dX12_isWord_1 fX12_183 rfl (by decide) ?_
  have j44 : ∀ (u1 : Int32), wo (f_X12_isWord_J44 u1) Q0 → mi_X mX12_isWord (1) 44 [] [vi u1] mem QX := by
    intro u1 h
    unfold f_X12_isWord_J44 at h
    obtain ⟨hb2, h⟩ := wo_g h
    exact x_zretB (pc := 44) dX12_isWord_44 rfl hb2 (by rw [hQX]; exact ⟨_, rfl, hq0 _ (wo_some h), rfl⟩)
  have j43 : wo (f_X12_isWord_J43) Q0 → mi_X mX12_isWord (1) 43 [] [] mem QX := by
    intro h
    unfold f_X12_isWord_J43 at h
    refine x_iconst (pc := 43) dX12_isWord_43 (v := (0 : Int32)) (by decide) ?_
    refine x_sub [] trivial ?_
    exact j44 _ h
  refine x_if_ne (pc := 4) dX12_isWord_4 (tgt := 43) (by decide) (fun c8 => ?_) (fun c8 => ?_)
  · replace h := wo_neg c8 h
    refine x_sub [] trivial ?_
    exact j43 h
  · replace h := wo_pos c8 h
    refine x_aload_n (pc := 7) dX12_isWord_7 rfl ?_
    refine x_getS (pc := 8) dX12_isWord_8 fX12_24 rfl (by decide) ?_
    refine x_aload_n (pc := 11) dX12_isWord_11 rfl ?_
    refine x_getI (pc := 12) dX12_isWord_12 fX12_180 rfl (by decide) ?_
    obtain ⟨hx3, h⟩ := wo_g h
    refine x_ialdJ (pc := 15) dX12_isWord_15 rfl rfl (by decide) hx3 ?_
    refine x_iconst (pc := 16) dX12_isWord_16 (v := (1 : Int32)) (by decide) ?_
    refine x_icmp_ne (pc := 17) dX12_isWord_17 (tgt := 43) (by decide) (fun c7 => ?_) (fun c7 => ?_)
    · replace h := wo_neg c7 h
      refine x_sub [] trivial ?_
      exact j43 h
    · replace h := wo_pos c7 h
      refine x_aload_n (pc := 20) dX12_isWord_20 rfl ?_
      refine x_getS (pc := 21) dX12_isWord_21 fX12_30 rfl (by decide) ?_
      refine x_aload_n (pc := 24) dX12_isWord_24 rfl ?_
      refine x_getI (pc := 25) dX12_isWord_25 fX12_180 rfl (by decide) ?_
      obtain ⟨hx4, h⟩ := wo_g h
      refine x_laldJ (pc := 28) dX12_isWord_28 rfl rfl (by decide) hx4 ?_
      refine x_aload_n (pc := 29) dX12_isWord_29 rfl ?_
      refine x_getS (pc := 30) dX12_isWord_30 fX12_86 rfl (by decide) ?_
      refine x_iload_n (pc := 33) dX12_isWord_33 rfl ?_
      obtain ⟨hx5, h⟩ := wo_g h
      refine x_laldJ (pc := 34) dX12_isWord_34 rfl rfl (by decide) hx5 ?_
      refine x_lcmp (pc := 35) dX12_isWord_35 ?_
      refine x_if_ne (pc := 36) dX12_isWord_36 (tgt := 43) (by decide) (fun c6 => ?_) (fun c6 => ?_)
      · replace h := wo_neg c6 h
        refine x_sub [] trivial ?_
        exact j43 h
      · replace h := wo_pos c6 h
        refine x_iconst (pc := 39) dX12_isWord_39 (v := (1 : Int32)) (by decide) ?_
        refine x_goto (pc := 40) dX12_isWord_40 (tgt := 44) (by decide) ?_
        refine x_sub [] trivial ?_
        exact j44 _ h
noncomputable def f_X12_isSign_J40 (u1 : Int32) : Option (Int32) := mi_g (u1 = 0 ∨ u1 = 1) (some u1)
noncomputable def f_X12_isSign_J39 : Option (Int32) := f_X12_isSign_J40 (0 : Int32)
noncomputable def f_X12_isSign (p0 : Int32) (mem : mi_M) : Option (Int32) := if (mem.1 12 0 8) = 0 then mi_g (vp_in (mem.1 12 0 7) 1002) (if (mem.1 52 0 (mem.1 12 0 7).toNatClampNeg) = (3 : Int32) then mi_g (vp_in (mem.1 12 0 7) 1002) (if (lg_cmp (mem.2.1 54 0 (mem.1 12 0 7).toNatClampNeg) ((p0).toInt64)) = 0 then f_X12_isSign_J40 (1 : Int32) else f_X12_isSign_J39) else f_X12_isSign_J39) else f_X12_isSign_J39
set_option maxRecDepth 100000 in
set_option maxHeartbeats 4000000 in
theorem w_X12_isSign (p0 : Int32) (mem : mi_M) (a : Int32) (e : f_X12_isSign p0 mem = some a) : mi_Ci (1) mX12_isSign [vr 12 0, vi p0] mem (fun x m' => x = a ∧ m' = mem) := by
  unfold mi_Ci
  refine mi_C_intro (ls := [(0, vr 12 0), (1, vi p0)]) (by decide) rfl rfl ?_
  obtain ⟨Q0, hq0, h⟩ : ∃ Q0 : Int32 → Prop, (∀ b, Q0 b → b = a) ∧ wo (f_X12_isSign p0 mem) Q0 := ⟨fun b => b = a, fun _ h => h, wo_eq e⟩
  obtain ⟨QX, hQX⟩ : ∃ QX : Option mi_V → mi_M → Prop, QX = (fun r m' => ∃ x, r = some (vi x) ∧ x = a ∧ m' = mem) := ⟨_, rfl⟩
  rw [← hQX]
  unfold f_X12_isSign at h
  refine x_aload_n (pc := 0) dX12_isSign_0 rfl ?_
  refine x_getI (pc := 1) dX12_isSign_1 fX12_183 rfl (by decide) ?_
  have j40 : ∀ (u1 : Int32), wo (f_X12_isSign_J40 u1) Q0 → mi_X mX12_isSign (1) 40 [] [vi u1] mem QX := by
    intro u1 h
    unfold f_X12_isSign_J40 at h
    obtain ⟨hb2, h⟩ := wo_g h
    exact x_zretB (pc := 40) dX12_isSign_40 rfl hb2 (by rw [hQX]; exact ⟨_, rfl, hq0 _ (wo_some h), rfl⟩)
  have j39 : wo (f_X12_isSign_J39) Q0 → mi_X mX12_isSign (1) 39 [] [] mem QX := by
    intro h
    unfold f_X12_isSign_J39 at h
    refine x_iconst (pc := 39) dX12_isSign_39 (v := (0 : Int32)) (by decide) ?_
    refine x_sub [] trivial ?_
    exact j40 _ h
  refine x_if_ne (pc := 4) dX12_isSign_4 (tgt := 39) (by decide) (fun c7 => ?_) (fun c7 => ?_)
  · replace h := wo_neg c7 h
    refine x_sub [] trivial ?_
    exact j39 h
  · replace h := wo_pos c7 h
    refine x_aload_n (pc := 7) dX12_isSign_7 rfl ?_
    refine x_getS (pc := 8) dX12_isSign_8 fX12_24 rfl (by decide) ?_
    refine x_aload_n (pc := 11) dX12_isSign_11 rfl ?_
    refine x_getI (pc := 12) dX12_isSign_12 fX12_180 rfl (by decide) ?_
    obtain ⟨hx3, h⟩ := wo_g h
    refine x_ialdJ (pc := 15) dX12_isSign_15 rfl rfl (by decide) hx3 ?_
    refine x_iconst (pc := 16) dX12_isSign_16 (v := (3 : Int32)) (by decide) ?_
    refine x_icmp_ne (pc := 17) dX12_isSign_17 (tgt := 39) (by decide) (fun c6 => ?_) (fun c6 => ?_)
    · replace h := wo_neg c6 h
      refine x_sub [] trivial ?_
      exact j39 h
    · replace h := wo_pos c6 h
      refine x_aload_n (pc := 20) dX12_isSign_20 rfl ?_
      refine x_getS (pc := 21) dX12_isSign_21 fX12_30 rfl (by decide) ?_
      refine x_aload_n (pc := 24) dX12_isSign_24 rfl ?_
      refine x_getI (pc := 25) dX12_isSign_25 fX12_180 rfl (by decide) ?_
      obtain ⟨hx4, h⟩ := wo_g h
      refine x_laldJ (pc := 28) dX12_isSign_28 rfl rfl (by decide) hx4 ?_
      refine x_iload_n (pc := 29) dX12_isSign_29 rfl ?_
      refine x_i2l (pc := 30) dX12_isSign_30 rfl ?_
      refine x_lcmp (pc := 31) dX12_isSign_31 ?_
      refine x_if_ne (pc := 32) dX12_isSign_32 (tgt := 39) (by decide) (fun c5 => ?_) (fun c5 => ?_)
      · replace h := wo_neg c5 h
        refine x_sub [] trivial ?_
        exact j39 h
      · replace h := wo_pos c5 h
        refine x_iconst (pc := 35) dX12_isSign_35 (v := (1 : Int32)) (by decide) ?_
        refine x_goto (pc := 36) dX12_isSign_36 (tgt := 40) (by decide) ?_
        refine x_sub [] trivial ?_
        exact j40 _ h
noncomputable def f_X12_hasSign_J20 (mem : mi_M) (v1 : Int32) (u2 : Int32) : Option (Int32 × mi_M) := mi_let (mi_wI mem 12 0 7 ((mem.1 12 0 7) + u2)) fun m3 => mi_g (v1 = 0 ∨ v1 = 1) (some (v1, m3))
noncomputable def f_X12_hasSign (p0 : Int32) (mem : mi_M) : Option (Int32 × mi_M) := mi_bo (f_X12_isSign p0 mem) fun v1 => if v1 = 0 then f_X12_hasSign_J20 mem v1 (0 : Int32) else f_X12_hasSign_J20 mem v1 (1 : Int32)
set_option maxRecDepth 100000 in
set_option maxHeartbeats 4000000 in
theorem w_X12_hasSign (p0 : Int32) (mem : mi_M) (a : Int32 × mi_M) (e : f_X12_hasSign p0 mem = some a) : mi_Ci (2) mX12_hasSign [vr 12 0, vi p0] mem (fun x m' => x = a.1 ∧ m' = a.2) := by
  unfold mi_Ci
  refine mi_C_intro (ls := [(0, vr 12 0), (1, vi p0)]) (by decide) rfl rfl ?_
  obtain ⟨Q0, hq0, h⟩ : ∃ Q0 : (Int32 × mi_M) → Prop, (∀ b, Q0 b → b = a) ∧ wo (f_X12_hasSign p0 mem) Q0 := ⟨fun b => b = a, fun _ h => h, wo_eq e⟩
  obtain ⟨QX, hQX⟩ : ∃ QX : Option mi_V → mi_M → Prop, QX = (fun r m' => ∃ x, r = some (vi x) ∧ x = a.1 ∧ m' = a.2) := ⟨_, rfl⟩
  rw [← hQX]
  unfold f_X12_hasSign at h
  refine x_aload_n (pc := 0) dX12_hasSign_0 rfl ?_
  refine x_iload_n (pc := 1) dX12_hasSign_1 rfl ?_
  refine z_Vi1 (pc := 2) h dX12_hasSign_2 lX12_186 (by decide) (by omega) rfl (fun a e => w_X12_isSign _ _ a e) (fun v1 h => ?_)
  refine x_istore_n (ls' := [(2, _), (0, _), (1, _)]) (pc := 5) dX12_hasSign_5 rfl rfl rfl ?_
  refine x_aload_n (pc := 6) dX12_hasSign_6 rfl ?_
  refine x_dup (pc := 7) dX12_hasSign_7 rfl ?_
  refine x_getI (pc := 8) dX12_hasSign_8 fX12_180 rfl (by decide) ?_
  refine x_iload_n (pc := 11) dX12_hasSign_11 rfl ?_
  have j20 : ∀ (u2 : Int32), wo (f_X12_hasSign_J20 mem v1 u2) Q0 → mi_X mX12_hasSign (2) 20 [(2, vi v1)] [vi u2, vi (mem.1 12 0 7), vr 12 0] mem QX := by
    intro u2 h
    unfold f_X12_hasSign_J20 at h
    refine x_iadd (pc := 20) dX12_hasSign_20 ?_
    refine x_putI (pc := 21) dX12_hasSign_21 fX12_180 rfl (by decide) rfl rfl ?_
    refine x_letm h (fun m3 h => ?_)
    refine x_iload_n (pc := 24) dX12_hasSign_24 rfl ?_
    obtain ⟨hb4, h⟩ := wo_g h
    exact x_zretB (pc := 25) dX12_hasSign_25 rfl hb4 (by rw [hQX]; exact ⟨_, rfl, congrArg Prod.fst (hq0 _ (wo_some h)), congrArg Prod.snd (hq0 _ (wo_some h))⟩)
  refine x_if_eq (pc := 12) dX12_hasSign_12 (tgt := 19) (by decide) (fun c5 => ?_) (fun c5 => ?_)
  · replace h := wo_pos c5 h
    refine x_iconst (pc := 19) dX12_hasSign_19 (v := (0 : Int32)) (by decide) ?_
    refine x_sub [(2, _)] ⟨rfl, trivial⟩ ?_
    exact j20 _ h
  · replace h := wo_neg c5 h
    refine x_iconst (pc := 15) dX12_hasSign_15 (v := (1 : Int32)) (by decide) ?_
    refine x_goto (pc := 16) dX12_hasSign_16 (tgt := 20) (by decide) ?_
    refine x_sub [(2, _)] ⟨rfl, trivial⟩ ?_
    exact j20 _ h
noncomputable def f_X12_hasWord_J20 (mem : mi_M) (v1 : Int32) (u2 : Int32) : Option (Int32 × mi_M) := mi_let (mi_wI mem 12 0 7 ((mem.1 12 0 7) + u2)) fun m3 => mi_g (v1 = 0 ∨ v1 = 1) (some (v1, m3))
noncomputable def f_X12_hasWord (p0 : Int32) (mem : mi_M) : Option (Int32 × mi_M) := mi_bo (f_X12_isWord p0 mem) fun v1 => if v1 = 0 then f_X12_hasWord_J20 mem v1 (0 : Int32) else f_X12_hasWord_J20 mem v1 (1 : Int32)
set_option maxRecDepth 100000 in
set_option maxHeartbeats 4000000 in
theorem w_X12_hasWord (p0 : Int32) (mem : mi_M) (a : Int32 × mi_M) (e : f_X12_hasWord p0 mem = some a) : mi_Ci (2) mX12_hasWord [vr 12 0, vi p0] mem (fun x m' => x = a.1 ∧ m' = a.2) := by
  unfold mi_Ci
  refine mi_C_intro (ls := [(0, vr 12 0), (1, vi p0)]) (by decide) rfl rfl ?_
  obtain ⟨Q0, hq0, h⟩ : ∃ Q0 : (Int32 × mi_M) → Prop, (∀ b, Q0 b → b = a) ∧ wo (f_X12_hasWord p0 mem) Q0 := ⟨fun b => b = a, fun _ h => h, wo_eq e⟩
  obtain ⟨QX, hQX⟩ : ∃ QX : Option mi_V → mi_M → Prop, QX = (fun r m' => ∃ x, r = some (vi x) ∧ x = a.1 ∧ m' = a.2) := ⟨_, rfl⟩
  rw [← hQX]
  unfold f_X12_hasWord at h
  refine x_aload_n (pc := 0) dX12_hasWord_0 rfl ?_
  refine x_iload_n (pc := 1) dX12_hasWord_1 rfl ?_
  refine z_Vi1 (pc := 2) h dX12_hasWord_2 lX12_192 (by decide) (by omega) rfl (fun a e => w_X12_isWord _ _ a e) (fun v1 h => ?_)
  refine x_istore_n (ls' := [(2, _), (0, _), (1, _)]) (pc := 5) dX12_hasWord_5 rfl rfl rfl ?_
  refine x_aload_n (pc := 6) dX12_hasWord_6 rfl ?_
  refine x_dup (pc := 7) dX12_hasWord_7 rfl ?_
  refine x_getI (pc := 8) dX12_hasWord_8 fX12_180 rfl (by decide) ?_
  refine x_iload_n (pc := 11) dX12_hasWord_11 rfl ?_
  have j20 : ∀ (u2 : Int32), wo (f_X12_hasWord_J20 mem v1 u2) Q0 → mi_X mX12_hasWord (2) 20 [(2, vi v1)] [vi u2, vi (mem.1 12 0 7), vr 12 0] mem QX := by
    intro u2 h
    unfold f_X12_hasWord_J20 at h
    refine x_iadd (pc := 20) dX12_hasWord_20 ?_
    refine x_putI (pc := 21) dX12_hasWord_21 fX12_180 rfl (by decide) rfl rfl ?_
    refine x_letm h (fun m3 h => ?_)
    refine x_iload_n (pc := 24) dX12_hasWord_24 rfl ?_
    obtain ⟨hb4, h⟩ := wo_g h
    exact x_zretB (pc := 25) dX12_hasWord_25 rfl hb4 (by rw [hQX]; exact ⟨_, rfl, congrArg Prod.fst (hq0 _ (wo_some h)), congrArg Prod.snd (hq0 _ (wo_some h))⟩)
  refine x_if_eq (pc := 12) dX12_hasWord_12 (tgt := 19) (by decide) (fun c5 => ?_) (fun c5 => ?_)
  · replace h := wo_pos c5 h
    refine x_iconst (pc := 19) dX12_hasWord_19 (v := (0 : Int32)) (by decide) ?_
    refine x_sub [(2, _)] ⟨rfl, trivial⟩ ?_
    exact j20 _ h
  · replace h := wo_neg c5 h
    refine x_iconst (pc := 15) dX12_hasWord_15 (v := (1 : Int32)) (by decide) ?_
    refine x_goto (pc := 16) dX12_hasWord_16 (tgt := 20) (by decide) ?_
    refine x_sub [(2, _)] ⟨rfl, trivial⟩ ?_
    exact j20 _ h
noncomputable def f_X12_wrong_J25 (m1 : mi_M) : Option (mi_M) := some m1
noncomputable def f_X12_wrong (p0 : Int32) (mem : mi_M) : Option (mi_M) := if (mem.1 12 0 8) = 0 then mi_g (vp_in (mem.1 12 0 7) 1002) (mi_let (mi_wI mem 12 0 8 (p0 + ((16 : Int32) * (mem.1 53 0 (mem.1 12 0 7).toNatClampNeg)))) fun m3 => f_X12_wrong_J25 m3) else f_X12_wrong_J25 mem
set_option maxRecDepth 100000 in
set_option maxHeartbeats 4000000 in
theorem w_X12_wrong (p0 : Int32) (mem : mi_M) (a : mi_M) (e : f_X12_wrong p0 mem = some a) : mi_Cv (1) mX12_wrong [vr 12 0, vi p0] mem (fun m' => m' = a) := by
  unfold mi_Cv
  refine mi_C_intro (ls := [(0, vr 12 0), (1, vi p0)]) (by decide) rfl rfl ?_
  obtain ⟨Q0, hq0, h⟩ : ∃ Q0 : mi_M → Prop, (∀ b, Q0 b → b = a) ∧ wo (f_X12_wrong p0 mem) Q0 := ⟨fun b => b = a, fun _ h => h, wo_eq e⟩
  obtain ⟨QX, hQX⟩ : ∃ QX : Option mi_V → mi_M → Prop, QX = (fun r m' => r = none ∧ m' = a) := ⟨_, rfl⟩
  rw [← hQX]
  unfold f_X12_wrong at h
  refine x_aload_n (pc := 0) dX12_wrong_0 rfl ?_
  refine x_getI (pc := 1) dX12_wrong_1 fX12_183 rfl (by decide) ?_
  have j25 : ∀ (m1 : mi_M), wo (f_X12_wrong_J25 m1) Q0 → mi_X mX12_wrong (1) 25 [] [] m1 QX := by
    intro m1 h
    unfold f_X12_wrong_J25 at h
    exact x_ret (pc := 25) dX12_wrong_25 rfl (by rw [hQX]; exact ⟨rfl, hq0 _ (wo_some h)⟩)
  refine x_if_ne (pc := 4) dX12_wrong_4 (tgt := 25) (by decide) (fun c4 => ?_) (fun c4 => ?_)
  · replace h := wo_neg c4 h
    refine x_sub [] trivial ?_
    exact j25 _ h
  · replace h := wo_pos c4 h
    refine x_aload_n (pc := 7) dX12_wrong_7 rfl ?_
    refine x_iload_n (pc := 8) dX12_wrong_8 rfl ?_
    refine x_bipush (pc := 9) dX12_wrong_9 (v := (16 : Int32)) (by decide) ?_
    refine x_aload_n (pc := 11) dX12_wrong_11 rfl ?_
    refine x_getS (pc := 12) dX12_wrong_12 fX12_27 rfl (by decide) ?_
    refine x_aload_n (pc := 15) dX12_wrong_15 rfl ?_
    refine x_getI (pc := 16) dX12_wrong_16 fX12_180 rfl (by decide) ?_
    obtain ⟨hx2, h⟩ := wo_g h
    refine x_ialdJ (pc := 19) dX12_wrong_19 rfl rfl (by decide) hx2 ?_
    refine x_imul (pc := 20) dX12_wrong_20 ?_
    refine x_iadd (pc := 21) dX12_wrong_21 ?_
    refine x_putI (pc := 22) dX12_wrong_22 fX12_183 rfl (by decide) rfl rfl ?_
    refine x_letm h (fun m3 h => ?_)
    refine x_sub [] trivial ?_
    exact j25 _ h
noncomputable def f_X12_takeSign_J26 (m2 : mi_M) : Option (mi_M) := some m2
noncomputable def f_X12_takeSign (p0 : Int32) (mem : mi_M) : Option (mi_M) := mi_bo (f_X12_isSign p0 mem) fun v1 => if v1 = 0 then mi_bo (f_X12_wrong (1 : Int32) mem) fun m3 => f_X12_takeSign_J26 m3 else mi_let (mi_wI mem 12 0 7 ((mem.1 12 0 7) + (1 : Int32))) fun m4 => f_X12_takeSign_J26 m4
set_option maxRecDepth 100000 in
set_option maxHeartbeats 4000000 in
theorem w_X12_takeSign (p0 : Int32) (mem : mi_M) (a : mi_M) (e : f_X12_takeSign p0 mem = some a) : mi_Cv (2) mX12_takeSign [vr 12 0, vi p0] mem (fun m' => m' = a) := by
  unfold mi_Cv
  refine mi_C_intro (ls := [(0, vr 12 0), (1, vi p0)]) (by decide) rfl rfl ?_
  obtain ⟨Q0, hq0, h⟩ : ∃ Q0 : mi_M → Prop, (∀ b, Q0 b → b = a) ∧ wo (f_X12_takeSign p0 mem) Q0 := ⟨fun b => b = a, fun _ h => h, wo_eq e⟩
  obtain ⟨QX, hQX⟩ : ∃ QX : Option mi_V → mi_M → Prop, QX = (fun r m' => r = none ∧ m' = a) := ⟨_, rfl⟩
  rw [← hQX]
  unfold f_X12_takeSign at h
  refine x_aload_n (pc := 0) dX12_takeSign_0 rfl ?_
  refine x_iload_n (pc := 1) dX12_takeSign_1 rfl ?_
  refine z_Vi1 (pc := 2) h dX12_takeSign_2 lX12_186 (by decide) (by omega) rfl (fun a e => w_X12_isSign _ _ a e) (fun v1 h => ?_)
  have j26 : ∀ (m2 : mi_M), wo (f_X12_takeSign_J26 m2) Q0 → mi_X mX12_takeSign (2) 26 [] [] m2 QX := by
    intro m2 h
    unfold f_X12_takeSign_J26 at h
    exact x_ret (pc := 26) dX12_takeSign_26 rfl (by rw [hQX]; exact ⟨rfl, hq0 _ (wo_some h)⟩)
  refine x_if_eq (pc := 5) dX12_takeSign_5 (tgt := 21) (by decide) (fun c5 => ?_) (fun c5 => ?_)
  · replace h := wo_pos c5 h
    refine x_aload_n (pc := 21) dX12_takeSign_21 rfl ?_
    refine x_iconst (pc := 22) dX12_takeSign_22 (v := (1 : Int32)) (by decide) ?_
    refine y_Vv1 (pc := 23) h dX12_takeSign_23 lX12_189 (by decide) (by omega) rfl (fun a e => w_X12_wrong _ _ a e) (fun m3 h => ?_)
    refine x_sub [] trivial ?_
    exact j26 _ h
  · replace h := wo_neg c5 h
    refine x_aload_n (pc := 8) dX12_takeSign_8 rfl ?_
    refine x_dup (pc := 9) dX12_takeSign_9 rfl ?_
    refine x_getI (pc := 10) dX12_takeSign_10 fX12_180 rfl (by decide) ?_
    refine x_iconst (pc := 13) dX12_takeSign_13 (v := (1 : Int32)) (by decide) ?_
    refine x_iadd (pc := 14) dX12_takeSign_14 ?_
    refine x_putI (pc := 15) dX12_takeSign_15 fX12_180 rfl (by decide) rfl rfl ?_
    refine x_letm h (fun m4 h => ?_)
    refine x_goto (pc := 18) dX12_takeSign_18 (tgt := 26) (by decide) ?_
    refine x_sub [] trivial ?_
    exact j26 _ h
noncomputable def f_X12_wordHere_J28 (l3 : Int32) (u5 : Int32) : Option ((Int32 × Int32) ⊕ (Int32)) := some (.inl (u5, (l3 + (1 : Int32))))
noncomputable def f_X12_wordHere_B5 (p0 : Int32) (p1 : Int32) (mem : mi_M) : (Int32 × Int32) → Option ((Int32 × Int32) ⊕ (Int32)) := fun s => match s with | (l2, l3) => if p1 ≤ l3 then some (.inr l2) else mi_bo (f_X12_isWord (p0 + l3) mem) fun v4 => if v4 = 0 then f_X12_wordHere_J28 l3 l2 else f_X12_wordHere_J28 l3 l3
noncomputable def f_X12_wordHere_K5 : Int32 → Option (Int32) := fun e1 => some e1
noncomputable def f_X12_wordHere (p0 : Int32) (p1 : Int32) (mem : mi_M) : Option (Int32) := mi_bo (mi_lp (f_X12_wordHere_B5 p0 p1 mem) mi_fu ((-1 : Int32), (0 : Int32))) (f_X12_wordHere_K5)
set_option maxRecDepth 100000 in
set_option maxHeartbeats 4000000 in
theorem w_X12_wordHere (p0 : Int32) (p1 : Int32) (mem : mi_M) (a : Int32) (e : f_X12_wordHere p0 p1 mem = some a) : mi_Ci (2) mX12_wordHere [vr 12 0, vi p0, vi p1] mem (fun x m' => x = a ∧ m' = mem) := by
  unfold mi_Ci
  refine mi_C_intro (ls := [(0, vr 12 0), (1, vi p0), (2, vi p1)]) (by decide) rfl rfl ?_
  obtain ⟨Q0, hq0, h⟩ : ∃ Q0 : Int32 → Prop, (∀ b, Q0 b → b = a) ∧ wo (f_X12_wordHere p0 p1 mem) Q0 := ⟨fun b => b = a, fun _ h => h, wo_eq e⟩
  obtain ⟨QX, hQX⟩ : ∃ QX : Option mi_V → mi_M → Prop, QX = (fun r m' => ∃ x, r = some (vi x) ∧ x = a ∧ m' = mem) := ⟨_, rfl⟩
  rw [← hQX]
  unfold f_X12_wordHere at h
  refine x_iconst (pc := 0) dX12_wordHere_0 (v := (-1 : Int32)) (by decide) ?_
  refine x_istore_n (ls' := [(3, _), (0, _), (1, _), (2, _)]) (pc := 1) dX12_wordHere_1 rfl rfl rfl ?_
  refine x_iconst (pc := 2) dX12_wordHere_2 (v := (0 : Int32)) (by decide) ?_
  refine x_istore (ls' := [(4, _), (3, _), (0, _), (1, _), (2, _)]) (pc := 3) dX12_wordHere_3 rfl rfl ?_
  have k5_0 : ∀ (e1 : Int32), wo (f_X12_wordHere_K5 e1) Q0 → mi_X mX12_wordHere (2) 35 [(3, vi e1)] [] mem QX := by
    intro e1 h
    unfold f_X12_wordHere_K5 at h
    try dsimp only at h
    refine x_iload_n (pc := 35) dX12_wordHere_35 rfl ?_
    exact x_iret (pc := 36) dX12_wordHere_36 rfl (by rw [hQX]; exact ⟨_, rfl, hq0 _ (wo_some h), rfl⟩)
  refine x_sub [(0, _), (1, _), (2, _), (3, _), (4, _)] ⟨rfl, rfl, rfl, rfl, rfl, trivial⟩ ?_
  obtain ⟨ea, eb, h⟩ := wo_bo h
  refine wo_lq (X := fun s => match s with | (l2, l3) => mi_X mX12_wordHere (2) 5 [(0, vr 12 0), (1, vi p0), (2, vi p1), (3, vi l2), (4, vi l3)] [] mem QX) (E := fun e => wo (f_X12_wordHere_K5 e) Q0) ?_ _ ((-1 : Int32), (0 : Int32)) ⟨_, eb, h⟩
  intro Q5 hb5 he5 s h
  obtain ⟨l2, l3⟩ := s
  show mi_X mX12_wordHere (2) 5 [(0, vr 12 0), (1, vi p0), (2, vi p1), (3, vi l2), (4, vi l3)] [] mem QX
  unfold f_X12_wordHere_B5 at h
  try dsimp only at h
  refine x_iload (pc := 5) dX12_wordHere_5 rfl ?_
  refine x_iload_n (pc := 7) dX12_wordHere_7 rfl ?_
  refine x_icmp_ge (pc := 8) dX12_wordHere_8 (tgt := 35) (by decide) (fun c7 => ?_) (fun c7 => ?_)
  · replace h := wo_pos c7 h
    refine x_sub [(3, _)] ⟨rfl, trivial⟩ ?_
    exact k5_0 _ (he5 l2 (wo_some h))
  · replace h := wo_neg c7 h
    refine x_aload_n (pc := 11) dX12_wordHere_11 rfl ?_
    refine x_iload_n (pc := 12) dX12_wordHere_12 rfl ?_
    refine x_iload (pc := 13) dX12_wordHere_13 rfl ?_
    refine x_iadd (pc := 15) dX12_wordHere_15 ?_
    refine z_Vi1 (pc := 16) h dX12_wordHere_16 lX12_192 (by decide) (by omega) rfl (fun a e => w_X12_isWord _ _ a e) (fun v4 h => ?_)
    have j28 : ∀ (u5 : Int32), wo (f_X12_wordHere_J28 l3 u5) Q5 → mi_X mX12_wordHere (2) 28 [(0, vr 12 0), (1, vi p0), (2, vi p1), (4, vi l3)] [vi u5] mem QX := by
      intro u5 h
      unfold f_X12_wordHere_J28 at h
      refine x_istore_n (ls' := [(3, _), (0, _), (1, _), (2, _), (4, _)]) (pc := 28) dX12_wordHere_28 rfl rfl rfl ?_
      refine x_iinc (ls' := [(4, _), (3, _), (0, _), (1, _), (2, _)]) (pc := 29) dX12_wordHere_29 rfl (v := l3 + (1 : Int32)) rfl rfl rfl ?_
      refine x_goto (pc := 32) dX12_wordHere_32 (tgt := 5) (by decide) ?_
      refine x_sub [(0, _), (1, _), (2, _), (3, _), (4, _)] ⟨rfl, rfl, rfl, rfl, rfl, trivial⟩ ?_
      exact hb5 (u5, (l3 + (1 : Int32))) (wo_some h)
    refine x_if_eq (pc := 19) dX12_wordHere_19 (tgt := 27) (by decide) (fun c6 => ?_) (fun c6 => ?_)
    · replace h := wo_pos c6 h
      refine x_iload_n (pc := 27) dX12_wordHere_27 rfl ?_
      refine x_sub [(0, _), (1, _), (2, _), (4, _)] ⟨rfl, rfl, rfl, rfl, trivial⟩ ?_
      exact j28 _ h
    · replace h := wo_neg c6 h
      refine x_iload (pc := 22) dX12_wordHere_22 rfl ?_
      refine x_goto (pc := 24) dX12_wordHere_24 (tgt := 28) (by decide) ?_
      refine x_sub [(0, _), (1, _), (2, _), (4, _)] ⟨rfl, rfl, rfl, rfl, trivial⟩ ?_
      exact j28 _ h
noncomputable def f_X12_all_J57 (m7 : mi_M) (u8 : Int32) : Option ((mi_M) ⊕ (mi_M)) := mi_bo (f_X12_emit u8 (0 : Int32) m7) fun m9 => some (.inl m9)
noncomputable def f_X12_all_J23 (rc : (Int32 → mi_M → Option (mi_M)) × (Int32 → mi_M → Option (mi_M)) × (Int32 → mi_M → Option (mi_M)) × (Int32 → mi_M → Option (mi_M)) × (Int32 → mi_M → Option (mi_M))) (p0 : Int32) (m3 : mi_M) : Option ((mi_M) ⊕ (mi_M)) := mi_bo (f_X12_isWord (21 : Int32) m3) fun v5 => mi_let (mi_wI m3 12 0 7 ((m3.1 12 0 7) + (1 : Int32))) fun m6 => mi_bo (rc.2.2.2.2 p0 m6) fun m7 => if v5 = 0 then f_X12_all_J57 m7 (10 : Int32) else f_X12_all_J57 m7 (9 : Int32)
noncomputable def f_X12_all_B5 (rc : (Int32 → mi_M → Option (mi_M)) × (Int32 → mi_M → Option (mi_M)) × (Int32 → mi_M → Option (mi_M)) × (Int32 → mi_M → Option (mi_M)) × (Int32 → mi_M → Option (mi_M))) (p0 : Int32) : mi_M → Option ((mi_M) ⊕ (mi_M)) := fun m3 => mi_bo (f_X12_isWord (21 : Int32) m3) fun v4 => if v4 = 0 then mi_bo (f_X12_isWord (22 : Int32) m3) fun v11 => if v11 = 0 then some (.inr m3) else f_X12_all_J23 rc p0 m3 else f_X12_all_J23 rc p0 m3
noncomputable def f_X12_all_K5 : mi_M → Option (mi_M) := fun m2 => some m2
noncomputable def f_X12_all_ (rc : (Int32 → mi_M → Option (mi_M)) × (Int32 → mi_M → Option (mi_M)) × (Int32 → mi_M → Option (mi_M)) × (Int32 → mi_M → Option (mi_M)) × (Int32 → mi_M → Option (mi_M))) (p0 : Int32) (mem : mi_M) : Option (mi_M) := mi_bo (rc.2.2.2.2 p0 mem) fun m1 => mi_bo (mi_lp (f_X12_all_B5 rc p0) mi_fu m1) (f_X12_all_K5)
set_option maxRecDepth 100000 in
set_option maxHeartbeats 4000000 in
theorem w_X12_all_ (n : Nat) (rc : (Int32 → mi_M → Option (mi_M)) × (Int32 → mi_M → Option (mi_M)) × (Int32 → mi_M → Option (mi_M)) × (Int32 → mi_M → Option (mi_M)) × (Int32 → mi_M → Option (mi_M))) (H0 : ∀ (p0 : Int32) (mem : mi_M) (a : mi_M), rc.1 p0 mem = some a → mi_Cv (3 + n) mX12_all [vr 12 0, vi p0] mem (fun m' => m' = a)) (H1 : ∀ (p0 : Int32) (mem : mi_M) (a : mi_M), rc.2.1 p0 mem = some a → mi_Cv (3 + n) mX12_products [vr 12 0, vi p0] mem (fun m' => m' = a)) (H2 : ∀ (p0 : Int32) (mem : mi_M) (a : mi_M), rc.2.2.1 p0 mem = some a → mi_Cv (3 + n) mX12_sums [vr 12 0, vi p0] mem (fun m' => m' = a)) (H3 : ∀ (p0 : Int32) (mem : mi_M) (a : mi_M), rc.2.2.2.1 p0 mem = some a → mi_Cv (3 + n) mX12_takePart [vr 12 0, vi p0] mem (fun m' => m' = a)) (H4 : ∀ (p0 : Int32) (mem : mi_M) (a : mi_M), rc.2.2.2.2 p0 mem = some a → mi_Cv (3 + n) mX12_test [vr 12 0, vi p0] mem (fun m' => m' = a)) (p0 : Int32) (mem : mi_M) (a : mi_M) (e : f_X12_all_ rc p0 mem = some a) : mi_Cv (3 + (n + 1)) mX12_all [vr 12 0, vi p0] mem (fun m' => m' = a) := by
  unfold mi_Cv
  refine mi_C_intro (ls := [(0, vr 12 0), (1, vi p0)]) (by decide) rfl rfl ?_
  obtain ⟨Q0, hq0, h⟩ : ∃ Q0 : mi_M → Prop, (∀ b, Q0 b → b = a) ∧ wo (f_X12_all_ rc p0 mem) Q0 := ⟨fun b => b = a, fun _ h => h, wo_eq e⟩
  obtain ⟨QX, hQX⟩ : ∃ QX : Option mi_V → mi_M → Prop, QX = (fun r m' => r = none ∧ m' = a) := ⟨_, rfl⟩
  rw [← hQX]
  unfold f_X12_all_ at h
  refine x_aload_n (pc := 0) dX12_all_0 rfl ?_
  refine x_iload_n (pc := 1) dX12_all_1 rfl ?_
  refine y_Vv1 (pc := 2) h dX12_all_2 lX12_276 (by decide) (by omega) rfl (fun a e => H4 _ _ a e) (fun m1 h => ?_)
  have k5_0 : ∀ (m2 : mi_M), wo (f_X12_all_K5 m2) Q0 → mi_X mX12_all (3 + (n + 1)) 64 [] [] m2 QX := by
    intro m2 h
    unfold f_X12_all_K5 at h
    try dsimp only at h
    exact x_ret (pc := 64) dX12_all_64 rfl (by rw [hQX]; exact ⟨rfl, hq0 _ (wo_some h)⟩)
  refine x_sub [(0, _), (1, _)] ⟨rfl, rfl, trivial⟩ ?_
  obtain ⟨ea, eb, h⟩ := wo_bo h
  refine wo_lq (X := fun m3 => mi_X mX12_all (3 + (n + 1)) 5 [(0, vr 12 0), (1, vi p0)] [] m3 QX) (E := fun e => wo (f_X12_all_K5 e) Q0) ?_ _ m1 ⟨_, eb, h⟩
  intro Q5 hb5 he5 s h
  obtain ⟨m3, rfl⟩ : ∃ z, z = s := ⟨_, rfl⟩
  show mi_X mX12_all (3 + (n + 1)) 5 [(0, vr 12 0), (1, vi p0)] [] m3 QX
  unfold f_X12_all_B5 at h
  try dsimp only at h
  refine x_aload_n (pc := 5) dX12_all_5 rfl ?_
  refine x_bipush (pc := 6) dX12_all_6 (v := (21 : Int32)) (by decide) ?_
  refine z_Vi1 (pc := 8) h dX12_all_8 lX12_192 (by decide) (by omega) rfl (fun a e => w_X12_isWord _ _ a e) (fun v4 h => ?_)
  have j23 : wo (f_X12_all_J23 rc p0 m3) Q5 → mi_X mX12_all (3 + (n + 1)) 23 [(0, vr 12 0), (1, vi p0)] [] m3 QX := by
    intro h
    unfold f_X12_all_J23 at h
    refine x_aload_n (pc := 23) dX12_all_23 rfl ?_
    refine x_bipush (pc := 24) dX12_all_24 (v := (21 : Int32)) (by decide) ?_
    refine z_Vi1 (pc := 26) h dX12_all_26 lX12_192 (by decide) (by omega) rfl (fun a e => w_X12_isWord _ _ a e) (fun v5 h => ?_)
    refine x_istore_n (ls' := [(2, _), (0, _), (1, _)]) (pc := 29) dX12_all_29 rfl rfl rfl ?_
    refine x_aload_n (pc := 30) dX12_all_30 rfl ?_
    refine x_dup (pc := 31) dX12_all_31 rfl ?_
    refine x_getI (pc := 32) dX12_all_32 fX12_180 rfl (by decide) ?_
    refine x_iconst (pc := 35) dX12_all_35 (v := (1 : Int32)) (by decide) ?_
    refine x_iadd (pc := 36) dX12_all_36 ?_
    refine x_putI (pc := 37) dX12_all_37 fX12_180 rfl (by decide) rfl rfl ?_
    refine x_letm h (fun m6 h => ?_)
    refine x_aload_n (pc := 40) dX12_all_40 rfl ?_
    refine x_iload_n (pc := 41) dX12_all_41 rfl ?_
    refine y_Vv1 (pc := 42) h dX12_all_42 lX12_276 (by decide) (by omega) rfl (fun a e => H4 _ _ a e) (fun m7 h => ?_)
    refine x_aload_n (pc := 45) dX12_all_45 rfl ?_
    refine x_iload_n (pc := 46) dX12_all_46 rfl ?_
    have j57 : ∀ (u8 : Int32), wo (f_X12_all_J57 m7 u8) Q5 → mi_X mX12_all (3 + (n + 1)) 57 [(0, vr 12 0), (1, vi p0)] [vi u8, vr 12 0] m7 QX := by
      intro u8 h
      unfold f_X12_all_J57 at h
      refine x_iconst (pc := 57) dX12_all_57 (v := (0 : Int32)) (by decide) ?_
      refine y_Vv2 (pc := 58) h dX12_all_58 lX12_269 (by decide) (by omega) rfl (fun a e => w_X12_emit _ _ _ a e) (fun m9 h => ?_)
      refine x_goto (pc := 61) dX12_all_61 (tgt := 5) (by decide) ?_
      refine x_sub [(0, _), (1, _)] ⟨rfl, rfl, trivial⟩ ?_
      exact hb5 m9 (wo_some h)
    refine x_if_eq (pc := 47) dX12_all_47 (tgt := 55) (by decide) (fun c10 => ?_) (fun c10 => ?_)
    · replace h := wo_pos c10 h
      refine x_bipush (pc := 55) dX12_all_55 (v := (10 : Int32)) (by decide) ?_
      refine x_sub [(0, _), (1, _)] ⟨rfl, rfl, trivial⟩ ?_
      exact j57 _ h
    · replace h := wo_neg c10 h
      refine x_bipush (pc := 50) dX12_all_50 (v := (9 : Int32)) (by decide) ?_
      refine x_goto (pc := 52) dX12_all_52 (tgt := 57) (by decide) ?_
      refine x_sub [(0, _), (1, _)] ⟨rfl, rfl, trivial⟩ ?_
      exact j57 _ h
  refine x_if_ne (pc := 11) dX12_all_11 (tgt := 23) (by decide) (fun c13 => ?_) (fun c13 => ?_)
  · replace h := wo_neg c13 h
    refine x_sub [(0, _), (1, _)] ⟨rfl, rfl, trivial⟩ ?_
    exact j23 h
  · replace h := wo_pos c13 h
    refine x_aload_n (pc := 14) dX12_all_14 rfl ?_
    refine x_bipush (pc := 15) dX12_all_15 (v := (22 : Int32)) (by decide) ?_
    refine z_Vi1 (pc := 17) h dX12_all_17 lX12_192 (by decide) (by omega) rfl (fun a e => w_X12_isWord _ _ a e) (fun v11 h => ?_)
    refine x_if_eq (pc := 20) dX12_all_20 (tgt := 64) (by decide) (fun c12 => ?_) (fun c12 => ?_)
    · replace h := wo_pos c12 h
      refine x_sub [] trivial ?_
      exact k5_0 _ (he5 m3 (wo_some h))
    · replace h := wo_neg c12 h
      refine x_sub [(0, _), (1, _)] ⟨rfl, rfl, trivial⟩ ?_
      exact j23 h
noncomputable def f_X12_products_B5 (rc : (Int32 → mi_M → Option (mi_M)) × (Int32 → mi_M → Option (mi_M)) × (Int32 → mi_M → Option (mi_M)) × (Int32 → mi_M → Option (mi_M)) × (Int32 → mi_M → Option (mi_M))) (p0 : Int32) : mi_M → Option ((mi_M) ⊕ (mi_M)) := fun m3 => mi_b (f_X12_hasSign (42 : Int32) m3) fun v4 m5 => if v4 = 0 then some (.inr m5) else mi_bo (rc.2.2.2.1 p0 m5) fun m6 => mi_bo (f_X12_emit (6 : Int32) (0 : Int32) m6) fun m7 => some (.inl m7)
noncomputable def f_X12_products_K5 : mi_M → Option (mi_M) := fun m2 => some m2
noncomputable def f_X12_products_ (rc : (Int32 → mi_M → Option (mi_M)) × (Int32 → mi_M → Option (mi_M)) × (Int32 → mi_M → Option (mi_M)) × (Int32 → mi_M → Option (mi_M)) × (Int32 → mi_M → Option (mi_M))) (p0 : Int32) (mem : mi_M) : Option (mi_M) := mi_bo (rc.2.2.2.1 p0 mem) fun m1 => mi_bo (mi_lp (f_X12_products_B5 rc p0) mi_fu m1) (f_X12_products_K5)
set_option maxRecDepth 100000 in
set_option maxHeartbeats 4000000 in
theorem w_X12_products_ (n : Nat) (rc : (Int32 → mi_M → Option (mi_M)) × (Int32 → mi_M → Option (mi_M)) × (Int32 → mi_M → Option (mi_M)) × (Int32 → mi_M → Option (mi_M)) × (Int32 → mi_M → Option (mi_M))) (H0 : ∀ (p0 : Int32) (mem : mi_M) (a : mi_M), rc.1 p0 mem = some a → mi_Cv (3 + n) mX12_all [vr 12 0, vi p0] mem (fun m' => m' = a)) (H1 : ∀ (p0 : Int32) (mem : mi_M) (a : mi_M), rc.2.1 p0 mem = some a → mi_Cv (3 + n) mX12_products [vr 12 0, vi p0] mem (fun m' => m' = a)) (H2 : ∀ (p0 : Int32) (mem : mi_M) (a : mi_M), rc.2.2.1 p0 mem = some a → mi_Cv (3 + n) mX12_sums [vr 12 0, vi p0] mem (fun m' => m' = a)) (H3 : ∀ (p0 : Int32) (mem : mi_M) (a : mi_M), rc.2.2.2.1 p0 mem = some a → mi_Cv (3 + n) mX12_takePart [vr 12 0, vi p0] mem (fun m' => m' = a)) (H4 : ∀ (p0 : Int32) (mem : mi_M) (a : mi_M), rc.2.2.2.2 p0 mem = some a → mi_Cv (3 + n) mX12_test [vr 12 0, vi p0] mem (fun m' => m' = a)) (p0 : Int32) (mem : mi_M) (a : mi_M) (e : f_X12_products_ rc p0 mem = some a) : mi_Cv (3 + (n + 1)) mX12_products [vr 12 0, vi p0] mem (fun m' => m' = a) := by
  unfold mi_Cv
  refine mi_C_intro (ls := [(0, vr 12 0), (1, vi p0)]) (by decide) rfl rfl ?_
  obtain ⟨Q0, hq0, h⟩ : ∃ Q0 : mi_M → Prop, (∀ b, Q0 b → b = a) ∧ wo (f_X12_products_ rc p0 mem) Q0 := ⟨fun b => b = a, fun _ h => h, wo_eq e⟩
  obtain ⟨QX, hQX⟩ : ∃ QX : Option mi_V → mi_M → Prop, QX = (fun r m' => r = none ∧ m' = a) := ⟨_, rfl⟩
  rw [← hQX]
  unfold f_X12_products_ at h
  refine x_aload_n (pc := 0) dX12_products_0 rfl ?_
  refine x_iload_n (pc := 1) dX12_products_1 rfl ?_
  refine y_Vv1 (pc := 2) h dX12_products_2 lX12_288 (by decide) (by omega) rfl (fun a e => H3 _ _ a e) (fun m1 h => ?_)
  have k5_0 : ∀ (m2 : mi_M), wo (f_X12_products_K5 m2) Q0 → mi_X mX12_products (3 + (n + 1)) 29 [] [] m2 QX := by
    intro m2 h
    unfold f_X12_products_K5 at h
    try dsimp only at h
    exact x_ret (pc := 29) dX12_products_29 rfl (by rw [hQX]; exact ⟨rfl, hq0 _ (wo_some h)⟩)
  refine x_sub [(0, _), (1, _)] ⟨rfl, rfl, trivial⟩ ?_
  obtain ⟨ea, eb, h⟩ := wo_bo h
  refine wo_lq (X := fun m3 => mi_X mX12_products (3 + (n + 1)) 5 [(0, vr 12 0), (1, vi p0)] [] m3 QX) (E := fun e => wo (f_X12_products_K5 e) Q0) ?_ _ m1 ⟨_, eb, h⟩
  intro Q5 hb5 he5 s h
  obtain ⟨m3, rfl⟩ : ∃ z, z = s := ⟨_, rfl⟩
  show mi_X mX12_products (3 + (n + 1)) 5 [(0, vr 12 0), (1, vi p0)] [] m3 QX
  unfold f_X12_products_B5 at h
  try dsimp only at h
  refine x_aload_n (pc := 5) dX12_products_5 rfl ?_
  refine x_bipush (pc := 6) dX12_products_6 (v := (42 : Int32)) (by decide) ?_
  refine y_Vi1 (pc := 8) h dX12_products_8 lX12_282 (by decide) (by omega) rfl (fun a e => w_X12_hasSign _ _ a e) (fun v4 m5 h => ?_)
  refine x_if_eq (pc := 11) dX12_products_11 (tgt := 29) (by decide) (fun c8 => ?_) (fun c8 => ?_)
  · replace h := wo_pos c8 h
    refine x_sub [] trivial ?_
    exact k5_0 _ (he5 m5 (wo_some h))
  · replace h := wo_neg c8 h
    refine x_aload_n (pc := 14) dX12_products_14 rfl ?_
    refine x_iload_n (pc := 15) dX12_products_15 rfl ?_
    refine y_Vv1 (pc := 16) h dX12_products_16 lX12_288 (by decide) (by omega) rfl (fun a e => H3 _ _ a e) (fun m6 h => ?_)
    refine x_aload_n (pc := 19) dX12_products_19 rfl ?_
    refine x_bipush (pc := 20) dX12_products_20 (v := (6 : Int32)) (by decide) ?_
    refine x_iconst (pc := 22) dX12_products_22 (v := (0 : Int32)) (by decide) ?_
    refine y_Vv2 (pc := 23) h dX12_products_23 lX12_269 (by decide) (by omega) rfl (fun a e => w_X12_emit _ _ _ a e) (fun m7 h => ?_)
    refine x_goto (pc := 26) dX12_products_26 (tgt := 5) (by decide) ?_
    refine x_sub [(0, _), (1, _)] ⟨rfl, rfl, trivial⟩ ?_
    exact hb5 m7 (wo_some h)
noncomputable def f_X12_sums_J55 (m7 : mi_M) (u8 : Int32) : Option ((mi_M) ⊕ (mi_M)) := mi_bo (f_X12_emit u8 (0 : Int32) m7) fun m9 => some (.inl m9)
noncomputable def f_X12_sums_J23 (rc : (Int32 → mi_M → Option (mi_M)) × (Int32 → mi_M → Option (mi_M)) × (Int32 → mi_M → Option (mi_M)) × (Int32 → mi_M → Option (mi_M)) × (Int32 → mi_M → Option (mi_M))) (p0 : Int32) (m3 : mi_M) : Option ((mi_M) ⊕ (mi_M)) := mi_bo (f_X12_isSign (43 : Int32) m3) fun v5 => mi_let (mi_wI m3 12 0 7 ((m3.1 12 0 7) + (1 : Int32))) fun m6 => mi_bo (rc.2.1 p0 m6) fun m7 => if v5 = 0 then f_X12_sums_J55 m7 (5 : Int32) else f_X12_sums_J55 m7 (4 : Int32)
noncomputable def f_X12_sums_B5 (rc : (Int32 → mi_M → Option (mi_M)) × (Int32 → mi_M → Option (mi_M)) × (Int32 → mi_M → Option (mi_M)) × (Int32 → mi_M → Option (mi_M)) × (Int32 → mi_M → Option (mi_M))) (p0 : Int32) : mi_M → Option ((mi_M) ⊕ (mi_M)) := fun m3 => mi_bo (f_X12_isSign (43 : Int32) m3) fun v4 => if v4 = 0 then mi_bo (f_X12_isSign (45 : Int32) m3) fun v11 => if v11 = 0 then some (.inr m3) else f_X12_sums_J23 rc p0 m3 else f_X12_sums_J23 rc p0 m3
noncomputable def f_X12_sums_K5 : mi_M → Option (mi_M) := fun m2 => some m2
noncomputable def f_X12_sums_ (rc : (Int32 → mi_M → Option (mi_M)) × (Int32 → mi_M → Option (mi_M)) × (Int32 → mi_M → Option (mi_M)) × (Int32 → mi_M → Option (mi_M)) × (Int32 → mi_M → Option (mi_M))) (p0 : Int32) (mem : mi_M) : Option (mi_M) := mi_bo (rc.2.1 p0 mem) fun m1 => mi_bo (mi_lp (f_X12_sums_B5 rc p0) mi_fu m1) (f_X12_sums_K5)
set_option maxRecDepth 100000 in
set_option maxHeartbeats 4000000 in
theorem w_X12_sums_ (n : Nat) (rc : (Int32 → mi_M → Option (mi_M)) × (Int32 → mi_M → Option (mi_M)) × (Int32 → mi_M → Option (mi_M)) × (Int32 → mi_M → Option (mi_M)) × (Int32 → mi_M → Option (mi_M))) (H0 : ∀ (p0 : Int32) (mem : mi_M) (a : mi_M), rc.1 p0 mem = some a → mi_Cv (3 + n) mX12_all [vr 12 0, vi p0] mem (fun m' => m' = a)) (H1 : ∀ (p0 : Int32) (mem : mi_M) (a : mi_M), rc.2.1 p0 mem = some a → mi_Cv (3 + n) mX12_products [vr 12 0, vi p0] mem (fun m' => m' = a)) (H2 : ∀ (p0 : Int32) (mem : mi_M) (a : mi_M), rc.2.2.1 p0 mem = some a → mi_Cv (3 + n) mX12_sums [vr 12 0, vi p0] mem (fun m' => m' = a)) (H3 : ∀ (p0 : Int32) (mem : mi_M) (a : mi_M), rc.2.2.2.1 p0 mem = some a → mi_Cv (3 + n) mX12_takePart [vr 12 0, vi p0] mem (fun m' => m' = a)) (H4 : ∀ (p0 : Int32) (mem : mi_M) (a : mi_M), rc.2.2.2.2 p0 mem = some a → mi_Cv (3 + n) mX12_test [vr 12 0, vi p0] mem (fun m' => m' = a)) (p0 : Int32) (mem : mi_M) (a : mi_M) (e : f_X12_sums_ rc p0 mem = some a) : mi_Cv (3 + (n + 1)) mX12_sums [vr 12 0, vi p0] mem (fun m' => m' = a) := by
  unfold mi_Cv
  refine mi_C_intro (ls := [(0, vr 12 0), (1, vi p0)]) (by decide) rfl rfl ?_
  obtain ⟨Q0, hq0, h⟩ : ∃ Q0 : mi_M → Prop, (∀ b, Q0 b → b = a) ∧ wo (f_X12_sums_ rc p0 mem) Q0 := ⟨fun b => b = a, fun _ h => h, wo_eq e⟩
  obtain ⟨QX, hQX⟩ : ∃ QX : Option mi_V → mi_M → Prop, QX = (fun r m' => r = none ∧ m' = a) := ⟨_, rfl⟩
  rw [← hQX]
  unfold f_X12_sums_ at h
  refine x_aload_n (pc := 0) dX12_sums_0 rfl ?_
  refine x_iload_n (pc := 1) dX12_sums_1 rfl ?_
  refine y_Vv1 (pc := 2) h dX12_sums_2 lX12_285 (by decide) (by omega) rfl (fun a e => H1 _ _ a e) (fun m1 h => ?_)
  have k5_0 : ∀ (m2 : mi_M), wo (f_X12_sums_K5 m2) Q0 → mi_X mX12_sums (3 + (n + 1)) 62 [] [] m2 QX := by
    intro m2 h
    unfold f_X12_sums_K5 at h
    try dsimp only at h
    exact x_ret (pc := 62) dX12_sums_62 rfl (by rw [hQX]; exact ⟨rfl, hq0 _ (wo_some h)⟩)
  refine x_sub [(0, _), (1, _)] ⟨rfl, rfl, trivial⟩ ?_
  obtain ⟨ea, eb, h⟩ := wo_bo h
  refine wo_lq (X := fun m3 => mi_X mX12_sums (3 + (n + 1)) 5 [(0, vr 12 0), (1, vi p0)] [] m3 QX) (E := fun e => wo (f_X12_sums_K5 e) Q0) ?_ _ m1 ⟨_, eb, h⟩
  intro Q5 hb5 he5 s h
  obtain ⟨m3, rfl⟩ : ∃ z, z = s := ⟨_, rfl⟩
  show mi_X mX12_sums (3 + (n + 1)) 5 [(0, vr 12 0), (1, vi p0)] [] m3 QX
  unfold f_X12_sums_B5 at h
  try dsimp only at h
  refine x_aload_n (pc := 5) dX12_sums_5 rfl ?_
  refine x_bipush (pc := 6) dX12_sums_6 (v := (43 : Int32)) (by decide) ?_
  refine z_Vi1 (pc := 8) h dX12_sums_8 lX12_186 (by decide) (by omega) rfl (fun a e => w_X12_isSign _ _ a e) (fun v4 h => ?_)
  have j23 : wo (f_X12_sums_J23 rc p0 m3) Q5 → mi_X mX12_sums (3 + (n + 1)) 23 [(0, vr 12 0), (1, vi p0)] [] m3 QX := by
    intro h
    unfold f_X12_sums_J23 at h
    refine x_aload_n (pc := 23) dX12_sums_23 rfl ?_
    refine x_bipush (pc := 24) dX12_sums_24 (v := (43 : Int32)) (by decide) ?_
    refine z_Vi1 (pc := 26) h dX12_sums_26 lX12_186 (by decide) (by omega) rfl (fun a e => w_X12_isSign _ _ a e) (fun v5 h => ?_)
    refine x_istore_n (ls' := [(2, _), (0, _), (1, _)]) (pc := 29) dX12_sums_29 rfl rfl rfl ?_
    refine x_aload_n (pc := 30) dX12_sums_30 rfl ?_
    refine x_dup (pc := 31) dX12_sums_31 rfl ?_
    refine x_getI (pc := 32) dX12_sums_32 fX12_180 rfl (by decide) ?_
    refine x_iconst (pc := 35) dX12_sums_35 (v := (1 : Int32)) (by decide) ?_
    refine x_iadd (pc := 36) dX12_sums_36 ?_
    refine x_putI (pc := 37) dX12_sums_37 fX12_180 rfl (by decide) rfl rfl ?_
    refine x_letm h (fun m6 h => ?_)
    refine x_aload_n (pc := 40) dX12_sums_40 rfl ?_
    refine x_iload_n (pc := 41) dX12_sums_41 rfl ?_
    refine y_Vv1 (pc := 42) h dX12_sums_42 lX12_285 (by decide) (by omega) rfl (fun a e => H1 _ _ a e) (fun m7 h => ?_)
    refine x_aload_n (pc := 45) dX12_sums_45 rfl ?_
    refine x_iload_n (pc := 46) dX12_sums_46 rfl ?_
    have j55 : ∀ (u8 : Int32), wo (f_X12_sums_J55 m7 u8) Q5 → mi_X mX12_sums (3 + (n + 1)) 55 [(0, vr 12 0), (1, vi p0)] [vi u8, vr 12 0] m7 QX := by
      intro u8 h
      unfold f_X12_sums_J55 at h
      refine x_iconst (pc := 55) dX12_sums_55 (v := (0 : Int32)) (by decide) ?_
      refine y_Vv2 (pc := 56) h dX12_sums_56 lX12_269 (by decide) (by omega) rfl (fun a e => w_X12_emit _ _ _ a e) (fun m9 h => ?_)
      refine x_goto (pc := 59) dX12_sums_59 (tgt := 5) (by decide) ?_
      refine x_sub [(0, _), (1, _)] ⟨rfl, rfl, trivial⟩ ?_
      exact hb5 m9 (wo_some h)
    refine x_if_eq (pc := 47) dX12_sums_47 (tgt := 54) (by decide) (fun c10 => ?_) (fun c10 => ?_)
    · replace h := wo_pos c10 h
      refine x_iconst (pc := 54) dX12_sums_54 (v := (5 : Int32)) (by decide) ?_
      refine x_sub [(0, _), (1, _)] ⟨rfl, rfl, trivial⟩ ?_
      exact j55 _ h
    · replace h := wo_neg c10 h
      refine x_iconst (pc := 50) dX12_sums_50 (v := (4 : Int32)) (by decide) ?_
      refine x_goto (pc := 51) dX12_sums_51 (tgt := 55) (by decide) ?_
      refine x_sub [(0, _), (1, _)] ⟨rfl, rfl, trivial⟩ ?_
      exact j55 _ h
  refine x_if_ne (pc := 11) dX12_sums_11 (tgt := 23) (by decide) (fun c13 => ?_) (fun c13 => ?_)
  · replace h := wo_neg c13 h
    refine x_sub [(0, _), (1, _)] ⟨rfl, rfl, trivial⟩ ?_
    exact j23 h
  · replace h := wo_pos c13 h
    refine x_aload_n (pc := 14) dX12_sums_14 rfl ?_
    refine x_bipush (pc := 15) dX12_sums_15 (v := (45 : Int32)) (by decide) ?_
    refine z_Vi1 (pc := 17) h dX12_sums_17 lX12_186 (by decide) (by omega) rfl (fun a e => w_X12_isSign _ _ a e) (fun v11 h => ?_)
    refine x_if_eq (pc := 20) dX12_sums_20 (tgt := 62) (by decide) (fun c12 => ?_) (fun c12 => ?_)
    · replace h := wo_pos c12 h
      refine x_sub [] trivial ?_
      exact k5_0 _ (he5 m3 (wo_some h))
    · replace h := wo_neg c12 h
      refine x_sub [(0, _), (1, _)] ⟨rfl, rfl, trivial⟩ ?_
      exact j23 h
noncomputable def f_X12_takePart_J178 (m7 : mi_M) : Option (mi_M) := some m7
noncomputable def f_X12_takePart_J165 (m9 : mi_M) (u10 : Int32) (u11 : Int32) : Option (mi_M) := mi_bo (f_X12_emit u10 u11 m9) fun m12 => mi_let (mi_wI m12 12 0 7 ((m12.1 12 0 7) + (1 : Int32))) fun m13 => f_X12_takePart_J178 m13
noncomputable def f_X12_takePart_J147 (u2 : Int32) (v3 : Int32) (m9 : mi_M) (u10 : Int32) : Option (mi_M) := if u2 = 0 then f_X12_takePart_J165 m9 u10 v3 else mi_g (vp_in (m9.1 12 0 7) 1002) (f_X12_takePart_J165 m9 u10 (((m9.2.1 54 0 (m9.1 12 0 7).toNatClampNeg)).toInt32))
noncomputable def f_X12_takePart_J79 (rc : (Int32 → mi_M → Option (mi_M)) × (Int32 → mi_M → Option (mi_M)) × (Int32 → mi_M → Option (mi_M)) × (Int32 → mi_M → Option (mi_M)) × (Int32 → mi_M → Option (mi_M))) (p0 : Int32) (u2 : Int32) (v3 : Int32) (m4 : mi_M) : Option (mi_M) := if (m4.1 12 0 8) ≤ 0 then mi_b (f_X12_hasWord (20 : Int32) m4) fun v5 m6 => if v5 = 0 then mi_b (f_X12_hasSign (40 : Int32) m6) fun v8 m9 => if v8 = 0 then if u2 = 0 then f_X12_takePart_J147 u2 v3 m9 (2 : Int32) else f_X12_takePart_J147 u2 v3 m9 (1 : Int32) else mi_bo (rc.1 (p0 + (1 : Int32)) m9) fun m17 => mi_bo (f_X12_takeSign (41 : Int32) m17) fun m18 => f_X12_takePart_J178 m18 else mi_bo (rc.2.2.2.1 (p0 + (1 : Int32)) m6) fun m20 => mi_bo (f_X12_emit (3 : Int32) (0 : Int32) m20) fun m21 => f_X12_takePart_J178 m21 else some m4
noncomputable def f_X12_takePart_J69 (rc : (Int32 → mi_M → Option (mi_M)) × (Int32 → mi_M → Option (mi_M)) × (Int32 → mi_M → Option (mi_M)) × (Int32 → mi_M → Option (mi_M)) × (Int32 → mi_M → Option (mi_M))) (p0 : Int32) (mem : mi_M) (u2 : Int32) (v3 : Int32) : Option (mi_M) := if p0 = (5 : Int32) then mi_bo (f_X12_wrong (5 : Int32) mem) fun m24 => f_X12_takePart_J79 rc p0 u2 v3 m24 else f_X12_takePart_J79 rc p0 u2 v3 mem
noncomputable def f_X12_takePart_J26 (rc : (Int32 → mi_M → Option (mi_M)) × (Int32 → mi_M → Option (mi_M)) × (Int32 → mi_M → Option (mi_M)) × (Int32 → mi_M → Option (mi_M)) × (Int32 → mi_M → Option (mi_M))) (p0 : Int32) (mem : mi_M) (u2 : Int32) : Option (mi_M) := mi_bo (f_X12_wordHere (23 : Int32) (3 : Int32) mem) fun v3 => if 0 ≤ v3 then f_X12_takePart_J69 rc p0 mem u2 v3 else if u2 = 0 then mi_bo (f_X12_isSign (40 : Int32) mem) fun v26 => if v26 = 0 then mi_bo (f_X12_isWord (20 : Int32) mem) fun v27 => if v27 = 0 then mi_bo (f_X12_wrong (1 : Int32) mem) fun m28 => f_X12_takePart_J79 rc p0 u2 v3 m28 else f_X12_takePart_J69 rc p0 mem u2 v3 else f_X12_takePart_J69 rc p0 mem u2 v3 else f_X12_takePart_J69 rc p0 mem u2 v3
noncomputable def f_X12_takePart_ (rc : (Int32 → mi_M → Option (mi_M)) × (Int32 → mi_M → Option (mi_M)) × (Int32 → mi_M → Option (mi_M)) × (Int32 → mi_M → Option (mi_M)) × (Int32 → mi_M → Option (mi_M))) (p0 : Int32) (mem : mi_M) : Option (mi_M) := if (mem.1 12 0 8) ≤ 0 then mi_g (vp_in (mem.1 12 0 7) 1002) (if (mem.1 52 0 (mem.1 12 0 7).toNatClampNeg) = (2 : Int32) then f_X12_takePart_J26 rc p0 mem (1 : Int32) else f_X12_takePart_J26 rc p0 mem (0 : Int32)) else some mem
set_option maxRecDepth 100000 in
set_option maxHeartbeats 4000000 in
theorem w_X12_takePart_ (n : Nat) (rc : (Int32 → mi_M → Option (mi_M)) × (Int32 → mi_M → Option (mi_M)) × (Int32 → mi_M → Option (mi_M)) × (Int32 → mi_M → Option (mi_M)) × (Int32 → mi_M → Option (mi_M))) (H0 : ∀ (p0 : Int32) (mem : mi_M) (a : mi_M), rc.1 p0 mem = some a → mi_Cv (3 + n) mX12_all [vr 12 0, vi p0] mem (fun m' => m' = a)) (H1 : ∀ (p0 : Int32) (mem : mi_M) (a : mi_M), rc.2.1 p0 mem = some a → mi_Cv (3 + n) mX12_products [vr 12 0, vi p0] mem (fun m' => m' = a)) (H2 : ∀ (p0 : Int32) (mem : mi_M) (a : mi_M), rc.2.2.1 p0 mem = some a → mi_Cv (3 + n) mX12_sums [vr 12 0, vi p0] mem (fun m' => m' = a)) (H3 : ∀ (p0 : Int32) (mem : mi_M) (a : mi_M), rc.2.2.2.1 p0 mem = some a → mi_Cv (3 + n) mX12_takePart [vr 12 0, vi p0] mem (fun m' => m' = a)) (H4 : ∀ (p0 : Int32) (mem : mi_M) (a : mi_M), rc.2.2.2.2 p0 mem = some a → mi_Cv (3 + n) mX12_test [vr 12 0, vi p0] mem (fun m' => m' = a)) (p0 : Int32) (mem : mi_M) (a : mi_M) (e : f_X12_takePart_ rc p0 mem = some a) : mi_Cv (3 + (n + 1)) mX12_takePart [vr 12 0, vi p0] mem (fun m' => m' = a) := by
  unfold mi_Cv
  refine mi_C_intro (ls := [(0, vr 12 0), (1, vi p0)]) (by decide) rfl rfl ?_
  obtain ⟨Q0, hq0, h⟩ : ∃ Q0 : mi_M → Prop, (∀ b, Q0 b → b = a) ∧ wo (f_X12_takePart_ rc p0 mem) Q0 := ⟨fun b => b = a, fun _ h => h, wo_eq e⟩
  obtain ⟨QX, hQX⟩ : ∃ QX : Option mi_V → mi_M → Prop, QX = (fun r m' => r = none ∧ m' = a) := ⟨_, rfl⟩
  rw [← hQX]
  unfold f_X12_takePart_ at h
  refine x_aload_n (pc := 0) dX12_takePart_0 rfl ?_
  refine x_getI (pc := 1) dX12_takePart_1 fX12_183 rfl (by decide) ?_
  refine x_if_le (pc := 4) dX12_takePart_4 (tgt := 8) (by decide) (fun c34 => ?_) (fun c34 => ?_)
  · replace h := wo_pos c34 h
    refine x_aload_n (pc := 8) dX12_takePart_8 rfl ?_
    refine x_getS (pc := 9) dX12_takePart_9 fX12_24 rfl (by decide) ?_
    refine x_aload_n (pc := 12) dX12_takePart_12 rfl ?_
    refine x_getI (pc := 13) dX12_takePart_13 fX12_180 rfl (by decide) ?_
    obtain ⟨hx1, h⟩ := wo_g h
    refine x_ialdJ (pc := 16) dX12_takePart_16 rfl rfl (by decide) hx1 ?_
    refine x_iconst (pc := 17) dX12_takePart_17 (v := (2 : Int32)) (by decide) ?_
    have j26 : ∀ (u2 : Int32), wo (f_X12_takePart_J26 rc p0 mem u2) Q0 → mi_X mX12_takePart (3 + (n + 1)) 26 [(0, vr 12 0), (1, vi p0)] [vi u2] mem QX := by
      intro u2 h
      unfold f_X12_takePart_J26 at h
      refine x_istore_n (ls' := [(2, _), (0, _), (1, _)]) (pc := 26) dX12_takePart_26 rfl rfl rfl ?_
      refine x_aload_n (pc := 27) dX12_takePart_27 rfl ?_
      refine x_bipush (pc := 28) dX12_takePart_28 (v := (23 : Int32)) (by decide) ?_
      refine x_iconst (pc := 30) dX12_takePart_30 (v := (3 : Int32)) (by decide) ?_
      refine z_Vi2 (pc := 31) h dX12_takePart_31 lX12_205 (by decide) (by omega) rfl (fun a e => w_X12_wordHere _ _ _ a e) (fun v3 h => ?_)
      refine x_istore_n (ls' := [(3, _), (2, _), (0, _), (1, _)]) (pc := 34) dX12_takePart_34 rfl rfl rfl ?_
      refine x_iload_n (pc := 35) dX12_takePart_35 rfl ?_
      have j79 : ∀ (m4 : mi_M), wo (f_X12_takePart_J79 rc p0 u2 v3 m4) Q0 → mi_X mX12_takePart (3 + (n + 1)) 79 [(0, vr 12 0), (1, vi p0), (2, vi u2), (3, vi v3)] [] m4 QX := by
        intro m4 h
        unfold f_X12_takePart_J79 at h
        refine x_aload_n (pc := 79) dX12_takePart_79 rfl ?_
        refine x_getI (pc := 80) dX12_takePart_80 fX12_183 rfl (by decide) ?_
        refine x_if_le (pc := 83) dX12_takePart_83 (tgt := 87) (by decide) (fun c23 => ?_) (fun c23 => ?_)
        · replace h := wo_pos c23 h
          refine x_aload_n (pc := 87) dX12_takePart_87 rfl ?_
          refine x_bipush (pc := 88) dX12_takePart_88 (v := (20 : Int32)) (by decide) ?_
          refine y_Vi1 (pc := 90) h dX12_takePart_90 lX12_195 (by decide) (by omega) rfl (fun a e => w_X12_hasWord _ _ a e) (fun v5 m6 h => ?_)
          have j178 : ∀ (m7 : mi_M), wo (f_X12_takePart_J178 m7) Q0 → mi_X mX12_takePart (3 + (n + 1)) 178 [] [] m7 QX := by
            intro m7 h
            unfold f_X12_takePart_J178 at h
            exact x_ret (pc := 178) dX12_takePart_178 rfl (by rw [hQX]; exact ⟨rfl, hq0 _ (wo_some h)⟩)
          refine x_if_eq (pc := 93) dX12_takePart_93 (tgt := 112) (by decide) (fun c22 => ?_) (fun c22 => ?_)
          · replace h := wo_pos c22 h
            refine x_aload_n (pc := 112) dX12_takePart_112 rfl ?_
            refine x_bipush (pc := 113) dX12_takePart_113 (v := (40 : Int32)) (by decide) ?_
            refine y_Vi1 (pc := 115) h dX12_takePart_115 lX12_282 (by decide) (by omega) rfl (fun a e => w_X12_hasSign _ _ a e) (fun v8 m9 h => ?_)
            refine x_if_eq (pc := 118) dX12_takePart_118 (tgt := 137) (by decide) (fun c19 => ?_) (fun c19 => ?_)
            · replace h := wo_pos c19 h
              refine x_aload_n (pc := 137) dX12_takePart_137 rfl ?_
              refine x_iload_n (pc := 138) dX12_takePart_138 rfl ?_
              have j147 : ∀ (u10 : Int32), wo (f_X12_takePart_J147 u2 v3 m9 u10) Q0 → mi_X mX12_takePart (3 + (n + 1)) 147 [(0, vr 12 0), (2, vi u2), (3, vi v3)] [vi u10, vr 12 0] m9 QX := by
                intro u10 h
                unfold f_X12_takePart_J147 at h
                refine x_iload_n (pc := 147) dX12_takePart_147 rfl ?_
                have j165 : ∀ (u11 : Int32), wo (f_X12_takePart_J165 m9 u10 u11) Q0 → mi_X mX12_takePart (3 + (n + 1)) 165 [(0, vr 12 0)] [vi u11, vi u10, vr 12 0] m9 QX := by
                  intro u11 h
                  unfold f_X12_takePart_J165 at h
                  refine y_Vv2 (pc := 165) h dX12_takePart_165 lX12_269 (by decide) (by omega) rfl (fun a e => w_X12_emit _ _ _ a e) (fun m12 h => ?_)
                  refine x_aload_n (pc := 168) dX12_takePart_168 rfl ?_
                  refine x_dup (pc := 169) dX12_takePart_169 rfl ?_
                  refine x_getI (pc := 170) dX12_takePart_170 fX12_180 rfl (by decide) ?_
                  refine x_iconst (pc := 173) dX12_takePart_173 (v := (1 : Int32)) (by decide) ?_
                  refine x_iadd (pc := 174) dX12_takePart_174 ?_
                  refine x_putI (pc := 175) dX12_takePart_175 fX12_180 rfl (by decide) rfl rfl ?_
                  refine x_letm h (fun m13 h => ?_)
                  refine x_sub [] trivial ?_
                  exact j178 _ h
                refine x_if_eq (pc := 148) dX12_takePart_148 (tgt := 164) (by decide) (fun c15 => ?_) (fun c15 => ?_)
                · replace h := wo_pos c15 h
                  refine x_iload_n (pc := 164) dX12_takePart_164 rfl ?_
                  refine x_sub [(0, _)] ⟨rfl, trivial⟩ ?_
                  exact j165 _ h
                · replace h := wo_neg c15 h
                  refine x_aload_n (pc := 151) dX12_takePart_151 rfl ?_
                  refine x_getS (pc := 152) dX12_takePart_152 fX12_30 rfl (by decide) ?_
                  refine x_aload_n (pc := 155) dX12_takePart_155 rfl ?_
                  refine x_getI (pc := 156) dX12_takePart_156 fX12_180 rfl (by decide) ?_
                  obtain ⟨hx14, h⟩ := wo_g h
                  refine x_laldJ (pc := 159) dX12_takePart_159 rfl rfl (by decide) hx14 ?_
                  refine x_l2i (pc := 160) dX12_takePart_160 rfl ?_
                  refine x_goto (pc := 161) dX12_takePart_161 (tgt := 165) (by decide) ?_
                  refine x_sub [(0, _)] ⟨rfl, trivial⟩ ?_
                  exact j165 _ h
              refine x_if_eq (pc := 139) dX12_takePart_139 (tgt := 146) (by decide) (fun c16 => ?_) (fun c16 => ?_)
              · replace h := wo_pos c16 h
                refine x_iconst (pc := 146) dX12_takePart_146 (v := (2 : Int32)) (by decide) ?_
                refine x_sub [(0, _), (2, _), (3, _)] ⟨rfl, rfl, rfl, trivial⟩ ?_
                exact j147 _ h
              · replace h := wo_neg c16 h
                refine x_iconst (pc := 142) dX12_takePart_142 (v := (1 : Int32)) (by decide) ?_
                refine x_goto (pc := 143) dX12_takePart_143 (tgt := 147) (by decide) ?_
                refine x_sub [(0, _), (2, _), (3, _)] ⟨rfl, rfl, rfl, trivial⟩ ?_
                exact j147 _ h
            · replace h := wo_neg c19 h
              refine x_aload_n (pc := 121) dX12_takePart_121 rfl ?_
              refine x_iload_n (pc := 122) dX12_takePart_122 rfl ?_
              refine x_iconst (pc := 123) dX12_takePart_123 (v := (1 : Int32)) (by decide) ?_
              refine x_iadd (pc := 124) dX12_takePart_124 ?_
              refine y_Vv1 (pc := 125) h dX12_takePart_125 lX12_266 (by decide) (by omega) rfl (fun a e => H0 _ _ a e) (fun m17 h => ?_)
              refine x_aload_n (pc := 128) dX12_takePart_128 rfl ?_
              refine x_bipush (pc := 129) dX12_takePart_129 (v := (41 : Int32)) (by decide) ?_
              refine y_Vv1 (pc := 131) h dX12_takePart_131 lX12_234 (by decide) (by omega) rfl (fun a e => w_X12_takeSign _ _ a e) (fun m18 h => ?_)
              refine x_goto (pc := 134) dX12_takePart_134 (tgt := 178) (by decide) ?_
              refine x_sub [] trivial ?_
              exact j178 _ h
          · replace h := wo_neg c22 h
            refine x_aload_n (pc := 96) dX12_takePart_96 rfl ?_
            refine x_iload_n (pc := 97) dX12_takePart_97 rfl ?_
            refine x_iconst (pc := 98) dX12_takePart_98 (v := (1 : Int32)) (by decide) ?_
            refine x_iadd (pc := 99) dX12_takePart_99 ?_
            refine y_Vv1 (pc := 100) h dX12_takePart_100 lX12_288 (by decide) (by omega) rfl (fun a e => H3 _ _ a e) (fun m20 h => ?_)
            refine x_aload_n (pc := 103) dX12_takePart_103 rfl ?_
            refine x_iconst (pc := 104) dX12_takePart_104 (v := (3 : Int32)) (by decide) ?_
            refine x_iconst (pc := 105) dX12_takePart_105 (v := (0 : Int32)) (by decide) ?_
            refine y_Vv2 (pc := 106) h dX12_takePart_106 lX12_269 (by decide) (by omega) rfl (fun a e => w_X12_emit _ _ _ a e) (fun m21 h => ?_)
            refine x_goto (pc := 109) dX12_takePart_109 (tgt := 178) (by decide) ?_
            refine x_sub [] trivial ?_
            exact j178 _ h
        · replace h := wo_neg c23 h
          exact x_ret (pc := 86) dX12_takePart_86 rfl (by rw [hQX]; exact ⟨rfl, hq0 _ (wo_some h)⟩)
      have j69 : wo (f_X12_takePart_J69 rc p0 mem u2 v3) Q0 → mi_X mX12_takePart (3 + (n + 1)) 69 [(0, vr 12 0), (1, vi p0), (2, vi u2), (3, vi v3)] [] mem QX := by
        intro h
        unfold f_X12_takePart_J69 at h
        refine x_iload_n (pc := 69) dX12_takePart_69 rfl ?_
        refine x_iconst (pc := 70) dX12_takePart_70 (v := (5 : Int32)) (by decide) ?_
        refine x_icmp_ne (pc := 71) dX12_takePart_71 (tgt := 79) (by decide) (fun c25 => ?_) (fun c25 => ?_)
        · replace h := wo_neg c25 h
          refine x_sub [(0, _), (1, _), (2, _), (3, _)] ⟨rfl, rfl, rfl, rfl, trivial⟩ ?_
          exact j79 _ h
        · replace h := wo_pos c25 h
          refine x_aload_n (pc := 74) dX12_takePart_74 rfl ?_
          refine x_iconst (pc := 75) dX12_takePart_75 (v := (5 : Int32)) (by decide) ?_
          refine y_Vv1 (pc := 76) h dX12_takePart_76 lX12_189 (by decide) (by omega) rfl (fun a e => w_X12_wrong _ _ a e) (fun m24 h => ?_)
          refine x_sub [(0, _), (1, _), (2, _), (3, _)] ⟨rfl, rfl, rfl, rfl, trivial⟩ ?_
          exact j79 _ h
      refine x_if_ge (pc := 36) dX12_takePart_36 (tgt := 69) (by decide) (fun c32 => ?_) (fun c32 => ?_)
      · replace h := wo_pos c32 h
        refine x_sub [(0, _), (1, _), (2, _), (3, _)] ⟨rfl, rfl, rfl, rfl, trivial⟩ ?_
        exact j69 h
      · replace h := wo_neg c32 h
        refine x_iload_n (pc := 39) dX12_takePart_39 rfl ?_
        refine x_if_ne (pc := 40) dX12_takePart_40 (tgt := 69) (by decide) (fun c31 => ?_) (fun c31 => ?_)
        · replace h := wo_neg c31 h
          refine x_sub [(0, _), (1, _), (2, _), (3, _)] ⟨rfl, rfl, rfl, rfl, trivial⟩ ?_
          exact j69 h
        · replace h := wo_pos c31 h
          refine x_aload_n (pc := 43) dX12_takePart_43 rfl ?_
          refine x_bipush (pc := 44) dX12_takePart_44 (v := (40 : Int32)) (by decide) ?_
          refine z_Vi1 (pc := 46) h dX12_takePart_46 lX12_186 (by decide) (by omega) rfl (fun a e => w_X12_isSign _ _ a e) (fun v26 h => ?_)
          refine x_if_ne (pc := 49) dX12_takePart_49 (tgt := 69) (by decide) (fun c30 => ?_) (fun c30 => ?_)
          · replace h := wo_neg c30 h
            refine x_sub [(0, _), (1, _), (2, _), (3, _)] ⟨rfl, rfl, rfl, rfl, trivial⟩ ?_
            exact j69 h
          · replace h := wo_pos c30 h
            refine x_aload_n (pc := 52) dX12_takePart_52 rfl ?_
            refine x_bipush (pc := 53) dX12_takePart_53 (v := (20 : Int32)) (by decide) ?_
            refine z_Vi1 (pc := 55) h dX12_takePart_55 lX12_192 (by decide) (by omega) rfl (fun a e => w_X12_isWord _ _ a e) (fun v27 h => ?_)
            refine x_if_ne (pc := 58) dX12_takePart_58 (tgt := 69) (by decide) (fun c29 => ?_) (fun c29 => ?_)
            · replace h := wo_neg c29 h
              refine x_sub [(0, _), (1, _), (2, _), (3, _)] ⟨rfl, rfl, rfl, rfl, trivial⟩ ?_
              exact j69 h
            · replace h := wo_pos c29 h
              refine x_aload_n (pc := 61) dX12_takePart_61 rfl ?_
              refine x_iconst (pc := 62) dX12_takePart_62 (v := (1 : Int32)) (by decide) ?_
              refine y_Vv1 (pc := 63) h dX12_takePart_63 lX12_189 (by decide) (by omega) rfl (fun a e => w_X12_wrong _ _ a e) (fun m28 h => ?_)
              refine x_goto (pc := 66) dX12_takePart_66 (tgt := 79) (by decide) ?_
              refine x_sub [(0, _), (1, _), (2, _), (3, _)] ⟨rfl, rfl, rfl, rfl, trivial⟩ ?_
              exact j79 _ h
    refine x_icmp_ne (pc := 18) dX12_takePart_18 (tgt := 25) (by decide) (fun c33 => ?_) (fun c33 => ?_)
    · replace h := wo_neg c33 h
      refine x_iconst (pc := 25) dX12_takePart_25 (v := (0 : Int32)) (by decide) ?_
      refine x_sub [(0, _), (1, _)] ⟨rfl, rfl, trivial⟩ ?_
      exact j26 _ h
    · replace h := wo_pos c33 h
      refine x_iconst (pc := 21) dX12_takePart_21 (v := (1 : Int32)) (by decide) ?_
      refine x_goto (pc := 22) dX12_takePart_22 (tgt := 26) (by decide) ?_
      refine x_sub [(0, _), (1, _)] ⟨rfl, rfl, trivial⟩ ?_
      exact j26 _ h
  · replace h := wo_neg c34 h
    exact x_ret (pc := 7) dX12_takePart_7 rfl (by rw [hQX]; exact ⟨rfl, hq0 _ (wo_some h)⟩)
noncomputable def f_X12_test_J51 (m5 : mi_M) : Option (mi_M) := some m5
noncomputable def f_X12_test_J47 (m7 : mi_M) (u8 : Int32) : Option (mi_M) := mi_bo (f_X12_emit u8 (0 : Int32) m7) fun m9 => f_X12_test_J51 m9
noncomputable def f_X12_test_J30 (rc : (Int32 → mi_M → Option (mi_M)) × (Int32 → mi_M → Option (mi_M)) × (Int32 → mi_M → Option (mi_M)) × (Int32 → mi_M → Option (mi_M)) × (Int32 → mi_M → Option (mi_M))) (p0 : Int32) (v2 : Int32) (m6 : mi_M) : Option (mi_M) := mi_bo (rc.2.2.1 p0 m6) fun m7 => if v2 = 0 then f_X12_test_J47 m7 (8 : Int32) else f_X12_test_J47 m7 (7 : Int32)
noncomputable def f_X12_test_ (rc : (Int32 → mi_M → Option (mi_M)) × (Int32 → mi_M → Option (mi_M)) × (Int32 → mi_M → Option (mi_M)) × (Int32 → mi_M → Option (mi_M)) × (Int32 → mi_M → Option (mi_M))) (p0 : Int32) (mem : mi_M) : Option (mi_M) := mi_bo (rc.2.2.1 p0 mem) fun m1 => mi_bo (f_X12_isSign (60 : Int32) m1) fun v2 => mi_b (f_X12_hasSign (60 : Int32) m1) fun v3 m4 => if v3 = 0 then mi_b (f_X12_hasSign (61 : Int32) m4) fun v11 m12 => if v11 = 0 then f_X12_test_J51 m12 else f_X12_test_J30 rc p0 v2 m12 else f_X12_test_J30 rc p0 v2 m4
set_option maxRecDepth 100000 in
set_option maxHeartbeats 4000000 in
theorem w_X12_test_ (n : Nat) (rc : (Int32 → mi_M → Option (mi_M)) × (Int32 → mi_M → Option (mi_M)) × (Int32 → mi_M → Option (mi_M)) × (Int32 → mi_M → Option (mi_M)) × (Int32 → mi_M → Option (mi_M))) (H0 : ∀ (p0 : Int32) (mem : mi_M) (a : mi_M), rc.1 p0 mem = some a → mi_Cv (3 + n) mX12_all [vr 12 0, vi p0] mem (fun m' => m' = a)) (H1 : ∀ (p0 : Int32) (mem : mi_M) (a : mi_M), rc.2.1 p0 mem = some a → mi_Cv (3 + n) mX12_products [vr 12 0, vi p0] mem (fun m' => m' = a)) (H2 : ∀ (p0 : Int32) (mem : mi_M) (a : mi_M), rc.2.2.1 p0 mem = some a → mi_Cv (3 + n) mX12_sums [vr 12 0, vi p0] mem (fun m' => m' = a)) (H3 : ∀ (p0 : Int32) (mem : mi_M) (a : mi_M), rc.2.2.2.1 p0 mem = some a → mi_Cv (3 + n) mX12_takePart [vr 12 0, vi p0] mem (fun m' => m' = a)) (H4 : ∀ (p0 : Int32) (mem : mi_M) (a : mi_M), rc.2.2.2.2 p0 mem = some a → mi_Cv (3 + n) mX12_test [vr 12 0, vi p0] mem (fun m' => m' = a)) (p0 : Int32) (mem : mi_M) (a : mi_M) (e : f_X12_test_ rc p0 mem = some a) : mi_Cv (3 + (n + 1)) mX12_test [vr 12 0, vi p0] mem (fun m' => m' = a) := by
  unfold mi_Cv
  refine mi_C_intro (ls := [(0, vr 12 0), (1, vi p0)]) (by decide) rfl rfl ?_
  obtain ⟨Q0, hq0, h⟩ : ∃ Q0 : mi_M → Prop, (∀ b, Q0 b → b = a) ∧ wo (f_X12_test_ rc p0 mem) Q0 := ⟨fun b => b = a, fun _ h => h, wo_eq e⟩
  obtain ⟨QX, hQX⟩ : ∃ QX : Option mi_V → mi_M → Prop, QX = (fun r m' => r = none ∧ m' = a) := ⟨_, rfl⟩
  rw [← hQX]
  unfold f_X12_test_ at h
  refine x_aload_n (pc := 0) dX12_test_0 rfl ?_
  refine x_iload_n (pc := 1) dX12_test_1 rfl ?_
  refine y_Vv1 (pc := 2) h dX12_test_2 lX12_279 (by decide) (by omega) rfl (fun a e => H2 _ _ a e) (fun m1 h => ?_)
  refine x_aload_n (pc := 5) dX12_test_5 rfl ?_
  refine x_bipush (pc := 6) dX12_test_6 (v := (60 : Int32)) (by decide) ?_
  refine z_Vi1 (pc := 8) h dX12_test_8 lX12_186 (by decide) (by omega) rfl (fun a e => w_X12_isSign _ _ a e) (fun v2 h => ?_)
  refine x_istore_n (ls' := [(2, _), (0, _), (1, _)]) (pc := 11) dX12_test_11 rfl rfl rfl ?_
  refine x_aload_n (pc := 12) dX12_test_12 rfl ?_
  refine x_bipush (pc := 13) dX12_test_13 (v := (60 : Int32)) (by decide) ?_
  refine y_Vi1 (pc := 15) h dX12_test_15 lX12_282 (by decide) (by omega) rfl (fun a e => w_X12_hasSign _ _ a e) (fun v3 m4 h => ?_)
  have j51 : ∀ (m5 : mi_M), wo (f_X12_test_J51 m5) Q0 → mi_X mX12_test (3 + (n + 1)) 51 [] [] m5 QX := by
    intro m5 h
    unfold f_X12_test_J51 at h
    exact x_ret (pc := 51) dX12_test_51 rfl (by rw [hQX]; exact ⟨rfl, hq0 _ (wo_some h)⟩)
  have j30 : ∀ (m6 : mi_M), wo (f_X12_test_J30 rc p0 v2 m6) Q0 → mi_X mX12_test (3 + (n + 1)) 30 [(0, vr 12 0), (1, vi p0), (2, vi v2)] [] m6 QX := by
    intro m6 h
    unfold f_X12_test_J30 at h
    refine x_aload_n (pc := 30) dX12_test_30 rfl ?_
    refine x_iload_n (pc := 31) dX12_test_31 rfl ?_
    refine y_Vv1 (pc := 32) h dX12_test_32 lX12_279 (by decide) (by omega) rfl (fun a e => H2 _ _ a e) (fun m7 h => ?_)
    refine x_aload_n (pc := 35) dX12_test_35 rfl ?_
    refine x_iload_n (pc := 36) dX12_test_36 rfl ?_
    have j47 : ∀ (u8 : Int32), wo (f_X12_test_J47 m7 u8) Q0 → mi_X mX12_test (3 + (n + 1)) 47 [] [vi u8, vr 12 0] m7 QX := by
      intro u8 h
      unfold f_X12_test_J47 at h
      refine x_iconst (pc := 47) dX12_test_47 (v := (0 : Int32)) (by decide) ?_
      refine y_Vv2 (pc := 48) h dX12_test_48 lX12_269 (by decide) (by omega) rfl (fun a e => w_X12_emit _ _ _ a e) (fun m9 h => ?_)
      refine x_sub [] trivial ?_
      exact j51 _ h
    refine x_if_eq (pc := 37) dX12_test_37 (tgt := 45) (by decide) (fun c10 => ?_) (fun c10 => ?_)
    · replace h := wo_pos c10 h
      refine x_bipush (pc := 45) dX12_test_45 (v := (8 : Int32)) (by decide) ?_
      refine x_sub [] trivial ?_
      exact j47 _ h
    · replace h := wo_neg c10 h
      refine x_bipush (pc := 40) dX12_test_40 (v := (7 : Int32)) (by decide) ?_
      refine x_goto (pc := 42) dX12_test_42 (tgt := 47) (by decide) ?_
      refine x_sub [] trivial ?_
      exact j47 _ h
  refine x_if_ne (pc := 18) dX12_test_18 (tgt := 30) (by decide) (fun c14 => ?_) (fun c14 => ?_)
  · replace h := wo_neg c14 h
    refine x_sub [(0, _), (1, _), (2, _)] ⟨rfl, rfl, rfl, trivial⟩ ?_
    exact j30 _ h
  · replace h := wo_pos c14 h
    refine x_aload_n (pc := 21) dX12_test_21 rfl ?_
    refine x_bipush (pc := 22) dX12_test_22 (v := (61 : Int32)) (by decide) ?_
    refine y_Vi1 (pc := 24) h dX12_test_24 lX12_282 (by decide) (by omega) rfl (fun a e => w_X12_hasSign _ _ a e) (fun v11 m12 h => ?_)
    refine x_if_eq (pc := 27) dX12_test_27 (tgt := 51) (by decide) (fun c13 => ?_) (fun c13 => ?_)
    · replace h := wo_pos c13 h
      refine x_sub [] trivial ?_
      exact j51 _ h
    · replace h := wo_neg c13 h
      refine x_sub [(0, _), (1, _), (2, _)] ⟨rfl, rfl, rfl, trivial⟩ ?_
      exact j30 _ h
noncomputable def fg_X12_all : Nat → (Int32 → mi_M → Option (mi_M)) × (Int32 → mi_M → Option (mi_M)) × (Int32 → mi_M → Option (mi_M)) × (Int32 → mi_M → Option (mi_M)) × (Int32 → mi_M → Option (mi_M))
  | 0 => (fun _ _ => none, fun _ _ => none, fun _ _ => none, fun _ _ => none, fun _ _ => none)
  | n + 1 => (f_X12_all_ (fg_X12_all n), f_X12_products_ (fg_X12_all n), f_X12_sums_ (fg_X12_all n), f_X12_takePart_ (fg_X12_all n), f_X12_test_ (fg_X12_all n))
theorem wg_X12_all : ∀ n : Nat, (∀ (p0 : Int32) (mem : mi_M) (a : mi_M), (fg_X12_all n).1 p0 mem = some a → mi_Cv (3 + n) mX12_all [vr 12 0, vi p0] mem (fun m' => m' = a)) ∧ (∀ (p0 : Int32) (mem : mi_M) (a : mi_M), (fg_X12_all n).2.1 p0 mem = some a → mi_Cv (3 + n) mX12_products [vr 12 0, vi p0] mem (fun m' => m' = a)) ∧ (∀ (p0 : Int32) (mem : mi_M) (a : mi_M), (fg_X12_all n).2.2.1 p0 mem = some a → mi_Cv (3 + n) mX12_sums [vr 12 0, vi p0] mem (fun m' => m' = a)) ∧ (∀ (p0 : Int32) (mem : mi_M) (a : mi_M), (fg_X12_all n).2.2.2.1 p0 mem = some a → mi_Cv (3 + n) mX12_takePart [vr 12 0, vi p0] mem (fun m' => m' = a)) ∧ (∀ (p0 : Int32) (mem : mi_M) (a : mi_M), (fg_X12_all n).2.2.2.2 p0 mem = some a → mi_Cv (3 + n) mX12_test [vr 12 0, vi p0] mem (fun m' => m' = a))
  | 0 => ⟨fun _ _ _ e => (by cases e), fun _ _ _ e => (by cases e), fun _ _ _ e => (by cases e), fun _ _ _ e => (by cases e), fun _ _ _ e => (by cases e)⟩
  | n + 1 => by
    have ih := wg_X12_all n
    exact ⟨w_X12_all_ n (fg_X12_all n) ih.1 ih.2.1 ih.2.2.1 ih.2.2.2.1 ih.2.2.2.2, w_X12_products_ n (fg_X12_all n) ih.1 ih.2.1 ih.2.2.1 ih.2.2.2.1 ih.2.2.2.2, w_X12_sums_ n (fg_X12_all n) ih.1 ih.2.1 ih.2.2.1 ih.2.2.2.1 ih.2.2.2.2, w_X12_takePart_ n (fg_X12_all n) ih.1 ih.2.1 ih.2.2.1 ih.2.2.2.1 ih.2.2.2.2, w_X12_test_ n (fg_X12_all n) ih.1 ih.2.1 ih.2.2.1 ih.2.2.2.1 ih.2.2.2.2⟩
noncomputable def f_X12_all (p0 : Int32) (mem : mi_M) : Option (mi_M) := (fg_X12_all mi_dp).1 p0 mem
theorem w_X12_all (p0 : Int32) (mem : mi_M) (a : mi_M) (e : f_X12_all p0 mem = some a) : mi_Cv (43) mX12_all [vr 12 0, vi p0] mem (fun m' => m' = a) := (wg_X12_all mi_dp).1 p0 mem a e
noncomputable def f_X12_products (p0 : Int32) (mem : mi_M) : Option (mi_M) := (fg_X12_all mi_dp).2.1 p0 mem
theorem w_X12_products (p0 : Int32) (mem : mi_M) (a : mi_M) (e : f_X12_products p0 mem = some a) : mi_Cv (43) mX12_products [vr 12 0, vi p0] mem (fun m' => m' = a) := (wg_X12_all mi_dp).2.1 p0 mem a e
noncomputable def f_X12_sums (p0 : Int32) (mem : mi_M) : Option (mi_M) := (fg_X12_all mi_dp).2.2.1 p0 mem
theorem w_X12_sums (p0 : Int32) (mem : mi_M) (a : mi_M) (e : f_X12_sums p0 mem = some a) : mi_Cv (43) mX12_sums [vr 12 0, vi p0] mem (fun m' => m' = a) := (wg_X12_all mi_dp).2.2.1 p0 mem a e
noncomputable def f_X12_takePart (p0 : Int32) (mem : mi_M) : Option (mi_M) := (fg_X12_all mi_dp).2.2.2.1 p0 mem
theorem w_X12_takePart (p0 : Int32) (mem : mi_M) (a : mi_M) (e : f_X12_takePart p0 mem = some a) : mi_Cv (43) mX12_takePart [vr 12 0, vi p0] mem (fun m' => m' = a) := (wg_X12_all mi_dp).2.2.2.1 p0 mem a e
noncomputable def f_X12_test (p0 : Int32) (mem : mi_M) : Option (mi_M) := (fg_X12_all mi_dp).2.2.2.2 p0 mem
theorem w_X12_test (p0 : Int32) (mem : mi_M) (a : mi_M) (e : f_X12_test p0 mem = some a) : mi_Cv (43) mX12_test [vr 12 0, vi p0] mem (fun m' => m' = a) := (wg_X12_all mi_dp).2.2.2.2 p0 mem a e
