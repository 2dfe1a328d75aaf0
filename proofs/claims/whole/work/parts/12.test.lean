noncomputable def f_X5_become (i0 : Nat) (p0 : Nat) (mem : mi_M) : Option (mi_M) := mi_let (mi_wI mem 5 i0 0 (mem.1 5 p0 0)) fun m1 => mi_let (mi_wI m1 5 i0 1 (m1.1 5 p0 1)) fun m2 => mi_let (mi_wI m2 5 i0 2 (m2.1 5 p0 2)) fun m3 => mi_let (mi_wI m3 5 i0 3 (m3.1 5 p0 3)) fun m4 => mi_let (mi_cp m4 34 p0 34 i0 8) fun m5 => mi_let (mi_cp m5 35 p0 35 i0 6) fun m6 => mi_let (mi_cp m6 36 p0 36 i0 6) fun m7 => some m7
set_option maxRecDepth 100000 in
set_option maxHeartbeats 4000000 in
theorem w_X5_become (i0 : Nat) (p0 : Nat) (hi0 : i0 < mi_n 5) (hp0 : p0 < mi_n 5) (mem : mi_M) (a : mi_M) (e : f_X5_become i0 p0 mem = some a) : mi_Cv (1) mX5_become [vr 5 i0, vr 5 p0] mem (fun m' => m' = a) := by
  unfold mi_Cv
  refine mi_C_intro (ls := [(0, vr 5 i0), (1, vr 5 p0)]) (by decide) rfl rfl ?_
  obtain ⟨Q0, hq0, h⟩ : ∃ Q0 : mi_M → Prop, (∀ b, Q0 b → b = a) ∧ wo (f_X5_become i0 p0 mem) Q0 := ⟨fun b => b = a, fun _ h => h, wo_eq e⟩
  obtain ⟨QX, hQX⟩ : ∃ QX : Option mi_V → mi_M → Prop, QX = (fun r m' => r = none ∧ m' = a) := ⟨_, rfl⟩
  rw [← hQX]
  unfold f_X5_become at h
  refine x_aload_n (pc := 0) dX5_become_0 rfl ?_
  refine x_aload_n (pc := 1) dX5_become_1 rfl ?_
  refine x_getI (pc := 2) dX5_become_2 fX5_21 rfl hp0 ?_
  refine x_putI (pc := 5) dX5_become_5 fX5_21 rfl hi0 rfl rfl ?_
  refine x_letm h (fun m1 h => ?_)
  refine x_aload_n (pc := 8) dX5_become_8 rfl ?_
  refine x_aload_n (pc := 9) dX5_become_9 rfl ?_
  refine x_getI (pc := 10) dX5_become_10 fX5_25 rfl hp0 ?_
  refine x_putI (pc := 13) dX5_become_13 fX5_25 rfl hi0 rfl rfl ?_
  refine x_letm h (fun m2 h => ?_)
  refine x_aload_n (pc := 16) dX5_become_16 rfl ?_
  refine x_aload_n (pc := 17) dX5_become_17 rfl ?_
  refine x_getI (pc := 18) dX5_become_18 fX5_28 rfl hp0 ?_
  refine x_putI (pc := 21) dX5_become_21 fX5_28 rfl hi0 rfl rfl ?_
  refine x_letm h (fun m3 h => ?_)
  refine x_aload_n (pc := 24) dX5_become_24 rfl ?_
  refine x_aload_n (pc := 25) dX5_become_25 rfl ?_
  refine x_getI (pc := 26) dX5_become_26 fX5_31 rfl hp0 ?_
  refine x_putI (pc := 29) dX5_become_29 fX5_31 rfl hi0 rfl rfl ?_
  refine x_letm h (fun m4 h => ?_)
  refine x_aload_n (pc := 32) dX5_become_32 rfl ?_
  refine x_getS (pc := 33) dX5_become_33 fX5_9 rfl hp0 ?_
  refine x_iconst (pc := 36) dX5_become_36 (v := (0 : Int32)) (by decide) ?_
  refine x_aload_n (pc := 37) dX5_become_37 rfl ?_
  refine x_getS (pc := 38) dX5_become_38 fX5_9 rfl hi0 ?_
  refine x_iconst (pc := 41) dX5_become_41 (v := (0 : Int32)) (by decide) ?_
  refine x_bipush (pc := 42) dX5_become_42 (v := (8 : Int32)) (by decide) ?_
  refine x_acpy (pc := 44) (n := 8) dX5_become_44 lX5_46 (by omega) rfl rfl rfl rfl rfl hp0 hi0 (by decide) (by decide) rfl (by decide) ?_
  refine x_letm h (fun m5 h => ?_)
  refine x_aload_n (pc := 47) dX5_become_47 rfl ?_
  refine x_getS (pc := 48) dX5_become_48 fX5_15 rfl hp0 ?_
  refine x_iconst (pc := 51) dX5_become_51 (v := (0 : Int32)) (by decide) ?_
  refine x_aload_n (pc := 52) dX5_become_52 rfl ?_
  refine x_getS (pc := 53) dX5_become_53 fX5_15 rfl hi0 ?_
  refine x_iconst (pc := 56) dX5_become_56 (v := (0 : Int32)) (by decide) ?_
  refine x_bipush (pc := 57) dX5_become_57 (v := (6 : Int32)) (by decide) ?_
  refine x_acpy (pc := 59) (n := 6) dX5_become_59 lX5_46 (by omega) rfl rfl rfl rfl rfl hp0 hi0 (by decide) (by decide) rfl (by decide) ?_
  refine x_letm h (fun m6 h => ?_)
  refine x_aload_n (pc := 62) dX5_become_62 rfl ?_
  refine x_getS (pc := 63) dX5_become_63 fX5_18 rfl hp0 ?_
  refine x_iconst (pc := 66) dX5_become_66 (v := (0 : Int32)) (by decide) ?_
  refine x_aload_n (pc := 67) dX5_become_67 rfl ?_
  refine x_getS (pc := 68) dX5_become_68 fX5_18 rfl hi0 ?_
  refine x_iconst (pc := 71) dX5_become_71 (v := (0 : Int32)) (by decide) ?_
  refine x_bipush (pc := 72) dX5_become_72 (v := (6 : Int32)) (by decide) ?_
  refine x_acpy (pc := 74) (n := 6) dX5_become_74 lX5_46 (by omega) rfl rfl rfl rfl rfl hp0 hi0 (by decide) (by decide) rfl (by decide) ?_
  refine x_letm h (fun m7 h => ?_)
  exact x_ret (pc := 77) dX5_become_77 rfl (by rw [hQX]; exact ⟨rfl, hq0 _ (wo_some h)⟩)
noncomputable def f_X3_keep (p0 : Nat) (mem : mi_M) : Option (mi_M) := mi_g (vp_in (mem.1 3 0 1) 16) (mi_bo (f_X5_become (0 * 0 + 1 + (mem.1 3 0 1).toNatClampNeg) p0 mem) fun m2 => mi_let (mi_wI m2 3 0 1 (((m2.1 3 0 1) + (1 : Int32)) - ((m2.1 3 0 1) + (1 : Int32)) / (16 : Int32) * (16 : Int32))) fun m3 => mi_let (if ((m3.1 3 0 0) + (1 : Int32)) < (16 : Int32) then ((m3.1 3 0 0) + (1 : Int32)) else (16 : Int32)) fun v4 => mi_let (mi_wI m3 3 0 0 v4) fun m5 => some m5)
set_option maxRecDepth 100000 in
set_option maxHeartbeats 4000000 in
theorem w_X3_keep (p0 : Nat) (hp0 : p0 < mi_n 5) (mem : mi_M) (a : mi_M) (e : f_X3_keep p0 mem = some a) : mi_Cv (2) mX3_keep [vr 3 0, vr 5 p0] mem (fun m' => m' = a) := by
  unfold mi_Cv
  refine mi_C_intro (ls := [(0, vr 3 0), (1, vr 5 p0)]) (by decide) rfl rfl ?_
  obtain ⟨Q0, hq0, h⟩ : ∃ Q0 : mi_M → Prop, (∀ b, Q0 b → b = a) ∧ wo (f_X3_keep p0 mem) Q0 := ⟨fun b => b = a, fun _ h => h, wo_eq e⟩
  obtain ⟨QX, hQX⟩ : ∃ QX : Option mi_V → mi_M → Prop, QX = (fun r m' => r = none ∧ m' = a) := ⟨_, rfl⟩
  rw [← hQX]
  unfold f_X3_keep at h
  refine x_aload_n (pc := 0) dX3_keep_0 rfl ?_
  refine x_getS (pc := 1) dX3_keep_1 fX3_11 rfl (by decide) ?_
  refine x_aload_n (pc := 4) dX3_keep_4 rfl ?_
  refine x_getI (pc := 5) dX3_keep_5 fX3_35 rfl (by decide) ?_
  obtain ⟨hx1, h⟩ := wo_g h
  refine x_aaldStJ (pc := 8) dX3_keep_8 rfl rfl (by decide) rfl hx1 ?_
  refine x_aload_n (pc := 9) dX3_keep_9 rfl ?_
  refine y_Vv1 (pc := 10) h dX3_keep_10 lX3_38 (by have h1 := (mi_vin hx1).1; have h2 : (0 : Nat) < 1 := (by decide); show _ < (26 : Nat); omega) (by omega) rfl (fun a e => w_X5_become _ _ (by have h1 := (mi_vin hx1).1; have h2 : (0 : Nat) < 1 := (by decide); show _ < (26 : Nat); omega) hp0 _ a e) (fun m2 h => ?_)
  refine x_aload_n (pc := 13) dX3_keep_13 rfl ?_
  refine x_aload_n (pc := 14) dX3_keep_14 rfl ?_
  refine x_getI (pc := 15) dX3_keep_15 fX3_35 rfl (by decide) ?_
  refine x_iconst (pc := 18) dX3_keep_18 (v := (1 : Int32)) (by decide) ?_
  refine x_iadd (pc := 19) dX3_keep_19 ?_
  refine x_bipush (pc := 20) dX3_keep_20 (v := (16 : Int32)) (by decide) ?_
  refine x_irem (pc := 22) dX3_keep_22 (by decide) ?_
  refine x_putI (pc := 23) dX3_keep_23 fX3_35 rfl (by decide) rfl rfl ?_
  refine x_letm h (fun m3 h => ?_)
  refine x_aload_n (pc := 26) dX3_keep_26 rfl ?_
  refine x_bipush (pc := 27) dX3_keep_27 (v := (16 : Int32)) (by decide) ?_
  refine x_aload_n (pc := 29) dX3_keep_29 rfl ?_
  refine x_getI (pc := 30) dX3_keep_30 fX3_28 rfl (by decide) ?_
  refine x_iconst (pc := 33) dX3_keep_33 (v := (1 : Int32)) (by decide) ?_
  refine x_iadd (pc := 34) dX3_keep_34 ?_
  refine x_mmin (pc := 35) dX3_keep_35 lX3_42 (by omega) rfl ?_
  refine x_leti h (fun v4 h => ?_)
  refine x_putI (pc := 38) dX3_keep_38 fX3_28 rfl (by decide) rfl rfl ?_
  refine x_letm h (fun m5 h => ?_)
  exact x_ret (pc := 41) dX3_keep_41 rfl (by rw [hQX]; exact ⟨rfl, hq0 _ (wo_some h)⟩)
noncomputable def f_X11_holds_J13 (u1 : Int32) : Option (Int32) := mi_g (u1 = 0 ∨ u1 = 1) (some u1)
noncomputable def f_X11_holds (p0 : Int32) (p1 : Int32) (mem : mi_M) : Option (Int32) := if ((p0 >>> (p1 &&& 31)) &&& (1 : Int32)) = 0 then f_X11_holds_J13 (0 : Int32) else f_X11_holds_J13 (1 : Int32)
set_option maxRecDepth 100000 in
set_option maxHeartbeats 4000000 in
theorem w_X11_holds (p0 : Int32) (p1 : Int32) (mem : mi_M) (a : Int32) (e : f_X11_holds p0 p1 mem = some a) : mi_Ci (1) mX11_holds [vi p0, vi p1] mem (fun x m' => x = a ∧ m' = mem) := by
  unfold mi_Ci
  refine mi_C_intro (ls := [(0, vi p0), (1, vi p1)]) (by decide) rfl rfl ?_
  obtain ⟨Q0, hq0, h⟩ : ∃ Q0 : Int32 → Prop, (∀ b, Q0 b → b = a) ∧ wo (f_X11_holds p0 p1 mem) Q0 := ⟨fun b => b = a, fun _ h => h, wo_eq e⟩
  obtain ⟨QX, hQX⟩ : ∃ QX : Option mi_V → mi_M → Prop, QX = (fun r m' => ∃ x, r = some (vi x) ∧ x = a ∧ m' = mem) := ⟨_, rfl⟩
  rw [← hQX]
  unfold f_X11_holds at h
  refine x_iload_n (pc := 0) dX11_holds_0 rfl ?_
  refine x_iload_n (pc := 1) dX11_holds_1 rfl ?_
  refine x_ishr (pc := 2) dX11_holds_2 ?_
  refine x_iconst (pc := 3) dX11_holds_3 (v := (1 : Int32)) (by decide) ?_
  refine x_iand (pc := 4) dX11_holds_4 ?_
  have j13 : ∀ (u1 : Int32), wo (f_X11_holds_J13 u1) Q0 → mi_X mX11_holds (1) 13 [] [vi u1] mem QX := by
    intro u1 h
    unfold f_X11_holds_J13 at h
    obtain ⟨hb2, h⟩ := wo_g h
    exact x_zretB (pc := 13) dX11_holds_13 rfl hb2 (by rw [hQX]; exact ⟨_, rfl, hq0 _ (wo_some h), rfl⟩)
  refine x_if_eq (pc := 5) dX11_holds_5 (tgt := 12) (by decide) (fun c3 => ?_) (fun c3 => ?_)
  · replace h := wo_pos c3 h
    refine x_iconst (pc := 12) dX11_holds_12 (v := (0 : Int32)) (by decide) ?_
    refine x_sub [] trivial ?_
    exact j13 _ h
  · replace h := wo_neg c3 h
    refine x_iconst (pc := 8) dX11_holds_8 (v := (1 : Int32)) (by decide) ?_
    refine x_goto (pc := 9) dX11_holds_9 (tgt := 13) (by decide) ?_
    refine x_sub [] trivial ?_
    exact j13 _ h
noncomputable def f_X5_isForgiven (i0 : Nat) (p0 : Int32) (mem : mi_M) : Option (Int32) := mi_bo (f_X11_holds (mem.1 5 i0 2) p0 mem) fun v1 => mi_g (v1 = 0 ∨ v1 = 1) (some v1)
set_option maxRecDepth 100000 in
set_option maxHeartbeats 4000000 in
theorem w_X5_isForgiven (i0 : Nat) (p0 : Int32) (hi0 : i0 < mi_n 5) (mem : mi_M) (a : Int32) (e : f_X5_isForgiven i0 p0 mem = some a) : mi_Ci (2) mX5_isForgiven [vr 5 i0, vi p0] mem (fun x m' => x = a ∧ m' = mem) := by
  unfold mi_Ci
  refine mi_C_intro (ls := [(0, vr 5 i0), (1, vi p0)]) (by decide) rfl rfl ?_
  obtain ⟨Q0, hq0, h⟩ : ∃ Q0 : Int32 → Prop, (∀ b, Q0 b → b = a) ∧ wo (f_X5_isForgiven i0 p0 mem) Q0 := ⟨fun b => b = a, fun _ h => h, wo_eq e⟩
  obtain ⟨QX, hQX⟩ : ∃ QX : Option mi_V → mi_M → Prop, QX = (fun r m' => ∃ x, r = some (vi x) ∧ x = a ∧ m' = mem) := ⟨_, rfl⟩
  rw [← hQX]
  unfold f_X5_isForgiven at h
  refine x_aload_n (pc := 0) dX5_isForgiven_0 rfl ?_
  refine x_getI (pc := 1) dX5_isForgiven_1 fX5_28 rfl hi0 ?_
  refine x_iload_n (pc := 4) dX5_isForgiven_4 rfl ?_
  refine z_Ni2 (pc := 5) h dX5_isForgiven_5 nX5_52 (by omega) rfl (fun a e => w_X11_holds _ _ _ a e) (fun v1 h => ?_)
  obtain ⟨hb2, h⟩ := wo_g h
  exact x_zretB (pc := 8) dX5_isForgiven_8 rfl hb2 (by rw [hQX]; exact ⟨_, rfl, hq0 _ (wo_some h), rfl⟩)
noncomputable def f_X8_barOf_J28 (u3 : Int32) : Option (Int32) := some u3
noncomputable def f_X8_barOf (i0 : Nat) (p0 : Int32) (mem : mi_M) : Option (Int32) := mi_g (vp_in p0 8) (mi_g (vp_in (mem.1 42 i0 p0.toNatClampNeg) 6) (if (mem.1 39 i0 (mem.1 42 i0 p0.toNatClampNeg).toNatClampNeg) = (2 : Int32) then f_X8_barOf_J28 ((mem.1 8 i0 2) + (3 : Int32)) else f_X8_barOf_J28 (mem.1 8 i0 2)))
set_option maxRecDepth 100000 in
set_option maxHeartbeats 4000000 in
theorem w_X8_barOf (i0 : Nat) (p0 : Int32) (hi0 : i0 < mi_n 8) (mem : mi_M) (a : Int32) (e : f_X8_barOf i0 p0 mem = some a) : mi_Ci (1) mX8_barOf [vr 8 i0, vi p0] mem (fun x m' => x = a ∧ m' = mem) := by
  unfold mi_Ci
  refine mi_C_intro (ls := [(0, vr 8 i0), (1, vi p0)]) (by decide) rfl rfl ?_
  obtain ⟨Q0, hq0, h⟩ : ∃ Q0 : Int32 → Prop, (∀ b, Q0 b → b = a) ∧ wo (f_X8_barOf i0 p0 mem) Q0 := ⟨fun b => b = a, fun _ h => h, wo_eq e⟩
  obtain ⟨QX, hQX⟩ : ∃ QX : Option mi_V → mi_M → Prop, QX = (fun r m' => ∃ x, r = some (vi x) ∧ x = a ∧ m' = mem) := ⟨_, rfl⟩
  rw [← hQX]
  unfold f_X8_barOf at h
  refine x_aload_n (pc := 0) dX8_barOf_0 rfl ?_
  refine x_getS (pc := 1) dX8_barOf_1 fX8_15 rfl hi0 ?_
  refine x_aload_n (pc := 4) dX8_barOf_4 rfl ?_
  refine x_getS (pc := 5) dX8_barOf_5 fX8_25 rfl hi0 ?_
  refine x_iload_n (pc := 8) dX8_barOf_8 rfl ?_
  obtain ⟨hx1, h⟩ := wo_g h
  refine x_ialdJ (pc := 9) dX8_barOf_9 rfl rfl hi0 hx1 ?_
  obtain ⟨hx2, h⟩ := wo_g h
  refine x_ialdJ (pc := 10) dX8_barOf_10 rfl rfl hi0 hx2 ?_
  refine x_iconst (pc := 11) dX8_barOf_11 (v := (2 : Int32)) (by decide) ?_
  have j28 : ∀ (u3 : Int32), wo (f_X8_barOf_J28 u3) Q0 → mi_X mX8_barOf (1) 28 [] [vi u3] mem QX := by
    intro u3 h
    unfold f_X8_barOf_J28 at h
    exact x_iret (pc := 28) dX8_barOf_28 rfl (by rw [hQX]; exact ⟨_, rfl, hq0 _ (wo_some h), rfl⟩)
  refine x_icmp_ne (pc := 12) dX8_barOf_12 (tgt := 24) (by decide) (fun c4 => ?_) (fun c4 => ?_)
  · replace h := wo_neg c4 h
    refine x_aload_n (pc := 24) dX8_barOf_24 rfl ?_
    refine x_getI (pc := 25) dX8_barOf_25 fX8_52 rfl hi0 ?_
    refine x_sub [] trivial ?_
    exact j28 _ h
  · replace h := wo_pos c4 h
    refine x_aload_n (pc := 15) dX8_barOf_15 rfl ?_
    refine x_getI (pc := 16) dX8_barOf_16 fX8_52 rfl hi0 ?_
    refine x_iconst (pc := 19) dX8_barOf_19 (v := (3 : Int32)) (by decide) ?_
    refine x_iadd (pc := 20) dX8_barOf_20 ?_
    refine x_goto (pc := 21) dX8_barOf_21 (tgt := 28) (by decide) ?_
    refine x_sub [] trivial ?_
    exact j28 _ h
noncomputable def f_X5_isRipe_J27 (u2 : Int32) : Option (Int32) := mi_g (u2 = 0 ∨ u2 = 1) (some u2)
noncomputable def f_X5_isRipe_J26 : Option (Int32) := f_X5_isRipe_J27 (0 : Int32)
noncomputable def f_X5_isRipe (i0 : Nat) (p0 : Nat) (p1 : Int32) (mem : mi_M) : Option (Int32) := mi_bo (f_X5_isForgiven i0 p1 mem) fun v1 => if v1 = 0 then mi_g (vp_in p1 8) (mi_bo (f_X8_barOf p0 p1 mem) fun v5 => if v5 < (mem.1 34 i0 p1.toNatClampNeg) then f_X5_isRipe_J26 else f_X5_isRipe_J27 (1 : Int32)) else f_X5_isRipe_J26
set_option maxRecDepth 100000 in
set_option maxHeartbeats 4000000 in
theorem w_X5_isRipe (i0 : Nat) (p0 : Nat) (p1 : Int32) (hi0 : i0 < mi_n 5) (hp0 : p0 < mi_n 8) (mem : mi_M) (a : Int32) (e : f_X5_isRipe i0 p0 p1 mem = some a) : mi_Ci (3) mX5_isRipe [vr 5 i0, vr 8 p0, vi p1] mem (fun x m' => x = a ∧ m' = mem) := by
  unfold mi_Ci
  refine mi_C_intro (ls := [(0, vr 5 i0), (1, vr 8 p0), (2, vi p1)]) (by decide) rfl rfl ?_
  obtain ⟨Q0, hq0, h⟩ : ∃ Q0 : Int32 → Prop, (∀ b, Q0 b → b = a) ∧ wo (f_X5_isRipe i0 p0 p1 mem) Q0 := ⟨fun b => b = a, fun _ h => h, wo_eq e⟩
  obtain ⟨QX, hQX⟩ : ∃ QX : Option mi_V → mi_M → Prop, QX = (fun r m' => ∃ x, r = some (vi x) ∧ x = a ∧ m' = mem) := ⟨_, rfl⟩
  rw [← hQX]
  unfold f_X5_isRipe at h
  refine x_aload_n (pc := 0) dX5_isRipe_0 rfl ?_
  refine x_iload_n (pc := 1) dX5_isRipe_1 rfl ?_
  refine z_Vi1 (pc := 2) h dX5_isRipe_2 lX5_56 hi0 (by omega) rfl (fun a e => w_X5_isForgiven _ _ hi0 _ a e) (fun v1 h => ?_)
  have j27 : ∀ (u2 : Int32), wo (f_X5_isRipe_J27 u2) Q0 → mi_X mX5_isRipe (3) 27 [] [vi u2] mem QX := by
    intro u2 h
    unfold f_X5_isRipe_J27 at h
    obtain ⟨hb3, h⟩ := wo_g h
    exact x_zretB (pc := 27) dX5_isRipe_27 rfl hb3 (by rw [hQX]; exact ⟨_, rfl, hq0 _ (wo_some h), rfl⟩)
  have j26 : wo (f_X5_isRipe_J26) Q0 → mi_X mX5_isRipe (3) 26 [] [] mem QX := by
    intro h
    unfold f_X5_isRipe_J26 at h
    refine x_iconst (pc := 26) dX5_isRipe_26 (v := (0 : Int32)) (by decide) ?_
    refine x_sub [] trivial ?_
    exact j27 _ h
  refine x_if_ne (pc := 5) dX5_isRipe_5 (tgt := 26) (by decide) (fun c7 => ?_) (fun c7 => ?_)
  · replace h := wo_neg c7 h
    refine x_sub [] trivial ?_
    exact j26 h
  · replace h := wo_pos c7 h
    refine x_aload_n (pc := 8) dX5_isRipe_8 rfl ?_
    refine x_getS (pc := 9) dX5_isRipe_9 fX5_9 rfl hi0 ?_
    refine x_iload_n (pc := 12) dX5_isRipe_12 rfl ?_
    obtain ⟨hx4, h⟩ := wo_g h
    refine x_ialdJ (pc := 13) dX5_isRipe_13 rfl rfl hi0 hx4 ?_
    refine x_aload_n (pc := 14) dX5_isRipe_14 rfl ?_
    refine x_iload_n (pc := 15) dX5_isRipe_15 rfl ?_
    refine z_Vi1 (pc := 16) h dX5_isRipe_16 lX5_60 hp0 (by omega) rfl (fun a e => w_X8_barOf _ _ hp0 _ a e) (fun v5 h => ?_)
    refine x_icmp_gt (pc := 19) dX5_isRipe_19 (tgt := 26) (by decide) (fun c6 => ?_) (fun c6 => ?_)
    · replace h := wo_pos c6 h
      refine x_sub [] trivial ?_
      exact j26 h
    · replace h := wo_neg c6 h
      refine x_iconst (pc := 22) dX5_isRipe_22 (v := (1 : Int32)) (by decide) ?_
      refine x_goto (pc := 23) dX5_isRipe_23 (tgt := 27) (by decide) ?_
      refine x_sub [] trivial ?_
      exact j27 _ h
noncomputable def f_X11_clamp (p0 : Int32) (p1 : Int32) (p2 : Int32) (mem : mi_M) : Option (Int32) := mi_let (if p0 < p2 then p0 else p2) fun v1 => mi_let (if p1 < v1 then v1 else p1) fun v2 => some v2
set_option maxRecDepth 100000 in
set_option maxHeartbeats 4000000 in
theorem w_X11_clamp (p0 : Int32) (p1 : Int32) (p2 : Int32) (mem : mi_M) (a : Int32) (e : f_X11_clamp p0 p1 p2 mem = some a) : mi_Ci (1) mX11_clamp [vi p0, vi p1, vi p2] mem (fun x m' => x = a ∧ m' = mem) := by
  unfold mi_Ci
  refine mi_C_intro (ls := [(0, vi p0), (1, vi p1), (2, vi p2)]) (by decide) rfl rfl ?_
  obtain ⟨Q0, hq0, h⟩ : ∃ Q0 : Int32 → Prop, (∀ b, Q0 b → b = a) ∧ wo (f_X11_clamp p0 p1 p2 mem) Q0 := ⟨fun b => b = a, fun _ h => h, wo_eq e⟩
  obtain ⟨QX, hQX⟩ : ∃ QX : Option mi_V → mi_M → Prop, QX = (fun r m' => ∃ x, r = some (vi x) ∧ x = a ∧ m' = mem) := ⟨_, rfl⟩
  rw [← hQX]
  unfold f_X11_clamp at h
  refine x_iload_n (pc := 0) dX11_clamp_0 rfl ?_
  refine x_iload_n (pc := 1) dX11_clamp_1 rfl ?_
  refine x_iload_n (pc := 2) dX11_clamp_2 rfl ?_
  refine x_mmin (pc := 3) dX11_clamp_3 lX11_301 (by omega) rfl ?_
  refine x_leti h (fun v1 h => ?_)
  refine x_mmax (pc := 6) dX11_clamp_6 lX11_306 (by omega) rfl ?_
  refine x_leti h (fun v2 h => ?_)
  exact x_iret (pc := 9) dX11_clamp_9 rfl (by rw [hQX]; exact ⟨_, rfl, hq0 _ (wo_some h), rfl⟩)
noncomputable def f_X1_fact (p0 : Int32) (p1 : Int32) (p2 : Int32) (p3 : Int32) (mem : mi_M) : Option (Int32) := if p0 = (-3 : Int32) then some p3 else if p0 = (-2 : Int32) then some p2 else if p0 = (-1 : Int32) then some p1 else some p0
set_option maxRecDepth 100000 in
set_option maxHeartbeats 4000000 in
theorem w_X1_fact (p0 : Int32) (p1 : Int32) (p2 : Int32) (p3 : Int32) (mem : mi_M) (a : Int32) (e : f_X1_fact p0 p1 p2 p3 mem = some a) : mi_Ci (1) mX1_fact [vi p0, vi p1, vi p2, vi p3] mem (fun x m' => x = a ∧ m' = mem) := by
  unfold mi_Ci
  refine mi_C_intro (ls := [(0, vi p0), (1, vi p1), (2, vi p2), (3, vi p3)]) (by decide) rfl rfl ?_
  obtain ⟨Q0, hq0, h⟩ : ∃ Q0 : Int32 → Prop, (∀ b, Q0 b → b = a) ∧ wo (f_X1_fact p0 p1 p2 p3 mem) Q0 := ⟨fun b => b = a, fun _ h => h, wo_eq e⟩
  obtain ⟨QX, hQX⟩ : ∃ QX : Option mi_V → mi_M → Prop, QX = (fun r m' => ∃ x, r = some (vi x) ∧ x = a ∧ m' = mem) := ⟨_, rfl⟩
  rw [← hQX]
  unfold f_X1_fact at h
  refine x_iload_n (pc := 0) dX1_fact_0 rfl ?_
  by_cases c1 : p0 = (-3 : Int32)
  · replace h := wo_pos c1 h
    refine x_swT (pc := 1) (c := (-3 : Int32)) c1 dX1_fact_1 (by decide) (by decide) rfl (tgt := 32) (by decide) ?_
    refine x_iload_n (pc := 32) dX1_fact_32 rfl ?_
    exact x_iret (pc := 33) dX1_fact_33 rfl (by rw [hQX]; exact ⟨_, rfl, hq0 _ (wo_some h), rfl⟩)
  · replace h := wo_neg c1 h
    by_cases c2 : p0 = (-2 : Int32)
    · replace h := wo_pos c2 h
      refine x_swT (pc := 1) (c := (-2 : Int32)) c2 dX1_fact_1 (by decide) (by decide) rfl (tgt := 30) (by decide) ?_
      refine x_iload_n (pc := 30) dX1_fact_30 rfl ?_
      exact x_iret (pc := 31) dX1_fact_31 rfl (by rw [hQX]; exact ⟨_, rfl, hq0 _ (wo_some h), rfl⟩)
    · replace h := wo_neg c2 h
      by_cases c3 : p0 = (-1 : Int32)
      · replace h := wo_pos c3 h
        refine x_swT (pc := 1) (c := (-1 : Int32)) c3 dX1_fact_1 (by decide) (by decide) rfl (tgt := 28) (by decide) ?_
        refine x_iload_n (pc := 28) dX1_fact_28 rfl ?_
        exact x_iret (pc := 29) dX1_fact_29 rfl (by rw [hQX]; exact ⟨_, rfl, hq0 _ (wo_some h), rfl⟩)
      · replace h := wo_neg c3 h
        refine x_tableOut (pc := 1) dX1_fact_1 (by have := lv_neT (a := -3) c1 (by decide); have := lv_neT (a := -2) c2 (by decide); have := lv_neT (a := -1) c3 (by decide); omega) (tgt := 34) (by decide) ?_
        refine x_iload_n (pc := 34) dX1_fact_34 rfl ?_
        exact x_iret (pc := 35) dX1_fact_35 rfl (by rw [hQX]; exact ⟨_, rfl, hq0 _ (wo_some h), rfl⟩)
noncomputable def f_X1_truth_J9 (u1 : Int32) : Option (Int32) := some u1
noncomputable def f_X1_truth (p0 : Int32) (mem : mi_M) : Option (Int32) := if p0 = 0 then f_X1_truth_J9 (0 : Int32) else f_X1_truth_J9 (1 : Int32)
set_option maxRecDepth 100000 in
set_option maxHeartbeats 4000000 in
theorem w_X1_truth (p0 : Int32) (mem : mi_M) (a : Int32) (e : f_X1_truth p0 mem = some a) : mi_Ci (1) mX1_truth [vi p0] mem (fun x m' => x = a ∧ m' = mem) := by
  unfold mi_Ci
  refine mi_C_intro (ls := [(0, vi p0)]) (by decide) rfl rfl ?_
  obtain ⟨Q0, hq0, h⟩ : ∃ Q0 : Int32 → Prop, (∀ b, Q0 b → b = a) ∧ wo (f_X1_truth p0 mem) Q0 := ⟨fun b => b = a, fun _ h => h, wo_eq e⟩
  obtain ⟨QX, hQX⟩ : ∃ QX : Option mi_V → mi_M → Prop, QX = (fun r m' => ∃ x, r = some (vi x) ∧ x = a ∧ m' = mem) := ⟨_, rfl⟩
  rw [← hQX]
  unfold f_X1_truth at h
  refine x_iload_n (pc := 0) dX1_truth_0 rfl ?_
  have j9 : ∀ (u1 : Int32), wo (f_X1_truth_J9 u1) Q0 → mi_X mX1_truth (1) 9 [] [vi u1] mem QX := by
    intro u1 h
    unfold f_X1_truth_J9 at h
    exact x_iret (pc := 9) dX1_truth_9 rfl (by rw [hQX]; exact ⟨_, rfl, hq0 _ (wo_some h), rfl⟩)
  refine x_if_eq (pc := 1) dX1_truth_1 (tgt := 8) (by decide) (fun c2 => ?_) (fun c2 => ?_)
  · replace h := wo_pos c2 h
    refine x_iconst (pc := 8) dX1_truth_8 (v := (0 : Int32)) (by decide) ?_
    refine x_sub [] trivial ?_
    exact j9 _ h
  · replace h := wo_neg c2 h
    refine x_iconst (pc := 4) dX1_truth_4 (v := (1 : Int32)) (by decide) ?_
    refine x_goto (pc := 5) dX1_truth_5 (tgt := 9) (by decide) ?_
    refine x_sub [] trivial ?_
    exact j9 _ h
noncomputable def f_X1_joined_J98 (mem : mi_M) (u4 : Int32) : Option (Int32) := mi_bo (f_X1_truth u4 mem) fun v5 => some v5
noncomputable def f_X1_joined_J84 (mem : mi_M) (u8 : Int32) : Option (Int32) := mi_bo (f_X1_truth u8 mem) fun v9 => some v9
noncomputable def f_X1_joined_J70 (mem : mi_M) (u12 : Int32) : Option (Int32) := mi_bo (f_X1_truth u12 mem) fun v13 => some v13
noncomputable def f_X1_joined_J65 (mem : mi_M) : Option (Int32) := f_X1_joined_J70 mem (1 : Int32)
noncomputable def f_X1_joined_J53 (mem : mi_M) (u17 : Int32) : Option (Int32) := mi_bo (f_X1_truth u17 mem) fun v18 => some v18
noncomputable def f_X1_joined_J52 (mem : mi_M) : Option (Int32) := f_X1_joined_J53 mem (0 : Int32)
noncomputable def f_X1_joined (p0 : Int32) (p1 : Int32) (p2 : Int32) (mem : mi_M) : Option (Int32) := if p0 = (-10 : Int32) then some (p1 - p2) else if p0 = (-9 : Int32) then some (p1 + p2) else if p0 = (-8 : Int32) then if p1 = p2 then f_X1_joined_J98 mem (1 : Int32) else f_X1_joined_J98 mem (0 : Int32) else if p0 = (-7 : Int32) then if p2 ≤ p1 then f_X1_joined_J84 mem (0 : Int32) else f_X1_joined_J84 mem (1 : Int32) else if p0 = (-6 : Int32) then if p1 = 0 then if p2 = 0 then f_X1_joined_J70 mem (0 : Int32) else f_X1_joined_J65 mem else f_X1_joined_J65 mem else if p0 = (-5 : Int32) then if p1 = 0 then f_X1_joined_J52 mem else if p2 = 0 then f_X1_joined_J52 mem else f_X1_joined_J53 mem (1 : Int32) else some (p1 * p2)
set_option maxRecDepth 100000 in
set_option maxHeartbeats 4000000 in
theorem w_X1_joined (p0 : Int32) (p1 : Int32) (p2 : Int32) (mem : mi_M) (a : Int32) (e : f_X1_joined p0 p1 p2 mem = some a) : mi_Ci (2) mX1_joined [vi p0, vi p1, vi p2] mem (fun x m' => x = a ∧ m' = mem) := by
  unfold mi_Ci
  refine mi_C_intro (ls := [(0, vi p0), (1, vi p1), (2, vi p2)]) (by decide) rfl rfl ?_
  obtain ⟨Q0, hq0, h⟩ : ∃ Q0 : Int32 → Prop, (∀ b, Q0 b → b = a) ∧ wo (f_X1_joined p0 p1 p2 mem) Q0 := ⟨fun b => b = a, fun _ h => h, wo_eq e⟩
  obtain ⟨QX, hQX⟩ : ∃ QX : Option mi_V → mi_M → Prop, QX = (fun r m' => ∃ x, r = some (vi x) ∧ x = a ∧ m' = mem) := ⟨_, rfl⟩
  rw [← hQX]
  unfold f_X1_joined at h
  refine x_iload_n (pc := 0) dX1_joined_0 rfl ?_
  by_cases c1 : p0 = (-10 : Int32)
  · replace h := wo_pos c1 h
    refine x_swT (pc := 1) (c := (-10 : Int32)) c1 dX1_joined_1 (by decide) (by decide) rfl (tgt := 106) (by decide) ?_
    refine x_iload_n (pc := 106) dX1_joined_106 rfl ?_
    refine x_iload_n (pc := 107) dX1_joined_107 rfl ?_
    refine x_isub (pc := 108) dX1_joined_108 ?_
    exact x_iret (pc := 109) dX1_joined_109 rfl (by rw [hQX]; exact ⟨_, rfl, hq0 _ (wo_some h), rfl⟩)
  · replace h := wo_neg c1 h
    by_cases c2 : p0 = (-9 : Int32)
    · replace h := wo_pos c2 h
      refine x_swT (pc := 1) (c := (-9 : Int32)) c2 dX1_joined_1 (by decide) (by decide) rfl (tgt := 102) (by decide) ?_
      refine x_iload_n (pc := 102) dX1_joined_102 rfl ?_
      refine x_iload_n (pc := 103) dX1_joined_103 rfl ?_
      refine x_iadd (pc := 104) dX1_joined_104 ?_
      exact x_iret (pc := 105) dX1_joined_105 rfl (by rw [hQX]; exact ⟨_, rfl, hq0 _ (wo_some h), rfl⟩)
    · replace h := wo_neg c2 h
      by_cases c3 : p0 = (-8 : Int32)
      · replace h := wo_pos c3 h
        refine x_swT (pc := 1) (c := (-8 : Int32)) c3 dX1_joined_1 (by decide) (by decide) rfl (tgt := 88) (by decide) ?_
        refine x_iload_n (pc := 88) dX1_joined_88 rfl ?_
        refine x_iload_n (pc := 89) dX1_joined_89 rfl ?_
        have j98 : ∀ (u4 : Int32), wo (f_X1_joined_J98 mem u4) Q0 → mi_X mX1_joined (2) 98 [] [vi u4] mem QX := by
          intro u4 h
          unfold f_X1_joined_J98 at h
          refine z_Si1 (pc := 98) h dX1_joined_98 lX1_42 (by omega) rfl (fun a e => w_X1_truth _ _ a e) (fun v5 h => ?_)
          exact x_iret (pc := 101) dX1_joined_101 rfl (by rw [hQX]; exact ⟨_, rfl, hq0 _ (wo_some h), rfl⟩)
        refine x_icmp_ne (pc := 90) dX1_joined_90 (tgt := 97) (by decide) (fun c6 => ?_) (fun c6 => ?_)
        · replace h := wo_neg c6 h
          refine x_iconst (pc := 97) dX1_joined_97 (v := (0 : Int32)) (by decide) ?_
          refine x_sub [] trivial ?_
          exact j98 _ h
        · replace h := wo_pos c6 h
          refine x_iconst (pc := 93) dX1_joined_93 (v := (1 : Int32)) (by decide) ?_
          refine x_goto (pc := 94) dX1_joined_94 (tgt := 98) (by decide) ?_
          refine x_sub [] trivial ?_
          exact j98 _ h
      · replace h := wo_neg c3 h
        by_cases c7 : p0 = (-7 : Int32)
        · replace h := wo_pos c7 h
          refine x_swT (pc := 1) (c := (-7 : Int32)) c7 dX1_joined_1 (by decide) (by decide) rfl (tgt := 74) (by decide) ?_
          refine x_iload_n (pc := 74) dX1_joined_74 rfl ?_
          refine x_iload_n (pc := 75) dX1_joined_75 rfl ?_
          have j84 : ∀ (u8 : Int32), wo (f_X1_joined_J84 mem u8) Q0 → mi_X mX1_joined (2) 84 [] [vi u8] mem QX := by
            intro u8 h
            unfold f_X1_joined_J84 at h
            refine z_Si1 (pc := 84) h dX1_joined_84 lX1_42 (by omega) rfl (fun a e => w_X1_truth _ _ a e) (fun v9 h => ?_)
            exact x_iret (pc := 87) dX1_joined_87 rfl (by rw [hQX]; exact ⟨_, rfl, hq0 _ (wo_some h), rfl⟩)
          refine x_icmp_ge (pc := 76) dX1_joined_76 (tgt := 83) (by decide) (fun c10 => ?_) (fun c10 => ?_)
          · replace h := wo_pos c10 h
            refine x_iconst (pc := 83) dX1_joined_83 (v := (0 : Int32)) (by decide) ?_
            refine x_sub [] trivial ?_
            exact j84 _ h
          · replace h := wo_neg c10 h
            refine x_iconst (pc := 79) dX1_joined_79 (v := (1 : Int32)) (by decide) ?_
            refine x_goto (pc := 80) dX1_joined_80 (tgt := 84) (by decide) ?_
            refine x_sub [] trivial ?_
            exact j84 _ h
        · replace h := wo_neg c7 h
          by_cases c11 : p0 = (-6 : Int32)
          · replace h := wo_pos c11 h
            refine x_swT (pc := 1) (c := (-6 : Int32)) c11 dX1_joined_1 (by decide) (by decide) rfl (tgt := 57) (by decide) ?_
            refine x_iload_n (pc := 57) dX1_joined_57 rfl ?_
            have j70 : ∀ (u12 : Int32), wo (f_X1_joined_J70 mem u12) Q0 → mi_X mX1_joined (2) 70 [] [vi u12] mem QX := by
              intro u12 h
              unfold f_X1_joined_J70 at h
              refine z_Si1 (pc := 70) h dX1_joined_70 lX1_42 (by omega) rfl (fun a e => w_X1_truth _ _ a e) (fun v13 h => ?_)
              exact x_iret (pc := 73) dX1_joined_73 rfl (by rw [hQX]; exact ⟨_, rfl, hq0 _ (wo_some h), rfl⟩)
            have j65 : wo (f_X1_joined_J65 mem) Q0 → mi_X mX1_joined (2) 65 [] [] mem QX := by
              intro h
              unfold f_X1_joined_J65 at h
              refine x_iconst (pc := 65) dX1_joined_65 (v := (1 : Int32)) (by decide) ?_
              refine x_goto (pc := 66) dX1_joined_66 (tgt := 70) (by decide) ?_
              refine x_sub [] trivial ?_
              exact j70 _ h
            refine x_if_ne (pc := 58) dX1_joined_58 (tgt := 65) (by decide) (fun c15 => ?_) (fun c15 => ?_)
            · replace h := wo_neg c15 h
              refine x_sub [] trivial ?_
              exact j65 h
            · replace h := wo_pos c15 h
              refine x_iload_n (pc := 61) dX1_joined_61 rfl ?_
              refine x_if_eq (pc := 62) dX1_joined_62 (tgt := 69) (by decide) (fun c14 => ?_) (fun c14 => ?_)
              · replace h := wo_pos c14 h
                refine x_iconst (pc := 69) dX1_joined_69 (v := (0 : Int32)) (by decide) ?_
                refine x_sub [] trivial ?_
                exact j70 _ h
              · replace h := wo_neg c14 h
                refine x_sub [] trivial ?_
                exact j65 h
          · replace h := wo_neg c11 h
            by_cases c16 : p0 = (-5 : Int32)
            · replace h := wo_pos c16 h
              refine x_swT (pc := 1) (c := (-5 : Int32)) c16 dX1_joined_1 (by decide) (by decide) rfl (tgt := 40) (by decide) ?_
              refine x_iload_n (pc := 40) dX1_joined_40 rfl ?_
              have j53 : ∀ (u17 : Int32), wo (f_X1_joined_J53 mem u17) Q0 → mi_X mX1_joined (2) 53 [] [vi u17] mem QX := by
                intro u17 h
                unfold f_X1_joined_J53 at h
                refine z_Si1 (pc := 53) h dX1_joined_53 lX1_42 (by omega) rfl (fun a e => w_X1_truth _ _ a e) (fun v18 h => ?_)
                exact x_iret (pc := 56) dX1_joined_56 rfl (by rw [hQX]; exact ⟨_, rfl, hq0 _ (wo_some h), rfl⟩)
              have j52 : wo (f_X1_joined_J52 mem) Q0 → mi_X mX1_joined (2) 52 [] [] mem QX := by
                intro h
                unfold f_X1_joined_J52 at h
                refine x_iconst (pc := 52) dX1_joined_52 (v := (0 : Int32)) (by decide) ?_
                refine x_sub [] trivial ?_
                exact j53 _ h
              refine x_if_eq (pc := 41) dX1_joined_41 (tgt := 52) (by decide) (fun c20 => ?_) (fun c20 => ?_)
              · replace h := wo_pos c20 h
                refine x_sub [] trivial ?_
                exact j52 h
              · replace h := wo_neg c20 h
                refine x_iload_n (pc := 44) dX1_joined_44 rfl ?_
                refine x_if_eq (pc := 45) dX1_joined_45 (tgt := 52) (by decide) (fun c19 => ?_) (fun c19 => ?_)
                · replace h := wo_pos c19 h
                  refine x_sub [] trivial ?_
                  exact j52 h
                · replace h := wo_neg c19 h
                  refine x_iconst (pc := 48) dX1_joined_48 (v := (1 : Int32)) (by decide) ?_
                  refine x_goto (pc := 49) dX1_joined_49 (tgt := 53) (by decide) ?_
                  refine x_sub [] trivial ?_
                  exact j53 _ h
            · replace h := wo_neg c16 h
              refine x_tableOut (pc := 1) dX1_joined_1 (by have := lv_neT (a := -10) c1 (by decide); have := lv_neT (a := -9) c2 (by decide); have := lv_neT (a := -8) c3 (by decide); have := lv_neT (a := -7) c7 (by decide); have := lv_neT (a := -6) c11 (by decide); have := lv_neT (a := -5) c16 (by decide); omega) (tgt := 110) (by decide) ?_
              refine x_iload_n (pc := 110) dX1_joined_110 rfl ?_
              refine x_iload_n (pc := 111) dX1_joined_111 rfl ?_
              refine x_imul (pc := 112) dX1_joined_112 ?_
              exact x_iret (pc := 113) dX1_joined_113 rfl (by rw [hQX]; exact ⟨_, rfl, hq0 _ (wo_some h), rfl⟩)
noncomputable def f_X1_worth_J175 (m4 : mi_M) (u5 : Int32) : Option (Int32 × mi_M) := some (u5, m4)
noncomputable def f_X1_worth_J154 (l9 : Int32) (u14 : Int32) (m15 : mi_M) : Option ((Int32 × Int32 × mi_M) ⊕ (Int32 × mi_M)) := some (.inl (u14, (l9 + (1 : Int32)), m15))
noncomputable def f_X1_worth_J108 (i0 : Nat) (l8 : Int32) (l9 : Int32) (m10 : mi_M) (u23 : Int32) : Option ((Int32 × Int32 × mi_M) ⊕ (Int32 × mi_M)) := mi_bo (f_X1_truth u23 m10) fun v24 => mi_g (vp_in (l8 - (1 : Int32)) 40) (mi_let (mi_wI m10 19 i0 (l8 - (1 : Int32)).toNatClampNeg v24) fun m26 => f_X1_worth_J154 l9 l8 m26)
noncomputable def f_X1_worth_B11 (i0 : Nat) (p0 : Int32) (p1 : Int32) (p2 : Int32) (p3 : Int32) : (Int32 × Int32 × mi_M) → Option ((Int32 × Int32 × mi_M) ⊕ (Int32 × mi_M)) := fun s => match s with | (l8, l9, m10) => mi_g (vp_in p0 3) (if (m10.1 18 i0 p0.toNatClampNeg) ≤ l9 then some (.inr (l8, m10)) else mi_g (vp_in l9 1003) (mi_let (m10.1 16 i0 l9.toNatClampNeg) fun v13 => if v13 < (-3 : Int32) then if v13 = (-4 : Int32) then if l8 < (1 : Int32) then f_X1_worth_J154 l9 l8 m10 else mi_g (vp_in (l8 - (1 : Int32)) 40) (if (m10.1 19 i0 (l8 - (1 : Int32)).toNatClampNeg) = 0 then f_X1_worth_J108 i0 l8 l9 m10 (1 : Int32) else f_X1_worth_J108 i0 l8 l9 m10 (0 : Int32)) else if l8 < (2 : Int32) then f_X1_worth_J154 l9 l8 m10 else mi_g (vp_in ((l8 + (-1 : Int32)) - (1 : Int32)) 40) (mi_g (vp_in (l8 + (-1 : Int32)) 40) (mi_bo (f_X1_joined v13 (m10.1 19 i0 ((l8 + (-1 : Int32)) - (1 : Int32)).toNatClampNeg) (m10.1 19 i0 (l8 + (-1 : Int32)).toNatClampNeg) m10) fun v18 => mi_g (vp_in ((l8 + (-1 : Int32)) - (1 : Int32)) 40) (mi_let (mi_wI m10 19 i0 ((l8 + (-1 : Int32)) - (1 : Int32)).toNatClampNeg v18) fun m20 => f_X1_worth_J154 l9 (l8 + (-1 : Int32)) m20))) else if (40 : Int32) ≤ l8 then f_X1_worth_J154 l9 l8 m10 else mi_bo (f_X1_fact v13 p1 p2 p3 m10) fun v30 => mi_g (vp_in l8 40) (mi_let (mi_wI m10 19 i0 l8.toNatClampNeg v30) fun m32 => f_X1_worth_J154 l9 (l8 + (1 : Int32)) m32)))
noncomputable def f_X1_worth_K11 (i0 : Nat) : (Int32 × mi_M) → Option (Int32 × mi_M) := fun e => match e with | (e3, m4) => if e3 ≤ 0 then f_X1_worth_J175 m4 (0 : Int32) else mi_g (vp_in (0 : Int32) 40) (f_X1_worth_J175 m4 (m4.1 19 i0 (0 : Int32).toNatClampNeg))
noncomputable def f_X1_worth (i0 : Nat) (p0 : Int32) (p1 : Int32) (p2 : Int32) (p3 : Int32) (mem : mi_M) : Option (Int32 × mi_M) := mi_g (vp_in p0 3) (mi_let (mem.1 17 i0 p0.toNatClampNeg) fun v2 => mi_bo (mi_lp (f_X1_worth_B11 i0 p0 p1 p2 p3) mi_fu ((0 : Int32), v2, mem)) (f_X1_worth_K11 i0))
set_option maxRecDepth 100000 in
set_option maxHeartbeats 4000000 in
theorem w_X1_worth (i0 : Nat) (p0 : Int32) (p1 : Int32) (p2 : Int32) (p3 : Int32) (hi0 : i0 < mi_n 1) (mem : mi_M) (a : Int32 × mi_M) (e : f_X1_worth i0 p0 p1 p2 p3 mem = some a) : mi_Ci (3) mX1_worth [vr 1 i0, vi p0, vi p1, vi p2, vi p3] mem (fun x m' => x = a.1 ∧ m' = a.2) := by
  unfold mi_Ci
  refine mi_C_intro (ls := [(0, vr 1 i0), (1, vi p0), (2, vi p1), (3, vi p2), (4, vi p3)]) (by decide) rfl rfl ?_
  obtain ⟨Q0, hq0, h⟩ : ∃ Q0 : (Int32 × mi_M) → Prop, (∀ b, Q0 b → b = a) ∧ wo (f_X1_worth i0 p0 p1 p2 p3 mem) Q0 := ⟨fun b => b = a, fun _ h => h, wo_eq e⟩
  obtain ⟨QX, hQX⟩ : ∃ QX : Option mi_V → mi_M → Prop, QX = (fun r m' => ∃ x, r = some (vi x) ∧ x = a.1 ∧ m' = a.2) := ⟨_, rfl⟩
  rw [← hQX]
  unfold f_X1_worth at h
  refine x_iconst (pc := 0) dX1_worth_0 (v := (0 : Int32)) (by decide) ?_
  refine x_istore (ls' := [(5, _), (0, _), (1, _), (2, _), (3, _), (4, _)]) (pc := 1) dX1_worth_1 rfl rfl ?_
  refine x_aload_n (pc := 3) dX1_worth_3 rfl ?_
  refine x_getS (pc := 4) dX1_worth_4 fX1_15 rfl hi0 ?_
  refine x_iload_n (pc := 7) dX1_worth_7 rfl ?_
  obtain ⟨hx1, h⟩ := wo_g h
  refine x_ialdJ (pc := 8) dX1_worth_8 rfl rfl hi0 hx1 ?_
  refine x_leti h (fun v2 h => ?_)
  refine x_istore (ls' := [(6, _), (5, _), (0, _), (1, _), (2, _), (3, _), (4, _)]) (pc := 9) dX1_worth_9 rfl rfl ?_
  have k11_0 : ∀ (e3 : Int32) (m4 : mi_M), wo (f_X1_worth_K11 i0 (e3, m4)) Q0 → mi_X mX1_worth (3) 160 [(0, vr 1 i0), (5, vi e3)] [] m4 QX := by
    intro e3 m4 h
    unfold f_X1_worth_K11 at h
    try dsimp only at h
    refine x_iload (pc := 160) dX1_worth_160 rfl ?_
    have j175 : ∀ (u5 : Int32), wo (f_X1_worth_J175 m4 u5) Q0 → mi_X mX1_worth (3) 175 [] [vi u5] m4 QX := by
      intro u5 h
      unfold f_X1_worth_J175 at h
      exact x_iret (pc := 175) dX1_worth_175 rfl (by rw [hQX]; exact ⟨_, rfl, congrArg Prod.fst (hq0 _ (wo_some h)), congrArg Prod.snd (hq0 _ (wo_some h))⟩)
    refine x_if_le (pc := 162) dX1_worth_162 (tgt := 174) (by decide) (fun c7 => ?_) (fun c7 => ?_)
    · replace h := wo_pos c7 h
      refine x_iconst (pc := 174) dX1_worth_174 (v := (0 : Int32)) (by decide) ?_
      refine x_sub [] trivial ?_
      exact j175 _ h
    · replace h := wo_neg c7 h
      refine x_aload_n (pc := 165) dX1_worth_165 rfl ?_
      refine x_getS (pc := 166) dX1_worth_166 fX1_21 rfl hi0 ?_
      refine x_iconst (pc := 169) dX1_worth_169 (v := (0 : Int32)) (by decide) ?_
      obtain ⟨hx6, h⟩ := wo_g h
      refine x_ialdJ (pc := 170) dX1_worth_170 rfl rfl hi0 hx6 ?_
      refine x_goto (pc := 171) dX1_worth_171 (tgt := 175) (by decide) ?_
      refine x_sub [] trivial ?_
      exact j175 _ h
  refine x_sub [(0, _), (1, _), (2, _), (3, _), (4, _), (5, _), (6, _)] ⟨rfl, rfl, rfl, rfl, rfl, rfl, rfl, trivial⟩ ?_
  obtain ⟨ea, eb, h⟩ := wo_bo h
  refine wo_lq (X := fun s => match s with | (l8, l9, m10) => mi_X mX1_worth (3) 11 [(0, vr 1 i0), (1, vi p0), (2, vi p1), (3, vi p2), (4, vi p3), (5, vi l8), (6, vi l9)] [] m10 QX) (E := fun e => wo (f_X1_worth_K11 i0 e) Q0) ?_ _ ((0 : Int32), v2, mem) ⟨_, eb, h⟩
  intro Q11 hb11 he11 s h
  obtain ⟨l8, l9, m10⟩ := s
  show mi_X mX1_worth (3) 11 [(0, vr 1 i0), (1, vi p0), (2, vi p1), (3, vi p2), (4, vi p3), (5, vi l8), (6, vi l9)] [] m10 QX
  unfold f_X1_worth_B11 at h
  try dsimp only at h
  refine x_iload (pc := 11) dX1_worth_11 rfl ?_
  refine x_aload_n (pc := 13) dX1_worth_13 rfl ?_
  refine x_getS (pc := 14) dX1_worth_14 fX1_18 rfl hi0 ?_
  refine x_iload_n (pc := 17) dX1_worth_17 rfl ?_
  obtain ⟨hx11, h⟩ := wo_g h
  refine x_ialdJ (pc := 18) dX1_worth_18 rfl rfl hi0 hx11 ?_
  refine x_icmp_ge (pc := 19) dX1_worth_19 (tgt := 160) (by decide) (fun c35 => ?_) (fun c35 => ?_)
  · replace h := wo_pos c35 h
    refine x_sub [(0, _), (5, _)] ⟨rfl, rfl, trivial⟩ ?_
    exact k11_0 _ _ (he11 _ (wo_some h))
  · replace h := wo_neg c35 h
    refine x_aload_n (pc := 22) dX1_worth_22 rfl ?_
    refine x_getS (pc := 23) dX1_worth_23 fX1_11 rfl hi0 ?_
    refine x_iload (pc := 26) dX1_worth_26 rfl ?_
    obtain ⟨hx12, h⟩ := wo_g h
    refine x_ialdJ (pc := 28) dX1_worth_28 rfl rfl hi0 hx12 ?_
    refine x_leti h (fun v13 h => ?_)
    refine x_istore (ls' := [(7, _), (0, _), (1, _), (2, _), (3, _), (4, _), (5, _), (6, _)]) (pc := 29) dX1_worth_29 rfl rfl ?_
    refine x_iload (pc := 31) dX1_worth_31 rfl ?_
    refine x_bipush (pc := 33) dX1_worth_33 (v := (-3 : Int32)) (by decide) ?_
    have j154 : ∀ (u14 : Int32) (m15 : mi_M), wo (f_X1_worth_J154 l9 u14 m15) Q11 → mi_X mX1_worth (3) 154 [(0, vr 1 i0), (1, vi p0), (2, vi p1), (3, vi p2), (4, vi p3), (5, vi u14), (6, vi l9)] [] m15 QX := by
      intro u14 m15 h
      unfold f_X1_worth_J154 at h
      refine x_iinc (ls' := [(6, _), (0, _), (1, _), (2, _), (3, _), (4, _), (5, _)]) (pc := 154) dX1_worth_154 rfl (v := l9 + (1 : Int32)) rfl rfl rfl ?_
      refine x_goto (pc := 157) dX1_worth_157 (tgt := 11) (by decide) ?_
      refine x_sub [(0, _), (1, _), (2, _), (3, _), (4, _), (5, _), (6, _)] ⟨rfl, rfl, rfl, rfl, rfl, rfl, rfl, trivial⟩ ?_
      exact hb11 _ (wo_some h)
    refine x_icmp_lt (pc := 35) dX1_worth_35 (tgt := 70) (by decide) (fun c34 => ?_) (fun c34 => ?_)
    · replace h := wo_pos c34 h
      refine x_iload (pc := 70) dX1_worth_70 rfl ?_
      refine x_bipush (pc := 72) dX1_worth_72 (v := (-4 : Int32)) (by decide) ?_
      refine x_icmp_ne (pc := 74) dX1_worth_74 (tgt := 115) (by decide) (fun c29 => ?_) (fun c29 => ?_)
      · replace h := wo_neg c29 h
        refine x_iload (pc := 115) dX1_worth_115 rfl ?_
        refine x_iconst (pc := 117) dX1_worth_117 (v := (2 : Int32)) (by decide) ?_
        refine x_icmp_lt (pc := 118) dX1_worth_118 (tgt := 154) (by decide) (fun c21 => ?_) (fun c21 => ?_)
        · replace h := wo_pos c21 h
          refine x_sub [(0, _), (1, _), (2, _), (3, _), (4, _), (5, _), (6, _)] ⟨rfl, rfl, rfl, rfl, rfl, rfl, rfl, trivial⟩ ?_
          exact j154 _ _ h
        · replace h := wo_neg c21 h
          refine x_iinc (ls' := [(5, _), (7, _), (0, _), (1, _), (2, _), (3, _), (4, _), (6, _)]) (pc := 121) dX1_worth_121 rfl (v := l8 + (-1 : Int32)) rfl rfl rfl ?_
          refine x_aload_n (pc := 124) dX1_worth_124 rfl ?_
          refine x_getS (pc := 125) dX1_worth_125 fX1_21 rfl hi0 ?_
          refine x_iload (pc := 128) dX1_worth_128 rfl ?_
          refine x_iconst (pc := 130) dX1_worth_130 (v := (1 : Int32)) (by decide) ?_
          refine x_isub (pc := 131) dX1_worth_131 ?_
          refine x_iload (pc := 132) dX1_worth_132 rfl ?_
          refine x_aload_n (pc := 134) dX1_worth_134 rfl ?_
          refine x_getS (pc := 135) dX1_worth_135 fX1_21 rfl hi0 ?_
          refine x_iload (pc := 138) dX1_worth_138 rfl ?_
          refine x_iconst (pc := 140) dX1_worth_140 (v := (1 : Int32)) (by decide) ?_
          refine x_isub (pc := 141) dX1_worth_141 ?_
          obtain ⟨hx16, h⟩ := wo_g h
          refine x_ialdJ (pc := 142) dX1_worth_142 rfl rfl hi0 hx16 ?_
          refine x_aload_n (pc := 143) dX1_worth_143 rfl ?_
          refine x_getS (pc := 144) dX1_worth_144 fX1_21 rfl hi0 ?_
          refine x_iload (pc := 147) dX1_worth_147 rfl ?_
          obtain ⟨hx17, h⟩ := wo_g h
          refine x_ialdJ (pc := 149) dX1_worth_149 rfl rfl hi0 hx17 ?_
          refine z_Si3 (pc := 150) h dX1_worth_150 lX1_46 (by omega) rfl (fun a e => w_X1_joined _ _ _ _ a e) (fun v18 h => ?_)
          obtain ⟨hx19, h⟩ := wo_g h
          refine x_iastJ (pc := 153) dX1_worth_153 rfl rfl hi0 rfl hx19 ?_
          refine x_letm h (fun m20 h => ?_)
          refine x_sub [(0, _), (1, _), (2, _), (3, _), (4, _), (5, _), (6, _)] ⟨rfl, rfl, rfl, rfl, rfl, rfl, rfl, trivial⟩ ?_
          exact j154 _ _ h
      · replace h := wo_pos c29 h
        refine x_iload (pc := 77) dX1_worth_77 rfl ?_
        refine x_iconst (pc := 79) dX1_worth_79 (v := (1 : Int32)) (by decide) ?_
        refine x_icmp_lt (pc := 80) dX1_worth_80 (tgt := 154) (by decide) (fun c28 => ?_) (fun c28 => ?_)
        · replace h := wo_pos c28 h
          refine x_sub [(0, _), (1, _), (2, _), (3, _), (4, _), (5, _), (6, _)] ⟨rfl, rfl, rfl, rfl, rfl, rfl, rfl, trivial⟩ ?_
          exact j154 _ _ h
        · replace h := wo_neg c28 h
          refine x_aload_n (pc := 83) dX1_worth_83 rfl ?_
          refine x_getS (pc := 84) dX1_worth_84 fX1_21 rfl hi0 ?_
          refine x_iload (pc := 87) dX1_worth_87 rfl ?_
          refine x_iconst (pc := 89) dX1_worth_89 (v := (1 : Int32)) (by decide) ?_
          refine x_isub (pc := 90) dX1_worth_90 ?_
          refine x_aload_n (pc := 91) dX1_worth_91 rfl ?_
          refine x_getS (pc := 92) dX1_worth_92 fX1_21 rfl hi0 ?_
          refine x_iload (pc := 95) dX1_worth_95 rfl ?_
          refine x_iconst (pc := 97) dX1_worth_97 (v := (1 : Int32)) (by decide) ?_
          refine x_isub (pc := 98) dX1_worth_98 ?_
          obtain ⟨hx22, h⟩ := wo_g h
          refine x_ialdJ (pc := 99) dX1_worth_99 rfl rfl hi0 hx22 ?_
          have j108 : ∀ (u23 : Int32), wo (f_X1_worth_J108 i0 l8 l9 m10 u23) Q11 → mi_X mX1_worth (3) 108 [(0, vr 1 i0), (1, vi p0), (2, vi p1), (3, vi p2), (4, vi p3), (5, vi l8), (6, vi l9)] [vi u23, vi (l8 - (1 : Int32)), vr 19 i0] m10 QX := by
            intro u23 h
            unfold f_X1_worth_J108 at h
            refine z_Si1 (pc := 108) h dX1_worth_108 lX1_42 (by omega) rfl (fun a e => w_X1_truth _ _ a e) (fun v24 h => ?_)
            obtain ⟨hx25, h⟩ := wo_g h
            refine x_iastJ (pc := 111) dX1_worth_111 rfl rfl hi0 rfl hx25 ?_
            refine x_letm h (fun m26 h => ?_)
            refine x_goto (pc := 112) dX1_worth_112 (tgt := 154) (by decide) ?_
            refine x_sub [(0, _), (1, _), (2, _), (3, _), (4, _), (5, _), (6, _)] ⟨rfl, rfl, rfl, rfl, rfl, rfl, rfl, trivial⟩ ?_
            exact j154 _ _ h
          refine x_if_ne (pc := 100) dX1_worth_100 (tgt := 107) (by decide) (fun c27 => ?_) (fun c27 => ?_)
          · replace h := wo_neg c27 h
            refine x_iconst (pc := 107) dX1_worth_107 (v := (0 : Int32)) (by decide) ?_
            refine x_sub [(0, _), (1, _), (2, _), (3, _), (4, _), (5, _), (6, _)] ⟨rfl, rfl, rfl, rfl, rfl, rfl, rfl, trivial⟩ ?_
            exact j108 _ h
          · replace h := wo_pos c27 h
            refine x_iconst (pc := 103) dX1_worth_103 (v := (1 : Int32)) (by decide) ?_
            refine x_goto (pc := 104) dX1_worth_104 (tgt := 108) (by decide) ?_
            refine x_sub [(0, _), (1, _), (2, _), (3, _), (4, _), (5, _), (6, _)] ⟨rfl, rfl, rfl, rfl, rfl, rfl, rfl, trivial⟩ ?_
            exact j108 _ h
    · replace h := wo_neg c34 h
      refine x_iload (pc := 38) dX1_worth_38 rfl ?_
      refine x_aload_n (pc := 40) dX1_worth_40 rfl ?_
      refine x_getS (pc := 41) dX1_worth_41 fX1_21 rfl hi0 ?_
      refine x_alen (pc := 44) dX1_worth_44 rfl (by decide) rfl hi0 (v := (40 : Int32)) (by decide) ?_
      refine x_icmp_ge (pc := 45) dX1_worth_45 (tgt := 154) (by decide) (fun c33 => ?_) (fun c33 => ?_)
      · replace h := wo_pos c33 h
        refine x_sub [(0, _), (1, _), (2, _), (3, _), (4, _), (5, _), (6, _)] ⟨rfl, rfl, rfl, rfl, rfl, rfl, rfl, trivial⟩ ?_
        exact j154 _ _ h
      · replace h := wo_neg c33 h
        refine x_aload_n (pc := 48) dX1_worth_48 rfl ?_
        refine x_getS (pc := 49) dX1_worth_49 fX1_21 rfl hi0 ?_
        refine x_iload (pc := 52) dX1_worth_52 rfl ?_
        refine x_iload (pc := 54) dX1_worth_54 rfl ?_
        refine x_iload_n (pc := 56) dX1_worth_56 rfl ?_
        refine x_iload_n (pc := 57) dX1_worth_57 rfl ?_
        refine x_iload (pc := 58) dX1_worth_58 rfl ?_
        refine z_Si4 (pc := 60) h dX1_worth_60 lX1_38 (by omega) rfl (fun a e => w_X1_fact _ _ _ _ _ a e) (fun v30 h => ?_)
        obtain ⟨hx31, h⟩ := wo_g h
        refine x_iastJ (pc := 63) dX1_worth_63 rfl rfl hi0 rfl hx31 ?_
        refine x_letm h (fun m32 h => ?_)
        refine x_iinc (ls' := [(5, _), (7, _), (0, _), (1, _), (2, _), (3, _), (4, _), (6, _)]) (pc := 64) dX1_worth_64 rfl (v := l8 + (1 : Int32)) rfl rfl rfl ?_
        refine x_goto (pc := 67) dX1_worth_67 (tgt := 154) (by decide) ?_
        refine x_sub [(0, _), (1, _), (2, _), (3, _), (4, _), (5, _), (6, _)] ⟨rfl, rfl, rfl, rfl, rfl, rfl, rfl, trivial⟩ ?_
        exact j154 _ _ h
noncomputable def f_X8_burnsLonger_J48 (m3 : mi_M) (u7 : Int32) : Option (Int32 × mi_M) := some (u7, m3)
noncomputable def f_X8_burnsLonger (i0 : Nat) (p0 : Int32) (p1 : Int32) (p2 : Int32) (mem : mi_M) : Option (Int32 × mi_M) := mi_g (vp_in p0 8) (mi_b (f_X1_worth i0 (2 : Int32) (mem.1 43 i0 p0.toNatClampNeg) p1 p2 mem) fun v2 m3 => mi_bo (f_X11_clamp v2 (0 : Int32) (30 : Int32) m3) fun v4 => mi_g (vp_in p0 8) (mi_g (vp_in (m3.1 42 i0 p0.toNatClampNeg) 6) (if (m3.1 39 i0 (m3.1 42 i0 p0.toNatClampNeg).toNatClampNeg) = (3 : Int32) then f_X8_burnsLonger_J48 m3 ((2 : Int32) * v4) else f_X8_burnsLonger_J48 m3 v4)))
set_option maxRecDepth 100000 in
set_option maxHeartbeats 4000000 in
theorem w_X8_burnsLonger (i0 : Nat) (p0 : Int32) (p1 : Int32) (p2 : Int32) (hi0 : i0 < mi_n 8) (mem : mi_M) (a : Int32 × mi_M) (e : f_X8_burnsLonger i0 p0 p1 p2 mem = some a) : mi_Ci (4) mX8_burnsLonger [vr 8 i0, vi p0, vi p1, vi p2] mem (fun x m' => x = a.1 ∧ m' = a.2) := by
  unfold mi_Ci
  refine mi_C_intro (ls := [(0, vr 8 i0), (1, vi p0), (2, vi p1), (3, vi p2)]) (by decide) rfl rfl ?_
  obtain ⟨Q0, hq0, h⟩ : ∃ Q0 : (Int32 × mi_M) → Prop, (∀ b, Q0 b → b = a) ∧ wo (f_X8_burnsLonger i0 p0 p1 p2 mem) Q0 := ⟨fun b => b = a, fun _ h => h, wo_eq e⟩
  obtain ⟨QX, hQX⟩ : ∃ QX : Option mi_V → mi_M → Prop, QX = (fun r m' => ∃ x, r = some (vi x) ∧ x = a.1 ∧ m' = a.2) := ⟨_, rfl⟩
  rw [← hQX]
  unfold f_X8_burnsLonger at h
  refine x_aload_n (pc := 0) dX8_burnsLonger_0 rfl ?_
  refine x_getS (pc := 1) dX8_burnsLonger_1 fX8_34 rfl hi0 ?_
  refine x_iconst (pc := 4) dX8_burnsLonger_4 (v := (2 : Int32)) (by decide) ?_
  refine x_aload_n (pc := 5) dX8_burnsLonger_5 rfl ?_
  refine x_getS (pc := 6) dX8_burnsLonger_6 fX8_28 rfl hi0 ?_
  refine x_iload_n (pc := 9) dX8_burnsLonger_9 rfl ?_
  obtain ⟨hx1, h⟩ := wo_g h
  refine x_ialdJ (pc := 10) dX8_burnsLonger_10 rfl rfl hi0 hx1 ?_
  refine x_iload_n (pc := 11) dX8_burnsLonger_11 rfl ?_
  refine x_iload_n (pc := 12) dX8_burnsLonger_12 rfl ?_
  refine y_Vi4 (pc := 13) h dX8_burnsLonger_13 lX8_73 hi0 (by omega) rfl (fun a e => w_X1_worth _ _ _ _ _ hi0 _ a e) (fun v2 m3 h => ?_)
  refine x_iconst (pc := 16) dX8_burnsLonger_16 (v := (0 : Int32)) (by decide) ?_
  refine x_bipush (pc := 17) dX8_burnsLonger_17 (v := (30 : Int32)) (by decide) ?_
  refine z_Ni3 (pc := 19) h dX8_burnsLonger_19 nX8_77 (by omega) rfl (fun a e => w_X11_clamp _ _ _ _ a e) (fun v4 h => ?_)
  refine x_istore (ls' := [(4, _), (0, _), (1, _), (2, _), (3, _)]) (pc := 22) dX8_burnsLonger_22 rfl rfl ?_
  refine x_aload_n (pc := 24) dX8_burnsLonger_24 rfl ?_
  refine x_getS (pc := 25) dX8_burnsLonger_25 fX8_15 rfl hi0 ?_
  refine x_aload_n (pc := 28) dX8_burnsLonger_28 rfl ?_
  refine x_getS (pc := 29) dX8_burnsLonger_29 fX8_25 rfl hi0 ?_
  refine x_iload_n (pc := 32) dX8_burnsLonger_32 rfl ?_
  obtain ⟨hx5, h⟩ := wo_g h
  refine x_ialdJ (pc := 33) dX8_burnsLonger_33 rfl rfl hi0 hx5 ?_
  obtain ⟨hx6, h⟩ := wo_g h
  refine x_ialdJ (pc := 34) dX8_burnsLonger_34 rfl rfl hi0 hx6 ?_
  refine x_iconst (pc := 35) dX8_burnsLonger_35 (v := (3 : Int32)) (by decide) ?_
  have j48 : ∀ (u7 : Int32), wo (f_X8_burnsLonger_J48 m3 u7) Q0 → mi_X mX8_burnsLonger (4) 48 [] [vi u7] m3 QX := by
    intro u7 h
    unfold f_X8_burnsLonger_J48 at h
    exact x_iret (pc := 48) dX8_burnsLonger_48 rfl (by rw [hQX]; exact ⟨_, rfl, congrArg Prod.fst (hq0 _ (wo_some h)), congrArg Prod.snd (hq0 _ (wo_some h))⟩)
  refine x_icmp_ne (pc := 36) dX8_burnsLonger_36 (tgt := 46) (by decide) (fun c8 => ?_) (fun c8 => ?_)
  · replace h := wo_neg c8 h
    refine x_iload (pc := 46) dX8_burnsLonger_46 rfl ?_
    refine x_sub [] trivial ?_
    exact j48 _ h
  · replace h := wo_pos c8 h
    refine x_iconst (pc := 39) dX8_burnsLonger_39 (v := (2 : Int32)) (by decide) ?_
    refine x_iload (pc := 40) dX8_burnsLonger_40 rfl ?_
    refine x_imul (pc := 42) dX8_burnsLonger_42 ?_
    refine x_goto (pc := 43) dX8_burnsLonger_43 (tgt := 48) (by decide) ?_
    refine x_sub [] trivial ?_
    exact j48 _ h
noncomputable def f_X8_soreBehindRefusal_J20 (p1 : Int32) (u3 : Int32) : Option (Int32) := mi_let (if (p1 + u3) < (99 : Int32) then (p1 + u3) else (99 : Int32)) fun v4 => some v4
noncomputable def f_X8_soreBehindRefusal (i0 : Nat) (p0 : Int32) (p1 : Int32) (mem : mi_M) : Option (Int32) := mi_g (vp_in p0 8) (mi_g (vp_in (mem.1 42 i0 p0.toNatClampNeg) 6) (if (mem.1 39 i0 (mem.1 42 i0 p0.toNatClampNeg).toNatClampNeg) = (1 : Int32) then f_X8_soreBehindRefusal_J20 p1 (2 : Int32) else f_X8_soreBehindRefusal_J20 p1 (1 : Int32)))
set_option maxRecDepth 100000 in
set_option maxHeartbeats 4000000 in
theorem w_X8_soreBehindRefusal (i0 : Nat) (p0 : Int32) (p1 : Int32) (hi0 : i0 < mi_n 8) (mem : mi_M) (a : Int32) (e : f_X8_soreBehindRefusal i0 p0 p1 mem = some a) : mi_Ci (1) mX8_soreBehindRefusal [vr 8 i0, vi p0, vi p1] mem (fun x m' => x = a ∧ m' = mem) := by
  unfold mi_Ci
  refine mi_C_intro (ls := [(0, vr 8 i0), (1, vi p0), (2, vi p1)]) (by decide) rfl rfl ?_
  obtain ⟨Q0, hq0, h⟩ : ∃ Q0 : Int32 → Prop, (∀ b, Q0 b → b = a) ∧ wo (f_X8_soreBehindRefusal i0 p0 p1 mem) Q0 := ⟨fun b => b = a, fun _ h => h, wo_eq e⟩
  obtain ⟨QX, hQX⟩ : ∃ QX : Option mi_V → mi_M → Prop, QX = (fun r m' => ∃ x, r = some (vi x) ∧ x = a ∧ m' = mem) := ⟨_, rfl⟩
  rw [← hQX]
  unfold f_X8_soreBehindRefusal at h
  refine x_aload_n (pc := 0) dX8_soreBehindRefusal_0 rfl ?_
  refine x_getS (pc := 1) dX8_soreBehindRefusal_1 fX8_15 rfl hi0 ?_
  refine x_aload_n (pc := 4) dX8_soreBehindRefusal_4 rfl ?_
  refine x_getS (pc := 5) dX8_soreBehindRefusal_5 fX8_25 rfl hi0 ?_
  refine x_iload_n (pc := 8) dX8_soreBehindRefusal_8 rfl ?_
  obtain ⟨hx1, h⟩ := wo_g h
  refine x_ialdJ (pc := 9) dX8_soreBehindRefusal_9 rfl rfl hi0 hx1 ?_
  obtain ⟨hx2, h⟩ := wo_g h
  refine x_ialdJ (pc := 10) dX8_soreBehindRefusal_10 rfl rfl hi0 hx2 ?_
  refine x_iconst (pc := 11) dX8_soreBehindRefusal_11 (v := (1 : Int32)) (by decide) ?_
  have j20 : ∀ (u3 : Int32), wo (f_X8_soreBehindRefusal_J20 p1 u3) Q0 → mi_X mX8_soreBehindRefusal (1) 20 [(2, vi p1)] [vi u3] mem QX := by
    intro u3 h
    unfold f_X8_soreBehindRefusal_J20 at h
    refine x_istore_n (ls' := [(3, _), (2, _)]) (pc := 20) dX8_soreBehindRefusal_20 rfl rfl rfl ?_
    refine x_bipush (pc := 21) dX8_soreBehindRefusal_21 (v := (99 : Int32)) (by decide) ?_
    refine x_iload_n (pc := 23) dX8_soreBehindRefusal_23 rfl ?_
    refine x_iload_n (pc := 24) dX8_soreBehindRefusal_24 rfl ?_
    refine x_iadd (pc := 25) dX8_soreBehindRefusal_25 ?_
    refine x_mmin (pc := 26) dX8_soreBehindRefusal_26 lX8_87 (by omega) rfl ?_
    refine x_leti h (fun v4 h => ?_)
    exact x_iret (pc := 29) dX8_soreBehindRefusal_29 rfl (by rw [hQX]; exact ⟨_, rfl, hq0 _ (wo_some h), rfl⟩)
  refine x_icmp_ne (pc := 12) dX8_soreBehindRefusal_12 (tgt := 19) (by decide) (fun c5 => ?_) (fun c5 => ?_)
  · replace h := wo_neg c5 h
    refine x_iconst (pc := 19) dX8_soreBehindRefusal_19 (v := (1 : Int32)) (by decide) ?_
    refine x_sub [(2, _)] ⟨rfl, trivial⟩ ?_
    exact j20 _ h
  · replace h := wo_pos c5 h
    refine x_iconst (pc := 15) dX8_soreBehindRefusal_15 (v := (2 : Int32)) (by decide) ?_
    refine x_goto (pc := 16) dX8_soreBehindRefusal_16 (tgt := 20) (by decide) ?_
    refine x_sub [(2, _)] ⟨rfl, trivial⟩ ?_
    exact j20 _ h
noncomputable def f_X5_beg_J90 (m2 : mi_M) : Option (mi_M) := some m2
noncomputable def f_X5_beg (i0 : Nat) (p0 : Nat) (p1 : Int32) (p2 : Int32) (mem : mi_M) : Option (mi_M) := mi_bo (f_X5_isRipe i0 p0 p1 mem) fun v1 => if v1 = 0 then mi_g (vp_in p1 8) (mi_bo (f_X8_soreBehindRefusal p0 p1 (mem.1 34 i0 p1.toNatClampNeg) mem) fun v4 => mi_g (vp_in p1 8) (mi_let (mi_wI mem 34 i0 p1.toNatClampNeg v4) fun m6 => f_X5_beg_J90 m6)) else mi_g (vp_in p1 8) (mi_b (f_X8_burnsLonger p0 p1 (mem.1 34 i0 p1.toNatClampNeg) (mem.1 5 i0 0) mem) fun v8 m9 => mi_let (v8 + p2) fun v10 => mi_g (vp_in p1 8) (mi_let (m9.1 42 p0 p1.toNatClampNeg) fun v12 => mi_g (vp_in v12 6) (mi_let (if ((m9.1 35 i0 v12.toNatClampNeg) + v10) < (99 : Int32) then ((m9.1 35 i0 v12.toNatClampNeg) + v10) else (99 : Int32)) fun v14 => mi_g (vp_in v12 6) (mi_let (mi_wI m9 35 i0 v12.toNatClampNeg v14) fun m16 => mi_let (mi_wI m16 5 i0 2 ((m16.1 5 i0 2) ||| ((1 : Int32) <<< (p1 &&& 31)))) fun m17 => f_X5_beg_J90 m17))))
set_option maxRecDepth 100000 in
set_option maxHeartbeats 4000000 in
theorem w_X5_beg (i0 : Nat) (p0 : Nat) (p1 : Int32) (p2 : Int32) (hi0 : i0 < mi_n 5) (hp0 : p0 < mi_n 8) (mem : mi_M) (a : mi_M) (e : f_X5_beg i0 p0 p1 p2 mem = some a) : mi_Cv (5) mX5_beg [vr 5 i0, vr 8 p0, vi p1, vi p2] mem (fun m' => m' = a) := by
  unfold mi_Cv
  refine mi_C_intro (ls := [(0, vr 5 i0), (1, vr 8 p0), (2, vi p1), (3, vi p2)]) (by decide) rfl rfl ?_
  obtain ⟨Q0, hq0, h⟩ : ∃ Q0 : mi_M → Prop, (∀ b, Q0 b → b = a) ∧ wo (f_X5_beg i0 p0 p1 p2 mem) Q0 := ⟨fun b => b = a, fun _ h => h, wo_eq e⟩
  obtain ⟨QX, hQX⟩ : ∃ QX : Option mi_V → mi_M → Prop, QX = (fun r m' => r = none ∧ m' = a) := ⟨_, rfl⟩
  rw [← hQX]
  unfold f_X5_beg at h
  refine x_aload_n (pc := 0) dX5_beg_0 rfl ?_
  refine x_aload_n (pc := 1) dX5_beg_1 rfl ?_
  refine x_iload_n (pc := 2) dX5_beg_2 rfl ?_
  refine z_Vi2 (pc := 3) h dX5_beg_3 lX5_91 hi0 (by omega) rfl (fun a e => w_X5_isRipe _ _ _ hi0 hp0 _ a e) (fun v1 h => ?_)
  have j90 : ∀ (m2 : mi_M), wo (f_X5_beg_J90 m2) Q0 → mi_X mX5_beg (5) 90 [] [] m2 QX := by
    intro m2 h
    unfold f_X5_beg_J90 at h
    exact x_ret (pc := 90) dX5_beg_90 rfl (by rw [hQX]; exact ⟨rfl, hq0 _ (wo_some h)⟩)
  refine x_if_eq (pc := 6) dX5_beg_6 (tgt := 73) (by decide) (fun c18 => ?_) (fun c18 => ?_)
  · replace h := wo_pos c18 h
    refine x_aload_n (pc := 73) dX5_beg_73 rfl ?_
    refine x_getS (pc := 74) dX5_beg_74 fX5_9 rfl hi0 ?_
    refine x_iload_n (pc := 77) dX5_beg_77 rfl ?_
    refine x_aload_n (pc := 78) dX5_beg_78 rfl ?_
    refine x_iload_n (pc := 79) dX5_beg_79 rfl ?_
    refine x_aload_n (pc := 80) dX5_beg_80 rfl ?_
    refine x_getS (pc := 81) dX5_beg_81 fX5_9 rfl hi0 ?_
    refine x_iload_n (pc := 84) dX5_beg_84 rfl ?_
    obtain ⟨hx3, h⟩ := wo_g h
    refine x_ialdJ (pc := 85) dX5_beg_85 rfl rfl hi0 hx3 ?_
    refine z_Vi2 (pc := 86) h dX5_beg_86 lX5_101 hp0 (by omega) rfl (fun a e => w_X8_soreBehindRefusal _ _ _ hp0 _ a e) (fun v4 h => ?_)
    obtain ⟨hx5, h⟩ := wo_g h
    refine x_iastJ (pc := 89) dX5_beg_89 rfl rfl hi0 rfl hx5 ?_
    refine x_letm h (fun m6 h => ?_)
    refine x_sub [] trivial ?_
    exact j90 _ h
  · replace h := wo_neg c18 h
    refine x_aload_n (pc := 9) dX5_beg_9 rfl ?_
    refine x_iload_n (pc := 10) dX5_beg_10 rfl ?_
    refine x_aload_n (pc := 11) dX5_beg_11 rfl ?_
    refine x_getS (pc := 12) dX5_beg_12 fX5_9 rfl hi0 ?_
    refine x_iload_n (pc := 15) dX5_beg_15 rfl ?_
    obtain ⟨hx7, h⟩ := wo_g h
    refine x_ialdJ (pc := 16) dX5_beg_16 rfl rfl hi0 hx7 ?_
    refine x_aload_n (pc := 17) dX5_beg_17 rfl ?_
    refine x_getI (pc := 18) dX5_beg_18 fX5_21 rfl hi0 ?_
    refine y_Vi3 (pc := 21) h dX5_beg_21 lX5_95 hp0 (by omega) rfl (fun a e => w_X8_burnsLonger _ _ _ _ hp0 _ a e) (fun v8 m9 h => ?_)
    refine x_iload_n (pc := 24) dX5_beg_24 rfl ?_
    refine x_iadd (pc := 25) dX5_beg_25 ?_
    refine x_leti h (fun v10 h => ?_)
    refine x_istore (ls' := [(4, _), (0, _), (1, _), (2, _), (3, _)]) (pc := 26) dX5_beg_26 rfl rfl ?_
    refine x_aload_n (pc := 28) dX5_beg_28 rfl ?_
    refine x_getS (pc := 29) dX5_beg_29 fX5_74 rfl hp0 ?_
    refine x_iload_n (pc := 32) dX5_beg_32 rfl ?_
    obtain ⟨hx11, h⟩ := wo_g h
    refine x_ialdJ (pc := 33) dX5_beg_33 rfl rfl hp0 hx11 ?_
    refine x_leti h (fun v12 h => ?_)
    refine x_istore (ls' := [(5, _), (4, _), (0, _), (1, _), (2, _), (3, _)]) (pc := 34) dX5_beg_34 rfl rfl ?_
    refine x_aload_n (pc := 36) dX5_beg_36 rfl ?_
    refine x_getS (pc := 37) dX5_beg_37 fX5_15 rfl hi0 ?_
    refine x_iload (pc := 40) dX5_beg_40 rfl ?_
    refine x_bipush (pc := 42) dX5_beg_42 (v := (99 : Int32)) (by decide) ?_
    refine x_aload_n (pc := 44) dX5_beg_44 rfl ?_
    refine x_getS (pc := 45) dX5_beg_45 fX5_15 rfl hi0 ?_
    refine x_iload (pc := 48) dX5_beg_48 rfl ?_
    obtain ⟨hx13, h⟩ := wo_g h
    refine x_ialdJ (pc := 50) dX5_beg_50 rfl rfl hi0 hx13 ?_
    refine x_iload (pc := 51) dX5_beg_51 rfl ?_
    refine x_iadd (pc := 53) dX5_beg_53 ?_
    refine x_mmin (pc := 54) dX5_beg_54 lX5_98 (by omega) rfl ?_
    refine x_leti h (fun v14 h => ?_)
    obtain ⟨hx15, h⟩ := wo_g h
    refine x_iastJ (pc := 57) dX5_beg_57 rfl rfl hi0 rfl hx15 ?_
    refine x_letm h (fun m16 h => ?_)
    refine x_aload_n (pc := 58) dX5_beg_58 rfl ?_
    refine x_dup (pc := 59) dX5_beg_59 rfl ?_
    refine x_getI (pc := 60) dX5_beg_60 fX5_28 rfl hi0 ?_
    refine x_iconst (pc := 63) dX5_beg_63 (v := (1 : Int32)) (by decide) ?_
    refine x_iload_n (pc := 64) dX5_beg_64 rfl ?_
    refine x_ishl (pc := 65) dX5_beg_65 ?_
    refine x_ior (pc := 66) dX5_beg_66 ?_
    refine x_putI (pc := 67) dX5_beg_67 fX5_28 rfl hi0 rfl rfl ?_
    refine x_letm h (fun m17 h => ?_)
    refine x_goto (pc := 70) dX5_beg_70 (tgt := 90) (by decide) ?_
    refine x_sub [] trivial ?_
    exact j90 _ h
noncomputable def f_X5_burningBehind_J26 (l3 : Int32) (u5 : Int32) : Option ((Int32 × Int32) ⊕ (Int32)) := some (.inl (u5, (l3 + (1 : Int32))))
noncomputable def f_X5_burningBehind_B4 (i0 : Nat) (p0 : Int32) (mem : mi_M) : (Int32 × Int32) → Option ((Int32 × Int32) ⊕ (Int32)) := fun s => match s with | (l2, l3) => if (6 : Int32) ≤ l3 then some (.inr l2) else mi_g (vp_in l3 6) (if (mem.1 35 i0 l3.toNatClampNeg) ≤ p0 then f_X5_burningBehind_J26 l3 l2 else mi_let (l2 ||| ((1 : Int32) <<< (l3 &&& 31))) fun v6 => f_X5_burningBehind_J26 l3 v6)
noncomputable def f_X5_burningBehind_K4 : Int32 → Option (Int32) := fun e1 => some e1
noncomputable def f_X5_burningBehind (i0 : Nat) (p0 : Int32) (mem : mi_M) : Option (Int32) := mi_bo (mi_lp (f_X5_burningBehind_B4 i0 p0 mem) mi_fu ((0 : Int32), (0 : Int32))) (f_X5_burningBehind_K4)
set_option maxRecDepth 100000 in
set_option maxHeartbeats 4000000 in
theorem w_X5_burningBehind (i0 : Nat) (p0 : Int32) (hi0 : i0 < mi_n 5) (mem : mi_M) (a : Int32) (e : f_X5_burningBehind i0 p0 mem = some a) : mi_Ci (1) mX5_burningBehind [vr 5 i0, vi p0] mem (fun x m' => x = a ∧ m' = mem) := by
  unfold mi_Ci
  refine mi_C_intro (ls := [(0, vr 5 i0), (1, vi p0)]) (by decide) rfl rfl ?_
  obtain ⟨Q0, hq0, h⟩ : ∃ Q0 : Int32 → Prop, (∀ b, Q0 b → b = a) ∧ wo (f_X5_burningBehind i0 p0 mem) Q0 := ⟨fun b => b = a, fun _ h => h, wo_eq e⟩
  obtain ⟨QX, hQX⟩ : ∃ QX : Option mi_V → mi_M → Prop, QX = (fun r m' => ∃ x, r = some (vi x) ∧ x = a ∧ m' = mem) := ⟨_, rfl⟩
  rw [← hQX]
  unfold f_X5_burningBehind at h
  refine x_iconst (pc := 0) dX5_burningBehind_0 (v := (0 : Int32)) (by decide) ?_
  refine x_istore_n (ls' := [(2, _), (0, _), (1, _)]) (pc := 1) dX5_burningBehind_1 rfl rfl rfl ?_
  refine x_iconst (pc := 2) dX5_burningBehind_2 (v := (0 : Int32)) (by decide) ?_
  refine x_istore_n (ls' := [(3, _), (2, _), (0, _), (1, _)]) (pc := 3) dX5_burningBehind_3 rfl rfl rfl ?_
  have k4_0 : ∀ (e1 : Int32), wo (f_X5_burningBehind_K4 e1) Q0 → mi_X mX5_burningBehind (1) 32 [(2, vi e1)] [] mem QX := by
    intro e1 h
    unfold f_X5_burningBehind_K4 at h
    try dsimp only at h
    refine x_iload_n (pc := 32) dX5_burningBehind_32 rfl ?_
    exact x_iret (pc := 33) dX5_burningBehind_33 rfl (by rw [hQX]; exact ⟨_, rfl, hq0 _ (wo_some h), rfl⟩)
  refine x_sub [(0, _), (1, _), (2, _), (3, _)] ⟨rfl, rfl, rfl, rfl, trivial⟩ ?_
  obtain ⟨ea, eb, h⟩ := wo_bo h
  refine wo_lq (X := fun s => match s with | (l2, l3) => mi_X mX5_burningBehind (1) 4 [(0, vr 5 i0), (1, vi p0), (2, vi l2), (3, vi l3)] [] mem QX) (E := fun e => wo (f_X5_burningBehind_K4 e) Q0) ?_ _ ((0 : Int32), (0 : Int32)) ⟨_, eb, h⟩
  intro Q4 hb4 he4 s h
  obtain ⟨l2, l3⟩ := s
  show mi_X mX5_burningBehind (1) 4 [(0, vr 5 i0), (1, vi p0), (2, vi l2), (3, vi l3)] [] mem QX
  unfold f_X5_burningBehind_B4 at h
  try dsimp only at h
  refine x_iload_n (pc := 4) dX5_burningBehind_4 rfl ?_
  refine x_bipush (pc := 5) dX5_burningBehind_5 (v := (6 : Int32)) (by decide) ?_
  refine x_icmp_ge (pc := 7) dX5_burningBehind_7 (tgt := 32) (by decide) (fun c8 => ?_) (fun c8 => ?_)
  · replace h := wo_pos c8 h
    refine x_sub [(2, _)] ⟨rfl, trivial⟩ ?_
    exact k4_0 _ (he4 _ (wo_some h))
  · replace h := wo_neg c8 h
    refine x_aload_n (pc := 10) dX5_burningBehind_10 rfl ?_
    refine x_getS (pc := 11) dX5_burningBehind_11 fX5_15 rfl hi0 ?_
    refine x_iload_n (pc := 14) dX5_burningBehind_14 rfl ?_
    obtain ⟨hx4, h⟩ := wo_g h
    refine x_ialdJ (pc := 15) dX5_burningBehind_15 rfl rfl hi0 hx4 ?_
    refine x_iload_n (pc := 16) dX5_burningBehind_16 rfl ?_
    have j26 : ∀ (u5 : Int32), wo (f_X5_burningBehind_J26 l3 u5) Q4 → mi_X mX5_burningBehind (1) 26 [(0, vr 5 i0), (1, vi p0), (2, vi u5), (3, vi l3)] [] mem QX := by
      intro u5 h
      unfold f_X5_burningBehind_J26 at h
      refine x_iinc (ls' := [(3, _), (0, _), (1, _), (2, _)]) (pc := 26) dX5_burningBehind_26 rfl (v := l3 + (1 : Int32)) rfl rfl rfl ?_
      refine x_goto (pc := 29) dX5_burningBehind_29 (tgt := 4) (by decide) ?_
      refine x_sub [(0, _), (1, _), (2, _), (3, _)] ⟨rfl, rfl, rfl, rfl, trivial⟩ ?_
      exact hb4 _ (wo_some h)
    refine x_icmp_le (pc := 17) dX5_burningBehind_17 (tgt := 26) (by decide) (fun c7 => ?_) (fun c7 => ?_)
    · replace h := wo_pos c7 h
      refine x_sub [(0, _), (1, _), (2, _), (3, _)] ⟨rfl, rfl, rfl, rfl, trivial⟩ ?_
      exact j26 _ h
    · replace h := wo_neg c7 h
      refine x_iload_n (pc := 20) dX5_burningBehind_20 rfl ?_
      refine x_iconst (pc := 21) dX5_burningBehind_21 (v := (1 : Int32)) (by decide) ?_
      refine x_iload_n (pc := 22) dX5_burningBehind_22 rfl ?_
      refine x_ishl (pc := 23) dX5_burningBehind_23 ?_
      refine x_ior (pc := 24) dX5_burningBehind_24 ?_
      refine x_leti h (fun v6 h => ?_)
      refine x_istore_n (ls' := [(2, _), (0, _), (1, _), (3, _)]) (pc := 25) dX5_burningBehind_25 rfl rfl rfl ?_
      refine x_sub [(0, _), (1, _), (2, _), (3, _)] ⟨rfl, rfl, rfl, rfl, trivial⟩ ?_
      exact j26 _ h
noncomputable def f_X8_soreBehindNight (i0 : Nat) (p0 : Int32) (p1 : Int32) (p2 : Int32) (mem : mi_M) : Option (Int32 × mi_M) := mi_g (vp_in p0 8) (mi_b (f_X1_worth i0 (1 : Int32) (mem.1 43 i0 p0.toNatClampNeg) p1 p2 mem) fun v2 m3 => mi_bo (f_X11_clamp v2 (-9 : Int32) (9 : Int32) m3) fun v4 => mi_bo (f_X11_clamp (p1 - v4) (0 : Int32) (99 : Int32) m3) fun v5 => some (v5, m3))
set_option maxRecDepth 100000 in
set_option maxHeartbeats 4000000 in
theorem w_X8_soreBehindNight (i0 : Nat) (p0 : Int32) (p1 : Int32) (p2 : Int32) (hi0 : i0 < mi_n 8) (mem : mi_M) (a : Int32 × mi_M) (e : f_X8_soreBehindNight i0 p0 p1 p2 mem = some a) : mi_Ci (4) mX8_soreBehindNight [vr 8 i0, vi p0, vi p1, vi p2] mem (fun x m' => x = a.1 ∧ m' = a.2) := by
  unfold mi_Ci
  refine mi_C_intro (ls := [(0, vr 8 i0), (1, vi p0), (2, vi p1), (3, vi p2)]) (by decide) rfl rfl ?_
  obtain ⟨Q0, hq0, h⟩ : ∃ Q0 : (Int32 × mi_M) → Prop, (∀ b, Q0 b → b = a) ∧ wo (f_X8_soreBehindNight i0 p0 p1 p2 mem) Q0 := ⟨fun b => b = a, fun _ h => h, wo_eq e⟩
  obtain ⟨QX, hQX⟩ : ∃ QX : Option mi_V → mi_M → Prop, QX = (fun r m' => ∃ x, r = some (vi x) ∧ x = a.1 ∧ m' = a.2) := ⟨_, rfl⟩
  rw [← hQX]
  unfold f_X8_soreBehindNight at h
  refine x_aload_n (pc := 0) dX8_soreBehindNight_0 rfl ?_
  refine x_getS (pc := 1) dX8_soreBehindNight_1 fX8_34 rfl hi0 ?_
  refine x_iconst (pc := 4) dX8_soreBehindNight_4 (v := (1 : Int32)) (by decide) ?_
  refine x_aload_n (pc := 5) dX8_soreBehindNight_5 rfl ?_
  refine x_getS (pc := 6) dX8_soreBehindNight_6 fX8_28 rfl hi0 ?_
  refine x_iload_n (pc := 9) dX8_soreBehindNight_9 rfl ?_
  obtain ⟨hx1, h⟩ := wo_g h
  refine x_ialdJ (pc := 10) dX8_soreBehindNight_10 rfl rfl hi0 hx1 ?_
  refine x_iload_n (pc := 11) dX8_soreBehindNight_11 rfl ?_
  refine x_iload_n (pc := 12) dX8_soreBehindNight_12 rfl ?_
  refine y_Vi4 (pc := 13) h dX8_soreBehindNight_13 lX8_73 hi0 (by omega) rfl (fun a e => w_X1_worth _ _ _ _ _ hi0 _ a e) (fun v2 m3 h => ?_)
  refine x_bipush (pc := 16) dX8_soreBehindNight_16 (v := (-9 : Int32)) (by decide) ?_
  refine x_bipush (pc := 18) dX8_soreBehindNight_18 (v := (9 : Int32)) (by decide) ?_
  refine z_Ni3 (pc := 20) h dX8_soreBehindNight_20 nX8_77 (by omega) rfl (fun a e => w_X11_clamp _ _ _ _ a e) (fun v4 h => ?_)
  refine x_istore (ls' := [(4, _), (0, _), (1, _), (2, _), (3, _)]) (pc := 23) dX8_soreBehindNight_23 rfl rfl ?_
  refine x_iload_n (pc := 25) dX8_soreBehindNight_25 rfl ?_
  refine x_iload (pc := 26) dX8_soreBehindNight_26 rfl ?_
  refine x_isub (pc := 28) dX8_soreBehindNight_28 ?_
  refine x_iconst (pc := 29) dX8_soreBehindNight_29 (v := (0 : Int32)) (by decide) ?_
  refine x_bipush (pc := 30) dX8_soreBehindNight_30 (v := (99 : Int32)) (by decide) ?_
  refine z_Ni3 (pc := 32) h dX8_soreBehindNight_32 nX8_77 (by omega) rfl (fun a e => w_X11_clamp _ _ _ _ a e) (fun v5 h => ?_)
  exact x_iret (pc := 35) dX8_soreBehindNight_35 rfl (by rw [hQX]; exact ⟨_, rfl, congrArg Prod.fst (hq0 _ (wo_some h)), congrArg Prod.snd (hq0 _ (wo_some h))⟩)
noncomputable def f_X9_laneCost_J53 (u5 : Int32) : Option (Int32) := some u5
noncomputable def f_X9_laneCost_J35 (v3 : Int32) (u4 : Int32) : Option (Int32) := if u4 = 0 then f_X9_laneCost_J53 (v3 * (1025 : Int32)) else f_X9_laneCost_J53 v3
noncomputable def f_X9_laneCost (i0 : Nat) (p0 : Int32) (p1 : Int32) (p2 : Int32) (mem : mi_M) : Option (Int32) := mi_g (vp_in p1 6) (mi_g (vp_in p2 6) (mi_let (mem.1 76 (6 * i0 + 0 + p1.toNatClampNeg) p2.toNatClampNeg) fun v3 => if v3 = 0 then some (1048576 : Int32) else if (p0 &&& (((1 : Int32) <<< (p1 &&& 31)) ||| ((1 : Int32) <<< (p2 &&& 31)))) = 0 then f_X9_laneCost_J35 v3 (0 : Int32) else f_X9_laneCost_J35 v3 (1 : Int32)))
set_option maxRecDepth 100000 in
set_option maxHeartbeats 4000000 in
theorem w_X9_laneCost (i0 : Nat) (p0 : Int32) (p1 : Int32) (p2 : Int32) (hi0 : i0 < mi_n 9) (mem : mi_M) (a : Int32) (e : f_X9_laneCost i0 p0 p1 p2 mem = some a) : mi_Ci (1) mX9_laneCost [vr 9 i0, vi p0, vi p1, vi p2] mem (fun x m' => x = a ∧ m' = mem) := by
  unfold mi_Ci
  refine mi_C_intro (ls := [(0, vr 9 i0), (1, vi p0), (2, vi p1), (3, vi p2)]) (by decide) rfl rfl ?_
  obtain ⟨Q0, hq0, h⟩ : ∃ Q0 : Int32 → Prop, (∀ b, Q0 b → b = a) ∧ wo (f_X9_laneCost i0 p0 p1 p2 mem) Q0 := ⟨fun b => b = a, fun _ h => h, wo_eq e⟩
  obtain ⟨QX, hQX⟩ : ∃ QX : Option mi_V → mi_M → Prop, QX = (fun r m' => ∃ x, r = some (vi x) ∧ x = a ∧ m' = mem) := ⟨_, rfl⟩
  rw [← hQX]
  unfold f_X9_laneCost at h
  refine x_aload_n (pc := 0) dX9_laneCost_0 rfl ?_
  refine x_getS (pc := 1) dX9_laneCost_1 fX9_11 rfl hi0 ?_
  refine x_iload_n (pc := 4) dX9_laneCost_4 rfl ?_
  obtain ⟨hx1, h⟩ := wo_g h
  refine x_aaldRowJ (pc := 5) dX9_laneCost_5 rfl rfl hi0 rfl hx1 ?_
  refine x_iload_n (pc := 6) dX9_laneCost_6 rfl ?_
  obtain ⟨hx2, h⟩ := wo_g h
  refine x_ialdJ (pc := 7) dX9_laneCost_7 rfl rfl (by have h1 := (mi_vin hx1).1; have h2 : (i0 : Nat) < 2 := hi0; show _ < (12 : Nat); omega) hx2 ?_
  refine x_leti h (fun v3 h => ?_)
  refine x_istore (ls' := [(4, _), (0, _), (1, _), (2, _), (3, _)]) (pc := 8) dX9_laneCost_8 rfl rfl ?_
  refine x_iload (pc := 10) dX9_laneCost_10 rfl ?_
  refine x_if_ne (pc := 12) dX9_laneCost_12 (tgt := 18) (by decide) (fun c8 => ?_) (fun c8 => ?_)
  · replace h := wo_neg c8 h
    refine x_iload_n (pc := 18) dX9_laneCost_18 rfl ?_
    refine x_iconst (pc := 19) dX9_laneCost_19 (v := (1 : Int32)) (by decide) ?_
    refine x_iload_n (pc := 20) dX9_laneCost_20 rfl ?_
    refine x_ishl (pc := 21) dX9_laneCost_21 ?_
    refine x_iconst (pc := 22) dX9_laneCost_22 (v := (1 : Int32)) (by decide) ?_
    refine x_iload_n (pc := 23) dX9_laneCost_23 rfl ?_
    refine x_ishl (pc := 24) dX9_laneCost_24 ?_
    refine x_ior (pc := 25) dX9_laneCost_25 ?_
    refine x_iand (pc := 26) dX9_laneCost_26 ?_
    have j35 : ∀ (u4 : Int32), wo (f_X9_laneCost_J35 v3 u4) Q0 → mi_X mX9_laneCost (1) 35 [(4, vi v3)] [vi u4] mem QX := by
      intro u4 h
      unfold f_X9_laneCost_J35 at h
      refine x_istore (ls' := [(5, _), (4, _)]) (pc := 35) dX9_laneCost_35 rfl rfl ?_
      refine x_iload (pc := 37) dX9_laneCost_37 rfl ?_
      have j53 : ∀ (u5 : Int32), wo (f_X9_laneCost_J53 u5) Q0 → mi_X mX9_laneCost (1) 53 [] [vi u5] mem QX := by
        intro u5 h
        unfold f_X9_laneCost_J53 at h
        exact x_iret (pc := 53) dX9_laneCost_53 rfl (by rw [hQX]; exact ⟨_, rfl, hq0 _ (wo_some h), rfl⟩)
      refine x_if_eq (pc := 39) dX9_laneCost_39 (tgt := 47) (by decide) (fun c6 => ?_) (fun c6 => ?_)
      · replace h := wo_pos c6 h
        refine x_iload (pc := 47) dX9_laneCost_47 rfl ?_
        refine x_sipush (pc := 49) dX9_laneCost_49 (v := (1025 : Int32)) (by decide) ?_
        refine x_imul (pc := 52) dX9_laneCost_52 ?_
        refine x_sub [] trivial ?_
        exact j53 _ h
      · replace h := wo_neg c6 h
        refine x_iload (pc := 42) dX9_laneCost_42 rfl ?_
        refine x_goto (pc := 44) dX9_laneCost_44 (tgt := 53) (by decide) ?_
        refine x_sub [] trivial ?_
        exact j53 _ h
    refine x_if_eq (pc := 27) dX9_laneCost_27 (tgt := 34) (by decide) (fun c7 => ?_) (fun c7 => ?_)
    · replace h := wo_pos c7 h
      refine x_iconst (pc := 34) dX9_laneCost_34 (v := (0 : Int32)) (by decide) ?_
      refine x_sub [(4, _)] ⟨rfl, trivial⟩ ?_
      exact j35 _ h
    · replace h := wo_neg c7 h
      refine x_iconst (pc := 30) dX9_laneCost_30 (v := (1 : Int32)) (by decide) ?_
      refine x_goto (pc := 31) dX9_laneCost_31 (tgt := 35) (by decide) ?_
      refine x_sub [(4, _)] ⟨rfl, trivial⟩ ?_
      exact j35 _ h
  · replace h := wo_pos c8 h
    refine x_ldc (pc := 15) dX9_laneCost_15 kX9_41 ?_
    exact x_iret (pc := 17) dX9_laneCost_17 rfl (by rw [hQX]; exact ⟨_, rfl, hq0 _ (wo_some h), rfl⟩)
noncomputable def f_X9_measure_B104 (i0 : Nat) (v1 : Int32) (l4 : Int32) (l7 : Int32) (v10 : Int32) : (Int32 × mi_M) → Option ((Int32 × mi_M) ⊕ (mi_M)) := fun s => match s with | (l12, m13) => if (6 : Int32) ≤ l12 then some (.inr m13) else mi_let ((v1 + (l7 * (6 : Int32))) + l12) fun v14 => mi_g (vp_in v14 2304) (mi_g (vp_in ((v1 + (l4 * (6 : Int32))) + l12) 2304) (mi_let (if (v10 + (m13.1 47 i0 ((v1 + (l4 * (6 : Int32))) + l12).toNatClampNeg)) < (m13.1 47 i0 v14.toNatClampNeg) then (v10 + (m13.1 47 i0 ((v1 + (l4 * (6 : Int32))) + l12).toNatClampNeg)) else (m13.1 47 i0 v14.toNatClampNeg)) fun v17 => mi_g (vp_in v14 2304) (mi_let (mi_wI m13 47 i0 v14.toNatClampNeg v17) fun m19 => some (.inl ((l12 + (1 : Int32)), m19)))))
noncomputable def f_X9_measure_K104 (l7 : Int32) : mi_M → Option ((Int32 × mi_M) ⊕ (mi_M)) := fun m11 => some (.inl ((l7 + (1 : Int32)), m11))
noncomputable def f_X9_measure_B78 (i0 : Nat) (v1 : Int32) (l4 : Int32) : (Int32 × mi_M) → Option ((Int32 × mi_M) ⊕ (mi_M)) := fun s => match s with | (l7, m8) => if (6 : Int32) ≤ l7 then some (.inr m8) else mi_g (vp_in ((v1 + (l7 * (6 : Int32))) + l4) 2304) (mi_let (m8.1 47 i0 ((v1 + (l7 * (6 : Int32))) + l4).toNatClampNeg) fun v10 => mi_bo (mi_lp (f_X9_measure_B104 i0 v1 l4 l7 v10) mi_fu ((0 : Int32), m8)) (f_X9_measure_K104 l7))
noncomputable def f_X9_measure_K78 (l4 : Int32) : mi_M → Option ((Int32 × mi_M) ⊕ (mi_M)) := fun m6 => some (.inl ((l4 + (1 : Int32)), m6))
noncomputable def f_X9_measure_B69 (i0 : Nat) (v1 : Int32) : (Int32 × mi_M) → Option ((Int32 × mi_M) ⊕ (mi_M)) := fun s => match s with | (l4, m5) => if (6 : Int32) ≤ l4 then some (.inr m5) else mi_bo (mi_lp (f_X9_measure_B78 i0 v1 l4) mi_fu ((0 : Int32), m5)) (f_X9_measure_K78 l4)
noncomputable def f_X9_measure_K69 : mi_M → Option (mi_M) := fun m3 => some m3
noncomputable def f_X9_measure_J54 (i0 : Nat) (v1 : Int32) (l23 : Int32) (l26 : Int32) (m27 : mi_M) (u28 : Int32) : Option ((Int32 × mi_M) ⊕ (mi_M)) := mi_g (vp_in ((v1 + (l23 * (6 : Int32))) + l26) 2304) (mi_let (mi_wI m27 47 i0 ((v1 + (l23 * (6 : Int32))) + l26).toNatClampNeg u28) fun m30 => some (.inl ((l26 + (1 : Int32)), m30)))
noncomputable def f_X9_measure_B16 (i0 : Nat) (p0 : Int32) (v1 : Int32) (l23 : Int32) : (Int32 × mi_M) → Option ((Int32 × mi_M) ⊕ (mi_M)) := fun s => match s with | (l26, m27) => if (6 : Int32) ≤ l26 then some (.inr m27) else if l23 = l26 then f_X9_measure_J54 i0 v1 l23 l26 m27 (0 : Int32) else mi_bo (f_X9_laneCost i0 p0 l23 l26 m27) fun v31 => f_X9_measure_J54 i0 v1 l23 l26 m27 v31
noncomputable def f_X9_measure_K16 (l23 : Int32) : mi_M → Option ((Int32 × mi_M) ⊕ (mi_M)) := fun m25 => some (.inl ((l23 + (1 : Int32)), m25))
noncomputable def f_X9_measure_B7 (i0 : Nat) (p0 : Int32) (v1 : Int32) : (Int32 × mi_M) → Option ((Int32 × mi_M) ⊕ (mi_M)) := fun s => match s with | (l23, m24) => if (6 : Int32) ≤ l23 then some (.inr m24) else mi_bo (mi_lp (f_X9_measure_B16 i0 p0 v1 l23) mi_fu ((0 : Int32), m24)) (f_X9_measure_K16 l23)
noncomputable def f_X9_measure_K7 (i0 : Nat) (v1 : Int32) : mi_M → Option (mi_M) := fun m2 => mi_bo (mi_lp (f_X9_measure_B69 i0 v1) mi_fu ((0 : Int32), m2)) (f_X9_measure_K69)
noncomputable def f_X9_measure (i0 : Nat) (p0 : Int32) (mem : mi_M) : Option (mi_M) := mi_let (p0 * (36 : Int32)) fun v1 => mi_bo (mi_lp (f_X9_measure_B7 i0 p0 v1) mi_fu ((0 : Int32), mem)) (f_X9_measure_K7 i0 v1)
set_option maxRecDepth 100000 in
set_option maxHeartbeats 4000000 in
theorem w_X9_measure (i0 : Nat) (p0 : Int32) (hi0 : i0 < mi_n 9) (mem : mi_M) (a : mi_M) (e : f_X9_measure i0 p0 mem = some a) : mi_Cv (2) mX9_measure [vr 9 i0, vi p0] mem (fun m' => m' = a) := by
  unfold mi_Cv
  refine mi_C_intro (ls := [(0, vr 9 i0), (1, vi p0)]) (by decide) rfl rfl ?_
  obtain ⟨Q0, hq0, h⟩ : ∃ Q0 : mi_M → Prop, (∀ b, Q0 b → b = a) ∧ wo (f_X9_measure i0 p0 mem) Q0 := ⟨fun b => b = a, fun _ h => h, wo_eq e⟩
  obtain ⟨QX, hQX⟩ : ∃ QX : Option mi_V → mi_M → Prop, QX = (fun r m' => r = none ∧ m' = a) := ⟨_, rfl⟩
  rw [← hQX]
  unfold f_X9_measure at h
  refine x_iload_n (pc := 0) dX9_measure_0 rfl ?_
  refine x_bipush (pc := 1) dX9_measure_1 (v := (36 : Int32)) (by decide) ?_
  refine x_imul (pc := 3) dX9_measure_3 ?_
  refine x_leti h (fun v1 h => ?_)
  refine x_istore_n (ls' := [(2, _), (0, _), (1, _)]) (pc := 4) dX9_measure_4 rfl rfl rfl ?_
  refine x_iconst (pc := 5) dX9_measure_5 (v := (0 : Int32)) (by decide) ?_
  refine x_istore_n (ls' := [(3, _), (2, _), (0, _), (1, _)]) (pc := 6) dX9_measure_6 rfl rfl rfl ?_
  have k7_0 : ∀ (m2 : mi_M), wo (f_X9_measure_K7 i0 v1 m2) Q0 → mi_X mX9_measure (2) 67 [(0, vr 9 i0), (2, vi v1)] [] m2 QX := by
    intro m2 h
    unfold f_X9_measure_K7 at h
    try dsimp only at h
    refine x_iconst (pc := 67) dX9_measure_67 (v := (0 : Int32)) (by decide) ?_
    refine x_istore_n (ls' := [(3, _), (0, _), (2, _)]) (pc := 68) dX9_measure_68 rfl rfl rfl ?_
    have k69_0 : ∀ (m3 : mi_M), wo (f_X9_measure_K69 m3) Q0 → mi_X mX9_measure (2) 175 [] [] m3 QX := by
      intro m3 h
      unfold f_X9_measure_K69 at h
      try dsimp only at h
      exact x_ret (pc := 175) dX9_measure_175 rfl (by rw [hQX]; exact ⟨rfl, hq0 _ (wo_some h)⟩)
    refine x_sub [(0, _), (2, _), (3, _)] ⟨rfl, rfl, rfl, trivial⟩ ?_
    obtain ⟨ea, eb, h⟩ := wo_bo h
    refine wo_lq (X := fun s => match s with | (l4, m5) => mi_X mX9_measure (2) 69 [(0, vr 9 i0), (2, vi v1), (3, vi l4)] [] m5 QX) (E := fun e => wo (f_X9_measure_K69 e) Q0) ?_ _ ((0 : Int32), m2) ⟨_, eb, h⟩
    intro Q69 hb69 he69 s h
    obtain ⟨l4, m5⟩ := s
    show mi_X mX9_measure (2) 69 [(0, vr 9 i0), (2, vi v1), (3, vi l4)] [] m5 QX
    unfold f_X9_measure_B69 at h
    try dsimp only at h
    refine x_iload_n (pc := 69) dX9_measure_69 rfl ?_
    refine x_bipush (pc := 70) dX9_measure_70 (v := (6 : Int32)) (by decide) ?_
    refine x_icmp_ge (pc := 72) dX9_measure_72 (tgt := 175) (by decide) (fun c22 => ?_) (fun c22 => ?_)
    · replace h := wo_pos c22 h
      refine x_sub [] trivial ?_
      exact k69_0 _ (he69 _ (wo_some h))
    · replace h := wo_neg c22 h
      refine x_iconst (pc := 75) dX9_measure_75 (v := (0 : Int32)) (by decide) ?_
      refine x_istore (ls' := [(4, _), (0, _), (2, _), (3, _)]) (pc := 76) dX9_measure_76 rfl rfl ?_
      have k78_0 : ∀ (m6 : mi_M), wo (f_X9_measure_K78 l4 m6) Q69 → mi_X mX9_measure (2) 169 [(0, vr 9 i0), (2, vi v1), (3, vi l4)] [] m6 QX := by
        intro m6 h
        unfold f_X9_measure_K78 at h
        try dsimp only at h
        refine x_iinc (ls' := [(3, _), (0, _), (2, _)]) (pc := 169) dX9_measure_169 rfl (v := l4 + (1 : Int32)) rfl rfl rfl ?_
        refine x_goto (pc := 172) dX9_measure_172 (tgt := 69) (by decide) ?_
        refine x_sub [(0, _), (2, _), (3, _)] ⟨rfl, rfl, rfl, trivial⟩ ?_
        exact hb69 _ (wo_some h)
      refine x_sub [(0, _), (2, _), (3, _), (4, _)] ⟨rfl, rfl, rfl, rfl, trivial⟩ ?_
      obtain ⟨ea, eb, h⟩ := wo_bo h
      refine wo_lq (X := fun s => match s with | (l7, m8) => mi_X mX9_measure (2) 78 [(0, vr 9 i0), (2, vi v1), (3, vi l4), (4, vi l7)] [] m8 QX) (E := fun e => wo (f_X9_measure_K78 l4 e) Q69) ?_ _ ((0 : Int32), m5) ⟨_, eb, h⟩
      intro Q78 hb78 he78 s h
      obtain ⟨l7, m8⟩ := s
      show mi_X mX9_measure (2) 78 [(0, vr 9 i0), (2, vi v1), (3, vi l4), (4, vi l7)] [] m8 QX
      unfold f_X9_measure_B78 at h
      try dsimp only at h
      refine x_iload (pc := 78) dX9_measure_78 rfl ?_
      refine x_bipush (pc := 80) dX9_measure_80 (v := (6 : Int32)) (by decide) ?_
      refine x_icmp_ge (pc := 82) dX9_measure_82 (tgt := 169) (by decide) (fun c21 => ?_) (fun c21 => ?_)
      · replace h := wo_pos c21 h
        refine x_sub [(0, _), (2, _), (3, _)] ⟨rfl, rfl, rfl, trivial⟩ ?_
        exact k78_0 _ (he78 _ (wo_some h))
      · replace h := wo_neg c21 h
        refine x_aload_n (pc := 85) dX9_measure_85 rfl ?_
        refine x_getS (pc := 86) dX9_measure_86 fX9_23 rfl hi0 ?_
        refine x_iload_n (pc := 89) dX9_measure_89 rfl ?_
        refine x_iload (pc := 90) dX9_measure_90 rfl ?_
        refine x_bipush (pc := 92) dX9_measure_92 (v := (6 : Int32)) (by decide) ?_
        refine x_imul (pc := 94) dX9_measure_94 ?_
        refine x_iadd (pc := 95) dX9_measure_95 ?_
        refine x_iload_n (pc := 96) dX9_measure_96 rfl ?_
        refine x_iadd (pc := 97) dX9_measure_97 ?_
        obtain ⟨hx9, h⟩ := wo_g h
        refine x_ialdJ (pc := 98) dX9_measure_98 rfl rfl hi0 hx9 ?_
        refine x_leti h (fun v10 h => ?_)
        refine x_istore (ls' := [(5, _), (0, _), (2, _), (3, _), (4, _)]) (pc := 99) dX9_measure_99 rfl rfl ?_
        refine x_iconst (pc := 101) dX9_measure_101 (v := (0 : Int32)) (by decide) ?_
        refine x_istore (ls' := [(6, _), (5, _), (0, _), (2, _), (3, _), (4, _)]) (pc := 102) dX9_measure_102 rfl rfl ?_
        have k104_0 : ∀ (m11 : mi_M), wo (f_X9_measure_K104 l7 m11) Q78 → mi_X mX9_measure (2) 163 [(0, vr 9 i0), (2, vi v1), (3, vi l4), (4, vi l7)] [] m11 QX := by
          intro m11 h
          unfold f_X9_measure_K104 at h
          try dsimp only at h
          refine x_iinc (ls' := [(4, _), (0, _), (2, _), (3, _)]) (pc := 163) dX9_measure_163 rfl (v := l7 + (1 : Int32)) rfl rfl rfl ?_
          refine x_goto (pc := 166) dX9_measure_166 (tgt := 78) (by decide) ?_
          refine x_sub [(0, _), (2, _), (3, _), (4, _)] ⟨rfl, rfl, rfl, rfl, trivial⟩ ?_
          exact hb78 _ (wo_some h)
        refine x_sub [(0, _), (2, _), (3, _), (4, _), (5, _), (6, _)] ⟨rfl, rfl, rfl, rfl, rfl, rfl, trivial⟩ ?_
        obtain ⟨ea, eb, h⟩ := wo_bo h
        refine wo_lq (X := fun s => match s with | (l12, m13) => mi_X mX9_measure (2) 104 [(0, vr 9 i0), (2, vi v1), (3, vi l4), (4, vi l7), (5, vi v10), (6, vi l12)] [] m13 QX) (E := fun e => wo (f_X9_measure_K104 l7 e) Q78) ?_ _ ((0 : Int32), m8) ⟨_, eb, h⟩
        intro Q104 hb104 he104 s h
        obtain ⟨l12, m13⟩ := s
        show mi_X mX9_measure (2) 104 [(0, vr 9 i0), (2, vi v1), (3, vi l4), (4, vi l7), (5, vi v10), (6, vi l12)] [] m13 QX
        unfold f_X9_measure_B104 at h
        try dsimp only at h
        refine x_iload (pc := 104) dX9_measure_104 rfl ?_
        refine x_bipush (pc := 106) dX9_measure_106 (v := (6 : Int32)) (by decide) ?_
        refine x_icmp_ge (pc := 108) dX9_measure_108 (tgt := 163) (by decide) (fun c20 => ?_) (fun c20 => ?_)
        · replace h := wo_pos c20 h
          refine x_sub [(0, _), (2, _), (3, _), (4, _)] ⟨rfl, rfl, rfl, rfl, trivial⟩ ?_
          exact k104_0 _ (he104 _ (wo_some h))
        · replace h := wo_neg c20 h
          refine x_iload_n (pc := 111) dX9_measure_111 rfl ?_
          refine x_iload (pc := 112) dX9_measure_112 rfl ?_
          refine x_bipush (pc := 114) dX9_measure_114 (v := (6 : Int32)) (by decide) ?_
          refine x_imul (pc := 116) dX9_measure_116 ?_
          refine x_iadd (pc := 117) dX9_measure_117 ?_
          refine x_iload (pc := 118) dX9_measure_118 rfl ?_
          refine x_iadd (pc := 120) dX9_measure_120 ?_
          refine x_leti h (fun v14 h => ?_)
          refine x_istore (ls' := [(7, _), (0, _), (2, _), (3, _), (4, _), (5, _), (6, _)]) (pc := 121) dX9_measure_121 rfl rfl ?_
          refine x_aload_n (pc := 123) dX9_measure_123 rfl ?_
          refine x_getS (pc := 124) dX9_measure_124 fX9_23 rfl hi0 ?_
          refine x_iload (pc := 127) dX9_measure_127 rfl ?_
          refine x_aload_n (pc := 129) dX9_measure_129 rfl ?_
          refine x_getS (pc := 130) dX9_measure_130 fX9_23 rfl hi0 ?_
          refine x_iload (pc := 133) dX9_measure_133 rfl ?_
          obtain ⟨hx15, h⟩ := wo_g h
          refine x_ialdJ (pc := 135) dX9_measure_135 rfl rfl hi0 hx15 ?_
          refine x_iload (pc := 136) dX9_measure_136 rfl ?_
          refine x_aload_n (pc := 138) dX9_measure_138 rfl ?_
          refine x_getS (pc := 139) dX9_measure_139 fX9_23 rfl hi0 ?_
          refine x_iload_n (pc := 142) dX9_measure_142 rfl ?_
          refine x_iload_n (pc := 143) dX9_measure_143 rfl ?_
          refine x_bipush (pc := 144) dX9_measure_144 (v := (6 : Int32)) (by decide) ?_
          refine x_imul (pc := 146) dX9_measure_146 ?_
          refine x_iadd (pc := 147) dX9_measure_147 ?_
          refine x_iload (pc := 148) dX9_measure_148 rfl ?_
          refine x_iadd (pc := 150) dX9_measure_150 ?_
          obtain ⟨hx16, h⟩ := wo_g h
          refine x_ialdJ (pc := 151) dX9_measure_151 rfl rfl hi0 hx16 ?_
          refine x_iadd (pc := 152) dX9_measure_152 ?_
          refine x_mmin (pc := 153) dX9_measure_153 lX9_62 (by omega) rfl ?_
          refine x_leti h (fun v17 h => ?_)
          obtain ⟨hx18, h⟩ := wo_g h
          refine x_iastJ (pc := 156) dX9_measure_156 rfl rfl hi0 rfl hx18 ?_
          refine x_letm h (fun m19 h => ?_)
          refine x_iinc (ls' := [(6, _), (7, _), (0, _), (2, _), (3, _), (4, _), (5, _)]) (pc := 157) dX9_measure_157 rfl (v := l12 + (1 : Int32)) rfl rfl rfl ?_
          refine x_goto (pc := 160) dX9_measure_160 (tgt := 104) (by decide) ?_
          refine x_sub [(0, _), (2, _), (3, _), (4, _), (5, _), (6, _)] ⟨rfl, rfl, rfl, rfl, rfl, rfl, trivial⟩ ?_
          exact hb104 _ (wo_some h)
  refine x_sub [(0, _), (1, _), (2, _), (3, _)] ⟨rfl, rfl, rfl, rfl, trivial⟩ ?_
  obtain ⟨ea, eb, h⟩ := wo_bo h
  refine wo_lq (X := fun s => match s with | (l23, m24) => mi_X mX9_measure (2) 7 [(0, vr 9 i0), (1, vi p0), (2, vi v1), (3, vi l23)] [] m24 QX) (E := fun e => wo (f_X9_measure_K7 i0 v1 e) Q0) ?_ _ ((0 : Int32), mem) ⟨_, eb, h⟩
  intro Q7 hb7 he7 s h
  obtain ⟨l23, m24⟩ := s
  show mi_X mX9_measure (2) 7 [(0, vr 9 i0), (1, vi p0), (2, vi v1), (3, vi l23)] [] m24 QX
  unfold f_X9_measure_B7 at h
  try dsimp only at h
  refine x_iload_n (pc := 7) dX9_measure_7 rfl ?_
  refine x_bipush (pc := 8) dX9_measure_8 (v := (6 : Int32)) (by decide) ?_
  refine x_icmp_ge (pc := 10) dX9_measure_10 (tgt := 67) (by decide) (fun c34 => ?_) (fun c34 => ?_)
  · replace h := wo_pos c34 h
    refine x_sub [(0, _), (2, _)] ⟨rfl, rfl, trivial⟩ ?_
    exact k7_0 _ (he7 _ (wo_some h))
  · replace h := wo_neg c34 h
    refine x_iconst (pc := 13) dX9_measure_13 (v := (0 : Int32)) (by decide) ?_
    refine x_istore (ls' := [(4, _), (0, _), (1, _), (2, _), (3, _)]) (pc := 14) dX9_measure_14 rfl rfl ?_
    have k16_0 : ∀ (m25 : mi_M), wo (f_X9_measure_K16 l23 m25) Q7 → mi_X mX9_measure (2) 61 [(0, vr 9 i0), (1, vi p0), (2, vi v1), (3, vi l23)] [] m25 QX := by
      intro m25 h
      unfold f_X9_measure_K16 at h
      try dsimp only at h
      refine x_iinc (ls' := [(3, _), (0, _), (1, _), (2, _)]) (pc := 61) dX9_measure_61 rfl (v := l23 + (1 : Int32)) rfl rfl rfl ?_
      refine x_goto (pc := 64) dX9_measure_64 (tgt := 7) (by decide) ?_
      refine x_sub [(0, _), (1, _), (2, _), (3, _)] ⟨rfl, rfl, rfl, rfl, trivial⟩ ?_
      exact hb7 _ (wo_some h)
    refine x_sub [(0, _), (1, _), (2, _), (3, _), (4, _)] ⟨rfl, rfl, rfl, rfl, rfl, trivial⟩ ?_
    obtain ⟨ea, eb, h⟩ := wo_bo h
    refine wo_lq (X := fun s => match s with | (l26, m27) => mi_X mX9_measure (2) 16 [(0, vr 9 i0), (1, vi p0), (2, vi v1), (3, vi l23), (4, vi l26)] [] m27 QX) (E := fun e => wo (f_X9_measure_K16 l23 e) Q7) ?_ _ ((0 : Int32), m24) ⟨_, eb, h⟩
    intro Q16 hb16 he16 s h
    obtain ⟨l26, m27⟩ := s
    show mi_X mX9_measure (2) 16 [(0, vr 9 i0), (1, vi p0), (2, vi v1), (3, vi l23), (4, vi l26)] [] m27 QX
    unfold f_X9_measure_B16 at h
    try dsimp only at h
    refine x_iload (pc := 16) dX9_measure_16 rfl ?_
    refine x_bipush (pc := 18) dX9_measure_18 (v := (6 : Int32)) (by decide) ?_
    refine x_icmp_ge (pc := 20) dX9_measure_20 (tgt := 61) (by decide) (fun c33 => ?_) (fun c33 => ?_)
    · replace h := wo_pos c33 h
      refine x_sub [(0, _), (1, _), (2, _), (3, _)] ⟨rfl, rfl, rfl, rfl, trivial⟩ ?_
      exact k16_0 _ (he16 _ (wo_some h))
    · replace h := wo_neg c33 h
      refine x_aload_n (pc := 23) dX9_measure_23 rfl ?_
      refine x_getS (pc := 24) dX9_measure_24 fX9_23 rfl hi0 ?_
      refine x_iload_n (pc := 27) dX9_measure_27 rfl ?_
      refine x_iload_n (pc := 28) dX9_measure_28 rfl ?_
      refine x_bipush (pc := 29) dX9_measure_29 (v := (6 : Int32)) (by decide) ?_
      refine x_imul (pc := 31) dX9_measure_31 ?_
      refine x_iadd (pc := 32) dX9_measure_32 ?_
      refine x_iload (pc := 33) dX9_measure_33 rfl ?_
      refine x_iadd (pc := 35) dX9_measure_35 ?_
      refine x_iload_n (pc := 36) dX9_measure_36 rfl ?_
      refine x_iload (pc := 37) dX9_measure_37 rfl ?_
      have j54 : ∀ (u28 : Int32), wo (f_X9_measure_J54 i0 v1 l23 l26 m27 u28) Q16 → mi_X mX9_measure (2) 54 [(0, vr 9 i0), (1, vi p0), (2, vi v1), (3, vi l23), (4, vi l26)] [vi u28, vi ((v1 + (l23 * (6 : Int32))) + l26), vr 47 i0] m27 QX := by
        intro u28 h
        unfold f_X9_measure_J54 at h
        obtain ⟨hx29, h⟩ := wo_g h
        refine x_iastJ (pc := 54) dX9_measure_54 rfl rfl hi0 rfl hx29 ?_
        refine x_letm h (fun m30 h => ?_)
        refine x_iinc (ls' := [(4, _), (0, _), (1, _), (2, _), (3, _)]) (pc := 55) dX9_measure_55 rfl (v := l26 + (1 : Int32)) rfl rfl rfl ?_
        refine x_goto (pc := 58) dX9_measure_58 (tgt := 16) (by decide) ?_
        refine x_sub [(0, _), (1, _), (2, _), (3, _), (4, _)] ⟨rfl, rfl, rfl, rfl, rfl, trivial⟩ ?_
        exact hb16 _ (wo_some h)
      refine x_icmp_ne (pc := 39) dX9_measure_39 (tgt := 46) (by decide) (fun c32 => ?_) (fun c32 => ?_)
      · replace h := wo_neg c32 h
        refine x_aload_n (pc := 46) dX9_measure_46 rfl ?_
        refine x_iload_n (pc := 47) dX9_measure_47 rfl ?_
        refine x_iload_n (pc := 48) dX9_measure_48 rfl ?_
        refine x_iload (pc := 49) dX9_measure_49 rfl ?_
        refine z_Vi3 (pc := 51) h dX9_measure_51 lX9_42 hi0 (by omega) rfl (fun a e => w_X9_laneCost _ _ _ _ hi0 _ a e) (fun v31 h => ?_)
        refine x_sub [(0, _), (1, _), (2, _), (3, _), (4, _)] ⟨rfl, rfl, rfl, rfl, rfl, trivial⟩ ?_
        exact j54 _ h
      · replace h := wo_pos c32 h
        refine x_iconst (pc := 42) dX9_measure_42 (v := (0 : Int32)) (by decide) ?_
        refine x_goto (pc := 43) dX9_measure_43 (tgt := 54) (by decide) ?_
        refine x_sub [(0, _), (1, _), (2, _), (3, _), (4, _)] ⟨rfl, rfl, rfl, rfl, rfl, trivial⟩ ?_
        exact j54 _ h
noncomputable def f_X9_costOf_J30 (i0 : Nat) (p0 : Int32) (p1 : Int32) (p2 : Int32) (m1 : mi_M) : Option (Int32 × mi_M) := mi_g (vp_in (((p0 * (36 : Int32)) + (p1 * (6 : Int32))) + p2) 2304) (some ((m1.1 47 i0 (((p0 * (36 : Int32)) + (p1 * (6 : Int32))) + p2).toNatClampNeg), m1))
noncomputable def f_X9_costOf (i0 : Nat) (p0 : Int32) (p1 : Int32) (p2 : Int32) (mem : mi_M) : Option (Int32 × mi_M) := if (lg_cmp ((((mem.2.1 9 i0 6)).toUInt64 >>> ((p0).toInt64.toUInt64 &&& Int64.toUInt64 63)).toInt64 &&& (1 : Int64)) (0 : Int64)) = 0 then mi_bo (f_X9_measure i0 p0 mem) fun m3 => mi_let (mi_wL m3 9 i0 6 ((m3.2.1 9 i0 6) ||| ((1 : Int64) <<< ((p0).toInt64 &&& 63)))) fun m4 => f_X9_costOf_J30 i0 p0 p1 p2 m4 else f_X9_costOf_J30 i0 p0 p1 p2 mem
set_option maxRecDepth 100000 in
set_option maxHeartbeats 4000000 in
theorem w_X9_costOf (i0 : Nat) (p0 : Int32) (p1 : Int32) (p2 : Int32) (hi0 : i0 < mi_n 9) (mem : mi_M) (a : Int32 × mi_M) (e : f_X9_costOf i0 p0 p1 p2 mem = some a) : mi_Ci (3) mX9_costOf [vr 9 i0, vi p0, vi p1, vi p2] mem (fun x m' => x = a.1 ∧ m' = a.2) := by
  unfold mi_Ci
  refine mi_C_intro (ls := [(0, vr 9 i0), (1, vi p0), (2, vi p1), (3, vi p2)]) (by decide) rfl rfl ?_
  obtain ⟨Q0, hq0, h⟩ : ∃ Q0 : (Int32 × mi_M) → Prop, (∀ b, Q0 b → b = a) ∧ wo (f_X9_costOf i0 p0 p1 p2 mem) Q0 := ⟨fun b => b = a, fun _ h => h, wo_eq e⟩
  obtain ⟨QX, hQX⟩ : ∃ QX : Option mi_V → mi_M → Prop, QX = (fun r m' => ∃ x, r = some (vi x) ∧ x = a.1 ∧ m' = a.2) := ⟨_, rfl⟩
  rw [← hQX]
  unfold f_X9_costOf at h
  refine x_aload_n (pc := 0) dX9_costOf_0 rfl ?_
  refine x_getL (pc := 1) dX9_costOf_1 fX9_33 rfl hi0 ?_
  refine x_iload_n (pc := 4) dX9_costOf_4 rfl ?_
  refine x_lushr (pc := 5) dX9_costOf_5 rfl ?_
  refine x_lconst (pc := 6) dX9_costOf_6 (v := (1 : Int64)) (by decide) ?_
  refine x_land (pc := 7) dX9_costOf_7 ?_
  refine x_lconst (pc := 8) dX9_costOf_8 (v := (0 : Int64)) (by decide) ?_
  refine x_lcmp (pc := 9) dX9_costOf_9 ?_
  have j30 : ∀ (m1 : mi_M), wo (f_X9_costOf_J30 i0 p0 p1 p2 m1) Q0 → mi_X mX9_costOf (3) 30 [(0, vr 9 i0), (1, vi p0), (2, vi p1), (3, vi p2)] [] m1 QX := by
    intro m1 h
    unfold f_X9_costOf_J30 at h
    refine x_aload_n (pc := 30) dX9_costOf_30 rfl ?_
    refine x_getS (pc := 31) dX9_costOf_31 fX9_23 rfl hi0 ?_
    refine x_iload_n (pc := 34) dX9_costOf_34 rfl ?_
    refine x_bipush (pc := 35) dX9_costOf_35 (v := (36 : Int32)) (by decide) ?_
    refine x_imul (pc := 37) dX9_costOf_37 ?_
    refine x_iload_n (pc := 38) dX9_costOf_38 rfl ?_
    refine x_bipush (pc := 39) dX9_costOf_39 (v := (6 : Int32)) (by decide) ?_
    refine x_imul (pc := 41) dX9_costOf_41 ?_
    refine x_iadd (pc := 42) dX9_costOf_42 ?_
    refine x_iload_n (pc := 43) dX9_costOf_43 rfl ?_
    refine x_iadd (pc := 44) dX9_costOf_44 ?_
    obtain ⟨hx2, h⟩ := wo_g h
    refine x_ialdJ (pc := 45) dX9_costOf_45 rfl rfl hi0 hx2 ?_
    exact x_iret (pc := 46) dX9_costOf_46 rfl (by rw [hQX]; exact ⟨_, rfl, congrArg Prod.fst (hq0 _ (wo_some h)), congrArg Prod.snd (hq0 _ (wo_some h))⟩)
  refine x_if_ne (pc := 10) dX9_costOf_10 (tgt := 30) (by decide) (fun c5 => ?_) (fun c5 => ?_)
  · replace h := wo_neg c5 h
    refine x_sub [(0, _), (1, _), (2, _), (3, _)] ⟨rfl, rfl, rfl, rfl, trivial⟩ ?_
    exact j30 _ h
  · replace h := wo_pos c5 h
    refine x_aload_n (pc := 13) dX9_costOf_13 rfl ?_
    refine x_iload_n (pc := 14) dX9_costOf_14 rfl ?_
    refine y_Vv1 (pc := 15) h dX9_costOf_15 lX9_58 hi0 (by omega) rfl (fun a e => w_X9_measure _ _ hi0 _ a e) (fun m3 h => ?_)
    refine x_aload_n (pc := 18) dX9_costOf_18 rfl ?_
    refine x_dup (pc := 19) dX9_costOf_19 rfl ?_
    refine x_getL (pc := 20) dX9_costOf_20 fX9_33 rfl hi0 ?_
    refine x_lconst (pc := 23) dX9_costOf_23 (v := (1 : Int64)) (by decide) ?_
    refine x_iload_n (pc := 24) dX9_costOf_24 rfl ?_
    refine x_lshl (pc := 25) dX9_costOf_25 rfl ?_
    refine x_lor (pc := 26) dX9_costOf_26 ?_
    refine x_putL (pc := 27) dX9_costOf_27 fX9_33 rfl hi0 rfl rfl ?_
    refine x_letm h (fun m4 h => ?_)
    refine x_sub [(0, _), (1, _), (2, _), (3, _)] ⟨rfl, rfl, rfl, rfl, trivial⟩ ?_
    exact j30 _ h
noncomputable def f_X9_darkOrHarm_J16 (u1 : Int32) : Option (Int32) := some u1
noncomputable def f_X9_darkOrHarm (p0 : Int32) (mem : mi_M) : Option (Int32) := if (1048576 : Int32) ≤ p0 then f_X9_darkOrHarm_J16 (100 : Int32) else f_X9_darkOrHarm_J16 (p0 / (1024 : Int32))
set_option maxRecDepth 100000 in
set_option maxHeartbeats 4000000 in
theorem w_X9_darkOrHarm (p0 : Int32) (mem : mi_M) (a : Int32) (e : f_X9_darkOrHarm p0 mem = some a) : mi_Ci (1) mX9_darkOrHarm [vi p0] mem (fun x m' => x = a ∧ m' = mem) := by
  unfold mi_Ci
  refine mi_C_intro (ls := [(0, vi p0)]) (by decide) rfl rfl ?_
  obtain ⟨Q0, hq0, h⟩ : ∃ Q0 : Int32 → Prop, (∀ b, Q0 b → b = a) ∧ wo (f_X9_darkOrHarm p0 mem) Q0 := ⟨fun b => b = a, fun _ h => h, wo_eq e⟩
  obtain ⟨QX, hQX⟩ : ∃ QX : Option mi_V → mi_M → Prop, QX = (fun r m' => ∃ x, r = some (vi x) ∧ x = a ∧ m' = mem) := ⟨_, rfl⟩
  rw [← hQX]
  unfold f_X9_darkOrHarm at h
  refine x_iload_n (pc := 0) dX9_darkOrHarm_0 rfl ?_
  refine x_ldc (pc := 1) dX9_darkOrHarm_1 kX9_41 ?_
  have j16 : ∀ (u1 : Int32), wo (f_X9_darkOrHarm_J16 u1) Q0 → mi_X mX9_darkOrHarm (1) 16 [] [vi u1] mem QX := by
    intro u1 h
    unfold f_X9_darkOrHarm_J16 at h
    exact x_iret (pc := 16) dX9_darkOrHarm_16 rfl (by rw [hQX]; exact ⟨_, rfl, hq0 _ (wo_some h), rfl⟩)
  refine x_icmp_ge (pc := 3) dX9_darkOrHarm_3 (tgt := 14) (by decide) (fun c2 => ?_) (fun c2 => ?_)
  · replace h := wo_pos c2 h
    refine x_bipush (pc := 14) dX9_darkOrHarm_14 (v := (100 : Int32)) (by decide) ?_
    refine x_sub [] trivial ?_
    exact j16 _ h
  · replace h := wo_neg c2 h
    refine x_iload_n (pc := 6) dX9_darkOrHarm_6 rfl ?_
    refine x_sipush (pc := 7) dX9_darkOrHarm_7 (v := (1024 : Int32)) (by decide) ?_
    refine x_idiv (pc := 10) dX9_darkOrHarm_10 (by decide) ?_
    refine x_goto (pc := 11) dX9_darkOrHarm_11 (tgt := 16) (by decide) ?_
    refine x_sub [] trivial ?_
    exact j16 _ h
noncomputable def f_X9_harmBy_B4 (i0 : Nat) (p0 : Int32) : (Int32 × Int32 × mi_M) → Option ((Int32 × Int32 × mi_M) ⊕ (Int32 × mi_M)) := fun s => match s with | (l3, l4, m5) => if (m5.1 9 i0 1) ≤ l4 then some (.inr (l3, m5)) else mi_g (vp_in l4 4) (mi_g (vp_in l4 4) (mi_b (f_X9_costOf i0 p0 (m5.1 45 i0 l4.toNatClampNeg) (m5.1 46 i0 l4.toNatClampNeg) m5) fun v8 m9 => mi_bo (f_X9_darkOrHarm v8 m9) fun v10 => mi_let (l3 + v10) fun v11 => some (.inl (v11, (l4 + (1 : Int32)), m9))))
noncomputable def f_X9_harmBy_K4 : (Int32 × mi_M) → Option (Int32 × mi_M) := fun e => match e with | (e1, m2) => some (e1, m2)
noncomputable def f_X9_harmBy (i0 : Nat) (p0 : Int32) (mem : mi_M) : Option (Int32 × mi_M) := mi_bo (mi_lp (f_X9_harmBy_B4 i0 p0) mi_fu ((0 : Int32), (0 : Int32), mem)) (f_X9_harmBy_K4)
set_option maxRecDepth 100000 in
set_option maxHeartbeats 4000000 in
theorem w_X9_harmBy (i0 : Nat) (p0 : Int32) (hi0 : i0 < mi_n 9) (mem : mi_M) (a : Int32 × mi_M) (e : f_X9_harmBy i0 p0 mem = some a) : mi_Ci (4) mX9_harmBy [vr 9 i0, vi p0] mem (fun x m' => x = a.1 ∧ m' = a.2) := by
  unfold mi_Ci
  refine mi_C_intro (ls := [(0, vr 9 i0), (1, vi p0)]) (by decide) rfl rfl ?_
  obtain ⟨Q0, hq0, h⟩ : ∃ Q0 : (Int32 × mi_M) → Prop, (∀ b, Q0 b → b = a) ∧ wo (f_X9_harmBy i0 p0 mem) Q0 := ⟨fun b => b = a, fun _ h => h, wo_eq e⟩
  obtain ⟨QX, hQX⟩ : ∃ QX : Option mi_V → mi_M → Prop, QX = (fun r m' => ∃ x, r = some (vi x) ∧ x = a.1 ∧ m' = a.2) := ⟨_, rfl⟩
  rw [← hQX]
  unfold f_X9_harmBy at h
  refine x_iconst (pc := 0) dX9_harmBy_0 (v := (0 : Int32)) (by decide) ?_
  refine x_istore_n (ls' := [(2, _), (0, _), (1, _)]) (pc := 1) dX9_harmBy_1 rfl rfl rfl ?_
  refine x_iconst (pc := 2) dX9_harmBy_2 (v := (0 : Int32)) (by decide) ?_
  refine x_istore_n (ls' := [(3, _), (2, _), (0, _), (1, _)]) (pc := 3) dX9_harmBy_3 rfl rfl rfl ?_
  have k4_0 : ∀ (e1 : Int32) (m2 : mi_M), wo (f_X9_harmBy_K4 (e1, m2)) Q0 → mi_X mX9_harmBy (4) 41 [(2, vi e1)] [] m2 QX := by
    intro e1 m2 h
    unfold f_X9_harmBy_K4 at h
    try dsimp only at h
    refine x_iload_n (pc := 41) dX9_harmBy_41 rfl ?_
    exact x_iret (pc := 42) dX9_harmBy_42 rfl (by rw [hQX]; exact ⟨_, rfl, congrArg Prod.fst (hq0 _ (wo_some h)), congrArg Prod.snd (hq0 _ (wo_some h))⟩)
  refine x_sub [(0, _), (1, _), (2, _), (3, _)] ⟨rfl, rfl, rfl, rfl, trivial⟩ ?_
  obtain ⟨ea, eb, h⟩ := wo_bo h
  refine wo_lq (X := fun s => match s with | (l3, l4, m5) => mi_X mX9_harmBy (4) 4 [(0, vr 9 i0), (1, vi p0), (2, vi l3), (3, vi l4)] [] m5 QX) (E := fun e => wo (f_X9_harmBy_K4 e) Q0) ?_ _ ((0 : Int32), (0 : Int32), mem) ⟨_, eb, h⟩
  intro Q4 hb4 he4 s h
  obtain ⟨l3, l4, m5⟩ := s
  show mi_X mX9_harmBy (4) 4 [(0, vr 9 i0), (1, vi p0), (2, vi l3), (3, vi l4)] [] m5 QX
  unfold f_X9_harmBy_B4 at h
  try dsimp only at h
  refine x_iload_n (pc := 4) dX9_harmBy_4 rfl ?_
  refine x_aload_n (pc := 5) dX9_harmBy_5 rfl ?_
  refine x_getI (pc := 6) dX9_harmBy_6 fX9_30 rfl hi0 ?_
  refine x_icmp_ge (pc := 9) dX9_harmBy_9 (tgt := 41) (by decide) (fun c12 => ?_) (fun c12 => ?_)
  · replace h := wo_pos c12 h
    refine x_sub [(2, _)] ⟨rfl, trivial⟩ ?_
    exact k4_0 _ _ (he4 _ (wo_some h))
  · replace h := wo_neg c12 h
    refine x_iload_n (pc := 12) dX9_harmBy_12 rfl ?_
    refine x_aload_n (pc := 13) dX9_harmBy_13 rfl ?_
    refine x_iload_n (pc := 14) dX9_harmBy_14 rfl ?_
    refine x_aload_n (pc := 15) dX9_harmBy_15 rfl ?_
    refine x_getS (pc := 16) dX9_harmBy_16 fX9_16 rfl hi0 ?_
    refine x_iload_n (pc := 19) dX9_harmBy_19 rfl ?_
    obtain ⟨hx6, h⟩ := wo_g h
    refine x_ialdJ (pc := 20) dX9_harmBy_20 rfl rfl hi0 hx6 ?_
    refine x_aload_n (pc := 21) dX9_harmBy_21 rfl ?_
    refine x_getS (pc := 22) dX9_harmBy_22 fX9_20 rfl hi0 ?_
    refine x_iload_n (pc := 25) dX9_harmBy_25 rfl ?_
    obtain ⟨hx7, h⟩ := wo_g h
    refine x_ialdJ (pc := 26) dX9_harmBy_26 rfl rfl hi0 hx7 ?_
    refine y_Vi3 (pc := 27) h dX9_harmBy_27 lX9_37 hi0 (by omega) rfl (fun a e => w_X9_costOf _ _ _ _ hi0 _ a e) (fun v8 m9 h => ?_)
    refine z_Si1 (pc := 30) h dX9_harmBy_30 lX9_45 (by omega) rfl (fun a e => w_X9_darkOrHarm _ _ a e) (fun v10 h => ?_)
    refine x_iadd (pc := 33) dX9_harmBy_33 ?_
    refine x_leti h (fun v11 h => ?_)
    refine x_istore_n (ls' := [(2, _), (0, _), (1, _), (3, _)]) (pc := 34) dX9_harmBy_34 rfl rfl rfl ?_
    refine x_iinc (ls' := [(3, _), (2, _), (0, _), (1, _)]) (pc := 35) dX9_harmBy_35 rfl (v := l4 + (1 : Int32)) rfl rfl rfl ?_
    refine x_goto (pc := 38) dX9_harmBy_38 (tgt := 4) (by decide) ?_
    refine x_sub [(0, _), (1, _), (2, _), (3, _)] ⟨rfl, rfl, rfl, rfl, trivial⟩ ?_
    exact hb4 _ (wo_some h)
noncomputable def f_X5_sleep_J92 (l9 : Int32) (m12 : mi_M) : Option ((Int32 × mi_M) ⊕ (mi_M)) := some (.inl ((l9 + (1 : Int32)), m12))
noncomputable def f_X5_sleep_B55 (i0 : Nat) (p0 : Nat) : (Int32 × mi_M) → Option ((Int32 × mi_M) ⊕ (mi_M)) := fun s => match s with | (l9, m10) => if (m10.1 8 p0 1) ≤ l9 then some (.inr m10) else mi_bo (f_X5_isForgiven i0 l9 m10) fun v11 => if v11 = 0 then mi_g (vp_in l9 8) (mi_b (f_X8_soreBehindNight p0 l9 (m10.1 34 i0 l9.toNatClampNeg) (m10.1 5 i0 0) m10) fun v14 m15 => mi_g (vp_in l9 8) (mi_let (mi_wI m15 34 i0 l9.toNatClampNeg v14) fun m17 => f_X5_sleep_J92 l9 m17)) else f_X5_sleep_J92 l9 m10
noncomputable def f_X5_sleep_K55 (i0 : Nat) : mi_M → Option (mi_M) := fun m6 => mi_let (mi_wI m6 5 i0 3 (0 : Int32)) fun m7 => mi_let (mi_wI m7 5 i0 0 ((m7.1 5 i0 0) + (1 : Int32))) fun m8 => some m8
noncomputable def f_X5_sleep_B23 (i0 : Nat) : (Int32 × mi_M) → Option ((Int32 × mi_M) ⊕ (mi_M)) := fun s => match s with | (l20, m21) => if (6 : Int32) ≤ l20 then some (.inr m21) else mi_g (vp_in l20 6) (mi_let (if (0 : Int32) < ((m21.1 35 i0 l20.toNatClampNeg) - (1 : Int32)) then ((m21.1 35 i0 l20.toNatClampNeg) - (1 : Int32)) else (0 : Int32)) fun v23 => mi_g (vp_in l20 6) (mi_let (mi_wI m21 35 i0 l20.toNatClampNeg v23) fun m25 => some (.inl ((l20 + (1 : Int32)), m25))))
noncomputable def f_X5_sleep_K23 (i0 : Nat) (p0 : Nat) : mi_M → Option (mi_M) := fun m5 => mi_bo (mi_lp (f_X5_sleep_B55 i0 p0) mi_fu ((0 : Int32), m5)) (f_X5_sleep_K55 i0)
noncomputable def f_X5_sleep (i0 : Nat) (p0 : Nat) (mem : mi_M) : Option (mi_M) := mi_bo (f_X5_burningBehind i0 (0 : Int32) mem) fun v1 => mi_b (f_X9_harmBy p0 v1 mem) fun v2 m3 => mi_let (mi_wI m3 5 i0 1 ((mem.1 5 i0 1) + v2)) fun m4 => mi_bo (mi_lp (f_X5_sleep_B23 i0) mi_fu ((0 : Int32), m4)) (f_X5_sleep_K23 i0 p0)
set_option maxRecDepth 100000 in
set_option maxHeartbeats 4000000 in
theorem w_X5_sleep (i0 : Nat) (p0 : Nat) (hi0 : i0 < mi_n 5) (hp0 : p0 < mi_n 8) (mem : mi_M) (a : mi_M) (e : f_X5_sleep i0 p0 mem = some a) : mi_Cv (5) mX5_sleep [vr 5 i0, vr 8 p0] mem (fun m' => m' = a) := by
  unfold mi_Cv
  refine mi_C_intro (ls := [(0, vr 5 i0), (1, vr 8 p0)]) (by decide) rfl rfl ?_
  obtain ⟨Q0, hq0, h⟩ : ∃ Q0 : mi_M → Prop, (∀ b, Q0 b → b = a) ∧ wo (f_X5_sleep i0 p0 mem) Q0 := ⟨fun b => b = a, fun _ h => h, wo_eq e⟩
  obtain ⟨QX, hQX⟩ : ∃ QX : Option mi_V → mi_M → Prop, QX = (fun r m' => r = none ∧ m' = a) := ⟨_, rfl⟩
  rw [← hQX]
  unfold f_X5_sleep at h
  refine x_aload_n (pc := 0) dX5_sleep_0 rfl ?_
  refine x_dup (pc := 1) dX5_sleep_1 rfl ?_
  refine x_getI (pc := 2) dX5_sleep_2 fX5_25 rfl hi0 ?_
  refine x_aload_n (pc := 5) dX5_sleep_5 rfl ?_
  refine x_getS (pc := 6) dX5_sleep_6 fX5_104 rfl hp0 ?_
  refine x_aload_n (pc := 9) dX5_sleep_9 rfl ?_
  refine x_iconst (pc := 10) dX5_sleep_10 (v := (0 : Int32)) (by decide) ?_
  refine z_Vi1 (pc := 11) h dX5_sleep_11 lX5_108 hi0 (by omega) rfl (fun a e => w_X5_burningBehind _ _ hi0 _ a e) (fun v1 h => ?_)
  refine y_Vi1 (pc := 14) h dX5_sleep_14 lX5_111 hp0 (by omega) rfl (fun a e => w_X9_harmBy _ _ hp0 _ a e) (fun v2 m3 h => ?_)
  refine x_iadd (pc := 17) dX5_sleep_17 ?_
  refine x_putI (pc := 18) dX5_sleep_18 fX5_25 rfl hi0 rfl rfl ?_
  refine x_letm h (fun m4 h => ?_)
  refine x_iconst (pc := 21) dX5_sleep_21 (v := (0 : Int32)) (by decide) ?_
  refine x_istore_n (ls' := [(2, _), (0, _), (1, _)]) (pc := 22) dX5_sleep_22 rfl rfl rfl ?_
  have k23_0 : ∀ (m5 : mi_M), wo (f_X5_sleep_K23 i0 p0 m5) Q0 → mi_X mX5_sleep (5) 53 [(0, vr 5 i0), (1, vr 8 p0)] [] m5 QX := by
    intro m5 h
    unfold f_X5_sleep_K23 at h
    try dsimp only at h
    refine x_iconst (pc := 53) dX5_sleep_53 (v := (0 : Int32)) (by decide) ?_
    refine x_istore_n (ls' := [(2, _), (0, _), (1, _)]) (pc := 54) dX5_sleep_54 rfl rfl rfl ?_
    have k55_0 : ∀ (m6 : mi_M), wo (f_X5_sleep_K55 i0 m6) Q0 → mi_X mX5_sleep (5) 98 [(0, vr 5 i0)] [] m6 QX := by
      intro m6 h
      unfold f_X5_sleep_K55 at h
      try dsimp only at h
      refine x_aload_n (pc := 98) dX5_sleep_98 rfl ?_
      refine x_iconst (pc := 99) dX5_sleep_99 (v := (0 : Int32)) (by decide) ?_
      refine x_putI (pc := 100) dX5_sleep_100 fX5_31 rfl hi0 rfl rfl ?_
      refine x_letm h (fun m7 h => ?_)
      refine x_aload_n (pc := 103) dX5_sleep_103 rfl ?_
      refine x_dup (pc := 104) dX5_sleep_104 rfl ?_
      refine x_getI (pc := 105) dX5_sleep_105 fX5_21 rfl hi0 ?_
      refine x_iconst (pc := 108) dX5_sleep_108 (v := (1 : Int32)) (by decide) ?_
      refine x_iadd (pc := 109) dX5_sleep_109 ?_
      refine x_putI (pc := 110) dX5_sleep_110 fX5_21 rfl hi0 rfl rfl ?_
      refine x_letm h (fun m8 h => ?_)
      exact x_ret (pc := 113) dX5_sleep_113 rfl (by rw [hQX]; exact ⟨rfl, hq0 _ (wo_some h)⟩)
    refine x_sub [(0, _), (1, _), (2, _)] ⟨rfl, rfl, rfl, trivial⟩ ?_
    obtain ⟨ea, eb, h⟩ := wo_bo h
    refine wo_lq (X := fun s => match s with | (l9, m10) => mi_X mX5_sleep (5) 55 [(0, vr 5 i0), (1, vr 8 p0), (2, vi l9)] [] m10 QX) (E := fun e => wo (f_X5_sleep_K55 i0 e) Q0) ?_ _ ((0 : Int32), m5) ⟨_, eb, h⟩
    intro Q55 hb55 he55 s h
    obtain ⟨l9, m10⟩ := s
    show mi_X mX5_sleep (5) 55 [(0, vr 5 i0), (1, vr 8 p0), (2, vi l9)] [] m10 QX
    unfold f_X5_sleep_B55 at h
    try dsimp only at h
    refine x_iload_n (pc := 55) dX5_sleep_55 rfl ?_
    refine x_aload_n (pc := 56) dX5_sleep_56 rfl ?_
    refine x_getI (pc := 57) dX5_sleep_57 fX5_34 rfl hp0 ?_
    refine x_icmp_ge (pc := 60) dX5_sleep_60 (tgt := 98) (by decide) (fun c19 => ?_) (fun c19 => ?_)
    · replace h := wo_pos c19 h
      refine x_sub [(0, _)] ⟨rfl, trivial⟩ ?_
      exact k55_0 _ (he55 _ (wo_some h))
    · replace h := wo_neg c19 h
      refine x_aload_n (pc := 63) dX5_sleep_63 rfl ?_
      refine x_iload_n (pc := 64) dX5_sleep_64 rfl ?_
      refine z_Vi1 (pc := 65) h dX5_sleep_65 lX5_56 hi0 (by omega) rfl (fun a e => w_X5_isForgiven _ _ hi0 _ a e) (fun v11 h => ?_)
      have j92 : ∀ (m12 : mi_M), wo (f_X5_sleep_J92 l9 m12) Q55 → mi_X mX5_sleep (5) 92 [(0, vr 5 i0), (1, vr 8 p0), (2, vi l9)] [] m12 QX := by
        intro m12 h
        unfold f_X5_sleep_J92 at h
        refine x_iinc (ls' := [(2, _), (0, _), (1, _)]) (pc := 92) dX5_sleep_92 rfl (v := l9 + (1 : Int32)) rfl rfl rfl ?_
        refine x_goto (pc := 95) dX5_sleep_95 (tgt := 55) (by decide) ?_
        refine x_sub [(0, _), (1, _), (2, _)] ⟨rfl, rfl, rfl, trivial⟩ ?_
        exact hb55 _ (wo_some h)
      refine x_if_ne (pc := 68) dX5_sleep_68 (tgt := 92) (by decide) (fun c18 => ?_) (fun c18 => ?_)
      · replace h := wo_neg c18 h
        refine x_sub [(0, _), (1, _), (2, _)] ⟨rfl, rfl, rfl, trivial⟩ ?_
        exact j92 _ h
      · replace h := wo_pos c18 h
        refine x_aload_n (pc := 71) dX5_sleep_71 rfl ?_
        refine x_getS (pc := 72) dX5_sleep_72 fX5_9 rfl hi0 ?_
        refine x_iload_n (pc := 75) dX5_sleep_75 rfl ?_
        refine x_aload_n (pc := 76) dX5_sleep_76 rfl ?_
        refine x_iload_n (pc := 77) dX5_sleep_77 rfl ?_
        refine x_aload_n (pc := 78) dX5_sleep_78 rfl ?_
        refine x_getS (pc := 79) dX5_sleep_79 fX5_9 rfl hi0 ?_
        refine x_iload_n (pc := 82) dX5_sleep_82 rfl ?_
        obtain ⟨hx13, h⟩ := wo_g h
        refine x_ialdJ (pc := 83) dX5_sleep_83 rfl rfl hi0 hx13 ?_
        refine x_aload_n (pc := 84) dX5_sleep_84 rfl ?_
        refine x_getI (pc := 85) dX5_sleep_85 fX5_21 rfl hi0 ?_
        refine y_Vi3 (pc := 88) h dX5_sleep_88 lX5_116 hp0 (by omega) rfl (fun a e => w_X8_soreBehindNight _ _ _ _ hp0 _ a e) (fun v14 m15 h => ?_)
        obtain ⟨hx16, h⟩ := wo_g h
        refine x_iastJ (pc := 91) dX5_sleep_91 rfl rfl hi0 rfl hx16 ?_
        refine x_letm h (fun m17 h => ?_)
        refine x_sub [(0, _), (1, _), (2, _)] ⟨rfl, rfl, rfl, trivial⟩ ?_
        exact j92 _ h
  refine x_sub [(0, _), (1, _), (2, _)] ⟨rfl, rfl, rfl, trivial⟩ ?_
  obtain ⟨ea, eb, h⟩ := wo_bo h
  refine wo_lq (X := fun s => match s with | (l20, m21) => mi_X mX5_sleep (5) 23 [(0, vr 5 i0), (1, vr 8 p0), (2, vi l20)] [] m21 QX) (E := fun e => wo (f_X5_sleep_K23 i0 p0 e) Q0) ?_ _ ((0 : Int32), m4) ⟨_, eb, h⟩
  intro Q23 hb23 he23 s h
  obtain ⟨l20, m21⟩ := s
  show mi_X mX5_sleep (5) 23 [(0, vr 5 i0), (1, vr 8 p0), (2, vi l20)] [] m21 QX
  unfold f_X5_sleep_B23 at h
  try dsimp only at h
  refine x_iload_n (pc := 23) dX5_sleep_23 rfl ?_
  refine x_bipush (pc := 24) dX5_sleep_24 (v := (6 : Int32)) (by decide) ?_
  refine x_icmp_ge (pc := 26) dX5_sleep_26 (tgt := 53) (by decide) (fun c26 => ?_) (fun c26 => ?_)
  · replace h := wo_pos c26 h
    refine x_sub [(0, _), (1, _)] ⟨rfl, rfl, trivial⟩ ?_
    exact k23_0 _ (he23 _ (wo_some h))
  · replace h := wo_neg c26 h
    refine x_aload_n (pc := 29) dX5_sleep_29 rfl ?_
    refine x_getS (pc := 30) dX5_sleep_30 fX5_15 rfl hi0 ?_
    refine x_iload_n (pc := 33) dX5_sleep_33 rfl ?_
    refine x_iconst (pc := 34) dX5_sleep_34 (v := (0 : Int32)) (by decide) ?_
    refine x_aload_n (pc := 35) dX5_sleep_35 rfl ?_
    refine x_getS (pc := 36) dX5_sleep_36 fX5_15 rfl hi0 ?_
    refine x_iload_n (pc := 39) dX5_sleep_39 rfl ?_
    obtain ⟨hx22, h⟩ := wo_g h
    refine x_ialdJ (pc := 40) dX5_sleep_40 rfl rfl hi0 hx22 ?_
    refine x_iconst (pc := 41) dX5_sleep_41 (v := (1 : Int32)) (by decide) ?_
    refine x_isub (pc := 42) dX5_sleep_42 ?_
    refine x_mmax (pc := 43) dX5_sleep_43 lX5_77 (by omega) rfl ?_
    refine x_leti h (fun v23 h => ?_)
    obtain ⟨hx24, h⟩ := wo_g h
    refine x_iastJ (pc := 46) dX5_sleep_46 rfl rfl hi0 rfl hx24 ?_
    refine x_letm h (fun m25 h => ?_)
    refine x_iinc (ls' := [(2, _), (0, _), (1, _)]) (pc := 47) dX5_sleep_47 rfl (v := l20 + (1 : Int32)) rfl rfl rfl ?_
    refine x_goto (pc := 50) dX5_sleep_50 (tgt := 23) (by decide) ?_
    refine x_sub [(0, _), (1, _), (2, _)] ⟨rfl, rfl, rfl, trivial⟩ ?_
    exact hb23 _ (wo_some h)
noncomputable def f_X8_soreBehindWords (i0 : Nat) (p0 : Int32) (p1 : Int32) (p2 : Int32) (mem : mi_M) : Option (Int32 × mi_M) := mi_g (vp_in p0 8) (mi_b (f_X1_worth i0 (0 : Int32) (mem.1 43 i0 p0.toNatClampNeg) p1 p2 mem) fun v2 m3 => mi_bo (f_X11_clamp v2 (0 : Int32) (99 : Int32) m3) fun v4 => mi_let (if (0 : Int32) < (p1 - v4) then (p1 - v4) else (0 : Int32)) fun v5 => some (v5, m3))
set_option maxRecDepth 100000 in
set_option maxHeartbeats 4000000 in
theorem w_X8_soreBehindWords (i0 : Nat) (p0 : Int32) (p1 : Int32) (p2 : Int32) (hi0 : i0 < mi_n 8) (mem : mi_M) (a : Int32 × mi_M) (e : f_X8_soreBehindWords i0 p0 p1 p2 mem = some a) : mi_Ci (4) mX8_soreBehindWords [vr 8 i0, vi p0, vi p1, vi p2] mem (fun x m' => x = a.1 ∧ m' = a.2) := by
  unfold mi_Ci
  refine mi_C_intro (ls := [(0, vr 8 i0), (1, vi p0), (2, vi p1), (3, vi p2)]) (by decide) rfl rfl ?_
  obtain ⟨Q0, hq0, h⟩ : ∃ Q0 : (Int32 × mi_M) → Prop, (∀ b, Q0 b → b = a) ∧ wo (f_X8_soreBehindWords i0 p0 p1 p2 mem) Q0 := ⟨fun b => b = a, fun _ h => h, wo_eq e⟩
  obtain ⟨QX, hQX⟩ : ∃ QX : Option mi_V → mi_M → Prop, QX = (fun r m' => ∃ x, r = some (vi x) ∧ x = a.1 ∧ m' = a.2) := ⟨_, rfl⟩
  rw [← hQX]
  unfold f_X8_soreBehindWords at h
  refine x_aload_n (pc := 0) dX8_soreBehindWords_0 rfl ?_
  refine x_getS (pc := 1) dX8_soreBehindWords_1 fX8_34 rfl hi0 ?_
  refine x_iconst (pc := 4) dX8_soreBehindWords_4 (v := (0 : Int32)) (by decide) ?_
  refine x_aload_n (pc := 5) dX8_soreBehindWords_5 rfl ?_
  refine x_getS (pc := 6) dX8_soreBehindWords_6 fX8_28 rfl hi0 ?_
  refine x_iload_n (pc := 9) dX8_soreBehindWords_9 rfl ?_
  obtain ⟨hx1, h⟩ := wo_g h
  refine x_ialdJ (pc := 10) dX8_soreBehindWords_10 rfl rfl hi0 hx1 ?_
  refine x_iload_n (pc := 11) dX8_soreBehindWords_11 rfl ?_
  refine x_iload_n (pc := 12) dX8_soreBehindWords_12 rfl ?_
  refine y_Vi4 (pc := 13) h dX8_soreBehindWords_13 lX8_73 hi0 (by omega) rfl (fun a e => w_X1_worth _ _ _ _ _ hi0 _ a e) (fun v2 m3 h => ?_)
  refine x_iconst (pc := 16) dX8_soreBehindWords_16 (v := (0 : Int32)) (by decide) ?_
  refine x_bipush (pc := 17) dX8_soreBehindWords_17 (v := (99 : Int32)) (by decide) ?_
  refine z_Ni3 (pc := 19) h dX8_soreBehindWords_19 nX8_77 (by omega) rfl (fun a e => w_X11_clamp _ _ _ _ a e) (fun v4 h => ?_)
  refine x_istore (ls' := [(4, _), (0, _), (1, _), (2, _), (3, _)]) (pc := 22) dX8_soreBehindWords_22 rfl rfl ?_
  refine x_iconst (pc := 24) dX8_soreBehindWords_24 (v := (0 : Int32)) (by decide) ?_
  refine x_iload_n (pc := 25) dX8_soreBehindWords_25 rfl ?_
  refine x_iload (pc := 26) dX8_soreBehindWords_26 rfl ?_
  refine x_isub (pc := 28) dX8_soreBehindWords_28 ?_
  refine x_mmax (pc := 29) dX8_soreBehindWords_29 lX8_81 (by omega) rfl ?_
  refine x_leti h (fun v5 h => ?_)
  exact x_iret (pc := 32) dX8_soreBehindWords_32 rfl (by rw [hQX]; exact ⟨_, rfl, congrArg Prod.fst (hq0 _ (wo_some h)), congrArg Prod.snd (hq0 _ (wo_some h))⟩)
noncomputable def f_X5_act_J133 (m1 : mi_M) : Option (mi_M) := some m1
noncomputable def f_X5_act (i0 : Nat) (p0 : Nat) (p1 : Int32) (p2 : Int32) (p3 : Int32) (mem : mi_M) : Option (mi_M) := if p1 = (0 : Int32) then mi_g (vp_in p2 8) (mi_b (f_X8_soreBehindWords p0 p2 (mem.1 34 i0 p2.toNatClampNeg) (mem.1 5 i0 0) mem) fun v4 m5 => mi_g (vp_in p2 8) (mi_let (mi_wI m5 34 i0 p2.toNatClampNeg v4) fun m7 => mi_let (mi_wI m7 5 i0 3 ((m7.1 5 i0 3) ||| ((1 : Int32) <<< (p2 &&& 31)))) fun m8 => f_X5_act_J133 m8)) else if p1 = (1 : Int32) then mi_g (vp_in p2 8) (mi_g (vp_in (mem.1 41 p0 p2.toNatClampNeg) 6) (mi_g (vp_in (mem.1 41 p0 p2.toNatClampNeg) 6) (mi_let (mi_wI mem 36 i0 (mem.1 41 p0 p2.toNatClampNeg).toNatClampNeg ((mem.1 36 i0 (mem.1 41 p0 p2.toNatClampNeg).toNatClampNeg) - p3)) fun m13 => mi_g (vp_in p2 8) (mi_g (vp_in (m13.1 42 p0 p2.toNatClampNeg) 6) (mi_g (vp_in (m13.1 42 p0 p2.toNatClampNeg) 6) (mi_let (mi_wI m13 36 i0 (m13.1 42 p0 p2.toNatClampNeg).toNatClampNeg ((m13.1 36 i0 (m13.1 42 p0 p2.toNatClampNeg).toNatClampNeg) + p3)) fun m17 => mi_g (vp_in p2 8) (mi_let (if (0 : Int32) < ((m17.1 34 i0 p2.toNatClampNeg) - p3) then ((m17.1 34 i0 p2.toNatClampNeg) - p3) else (0 : Int32)) fun v19 => mi_g (vp_in p2 8) (mi_let (mi_wI m17 34 i0 p2.toNatClampNeg v19) fun m21 => f_X5_act_J133 m21)))))))) else if p1 = (2 : Int32) then mi_bo (f_X5_beg i0 p0 p2 (0 : Int32) mem) fun m23 => f_X5_act_J133 m23 else mi_bo (f_X5_sleep i0 p0 mem) fun m24 => f_X5_act_J133 m24
set_option maxRecDepth 100000 in
set_option maxHeartbeats 4000000 in
theorem w_X5_act (i0 : Nat) (p0 : Nat) (p1 : Int32) (p2 : Int32) (p3 : Int32) (hi0 : i0 < mi_n 5) (hp0 : p0 < mi_n 8) (mem : mi_M) (a : mi_M) (e : f_X5_act i0 p0 p1 p2 p3 mem = some a) : mi_Cv (6) mX5_act [vr 5 i0, vr 8 p0, vi p1, vi p2, vi p3] mem (fun m' => m' = a) := by
  unfold mi_Cv
  refine mi_C_intro (ls := [(0, vr 5 i0), (1, vr 8 p0), (2, vi p1), (3, vi p2), (4, vi p3)]) (by decide) rfl rfl ?_
  obtain ⟨Q0, hq0, h⟩ : ∃ Q0 : mi_M → Prop, (∀ b, Q0 b → b = a) ∧ wo (f_X5_act i0 p0 p1 p2 p3 mem) Q0 := ⟨fun b => b = a, fun _ h => h, wo_eq e⟩
  obtain ⟨QX, hQX⟩ : ∃ QX : Option mi_V → mi_M → Prop, QX = (fun r m' => r = none ∧ m' = a) := ⟨_, rfl⟩
  rw [← hQX]
  unfold f_X5_act at h
  refine x_iload_n (pc := 0) dX5_act_0 rfl ?_
  have j133 : ∀ (m1 : mi_M), wo (f_X5_act_J133 m1) Q0 → mi_X mX5_act (6) 133 [] [] m1 QX := by
    intro m1 h
    unfold f_X5_act_J133 at h
    exact x_ret (pc := 133) dX5_act_133 rfl (by rw [hQX]; exact ⟨rfl, hq0 _ (wo_some h)⟩)
  by_cases c2 : p1 = (0 : Int32)
  · replace h := wo_pos c2 h
    refine x_swT (pc := 1) (c := (0 : Int32)) c2 dX5_act_1 (by decide) (by decide) rfl (tgt := 28) (by decide) ?_
    refine x_aload_n (pc := 28) dX5_act_28 rfl ?_
    refine x_getS (pc := 29) dX5_act_29 fX5_9 rfl hi0 ?_
    refine x_iload_n (pc := 32) dX5_act_32 rfl ?_
    refine x_aload_n (pc := 33) dX5_act_33 rfl ?_
    refine x_iload_n (pc := 34) dX5_act_34 rfl ?_
    refine x_aload_n (pc := 35) dX5_act_35 rfl ?_
    refine x_getS (pc := 36) dX5_act_36 fX5_9 rfl hi0 ?_
    refine x_iload_n (pc := 39) dX5_act_39 rfl ?_
    obtain ⟨hx3, h⟩ := wo_g h
    refine x_ialdJ (pc := 40) dX5_act_40 rfl rfl hi0 hx3 ?_
    refine x_aload_n (pc := 41) dX5_act_41 rfl ?_
    refine x_getI (pc := 42) dX5_act_42 fX5_21 rfl hi0 ?_
    refine y_Vi3 (pc := 45) h dX5_act_45 lX5_70 hp0 (by omega) rfl (fun a e => w_X8_soreBehindWords _ _ _ _ hp0 _ a e) (fun v4 m5 h => ?_)
    obtain ⟨hx6, h⟩ := wo_g h
    refine x_iastJ (pc := 48) dX5_act_48 rfl rfl hi0 rfl hx6 ?_
    refine x_letm h (fun m7 h => ?_)
    refine x_aload_n (pc := 49) dX5_act_49 rfl ?_
    refine x_dup (pc := 50) dX5_act_50 rfl ?_
    refine x_getI (pc := 51) dX5_act_51 fX5_31 rfl hi0 ?_
    refine x_iconst (pc := 54) dX5_act_54 (v := (1 : Int32)) (by decide) ?_
    refine x_iload_n (pc := 55) dX5_act_55 rfl ?_
    refine x_ishl (pc := 56) dX5_act_56 ?_
    refine x_ior (pc := 57) dX5_act_57 ?_
    refine x_putI (pc := 58) dX5_act_58 fX5_31 rfl hi0 rfl rfl ?_
    refine x_letm h (fun m8 h => ?_)
    refine x_goto (pc := 61) dX5_act_61 (tgt := 133) (by decide) ?_
    refine x_sub [] trivial ?_
    exact j133 _ h
  · replace h := wo_neg c2 h
    by_cases c9 : p1 = (1 : Int32)
    · replace h := wo_pos c9 h
      refine x_swT (pc := 1) (c := (1 : Int32)) c9 dX5_act_1 (by decide) (by decide) rfl (tgt := 64) (by decide) ?_
      refine x_aload_n (pc := 64) dX5_act_64 rfl ?_
      refine x_getS (pc := 65) dX5_act_65 fX5_18 rfl hi0 ?_
      refine x_aload_n (pc := 68) dX5_act_68 rfl ?_
      refine x_getS (pc := 69) dX5_act_69 fX5_67 rfl hp0 ?_
      refine x_iload_n (pc := 72) dX5_act_72 rfl ?_
      obtain ⟨hx10, h⟩ := wo_g h
      refine x_ialdJ (pc := 73) dX5_act_73 rfl rfl hp0 hx10 ?_
      refine x_dup2 (pc := 74) dX5_act_74 rfl rfl ?_
      obtain ⟨hx11, h⟩ := wo_g h
      refine x_ialdJ (pc := 75) dX5_act_75 rfl rfl hi0 hx11 ?_
      refine x_iload (pc := 76) dX5_act_76 rfl ?_
      refine x_isub (pc := 78) dX5_act_78 ?_
      obtain ⟨hx12, h⟩ := wo_g h
      refine x_iastJ (pc := 79) dX5_act_79 rfl rfl hi0 rfl hx12 ?_
      refine x_letm h (fun m13 h => ?_)
      refine x_aload_n (pc := 80) dX5_act_80 rfl ?_
      refine x_getS (pc := 81) dX5_act_81 fX5_18 rfl hi0 ?_
      refine x_aload_n (pc := 84) dX5_act_84 rfl ?_
      refine x_getS (pc := 85) dX5_act_85 fX5_74 rfl hp0 ?_
      refine x_iload_n (pc := 88) dX5_act_88 rfl ?_
      obtain ⟨hx14, h⟩ := wo_g h
      refine x_ialdJ (pc := 89) dX5_act_89 rfl rfl hp0 hx14 ?_
      refine x_dup2 (pc := 90) dX5_act_90 rfl rfl ?_
      obtain ⟨hx15, h⟩ := wo_g h
      refine x_ialdJ (pc := 91) dX5_act_91 rfl rfl hi0 hx15 ?_
      refine x_iload (pc := 92) dX5_act_92 rfl ?_
      refine x_iadd (pc := 94) dX5_act_94 ?_
      obtain ⟨hx16, h⟩ := wo_g h
      refine x_iastJ (pc := 95) dX5_act_95 rfl rfl hi0 rfl hx16 ?_
      refine x_letm h (fun m17 h => ?_)
      refine x_aload_n (pc := 96) dX5_act_96 rfl ?_
      refine x_getS (pc := 97) dX5_act_97 fX5_9 rfl hi0 ?_
      refine x_iload_n (pc := 100) dX5_act_100 rfl ?_
      refine x_iconst (pc := 101) dX5_act_101 (v := (0 : Int32)) (by decide) ?_
      refine x_aload_n (pc := 102) dX5_act_102 rfl ?_
      refine x_getS (pc := 103) dX5_act_103 fX5_9 rfl hi0 ?_
      refine x_iload_n (pc := 106) dX5_act_106 rfl ?_
      obtain ⟨hx18, h⟩ := wo_g h
      refine x_ialdJ (pc := 107) dX5_act_107 rfl rfl hi0 hx18 ?_
      refine x_iload (pc := 108) dX5_act_108 rfl ?_
      refine x_isub (pc := 110) dX5_act_110 ?_
      refine x_mmax (pc := 111) dX5_act_111 lX5_77 (by omega) rfl ?_
      refine x_leti h (fun v19 h => ?_)
      obtain ⟨hx20, h⟩ := wo_g h
      refine x_iastJ (pc := 114) dX5_act_114 rfl rfl hi0 rfl hx20 ?_
      refine x_letm h (fun m21 h => ?_)
      refine x_goto (pc := 115) dX5_act_115 (tgt := 133) (by decide) ?_
      refine x_sub [] trivial ?_
      exact j133 _ h
    · replace h := wo_neg c9 h
      by_cases c22 : p1 = (2 : Int32)
      · replace h := wo_pos c22 h
        refine x_swT (pc := 1) (c := (2 : Int32)) c22 dX5_act_1 (by decide) (by decide) rfl (tgt := 118) (by decide) ?_
        refine x_aload_n (pc := 118) dX5_act_118 rfl ?_
        refine x_aload_n (pc := 119) dX5_act_119 rfl ?_
        refine x_iload_n (pc := 120) dX5_act_120 rfl ?_
        refine x_iconst (pc := 121) dX5_act_121 (v := (0 : Int32)) (by decide) ?_
        refine y_Vv3 (pc := 122) h dX5_act_122 lX5_83 hi0 (by omega) rfl (fun a e => w_X5_beg _ _ _ _ hi0 hp0 _ a e) (fun m23 h => ?_)
        refine x_goto (pc := 125) dX5_act_125 (tgt := 133) (by decide) ?_
        refine x_sub [] trivial ?_
        exact j133 _ h
      · replace h := wo_neg c22 h
        refine x_tableOut (pc := 1) dX5_act_1 (by have := lv_neT (a := 0) c2 (by decide); have := lv_neT (a := 1) c9 (by decide); have := lv_neT (a := 2) c22 (by decide); omega) (tgt := 128) (by decide) ?_
        refine x_aload_n (pc := 128) dX5_act_128 rfl ?_
        refine x_aload_n (pc := 129) dX5_act_129 rfl ?_
        refine y_Vv1 (pc := 130) h dX5_act_130 lX5_87 hi0 (by omega) rfl (fun a e => w_X5_sleep _ _ hi0 hp0 _ a e) (fun m24 h => ?_)
        refine x_sub [] trivial ?_
        exact j133 _ h
noncomputable def f_X5_isSaid (i0 : Nat) (p0 : Int32) (mem : mi_M) : Option (Int32) := mi_bo (f_X11_holds (mem.1 5 i0 3) p0 mem) fun v1 => mi_g (v1 = 0 ∨ v1 = 1) (some v1)
set_option maxRecDepth 100000 in
set_option maxHeartbeats 4000000 in
theorem w_X5_isSaid (i0 : Nat) (p0 : Int32) (hi0 : i0 < mi_n 5) (mem : mi_M) (a : Int32) (e : f_X5_isSaid i0 p0 mem = some a) : mi_Ci (2) mX5_isSaid [vr 5 i0, vi p0] mem (fun x m' => x = a ∧ m' = mem) := by
  unfold mi_Ci
  refine mi_C_intro (ls := [(0, vr 5 i0), (1, vi p0)]) (by decide) rfl rfl ?_
  obtain ⟨Q0, hq0, h⟩ : ∃ Q0 : Int32 → Prop, (∀ b, Q0 b → b = a) ∧ wo (f_X5_isSaid i0 p0 mem) Q0 := ⟨fun b => b = a, fun _ h => h, wo_eq e⟩
  obtain ⟨QX, hQX⟩ : ∃ QX : Option mi_V → mi_M → Prop, QX = (fun r m' => ∃ x, r = some (vi x) ∧ x = a ∧ m' = mem) := ⟨_, rfl⟩
  rw [← hQX]
  unfold f_X5_isSaid at h
  refine x_aload_n (pc := 0) dX5_isSaid_0 rfl ?_
  refine x_getI (pc := 1) dX5_isSaid_1 fX5_31 rfl hi0 ?_
  refine x_iload_n (pc := 4) dX5_isSaid_4 rfl ?_
  refine z_Ni2 (pc := 5) h dX5_isSaid_5 nX5_52 (by omega) rfl (fun a e => w_X11_holds _ _ _ a e) (fun v1 h => ?_)
  obtain ⟨hb2, h⟩ := wo_g h
  exact x_zretB (pc := 8) dX5_isSaid_8 rfl hb2 (by rw [hQX]; exact ⟨_, rfl, hq0 _ (wo_some h), rfl⟩)
noncomputable def f_X5_may_J49 (u3 : Int32) : Option (Int32) := mi_g (u3 = 0 ∨ u3 = 1) (some u3)
noncomputable def f_X5_may_J48 : Option (Int32) := f_X5_may_J49 (0 : Int32)
noncomputable def f_X5_may_J79 (u10 : Int32) : Option (Int32) := mi_g (u10 = 0 ∨ u10 = 1) (some u10)
noncomputable def f_X5_may_J78 : Option (Int32) := f_X5_may_J79 (0 : Int32)
noncomputable def f_X5_may_J93 (u18 : Int32) : Option (Int32) := mi_g (u18 = 0 ∨ u18 = 1) (some u18)
noncomputable def f_X5_may (i0 : Nat) (p0 : Nat) (p1 : Int32) (p2 : Int32) (p3 : Int32) (mem : mi_M) : Option (Int32) := if p1 = (0 : Int32) then mi_bo (f_X5_isForgiven i0 p2 mem) fun v2 => if v2 = 0 then mi_bo (f_X5_isSaid i0 p2 mem) fun v5 => if v5 = 0 then f_X5_may_J49 (1 : Int32) else f_X5_may_J48 else f_X5_may_J48 else if p1 = (1 : Int32) then mi_bo (f_X5_isForgiven i0 p2 mem) fun v9 => if v9 = 0 then mi_g (vp_in p2 8) (mi_g (vp_in (mem.1 41 p0 p2.toNatClampNeg) 6) (if (mem.1 36 i0 (mem.1 41 p0 p2.toNatClampNeg).toNatClampNeg) < p3 then f_X5_may_J78 else f_X5_may_J79 (1 : Int32))) else f_X5_may_J78 else if p1 = (2 : Int32) then mi_bo (f_X5_isForgiven i0 p2 mem) fun v17 => if v17 = 0 then f_X5_may_J93 (1 : Int32) else f_X5_may_J93 (0 : Int32) else mi_g ((1 : Int32) = 0 ∨ (1 : Int32) = 1) (some (1 : Int32))
set_option maxRecDepth 100000 in
set_option maxHeartbeats 4000000 in
theorem w_X5_may (i0 : Nat) (p0 : Nat) (p1 : Int32) (p2 : Int32) (p3 : Int32) (hi0 : i0 < mi_n 5) (hp0 : p0 < mi_n 8) (mem : mi_M) (a : Int32) (e : f_X5_may i0 p0 p1 p2 p3 mem = some a) : mi_Ci (3) mX5_may [vr 5 i0, vr 8 p0, vi p1, vi p2, vi p3] mem (fun x m' => x = a ∧ m' = mem) := by
  unfold mi_Ci
  refine mi_C_intro (ls := [(0, vr 5 i0), (1, vr 8 p0), (2, vi p1), (3, vi p2), (4, vi p3)]) (by decide) rfl rfl ?_
  obtain ⟨Q0, hq0, h⟩ : ∃ Q0 : Int32 → Prop, (∀ b, Q0 b → b = a) ∧ wo (f_X5_may i0 p0 p1 p2 p3 mem) Q0 := ⟨fun b => b = a, fun _ h => h, wo_eq e⟩
  obtain ⟨QX, hQX⟩ : ∃ QX : Option mi_V → mi_M → Prop, QX = (fun r m' => ∃ x, r = some (vi x) ∧ x = a ∧ m' = mem) := ⟨_, rfl⟩
  rw [← hQX]
  unfold f_X5_may at h
  refine x_iload_n (pc := 0) dX5_may_0 rfl ?_
  by_cases c1 : p1 = (0 : Int32)
  · replace h := wo_pos c1 h
    refine x_swT (pc := 1) (c := (0 : Int32)) c1 dX5_may_1 (by decide) (by decide) rfl (tgt := 28) (by decide) ?_
    refine x_aload_n (pc := 28) dX5_may_28 rfl ?_
    refine x_iload_n (pc := 29) dX5_may_29 rfl ?_
    refine z_Vi1 (pc := 30) h dX5_may_30 lX5_56 hi0 (by omega) rfl (fun a e => w_X5_isForgiven _ _ hi0 _ a e) (fun v2 h => ?_)
    have j49 : ∀ (u3 : Int32), wo (f_X5_may_J49 u3) Q0 → mi_X mX5_may (3) 49 [] [vi u3] mem QX := by
      intro u3 h
      unfold f_X5_may_J49 at h
      obtain ⟨hb4, h⟩ := wo_g h
      exact x_zretB (pc := 49) dX5_may_49 rfl hb4 (by rw [hQX]; exact ⟨_, rfl, hq0 _ (wo_some h), rfl⟩)
    have j48 : wo (f_X5_may_J48) Q0 → mi_X mX5_may (3) 48 [] [] mem QX := by
      intro h
      unfold f_X5_may_J48 at h
      refine x_iconst (pc := 48) dX5_may_48 (v := (0 : Int32)) (by decide) ?_
      refine x_sub [] trivial ?_
      exact j49 _ h
    refine x_if_ne (pc := 33) dX5_may_33 (tgt := 48) (by decide) (fun c7 => ?_) (fun c7 => ?_)
    · replace h := wo_neg c7 h
      refine x_sub [] trivial ?_
      exact j48 h
    · replace h := wo_pos c7 h
      refine x_aload_n (pc := 36) dX5_may_36 rfl ?_
      refine x_iload_n (pc := 37) dX5_may_37 rfl ?_
      refine z_Vi1 (pc := 38) h dX5_may_38 lX5_64 hi0 (by omega) rfl (fun a e => w_X5_isSaid _ _ hi0 _ a e) (fun v5 h => ?_)
      refine x_if_ne (pc := 41) dX5_may_41 (tgt := 48) (by decide) (fun c6 => ?_) (fun c6 => ?_)
      · replace h := wo_neg c6 h
        refine x_sub [] trivial ?_
        exact j48 h
      · replace h := wo_pos c6 h
        refine x_iconst (pc := 44) dX5_may_44 (v := (1 : Int32)) (by decide) ?_
        refine x_goto (pc := 45) dX5_may_45 (tgt := 49) (by decide) ?_
        refine x_sub [] trivial ?_
        exact j49 _ h
  · replace h := wo_neg c1 h
    by_cases c8 : p1 = (1 : Int32)
    · replace h := wo_pos c8 h
      refine x_swT (pc := 1) (c := (1 : Int32)) c8 dX5_may_1 (by decide) (by decide) rfl (tgt := 50) (by decide) ?_
      refine x_aload_n (pc := 50) dX5_may_50 rfl ?_
      refine x_iload_n (pc := 51) dX5_may_51 rfl ?_
      refine z_Vi1 (pc := 52) h dX5_may_52 lX5_56 hi0 (by omega) rfl (fun a e => w_X5_isForgiven _ _ hi0 _ a e) (fun v9 h => ?_)
      have j79 : ∀ (u10 : Int32), wo (f_X5_may_J79 u10) Q0 → mi_X mX5_may (3) 79 [] [vi u10] mem QX := by
        intro u10 h
        unfold f_X5_may_J79 at h
        obtain ⟨hb11, h⟩ := wo_g h
        exact x_zretB (pc := 79) dX5_may_79 rfl hb11 (by rw [hQX]; exact ⟨_, rfl, hq0 _ (wo_some h), rfl⟩)
      have j78 : wo (f_X5_may_J78) Q0 → mi_X mX5_may (3) 78 [] [] mem QX := by
        intro h
        unfold f_X5_may_J78 at h
        refine x_iconst (pc := 78) dX5_may_78 (v := (0 : Int32)) (by decide) ?_
        refine x_sub [] trivial ?_
        exact j79 _ h
      refine x_if_ne (pc := 55) dX5_may_55 (tgt := 78) (by decide) (fun c15 => ?_) (fun c15 => ?_)
      · replace h := wo_neg c15 h
        refine x_sub [] trivial ?_
        exact j78 h
      · replace h := wo_pos c15 h
        refine x_aload_n (pc := 58) dX5_may_58 rfl ?_
        refine x_getS (pc := 59) dX5_may_59 fX5_18 rfl hi0 ?_
        refine x_aload_n (pc := 62) dX5_may_62 rfl ?_
        refine x_getS (pc := 63) dX5_may_63 fX5_67 rfl hp0 ?_
        refine x_iload_n (pc := 66) dX5_may_66 rfl ?_
        obtain ⟨hx12, h⟩ := wo_g h
        refine x_ialdJ (pc := 67) dX5_may_67 rfl rfl hp0 hx12 ?_
        obtain ⟨hx13, h⟩ := wo_g h
        refine x_ialdJ (pc := 68) dX5_may_68 rfl rfl hi0 hx13 ?_
        refine x_iload (pc := 69) dX5_may_69 rfl ?_
        refine x_icmp_lt (pc := 71) dX5_may_71 (tgt := 78) (by decide) (fun c14 => ?_) (fun c14 => ?_)
        · replace h := wo_pos c14 h
          refine x_sub [] trivial ?_
          exact j78 h
        · replace h := wo_neg c14 h
          refine x_iconst (pc := 74) dX5_may_74 (v := (1 : Int32)) (by decide) ?_
          refine x_goto (pc := 75) dX5_may_75 (tgt := 79) (by decide) ?_
          refine x_sub [] trivial ?_
          exact j79 _ h
    · replace h := wo_neg c8 h
      by_cases c16 : p1 = (2 : Int32)
      · replace h := wo_pos c16 h
        refine x_swT (pc := 1) (c := (2 : Int32)) c16 dX5_may_1 (by decide) (by decide) rfl (tgt := 80) (by decide) ?_
        refine x_aload_n (pc := 80) dX5_may_80 rfl ?_
        refine x_iload_n (pc := 81) dX5_may_81 rfl ?_
        refine z_Vi1 (pc := 82) h dX5_may_82 lX5_56 hi0 (by omega) rfl (fun a e => w_X5_isForgiven _ _ hi0 _ a e) (fun v17 h => ?_)
        have j93 : ∀ (u18 : Int32), wo (f_X5_may_J93 u18) Q0 → mi_X mX5_may (3) 93 [] [vi u18] mem QX := by
          intro u18 h
          unfold f_X5_may_J93 at h
          obtain ⟨hb19, h⟩ := wo_g h
          exact x_zretB (pc := 93) dX5_may_93 rfl hb19 (by rw [hQX]; exact ⟨_, rfl, hq0 _ (wo_some h), rfl⟩)
        refine x_if_ne (pc := 85) dX5_may_85 (tgt := 92) (by decide) (fun c20 => ?_) (fun c20 => ?_)
        · replace h := wo_neg c20 h
          refine x_iconst (pc := 92) dX5_may_92 (v := (0 : Int32)) (by decide) ?_
          refine x_sub [] trivial ?_
          exact j93 _ h
        · replace h := wo_pos c20 h
          refine x_iconst (pc := 88) dX5_may_88 (v := (1 : Int32)) (by decide) ?_
          refine x_goto (pc := 89) dX5_may_89 (tgt := 93) (by decide) ?_
          refine x_sub [] trivial ?_
          exact j93 _ h
      · replace h := wo_neg c16 h
        refine x_tableOut (pc := 1) dX5_may_1 (by have := lv_neT (a := 0) c1 (by decide); have := lv_neT (a := 1) c8 (by decide); have := lv_neT (a := 2) c16 (by decide); omega) (tgt := 94) (by decide) ?_
        refine x_iconst (pc := 94) dX5_may_94 (v := (1 : Int32)) (by decide) ?_
        obtain ⟨hb21, h⟩ := wo_g h
        exact x_zretB (pc := 95) dX5_may_95 rfl hb21 (by rw [hQX]; exact ⟨_, rfl, hq0 _ (wo_some h), rfl⟩)
noncomputable def f_X11_doByHand (p0 : Int32) (p1 : Int32) (p2 : Int32) (mem : mi_M) : Option (Int32 × mi_M) := mi_g (mem.2.2 0 < mi_n 8) (mi_bo (f_X5_may 0 (mem.2.2 0) p0 p1 p2 mem) fun v2 => if v2 = 0 then mi_g ((0 : Int32) = 0 ∨ (0 : Int32) = 1) (some ((0 : Int32), mem)) else mi_bo (f_X3_keep 0 mem) fun m3 => mi_g (m3.2.2 0 < mi_n 8) (mi_bo (f_X5_act 0 (m3.2.2 0) p0 p1 p2 m3) fun m5 => mi_g ((1 : Int32) = 0 ∨ (1 : Int32) = 1) (some ((1 : Int32), m5))))
set_option maxRecDepth 100000 in
set_option maxHeartbeats 4000000 in
theorem w_X11_doByHand (p0 : Int32) (p1 : Int32) (p2 : Int32) (mem : mi_M) (a : Int32 × mi_M) (e : f_X11_doByHand p0 p1 p2 mem = some a) : mi_Ci (7) mX11_doByHand [vr 11 0, vi p0, vi p1, vi p2] mem (fun x m' => x = a.1 ∧ m' = a.2) := by
  unfold mi_Ci
  refine mi_C_intro (ls := [(0, vr 11 0), (1, vi p0), (2, vi p1), (3, vi p2)]) (by decide) rfl rfl ?_
  obtain ⟨Q0, hq0, h⟩ : ∃ Q0 : (Int32 × mi_M) → Prop, (∀ b, Q0 b → b = a) ∧ wo (f_X11_doByHand p0 p1 p2 mem) Q0 := ⟨fun b => b = a, fun _ h => h, wo_eq e⟩
  obtain ⟨QX, hQX⟩ : ∃ QX : Option mi_V → mi_M → Prop, QX = (fun r m' => ∃ x, r = some (vi x) ∧ x = a.1 ∧ m' = a.2) := ⟨_, rfl⟩
  rw [← hQX]
  unfold f_X11_doByHand at h
  refine x_aload_n (pc := 0) dX11_doByHand_0 rfl ?_
  refine x_getC (pc := 1) dX11_doByHand_1 fX11_19 rfl (by decide) ?_
  refine x_aload_n (pc := 4) dX11_doByHand_4 rfl ?_
  obtain ⟨hm1, h⟩ := wo_g h
  refine x_getM (pc := 5) dX11_doByHand_5 fX11_54 rfl (by decide) ?_
  refine x_iload_n (pc := 8) dX11_doByHand_8 rfl ?_
  refine x_iload_n (pc := 9) dX11_doByHand_9 rfl ?_
  refine x_iload_n (pc := 10) dX11_doByHand_10 rfl ?_
  refine z_Vi4 (pc := 11) h dX11_doByHand_11 lX11_194 (by decide) (by omega) rfl (fun a e => w_X5_may _ _ _ _ _ (by decide) hm1 _ a e) (fun v2 h => ?_)
  refine x_if_ne (pc := 14) dX11_doByHand_14 (tgt := 19) (by decide) (fun c8 => ?_) (fun c8 => ?_)
  · replace h := wo_neg c8 h
    refine x_aload_n (pc := 19) dX11_doByHand_19 rfl ?_
    refine x_getC (pc := 20) dX11_doByHand_20 fX11_26 rfl (by decide) ?_
    refine x_aload_n (pc := 23) dX11_doByHand_23 rfl ?_
    refine x_getC (pc := 24) dX11_doByHand_24 fX11_19 rfl (by decide) ?_
    refine y_Vv1 (pc := 27) h dX11_doByHand_27 lX11_187 (by decide) (by omega) rfl (fun a e => w_X3_keep _ (by decide) _ a e) (fun m3 h => ?_)
    refine x_aload_n (pc := 30) dX11_doByHand_30 rfl ?_
    refine x_getC (pc := 31) dX11_doByHand_31 fX11_19 rfl (by decide) ?_
    refine x_aload_n (pc := 34) dX11_doByHand_34 rfl ?_
    obtain ⟨hm4, h⟩ := wo_g h
    refine x_getM (pc := 35) dX11_doByHand_35 fX11_54 rfl (by decide) ?_
    refine x_iload_n (pc := 38) dX11_doByHand_38 rfl ?_
    refine x_iload_n (pc := 39) dX11_doByHand_39 rfl ?_
    refine x_iload_n (pc := 40) dX11_doByHand_40 rfl ?_
    refine y_Vv4 (pc := 41) h dX11_doByHand_41 lX11_198 (by decide) (by omega) rfl (fun a e => w_X5_act _ _ _ _ _ (by decide) hm4 _ a e) (fun m5 h => ?_)
    refine x_iconst (pc := 44) dX11_doByHand_44 (v := (1 : Int32)) (by decide) ?_
    obtain ⟨hb6, h⟩ := wo_g h
    exact x_zretB (pc := 45) dX11_doByHand_45 rfl hb6 (by rw [hQX]; exact ⟨_, rfl, congrArg Prod.fst (hq0 _ (wo_some h)), congrArg Prod.snd (hq0 _ (wo_some h))⟩)
  · replace h := wo_pos c8 h
    refine x_iconst (pc := 17) dX11_doByHand_17 (v := (0 : Int32)) (by decide) ?_
    obtain ⟨hb7, h⟩ := wo_g h
    exact x_zretB (pc := 18) dX11_doByHand_18 rfl hb7 (by rw [hQX]; exact ⟨_, rfl, congrArg Prod.fst (hq0 _ (wo_some h)), congrArg Prod.snd (hq0 _ (wo_some h))⟩)
